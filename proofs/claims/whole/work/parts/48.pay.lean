section PAY
variable {g : GG} {d : Nat} {S : ShT} {D : DaT} {U B : Nat} {T : List Nat} {K : KT} {s e : Nat}
theorem pE_some {o : Option Nat} {n : Nat} (h : ∀ q, o = some q → q < n) (hn : n < 2 ^ 31) : pE o = -1 ↔ o = none := pE_neg (fun q hq => by have := h q hq; omega)
theorem c_tellPay (hZ : TxL S (U + 1)) (hU : TlL S U) (hL : BkL S B) (hd : U + 7 ≤ B) (hW : WfK K) (hK : WrK K) (hR : TkR D (U + 1) T) (hC : RepC D B K) (hs : d_fi D 227 U = nI s) (he : d_fi D 226 U = 0) (h1 : kdA T (s + 1) = 11) (h3 : kdA T (s + 3) = 11) (h4 : kdA T (s + 4) = 12) (h5 : kdA T (s + 5) = 11) (h7 : kdA T (s + 7) = 12) (h8 : kdA T (s + 8) = 8 ∧ kdA T (s + 9) = 12 ∨ kdA T (s + 8) = 13) : EvM g (d + 3) mX7_tellPay 0 0 [.ref U, .ref B] (md S D) (TlP S D U B T s (tellY T K s)) := by
  have hu := hU
  unfold TlL at hu
  have hb := hL.1
  have hc := hC.1
  obtain ⟨w1, w2, w3, -⟩ := id hW
  obtain ⟨l1, k1⟩ := kdA_lo h1 (by decide)
  obtain ⟨l3, k3⟩ := kdA_lo h3 (by decide)
  obtain ⟨l4, k4⟩ := kdA_lo h4 (by decide)
  obtain ⟨l5, k5⟩ := kdA_lo h5 (by decide)
  obtain ⟨l7, k7⟩ := kdA_lo h7 (by decide)
  have hN := tN_le T
  have q1 := wd_ok h1 (by decide)
  have q3 := wd_ok h3 (by decide)
  have q5 := wd_ok h5 (by decide)
  have n4 := nm_le h4
  have n7 := nm_le h7
  have e1 : nI s + 1 = nI (s + 1) := nI_add s 1
  have e3 : nI s + 3 = nI (s + 3) := nI_add s 3
  have e4 : nI s + 4 = nI (s + 4) := nI_add s 4
  have e5 : nI s + 5 = nI (s + 5) := nI_add s 5
  have e7 : nI s + 7 = nI (s + 7) := nI_add s 7
  have e8 : nI s + 8 = nI (s + 8) := nI_add s 8
  have e9 : nI s + 9 = nI (s + 9) := nI_add s 9
  have hv1 : d_al D (U + 1 + 5) (s + 1) = asc (wd T (s + 1)) := (hR.2 (s + 1) (by omega)).2.2.1 (by rw [show (tk T (s + 1)).1 = kd T (s + 1) from rfl, k1]; decide)
  have hv3 : d_al D (U + 1 + 5) (s + 3) = asc (wd T (s + 3)) := (hR.2 (s + 3) (by omega)).2.2.1 (by rw [show (tk T (s + 3)).1 = kd T (s + 3) from rfl, k3]; decide)
  have hv5 : d_al D (U + 1 + 5) (s + 5) = asc (wd T (s + 5)) := (hR.2 (s + 5) (by omega)).2.2.1 (by rw [show (tk T (s + 5)).1 = kd T (s + 5) from rfl, k5]; decide)
  have pa' := fun q (h : pIx K (wd T (s + 1)) = some q) => pIx_lt h
  have pb' := fun q (h : pIx K (wd T (s + 3)) = some q) => pIx_lt h
  have pm' := fun q (h : mIx K (wd T (s + 5)) = some q) => mIx_lt h
  have tail : ∀ (x : Int32) (hp : Int32), (hp = 1 ∧ kdA T (s + 8) = 8 ∧ x = nI (nmV T (s + 9)) ∧ s + 9 < tN T ∧ nmV T (s + 9) < 2 ^ 31 ∨ hp = 0 ∧ ¬ kdA T (s + 8) = 8 ∧ x = -1) → Eg g (d + 3) mX7_tellPay 0 0 (Zr g (TlP S D U B T s (tellY T K s))) 139 [(0, .ref U), (1, .ref B), (2, .int (pE (pIx K (wd T (s + 1))))), (3, .int (pE (pIx K (wd T (s + 3))))), (4, .int (nI (nmV T (s + 4)))), (5, .int (pE (mIx K (wd T (s + 5))))), (6, .int (nI (nmV T (s + 7)))), (7, .int hp), (8, .int x)] [.int (-1), .int (pE (pIx K (wd T (s + 1))))] (md S D) := fun x hp hx => by
    unfold tellY
    refine X_icmp_ne rfl (fun c1 => ?_) (fun c1 => ?_)
    · cases ha : pIx K (wd T (s + 1)) with
      | none => rw [ha] at c1; exact absurd rfl c1
      | some a =>
        have la := pa' a ha
        refine X_run rfl ?_ ?_
        · simp [md_s, md_w, rget, r_a, r_b, r_c, r_i, r_l, hb, hc]
        try simp only [md_s, md_w, rget_some, r_a, r_b, r_c, r_i, r_l, r_nx, r_pc, Nat.reduceEqDiff, false_and, if_false, hb, hc]
        refine X_icmp_lt rfl (fun c2 => ?_) (fun c2 => ?_)
        · have c2 : k_ny K < 60 := (nI_ltI (b := 60) (by omega) (by omega)).mp c2
          rw [if_neg (by omega)]
          refine X_run rfl trivial ?_
          refine X_icmp_ne rfl (fun c3 => ?_) (fun c3 => ?_)
          · cases hb' : pIx K (wd T (s + 3)) with
            | none => rw [hb'] at c3; exact absurd rfl c3
            | some b =>
              have lb := pb' b hb'
              unfold tellY2
              simp only [pE]
              refine X_run rfl trivial ?_
              refine X_icmp_ne rfl (fun c4 => ?_) (fun c4 => ?_)
              · have c4 : ¬ b = a := fun z => c4 (by rw [z])
                rw [if_neg c4]
                refine X_run rfl trivial ?_
                refine X_cS (args := [.int (nI (nmV T (s + 4))), .int 1, .int 100000]) rfl (by decide) rfl rfl (Nat.le_of_ble_eq_true rfl) c_isFrom ?_
                rintro _ _ ⟨rfl, rfl⟩
                have hr := inR_nI (v := nmV T (s + 4)) (lo := 1) (hi := 100000) (by omega) (by omega) (by omega)
                rw [if_b2i, show decide (1 ≤ nI (nmV T (s + 4)) ∧ nI (nmV T (s + 4)) ≤ 100000) = inR (nI (nmV T (s + 4))) (nI 1) (nI 100000) from rfl]
                refine X_if_ne rfl (fun c5 => ?_) (fun c5 => ?_)
                · have c5 := hr.mp (b2i_nz c5)
                  rw [if_neg (fun z => z c5)]
                  refine X_run rfl trivial ?_
                  refine X_icmp_ne rfl (fun c6 => ?_) (fun c6 => ?_)
                  · cases hm' : mIx K (wd T (s + 5)) with
                    | none => rw [hm'] at c6; exact absurd rfl c6
                    | some m =>
                      have lm := pm' m hm'
                      simp only [pE]
                      unfold tellY3
                      refine X_run rfl ?_ ?_
                      · simp [md_s, md_w, rget, r_a, r_b, r_c, r_i, r_l, hb, hc]
                      try simp only [md_s, md_w, rget_some, r_a, r_b, r_c, r_i, r_l, r_nx, r_pc, Nat.reduceEqDiff, false_and, if_false, hb, hc]
                      refine X_cS (args := [.int (nI (nmV T (s + 7))), .int (k_day K), .int (k_day K + 30)]) rfl (by decide) rfl rfl (Nat.le_of_ble_eq_true rfl) c_isFrom ?_
                      rintro _ _ ⟨rfl, rfl⟩
                      rw [if_b2i, show decide (k_day K ≤ nI (nmV T (s + 7)) ∧ nI (nmV T (s + 7)) ≤ k_day K + 30) = inR (nI (nmV T (s + 7))) (k_day K) (k_day K + 30) from rfl]
                      refine X_if_ne rfl (fun c7 => ?_) (fun c7 => ?_)
                      · have c7 := b2i_nz c7
                        rw [if_neg (fun z => z c7)]
                        refine X_run rfl trivial ?_
                        rcases hx with ⟨rfl, g1, rfl, g2, g3⟩ | ⟨rfl, g1, rfl⟩
                        · rw [if_pos g1]
                          refine X_if_eq rfl (fun c8 => absurd c8 (by decide)) (fun c8 => ?_)
                          refine X_run rfl trivial ?_
                          refine X_cV (args := [.int (nI (nmV T (s + 9)))]) rfl (by decide) hb.1 rfl rfl (Nat.le_of_ble_eq_true rfl) (c_canP hL hW hC g3) ?_
                          rintro _ _ ⟨rfl, rfl⟩
                          refine X_if_ne rfl (fun c9 => ?_) (fun c9 => ?_)
                          · have c9 := b2i_nz c9
                            rw [if_pos c9]
                            rw [Bool.and_eq_true] at c9
                            have c10 := c9.1
                            unfold wtg at c10
                            rw [Bool.and_eq_true, decide_eq_true_iff, decide_eq_true_iff] at c10
                            refine X_run rfl trivial ?_
                            refine X_cV (args := [.int (nI a), .int (nI b), .int (nI (nmV T (s + 4))), .int (nI m), .int (nI (nmV T (s + 7)))]) rfl (by decide) hb.1 rfl rfl (Nat.le_of_ble_eq_true rfl) (c_addPayment hL hW hC c2) ?_
                            rintro _ _ ⟨D1, rfl, rfl, hC1, hO1⟩
                            have hWy := wf_addY (a := nI (nmV T (s + 4))) (du := nI (nmV T (s + 7))) hW c2 la lb lm
                            refine X_run rfl trivial ?_
                            refine X_cV (args := [.int (nI (nmV T (s + 9)))]) rfl (by decide) hb.1 rfl rfl (Nat.le_of_ble_eq_true rfl) (c_linkLast hL hWy hC1 (Nat.lt_succ_of_lt c10.1) ((u1_no (by omega)).trans c10.2)) ?_
                            rintro _ _ ⟨D2, rfl, rfl, hC2, hO2⟩
                            exact G_end rfl rfl rfl hR hs he hC2 (hO1.tr hO2) hd
                          · rw [if_neg (nb2i c9)]
                            refine X_run rfl ?_ ?_
                            · simp [md_s, md_w, rget, r_a, r_b, r_c, r_i, r_l, hu, hs, e9]
                            try simp only [md_s, md_w, rget_some, r_a, r_b, r_c, r_i, r_l, r_nx, r_pc, Nat.reduceEqDiff, false_and, if_false, hu, hs, e9]
                            refine G_ref (B := B) (e := 5) (t := s + 9) rfl hZ hU hR hs (by omega) (fun D1 h => ?_)
                            refine X_run rfl trivial ?_
                            exact X_vret rfl rfl h
                        · rw [if_neg g1]
                          refine X_if_eq rfl (fun c8 => ?_) (fun c8 => absurd rfl c8)
                          refine X_run rfl trivial ?_
                          refine X_cV (args := [.int (nI a), .int (nI b), .int (nI (nmV T (s + 4))), .int (nI m), .int (nI (nmV T (s + 7)))]) rfl (by decide) hb.1 rfl rfl (Nat.le_of_ble_eq_true rfl) (c_addPayment hL hW hC c2) ?_
                          rintro _ _ ⟨D1, rfl, rfl, hC1, hO1⟩
                          have hWy := wf_addY (a := nI (nmV T (s + 4))) (du := nI (nmV T (s + 7))) hW c2 la lb lm
                          refine X_run rfl trivial ?_
                          refine X_cV (args := [.int (-1)]) rfl (by decide) hb.1 rfl rfl (Nat.le_of_ble_eq_true rfl) (c_linkNo hL hWy hC1 (fun z => by
                            obtain ⟨n, z1, z2⟩ := z
                            have z1 : n < k_ny K + 1 := z1
                            have z3 : (-1 : Int32).toInt = (nI n).toInt := by rw [z2]
                            rw [nI_toInt (by omega)] at z3
                            have z4 : (-1 : Int32).toInt = -1 := rfl
                            omega)) ?_
                          rintro _ _ ⟨rfl, rfl⟩
                          exact G_end rfl rfl rfl hR hs he hC1 hO1 hd
                      · rw [if_pos (nb2i c7)]
                        refine X_run rfl ?_ ?_
                        · simp [md_s, md_w, rget, r_a, r_b, r_c, r_i, r_l, hu, hs, e7]
                        try simp only [md_s, md_w, rget_some, r_a, r_b, r_c, r_i, r_l, r_nx, r_pc, Nat.reduceEqDiff, false_and, if_false, hu, hs, e7]
                        refine G_ref (B := B) (e := 5) (t := s + 7) rfl hZ hU hR hs (by omega) (fun D1 h => ?_)
                        refine X_run rfl trivial ?_
                        exact X_vret rfl rfl h
                  · rw [(pE_some pm' (by omega)).mp c6]
                    refine X_run rfl ?_ ?_
                    · simp [md_s, md_w, rget, r_a, r_b, r_c, r_i, r_l, hu, hs, e5]
                    try simp only [md_s, md_w, rget_some, r_a, r_b, r_c, r_i, r_l, r_nx, r_pc, Nat.reduceEqDiff, false_and, if_false, hu, hs, e5]
                    refine G_ref (B := B) (e := 3) (t := s + 5) rfl hZ hU hR hs (by omega) (fun D1 h => ?_)
                    refine X_run rfl trivial ?_
                    exact X_vret rfl rfl h
                · rw [if_pos (fun z => nb2i c5 (hr.mpr z))]
                  refine X_run rfl ?_ ?_
                  · simp [md_s, md_w, rget, r_a, r_b, r_c, r_i, r_l, hu, hs, e4]
                  try simp only [md_s, md_w, rget_some, r_a, r_b, r_c, r_i, r_l, r_nx, r_pc, Nat.reduceEqDiff, false_and, if_false, hu, hs, e4]
                  refine G_ref (B := B) (e := 5) (t := s + 4) rfl hZ hU hR hs (by omega) (fun D1 h => ?_)
                  refine X_run rfl trivial ?_
                  exact X_vret rfl rfl h
              · have c4 : b = a := nI_inj (by omega) (by omega) c4
                rw [if_pos c4]
                refine X_run rfl ?_ ?_
                · simp [md_s, md_w, rget, r_a, r_b, r_c, r_i, r_l, hu, hs, e3]
                try simp only [md_s, md_w, rget_some, r_a, r_b, r_c, r_i, r_l, r_nx, r_pc, Nat.reduceEqDiff, false_and, if_false, hu, hs, e3]
                refine G_ref (B := B) (e := 6) (t := s + 3) rfl hZ hU hR hs (by omega) (fun D1 h => ?_)
                refine X_run rfl trivial ?_
                exact X_vret rfl rfl h
          · rw [(pE_some pb' (by omega)).mp c3]
            refine X_run rfl ?_ ?_
            · simp [md_s, md_w, rget, r_a, r_b, r_c, r_i, r_l, hu, hs, e3]
            try simp only [md_s, md_w, rget_some, r_a, r_b, r_c, r_i, r_l, r_nx, r_pc, Nat.reduceEqDiff, false_and, if_false, hu, hs, e3]
            refine G_ref (B := B) (e := 3) (t := s + 3) rfl hZ hU hR hs (by omega) (fun D1 h => ?_)
            refine X_run rfl trivial ?_
            exact X_vret rfl rfl h
        · have c2 : 60 ≤ k_ny K := Nat.not_lt.mp (fun z => c2 ((nI_ltI (b := 60) (by omega) (by omega)).mpr z))
          rw [if_pos c2]
          refine X_run rfl ?_ ?_
          · simp [md_s, md_w, rget, r_a, r_b, r_c, r_i, r_l, hu, hs, e1]
          try simp only [md_s, md_w, rget_some, r_a, r_b, r_c, r_i, r_l, r_nx, r_pc, Nat.reduceEqDiff, false_and, if_false, hu, hs, e1]
          refine G_ref (B := B) (e := 4) (t := s + 1) rfl hZ hU hR hs (by omega) (fun D1 h => ?_)
          refine X_run rfl trivial ?_
          exact X_vret rfl rfl h
    · rw [(pE_some pa' (by omega)).mp c1]
      refine X_run rfl ?_ ?_
      · simp [md_s, md_w, rget, r_a, r_b, r_c, r_i, r_l, hu, hs, e1]
      try simp only [md_s, md_w, rget_some, r_a, r_b, r_c, r_i, r_l, r_nx, r_pc, Nat.reduceEqDiff, false_and, if_false, hu, hs, e1]
      refine G_ref (B := B) (e := 3) (t := s + 1) rfl hZ hU hR hs (by omega) (fun D1 h => ?_)
      refine X_run rfl trivial ?_
      exact X_vret rfl rfl h
  refine EvM.mk (by decide) (Nat.le_of_ble_eq_true rfl) ?_
  refine X_run rfl ?_ ?_
  · simp [md_s, md_w, rget, r_a, r_b, r_c, r_i, r_l, hu, hs, e1]
  try simp only [md_s, md_w, rget_some, r_a, r_b, r_c, r_i, r_l, r_nx, r_pc, Nat.reduceEqDiff, false_and, if_false, hu, hs, e1]
  refine X_cV (args := [.int (nI (s + 1))]) rfl (by decide) hZ.1.1 rfl rfl (Nat.le_of_ble_eq_true rfl) (c_wordAt hZ hR (by omega)) ?_
  rintro _ _ ⟨rfl, rfl⟩
  rw [hv1]
  refine X_cV (args := [.long (asc (wd T (s + 1)))]) rfl (by decide) hb.1 rfl rfl (Nat.le_of_ble_eq_true rfl) (c_partyNamed hL hW hC) ?_
  rintro _ _ ⟨rfl, rfl⟩
  rw [pIx_asc hK q1]
  refine X_run rfl ?_ ?_
  · simp [md_s, md_w, rget, r_a, r_b, r_c, r_i, r_l, hu, hs, e3]
  try simp only [md_s, md_w, rget_some, r_a, r_b, r_c, r_i, r_l, r_nx, r_pc, Nat.reduceEqDiff, false_and, if_false, hu, hs, e3]
  refine X_cV (args := [.int (nI (s + 3))]) rfl (by decide) hZ.1.1 rfl rfl (Nat.le_of_ble_eq_true rfl) (c_wordAt hZ hR (by omega)) ?_
  rintro _ _ ⟨rfl, rfl⟩
  rw [hv3]
  refine X_cV (args := [.long (asc (wd T (s + 3)))]) rfl (by decide) hb.1 rfl rfl (Nat.le_of_ble_eq_true rfl) (c_partyNamed hL hW hC) ?_
  rintro _ _ ⟨rfl, rfl⟩
  rw [pIx_asc hK q3]
  refine X_run rfl ?_ ?_
  · simp [md_s, md_w, rget, r_a, r_b, r_c, r_i, r_l, hu, hs, e4]
  try simp only [md_s, md_w, rget_some, r_a, r_b, r_c, r_i, r_l, r_nx, r_pc, Nat.reduceEqDiff, false_and, if_false, hu, hs, e4]
  refine X_cV (args := [.int (nI (s + 4))]) rfl (by decide) hZ.1.1 rfl rfl (Nat.le_of_ble_eq_true rfl) (c_numberAt hZ hR (by omega) k4) ?_
  rintro _ _ ⟨rfl, rfl⟩
  rw [show numV (wd T (s + 4)) = nmV T (s + 4) from rfl]
  refine X_run rfl ?_ ?_
  · simp [md_s, md_w, rget, r_a, r_b, r_c, r_i, r_l, hu, hs, e5]
  try simp only [md_s, md_w, rget_some, r_a, r_b, r_c, r_i, r_l, r_nx, r_pc, Nat.reduceEqDiff, false_and, if_false, hu, hs, e5]
  refine X_cV (args := [.int (nI (s + 5))]) rfl (by decide) hZ.1.1 rfl rfl (Nat.le_of_ble_eq_true rfl) (c_wordAt hZ hR (by omega)) ?_
  rintro _ _ ⟨rfl, rfl⟩
  rw [hv5]
  refine X_cV (args := [.long (asc (wd T (s + 5)))]) rfl (by decide) hb.1 rfl rfl (Nat.le_of_ble_eq_true rfl) (c_moneyNamed hL hW hC) ?_
  rintro _ _ ⟨rfl, rfl⟩
  rw [mIx_asc hK q5]
  refine X_run rfl ?_ ?_
  · simp [md_s, md_w, rget, r_a, r_b, r_c, r_i, r_l, hu, hs, e7]
  try simp only [md_s, md_w, rget_some, r_a, r_b, r_c, r_i, r_l, r_nx, r_pc, Nat.reduceEqDiff, false_and, if_false, hu, hs, e7]
  refine X_cV (args := [.int (nI (s + 7))]) rfl (by decide) hZ.1.1 rfl rfl (Nat.le_of_ble_eq_true rfl) (c_numberAt hZ hR (by omega) k7) ?_
  rintro _ _ ⟨rfl, rfl⟩
  rw [show numV (wd T (s + 7)) = nmV T (s + 7) from rfl]
  refine X_run rfl ?_ ?_
  · simp [md_s, md_w, rget, r_a, r_b, r_c, r_i, r_l, hu, hs, e8]
  try simp only [md_s, md_w, rget_some, r_a, r_b, r_c, r_i, r_l, r_nx, r_pc, Nat.reduceEqDiff, false_and, if_false, hu, hs, e8]
  refine X_cV (args := [.int (nI (s + 8))]) rfl (by decide) hZ.1.1 rfl rfl (Nat.le_of_ble_eq_true rfl) (c_kindAt hZ hR (by omega)) ?_
  rintro _ _ ⟨rfl, rfl⟩
  refine X_run rfl trivial ?_
  rcases h8 with ⟨h8, h9⟩ | h8
  · rw [h8]
    obtain ⟨l9, k9⟩ := kdA_lo h9 (by decide)
    have n9 := nm_le h9
    refine X_icmp_ne rfl (fun c => absurd rfl c) (fun c => ?_)
    refine X_run rfl trivial ?_
    refine X_if_eq rfl (fun c => absurd c (by decide)) (fun c => ?_)
    refine X_run rfl ?_ ?_
    · simp [md_s, md_w, rget, r_a, r_b, r_c, r_i, r_l, hu, hs, e9]
    try simp only [md_s, md_w, rget_some, r_a, r_b, r_c, r_i, r_l, r_nx, r_pc, Nat.reduceEqDiff, false_and, if_false, hu, hs, e9]
    refine X_cV (args := [.int (nI (s + 9))]) rfl (by decide) hZ.1.1 rfl rfl (Nat.le_of_ble_eq_true rfl) (c_numberAt hZ hR (by omega) k9) ?_
    rintro _ _ ⟨rfl, rfl⟩
    refine X_run rfl trivial ?_
    exact Eg.sub (tail _ 1 (Or.inl ⟨rfl, h8, rfl, l9, by omega⟩)) ⟨rfl, rfl, rfl, rfl, rfl, rfl, rfl, rfl, rfl, trivial⟩
  · rw [h8]
    refine X_icmp_ne rfl (fun c => ?_) (fun c => absurd c (show ¬ (nI 13 : Int32) = 8 by decide))
    refine X_run rfl trivial ?_
    refine X_if_eq rfl (fun c => ?_) (fun c => absurd rfl c)
    refine X_run rfl trivial ?_
    exact Eg.sub (tail (-1) 0 (Or.inr ⟨rfl, by omega, rfl⟩)) ⟨rfl, rfl, rfl, rfl, rfl, rfl, rfl, rfl, rfl, trivial⟩
end PAY
