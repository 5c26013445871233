section REFRING
variable {g : GG} {d c : Nat} {S : ShT} {D : DaT} {Y A A2 : Nat} {K : KT} {T P : List Nat} {e : Int32}
theorem c_Mring {m : Int32} (hY : MoL S Y A A2) (hW : WfK K) (hM : RmR D Y A K T P e) : EvM g (d + 2) mX11_ring 0 0 [.ref Y, .int m] (md S D) (RfP S D Y A 0 K T P e [eB] (pRing K m)) := by
  obtain ⟨l1, l2, l3⟩ := hY.lo
  obtain ⟨hy, -, ⟨hL, hL2⟩, -⟩ := id hY
  obtain ⟨hs, ha, hb⟩ := hL.all
  obtain ⟨w1, w2, w3, w4⟩ := id hW
  obtain ⟨D1, e1, z1, y1⟩ := wr_fi D 352 Y 0
  have hM1 : RmR D1 Y A K T P e := e1 ▸ hM.thr (by omega) (by decide)
  have hR1 := hM1.1
  have hO1 : OutR S Y D D1 := e1 ▸ OutR.fi
  have t1 : d_fi D1 352 Y = 0 := by rw [z1, if_pos ⟨rfl, rfl⟩]
  refine EvM.mk (by decide) (Nat.le_of_ble_eq_true rfl) ?_
  refine X_run rfl ?_ ?_
  · simp [md_s, md_w, rget, r_a, r_b, r_c, r_i, r_l, hy, e1]
  try simp only [md_s, md_w, rget_some, r_a, r_b, r_c, r_i, r_l, r_nx, r_pc, Nat.reduceEqDiff, false_and, if_false, hy, e1]
  refine X_cV (args := [.int m]) rfl (by decide) hy.1 rfl rfl (Nat.le_of_ble_eq_true rfl) (c_RisMoney hY hR1) ?_
  rintro _ _ ⟨rfl, rfl⟩
  refine X_if_ne rfl (fun c1 => ?_) (fun c1 => ?_)
  · have c1 := b2i_nz c1
    obtain ⟨u, hu, rfl⟩ := (inB_iff (by omega)).mp c1
    have hc1 := hR1.1
    unfold RrC at hc1
    have fself : ∀ b, b < k_np K → dbt K u (b * 10 + b) = 0 := fun b hb => by rw [← owes_dbt hW (by omega) (by omega) (by omega)]; exact owes_self
    refine X_run rfl trivial ?_
    refine Eg_iter (fun i (s : Int32 × Int32) => Eg g (d + 2) mX11_ring 0 0 (Zr g _) 26 [(0, .ref Y), (1, .int (nI u)), (2, .int s.1), (3, .int s.2), (4, .int (nI i))] [] (md S D1)) (rngA (dbt K u) (k_np K)) (k_np K) (-1, 0) (fun a ha k => ?_) ?_
    · have hnn := rng_nn (f := dbt K u) (n := k_np K) a
      generalize iter (rngA (dbt K u) (k_np K)) a ((-1 : Int32), (0 : Int32)) = s at k hnn ⊢
      refine X_run rfl ?_ ?_
      · simp [md_s, md_w, rget, r_a, r_b, r_c, r_i, r_l, hy, hs, hc1]
      try simp only [md_s, md_w, rget_some, r_a, r_b, r_c, r_i, r_l, r_nx, r_pc, Nat.reduceEqDiff, false_and, if_false, hy, hs, hc1]
      refine X_icmp_ge rfl (fun c2 => no_le c2 ha (by omega)) (fun c2 => ?_)
      refine X_run rfl ?_ ?_
      · simp [md_s, md_w, rget, r_a, r_b, r_c, r_i, r_l, nI_s1]
      try simp only [md_s, md_w, rget_some, r_a, r_b, r_c, r_i, r_l, r_nx, r_pc, Nat.reduceEqDiff, false_and, if_false, nI_s1]
      unfold rngA at k
      refine Eg.sub (ls' := [(0, .ref Y), (1, .int (nI u)), (2, .int s.1), (3, .int s.2), (4, .int (nI a)), (5, .int (nI (a + 1 + 0)))]) ?_ ⟨rfl, rfl, rfl, rfl, rfl, rfl, trivial⟩
      refine Eg_iter (fun j (s : Int32 × Int32) => Eg g (d + 2) mX11_ring 0 0 (Zr g _) 44 [(0, .ref Y), (1, .int (nI u)), (2, .int s.1), (3, .int s.2), (4, .int (nI a)), (5, .int (nI (a + 1 + j)))] [] (md S D1)) (fun j => rngB (dbt K u) (k_np K) a (a + 1 + j)) (k_np K - (a + 1)) s (fun j hj k2 => ?_) ?_
      · have hnn2 := rngA_nn (f := dbt K u) (n := k_np K) (a := a) hnn j
        generalize iter (fun j => rngB (dbt K u) (k_np K) a (a + 1 + j)) j s = s2 at k2 hnn2 ⊢
        have hb' : a + 1 + j < k_np K := by omega
        have k2 : Eg g (d + 2) mX11_ring 0 0 (Zr g (RfP S D Y A 0 K T P e [eB] (pRing K (nI u)))) 44 [(0, .ref Y), (1, .int (nI u)), (2, .int (rngB (dbt K u) (k_np K) a (a + 1 + j) s2).1), (3, .int (rngB (dbt K u) (k_np K) a (a + 1 + j) s2).2), (4, .int (nI a)), (5, .int (nI (a + 1 + j + 1)))] [] (md S D1) := k2
        generalize a + 1 + j = b at k2 hb' ⊢
        refine X_run rfl ?_ ?_
        · simp [md_s, md_w, rget, r_a, r_b, r_c, r_i, r_l, hy, hs, hc1]
        try simp only [md_s, md_w, rget_some, r_a, r_b, r_c, r_i, r_l, r_nx, r_pc, Nat.reduceEqDiff, false_and, if_false, hy, hs, hc1]
        refine X_icmp_ge rfl (fun c3 => no_le c3 hb' (by omega)) (fun c3 => ?_)
        refine X_run rfl ?_ ?_
        · simp [md_s, md_w, rget, r_a, r_b, r_c, r_i, r_l, nI_s1]
        try simp only [md_s, md_w, rget_some, r_a, r_b, r_c, r_i, r_l, r_nx, r_pc, Nat.reduceEqDiff, false_and, if_false, nI_s1]
        unfold rngB at k2
        refine Eg.sub (ls' := [(0, .ref Y), (1, .int (nI u)), (2, .int s2.1), (3, .int s2.2), (4, .int (nI a)), (5, .int (nI b)), (6, .int (nI (a + 1 + 0)))]) ?_ ⟨rfl, rfl, rfl, rfl, rfl, rfl, rfl, trivial⟩
        refine Eg_iter (fun j (s : Int32 × Int32) => Eg g (d + 2) mX11_ring 0 0 (Zr g _) 62 [(0, .ref Y), (1, .int (nI u)), (2, .int s.1), (3, .int s.2), (4, .int (nI a)), (5, .int (nI b)), (6, .int (nI (a + 1 + j)))] [] (md S D1)) (fun j => rngC (dbt K u) a b (a + 1 + j)) (k_np K - (a + 1)) s2 (fun l hl k3 => ?_) ?_
        · have hnn3 := rngB_nn (f := dbt K u) (n := k_np K) (a := a) (b := b) hnn2 l
          generalize iter (fun j => rngC (dbt K u) a b (a + 1 + j)) l s2 = s3 at k3 hnn3 ⊢
          have hc' : a + 1 + l < k_np K := by omega
          have k3 : Eg g (d + 2) mX11_ring 0 0 (Zr g (RfP S D Y A 0 K T P e [eB] (pRing K (nI u)))) 62 [(0, .ref Y), (1, .int (nI u)), (2, .int (rngC (dbt K u) a b (a + 1 + l) s3).1), (3, .int (rngC (dbt K u) a b (a + 1 + l) s3).2), (4, .int (nI a)), (5, .int (nI b)), (6, .int (nI (a + 1 + l + 1)))] [] (md S D1) := k3
          generalize a + 1 + l = q at k3 hc' ⊢
          refine X_run rfl ?_ ?_
          · simp [md_s, md_w, rget, r_a, r_b, r_c, r_i, r_l, hy, hs, hc1]
          try simp only [md_s, md_w, rget_some, r_a, r_b, r_c, r_i, r_l, r_nx, r_pc, Nat.reduceEqDiff, false_and, if_false, hy, hs, hc1]
          refine X_icmp_ge rfl (fun c4 => no_le c4 hc' (by omega)) (fun c4 => ?_)
          refine X_run rfl trivial ?_
          refine X_icmp_ne rfl (fun c5 => ?_) (fun c5 => ?_)
          · refine X_run rfl ?_ ?_
            · simp [md_s, md_w, rget, r_a, r_b, r_c, r_i, r_l, hy]
            try simp only [md_s, md_w, rget_some, r_a, r_b, r_c, r_i, r_l, r_nx, r_pc, Nat.reduceEqDiff, false_and, if_false, hy]
            refine X_cV (args := [.int (nI a), .int (nI b), .int (nI u)]) rfl (by decide) hs.1 rfl rfl (Nat.le_of_ble_eq_true rfl) (c_Rowes hL hW hR1) ?_
            rintro _ _ ⟨rfl, rfl⟩
            refine X_run rfl ?_ ?_
            · simp [md_s, md_w, rget, r_a, r_b, r_c, r_i, r_l, hy]
            try simp only [md_s, md_w, rget_some, r_a, r_b, r_c, r_i, r_l, r_nx, r_pc, Nat.reduceEqDiff, false_and, if_false, hy]
            refine X_cV (args := [.int (nI b), .int (nI q), .int (nI u)]) rfl (by decide) hs.1 rfl rfl (Nat.le_of_ble_eq_true rfl) (c_Rowes hL hW hR1) ?_
            rintro _ _ ⟨rfl, rfl⟩
            refine X_run rfl ?_ ?_
            · simp [md_s, md_w, rget, r_a, r_b, r_c, r_i, r_l, hy]
            try simp only [md_s, md_w, rget_some, r_a, r_b, r_c, r_i, r_l, r_nx, r_pc, Nat.reduceEqDiff, false_and, if_false, hy]
            refine X_cV (args := [.int (nI q), .int (nI a), .int (nI u)]) rfl (by decide) hs.1 rfl rfl (Nat.le_of_ble_eq_true rfl) (c_Rowes hL hW hR1) ?_
            rintro _ _ ⟨rfl, rfl⟩
            rw [owes_dbt hW (by omega) (by omega) (by omega), owes_dbt hW (by omega) (by omega) (by omega), owes_dbt hW (by omega) (by omega) (by omega)]
            refine X_run rfl trivial ?_
            refine X_min rfl (Nat.le_of_ble_eq_true rfl) ?_
            refine X_run rfl trivial ?_
            refine X_min rfl (Nat.le_of_ble_eq_true rfl) ?_
            rw [show (if dbt K u (q * 10 + a) < dbt K u (b * 10 + q) then dbt K u (q * 10 + a) else dbt K u (b * 10 + q)) = mn (dbt K u (b * 10 + q)) (dbt K u (q * 10 + a)) from rfl]
            rw [show (if mn (dbt K u (b * 10 + q)) (dbt K u (q * 10 + a)) < dbt K u (a * 10 + b) then mn (dbt K u (b * 10 + q)) (dbt K u (q * 10 + a)) else dbt K u (a * 10 + b)) = rng3 (dbt K u) a b q from rfl]
            unfold rngC at k3
            generalize rng3 (dbt K u) a b q = r at k3 ⊢
            refine X_run rfl trivial ?_
            refine X_icmp_gt rfl (fun c6 => ?_) (fun c6 => ?_)
            · rw [if_pos c6] at k3
              refine X_run rfl ?_ ?_
              · simp [md_s, md_w, rget, r_a, r_b, r_c, r_i, r_l, nI_s1]
              try simp only [md_s, md_w, rget_some, r_a, r_b, r_c, r_i, r_l, r_nx, r_pc, Nat.reduceEqDiff, false_and, if_false, nI_s1]
              exact Eg.sub k3 ⟨rfl, rfl, rfl, rfl, rfl, rfl, rfl, trivial⟩
            · rw [if_neg c6] at k3
              refine X_run rfl ?_ ?_
              · simp [md_s, md_w, rget, r_a, r_b, r_c, r_i, r_l, nI_s1]
              try simp only [md_s, md_w, rget_some, r_a, r_b, r_c, r_i, r_l, r_nx, r_pc, Nat.reduceEqDiff, false_and, if_false, nI_s1]
              exact Eg.sub k3 ⟨rfl, rfl, rfl, rfl, rfl, rfl, rfl, trivial⟩
          · have : b = q := nI_inj (by omega) (by omega) c5
            subst this
            rw [rngC_same (fself b hb') hnn3] at k3
            refine X_run rfl ?_ ?_
            · simp [md_s, md_w, rget, r_a, r_b, r_c, r_i, r_l, nI_s1]
            try simp only [md_s, md_w, rget_some, r_a, r_b, r_c, r_i, r_l, r_nx, r_pc, Nat.reduceEqDiff, false_and, if_false, nI_s1]
            exact k3
        · refine X_run rfl ?_ ?_
          · simp [md_s, md_w, rget, r_a, r_b, r_c, r_i, r_l, hy, hs, hc1]
          try simp only [md_s, md_w, rget_some, r_a, r_b, r_c, r_i, r_l, r_nx, r_pc, Nat.reduceEqDiff, false_and, if_false, hy, hs, hc1]
          refine X_icmp_ge rfl (fun c4 => ?_) (fun c4 => no_nle c4 (by omega) (by omega))
          refine X_run rfl ?_ ?_
          · simp [md_s, md_w, rget, r_a, r_b, r_c, r_i, r_l, nI_s1]
          try simp only [md_s, md_w, rget_some, r_a, r_b, r_c, r_i, r_l, r_nx, r_pc, Nat.reduceEqDiff, false_and, if_false, nI_s1]
          exact Eg.sub k2 ⟨rfl, rfl, rfl, rfl, rfl, rfl, trivial⟩
      · refine X_run rfl ?_ ?_
        · simp [md_s, md_w, rget, r_a, r_b, r_c, r_i, r_l, hy, hs, hc1]
        try simp only [md_s, md_w, rget_some, r_a, r_b, r_c, r_i, r_l, r_nx, r_pc, Nat.reduceEqDiff, false_and, if_false, hy, hs, hc1]
        refine X_icmp_ge rfl (fun c4 => ?_) (fun c4 => no_nle c4 (by omega) (by omega))
        refine X_run rfl ?_ ?_
        · simp [md_s, md_w, rget, r_a, r_b, r_c, r_i, r_l, nI_s1]
        try simp only [md_s, md_w, rget_some, r_a, r_b, r_c, r_i, r_l, r_nx, r_pc, Nat.reduceEqDiff, false_and, if_false, nI_s1]
        exact Eg.sub k ⟨rfl, rfl, rfl, rfl, rfl, trivial⟩
    · refine X_run rfl ?_ ?_
      · simp [md_s, md_w, rget, r_a, r_b, r_c, r_i, r_l, hy, hs, hc1]
      try simp only [md_s, md_w, rget_some, r_a, r_b, r_c, r_i, r_l, r_nx, r_pc, Nat.reduceEqDiff, false_and, if_false, hy, hs, hc1]
      refine X_icmp_ge rfl (fun c2 => ?_) (fun c2 => no_nle c2 (Nat.le_refl _) (by omega))
      refine X_run rfl trivial ?_
      exact X_iret rfl rfl (RfP.ok hM1 hO1 t1 (by rw [pRing, if_pos c1, iN_nI (by omega)]; rfl))
  · refine X_run rfl trivial ?_
    refine X_cV (args := [.int 1]) rfl (by decide) hy.1 rfl rfl (Nat.le_of_ble_eq_true rfl) (c_no hY) ?_
    rintro _ _ ⟨rfl, rfl⟩
    refine X_run rfl trivial ?_
    exact X_iret rfl rfl (RfP.no hM1 hO1 (by omega) rfl (by rw [pRing, if_neg (nb2i c1)]))
end REFRING
