section DIGEST
variable {g : GG} {d : Nat} {S : ShT} {D : DaT} {X : Nat} {K : KT}
theorem c_dgY {d0 : Int64} (hX : DkL S X) (hW : WfK K) (hR : RepC D (X + 11) K) : EvM g (d + 2) mX9_digestPayments 0 0 [.ref X, .long d0] (md S D) (fun v M1 => M1 = md S D ∧ v = some (.long (dgY K d0))) := by
  obtain ⟨hx, -, -, -, hL, -⟩ := id hX
  have hb := hL.1
  obtain ⟨w1, w2, w3, w4⟩ := id hW
  have hc := hR.1
  refine EvM.mk (by decide) (Nat.le_of_ble_eq_true rfl) ?_
  refine X_run rfl trivial ?_
  refine Eg_iter (fun i (a : Int64) => Eg g (d + 2) mX9_digestPayments 0 0 (Zr g _) 5 [(0, .ref X), (1, .long d0), (3, .long a), (5, .int (nI i))] [] (md S D)) (fun n acc => iter (fun w acc => acc * 31 + (toldY K n w).toInt64) 9 acc) (k_ny K) d0 (fun n hn k => ?_) ?_
  · generalize iter (fun n acc => iter (fun w acc => acc * 31 + (toldY K n w).toInt64) 9 acc) n d0 = a0 at k ⊢
    refine X_run rfl ?_ ?_
    · simp [md_s, md_w, rget, r_a, r_b, r_c, r_i, r_l, hx, hb, hc]
    try simp only [md_s, md_w, rget_some, r_a, r_b, r_c, r_i, r_l, r_nx, r_pc, Nat.reduceEqDiff, false_and, if_false, hx, hb, hc]
    refine X_icmp_ge rfl (fun c1 => no_le c1 hn (by omega)) (fun c1 => ?_)
    refine X_run rfl trivial ?_
    refine Eg_iter (fun i (a : Int64) => Eg g (d + 2) mX9_digestPayments 0 0 (Zr g _) 20 [(0, .ref X), (1, .long d0), (3, .long a), (5, .int (nI n)), (6, .int (nI i))] [] (md S D)) (fun w acc => acc * 31 + (toldY K n w).toInt64) 9 a0 (fun w hw k => ?_) ?_
    · refine X_run rfl trivial ?_
      refine X_icmp_gt rfl (fun c2 => no_lt (a := 8) c2 (by omega) (by omega)) (fun c2 => ?_)
      refine X_run rfl trivial ?_
      refine X_cV (args := [.int (nI n), .int (nI w)]) rfl (by decide) hx.1 rfl rfl (Nat.le_of_ble_eq_true rfl) (c_toldY hX hW hR hn (by omega)) ?_
      rintro _ _ ⟨rfl, rfl⟩
      refine X_run rfl ?_ ?_
      · simp [md_s, md_w, rget, r_a, r_b, r_c, r_i, r_l, nI_s1]
      try simp only [md_s, md_w, rget_some, r_a, r_b, r_c, r_i, r_l, r_nx, r_pc, Nat.reduceEqDiff, false_and, if_false, nI_s1]
      exact Eg.sub k ⟨rfl, rfl, rfl, rfl, rfl, trivial⟩
    · refine X_run rfl trivial ?_
      refine X_icmp_gt rfl (fun c2 => ?_) (fun c2 => absurd (show (8 : Int32) < nI 9 by decide) c2)
      refine X_run rfl ?_ ?_
      · simp [md_s, md_w, rget, r_a, r_b, r_c, r_i, r_l, nI_s1]
      try simp only [md_s, md_w, rget_some, r_a, r_b, r_c, r_i, r_l, r_nx, r_pc, Nat.reduceEqDiff, false_and, if_false, nI_s1]
      exact Eg.sub k ⟨rfl, rfl, rfl, rfl, trivial⟩
  · have hz : iter (fun n acc => iter (fun w acc => acc * 31 + (toldY K n w).toInt64) 9 acc) (k_ny K) d0 = dgY K d0 := rfl
    rw [hz]
    refine X_run rfl ?_ ?_
    · simp [md_s, md_w, rget, r_a, r_b, r_c, r_i, r_l, hx, hb, hc]
    try simp only [md_s, md_w, rget_some, r_a, r_b, r_c, r_i, r_l, r_nx, r_pc, Nat.reduceEqDiff, false_and, if_false, hx, hb, hc]
    refine X_icmp_ge rfl (fun c1 => ?_) (fun c1 => no_nle c1 (Nat.le_refl _) (by omega))
    refine X_run rfl trivial ?_
    exact X_lret rfl rfl ⟨rfl, rfl⟩
theorem c_dgM {d0 : Int64} (hX : DkL S X) (hW : WfK K) (hR : RepC D (X + 11) K) : EvM g (d + 4) mX9_digestMoneys 0 0 [.ref X, .long d0] (md S D) (fun v M1 => M1 = md S D ∧ v = some (.long (dgM K d0))) := by
  obtain ⟨hx, -, -, -, hL, -⟩ := id hX
  have hb := hL.1
  obtain ⟨w1, w2, w3, w4⟩ := id hW
  have hc := hR.1
  refine EvM.mk (by decide) (Nat.le_of_ble_eq_true rfl) ?_
  refine X_run rfl trivial ?_
  refine Eg_iter (fun i (a : Int64) => Eg g (d + 4) mX9_digestMoneys 0 0 (Zr g _) 5 [(0, .ref X), (1, .long d0), (3, .long a), (5, .int (nI i))] [] (md S D)) (fun n acc => iter (fun w acc => acc * 31 + (toldM K n w).toInt64) 4 acc) (k_nm K) d0 (fun n hn k => ?_) ?_
  · generalize iter (fun n acc => iter (fun w acc => acc * 31 + (toldM K n w).toInt64) 4 acc) n d0 = a0 at k ⊢
    refine X_run rfl ?_ ?_
    · simp [md_s, md_w, rget, r_a, r_b, r_c, r_i, r_l, hx, hb, hc]
    try simp only [md_s, md_w, rget_some, r_a, r_b, r_c, r_i, r_l, r_nx, r_pc, Nat.reduceEqDiff, false_and, if_false, hx, hb, hc]
    refine X_icmp_ge rfl (fun c1 => no_le c1 hn (by omega)) (fun c1 => ?_)
    refine X_run rfl trivial ?_
    refine Eg_iter (fun i (a : Int64) => Eg g (d + 4) mX9_digestMoneys 0 0 (Zr g _) 20 [(0, .ref X), (1, .long d0), (3, .long a), (5, .int (nI n)), (6, .int (nI i))] [] (md S D)) (fun w acc => acc * 31 + (toldM K n w).toInt64) 4 a0 (fun w hw k => ?_) ?_
    · refine X_run rfl trivial ?_
      refine X_icmp_gt rfl (fun c2 => no_lt (a := 3) c2 (by omega) (by omega)) (fun c2 => ?_)
      refine X_run rfl trivial ?_
      refine X_cV (args := [.int (nI n), .int (nI w)]) rfl (by decide) hx.1 rfl rfl (Nat.le_of_ble_eq_true rfl) (c_toldM hX hW hR hn (by omega)) ?_
      rintro _ _ ⟨rfl, rfl⟩
      refine X_run rfl ?_ ?_
      · simp [md_s, md_w, rget, r_a, r_b, r_c, r_i, r_l, nI_s1]
      try simp only [md_s, md_w, rget_some, r_a, r_b, r_c, r_i, r_l, r_nx, r_pc, Nat.reduceEqDiff, false_and, if_false, nI_s1]
      exact Eg.sub k ⟨rfl, rfl, rfl, rfl, rfl, trivial⟩
    · refine X_run rfl trivial ?_
      refine X_icmp_gt rfl (fun c2 => ?_) (fun c2 => absurd (show (3 : Int32) < nI 4 by decide) c2)
      refine X_run rfl ?_ ?_
      · simp [md_s, md_w, rget, r_a, r_b, r_c, r_i, r_l, nI_s1]
      try simp only [md_s, md_w, rget_some, r_a, r_b, r_c, r_i, r_l, r_nx, r_pc, Nat.reduceEqDiff, false_and, if_false, nI_s1]
      exact Eg.sub k ⟨rfl, rfl, rfl, rfl, trivial⟩
  · have hz : iter (fun n acc => iter (fun w acc => acc * 31 + (toldM K n w).toInt64) 4 acc) (k_nm K) d0 = dgM K d0 := rfl
    rw [hz]
    refine X_run rfl ?_ ?_
    · simp [md_s, md_w, rget, r_a, r_b, r_c, r_i, r_l, hx, hb, hc]
    try simp only [md_s, md_w, rget_some, r_a, r_b, r_c, r_i, r_l, r_nx, r_pc, Nat.reduceEqDiff, false_and, if_false, hx, hb, hc]
    refine X_icmp_ge rfl (fun c1 => ?_) (fun c1 => no_nle c1 (Nat.le_refl _) (by omega))
    refine X_run rfl trivial ?_
    exact X_lret rfl rfl ⟨rfl, rfl⟩
theorem c_dgP {d0 : Int64} (hX : DkL S X) (hW : WfK K) (hR : RepC D (X + 11) K) : EvM g (d + 5) mX9_digestParties 0 0 [.ref X, .long d0] (md S D) (fun v M1 => M1 = md S D ∧ v = some (.long (dgP K d0))) := by
  obtain ⟨hx, -, -, -, hL, -⟩ := id hX
  have hb := hL.1
  obtain ⟨w1, w2, w3, w4⟩ := id hW
  have hc := hR.1
  refine EvM.mk (by decide) (Nat.le_of_ble_eq_true rfl) ?_
  refine X_run rfl trivial ?_
  refine Eg_iter (fun i (a : Int64) => Eg g (d + 5) mX9_digestParties 0 0 (Zr g _) 5 [(0, .ref X), (1, .long d0), (3, .long a), (5, .int (nI i))] [] (md S D)) (dgP1 K) (k_np K) d0 (fun n hn k => ?_) ?_
  · generalize iter (dgP1 K) n d0 = a0 at k ⊢
    have hn2 : n < 10 := by omega
    obtain ⟨hq, hr1, hr2, hr3⟩ := hL.2.1 n hn2
    have hvb := (hR.2.1 n hn).2
    refine X_run rfl ?_ ?_
    · simp [md_s, md_w, rget, r_a, r_b, r_c, r_i, r_l, hx, hb, hc]
    try simp only [md_s, md_w, rget_some, r_a, r_b, r_c, r_i, r_l, r_nx, r_pc, Nat.reduceEqDiff, false_and, if_false, hx, hb, hc]
    refine X_icmp_ge rfl (fun c1 => no_le c1 hn (by omega)) (fun c1 => ?_)
    refine X_run rfl trivial ?_
    refine Eg_iter (fun i (a : Int64) => Eg g (d + 5) mX9_digestParties 0 0 (Zr g _) 20 [(0, .ref X), (1, .long d0), (3, .long a), (5, .int (nI n)), (6, .int (nI i))] [] (md S D)) (fun w acc => acc * 31 + (toldP K n w).toInt64) 7 a0 (fun w hw k => ?_) ?_
    · refine X_run rfl trivial ?_
      refine X_icmp_gt rfl (fun c2 => no_lt (a := 6) c2 (by omega) (by omega)) (fun c2 => ?_)
      refine X_run rfl trivial ?_
      refine X_cV (args := [.int (nI n), .int (nI w)]) rfl (by decide) hx.1 rfl rfl (Nat.le_of_ble_eq_true rfl) (c_toldP hX hW hR hn (by omega)) ?_
      rintro _ _ ⟨rfl, rfl⟩
      refine X_run rfl ?_ ?_
      · simp [md_s, md_w, rget, r_a, r_b, r_c, r_i, r_l, nI_s1]
      try simp only [md_s, md_w, rget_some, r_a, r_b, r_c, r_i, r_l, r_nx, r_pc, Nat.reduceEqDiff, false_and, if_false, nI_s1]
      exact Eg.sub k ⟨rfl, rfl, rfl, rfl, rfl, trivial⟩
    · refine X_run rfl trivial ?_
      refine X_icmp_gt rfl (fun c2 => ?_) (fun c2 => absurd (show (6 : Int32) < nI 7 by decide) c2)
      refine X_run rfl trivial ?_
      have k' : Eg g (d + 5) mX9_digestParties 0 0 (Zr g (fun v M1 => M1 = md S D ∧ v = some (.long (dgP K d0)))) 5 [(0, .ref X), (1, .long d0), (3, .long (iter (fun m acc => (acc * 31 + (k_ba K n m).toInt64) * 31 + (k_co K n m).toInt64) (k_nm K) (iter (fun w acc => acc * 31 + (toldP K n w).toInt64) 7 a0))), (5, .int (nI (n + 1)))] [] (md S D) := k
      generalize iter (fun w acc => acc * 31 + (toldP K n w).toInt64) 7 a0 = a1 at k' ⊢
      refine Eg_iter (fun i (a : Int64) => Eg g (d + 5) mX9_digestParties 0 0 (Zr g _) 52 [(0, .ref X), (1, .long d0), (3, .long a), (5, .int (nI n)), (6, .int (nI i))] [] (md S D)) (fun m acc => (acc * 31 + (k_ba K n m).toInt64) * 31 + (k_co K n m).toInt64) (k_nm K) a1 (fun m hm k => ?_) ?_
      · have hm2 : m < 5 := by omega
        refine X_run rfl ?_ ?_
        · simp [md_s, md_w, rget, r_a, r_b, r_c, r_i, r_l, hx, hb, hc]
        try simp only [md_s, md_w, rget_some, r_a, r_b, r_c, r_i, r_l, r_nx, r_pc, Nat.reduceEqDiff, false_and, if_false, hx, hb, hc]
        refine X_icmp_ge rfl (fun c1 => no_le c1 hm (by omega)) (fun c1 => ?_)
        refine X_run rfl ?_ ?_
        · simp [md_s, md_w, rget, r_a, r_b, r_c, r_i, r_l, hx, hb]
        try simp only [md_s, md_w, rget_some, r_a, r_b, r_c, r_i, r_l, r_nx, r_pc, Nat.reduceEqDiff, false_and, if_false, hx, hb]
        refine X_cV (args := [.int (nI n)]) rfl (by decide) hb.1 rfl rfl (Nat.le_of_ble_eq_true rfl) (c_partyAt hL hn2) ?_
        rintro _ _ ⟨rfl, rfl⟩
        refine X_run rfl ?_ ?_
        · simp [md_s, md_w, rget, r_a, r_b, r_c, r_i, r_l, hq]
        try simp only [md_s, md_w, rget_some, r_a, r_b, r_c, r_i, r_l, r_nx, r_pc, Nat.reduceEqDiff, false_and, if_false, hq]
        refine X_cV (args := [.int (nI m)]) rfl (by decide) hr1.1 rfl rfl (Nat.le_of_ble_eq_true rfl) (c_Row_at hr1 hm2) ?_
        rintro _ _ ⟨rfl, rfl⟩
        rw [(hvb m hm2).1]
        refine X_run rfl ?_ ?_
        · simp [md_s, md_w, rget, r_a, r_b, r_c, r_i, r_l, hx, hb]
        try simp only [md_s, md_w, rget_some, r_a, r_b, r_c, r_i, r_l, r_nx, r_pc, Nat.reduceEqDiff, false_and, if_false, hx, hb]
        refine X_cV (args := [.int (nI n)]) rfl (by decide) hb.1 rfl rfl (Nat.le_of_ble_eq_true rfl) (c_partyAt hL hn2) ?_
        rintro _ _ ⟨rfl, rfl⟩
        refine X_run rfl ?_ ?_
        · simp [md_s, md_w, rget, r_a, r_b, r_c, r_i, r_l, hq]
        try simp only [md_s, md_w, rget_some, r_a, r_b, r_c, r_i, r_l, r_nx, r_pc, Nat.reduceEqDiff, false_and, if_false, hq]
        refine X_cV (args := [.int (nI m)]) rfl (by decide) hr2.1 rfl rfl (Nat.le_of_ble_eq_true rfl) (c_Row_at hr2 hm2) ?_
        rintro _ _ ⟨rfl, rfl⟩
        rw [(hvb m hm2).2]
        refine X_run rfl ?_ ?_
        · simp [md_s, md_w, rget, r_a, r_b, r_c, r_i, r_l, nI_s1]
        try simp only [md_s, md_w, rget_some, r_a, r_b, r_c, r_i, r_l, r_nx, r_pc, Nat.reduceEqDiff, false_and, if_false, nI_s1]
        exact Eg.sub k ⟨rfl, rfl, rfl, rfl, rfl, trivial⟩
      · refine X_run rfl ?_ ?_
        · simp [md_s, md_w, rget, r_a, r_b, r_c, r_i, r_l, hx, hb, hc]
        try simp only [md_s, md_w, rget_some, r_a, r_b, r_c, r_i, r_l, r_nx, r_pc, Nat.reduceEqDiff, false_and, if_false, hx, hb, hc]
        refine X_icmp_ge rfl (fun c1 => ?_) (fun c1 => no_nle c1 (Nat.le_refl _) (by omega))
        refine X_run rfl ?_ ?_
        · simp [md_s, md_w, rget, r_a, r_b, r_c, r_i, r_l, nI_s1]
        try simp only [md_s, md_w, rget_some, r_a, r_b, r_c, r_i, r_l, r_nx, r_pc, Nat.reduceEqDiff, false_and, if_false, nI_s1]
        exact Eg.sub k' ⟨rfl, rfl, rfl, rfl, trivial⟩
  · have hz : iter (dgP1 K) (k_np K) d0 = dgP K d0 := rfl
    rw [hz]
    refine X_run rfl ?_ ?_
    · simp [md_s, md_w, rget, r_a, r_b, r_c, r_i, r_l, hx, hb, hc]
    try simp only [md_s, md_w, rget_some, r_a, r_b, r_c, r_i, r_l, r_nx, r_pc, Nat.reduceEqDiff, false_and, if_false, hx, hb, hc]
    refine X_icmp_ge rfl (fun c1 => ?_) (fun c1 => no_nle c1 (Nat.le_refl _) (by omega))
    refine X_run rfl trivial ?_
    exact X_lret rfl rfl ⟨rfl, rfl⟩
def dgK (K : KT) (tl pl : Int32) (f : Nat → Int32) (l : Nat) : Int64 := dgB f l (dgY K (dgM K (dgP K (dgC K tl pl 647))))
theorem c_digest {l : Nat} (hX : DkL S X) (hW : WfK K) (hR : RepC D (X + 11) K) (hl : d_fi D 33 (X + 8) = nI l) (hl2 : l ≤ 2160) : EvM g (d + 6) mX9_digest 0 0 [.ref X] (md S D) (fun v M1 => M1 = md S D ∧ v = some (.long (dgK K (d_fi D 33 (X + 3)) (nI l) (d_ai D (X + 9)) l))) := by
  obtain ⟨hx, -, hpp, -, hL, -⟩ := id hX
  refine EvM.mk (by decide) (Nat.le_of_ble_eq_true rfl) ?_
  refine X_run rfl trivial ?_
  generalize htl : d_fi D 33 (X + 3) = tl
  refine Eg_iter (fun i (a : Int64) => Eg g (d + 6) mX9_digest 0 0 (Zr g _) 6 [(0, .ref X), (1, .long a), (3, .int (nI i))] [] (md S D)) (fun w acc => acc * 31 + (cnts K tl (nI l) w).toInt64) 12 647 (fun w hw k => ?_) ?_
  · generalize iter (fun w acc => acc * 31 + (cnts K tl (nI l) w).toInt64) w (647 : Int64) = a0 at k ⊢
    refine X_run rfl trivial ?_
    refine X_icmp_gt rfl (fun c2 => no_lt (a := 11) c2 (by omega) (by omega)) (fun c2 => ?_)
    refine X_run rfl trivial ?_
    refine X_cV (args := [.int (nI w)]) rfl (by decide) hx.1 rfl rfl (Nat.le_of_ble_eq_true rfl) (c_counted hX hW hR (by omega)) ?_
    rintro _ _ ⟨rfl, rfl⟩
    rw [htl, hl]
    refine X_run rfl ?_ ?_
    · simp [md_s, md_w, rget, r_a, r_b, r_c, r_i, r_l, nI_s1]
    try simp only [md_s, md_w, rget_some, r_a, r_b, r_c, r_i, r_l, r_nx, r_pc, Nat.reduceEqDiff, false_and, if_false, nI_s1]
    exact Eg.sub k ⟨rfl, rfl, rfl, trivial⟩
  · have hz : iter (fun w acc => acc * 31 + (cnts K tl (nI l) w).toInt64) 12 (647 : Int64) = dgC K tl (nI l) 647 := rfl
    rw [hz]
    unfold dgK
    generalize dgC K tl (nI l) 647 = a0
    refine X_run rfl trivial ?_
    refine X_icmp_gt rfl (fun c2 => ?_) (fun c2 => absurd (show (11 : Int32) < nI 12 by decide) c2)
    refine X_run rfl trivial ?_
    refine X_cV (args := [.long a0]) rfl (by decide) hx.1 rfl rfl (Nat.le_of_ble_eq_true rfl) (c_dgP hX hW hR) ?_
    rintro _ _ ⟨rfl, rfl⟩
    generalize dgP K a0 = a1
    refine X_run rfl trivial ?_
    refine X_cV (args := [.long a1]) rfl (by decide) hx.1 rfl rfl (Nat.le_of_ble_eq_true rfl) (c_dgM hX hW hR) ?_
    rintro _ _ ⟨rfl, rfl⟩
    generalize dgM K a1 = a2
    refine X_run rfl trivial ?_
    refine X_cV (args := [.long a2]) rfl (by decide) hx.1 rfl rfl (Nat.le_of_ble_eq_true rfl) (c_dgY hX hW hR) ?_
    rintro _ _ ⟨rfl, rfl⟩
    generalize dgY K a2 = a3
    refine X_run rfl trivial ?_
    have hp1 := hpp.1
    refine Eg_iter (fun i (a : Int64) => Eg g (d + 6) mX9_digest 0 0 (Zr g _) 51 [(0, .ref X), (1, .long a), (3, .int (nI i))] [] (md S D)) (fun i acc => acc * 31 + (d_ai D (X + 9) i &&& 255).toInt64) l a3 (fun i hi k => ?_) ?_
    · generalize iter (fun i acc => acc * 31 + (d_ai D (X + 9) i &&& 255).toInt64) i a3 = a4 at k ⊢
      refine X_run rfl ?_ ?_
      · simp [md_s, md_w, rget, r_a, r_b, r_c, r_i, r_l, hx, hp1, hl]
      try simp only [md_s, md_w, rget_some, r_a, r_b, r_c, r_i, r_l, r_nx, r_pc, Nat.reduceEqDiff, false_and, if_false, hx, hp1, hl]
      refine X_icmp_ge rfl (fun c1 => no_le c1 hi (by omega)) (fun c1 => ?_)
      refine X_run rfl ?_ ?_
      · simp [md_s, md_w, rget, r_a, r_b, r_c, r_i, r_l, hx]
      try simp only [md_s, md_w, rget_some, r_a, r_b, r_c, r_i, r_l, r_nx, r_pc, Nat.reduceEqDiff, false_and, if_false, hx]
      refine X_cV (args := [.int (nI i)]) rfl (by decide) hp1 rfl rfl (Nat.le_of_ble_eq_true rfl) (c_B_at hpp hl hl2 hi) ?_
      rintro _ _ ⟨rfl, rfl⟩
      refine X_run rfl ?_ ?_
      · simp [md_s, md_w, rget, r_a, r_b, r_c, r_i, r_l, nI_s1]
      try simp only [md_s, md_w, rget_some, r_a, r_b, r_c, r_i, r_l, r_nx, r_pc, Nat.reduceEqDiff, false_and, if_false, nI_s1]
      exact Eg.sub k ⟨rfl, rfl, rfl, trivial⟩
    · have hz : iter (fun i acc => acc * 31 + (d_ai D (X + 9) i &&& 255).toInt64) l a3 = dgB (d_ai D (X + 9)) l a3 := rfl
      rw [hz]
      refine X_run rfl ?_ ?_
      · simp [md_s, md_w, rget, r_a, r_b, r_c, r_i, r_l, hx, hp1, hl]
      try simp only [md_s, md_w, rget_some, r_a, r_b, r_c, r_i, r_l, r_nx, r_pc, Nat.reduceEqDiff, false_and, if_false, hx, hp1, hl]
      refine X_icmp_ge rfl (fun c1 => ?_) (fun c1 => no_nle c1 (Nat.le_refl _) (by omega))
      refine X_run rfl trivial ?_
      exact X_lret rfl rfl ⟨rfl, rfl⟩
end DIGEST
