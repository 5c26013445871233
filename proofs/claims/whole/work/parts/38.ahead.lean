/-! what would be: on the second book -/
def hrs (K : KT) (i : Nat) : KT := iter (fun _ K => hourK K) i K
theorem hrs_1 (K : KT) (i : Nat) : hrs K (i + 1) = hourK (hrs K i) := rfl
theorem skel_hrs (K : KT) : ∀ i, skel (hrs K i) = skel K
  | 0 => rfl
  | i + 1 => (skel_hourK _).trans (skel_hrs K i)
def whenC (K : KT) (n : Nat) (i : Nat) : Bool := !decide (k_st (hrs K i) n = 0)
def whenI (K : KT) (n : Nat) : Nat := (firstIx 100 (whenC K n)).getD 100
def whenV (K : KT) (n i : Nat) : Int32 := if k_st (hrs K i) n = 1 then nI i else -1
def pWhen (K : KT) (n : Int32) : Except String Int32 := if inB n (k_ny K) = true then .ok (whenV K (iN n) (whenI K (iN n))) else .error eB
def addB (K : KT) (p m : Nat) (a : Int32) : KT := ks_ba K (up2n (k_ba K) p m (k_ba K p m + a))
theorem skel_addB (K : KT) (p m : Nat) (a : Int32) : skel (addB K p m a) = skel K := rfl
theorem addB_undo (K : KT) (p m : Nat) (a : Int32) : addB (addB K p m a) p m (-a) = K := by
  have e : addB (addB K p m a) p m (-a) = ks_ba (addB K p m a) (up2n (up2n (k_ba K) p m (k_ba K p m + a)) p m (up2n (k_ba K) p m (k_ba K p m + a) p m + -a)) := rfl
  rw [e, up2n_self, up2n_undo (by rw [Int32.add_assoc, Int32.add_right_neg, Int32.add_zero])]
  rfl
def depK (K : KT) (p m : Nat) (i : Nat) : KT := iter (fun _ K => addB K p m 500) i K
theorem depK_1 (K : KT) (p m i : Nat) : depK K p m (i + 1) = addB (depK K p m i) p m 500 := rfl
theorem skel_depK (K : KT) (p m : Nat) : ∀ i, skel (depK K p m i) = skel K
  | 0 => rfl
  | i + 1 => (skel_addB _ p m 500).trans (skel_depK K p m i)
def none0 (K : KT) (p : Nat) : Bool := noneOf K (takes0 K, net0 K (k_ny K)) (nI p)
def frV (o : Option Nat) : Int32 := match o with
  | some i => nI (500 * i)
  | none => -1
def pFrees (K : KT) (x m : Int32) : Except String Int32 := if inB x (k_np K) = true ∧ inB m (k_nm K) = true then .ok (frV (firstIx 101 (fun i => none0 (depK K (iN x) (iN m) i) (iN x)))) else .error eB
def advC (K : KT) (m : Nat) (a : Int32) (p : Nat) : Int32 := cntT (addB K p m a) (outK (addB K p m a)).1
def advS (K : KT) (m : Nat) (a : Int32) (p : Nat) (s : Int32 × Int32) : Int32 × Int32 := if s.2 < advC K m a p then (nI p, advC K m a p) else s
def pAdvise (K : KT) (m a : Int32) : Except String Int32 :=
  if inB m (k_nm K) = true then (if inR a 1 100000 = true then .ok (iter (advS K (iN m) a) (k_np K) (-1, cntT K (outK K).1)).1 else .error eA) else .error eB
def mn (x y : Int32) : Int32 := if y < x then y else x
def rng3 (f : Nat → Int32) (a b c : Nat) : Int32 := mn (f (a * 10 + b)) (mn (f (b * 10 + c)) (f (c * 10 + a)))
def rngC (f : Nat → Int32) (a b c : Nat) (s : Int32 × Int32) : Int32 × Int32 := if s.2 < rng3 f a b c then (100 * nI a + 10 * nI b + nI c, rng3 f a b c) else s
def rngB (f : Nat → Int32) (n a b : Nat) (s : Int32 × Int32) : Int32 × Int32 := iter (fun j => rngC f a b (a + 1 + j)) (n - (a + 1)) s
def rngA (f : Nat → Int32) (n a : Nat) (s : Int32 × Int32) : Int32 × Int32 := iter (fun j => rngB f n a (a + 1 + j)) (n - (a + 1)) s
def rng (f : Nat → Int32) (n : Nat) : Int32 × Int32 := iter (rngA f n) n (-1, 0)
def pRing (K : KT) (m : Int32) : Except String Int32 := if inB m (k_nm K) = true then .ok (rng (dbt K (iN m)) (k_np K)).1 else .error eB
section AHEAD
variable {g : GG} {d : Nat} {S : ShT} {D : DaT} {X : Nat} {K : KT}
theorem c_when {n : Int32} (hX : DkL S X) (hW : WfK K) (hR : RepC D (X + 11) K) : EvX g (d + 7) mX9_when 1 6 [.ref X, .int n] (md S D) (Da S D X K (pWhen K n)) (AskX (md S D) (pWhen K n)) := by
  obtain ⟨hx, -, -, hN, hL, hN2, hL2, -⟩ := id hX
  obtain ⟨w1, w2, w3, -⟩ := id hW
  refine EvX.mk (by decide) (Nat.le_of_ble_eq_true rfl) ?_
  refine X_run rfl trivial ?_
  refine X_cV (args := [.int n]) rfl (by decide) hx.1 rfl rfl (Nat.le_of_ble_eq_true rfl) (c_isPayment hX hR) ?_
  rintro _ _ ⟨rfl, rfl⟩
  refine X_if_ne rfl (fun c1 => ?_) (fun c1 => X_throwW ⟨rfl, rfl, rfl, rfl, rfl⟩ (by decide) rfl i_eB s_275 (Nat.zero_le _) (fun k => ⟨by rw [pWhen, if_neg (nb2i c1)], k, rfl⟩))
  have c1 := b2i_nz c1
  obtain ⟨u, hu, rfl⟩ := (inB_iff (by omega)).mp c1
  have eu : iN (nI u) = u := iN_nI (by omega)
  have hu2 : u < 60 := by omega
  have hy := hL2.2.2.2 u hu2
  refine X_run rfl ?_ ?_
  · simp [md_s, md_w, rget, r_a, r_b, r_c, r_i, r_l, hx]
  try simp only [md_s, md_w, rget_some, r_a, r_b, r_c, r_i, r_l, r_nx, r_pc, Nat.reduceEqDiff, false_and, if_false, hx]
  refine X_cV (args := [.ref (X + 11)]) rfl (by decide) hL2.1.1 rfl rfl (Nat.le_of_ble_eq_true rfl) (c_copyBook hL2 hL hW hR (by omega)) ?_
  rintro _ _ ⟨D1, rfl, rfl, hR1, hO1⟩
  refine X_run rfl ?_ ?_
  · simp [md_s, md_w, rget, r_a, r_b, r_c, r_i, r_l, hx]
  try simp only [md_s, md_w, rget_some, r_a, r_b, r_c, r_i, r_l, r_nx, r_pc, Nat.reduceEqDiff, false_and, if_false, hx]
  refine X_cV (args := [.int (nI u)]) rfl (by decide) hL2.1.1 rfl rfl (Nat.le_of_ble_eq_true rfl) (c_paymentAt hL2 hu2) ?_
  rintro _ _ ⟨rfl, rfl⟩
  refine X_run rfl trivial ?_
  have fin : ∀ i D', whenI K u = i → i ≤ 100 → RepC D' (X + 151) (hrs K i) → Out (X + 151) (X + 290) D D' → Eg g (d + 7) mX9_when 1 6 (Zx g (Da S D X K (pWhen K (nI u))) (AskX (md S D) (pWhen K (nI u)))) 75 [(2, .ref (ya (X + 151) u)), (3, .int (nI i))] [] (md S D') := fun i D' hi hi2 hR2 hO2 => by
    have hny : k_ny (hrs K i) = k_ny K := congrArg (fun z => z.2.2.1) (skel_hrs K i)
    have hv := hR2.2.2.2 u (by omega)
    have hR3 : RepC D' (X + 11) K := hR.out hW hO2 (by omega)
    have hO3 : Out (X + 10) (X + 292) D D' := hO2.wide (by omega) (by omega)
    refine X_run rfl ?_ ?_
    · simp [md_s, md_w, rget, r_a, r_b, r_c, r_i, r_l, hy, hv]
    try simp only [md_s, md_w, rget_some, r_a, r_b, r_c, r_i, r_l, r_nx, r_pc, Nat.reduceEqDiff, false_and, if_false, hy, hv]
    refine X_icmp_ne rfl (fun c2 => ?_) (fun c2 => ?_)
    · refine X_run rfl trivial ?_
      exact Eg.zx (X_iret rfl rfl ⟨D', _, by rw [pWhen, if_pos c1, eu, hi, whenV, if_neg c2], rfl, rfl, hR3, hO3⟩)
    · refine X_run rfl trivial ?_
      exact Eg.zx (X_iret rfl rfl ⟨D', _, by rw [pWhen, if_pos c1, eu, hi, whenV, if_pos c2], rfl, rfl, hR3, hO3⟩)
  refine Eg.sub (ls' := [(0, .ref X), (2, .ref (ya (X + 151) u)), (3, .int (nI 0))]) ?_ ⟨rfl, rfl, rfl, trivial⟩
  refine Eg_find (E := fun i => ∀ D', RepC D' (X + 151) (hrs K i) ∧ Out (X + 151) (X + 290) D D' → Eg g (d + 7) mX9_when 1 6 (Zx g (Da S D X K (pWhen K (nI u))) (AskX (md S D) (pWhen K (nI u)))) 41 [(0, .ref X), (2, .ref (ya (X + 151) u)), (3, .int (nI i))] [] (md S D')) (c := whenC K u) 100 (fun i hi hf hc D' hI => ?_) (fun i hi hc k D' hI => ?_) (fun hf D' hI => ?_) D1 ⟨hR1, hO1⟩
  · obtain ⟨hR2, hO2⟩ := hI
    have hny : k_ny (hrs K i) = k_ny K := congrArg (fun z => z.2.2.1) (skel_hrs K i)
    have hv := hR2.2.2.2 u (by omega)
    refine X_run rfl trivial ?_
    refine X_icmp_ge rfl (fun c2 => no_le (b := i) (a := 100) c2 hi (by omega)) (fun c2 => ?_)
    refine X_run rfl ?_ ?_
    · simp [md_s, md_w, rget, r_a, r_b, r_c, r_i, r_l, hy, hv]
    try simp only [md_s, md_w, rget_some, r_a, r_b, r_c, r_i, r_l, r_nx, r_pc, Nat.reduceEqDiff, false_and, if_false, hy, hv]
    refine X_if_ne rfl (fun c3 => Eg.sub (fin i D' (by rw [whenI, hf]; rfl) (by omega) hR2 hO2) ⟨rfl, rfl, trivial⟩) (fun c3 => ?_)
    unfold whenC at hc
    rw [decide_eq_true c3] at hc
    cases hc
  · obtain ⟨hR2, hO2⟩ := hI
    have hny : k_ny (hrs K i) = k_ny K := congrArg (fun z => z.2.2.1) (skel_hrs K i)
    have hv := hR2.2.2.2 u (by omega)
    have hW2 := skel_wf (skel_hrs K i) hW
    refine X_run rfl trivial ?_
    refine X_icmp_ge rfl (fun c2 => no_le (b := i) (a := 100) c2 hi (by omega)) (fun c2 => ?_)
    refine X_run rfl ?_ ?_
    · simp [md_s, md_w, rget, r_a, r_b, r_c, r_i, r_l, hy, hv]
    try simp only [md_s, md_w, rget_some, r_a, r_b, r_c, r_i, r_l, r_nx, r_pc, Nat.reduceEqDiff, false_and, if_false, hy, hv]
    refine X_if_ne rfl (fun c3 => ?_) (fun c3 => ?_)
    · unfold whenC at hc
      rw [decide_eq_false c3] at hc
      cases hc
    refine X_run rfl ?_ ?_
    · simp [md_s, md_w, rget, r_a, r_b, r_c, r_i, r_l, hx]
    try simp only [md_s, md_w, rget_some, r_a, r_b, r_c, r_i, r_l, r_nx, r_pc, Nat.reduceEqDiff, false_and, if_false, hx]
    refine X_cV rfl (by decide) hN2.1 rfl rfl (Nat.le_of_ble_eq_true rfl) (c_settle hN2 hL2 hW2 hR2) ?_
    rintro _ _ ⟨D3, rfl, rfl, hR3, hO3⟩
    have hW3 := skel_wf (skel_settleK (hrs K i)) hW2
    refine X_run rfl ?_ ?_
    · simp [md_s, md_w, rget, r_a, r_b, r_c, r_i, r_l, hx]
    try simp only [md_s, md_w, rget_some, r_a, r_b, r_c, r_i, r_l, r_nx, r_pc, Nat.reduceEqDiff, false_and, if_false, hx]
    refine X_cV rfl (by decide) hL2.1.1 rfl rfl (Nat.le_of_ble_eq_true rfl) (c_endHour hL2 hW3 hR3) ?_
    rintro _ _ ⟨D4, rfl, rfl, hR4, hO4⟩
    refine X_run rfl ?_ ?_
    · simp [md_s, md_w, rget, r_a, r_b, r_c, r_i, r_l, nI_s1]
    try simp only [md_s, md_w, rget_some, r_a, r_b, r_c, r_i, r_l, r_nx, r_pc, Nat.reduceEqDiff, false_and, if_false, nI_s1]
    exact Eg.sub (k D4 ⟨by rw [hrs_1]; exact hR4, (hO2.tr (hO3.wide (by omega) (by omega))).tr (hO4.wide (by omega) (by omega))⟩) ⟨rfl, rfl, rfl, trivial⟩
  · obtain ⟨hR2, hO2⟩ := hI
    refine X_run rfl trivial ?_
    refine X_icmp_ge rfl (fun c2 => Eg.sub (fin 100 D' (by rw [whenI, hf]; rfl) (by omega) hR2 hO2) ⟨rfl, rfl, trivial⟩) (fun c2 => absurd (show (100 : Int32) ≤ nI 100 by decide) c2)
theorem c_frees {x m : Int32} (hX : DkL S X) (hW : WfK K) (hR : RepC D (X + 11) K) : EvX g (d + 6) mX9_frees 1 6 [.ref X, .int x, .int m] (md S D) (Da S D X K (pFrees K x m)) (AskX (md S D) (pFrees K x m)) := by
  obtain ⟨hx, -, -, hN, hL, hN2, hL2, -⟩ := id hX
  obtain ⟨w1, w2, w3, -⟩ := id hW
  have no : ¬ (inB x (k_np K) = true ∧ inB m (k_nm K) = true) → Eg g (d + 6) mX9_frees 1 6 (Zx g (Da S D X K (pFrees K x m)) (AskX (md S D) (pFrees K x m))) 16 [] [] (md S D) := fun hz =>
    X_throw ⟨rfl, rfl, rfl, rfl, rfl⟩ (by decide) rfl i_eB s_209 (Nat.zero_le _) (fun k => ⟨by rw [pFrees, if_neg hz], k, rfl⟩)
  refine EvX.mk (by decide) (Nat.le_of_ble_eq_true rfl) ?_
  refine X_run rfl trivial ?_
  refine X_cV (args := [.int x]) rfl (by decide) hx.1 rfl rfl (Nat.le_of_ble_eq_true rfl) (c_isParty hX hR) ?_
  rintro _ _ ⟨rfl, rfl⟩
  refine X_if_eq rfl (fun c1 => Eg.sub (no (fun z => nb2i c1 z.1)) trivial) (fun c1 => ?_)
  have c1 := b2i_nz c1
  refine X_run rfl trivial ?_
  refine X_cV (args := [.int m]) rfl (by decide) hx.1 rfl rfl (Nat.le_of_ble_eq_true rfl) (c_isMoney hX hR) ?_
  rintro _ _ ⟨rfl, rfl⟩
  refine X_if_ne rfl (fun c2 => ?_) (fun c2 => Eg.sub (no (fun z => nb2i c2 z.2)) trivial)
  have c2 := b2i_nz c2
  obtain ⟨j, hj, rfl⟩ := (inB_iff (by omega)).mp c1
  obtain ⟨u, hu, rfl⟩ := (inB_iff (by omega)).mp c2
  have ej : iN (nI j) = j := iN_nI (by omega)
  have eu : iN (nI u) = u := iN_nI (by omega)
  have hj2 : j < 10 := by omega
  have hu2 : u < 5 := by omega
  obtain ⟨hq, hr1, -⟩ := hL2.2.1 j hj2
  refine X_run rfl ?_ ?_
  · simp [md_s, md_w, rget, r_a, r_b, r_c, r_i, r_l, hx]
  try simp only [md_s, md_w, rget_some, r_a, r_b, r_c, r_i, r_l, r_nx, r_pc, Nat.reduceEqDiff, false_and, if_false, hx]
  refine X_cV (args := [.ref (X + 11)]) rfl (by decide) hL2.1.1 rfl rfl (Nat.le_of_ble_eq_true rfl) (c_copyBook hL2 hL hW hR (by omega)) ?_
  rintro _ _ ⟨D1, rfl, rfl, hR1, hO1⟩
  refine X_run rfl trivial ?_
  have e0 : pFrees K (nI j) (nI u) = .ok (frV (firstIx 101 (fun i => none0 (depK K j u i) j))) := by rw [pFrees, if_pos ⟨c1, c2⟩, ej, eu]
  have ans : ∀ D', Out (X + 151) (X + 290) D D' → Da S D X K (pFrees K (nI j) (nI u)) (some (.int (frV (firstIx 101 (fun i => none0 (depK K j u i) j))))) (md S D') := fun D' hO => ⟨D', _, e0, rfl, rfl, hR.out hW hO (by omega), hO.wide (by omega) (by omega)⟩
  have ld : ∀ i, i < 101 → ¬ (50000 : Int32) < nI (500 * i) := fun i hi z => by
    rw [show (50000 : Int32) = nI 50000 from rfl, nI_ltI (by omega) (by omega)] at z
    omega
  refine Eg_find (E := fun i => ∀ D', RepC D' (X + 151) (depK K j u i) ∧ Out (X + 151) (X + 290) D D' → Eg g (d + 6) mX9_frees 1 6 (Zx g (Da S D X K (pFrees K (nI j) (nI u))) (AskX (md S D) (pFrees K (nI j) (nI u)))) 39 [(0, .ref X), (1, .int (nI j)), (2, .int (nI u)), (3, .int (nI (500 * i)))] [] (md S D')) (c := fun i => none0 (depK K j u i) j) 101 (fun i hi hf hc D' hI => ?_) (fun i hi hc k D' hI => ?_) (fun hf D' hI => ?_) D1 ⟨hR1, hO1⟩
  · obtain ⟨hR2, hO2⟩ := hI
    have hW2 := skel_wf (skel_depK K j u i) hW
    refine X_run rfl trivial ?_
    refine X_icmp_gt rfl (fun c3 => absurd c3 (ld i hi)) (fun c3 => ?_)
    refine X_run rfl ?_ ?_
    · simp [md_s, md_w, rget, r_a, r_b, r_c, r_i, r_l, hx]
    try simp only [md_s, md_w, rget_some, r_a, r_b, r_c, r_i, r_l, r_nx, r_pc, Nat.reduceEqDiff, false_and, if_false, hx]
    refine X_cV rfl (by decide) hN2.1 rfl rfl (Nat.le_of_ble_eq_true rfl) (c_begin hN2 hL2 hW2 hR2) ?_
    rintro _ _ ⟨D3, rfl, rfl, hR3, hU3, hO3⟩
    refine X_run rfl ?_ ?_
    · simp [md_s, md_w, rget, r_a, r_b, r_c, r_i, r_l, hx]
    try simp only [md_s, md_w, rget_some, r_a, r_b, r_c, r_i, r_l, r_nx, r_pc, Nat.reduceEqDiff, false_and, if_false, hx]
    refine X_cV (args := [.int (nI j)]) rfl (by decide) hN2.1 rfl rfl (Nat.le_of_ble_eq_true rfl) (c_noneOf (r := (takes0 (depK K j u i), net0 (depK K j u i) (k_ny (depK K j u i)))) hN2 hL2 hW2 hR3 hU3) ?_
    rintro _ _ ⟨D4, rfl, rfl, hR4, hO4⟩
    refine X_if_eq rfl (fun c4 => absurd hc (nb2i c4)) (fun c4 => ?_)
    refine X_run rfl trivial ?_
    refine Eg.zx (X_iret rfl rfl ?_)
    have := ans D4 ((hO2.tr (hO3.wide (by omega) (by omega))).tr (hO4.wide (by omega) (by omega)))
    rw [hf] at this
    exact this
  · obtain ⟨hR2, hO2⟩ := hI
    have hW2 := skel_wf (skel_depK K j u i) hW
    refine X_run rfl trivial ?_
    refine X_icmp_gt rfl (fun c3 => absurd c3 (ld i hi)) (fun c3 => ?_)
    refine X_run rfl ?_ ?_
    · simp [md_s, md_w, rget, r_a, r_b, r_c, r_i, r_l, hx]
    try simp only [md_s, md_w, rget_some, r_a, r_b, r_c, r_i, r_l, r_nx, r_pc, Nat.reduceEqDiff, false_and, if_false, hx]
    refine X_cV rfl (by decide) hN2.1 rfl rfl (Nat.le_of_ble_eq_true rfl) (c_begin hN2 hL2 hW2 hR2) ?_
    rintro _ _ ⟨D3, rfl, rfl, hR3, hU3, hO3⟩
    refine X_run rfl ?_ ?_
    · simp [md_s, md_w, rget, r_a, r_b, r_c, r_i, r_l, hx]
    try simp only [md_s, md_w, rget_some, r_a, r_b, r_c, r_i, r_l, r_nx, r_pc, Nat.reduceEqDiff, false_and, if_false, hx]
    refine X_cV (args := [.int (nI j)]) rfl (by decide) hN2.1 rfl rfl (Nat.le_of_ble_eq_true rfl) (c_noneOf (r := (takes0 (depK K j u i), net0 (depK K j u i) (k_ny (depK K j u i)))) hN2 hL2 hW2 hR3 hU3) ?_
    rintro _ _ ⟨D4, rfl, rfl, hR4, hO4⟩
    refine X_if_eq rfl (fun c4 => ?_) (fun c4 => absurd ((show none0 (depK K j u i) j = true from b2i_nz c4).symm.trans hc) (by decide))
    refine X_run rfl ?_ ?_
    · simp [md_s, md_w, rget, r_a, r_b, r_c, r_i, r_l, hx]
    try simp only [md_s, md_w, rget_some, r_a, r_b, r_c, r_i, r_l, r_nx, r_pc, Nat.reduceEqDiff, false_and, if_false, hx]
    refine X_cV (args := [.int (nI j)]) rfl (by decide) hL2.1.1 rfl rfl (Nat.le_of_ble_eq_true rfl) (c_partyAt hL2 hj2) ?_
    rintro _ _ ⟨rfl, rfl⟩
    refine X_run rfl ?_ ?_
    · simp [md_s, md_w, rget, r_a, r_b, r_c, r_i, r_l, hq]
    try simp only [md_s, md_w, rget_some, r_a, r_b, r_c, r_i, r_l, r_nx, r_pc, Nat.reduceEqDiff, false_and, if_false, hq]
    refine X_cV (args := [.int (nI u), .int 500]) rfl (by decide) hr1.1 rfl rfl (Nat.le_of_ble_eq_true rfl) (c_Row_add hr1 hu2) ?_
    rintro _ _ ⟨rfl, rfl⟩
    have hnp : k_np (depK K j u i) = k_np K := congrArg (fun z => z.1) (skel_depK K j u i)
    rw [((hR4.2.1 j (by omega)).2 u hu2).1]
    have hR5 := hR4.ba (p := j) (m := u) (k_ba (depK K j u i) j u + 500)
    have hO5 : Out (X + 151) (X + 290) D4 (pai D4 (pa (X + 151) j + 2) u (k_ba (depK K j u i) j u + 500)) := Out.ai (by unfold pa; omega)
    generalize pai D4 (pa (X + 151) j + 2) u (k_ba (depK K j u i) j u + 500) = D5 at hR5 hO5 ⊢
    have e5 : nI (500 * i) + 500 = nI (500 * (i + 1)) := by rw [show (500 : Int32) = nI 500 from rfl, nI_add, Nat.mul_add]
    refine X_run rfl ?_ ?_
    · simp [md_s, md_w, rget, r_a, r_b, r_c, r_i, r_l, e5]
    try simp only [md_s, md_w, rget_some, r_a, r_b, r_c, r_i, r_l, r_nx, r_pc, Nat.reduceEqDiff, false_and, if_false, e5]
    exact k D5 ⟨hR5, ((hO2.tr (hO3.wide (by omega) (by omega))).tr (hO4.wide (by omega) (by omega))).tr hO5⟩
  · obtain ⟨hR2, hO2⟩ := hI
    refine X_run rfl trivial ?_
    refine X_icmp_gt rfl (fun c3 => ?_) (fun c3 => absurd (show (50000 : Int32) < nI (500 * 101) by decide) c3)
    refine X_run rfl trivial ?_
    refine Eg.zx (X_iret rfl rfl ?_)
    have := ans D' hO2
    rw [hf] at this
    exact this
theorem c_advise {m a : Int32} (hX : DkL S X) (hW : WfK K) (hR : RepC D (X + 11) K) : EvX g (d + 7) mX9_advise 1 6 [.ref X, .int m, .int a] (md S D) (Da S D X K (pAdvise K m a)) (AskX (md S D) (pAdvise K m a)) := by
  obtain ⟨hx, -, -, hN, hL, hN2, hL2, -⟩ := id hX
  obtain ⟨w1, w2, w3, -⟩ := id hW
  refine EvX.mk (by decide) (Nat.le_of_ble_eq_true rfl) ?_
  refine X_run rfl trivial ?_
  refine X_cV (args := [.int m]) rfl (by decide) hx.1 rfl rfl (Nat.le_of_ble_eq_true rfl) (c_isMoney hX hR) ?_
  rintro _ _ ⟨rfl, rfl⟩
  refine X_if_ne rfl (fun c1 => ?_) (fun c1 => X_throw ⟨rfl, rfl, rfl, rfl, rfl⟩ (by decide) rfl i_eB s_205 (Nat.zero_le _) (fun k => ⟨by rw [pAdvise, if_neg (nb2i c1)], k, rfl⟩))
  have c1 := b2i_nz c1
  obtain ⟨u, hu, rfl⟩ := (inB_iff (by omega)).mp c1
  have hu2 : u < 5 := by omega
  have eu : iN (nI u) = u := iN_nI (by omega)
  refine X_run rfl trivial ?_
  refine X_cS (args := [.int a, .int 1, .int 100000]) rfl (by decide) rfl rfl (Nat.le_of_ble_eq_true rfl) c_isFrom ?_
  rintro _ _ ⟨rfl, rfl⟩
  rw [if_b2i, show decide (1 ≤ a ∧ a ≤ 100000) = inR a 1 100000 from rfl]
  refine X_if_ne rfl (fun c3 => ?_) (fun c3 => X_throw ⟨rfl, rfl, rfl, rfl, rfl⟩ (by decide) rfl i_eA s_218 (Nat.zero_le _) (fun k => ⟨by rw [pAdvise, if_pos c1, if_neg (nb2i c3)], k, rfl⟩))
  have c3 := b2i_nz c3
  refine X_run rfl ?_ ?_
  · simp [md_s, md_w, rget, r_a, r_b, r_c, r_i, r_l, hx]
  try simp only [md_s, md_w, rget_some, r_a, r_b, r_c, r_i, r_l, r_nx, r_pc, Nat.reduceEqDiff, false_and, if_false, hx]
  refine X_cV (args := [.ref (X + 11)]) rfl (by decide) hL2.1.1 rfl rfl (Nat.le_of_ble_eq_true rfl) (c_copyBook hL2 hL hW hR (by omega)) ?_
  rintro _ _ ⟨D1, rfl, rfl, hR1, hO1⟩
  refine X_run rfl ?_ ?_
  · simp [md_s, md_w, rget, r_a, r_b, r_c, r_i, r_l, hx]
  try simp only [md_s, md_w, rget_some, r_a, r_b, r_c, r_i, r_l, r_nx, r_pc, Nat.reduceEqDiff, false_and, if_false, hx]
  refine X_cV rfl (by decide) hN2.1 rfl rfl (Nat.le_of_ble_eq_true rfl) (c_countSettling hN2 hL2 hW hR1) ?_
  rintro _ _ ⟨D2, rfl, rfl, hR2, hO2⟩
  refine X_run rfl trivial ?_
  refine Eg_up (α := DaT) (fun i D' => Eg g (d + 7) mX9_advise 1 6 (Zx g _ _) 63 [(0, .ref X), (1, .int (nI u)), (2, .int a), (3, .int (iter (advS K u a) i (-1, cntT K (outK K).1)).1), (4, .int (iter (advS K u a) i (-1, cntT K (outK K).1)).2), (5, .int (nI i))] [] (md S D')) (fun i D' => RepC D' (X + 151) K ∧ Out (X + 151) (X + 290) D D') (k_np K) (fun i D3 hi hI k => ?_) (fun D3 hI => ?_) D2 ⟨hR2, hO1.tr (hO2.wide (by omega) (by omega))⟩
  · obtain ⟨hR3, hO3⟩ := hI
    have hi2 : i < 10 := by omega
    obtain ⟨hq, hr1, -⟩ := hL2.2.1 i hi2
    have hb2 := hL2.1
    have hc3 := hR3.1
    have e1 : iter (advS K u a) (i + 1) (-1, cntT K (outK K).1) = advS K u a i (iter (advS K u a) i (-1, cntT K (outK K).1)) := rfl
    rw [e1] at k
    generalize iter (advS K u a) i (-1, cntT K (outK K).1) = s at k ⊢
    refine X_run rfl ?_ ?_
    · simp [md_s, md_w, rget, r_a, r_b, r_c, r_i, r_l, hx, hc3, hb2]
    try simp only [md_s, md_w, rget_some, r_a, r_b, r_c, r_i, r_l, r_nx, r_pc, Nat.reduceEqDiff, false_and, if_false, hx, hc3, hb2]
    refine X_icmp_ge rfl (fun c4 => no_le c4 hi (by omega)) (fun c4 => ?_)
    refine X_run rfl ?_ ?_
    · simp [md_s, md_w, rget, r_a, r_b, r_c, r_i, r_l, hx]
    try simp only [md_s, md_w, rget_some, r_a, r_b, r_c, r_i, r_l, r_nx, r_pc, Nat.reduceEqDiff, false_and, if_false, hx]
    refine X_cV (args := [.int (nI i)]) rfl (by decide) hL2.1.1 rfl rfl (Nat.le_of_ble_eq_true rfl) (c_partyAt hL2 hi2) ?_
    rintro _ _ ⟨rfl, rfl⟩
    refine X_run rfl ?_ ?_
    · simp [md_s, md_w, rget, r_a, r_b, r_c, r_i, r_l, hq]
    try simp only [md_s, md_w, rget_some, r_a, r_b, r_c, r_i, r_l, r_nx, r_pc, Nat.reduceEqDiff, false_and, if_false, hq]
    refine X_cV (args := [.int (nI u), .int a]) rfl (by decide) hr1.1 rfl rfl (Nat.le_of_ble_eq_true rfl) (c_Row_add hr1 hu2) ?_
    rintro _ _ ⟨rfl, rfl⟩
    rw [((hR3.2.1 i hi).2 u hu2).1]
    have hR4 : RepC (pai D3 (pa (X + 151) i + 2) u (k_ba K i u + a)) (X + 151) (addB K i u a) := hR3.ba (p := i) (m := u) (k_ba K i u + a)
    have hO4 : Out (X + 151) (X + 290) D3 (pai D3 (pa (X + 151) i + 2) u (k_ba K i u + a)) := Out.ai (by unfold pa; omega)
    generalize pai D3 (pa (X + 151) i + 2) u (k_ba K i u + a) = D4 at hR4 hO4 ⊢
    have hW4 := skel_wf (skel_addB K i u a) hW
    refine X_run rfl ?_ ?_
    · simp [md_s, md_w, rget, r_a, r_b, r_c, r_i, r_l, hx]
    try simp only [md_s, md_w, rget_some, r_a, r_b, r_c, r_i, r_l, r_nx, r_pc, Nat.reduceEqDiff, false_and, if_false, hx]
    refine X_cV rfl (by decide) hN2.1 rfl rfl (Nat.le_of_ble_eq_true rfl) (c_countSettling hN2 hL2 hW4 hR4) ?_
    rintro _ _ ⟨D5, rfl, rfl, hR5, hO5⟩
    refine X_run rfl trivial ?_
    refine X_cV (args := [.int (nI u), .int (-a)]) rfl (by decide) hr1.1 rfl rfl (Nat.le_of_ble_eq_true rfl) (c_Row_add hr1 hu2) ?_
    rintro _ _ ⟨rfl, rfl⟩
    rw [((hR5.2.1 i hi).2 u hu2).1]
    have hR6 : RepC (pai D5 (pa (X + 151) i + 2) u (k_ba (addB K i u a) i u + -a)) (X + 151) (addB (addB K i u a) i u (-a)) := hR5.ba (p := i) (m := u) (k_ba (addB K i u a) i u + -a)
    rw [addB_undo] at hR6
    have hO6 : Out (X + 151) (X + 290) D5 (pai D5 (pa (X + 151) i + 2) u (k_ba (addB K i u a) i u + -a)) := Out.ai (by unfold pa; omega)
    generalize pai D5 (pa (X + 151) i + 2) u (k_ba (addB K i u a) i u + -a) = D6 at hR6 hO6 ⊢
    have hO7 : Out (X + 151) (X + 290) D D6 := ((hO3.tr hO4).tr (hO5.wide (by omega) (by omega))).tr hO6
    have k := k D6 ⟨hR6, hO7⟩
    change Eg g (d + 7) mX9_advise 1 6 _ 63 _ _ _ at k
    have ec : cntT (addB K i u a) (outK (addB K i u a)).1 = advC K u a i := rfl
    rw [ec]
    unfold advS at k
    refine X_run rfl trivial ?_
    refine X_icmp_le rfl (fun c5 => ?_) (fun c5 => ?_)
    · refine X_run rfl ?_ ?_
      · simp [md_s, md_w, rget, r_a, r_b, r_c, r_i, r_l, nI_s1]
      try simp only [md_s, md_w, rget_some, r_a, r_b, r_c, r_i, r_l, r_nx, r_pc, Nat.reduceEqDiff, false_and, if_false, nI_s1]
      rw [if_neg (Int32.not_lt.mpr c5)] at k
      exact Eg.sub k ⟨rfl, rfl, rfl, rfl, rfl, rfl, trivial⟩
    · refine X_run rfl ?_ ?_
      · simp [md_s, md_w, rget, r_a, r_b, r_c, r_i, r_l, nI_s1]
      try simp only [md_s, md_w, rget_some, r_a, r_b, r_c, r_i, r_l, r_nx, r_pc, Nat.reduceEqDiff, false_and, if_false, nI_s1]
      rw [if_pos (Int32.not_le.mp c5)] at k
      exact Eg.sub k ⟨rfl, rfl, rfl, rfl, rfl, rfl, trivial⟩
  · obtain ⟨hR3, hO3⟩ := hI
    have hb2 := hL2.1
    have hc3 := hR3.1
    refine X_run rfl ?_ ?_
    · simp [md_s, md_w, rget, r_a, r_b, r_c, r_i, r_l, hx, hc3, hb2]
    try simp only [md_s, md_w, rget_some, r_a, r_b, r_c, r_i, r_l, r_nx, r_pc, Nat.reduceEqDiff, false_and, if_false, hx, hc3, hb2]
    refine X_icmp_ge rfl (fun c4 => ?_) (fun c4 => no_nle c4 (Nat.le_refl _) (by omega))
    refine X_run rfl trivial ?_
    exact Eg.zx (X_iret rfl rfl ⟨D3, _, by rw [pAdvise, if_pos c1, if_pos c3, eu], rfl, rfl, hR.out hW hO3 (by omega), hO3.wide (by omega) (by omega)⟩)
theorem c_ring {m : Int32} (hX : DkL S X) (hW : WfK K) (hR : RepC D (X + 11) K) : EvX g (d + 6) mX9_ring 1 6 [.ref X, .int m] (md S D) (Da S D X K (pRing K m)) (AskX (md S D) (pRing K m)) := by
  obtain ⟨hx, -, -, hN, hL, -⟩ := id hX
  obtain ⟨w1, w2, w3, -⟩ := id hW
  have hb := hL.1
  refine EvX.mk (by decide) (Nat.le_of_ble_eq_true rfl) ?_
  refine X_run rfl trivial ?_
  refine X_cV (args := [.int m]) rfl (by decide) hx.1 rfl rfl (Nat.le_of_ble_eq_true rfl) (c_isMoney hX hR) ?_
  rintro _ _ ⟨rfl, rfl⟩
  refine X_if_ne rfl (fun c1 => ?_) (fun c1 => X_throw ⟨rfl, rfl, rfl, rfl, rfl⟩ (by decide) rfl i_eB s_205 (Nat.zero_le _) (fun k => ⟨by rw [pRing, if_neg (nb2i c1)], k, rfl⟩))
  have c1 := b2i_nz c1
  obtain ⟨u, hu, rfl⟩ := (inB_iff (by omega)).mp c1
  have hu2 : u < 5 := by omega
  have eu : iN (nI u) = u := iN_nI (by omega)
  refine X_run rfl trivial ?_
  refine X_cV (args := [.int (nI u)]) rfl (by decide) hx.1 rfl rfl (Nat.le_of_ble_eq_true rfl) (c_fillDebts hX hW hR hu) ?_
  rintro _ _ ⟨D1, rfl, rfl, hR1, hv, hO⟩
  have hc := hR1.1
  have post : Da S D X K (pRing K (nI u)) (some (.int (rng (dbt K u) (k_np K)).1)) (md S D1) := ⟨D1, _, by rw [pRing, if_pos c1, eu], rfl, rfl, hR1, hO.out (by omega)⟩
  generalize dbt K u = f at hv post
  generalize hnn : k_np K = n at *
  generalize pRing K (nI u) = ans at post ⊢
  refine X_run rfl trivial ?_
  refine Eg.sub (ls' := [(0, .ref X), (2, .int (-1)), (3, .int 0), (4, .int (nI 0))]) ?_ ⟨rfl, rfl, rfl, rfl, trivial⟩
  refine Eg_iter (fun a (s : Int32 × Int32) => Eg g (d + 6) mX9_ring 1 6 (Zx g _ _) 30 [(0, .ref X), (2, .int s.1), (3, .int s.2), (4, .int (nI a))] [] (md S D1)) (rngA f n) n (-1, 0) (fun a ha k => ?_) ?_
  · generalize iter (rngA f n) a (-1, 0) = s at k ⊢
    refine X_run rfl ?_ ?_
    · simp [md_s, md_w, rget, r_a, r_b, r_c, r_i, r_l, hx, hb, hc]
    try simp only [md_s, md_w, rget_some, r_a, r_b, r_c, r_i, r_l, r_nx, r_pc, Nat.reduceEqDiff, false_and, if_false, hx, hb, hc]
    refine X_icmp_ge rfl (fun c4 => no_le c4 ha (by omega)) (fun c4 => ?_)
    refine X_run rfl ?_ ?_
    · simp [md_s, md_w, rget, r_a, r_b, r_c, r_i, r_l, nI_s1]
    try simp only [md_s, md_w, rget_some, r_a, r_b, r_c, r_i, r_l, r_nx, r_pc, Nat.reduceEqDiff, false_and, if_false, nI_s1]
    refine Eg.sub (ls' := [(0, .ref X), (2, .int s.1), (3, .int s.2), (4, .int (nI a)), (5, .int (nI (a + 1 + 0)))]) ?_ ⟨rfl, rfl, rfl, rfl, rfl, trivial⟩
    refine Eg_iter (fun j (s : Int32 × Int32) => Eg g (d + 6) mX9_ring 1 6 (Zx g _ _) 48 [(0, .ref X), (2, .int s.1), (3, .int s.2), (4, .int (nI a)), (5, .int (nI (a + 1 + j)))] [] (md S D1)) (fun j => rngB f n a (a + 1 + j)) (n - (a + 1)) s (fun j hj k2 => ?_) ?_
    · generalize iter (fun j => rngB f n a (a + 1 + j)) j s = s2 at k2 ⊢
      refine X_run rfl ?_ ?_
      · simp [md_s, md_w, rget, r_a, r_b, r_c, r_i, r_l, hx, hb, hc]
      try simp only [md_s, md_w, rget_some, r_a, r_b, r_c, r_i, r_l, r_nx, r_pc, Nat.reduceEqDiff, false_and, if_false, hx, hb, hc]
      refine X_icmp_ge rfl (fun c5 => no_le c5 (show a + 1 + j < n by omega) (by omega)) (fun c5 => ?_)
      refine X_run rfl ?_ ?_
      · simp [md_s, md_w, rget, r_a, r_b, r_c, r_i, r_l, nI_s1]
      try simp only [md_s, md_w, rget_some, r_a, r_b, r_c, r_i, r_l, r_nx, r_pc, Nat.reduceEqDiff, false_and, if_false, nI_s1]
      refine Eg.sub (ls' := [(0, .ref X), (2, .int s2.1), (3, .int s2.2), (4, .int (nI a)), (5, .int (nI (a + 1 + j))), (6, .int (nI (a + 1 + 0)))]) ?_ ⟨rfl, rfl, rfl, rfl, rfl, rfl, trivial⟩
      refine Eg_iter (fun l (s : Int32 × Int32) => Eg g (d + 6) mX9_ring 1 6 (Zx g _ _) 66 [(0, .ref X), (2, .int s.1), (3, .int s.2), (4, .int (nI a)), (5, .int (nI (a + 1 + j))), (6, .int (nI (a + 1 + l)))] [] (md S D1)) (fun l => rngC f a (a + 1 + j) (a + 1 + l)) (n - (a + 1)) s2 (fun l hl k3 => ?_) ?_
      · generalize iter (fun l => rngC f a (a + 1 + j) (a + 1 + l)) l s2 = s3 at k3 ⊢
        have hb1 : a + 1 + j < n := by omega
        have hc1 : a + 1 + l < n := by omega
        rw [show a + 1 + (l + 1) = a + 1 + l + 1 from rfl] at k3
        generalize a + 1 + j = b at hb1 k3 ⊢
        generalize a + 1 + l = c at hc1 k3 ⊢
        refine X_run rfl ?_ ?_
        · simp [md_s, md_w, rget, r_a, r_b, r_c, r_i, r_l, hx, hb, hc]
        try simp only [md_s, md_w, rget_some, r_a, r_b, r_c, r_i, r_l, r_nx, r_pc, Nat.reduceEqDiff, false_and, if_false, hx, hb, hc]
        refine X_icmp_ge rfl (fun c6 => no_le c6 hc1 (by omega)) (fun c6 => ?_)
        refine X_run rfl trivial ?_
        refine X_cV (args := [.int (nI a), .int (nI b)]) rfl (by decide) hx.1 rfl rfl (Nat.le_of_ble_eq_true rfl) (c_debt hX (show a < 10 by omega) (show b < 10 by omega)) ?_
        rintro _ _ ⟨rfl, rfl⟩
        refine X_run rfl trivial ?_
        refine X_cV (args := [.int (nI b), .int (nI c)]) rfl (by decide) hx.1 rfl rfl (Nat.le_of_ble_eq_true rfl) (c_debt hX (show b < 10 by omega) (show c < 10 by omega)) ?_
        rintro _ _ ⟨rfl, rfl⟩
        refine X_run rfl trivial ?_
        refine X_cV (args := [.int (nI c), .int (nI a)]) rfl (by decide) hx.1 rfl rfl (Nat.le_of_ble_eq_true rfl) (c_debt hX (show c < 10 by omega) (show a < 10 by omega)) ?_
        rintro _ _ ⟨rfl, rfl⟩
        rw [hv _ (show a * 10 + b < 100 by omega), hv _ (show b * 10 + c < 100 by omega), hv _ (show c * 10 + a < 100 by omega)]
        refine X_min rfl (Nat.le_of_ble_eq_true rfl) ?_
        refine X_min rfl (Nat.le_of_ble_eq_true rfl) ?_
        have e3 : (if (if f (c * 10 + a) < f (b * 10 + c) then f (c * 10 + a) else f (b * 10 + c)) < f (a * 10 + b) then (if f (c * 10 + a) < f (b * 10 + c) then f (c * 10 + a) else f (b * 10 + c)) else f (a * 10 + b)) = rng3 f a b c := rfl
        rw [e3]
        unfold rngC at k3
        generalize rng3 f a b c = r3 at k3 ⊢
        refine X_run rfl trivial ?_
        refine X_icmp_le rfl (fun c5 => ?_) (fun c5 => ?_)
        · refine X_run rfl ?_ ?_
          · simp [md_s, md_w, rget, r_a, r_b, r_c, r_i, r_l, nI_s1]
          try simp only [md_s, md_w, rget_some, r_a, r_b, r_c, r_i, r_l, r_nx, r_pc, Nat.reduceEqDiff, false_and, if_false, nI_s1]
          rw [if_neg (Int32.not_lt.mpr c5)] at k3
          exact Eg.sub k3 ⟨rfl, rfl, rfl, rfl, rfl, rfl, trivial⟩
        · refine X_run rfl ?_ ?_
          · simp [md_s, md_w, rget, r_a, r_b, r_c, r_i, r_l, nI_s1]
          try simp only [md_s, md_w, rget_some, r_a, r_b, r_c, r_i, r_l, r_nx, r_pc, Nat.reduceEqDiff, false_and, if_false, nI_s1]
          rw [if_pos (Int32.not_le.mp c5)] at k3
          exact Eg.sub k3 ⟨rfl, rfl, rfl, rfl, rfl, rfl, trivial⟩
      · have e4 : a + 1 + (n - (a + 1)) = n := by omega
        rw [e4]
        refine X_run rfl ?_ ?_
        · simp [md_s, md_w, rget, r_a, r_b, r_c, r_i, r_l, hx, hb, hc]
        try simp only [md_s, md_w, rget_some, r_a, r_b, r_c, r_i, r_l, r_nx, r_pc, Nat.reduceEqDiff, false_and, if_false, hx, hb, hc]
        refine X_icmp_ge rfl (fun c6 => ?_) (fun c6 => no_nle c6 (Nat.le_refl _) (by omega))
        refine X_run rfl ?_ ?_
        · simp [md_s, md_w, rget, r_a, r_b, r_c, r_i, r_l, nI_s1]
        try simp only [md_s, md_w, rget_some, r_a, r_b, r_c, r_i, r_l, r_nx, r_pc, Nat.reduceEqDiff, false_and, if_false, nI_s1]
        exact Eg.sub k2 ⟨rfl, rfl, rfl, rfl, rfl, trivial⟩
    · have e4 : a + 1 + (n - (a + 1)) = n := by omega
      rw [e4]
      refine X_run rfl ?_ ?_
      · simp [md_s, md_w, rget, r_a, r_b, r_c, r_i, r_l, hx, hb, hc]
      try simp only [md_s, md_w, rget_some, r_a, r_b, r_c, r_i, r_l, r_nx, r_pc, Nat.reduceEqDiff, false_and, if_false, hx, hb, hc]
      refine X_icmp_ge rfl (fun c6 => ?_) (fun c6 => no_nle c6 (Nat.le_refl _) (by omega))
      refine X_run rfl ?_ ?_
      · simp [md_s, md_w, rget, r_a, r_b, r_c, r_i, r_l, nI_s1]
      try simp only [md_s, md_w, rget_some, r_a, r_b, r_c, r_i, r_l, r_nx, r_pc, Nat.reduceEqDiff, false_and, if_false, nI_s1]
      exact Eg.sub k ⟨rfl, rfl, rfl, rfl, trivial⟩
  · refine X_run rfl ?_ ?_
    · simp [md_s, md_w, rget, r_a, r_b, r_c, r_i, r_l, hx, hb, hc]
    try simp only [md_s, md_w, rget_some, r_a, r_b, r_c, r_i, r_l, r_nx, r_pc, Nat.reduceEqDiff, false_and, if_false, hx, hb, hc]
    refine X_icmp_ge rfl (fun c6 => ?_) (fun c6 => no_nle c6 (Nat.le_refl _) (by omega))
    refine X_run rfl trivial ?_
    exact Eg.zx (X_iret rfl rfl post)
end AHEAD
