/-! what would be, asked of the reference: as numbers -/
theorem cnt_nat {c : Nat → Prop} [DecidablePred c] : ∀ n, iter (fun i acc => if c i then acc + 1 else acc) n (0 : Int32) = nI (cnN (fun i => decide (c i)) n)
  | 0 => rfl
  | n + 1 => by
    have e : cnN (fun i => decide (c i)) (n + 1) = cnN (fun i => decide (c i)) n + (if decide (c n) = true then 1 else 0) := rfl
    simp only [iter]
    rw [cnt_nat n, e]
    by_cases h : c n
    · rw [if_pos h, if_pos (decide_eq_true h), nI_s1]
    · rw [if_neg h, if_neg (by simpa using h), Nat.add_zero]
theorem cntT_nat (K : KT) (tk : Nat → Bool) : cntT K tk = nI (cnN tk (k_ny K)) := by
  unfold cntT
  rw [cnt_nat]
  exact congrArg nI (cnN_congr _ (fun n _ => by simp))
def cnQ (K : KT) (tk : Nat → Bool) (x : Int32) : Nat := cnN (fun i => decide (tk i = true ∧ nI (k_fr K i) = x)) (k_ny K)
theorem cntP_nat (K : KT) (tk : Nat → Bool) (x : Int32) : cntP K tk x = nI (cnQ K tk x) := by
  unfold cntP
  rw [cnt_nat]
  rfl
theorem cnQ_le {K : KT} {tk tk' : Nat → Bool} {x : Int32} (h : ∀ n, tk n = true → tk' n = true) : cnQ K tk x ≤ cnQ K tk' x := cnN_mono _ (fun n _ hn => by
  rw [decide_eq_true_eq] at hn ⊢
  exact ⟨h n hn.1, hn.2⟩)
theorem cnQ_60 {K : KT} {tk : Nat → Bool} {x : Int32} (h : k_ny K ≤ 60) : cnQ K tk x ≤ 60 := Nat.le_trans (cnN_le _ _) h
theorem nones_eq {K : KT} (hK : RunK K) {x : Int32} {a : Nat} (ha : a ≤ 60) : ∀ (k : Nat) (r : RuT), NtI K r.1 r.2 → cnQ K r.1 x ≤ a → (cntP K (nones K x (nI a) k r).1 x = nI a ↔ cntP K (outs K k r).1 x = nI a)
  | 0, r, _, _ => Iff.rfl
  | k + 1, r, hN, hle => by
    have h60 := hK.1.2.2.1
    unfold nones
    by_cases c : cntP K r.1 x = nI a
    · rw [if_pos c]
      unfold outs
      cases hl : leaves K r with
      | none => exact Iff.rfl
      | some r1 =>
        obtain ⟨l1, -, l3⟩ := leaves_I hK hN hl
        exact nones_eq hK ha k r1 l1 (Nat.le_trans (cnQ_le l3) hle)
    · rw [if_neg c]
      refine ⟨fun z => absurd z c, fun z => absurd ?_ c⟩
      have hsub := cnQ_le (K := K) (x := x) (outs_I hK (k + 1) r hN).2.1
      rw [cntP_nat] at z ⊢
      have := (nI_eq (by have := cnQ_60 (tk := (outs K (k + 1) r).1) (x := x) h60; omega) (by omega)).mp z
      exact congrArg nI (by omega)
theorem noneOf_eq {K : KT} (hK : RunK K) {x : Int32} : noneOf K (takes0 K, net0 K (k_ny K)) x = decide (cntP K (outK K).1 x = cntP K (takes0 K) x) := by
  have h60 := hK.1.2.2.1
  unfold noneOf
  have := nones_eq hK (x := x) (a := cnQ K (takes0 K) x) (cnQ_60 h60) 60 (takes0 K, net0 K (k_ny K)) (net0_I hK.2.1 hK.2.2.2 h60) (Nat.le_refl _)
  rw [← cntP_nat] at this
  exact decide_eq_decide.mpr this
theorem up2n_up2n {f : Nat → Nat → Int32} {p m : Nat} {v w : Int32} : up2n (up2n f p m v) p m w = up2n f p m w := by
  funext q u
  unfold up2n
  by_cases c : q = p ∧ u = m
  · rw [if_pos c, if_pos c]
  · rw [if_neg c, if_neg c, if_neg c]
theorem addB_addB (K : KT) (p m : Nat) (a b : Int32) : addB (addB K p m a) p m b = addB K p m (a + b) := by
  have e1 : k_ba (addB K p m a) p m = k_ba K p m + a := up2n_self
  unfold addB
  show ks_ba K (up2n (up2n (k_ba K) p m (k_ba K p m + a)) p m (k_ba (addB K p m a) p m + b)) = _
  rw [e1, up2n_up2n, Int32.add_assoc]
theorem addB_0 (K : KT) (p m : Nat) : addB K p m 0 = K := by
  have : up2n (k_ba K) p m (k_ba K p m + 0) = k_ba K := by
    funext q u
    unfold up2n
    by_cases c : q = p ∧ u = m
    · rw [if_pos c, Int32.add_zero, c.1, c.2]
    · rw [if_neg c]
  unfold addB
  rw [this]
  rfl
theorem nI_500 (i : Nat) : nI (500 * i) + 500 = nI (500 * (i + 1)) := by
  show Int32.ofNat (500 * i) + Int32.ofNat 500 = Int32.ofNat (500 * (i + 1))
  rw [← Int32.ofNat_add]
  rfl
theorem depK_eq (K : KT) (p m : Nat) : ∀ i, depK K p m i = addB K p m (nI (500 * i))
  | 0 => (addB_0 K p m).symm
  | i + 1 => by rw [depK_1, depK_eq K p m i, addB_addB, nI_500]
theorem sub1 (x y : Int32) : x - y - 1 = x - (y + 1) := by
  rw [Int32.sub_eq_add_neg, Int32.sub_eq_add_neg, Int32.sub_eq_add_neg, Int32.neg_add, Int32.sub_eq_add_neg, Int32.add_assoc]
theorem iter_sub {c : Nat → Prop} [DecidablePred c] (x0 : Int32) : ∀ n, iter (fun i acc => if c i then acc - 1 else acc) n x0 = x0 - iter (fun i acc => if c i then acc + 1 else acc) n 0
  | 0 => (Int32.sub_zero x0).symm
  | n + 1 => by
    simp only [iter]
    rw [iter_sub x0 n]
    by_cases h : c n
    · rw [if_pos h, if_pos h, sub1]
    · rw [if_neg h, if_neg h]
theorem sub_0 {x y : Int32} : x - y = 0 ↔ x = y := ⟨fun h => by rw [← Int32.sub_add_cancel x y, h, Int32.zero_add], fun h => by rw [h, Int32.sub_self]⟩
theorem b2i_sub (x : Int32) (b : Bool) : x - b2i b = if b = true then x - 1 else x := by
  cases b
  · exact Int32.sub_zero x
  · rfl
theorem nI_m1 {n : Nat} {P : Prop} (hn : n < 2 ^ 31) (h : nI n ≤ -1) : P := by
  have := Int32.le_iff_toInt_le.mp h
  rw [nI_toInt hn, show ((-1 : Int32)).toInt = -1 from rfl] at this
  omega
theorem max_0 {n : Nat} (hn : n < 2 ^ 31) : (if 0 < nI n then nI n else 0) = nI n := by
  by_cases c : 0 < nI n
  · rw [if_pos c]
  · rw [if_neg c]
    have := Int32.le_iff_toInt_le.mp (Int32.not_lt.mp c)
    rw [nI_toInt hn, show ((0 : Int32)).toInt = 0 from rfl] at this
    have : n = 0 := by omega
    rw [this]
    rfl
theorem owes_dbt {K : KT} {a b m : Nat} (hW : WfK K) (ha : a < 10) (hb : b < 10) (hm : m < 5) : owesK K (nI a) (nI b) (nI m) = dbt K m (a * 10 + b) := by
  obtain ⟨w1, w2, w3, w4⟩ := hW
  have key : ∀ i, i ≤ k_ny K → iter (fun n acc => if k_st K n = 0 ∧ nI (k_mo K n) = nI m then acc + (if nI (k_fr K n) = nI a ∧ nI (k_to K n) = nI b then k_am K n else 0) - (if nI (k_fr K n) = nI b ∧ nI (k_to K n) = nI a then k_am K n else 0) else acc) i (0 : Int32) = iter (dbt1 K m) i (fun _ => 0) (a * 10 + b) := by
    intro i
    induction i with
    | zero => intro _; rfl
    | succ i ih =>
      intro hi
      obtain ⟨v1, v2, v3, -⟩ := w4 i (by omega)
      simp only [iter]
      rw [ih (by omega)]
      generalize iter (dbt1 K m) i (fun _ => 0) = f
      unfold dbt1
      have em : (nI (k_mo K i) = nI m) = (k_mo K i = m) := propext (nI_eq (by omega) (by omega))
      have e1 : (nI (k_fr K i) = nI a ∧ nI (k_to K i) = nI b) = (a * 10 + b = k_fr K i * 10 + k_to K i) := by
        rw [propext (nI_eq (a := k_fr K i) (b := a) (by omega) (by omega)), propext (nI_eq (a := k_to K i) (b := b) (by omega) (by omega))]
        exact propext ⟨fun z => by omega, fun z => by omega⟩
      have e2 : (nI (k_fr K i) = nI b ∧ nI (k_to K i) = nI a) = (a * 10 + b = k_to K i * 10 + k_fr K i) := by
        rw [propext (nI_eq (a := k_fr K i) (b := b) (by omega) (by omega)), propext (nI_eq (a := k_to K i) (b := a) (by omega) (by omega))]
        exact propext ⟨fun z => by omega, fun z => by omega⟩
      simp only [em, e1, e2]
      by_cases c : k_st K i = 0 ∧ k_mo K i = m
      · rw [if_pos c, if_pos c]
        unfold up1
        by_cases c2 : a * 10 + b = k_to K i * 10 + k_fr K i
        · rw [if_pos c2, if_pos c2, ← c2]
          by_cases c1 : a * 10 + b = k_fr K i * 10 + k_to K i
          · rw [if_pos c1, if_pos c1, ← c1, Int32.sub_eq_add_neg]
          · rw [if_neg c1, if_neg c1, Int32.add_zero, Int32.sub_eq_add_neg]
        · rw [if_neg c2, if_neg c2, Int32.sub_zero]
          by_cases c1 : a * 10 + b = k_fr K i * 10 + k_to K i
          · rw [if_pos c1, if_pos c1, ← c1]
          · rw [if_neg c1, if_neg c1, Int32.add_zero]
      · rw [if_neg c, if_neg c]
  exact key _ (Nat.le_refl _)
theorem owes_self {K : KT} {b m : Int32} : owesK K b b m = 0 := by
  have key : ∀ i, iter (fun n acc => if k_st K n = 0 ∧ nI (k_mo K n) = m then acc + (if nI (k_fr K n) = b ∧ nI (k_to K n) = b then k_am K n else 0) - (if nI (k_fr K n) = b ∧ nI (k_to K n) = b then k_am K n else 0) else acc) i (0 : Int32) = 0 := by
    intro i
    induction i with
    | zero => rfl
    | succ i ih =>
      simp only [iter]
      rw [ih]
      by_cases c : k_st K i = 0 ∧ nI (k_mo K i) = m
      · rw [if_pos c, Int32.zero_add, Int32.sub_self]
      · rw [if_neg c]
  exact key _
theorem pOwes_eq {K : KT} {a b m : Int32} (hW : WfK K) : (if (inB a (k_np K) = true ∧ inB b (k_np K) = true) ∧ inB m (k_nm K) = true then .ok (owesK K a b m) else .error eB : Except String Int32) = pOwes K a b m := by
  unfold pOwes
  by_cases c : (inB a (k_np K) = true ∧ inB b (k_np K) = true) ∧ inB m (k_nm K) = true
  · rw [if_pos c, if_pos c]
    obtain ⟨w1, w2, -⟩ := id hW
    obtain ⟨i, hi, rfl⟩ := (inB_iff (by omega)).mp c.1.1
    obtain ⟨j, hj, rfl⟩ := (inB_iff (by omega)).mp c.1.2
    obtain ⟨u, hu, rfl⟩ := (inB_iff (by omega)).mp c.2
    rw [iN_nI (by omega), iN_nI (by omega), iN_nI (by omega), owes_dbt hW (by omega) (by omega) (by omega)]
  · rw [if_neg c, if_neg c]
theorem mn_le (x y : Int32) : (mn x y).toInt ≤ y.toInt ∧ (mn x y).toInt ≤ x.toInt := by
  unfold mn
  by_cases c : y < x
  · have := Int32.lt_iff_toInt_lt.mp c
    rw [if_pos c]
    omega
  · have := Int32.le_iff_toInt_le.mp (Int32.not_lt.mp c)
    rw [if_neg c]
    omega
theorem mn_0 (x z : Int32) : mn x (mn 0 z) ≤ 0 := by
  have h1 := mn_le x (mn 0 z)
  have h2 := mn_le 0 z
  rw [Int32.le_iff_toInt_le]
  omega
theorem rngC_same {f : Nat → Int32} {a b : Nat} {s : Int32 × Int32} (hf : f (b * 10 + b) = 0) (hs : 0 ≤ s.2) : rngC f a b b s = s := by
  unfold rngC rng3
  rw [hf, if_neg (fun z => ?_)]
  have h1 := mn_0 (f (a * 10 + b)) (f (b * 10 + a))
  rw [Int32.le_iff_toInt_le] at h1 hs
  rw [Int32.lt_iff_toInt_lt] at z
  omega
theorem rngC_nn {f : Nat → Int32} {a b c : Nat} {s : Int32 × Int32} (hs : 0 ≤ s.2) : 0 ≤ (rngC f a b c s).2 := by
  unfold rngC
  split
  · rename_i h
    exact Int32.le_of_lt (Int32.lt_of_le_of_lt hs h)
  · exact hs
theorem rngB_nn {f : Nat → Int32} {n a b : Nat} {s : Int32 × Int32} (hs : 0 ≤ s.2) : ∀ i, 0 ≤ (iter (fun j => rngC f a b (a + 1 + j)) i s).2
  | 0 => hs
  | i + 1 => rngC_nn (rngB_nn (n := n) hs i)
theorem rngA_nn {f : Nat → Int32} {n a : Nat} {s : Int32 × Int32} (hs : 0 ≤ s.2) : ∀ i, 0 ≤ (iter (fun j => rngB f n a (a + 1 + j)) i s).2
  | 0 => hs
  | i + 1 => rngB_nn (n := n) (rngA_nn hs i) _
theorem rng_nn {f : Nat → Int32} {n : Nat} : ∀ i, 0 ≤ (iter (rngA f n) i ((-1 : Int32), (0 : Int32))).2
  | 0 => show (0 : Int32) ≤ 0 by decide
  | i + 1 => rngA_nn (rng_nn i) _
section REFFIND
variable {g : GG} {d c : Nat} {S : ShT} {D : DaT} {Y A A2 : Nat} {K : KT} {T P : List Nat} {e : Int32}
theorem c_Mfrees {x m : Int32} (hY : MoL S Y A A2) (hK : InvK K c) (hc : c + 1 ≤ 1000) (hM : RmR D Y A K T P e) : EvM g (d + 4) mX11_frees 0 0 [.ref Y, .int x, .int m] (md S D) (RfP S D Y A 0 K T P e [eB] (pFrees K x m)) := by
  have hW := hK.1
  obtain ⟨l1, l2, l3⟩ := hY.lo
  obtain ⟨hy, -, ⟨hL, hL2⟩, -⟩ := id hY
  obtain ⟨hs, ha, hb⟩ := hL.all
  obtain ⟨w1, w2, w3, w4⟩ := id hW
  obtain ⟨D1, e1, z1, y1⟩ := wr_fi D 352 Y 0
  have hM1 : RmR D1 Y A K T P e := e1 ▸ hM.thr (by omega) (by decide)
  have hR1 := hM1.1
  have hO1 : OutR S Y D D1 := e1 ▸ OutR.fi
  have t1 : d_fi D1 352 Y = 0 := by rw [z1, if_pos ⟨rfl, rfl⟩]
  refine EvM.mk (by decide) (Nat.le_of_ble_eq_true rfl) ?_
  refine X_run rfl ?_ ?_
  · simp [md_s, md_w, rget, r_a, r_b, r_c, r_i, r_l, hy, e1]
  try simp only [md_s, md_w, rget_some, r_a, r_b, r_c, r_i, r_l, r_nx, r_pc, Nat.reduceEqDiff, false_and, if_false, hy, e1]
  obtain ⟨hs2, ha2, hb2⟩ := hL2.all
  refine X_cV (args := [.int x]) rfl (by decide) hy.1 rfl rfl (Nat.le_of_ble_eq_true rfl) (c_RisParty hY hR1) ?_
  rintro _ _ ⟨rfl, rfl⟩
  refine X_if_eq rfl (fun c1 => ?_) (fun c1 => ?_)
  · refine X_run rfl trivial ?_
    refine X_cV (args := [.int 1]) rfl (by decide) hy.1 rfl rfl (Nat.le_of_ble_eq_true rfl) (c_no hY) ?_
    rintro _ _ ⟨rfl, rfl⟩
    refine X_run rfl trivial ?_
    exact X_iret rfl rfl (RfP.no hM1 hO1 (by omega) rfl (by rw [pFrees, if_neg (nf c1)]))
  have c1 := b2i_nz c1
  refine X_run rfl trivial ?_
  refine X_cV (args := [.int m]) rfl (by decide) hy.1 rfl rfl (Nat.le_of_ble_eq_true rfl) (c_RisMoney hY hR1) ?_
  rintro _ _ ⟨rfl, rfl⟩
  refine X_if_ne rfl (fun c2 => ?_) (fun c2 => ?_)
  · have c2 := b2i_nz c2
    obtain ⟨p, hp, rfl⟩ := (inB_iff (by omega)).mp c1
    obtain ⟨u, hu, rfl⟩ := (inB_iff (by omega)).mp c2
    have x5 := vx (show 5 * p + u < 50 by omega) (by decide)
    refine X_run rfl trivial ?_
    have body : ∀ i D', i ≤ 100 → Out A2 (A2 + 20) D1 D' → (none0 (depK K p u i) p = true → ∀ D2, Out A2 (A2 + 20) D1 D2 → Eg g (d + 4) mX11_frees 0 0 (Zr g (RfP S D Y A 0 K T P e [eB] (pFrees K (nI p) (nI u)))) 196 [(3, .int (nI (500 * i)))] [] (md S D2)) → (none0 (depK K p u i) p = false → ∀ D2, Out A2 (A2 + 20) D1 D2 → Eg g (d + 4) mX11_frees 0 0 (Zr g (RfP S D Y A 0 K T P e [eB] (pFrees K (nI p) (nI u)))) 29 [(0, .ref Y), (1, .int (nI p)), (2, .int (nI u)), (3, .int (nI (500 * (i + 1))))] [] (md S D2)) → Eg g (d + 4) mX11_frees 0 0 (Zr g (RfP S D Y A 0 K T P e [eB] (pFrees K (nI p) (nI u)))) 29 [(0, .ref Y), (1, .int (nI p)), (2, .int (nI u)), (3, .int (nI (500 * i)))] [] (md S D') := by
      intro i D' hi hO' kt kf
      have hR' : RepR D' A K := hR1.out hO' (by omega)
      refine X_run rfl trivial ?_
      refine X_icmp_gt rfl (fun c3 => absurd c3 (Int32.not_lt.mpr (show nI (500 * i) ≤ nI 50000 from (nI_leI (by omega) (by decide)).mpr (by omega)))) (fun c3 => ?_)
      refine X_run rfl ?_ ?_
      · simp [md_s, md_w, rget, r_a, r_b, r_c, r_i, r_l, hy]
      try simp only [md_s, md_w, rget_some, r_a, r_b, r_c, r_i, r_l, r_nx, r_pc, Nat.reduceEqDiff, false_and, if_false, hy]
      refine X_cV (args := [.ref A]) rfl (by decide) hs2.1 rfl rfl (Nat.le_of_ble_eq_true rfl) (c_become hL2 hL l3 hW hR') ?_
      rintro _ _ ⟨D2, rfl, rfl, hR2, hO2⟩
      have vb := ((hR2.2.1 p hp).2.2.2 u (by omega)).1
      obtain ⟨D3, e3, z3, y3⟩ := wr_ai D2 (A2 + 7) (5 * p + u) (k_ba K p u + nI (500 * i))
      have hR3 : RepR D3 A2 (addB K p u (nI (500 * i))) := e3 ▸ hR2.ba (by omega) _
      have hO3 : Out A2 (A2 + 20) D1 D3 := (hO'.tr (hO2.wide (Nat.le_refl _) (by omega))).tr (e3 ▸ Out.ai (by omega))
      have hK3 : InvK (addB K p u (nI (500 * i))) (c + 1) := inv_addB hK hp hu (by rw [nI_toInt (by omega)]; omega) hc
      rw [depK_eq] at kt kf
      unfold none0 at kt kf
      rw [noneOf_eq hK3.run] at kt kf
      have hfr : k_fr (addB K p u (nI (500 * i))) = k_fr K := rfl
      have hny : k_ny (addB K p u (nI (500 * i))) = k_ny K := rfl
      refine X_run rfl ?_ ?_
      · simp [md_s, md_w, rget, r_a, r_b, r_c, r_i, r_l, hy, hs2, ha2, i5, x5, vb, e3]
      try simp only [md_s, md_w, rget_some, r_a, r_b, r_c, r_i, r_l, r_nx, r_pc, Nat.reduceEqDiff, false_and, if_false, hy, hs2, ha2, i5, x5, vb, e3]
      generalize addB K p u (nI (500 * i)) = K3 at hR3 hK3 kt kf hfr hny
      refine X_cV (args := []) rfl (by decide) hs2.1 rfl rfl (Nat.le_of_ble_eq_true rfl) (c_Rbegin hL2 hK3.1 hR3) ?_
      rintro _ _ ⟨D4, rfl, rfl, hJ4, hO4⟩
      have hO4' := hO3.tr (hO4.wide (by omega) (Nat.le_refl _))
      have hR4 : RepR D4 A K := hR1.out hO4' (by omega)
      have hc4 := hR4.1
      unfold RrC at hc4
      refine X_run rfl trivial ?_
      refine Eg_iter (fun k (acc : Int32) => Eg g (d + 4) mX11_frees 0 0 (Zr g _) 78 [(0, .ref Y), (1, .int (nI p)), (2, .int (nI u)), (3, .int (nI (500 * i))), (4, .int acc), (5, .int (nI k))] [] (md S D4)) (fun i acc => if takes0 K3 i = true ∧ nI (k_fr K3 i) = nI p then acc + 1 else acc) (k_ny K3) 0 (fun n hn k => ?_) ?_
      · generalize iter (fun i acc => if takes0 K3 i = true ∧ nI (k_fr K3 i) = nI p then acc + 1 else acc) n (0 : Int32) = acc at k ⊢
        have hin : d_ai D4 (A2 + 18) n = b2i (takes0 K3 n) := hJ4.2.1 n hn
        rw [hny] at hn
        have hv := hR4.2.2.2 n hn
        unfold RrY at hv
        have x1 := vx (show n < 60 by omega) (by decide)
        refine X_run rfl ?_ ?_
        · simp [md_s, md_w, rget, r_a, r_b, r_c, r_i, r_l, hy, hs, hc4]
        try simp only [md_s, md_w, rget_some, r_a, r_b, r_c, r_i, r_l, r_nx, r_pc, Nat.reduceEqDiff, false_and, if_false, hy, hs, hc4]
        refine X_icmp_ge rfl (fun c4 => no_le c4 hn (by omega)) (fun c4 => ?_)
        refine X_run rfl ?_ ?_
        · simp [md_s, md_w, rget, r_a, r_b, r_c, r_i, r_l, hy, hs, hb, x1, hv]
        try simp only [md_s, md_w, rget_some, r_a, r_b, r_c, r_i, r_l, r_nx, r_pc, Nat.reduceEqDiff, false_and, if_false, hy, hs, hb, x1, hv]
        refine X_icmp_ne rfl (fun c5 => ?_) (fun c5 => ?_)
        · rw [if_neg (fun z => c5 (by rw [← z.2, hfr]))] at k
          refine X_run rfl ?_ ?_
          · simp [md_s, md_w, rget, r_a, r_b, r_c, r_i, r_l, nI_s1]
          try simp only [md_s, md_w, rget_some, r_a, r_b, r_c, r_i, r_l, r_nx, r_pc, Nat.reduceEqDiff, false_and, if_false, nI_s1]
          rw [Int32.add_zero]
          exact k
        · rw [hfr] at k
          refine X_run rfl ?_ ?_
          · simp [md_s, md_w, rget, r_a, r_b, r_c, r_i, r_l, hy, hs2, hb2, x1, hin, nI_s1, b2i_add]
          try simp only [md_s, md_w, rget_some, r_a, r_b, r_c, r_i, r_l, r_nx, r_pc, Nat.reduceEqDiff, false_and, if_false, hy, hs2, hb2, x1, hin, nI_s1, b2i_add]
          by_cases c6 : takes0 K3 n = true
          · rw [if_pos ⟨c6, c5⟩] at k
            rw [if_pos c6]
            exact k
          · rw [if_neg (fun z => c6 z.1)] at k
            rw [if_neg c6]
            exact k
      rw [show iter (fun i acc => if takes0 K3 i = true ∧ nI (k_fr K3 i) = nI p then acc + 1 else acc) (k_ny K3) (0 : Int32) = cntP K3 (takes0 K3) (nI p) from rfl, hny]
      refine X_run rfl ?_ ?_
      · simp [md_s, md_w, rget, r_a, r_b, r_c, r_i, r_l, hy, hs, hc4]
      try simp only [md_s, md_w, rget_some, r_a, r_b, r_c, r_i, r_l, r_nx, r_pc, Nat.reduceEqDiff, false_and, if_false, hy, hs, hc4]
      refine X_icmp_ge rfl (fun c4 => ?_) (fun c4 => no_nle c4 (Nat.le_refl _) (by omega))
      refine X_run rfl ?_ ?_
      · simp [md_s, md_w, rget, r_a, r_b, r_c, r_i, r_l, hy]
      try simp only [md_s, md_w, rget_some, r_a, r_b, r_c, r_i, r_l, r_nx, r_pc, Nat.reduceEqDiff, false_and, if_false, hy]
      refine X_cV (args := []) rfl (by decide) hs2.1 rfl rfl (Nat.le_of_ble_eq_true rfl) (c_Rgo hL2 hK3.run hJ4 (net0_I hK3.run.2.1 hK3.run.2.2.2 hK3.1.2.2.1)) ?_
      rintro _ _ ⟨D5, rfl, rfl, hJ5, hO5⟩
      have hO5' := hO4'.tr (hO5.wide (by omega) (Nat.le_refl _))
      have hR5 : RepR D5 A K := hR1.out hO5' (by omega)
      have hc5 := hR5.1
      unfold RrC at hc5
      refine X_run rfl trivial ?_
      refine Eg.sub (ls' := [(0, .ref Y), (1, .int (nI p)), (2, .int (nI u)), (3, .int (nI (500 * i))), (4, .int (cntP K3 (takes0 K3) (nI p))), (5, .int 0)]) ?_ ⟨rfl, rfl, rfl, rfl, rfl, rfl, trivial⟩
      refine Eg_iter (fun k (acc : Int32) => Eg g (d + 4) mX11_frees 0 0 (Zr g _) 140 [(0, .ref Y), (1, .int (nI p)), (2, .int (nI u)), (3, .int (nI (500 * i))), (4, .int acc), (5, .int (nI k))] [] (md S D5)) (fun i acc => if (outK K3).1 i = true ∧ nI (k_fr K3 i) = nI p then acc - 1 else acc) (k_ny K3) (cntP K3 (takes0 K3) (nI p)) (fun n hn k => ?_) ?_
      · generalize iter (fun i acc => if (outK K3).1 i = true ∧ nI (k_fr K3 i) = nI p then acc - 1 else acc) n (cntP K3 (takes0 K3) (nI p)) = acc at k ⊢
        have hin : d_ai D5 (A2 + 18) n = b2i ((outK K3).1 n) := hJ5.2.1 n hn
        rw [hny] at hn
        have hv := hR5.2.2.2 n hn
        unfold RrY at hv
        have x1 := vx (show n < 60 by omega) (by decide)
        refine X_run rfl ?_ ?_
        · simp [md_s, md_w, rget, r_a, r_b, r_c, r_i, r_l, hy, hs, hc5]
        try simp only [md_s, md_w, rget_some, r_a, r_b, r_c, r_i, r_l, r_nx, r_pc, Nat.reduceEqDiff, false_and, if_false, hy, hs, hc5]
        refine X_icmp_ge rfl (fun c4 => no_le c4 hn (by omega)) (fun c4 => ?_)
        refine X_run rfl ?_ ?_
        · simp [md_s, md_w, rget, r_a, r_b, r_c, r_i, r_l, hy, hs, hb, x1, hv]
        try simp only [md_s, md_w, rget_some, r_a, r_b, r_c, r_i, r_l, r_nx, r_pc, Nat.reduceEqDiff, false_and, if_false, hy, hs, hb, x1, hv]
        refine X_icmp_ne rfl (fun c5 => ?_) (fun c5 => ?_)
        · rw [if_neg (fun z => c5 (by rw [← z.2, hfr]))] at k
          refine X_run rfl ?_ ?_
          · simp [md_s, md_w, rget, r_a, r_b, r_c, r_i, r_l, nI_s1]
          try simp only [md_s, md_w, rget_some, r_a, r_b, r_c, r_i, r_l, r_nx, r_pc, Nat.reduceEqDiff, false_and, if_false, nI_s1]
          rw [Int32.sub_zero]
          exact k
        · rw [hfr] at k
          refine X_run rfl ?_ ?_
          · simp [md_s, md_w, rget, r_a, r_b, r_c, r_i, r_l, hy, hs2, hb2, x1, hin, nI_s1, b2i_sub]
          try simp only [md_s, md_w, rget_some, r_a, r_b, r_c, r_i, r_l, r_nx, r_pc, Nat.reduceEqDiff, false_and, if_false, hy, hs2, hb2, x1, hin, nI_s1, b2i_sub]
          by_cases c6 : (outK K3).1 n = true
          · rw [if_pos ⟨c6, c5⟩] at k
            rw [if_pos c6]
            exact k
          · rw [if_neg (fun z => c6 z.1)] at k
            rw [if_neg c6]
            exact k
      rw [iter_sub, show iter (fun i acc => if (outK K3).1 i = true ∧ nI (k_fr K3 i) = nI p then acc + 1 else acc) (k_ny K3) (0 : Int32) = cntP K3 (outK K3).1 (nI p) from rfl, hny]
      refine X_run rfl ?_ ?_
      · simp [md_s, md_w, rget, r_a, r_b, r_c, r_i, r_l, hy, hs, hc5]
      try simp only [md_s, md_w, rget_some, r_a, r_b, r_c, r_i, r_l, r_nx, r_pc, Nat.reduceEqDiff, false_and, if_false, hy, hs, hc5]
      refine X_icmp_ge rfl (fun c4 => ?_) (fun c4 => no_nle c4 (Nat.le_refl _) (by omega))
      refine X_run rfl trivial ?_
      refine X_if_ne rfl (fun c6 => ?_) (fun c6 => ?_)
      · refine X_run rfl ?_ ?_
        · simp [md_s, md_w, rget, r_a, r_b, r_c, r_i, r_l, nI_500]
        try simp only [md_s, md_w, rget_some, r_a, r_b, r_c, r_i, r_l, r_nx, r_pc, Nat.reduceEqDiff, false_and, if_false, nI_500]
        exact Eg.sub (kf (decide_eq_false (fun z => c6 (sub_0.mpr z.symm))) D5 hO5') ⟨rfl, rfl, rfl, rfl, trivial⟩
      · exact Eg.sub (kt (decide_eq_true (sub_0.mp c6).symm) D5 hO5') ⟨rfl, trivial⟩
    have ret : ∀ o D2, firstIx 101 (fun i => none0 (depK K p u i) p) = o → Out A2 (A2 + 20) D1 D2 → RfP S D Y A 0 K T P e [eB] (pFrees K (nI p) (nI u)) (some (.int (frV o))) (md S D2) := fun o D2 ho hO2 =>
      RfP.ok (hM1.out hO2 (by omega) (Or.inl (by omega))) (hO1.tr (OutR.o hO2 (by omega))) (by rw [(hO2 Y (by omega)).1]; exact t1) (by rw [pFrees, if_pos ⟨c1, c2⟩, iN_nI (by omega), iN_nI (by omega), ho])
    refine Eg_find (E := fun i => ∀ D', Out A2 (A2 + 20) D1 D' → Eg g (d + 4) mX11_frees 0 0 (Zr g (RfP S D Y A 0 K T P e [eB] (pFrees K (nI p) (nI u)))) 29 [(0, .ref Y), (1, .int (nI p)), (2, .int (nI u)), (3, .int (nI (500 * i)))] [] (md S D')) (c := fun i => none0 (depK K p u i) p) 101 (fun i hi hf hcc D' hO' => ?_) (fun i hi hcc k D' hO' => ?_) (fun hf D' hO' => ?_) D1 Out.rf
    · refine body i D' (by omega) hO' (fun _ D2 hO2 => ?_) (fun hz => by rw [show none0 (depK K p u i) p = true from hcc] at hz; cases hz)
      refine X_run rfl trivial ?_
      exact X_iret rfl rfl (ret (some i) D2 hf hO2)
    · exact body i D' (by omega) hO' (fun hz => by rw [show none0 (depK K p u i) p = false from hcc] at hz; cases hz) (fun _ D2 hO2 => k D2 hO2)
    · refine X_run rfl trivial ?_
      refine X_icmp_gt rfl (fun c3 => ?_) (fun c3 => absurd (show (50000 : Int32) < nI (500 * 101) by decide) c3)
      refine X_run rfl trivial ?_
      exact X_iret rfl rfl (ret none D' hf hO')
  · refine X_run rfl trivial ?_
    refine X_cV (args := [.int 1]) rfl (by decide) hy.1 rfl rfl (Nat.le_of_ble_eq_true rfl) (c_no hY) ?_
    rintro _ _ ⟨rfl, rfl⟩
    refine X_run rfl trivial ?_
    exact X_iret rfl rfl (RfP.no hM1 hO1 (by omega) rfl (by rw [pFrees, if_neg (nf2 c2)]))
theorem c_Madvise {m a : Int32} (hY : MoL S Y A A2) (hK : InvK K c) (hc : c + 1 ≤ 1000) (hM : RmR D Y A K T P e) : EvM g (d + 4) mX11_advise 0 0 [.ref Y, .int m, .int a] (md S D) (RfP S D Y A 0 K T P e [eB, eA] (pAdvise K m a)) := by
  have hW := hK.1
  obtain ⟨l1, l2, l3⟩ := hY.lo
  obtain ⟨hy, -, ⟨hL, hL2⟩, -⟩ := id hY
  obtain ⟨hs, ha, hb⟩ := hL.all
  obtain ⟨w1, w2, w3, w4⟩ := id hW
  obtain ⟨D1, e1, z1, y1⟩ := wr_fi D 352 Y 0
  have hM1 : RmR D1 Y A K T P e := e1 ▸ hM.thr (by omega) (by decide)
  have hR1 := hM1.1
  have hO1 : OutR S Y D D1 := e1 ▸ OutR.fi
  have t1 : d_fi D1 352 Y = 0 := by rw [z1, if_pos ⟨rfl, rfl⟩]
  refine EvM.mk (by decide) (Nat.le_of_ble_eq_true rfl) ?_
  refine X_run rfl ?_ ?_
  · simp [md_s, md_w, rget, r_a, r_b, r_c, r_i, r_l, hy, e1]
  try simp only [md_s, md_w, rget_some, r_a, r_b, r_c, r_i, r_l, r_nx, r_pc, Nat.reduceEqDiff, false_and, if_false, hy, e1]
  obtain ⟨hs2, ha2, hb2⟩ := hL2.all
  refine X_cV (args := [.int m]) rfl (by decide) hy.1 rfl rfl (Nat.le_of_ble_eq_true rfl) (c_RisMoney hY hR1) ?_
  rintro _ _ ⟨rfl, rfl⟩
  refine X_if_ne rfl (fun c1 => ?_) (fun c1 => ?_)
  · have c1 := b2i_nz c1
    obtain ⟨u, hu, rfl⟩ := (inB_iff (by omega)).mp c1
    refine X_run rfl trivial ?_
    refine X_cS (args := [.int a, .int 1, .int 100000]) rfl (by decide) rfl rfl (Nat.le_of_ble_eq_true rfl) c_isIn ?_
    rintro _ _ ⟨rfl, rfl⟩
    rw [if_inR]
    refine X_if_ne rfl (fun c2 => ?_) (fun c2 => ?_)
    · have c2 := b2i_nz c2
      have hin := of_decide_eq_true c2
      have ab : 0 ≤ a.toInt ∧ a.toInt ≤ 100000 := ⟨by have := Int32.le_iff_toInt_le.mp hin.1; have h1 : ((1 : Int32)).toInt = 1 := rfl; omega, Int32.le_iff_toInt_le.mp hin.2⟩
      have e0 : pAdvise K (nI u) a = .ok (iter (advS K u a) (k_np K) (-1, cntT K (outK K).1)).1 := by rw [pAdvise, if_pos c1, if_pos c2, iN_nI (by omega)]
      rw [e0]
      have hc1 := hR1.1
      unfold RrC at hc1
      refine X_run rfl trivial ?_
      refine X_run rfl ?_ ?_
      · simp [md_s, md_w, rget, r_a, r_b, r_c, r_i, r_l, hy, hs, hc1]
      try simp only [md_s, md_w, rget_some, r_a, r_b, r_c, r_i, r_l, r_nx, r_pc, Nat.reduceEqDiff, false_and, if_false, hy, hs, hc1]
      refine X_icmp_ge rfl (fun c3 => nI_m1 (show k_np K < 2 ^ 31 by omega) c3) (fun c3 => ?_)
      refine X_run rfl ?_ ?_
      · simp [md_s, md_w, rget, r_a, r_b, r_c, r_i, r_l, hy]
      try simp only [md_s, md_w, rget_some, r_a, r_b, r_c, r_i, r_l, r_nx, r_pc, Nat.reduceEqDiff, false_and, if_false, hy]
      refine X_cV (args := [.ref A]) rfl (by decide) hs2.1 rfl rfl (Nat.le_of_ble_eq_true rfl) (c_become hL2 hL l3 hW hR1) ?_
      rintro _ _ ⟨D2, rfl, rfl, hR2, hO2⟩
      refine X_run rfl trivial ?_
      refine X_icmp_eq rfl (fun _ => ?_) (fun c => absurd rfl c)
      refine X_run rfl ?_ ?_
      · simp [md_s, md_w, rget, r_a, r_b, r_c, r_i, r_l, hy]
      try simp only [md_s, md_w, rget_some, r_a, r_b, r_c, r_i, r_l, r_nx, r_pc, Nat.reduceEqDiff, false_and, if_false, hy]
      refine X_cV (args := []) rfl (by decide) hs2.1 rfl rfl (Nat.le_of_ble_eq_true rfl) (c_Rbegin hL2 hW hR2) ?_
      rintro _ _ ⟨D3, rfl, rfl, hJ3, hO3⟩
      refine X_run rfl ?_ ?_
      · simp [md_s, md_w, rget, r_a, r_b, r_c, r_i, r_l, hy]
      try simp only [md_s, md_w, rget_some, r_a, r_b, r_c, r_i, r_l, r_nx, r_pc, Nat.reduceEqDiff, false_and, if_false, hy]
      refine X_cV (args := []) rfl (by decide) hs2.1 rfl rfl (Nat.le_of_ble_eq_true rfl) (c_Rgo hL2 hK.run hJ3 (net0_I hK.run.2.1 hK.run.2.2.2 w3)) ?_
      rintro _ _ ⟨D4, rfl, rfl, hJ4, hO4⟩
      have hO4' : Out A2 (A2 + 20) D1 D4 := ((hO2.wide (Nat.le_refl _) (by omega)).tr (hO3.wide (by omega) (Nat.le_refl _))).tr (hO4.wide (by omega) (Nat.le_refl _))
      rw [show cntT K (outs K 60 (takes0 K, net0 K (k_ny K))).1 = cntT K (outK K).1 from rfl]
      have loop : Eg g (d + 4) mX11_advise 0 0 (Zr g (RfP S D Y A 0 K T P e [eB, eA] (.ok (iter (advS K u a) (k_np K) (-1, cntT K (outK K).1)).1))) 43 [(0, .ref Y), (1, .int (nI u)), (2, .int a), (3, .int (-1)), (4, .int (cntT K (outK K).1)), (5, .int 0)] [] (md S D4) := by
        refine Eg_up (α := DaT) (fun i D' => Eg g (d + 4) mX11_advise 0 0 (Zr g _) 43 [(0, .ref Y), (1, .int (nI u)), (2, .int a), (3, .int (iter (advS K u a) i (-1, cntT K (outK K).1)).1), (4, .int (iter (advS K u a) i (-1, cntT K (outK K).1)).2), (5, .int (nI i))] [] (md S D')) (fun i D' => Out A2 (A2 + 20) D1 D') (k_np K) (fun p D5 hp hO5 k => ?_) (fun D5 hO5 => ?_) D4 hO4'
        · have hR5 : RepR D5 A K := hR1.out hO5 (by omega)
          have hc5 := hR5.1
          unfold RrC at hc5
          have x5 := vx (show 5 * p + u < 50 by omega) (by decide)
          rw [show ∀ s, iter (advS K u a) (p + 1) s = advS K u a p (iter (advS K u a) p s) from fun s => rfl] at k
          generalize iter (advS K u a) p ((-1 : Int32), cntT K (outK K).1) = s at k ⊢
          refine X_run rfl ?_ ?_
          · simp [md_s, md_w, rget, r_a, r_b, r_c, r_i, r_l, hy, hs, hc5]
          try simp only [md_s, md_w, rget_some, r_a, r_b, r_c, r_i, r_l, r_nx, r_pc, Nat.reduceEqDiff, false_and, if_false, hy, hs, hc5]
          refine X_icmp_ge rfl (fun c4 => no_le c4 hp (by omega)) (fun c4 => ?_)
          refine X_run rfl ?_ ?_
          · simp [md_s, md_w, rget, r_a, r_b, r_c, r_i, r_l, hy]
          try simp only [md_s, md_w, rget_some, r_a, r_b, r_c, r_i, r_l, r_nx, r_pc, Nat.reduceEqDiff, false_and, if_false, hy]
          refine X_cV (args := [.ref A]) rfl (by decide) hs2.1 rfl rfl (Nat.le_of_ble_eq_true rfl) (c_become hL2 hL l3 hW hR5) ?_
          rintro _ _ ⟨D6, rfl, rfl, hR6, hO6⟩
          have hO6' := hO5.tr (hO6.wide (Nat.le_refl _) (by omega))
          have vb := ((hR6.2.1 p hp).2.2.2 u (by omega)).1
          obtain ⟨D7, e7, z7, y7⟩ := wr_ai D6 (A2 + 7) (5 * p + u) (k_ba K p u + a)
          have hR7 : RepR D7 A2 (addB K p u a) := e7 ▸ hR6.ba (by omega) _
          have hO7 : Out A2 (A2 + 20) D1 D7 := hO6'.tr (e7 ▸ Out.ai (by omega))
          have hK7 : InvK (addB K p u a) (c + 1) := inv_addB hK hp hu ab hc
          refine X_run rfl trivial ?_
          refine X_icmp_eq rfl (fun z => absurd ((pE_some (o := some p) (fun q hq => by cases hq; exact hp) (show k_np K < 2 ^ 31 by omega)).mp z) (by simp)) (fun _ => ?_)
          refine X_run rfl ?_ ?_
          · simp [md_s, md_w, rget, r_a, r_b, r_c, r_i, r_l, hy, hs2, ha2, i5, x5, vb, e7]
          try simp only [md_s, md_w, rget_some, r_a, r_b, r_c, r_i, r_l, r_nx, r_pc, Nat.reduceEqDiff, false_and, if_false, hy, hs2, ha2, i5, x5, vb, e7]
          refine X_cV (args := []) rfl (by decide) hs2.1 rfl rfl (Nat.le_of_ble_eq_true rfl) (c_Rbegin hL2 hK7.1 hR7) ?_
          rintro _ _ ⟨D8, rfl, rfl, hJ8, hO8⟩
          refine X_run rfl ?_ ?_
          · simp [md_s, md_w, rget, r_a, r_b, r_c, r_i, r_l, hy]
          try simp only [md_s, md_w, rget_some, r_a, r_b, r_c, r_i, r_l, r_nx, r_pc, Nat.reduceEqDiff, false_and, if_false, hy]
          refine X_cV (args := []) rfl (by decide) hs2.1 rfl rfl (Nat.le_of_ble_eq_true rfl) (c_Rgo hL2 hK7.run hJ8 (net0_I hK7.run.2.1 hK7.run.2.2.2 hK7.1.2.2.1)) ?_
          rintro _ _ ⟨D9, rfl, rfl, hJ9, hO9⟩
          have hO9' := (hO7.tr (hO8.wide (by omega) (Nat.le_refl _))).tr (hO9.wide (by omega) (Nat.le_refl _))
          have k2 := k D9 hO9'
          rw [show cntT (addB K p u a) (outs (addB K p u a) 60 (takes0 (addB K p u a), net0 (addB K p u a) (k_ny (addB K p u a)))).1 = advC K u a p from rfl]
          unfold advS at k2
          generalize advC K u a p = v at k2 ⊢
          refine X_run rfl trivial ?_
          refine X_icmp_le rfl (fun c5 => ?_) (fun c5 => ?_)
          · refine X_run rfl trivial ?_
            refine X_max rfl (Nat.le_of_ble_eq_true rfl) ?_
            refine X_run rfl ?_ ?_
            · simp [md_s, md_w, rget, r_a, r_b, r_c, r_i, r_l, nI_s1]
            try simp only [md_s, md_w, rget_some, r_a, r_b, r_c, r_i, r_l, r_nx, r_pc, Nat.reduceEqDiff, false_and, if_false, nI_s1]
            rw [if_neg (Int32.not_lt.mpr c5)] at k2 ⊢
            exact Eg.sub k2 ⟨rfl, rfl, rfl, rfl, rfl, rfl, trivial⟩
          · have c5 := Int32.not_le.mp c5
            refine X_run rfl trivial ?_
            refine X_icmp_eq rfl (fun z => absurd ((pE_some (o := some p) (fun q hq => by cases hq; exact hp) (show k_np K < 2 ^ 31 by omega)).mp z) (by simp)) (fun _ => ?_)
            refine X_run rfl trivial ?_
            refine X_max rfl (Nat.le_of_ble_eq_true rfl) ?_
            refine X_run rfl ?_ ?_
            · simp [md_s, md_w, rget, r_a, r_b, r_c, r_i, r_l, nI_s1]
            try simp only [md_s, md_w, rget_some, r_a, r_b, r_c, r_i, r_l, r_nx, r_pc, Nat.reduceEqDiff, false_and, if_false, nI_s1]
            rw [if_pos c5] at k2 ⊢
            exact Eg.sub k2 ⟨rfl, rfl, rfl, rfl, rfl, rfl, trivial⟩
        · have hR5 : RepR D5 A K := hR1.out hO5 (by omega)
          have hc5 := hR5.1
          unfold RrC at hc5
          refine X_run rfl ?_ ?_
          · simp [md_s, md_w, rget, r_a, r_b, r_c, r_i, r_l, hy, hs, hc5]
          try simp only [md_s, md_w, rget_some, r_a, r_b, r_c, r_i, r_l, r_nx, r_pc, Nat.reduceEqDiff, false_and, if_false, hy, hs, hc5]
          refine X_icmp_ge rfl (fun c4 => ?_) (fun c4 => no_nle c4 (Nat.le_refl _) (by omega))
          refine X_run rfl trivial ?_
          exact X_iret rfl rfl (RfP.ok (hM1.out hO5 (by omega) (Or.inl (by omega))) (hO1.tr (OutR.o hO5 (by omega))) (by rw [(hO5 Y (by omega)).1]; exact t1) rfl)
      have em : (if 0 < cntT K (outK K).1 then cntT K (outK K).1 else 0) = cntT K (outK K).1 := by
        rw [cntT_nat]
        exact max_0 (by have := cnN_le (outK K).1 (k_ny K); omega)
      refine X_run rfl trivial ?_
      refine X_icmp_le rfl (fun c5 => ?_) (fun c5 => ?_)
      · refine X_run rfl trivial ?_
        refine X_max rfl (Nat.le_of_ble_eq_true rfl) ?_
        refine X_run rfl ?_ ?_
        · simp [md_s, md_w, rget, r_a, r_b, r_c, r_i, r_l, em]
        try simp only [md_s, md_w, rget_some, r_a, r_b, r_c, r_i, r_l, r_nx, r_pc, Nat.reduceEqDiff, false_and, if_false, em]
        exact Eg.sub loop ⟨rfl, rfl, rfl, rfl, rfl, rfl, trivial⟩
      · refine X_run rfl trivial ?_
        refine X_icmp_eq rfl (fun _ => ?_) (fun z => absurd rfl z)
        refine X_run rfl trivial ?_
        refine X_max rfl (Nat.le_of_ble_eq_true rfl) ?_
        refine X_run rfl ?_ ?_
        · simp [md_s, md_w, rget, r_a, r_b, r_c, r_i, r_l, em]
        try simp only [md_s, md_w, rget_some, r_a, r_b, r_c, r_i, r_l, r_nx, r_pc, Nat.reduceEqDiff, false_and, if_false, em]
        exact Eg.sub loop ⟨rfl, rfl, rfl, rfl, rfl, rfl, trivial⟩
    · have e0 : pAdvise K (nI u) a = .error eA := by rw [pAdvise, if_pos c1, if_neg (nb2i c2)]
      rw [e0]
      refine X_run rfl trivial ?_
      refine X_cV (args := [.int 2]) rfl (by decide) hy.1 rfl rfl (Nat.le_of_ble_eq_true rfl) (c_no hY) ?_
      rintro _ _ ⟨rfl, rfl⟩
      refine X_run rfl trivial ?_
      exact X_iret rfl rfl (RfP.no hM1 hO1 (by omega) rfl (rfl))
  · have e0 : pAdvise K m a = .error eB := by rw [pAdvise, if_neg (nb2i c1)]
    rw [e0]
    refine X_run rfl trivial ?_
    refine X_cV (args := [.int 1]) rfl (by decide) hy.1 rfl rfl (Nat.le_of_ble_eq_true rfl) (c_no hY) ?_
    rintro _ _ ⟨rfl, rfl⟩
    refine X_run rfl trivial ?_
    exact X_iret rfl rfl (RfP.no hM1 hO1 (by omega) rfl (rfl))
end REFFIND
