/-! who is left out, by the reference -/
theorem leaves_lvo {K : KT} {r : RuT} {p n : Nat} (hf : firstIx (k_np K) (short K r.2) = some p) (hd : (iter (dear K r.1 p) (k_ny K) (none, 0)).1 = some n) : leaves K r = some (lvo K (leave1 K r n) (k_pr K n)) := by
  unfold leaves
  rw [hf]
  show (match (iter (dear K r.1 p) (k_ny K) (none, 0)).1 with
    | none => none
    | some n => match k_pr K n with
      | none => some (leave1 K r n)
      | some q => if (leave1 K r n).1 q = true then some (leave1 K (leave1 K r n) q) else some (leave1 K r n)) = _
  rw [hd]
  dsimp only
  unfold lvo
  cases k_pr K n with
  | none => rfl
  | some q =>
    dsimp only
    split <;> rfl
section REFGO
variable {g : GG} {d : Nat} {S : ShT} {D : DaT} {A : Nat} {K : KT}
/-- the search of the reference, from its head on -/
theorem Rdear {r : RuT} {p n0 : Nat} {Zq : ZT} (hL : StL S A) (hK : RunK K) (hJ : RnR D A K r) (hp : p < k_np K) (hd : (iter (dear K r.1 p) (k_ny K) (none, 0)).1 = some n0)
    (k : Eg g (d + 3) mX10_go 0 0 Zq 115 [(0, .ref A), (1, .int (nI p)), (2, .int (nI n0)), (3, .int (nI (k_ny K)))] [] (md S D)) : Eg g (d + 3) mX10_go 0 0 Zq 28 [(0, .ref A), (1, .int (nI p)), (2, .int (-1)), (3, .int 0)] [] (md S D) := by
  obtain ⟨hs, ha, hb⟩ := hL.all
  obtain ⟨⟨w1, w2, w3, w4⟩, hA, hRt, -⟩ := hK
  obtain ⟨hR, hI, hM⟩ := hJ
  have hc := hR.1
  unfold RrC at hc
  refine Eg_iter (fun i (s : Option Nat × Int64) => Eg g (d + 3) mX10_go 0 0 Zq 28 [(0, .ref A), (1, .int (nI p)), (2, .int (pE s.1)), (3, .int (nI i))] [] (md S D)) (dear K r.1 p) (k_ny K) (none, 0) (fun i hi k2 => ?_) ?_
  · have hv := hR.2.2.2 i hi
    unfold RrY at hv
    have x1 := vx (show i < 60 by omega) (by decide)
    have hin := hI i hi
    obtain ⟨w5, w6, w7, -⟩ := w4 i hi
    have hm := hR.2.2.1 _ w7
    unfold RrM at hm
    have x2 := vx (show k_mo K i < 5 by omega) (by decide)
    have inv := dear_inv (K := K) (tk := r.1) (p := p) i
    have hpr := price_nn hA hRt hi w7
    generalize iter (dear K r.1 p) i (none, 0) = s at k2 inv ⊢
    have skip : ¬ (r.1 i = true ∧ k_fr K i = p ∧ s.2 ≤ price K i) → Eg g (d + 3) mX10_go 0 0 Zq 109 [(0, .ref A), (1, .int (nI p)), (2, .int (pE s.1)), (3, .int (nI i))] [] (md S D) := by
      intro c
      refine X_run rfl ?_ ?_
      · simp [md_s, md_w, rget, r_a, r_b, r_c, r_i, r_l, nI_s1]
      try simp only [md_s, md_w, rget_some, r_a, r_b, r_c, r_i, r_l, r_nx, r_pc, Nat.reduceEqDiff, false_and, if_false, nI_s1]
      rw [show dear K r.1 p i s = s from if_neg c] at k2
      exact k2
    have take : r.1 i = true ∧ k_fr K i = p ∧ s.2 ≤ price K i → Eg g (d + 3) mX10_go 0 0 Zq 107 [(0, .ref A), (1, .int (nI p)), (2, .int (pE s.1)), (3, .int (nI i))] [] (md S D) := by
      intro c
      refine X_run rfl ?_ ?_
      · simp [md_s, md_w, rget, r_a, r_b, r_c, r_i, r_l, nI_s1]
      try simp only [md_s, md_w, rget_some, r_a, r_b, r_c, r_i, r_l, r_nx, r_pc, Nat.reduceEqDiff, false_and, if_false, nI_s1]
      rw [show dear K r.1 p i s = (some i, price K i) from if_pos c] at k2
      exact k2
    refine X_run rfl ?_ ?_
    · simp [md_s, md_w, rget, r_a, r_b, r_c, r_i, r_l, hs, hc]
    try simp only [md_s, md_w, rget_some, r_a, r_b, r_c, r_i, r_l, r_nx, r_pc, Nat.reduceEqDiff, false_and, if_false, hs, hc]
    refine X_icmp_ge rfl (fun c1 => no_le c1 hi (by omega)) (fun c1 => ?_)
    refine X_run rfl ?_ ?_
    · simp [md_s, md_w, rget, r_a, r_b, r_c, r_i, r_l, hs, hb, x1, hin]
    try simp only [md_s, md_w, rget_some, r_a, r_b, r_c, r_i, r_l, r_nx, r_pc, Nat.reduceEqDiff, false_and, if_false, hs, hb, x1, hin]
    refine X_if_eq rfl (fun c2 => skip (fun z => nb2i c2 z.1)) (fun c2 => ?_)
    have t1 := b2i_nz c2
    refine X_run rfl ?_ ?_
    · simp [md_s, md_w, rget, r_a, r_b, r_c, r_i, r_l, hs, hb, x1, hv]
    try simp only [md_s, md_w, rget_some, r_a, r_b, r_c, r_i, r_l, r_nx, r_pc, Nat.reduceEqDiff, false_and, if_false, hs, hb, x1, hv]
    refine (fun (kf : ¬ nI (k_fr K i) = nI p → _) (kt : nI (k_fr K i) = nI p → _) => X_icmp_eq rfl kt kf) (fun c3 => ?_) (fun c3 => ?_)
    · refine X_run rfl ?_ ?_
      · simp [md_s, md_w, rget, r_a, r_b, r_c, r_i, r_l, nI_s1]
      try simp only [md_s, md_w, rget_some, r_a, r_b, r_c, r_i, r_l, r_nx, r_pc, Nat.reduceEqDiff, false_and, if_false, nI_s1]
      rw [show dear K r.1 p i s = s from if_neg (fun z => c3 (by rw [z.2.1]))] at k2
      exact k2
    have t2 : k_fr K i = p := nI_inj (by omega) (by omega) c3
    refine X_run rfl trivial ?_
    rcases inv with ⟨v1, v2⟩ | ⟨q, v1, v2, v3, v4⟩
    · have take' := take ⟨t1, t2, by rw [v2]; exact hpr⟩
      rw [v1] at take' ⊢
      exact X_icmp_eq rfl (fun _ => take') (fun c => absurd rfl c)
    · subst v4
      refine X_icmp_eq rfl (fun c => absurd ((pE_some (o := some q) (fun q' hq => by cases hq; omega) (show k_ny K < 2 ^ 31 by omega)).mp c) (by simp)) (fun _ => ?_)
      have hvq := hR.2.2.2 q (by omega)
      unfold RrY at hvq
      obtain ⟨-, -, u7, -⟩ := w4 q (by omega)
      have hmq := hR.2.2.1 _ u7
      unfold RrM at hmq
      have x3 := vx (show q < 60 by omega) (by decide)
      have x4 := vx (show k_mo K q < 5 by omega) (by decide)
      refine X_run rfl ?_ ?_
      · simp [md_s, md_w, rget, r_a, r_b, r_c, r_i, r_l, hs, ha, hb, x1, x2, x3, x4, hv, hvq, hm, hmq, pE]
      try simp only [md_s, md_w, rget_some, r_a, r_b, r_c, r_i, r_l, r_nx, r_pc, Nat.reduceEqDiff, false_and, if_false, hs, ha, hb, x1, x2, x3, x4, hv, hvq, hm, hmq, pE]
      refine X_if_lt rfl (fun c4 => skip (fun z => absurd z.2.2 (Int64.not_le.mpr ((lg_cmp_lt _ _).mp c4)))) (fun c4 => ?_)
      exact take ⟨t1, t2, Int64.not_lt.mp (fun z => c4 ((lg_cmp_lt _ _).mpr z))⟩
  · rw [hd]
    refine X_run rfl ?_ ?_
    · simp [md_s, md_w, rget, r_a, r_b, r_c, r_i, r_l, hs, hc]
    try simp only [md_s, md_w, rget_some, r_a, r_b, r_c, r_i, r_l, r_nx, r_pc, Nat.reduceEqDiff, false_and, if_false, hs, hc]
    refine X_icmp_ge rfl (fun c1 => ?_) (fun c1 => no_nle c1 (Nat.le_refl _) (by omega))
    exact k
theorem c_Rgo {r : RuT} (hL : StL S A) (hK : RunK K) (hJ : RnR D A K r) (hN : NtI K r.1 r.2) : EvM g (d + 3) mX10_go 0 0 [.ref A] (md S D) (fun v M1 => ∃ D1, v = some (.int (cntT K (outs K 60 r).1)) ∧ M1 = md S D1 ∧ RnR D1 A K (outs K 60 r) ∧ Out (A + 18) (A + 20) D D1) := by
  obtain ⟨hs, ha, hb⟩ := hL.all
  have hK' := hK
  obtain ⟨hW, hA, hRt, hBa⟩ := hK
  have hW' := hW
  obtain ⟨w1, w2, w3, w4⟩ := hW
  suffices main : ∀ F, outs K 60 r = F → EvM g (d + 3) mX10_go 0 0 [.ref A] (md S D) (fun v M1 => ∃ D1, v = some (.int (cntT K F.1)) ∧ M1 = md S D1 ∧ RnR D1 A K F ∧ Out (A + 18) (A + 20) D D1) from main _ rfl
  intro F hF
  let PP : Option Value → Mem → Prop := fun v M1 => ∃ D1, v = some (.int (cntT K F.1)) ∧ M1 = md S D1 ∧ RnR D1 A K F ∧ Out (A + 18) (A + 20) D D1
  have fin : ∀ D', RnR D' A K F → Out (A + 18) (A + 20) D D' → Eg g (d + 3) mX10_go 0 0 (Zr g PP) 135 [(0, .ref A)] [] (md S D') := by
    intro D' hJ' hO
    obtain ⟨hR, hI, hM⟩ := hJ'
    have hc := hR.1
    unfold RrC at hc
    refine X_run rfl trivial ?_
    refine Eg_iter (fun i (x : Int32) => Eg g (d + 3) mX10_go 0 0 (Zr g PP) 139 [(0, .ref A), (2, .int x), (3, .int (nI i))] [] (md S D')) (fun i acc => if F.1 i = true then acc + 1 else acc) (k_ny K) 0 (fun i hi k => ?_) ?_
    · have x1 := vx (show i < 60 by omega) (by decide)
      have hin := hI i hi
      refine X_run rfl ?_ ?_
      · simp [md_s, md_w, rget, r_a, r_b, r_c, r_i, r_l, hs, hc]
      try simp only [md_s, md_w, rget_some, r_a, r_b, r_c, r_i, r_l, r_nx, r_pc, Nat.reduceEqDiff, false_and, if_false, hs, hc]
      refine X_icmp_ge rfl (fun c1 => no_le c1 hi (by omega)) (fun c1 => ?_)
      refine X_run rfl ?_ ?_
      · simp [md_s, md_w, rget, r_a, r_b, r_c, r_i, r_l, hs, hb, x1, hin, nI_s1, b2i_add]
      try simp only [md_s, md_w, rget_some, r_a, r_b, r_c, r_i, r_l, r_nx, r_pc, Nat.reduceEqDiff, false_and, if_false, hs, hb, x1, hin, nI_s1, b2i_add]
      exact k
    · refine X_run rfl ?_ ?_
      · simp [md_s, md_w, rget, r_a, r_b, r_c, r_i, r_l, hs, hc]
      try simp only [md_s, md_w, rget_some, r_a, r_b, r_c, r_i, r_l, r_nx, r_pc, Nat.reduceEqDiff, false_and, if_false, hs, hc]
      refine X_icmp_ge rfl (fun c1 => ?_) (fun c1 => no_nle c1 (Nat.le_refl _) (by omega))
      refine X_run rfl trivial ?_
      exact X_iret rfl rfl ⟨D', rfl, rfl, ⟨hR, hI, hM⟩, hO⟩
  have next : ∀ (r : RuT) (D' : DaT), RnR D' A K r → NtI K r.1 r.2 → Out (A + 18) (A + 20) D D' → (leaves K r = none → F = r) → (∀ r1 D2, leaves K r = some r1 → RnR D2 A K r1 → Out (A + 18) (A + 20) D D2 → Eg g (d + 3) mX10_go 0 0 (Zr g PP) 2 [(0, .ref A), (1, .int 0)] [] (md S D2)) → ∀ j p, p + j = k_np K → (∀ q, q < p → short K r.2 q = false) → Eg g (d + 3) mX10_go 0 0 (Zr g PP) 2 [(0, .ref A), (1, .int (nI p))] [] (md S D') := by
    intro r D' hJ' hN' hO h1 h2 j
    have hJ2 := hJ'
    obtain ⟨hR, hI, hM⟩ := hJ2
    have hc := hR.1
    unfold RrC at hc
    induction j with
    | zero =>
      intro p hp hq
      have hp : p = k_np K := by omega
      subst hp
      refine X_run rfl ?_ ?_
      · simp [md_s, md_w, rget, r_a, r_b, r_c, r_i, r_l, hs, hc]
      try simp only [md_s, md_w, rget_some, r_a, r_b, r_c, r_i, r_l, r_nx, r_pc, Nat.reduceEqDiff, false_and, if_false, hs, hc]
      refine X_icmp_ge rfl (fun c1 => ?_) (fun c1 => no_nle c1 (Nat.le_refl _) (by omega))
      have e : F = r := h1 ((leaves_none hK' hN').mpr (firstIx_none hq))
      exact Eg.sub (fin D' (by rw [e]; exact hJ') hO) ⟨rfl, trivial⟩
    | succ j ih =>
      intro p hp hq
      have hpn : p < k_np K := by omega
      refine X_run rfl ?_ ?_
      · simp [md_s, md_w, rget, r_a, r_b, r_c, r_i, r_l, hs, hc]
      try simp only [md_s, md_w, rget_some, r_a, r_b, r_c, r_i, r_l, r_nx, r_pc, Nat.reduceEqDiff, false_and, if_false, hs, hc]
      refine X_icmp_ge rfl (fun c1 => no_le c1 hpn (by omega)) (fun c1 => ?_)
      refine X_run rfl trivial ?_
      refine X_cV (args := [.int (nI p)]) rfl (by decide) hs.1 rfl rfl (Nat.le_of_ble_eq_true rfl) (c_RisShort hL hW' hR hpn hM (fun m hm => nt64 hK' hN' hpn hm)) ?_
      rintro _ _ ⟨rfl, rfl⟩
      refine X_if_ne rfl (fun c2 => ?_) (fun c2 => ?_)
      · have hsh := b2i_nz c2
        have hf : firstIx (k_np K) (short K r.2) = some p := firstIx_some hpn hq hsh
        have hne := dear_has (tk := r.1) (p := p) (fun n hn => price_nn hA hRt hn (w4 n hn).2.2.1) (k_ny K) (Nat.le_refl _) (short_has hA hRt w2 hpn hN' hsh)
        cases hd : (iter (dear K r.1 p) (k_ny K) (none, 0)).1 with
        | none => exact absurd hd hne
        | some n0 =>
          obtain ⟨d1, d2, -⟩ := dearO_take (o := some p) hd
          refine X_run rfl trivial ?_
          refine Rdear hL hK' hJ' hpn hd ?_
          refine X_run rfl trivial ?_
          refine X_cV (args := [.int (nI n0)]) rfl (by decide) hs.1 rfl rfl (Nat.le_of_ble_eq_true rfl) (c_RleaveOut (o := some n0) hL hW' (fun n hn => by cases hn; exact d1) hJ') ?_
          rintro _ _ ⟨D3, rfl, rfl, hJ3, hO3⟩
          have e3 : lvo K r (some n0) = leave1 K r n0 := if_pos d2
          rw [e3] at hJ3
          have hv := hJ3.1.2.2.2 n0 d1
          unfold RrY at hv
          have x1 := vx (show n0 < 60 by omega) (by decide)
          refine X_run rfl ?_ ?_
          · simp [md_s, md_w, rget, r_a, r_b, r_c, r_i, r_l, hs, hb, x1, hv]
          try simp only [md_s, md_w, rget_some, r_a, r_b, r_c, r_i, r_l, r_nx, r_pc, Nat.reduceEqDiff, false_and, if_false, hs, hb, x1, hv]
          refine X_cV (args := [.int (pE (k_pr K n0))]) rfl (by decide) hs.1 rfl rfl (Nat.le_of_ble_eq_true rfl) (c_RleaveOut (o := k_pr K n0) hL hW' (w4 n0 d1).2.2.2 hJ3) ?_
          rintro _ _ ⟨D4, rfl, rfl, hJ4, hO4⟩
          refine X_run rfl trivial ?_
          exact Eg.sub (h2 _ D4 (leaves_lvo hf hd) hJ4 ((hO.tr hO3).tr hO4)) ⟨rfl, rfl, trivial⟩
      · refine X_run rfl ?_ ?_
        · simp [md_s, md_w, rget, r_a, r_b, r_c, r_i, r_l, nI_s1]
        try simp only [md_s, md_w, rget_some, r_a, r_b, r_c, r_i, r_l, r_nx, r_pc, Nat.reduceEqDiff, false_and, if_false, nI_s1]
        refine ih (p + 1) (by omega) (fun q hq' => ?_)
        by_cases c : q = p
        · rw [c]; exact b2i_zero.mp c2
        · exact hq q (by omega)
  have loop : ∀ n (r : RuT) (D' : DaT), RnR D' A K r → NtI K r.1 r.2 → Out (A + 18) (A + 20) D D' → cnN r.1 (k_ny K) ≤ n → outs K n r = F → Eg g (d + 3) mX10_go 0 0 (Zr g PP) 2 [(0, .ref A), (1, .int 0)] [] (md S D') := by
    intro n
    induction n with
    | zero =>
      intro r D' hJ' hN' hO hcn hE
      exact next r D' hJ' hN' hO (fun _ => hE.symm) (fun r1 D2 hl _ _ => absurd (leaves_I hK' hN' hl).2.1 (by omega)) (k_np K) 0 (by omega) (fun q hq => absurd hq (Nat.not_lt_zero _))
    | succ n ih =>
      intro r D' hJ' hN' hO hcn hE
      unfold outs at hE
      refine next r D' hJ' hN' hO (fun hl => by rw [hl] at hE; exact hE.symm) (fun r1 D2 hl hJ2 hO2 => ?_) (k_np K) 0 (by omega) (fun q hq => absurd hq (Nat.not_lt_zero _))
      rw [hl] at hE
      obtain ⟨l1, l2, -⟩ := leaves_I hK' hN' hl
      exact ih r1 D2 hJ2 l1 hO2 (by omega) hE
  refine EvM.mk (by decide) (Nat.le_of_ble_eq_true rfl) ?_
  refine X_run rfl trivial ?_
  exact loop 60 r D hJ hN Out.rf (Nat.le_trans (cnN_le _ _) w3) hF
end REFGO
