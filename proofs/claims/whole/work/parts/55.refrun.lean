/-! a run of the reference -/
theorem InR.out {D D1 : DaT} {A lo hi i : Nat} {tk : Nat → Bool} (h : InR D A tk i) (ho : Out lo hi D D1) (hd : A + 18 < lo ∨ hi ≤ A + 18) : InR D1 A tk i := fun n hn => by rw [(ho (A + 18) hd).2.2.1]; exact h n hn
theorem MoR.out {D D1 : DaT} {A lo hi : Nat} {K : KT} {nt : Nat → Nat → Int32} (h : MoR D A K nt) (ho : Out lo hi D D1) (hd : A + 19 < lo ∨ hi ≤ A + 19) : MoR D1 A K nt := fun p hp m hm => by rw [(ho (A + 19) hd).2.2.1]; exact h p hp m hm
theorem RepR.o18 {D D1 : DaT} {A lo hi : Nat} {K : KT} (h : RepR D A K) (ho : Out lo hi D D1) (hd : A + 18 ≤ lo) : RepR D1 A K := h.out ho (Or.inr hd)
theorem b2i_add (x : Int32) (b : Bool) : x + b2i b = if b = true then x + 1 else x := by
  cases b
  · exact Int32.add_zero x
  · rfl
theorem m1_mul (x : Int32) : (-1) * x = -x := by rw [Int32.neg_mul, Int32.one_mul]
def lvo (K : KT) (r : RuT) (o : Option Nat) : RuT := match o with
  | none => r
  | some n => if r.1 n = true then leave1 K r n else r
def RnR (D : DaT) (A : Nat) (K : KT) (r : RuT) : Prop := RepR D A K ∧ InR D A r.1 (k_ny K) ∧ MoR D A K r.2
section REFRUN
variable {g : GG} {d : Nat} {S : ShT} {D : DaT} {A : Nat} {K : KT}
theorem c_Rbegin (hL : StL S A) (hW : WfK K) (hR : RepR D A K) : EvM g (d + 1) mX10_begin 0 0 [.ref A] (md S D) (fun v M1 => ∃ D1, v = some (.int (cntT K (takes0 K))) ∧ M1 = md S D1 ∧ RnR D1 A K (takes0 K, net0 K (k_ny K)) ∧ Out (A + 18) (A + 20) D D1) := by
  obtain ⟨hs, ha, hb⟩ := hL.all
  have hW' := hW
  obtain ⟨w1, w2, w3, w4⟩ := hW
  refine EvM.mk (by decide) (Nat.le_of_ble_eq_true rfl) ?_
  refine X_run rfl trivial ?_
  refine Eg_up (α := DaT) (fun i D' => Eg g (d + 1) mX10_begin 0 0 (Zr g _) 4 [(0, .ref A), (1, .int 0), (2, .int (nI i))] [] (md S D')) (fun i D' => RepR D' A K ∧ (∀ j, j < i → d_ai D' (A + 19) j = 0) ∧ Out (A + 18) (A + 20) D D') 50 (fun i D1 hi hI k => ?_) (fun D1 hI => ?_) D ⟨hR, fun j hj => absurd hj (Nat.not_lt_zero _), Out.rf⟩
  · obtain ⟨hR1, hz1, hO1⟩ := hI
    obtain ⟨D2, e2, z2, y2⟩ := wr_ai D1 (A + 19) i 0
    have hO2 : Out (A + 18) (A + 20) D1 D2 := e2 ▸ Out.ai (by omega)
    refine X_run rfl trivial ?_
    refine X_icmp_ge rfl (fun c1 => no_le (a := 50) c1 hi (by omega)) (fun c1 => ?_)
    refine X_run rfl ?_ ?_
    · simp [md_s, md_w, rget, r_a, r_b, r_c, r_i, r_l, hs, hb, vx (show i < 50 by omega) (by decide), e2, nI_s1]
    try simp only [md_s, md_w, rget_some, r_a, r_b, r_c, r_i, r_l, r_nx, r_pc, Nat.reduceEqDiff, false_and, if_false, hs, hb, vx (show i < 50 by omega) (by decide), e2, nI_s1]
    refine k D2 ⟨hR1.o18 hO2 (Nat.le_refl _), fun j hj => ?_, hO1.tr hO2⟩
    rw [z2]
    by_cases c : j = i
    · rw [if_pos ⟨rfl, c⟩]
    · rw [if_neg (fun z => c z.2)]; exact hz1 j (by omega)
  · obtain ⟨hR1, hz1, hO1⟩ := hI
    refine X_run rfl trivial ?_
    refine X_icmp_ge rfl (fun c1 => ?_) (fun c1 => absurd (show (50 : Int32) ≤ nI 50 by decide) c1)
    refine X_run rfl trivial ?_
    refine Eg_up (α := DaT) (fun i D' => Eg g (d + 1) mX10_begin 0 0 (Zr g _) 25 [(0, .ref A), (1, .int (iter (fun i acc => if takes0 K i = true then acc + 1 else acc) i 0)), (2, .int (nI i))] [] (md S D')) (fun i D' => RepR D' A K ∧ InR D' A (takes0 K) i ∧ MoR D' A K (net0 K i) ∧ Out (A + 18) (A + 20) D D') (k_ny K) (fun i D2 hi hI k => ?_) (fun D2 hI => ?_) D1 ⟨hR1, fun j hj => absurd hj (Nat.not_lt_zero _), fun p hp m hm => ?_, hO1⟩
    · obtain ⟨hR2, hI2, hM2, hO2⟩ := hI
      have hc := hR2.1
      unfold RrC at hc
      have hv := hR2.2.2.2 i hi
      unfold RrY at hv
      have x1 := vx (show i < 60 by omega) (by decide)
      have yes : takes0 K i = true → Eg g (d + 1) mX10_begin 0 0 (Zr g (fun v M1 => ∃ D1, v = some (.int (cntT K (takes0 K))) ∧ M1 = md S D1 ∧ RnR D1 A K (takes0 K, net0 K (k_ny K)) ∧ Out (A + 18) (A + 20) D D1)) 69 [(0, .ref A), (1, .int (iter (fun i acc => if takes0 K i = true then acc + 1 else acc) i 0)), (2, .int (nI i))] [.int (nI i), .ref (A + 18)] (md S D2) := by
        intro ht
        obtain ⟨D3, e3, z3, y3⟩ := wr_ai D2 (A + 18) i 1
        have hO3 : Out (A + 18) (A + 19) D2 D3 := e3 ▸ Out.ai (by omega)
        have f3 : d_ai D3 (A + 18) i = 1 := by rw [z3, if_pos ⟨rfl, rfl⟩]
        have hR3 := hR2.o18 hO3 (Nat.le_refl _)
        have hM3 := hM2.out hO3 (by omega)
        refine X_run rfl ?_ ?_
        · simp [md_s, md_w, rget, r_a, r_b, r_c, r_i, r_l, hs, hb, x1, e3, f3]
        try simp only [md_s, md_w, rget_some, r_a, r_b, r_c, r_i, r_l, r_nx, r_pc, Nat.reduceEqDiff, false_and, if_false, hs, hb, x1, e3, f3]
        refine X_if_ne rfl (fun _ => ?_) (fun c => absurd c (by decide))
        refine X_run rfl trivial ?_
        refine X_cV (args := [.int (nI i), .int 1]) rfl (by decide) hs.1 rfl rfl (Nat.le_of_ble_eq_true rfl) (c_move hL hW' hR3 hi hM3) ?_
        rintro _ _ ⟨D4, rfl, rfl, hR4, hM4, hO4⟩
        refine X_run rfl ?_ ?_
        · simp [md_s, md_w, rget, r_a, r_b, r_c, r_i, r_l, nI_s1]
        try simp only [md_s, md_w, rget_some, r_a, r_b, r_c, r_i, r_l, r_nx, r_pc, Nat.reduceEqDiff, false_and, if_false, nI_s1]
        have k2 := k D4 ⟨hR4, fun n hn => ?_, ?_, (hO2.tr (hO3.wide (Nat.le_refl _) (by omega))).tr (hO4.wide (by omega) (Nat.le_refl _))⟩
        · rw [show iter (fun i acc => if takes0 K i = true then acc + 1 else acc) (i + 1) (0 : Int32) = iter (fun i acc => if takes0 K i = true then acc + 1 else acc) i 0 + 1 from if_pos ht] at k2
          exact k2
        · rw [(hO4 (A + 18) (by omega)).2.2.1, z3]
          by_cases c : n = i
          · rw [if_pos ⟨rfl, c⟩, c, ht]; rfl
          · rw [if_neg (fun z => c z.2)]; exact hI2 n (by omega)
        · rw [Int32.one_mul] at hM4
          rw [show net0 K (i + 1) = mvN K (net0 K i) i (k_am K i) from if_pos ht]
          exact hM4
      have no_ : takes0 K i = false → Eg g (d + 1) mX10_begin 0 0 (Zr g (fun v M1 => ∃ D1, v = some (.int (cntT K (takes0 K))) ∧ M1 = md S D1 ∧ RnR D1 A K (takes0 K, net0 K (k_ny K)) ∧ Out (A + 18) (A + 20) D D1)) 73 [(0, .ref A), (1, .int (iter (fun i acc => if takes0 K i = true then acc + 1 else acc) i 0)), (2, .int (nI i))] [.int (nI i), .ref (A + 18)] (md S D2) := by
        intro ht
        obtain ⟨D3, e3, z3, y3⟩ := wr_ai D2 (A + 18) i 0
        have hO3 : Out (A + 18) (A + 19) D2 D3 := e3 ▸ Out.ai (by omega)
        have f3 : d_ai D3 (A + 18) i = 0 := by rw [z3, if_pos ⟨rfl, rfl⟩]
        have hR3 := hR2.o18 hO3 (Nat.le_refl _)
        have hM3 := hM2.out hO3 (by omega)
        refine X_run rfl ?_ ?_
        · simp [md_s, md_w, rget, r_a, r_b, r_c, r_i, r_l, hs, hb, x1, e3, f3]
        try simp only [md_s, md_w, rget_some, r_a, r_b, r_c, r_i, r_l, r_nx, r_pc, Nat.reduceEqDiff, false_and, if_false, hs, hb, x1, e3, f3]
        refine X_if_ne rfl (fun c => absurd rfl c) (fun _ => ?_)
        refine X_run rfl ?_ ?_
        · simp [md_s, md_w, rget, r_a, r_b, r_c, r_i, r_l, nI_s1]
        try simp only [md_s, md_w, rget_some, r_a, r_b, r_c, r_i, r_l, r_nx, r_pc, Nat.reduceEqDiff, false_and, if_false, nI_s1]
        have k2 := k D3 ⟨hR3, fun n hn => ?_, ?_, hO2.tr (hO3.wide (Nat.le_refl _) (by omega))⟩
        · rw [show iter (fun i acc => if takes0 K i = true then acc + 1 else acc) (i + 1) (0 : Int32) = iter (fun i acc => if takes0 K i = true then acc + 1 else acc) i 0 from if_neg (by rw [ht]; decide)] at k2
          exact k2
        · rw [z3]
          by_cases c : n = i
          · rw [if_pos ⟨rfl, c⟩, c, ht]; rfl
          · rw [if_neg (fun z => c z.2)]; exact hI2 n (by omega)
        · rw [show net0 K (i + 1) = net0 K i from if_neg (by rw [ht]; decide)]
          exact hM3
      refine X_run rfl ?_ ?_
      · simp [md_s, md_w, rget, r_a, r_b, r_c, r_i, r_l, hs, hc]
      try simp only [md_s, md_w, rget_some, r_a, r_b, r_c, r_i, r_l, r_nx, r_pc, Nat.reduceEqDiff, false_and, if_false, hs, hc]
      refine X_icmp_ge rfl (fun c1 => no_le c1 hi (by omega)) (fun c1 => ?_)
      refine X_run rfl ?_ ?_
      · simp [md_s, md_w, rget, r_a, r_b, r_c, r_i, r_l, hs, hb]
      try simp only [md_s, md_w, rget_some, r_a, r_b, r_c, r_i, r_l, r_nx, r_pc, Nat.reduceEqDiff, false_and, if_false, hs, hb]
      refine X_cV (args := [.int (nI i)]) rfl (by decide) hs.1 rfl rfl (Nat.le_of_ble_eq_true rfl) (c_isReady hL hW' hR2 hi) ?_
      rintro _ _ ⟨rfl, rfl⟩
      refine X_if_eq rfl (fun c2 => no_ (by unfold takes0; rw [b2i_zero.mp c2]; rfl)) (fun c2 => ?_)
      have r1 := b2i_nz c2
      refine X_run rfl ?_ ?_
      · simp [md_s, md_w, rget, r_a, r_b, r_c, r_i, r_l, hs, hb, x1, hv]
      try simp only [md_s, md_w, rget_some, r_a, r_b, r_c, r_i, r_l, r_nx, r_pc, Nat.reduceEqDiff, false_and, if_false, hs, hb, x1, hv]
      refine X_icmp_eq rfl (fun c3 => yes ?_) (fun c3 => ?_)
      · have : k_pr K i = none := (pE_some (w4 i hi).2.2.2 (by omega)).mp c3
        unfold takes0
        rw [this, r1]
        rfl
      · cases hp : k_pr K i with
        | none => rw [hp] at c3; exact absurd rfl c3
        | some q =>
          have hq := (w4 i hi).2.2.2 q hp
          refine X_run rfl ?_ ?_
          · simp [md_s, md_w, rget, r_a, r_b, r_c, r_i, r_l, hs, hb, x1, hv, hp, pE]
          try simp only [md_s, md_w, rget_some, r_a, r_b, r_c, r_i, r_l, r_nx, r_pc, Nat.reduceEqDiff, false_and, if_false, hs, hb, x1, hv, hp, pE]
          refine X_cV (args := [.int (nI q)]) rfl (by decide) hs.1 rfl rfl (Nat.le_of_ble_eq_true rfl) (c_isReady hL hW' hR2 hq) ?_
          rintro _ _ ⟨rfl, rfl⟩
          refine X_if_eq rfl (fun c2 => no_ (by unfold takes0; rw [hp, r1]; exact b2i_zero.mp c2)) (fun c2 => yes (by unfold takes0; rw [hp, r1]; exact b2i_nz c2))
    · obtain ⟨hR2, hI2, hM2, hO2⟩ := hI
      have hc := hR2.1
      unfold RrC at hc
      refine X_run rfl ?_ ?_
      · simp [md_s, md_w, rget, r_a, r_b, r_c, r_i, r_l, hs, hc]
      try simp only [md_s, md_w, rget_some, r_a, r_b, r_c, r_i, r_l, r_nx, r_pc, Nat.reduceEqDiff, false_and, if_false, hs, hc]
      refine X_icmp_ge rfl (fun c1 => ?_) (fun c1 => no_nle c1 (Nat.le_refl _) (by omega))
      refine X_run rfl trivial ?_
      exact X_iret rfl rfl ⟨D2, rfl, rfl, ⟨hR2, hI2, hM2⟩, hO2⟩
    · rw [hz1 _ (by omega)]
      exact (Int32.sub_self _).symm
theorem c_RisShort {p : Nat} {nt : Nat → Nat → Int32} (hL : StL S A) (hW : WfK K) (hR : RepR D A K) (hp : p < k_np K) (hM : MoR D A K nt) (h64 : ∀ m, m < 5 → (k_ba K p m).toInt64 + (nt p m - k_ba K p m).toInt64 = (nt p m).toInt64) : EvM g (d + 2) mX10_isShort 0 0 [.ref A, .int (nI p)] (md S D) (fun v M1 => M1 = md S D ∧ v = some (.int (b2i (short K nt p)))) := by
  obtain ⟨hs, -, -⟩ := hL.all
  have w2 := hW.2.1
  refine EvM.mk (by decide) (Nat.le_of_ble_eq_true rfl) ?_
  refine X_run rfl trivial ?_
  refine X_cV (args := [.int (nI p), .int 1]) rfl (by decide) hs.1 rfl rfl (Nat.le_of_ble_eq_true rfl) (c_Rexpo (f := nt p) hL hW hR hp (fun m hm => by rw [if_neg (by decide), hM p hp m (by omega)]; exact h64 m (by omega))) ?_
  rintro _ _ ⟨rfl, rfl⟩
  refine X_run rfl trivial ?_
  refine X_cV (args := [.int (nI p)]) rfl (by decide) hs.1 rfl rfl (Nat.le_of_ble_eq_true rfl) (c_Rlimit hL hW hR hp) ?_
  rintro _ _ ⟨rfl, rfl⟩
  refine X_run rfl trivial ?_
  refine X_if_le rfl (fun c1 => ?_) (fun c1 => ?_)
  · refine X_run rfl trivial ?_
    refine X_zret rfl rfl (Or.inl rfl) ⟨rfl, ?_⟩
    rw [show short K nt p = false by simp [short, Int64.not_lt.mpr ((lg_cmp_le _ _).mp c1)]]
    rfl
  · have c1' : limit K p < expo K (nt p) := Int64.not_le.mp (fun z => c1 ((lg_cmp_le _ _).mpr z))
    refine X_run rfl trivial ?_
    refine X_cV (args := [.int (nI p), .int 0]) rfl (by decide) hs.1 rfl rfl (Nat.le_of_ble_eq_true rfl) (c_Rexpo0 hL hW hR hp) ?_
    rintro _ _ ⟨rfl, rfl⟩
    refine X_run rfl trivial ?_
    refine X_if_le rfl (fun c2 => ?_) (fun c2 => ?_)
    · refine X_run rfl trivial ?_
      refine X_zret rfl rfl (Or.inl rfl) ⟨rfl, ?_⟩
      rw [show short K nt p = false by simp [short, Int64.not_lt.mpr ((lg_cmp_le _ _).mp c2)]]
      rfl
    · have c2' : expo K (k_ba K p) < expo K (nt p) := Int64.not_le.mp (fun z => c2 ((lg_cmp_le _ _).mpr z))
      refine X_run rfl trivial ?_
      refine X_zret rfl rfl (Or.inr rfl) ⟨rfl, ?_⟩
      rw [show short K nt p = true by simp [short, c1', c2']]
      rfl
theorem c_RleaveOut {r : RuT} {o : Option Nat} (hL : StL S A) (hW : WfK K) (hn : ∀ n, o = some n → n < k_ny K) (hJ : RnR D A K r) : EvM g (d + 1) mX10_leaveOut 0 0 [.ref A, .int (pE o)] (md S D) (fun v M1 => ∃ D1, v = none ∧ M1 = md S D1 ∧ RnR D1 A K (lvo K r o) ∧ Out (A + 18) (A + 20) D D1) := by
  obtain ⟨hs, ha, hb⟩ := hL.all
  have hW' := hW
  obtain ⟨w1, w2, w3, w4⟩ := hW
  have hJ' := hJ
  obtain ⟨hR, hI, hM⟩ := hJ
  refine EvM.mk (by decide) (Nat.le_of_ble_eq_true rfl) ?_
  refine X_run rfl trivial ?_
  cases o with
  | none =>
    refine X_icmp_eq rfl (fun c => ?_) (fun c => absurd rfl c)
    refine X_run rfl trivial ?_
    exact X_vret rfl rfl ⟨D, rfl, rfl, hJ', Out.rf⟩
  | some n =>
    have hn := hn n rfl
    have x1 := vx (show n < 60 by omega) (by decide)
    have hin := hI n hn
    refine X_icmp_eq rfl (fun c => absurd ((pE_some (o := some n) (fun q hq => by cases hq; exact hn) (by omega)).mp c) (by simp)) (fun c => ?_)
    unfold lvo
    dsimp only
    refine X_run rfl ?_ ?_
    · simp [md_s, md_w, rget, r_a, r_b, r_c, r_i, r_l, hs, hb, pE, x1, hin]
    try simp only [md_s, md_w, rget_some, r_a, r_b, r_c, r_i, r_l, r_nx, r_pc, Nat.reduceEqDiff, false_and, if_false, hs, hb, pE, x1, hin]
    refine X_if_ne rfl (fun c2 => ?_) (fun c2 => ?_)
    · have ht := b2i_nz c2
      obtain ⟨D3, e3, z3, y3⟩ := wr_ai D (A + 18) n 0
      have hO3 : Out (A + 18) (A + 19) D D3 := e3 ▸ Out.ai (by omega)
      refine X_run rfl ?_ ?_
      · simp [md_s, md_w, rget, r_a, r_b, r_c, r_i, r_l, hs, hb, pE, x1, e3]
      try simp only [md_s, md_w, rget_some, r_a, r_b, r_c, r_i, r_l, r_nx, r_pc, Nat.reduceEqDiff, false_and, if_false, hs, hb, pE, x1, e3]
      refine X_cV (args := [.int (nI n), .int (-1)]) rfl (by decide) hs.1 rfl rfl (Nat.le_of_ble_eq_true rfl) (c_move hL hW' (hR.o18 hO3 (Nat.le_refl _)) hn (hM.out hO3 (by omega))) ?_
      rintro _ _ ⟨D4, rfl, rfl, hR4, hM4, hO4⟩
      refine X_run rfl trivial ?_
      rw [m1_mul] at hM4
      rw [if_pos ht]
      refine X_vret rfl rfl ⟨D4, rfl, rfl, ⟨hR4, fun q hq => ?_, hM4⟩, (hO3.wide (Nat.le_refl _) (by omega)).tr (hO4.wide (by omega) (Nat.le_refl _))⟩
      rw [(hO4 (A + 18) (by omega)).2.2.1, z3]
      show _ = b2i (offT r.1 n q)
      unfold offT
      by_cases c : q = n
      · rw [if_pos ⟨rfl, c⟩, if_pos c]; rfl
      · rw [if_neg (fun z => c z.2), if_neg c]; exact hI q hq
    · rw [if_neg (nb2i c2)]
      refine X_run rfl trivial ?_
      exact X_vret rfl rfl ⟨D, rfl, rfl, hJ', Out.rf⟩
end REFRUN
