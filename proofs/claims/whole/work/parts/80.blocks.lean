/-! a call of the law's loop, op by op -/
theorem Eg.cost {g : GG} {d m bc bs bc' bs' pc : Nat} {Z : ZT} {ls : LsT} {st : List Value} {M : Mem} (k : Eg g d m bc bs Z pc ls st M) (h1 : bc ≤ bc') (h2 : bs ≤ bs') : Eg g d m bc' bs' Z pc ls st M :=
  fun p e R s mi ar be me cd H lo ce sl lsA C r1 r2 r3 r4 hH hl hL => k p e R s mi ar be me cd H lo ce sl lsA C r1 r2 (by omega) (by omega) hH hl hL
theorem nI_plus (a b : Nat) : nI (a + b) = nI a + nI b := by
  unfold nI
  exact Int32.ofNat_add a b
theorem nI_p (i : Nat) : nI i + 1 = nI (i + 1) ∧ nI i + 2 = nI (i + 2) ∧ nI i + 3 = nI (i + 3) ∧ nI i + 4 = nI (i + 4) ∧ nI i + 5 = nI (i + 5) :=
  ⟨(nI_plus i 1).symm, (nI_plus i 2).symm, (nI_plus i 3).symm, (nI_plus i 4).symm, (nI_plus i 5).symm⟩
theorem gz_s {S : ShT} {k : Nat} : s_tg (gz S k) = s_tg S ∧ s_ln (gz S k) = s_ln S ∧ s_fr (gz S k) = s_fr S ∧ s_ar (gz S k) = s_ar S := ⟨rfl, rfl, rfl, rfl⟩
theorem cod_ne {L : List String} {E : String} (h : L.length ≤ 3) : ¬ cod L E = 0 := by
  unfold cod
  have h1 : L.findIdx (fun e => decide (e = E)) ≤ L.length := List.findIdx_le_length
  intro z
  have := nI_inj (b := 0) (by omega) (by decide) z
  omega
theorem lg_self (x : Int64) : lg_cmp x x = 0 := by
  unfold lg_cmp
  simp
abbrev LL (g : GG) (X i : Nat) : LsT := [(0, .ref (gSa g)), (1, .ref X), (2, .ref (X + 292)), (3, .ref (X + 340)), (4, .int (nI i))]
/-- the script's places -/
theorem LawS.at {g : GG} {sc : Nat → Int32} {N i : Nat} {S : ShT} {D : DaT} {X A A2 : Nat} {K : KT} {T P : List Nat} {e : Int32} {c : Nat} (h : LawS g sc N S D X A A2 K T P e c) (hi : i + 6 ≤ N) (j : Nat) (hj : j < 6) : ((nI (i + j)).toNatClampNeg = i + j ∧ vp_in (nI (i + j)) N) ∧ d_ai D (gSa g) (i + j) = sc (i + j) :=
  ⟨vx (by omega) (by have := h.hS.2.2; omega), h.hs _ (by omega)⟩
theorem LawS.outS {g : GG} {sc : Nat → Int32} {N : Nat} {S : ShT} {D D1 : DaT} {X A A2 : Nat} {K : KT} {T P : List Nat} {e : Int32} {c : Nat} (h : LawS g sc N S D X A A2 K T P e c) (ho : OutX X D D1) : d_ai D1 (gSa g) = d_ai D (gSa g) := (ho _ (by have := h.hgs; omega) (Or.inl h.hgs)).2.2.1
section BLOCKS
variable {g : GG} {d bc bs : Nat} {Z : ZT} {sc : Nat → Int32} {N i : Nat} {S : ShT} {D : DaT} {X A A2 : Nat} {K : KT} {T P : List Nat} {e : Int32} {c : Nat}
/-- where a call goes on -/
abbrev NxT (g : GG) (d bc bs : Nat) (Z : ZT) (sc : Nat → Int32) (N i X c : Nat) : Prop := ∀ S' D' A' A2' K' T' P' e', LawS g sc N S' D' X A' A2' K' T' P' e' c → Eg g d mL_law bc bs Z 23 (LL g X (i + 6)) [] (md S' D')
set_option maxRecDepth 20000 in
theorem Bk_feed {a1 a2 a3 a4 a5 : Int32} {p : Except String Int32} {K1 : KT} {T1 P1 : List Nat} {e1 : Int32} {c1 : Nat} (h : LawS g sc N S D X A A2 K T P e c) (hi : i + 6 ≤ N) (ha1 : sc (i + 1) = a1) (ha2 : sc (i + 2) = a2) (ha3 : sc (i + 3) = a3) (ha4 : sc (i + 4) = a4) (ha5 : sc (i + 5) = a5) (hL : ∀ E, p = .error E → E ∈ [eS]) (hI : InvK K1 c1) (hcls : EvX g (d + 10) mX9_feed 1 6 [.ref X, .int a1, .int a2, .int a3, .int a4, .int a5] (md S D) (CalP S D X K1 T1 P1 e1 p) (CalX S D X K1 T1 P1 e1 p)) (href : ∀ k1 D1, OutX X D D1 → EvM g (d + 11) mX11_feed 1 5 [.ref (X + 292), .int a1, .int a2, .int a3, .int a4, .int a5] (md (gz S k1) D1) (RfP (gz S k1) D1 (X + 292) A 1 K1 T1 P1 e1 [eS] p)) (k : NxT g (d + 12) bc bs Z sc N i X c1) : Eg g (d + 12) mL_law (bc + 1 + 1) (bs + 5 + 6) Z 164 (LL g X i) [] (md S D) := by
  obtain ⟨p1, p2, p3, p4, p5⟩ := nI_p i
  obtain ⟨⟨x1, y1⟩, z1⟩ := h.at hi 1 (by decide)
  obtain ⟨⟨x2, y2⟩, z2⟩ := h.at hi 2 (by decide)
  obtain ⟨⟨x3, y3⟩, z3⟩ := h.at hi 3 (by decide)
  obtain ⟨⟨x4, y4⟩, z4⟩ := h.at hi 4 (by decide)
  obtain ⟨⟨x5, y5⟩, z5⟩ := h.at hi 5 (by decide)
  rw [ha1] at z1
  rw [ha2] at z2
  rw [ha3] at z3
  rw [ha4] at z4
  rw [ha5] at z5
  obtain ⟨s1, s2, s3⟩ := h.hS
  have hW := h.hI.1
  have hWK := hI.1
  have hy := h.hY.1
  have hO := h.hO
  refine X_run rfl ?_ ?_
  · simp [md_s, md_w, rget, r_a, r_b, r_c, r_i, r_l, p1, x1, y1, z1, p2, x2, y2, z2, p3, x3, y3, z3, p4, x4, y4, z4, p5, x5, y5, z5, s1, s2]
  try simp only [md_s, md_w, rget_some, r_a, r_b, r_c, r_i, r_l, r_nx, r_pc, Nat.reduceEqDiff, false_and, if_false, p1, x1, y1, z1, p2, x2, y2, z2, p3, x3, y3, z3, p4, x4, y4, z4, p5, x5, y5, z5, s1, s2]
  refine X_callW (bc1 := 1) (bs1 := 6) (args := [.ref X, .int a1, .int a2, .int a3, .int a4, .int a5, .ref (X + 340)]) rfl (by decide) rfl rfl (Nat.le_of_ble_eq_true rfl) (W_feed h.hX.1.1 hWK hO hL hcls) ?_
  rintro _ _ ⟨D1, k1, rfl, rfl, hd1, ho1, hr1⟩
  have o1 := h.outS ho1
  obtain ⟨g1, g2, g3, g4⟩ := @gz_s S k1
  refine X_run rfl ?_ ?_
  · simp [md_s, md_w, rget, r_a, r_b, r_c, r_i, r_l, p1, x1, y1, z1, p2, x2, y2, z2, p3, x3, y3, z3, p4, x4, y4, z4, p5, x5, y5, z5, s1, s2, g1, g2, o1]
  try simp only [md_s, md_w, rget_some, r_a, r_b, r_c, r_i, r_l, r_nx, r_pc, Nat.reduceEqDiff, false_and, if_false, p1, x1, y1, z1, p2, x2, y2, z2, p3, x3, y3, z3, p4, x4, y4, z4, p5, x5, y5, z5, s1, s2, g1, g2, o1]
  refine X_callV (bc1 := 1) (bs1 := 5) (args := [.int a1, .int a2, .int a3, .int a4, .int a5]) rfl (by decide) hy.1 rfl rfl (Nat.le_of_ble_eq_true rfl) (href k1 D1 ho1) ?_
  rintro v _ ⟨S2, D2, k2, hk2, rfl, hg2, hO2, hM2, hA2⟩
  have h1 := h.step hI hd1 ho1 hg2.y (MoL.gro (S := gz S k1) h.hY hg2 (by have := h.hz; show _ ≤ s_sz S + k1; omega)) hO2 hM2
  have hy1 := h1.hY.1
  have hO1 := h1.hO
  have v0 := li (n := 1) (0 : Int32) rfl (by decide) (by decide)
  have eO : d_al D2 (X + 340) = d_al D1 (X + 340) := (hO2 _ (by have := h.hz; show _ < s_sz S + k1; omega) (Or.inr (by omega))).2.2.2
  cases p with
  | error E =>
    obtain ⟨q1, rfl⟩ := hA2
    have q0 : codeP [eS] (.error E : Except String Int32) = cod [eS] E := rfl
    rw [q0]
    refine X_run rfl trivial ?_
    refine X_cV (args := []) rfl (by decide) hy1.1 rfl rfl (Nat.le_of_ble_eq_true rfl) (c_thrown h1.hY) ?_
    rintro _ _ ⟨rfl, rfl⟩
    refine X_run rfl trivial ?_
    refine X_icmp_eq rfl (fun _ => ?_) (fun z => absurd q1 z)
    refine X_run rfl trivial ?_
    refine X_if_ne rfl (fun _ => ?_) (fun z => absurd z (cod_ne (Nat.le_of_ble_eq_true rfl)))
    refine X_run rfl trivial ?_
    exact Eg.sub (k _ _ _ _ _ _ _ _ h1) ⟨rfl, rfl, rfl, rfl, congrArg (fun x => some (Value.int x)) (nI_plus i 6).symm, trivial⟩
  | ok r =>
    obtain ⟨q1, rfl⟩ := hA2
    have q0 : codeP [eS] (.ok r : Except String Int32) = 0 := rfl
    rw [q0]
    have hr2 := hr1 r rfl
    refine X_run rfl trivial ?_
    refine X_cV (args := []) rfl (by decide) hy1.1 rfl rfl (Nat.le_of_ble_eq_true rfl) (c_thrown h1.hY) ?_
    rintro _ _ ⟨rfl, rfl⟩
    refine X_run rfl trivial ?_
    refine X_icmp_eq rfl (fun _ => ?_) (fun z => absurd q1 z)
    refine X_run rfl trivial ?_
    refine X_if_ne rfl (fun z => absurd rfl z) (fun _ => ?_)
    refine X_run rfl ?_ ?_
    · simp [md_s, md_w, rget, r_a, r_b, r_c, r_i, r_l, hO1, v0, eO, hr2, lg_self]
    try simp only [md_s, md_w, rget_some, r_a, r_b, r_c, r_i, r_l, r_nx, r_pc, Nat.reduceEqDiff, false_and, if_false, hO1, v0, eO, hr2, lg_self]
    refine X_if_eq rfl (fun _ => ?_) (fun z => absurd rfl z)
    refine X_run rfl trivial ?_
    exact Eg.sub (k _ _ _ _ _ _ _ _ h1) ⟨rfl, rfl, rfl, rfl, congrArg (fun x => some (Value.int x)) (nI_plus i 6).symm, trivial⟩
set_option maxRecDepth 20000 in
theorem Bk_trim {a1 : Int32} {p : Except String Int32} {K1 : KT} {T1 P1 : List Nat} {e1 : Int32} {c1 : Nat} (h : LawS g sc N S D X A A2 K T P e c) (hi : i + 6 ≤ N) (ha1 : sc (i + 1) = a1) (hL : ∀ E, p = .error E → E ∈ [eA]) (hI : InvK K1 c1) (hcls : EvX g (d + 10) mX9_trim 1 6 [.ref X, .int a1] (md S D) (CalP S D X K1 T1 P1 e1 p) (CalX S D X K1 T1 P1 e1 p)) (href : ∀ k1 D1, OutX X D D1 → EvM g (d + 11) mX11_trim 0 0 [.ref (X + 292), .int a1] (md (gz S k1) D1) (RfP (gz S k1) D1 (X + 292) A 0 K1 T1 P1 e1 [eA] p)) (k : NxT g (d + 12) bc bs Z sc N i X c1) : Eg g (d + 12) mL_law (bc + 0 + 1) (bs + 0 + 6) Z 268 (LL g X i) [] (md S D) := by
  obtain ⟨p1, p2, p3, p4, p5⟩ := nI_p i
  obtain ⟨⟨x1, y1⟩, z1⟩ := h.at hi 1 (by decide)
  rw [ha1] at z1
  obtain ⟨s1, s2, s3⟩ := h.hS
  have hW := h.hI.1
  have hWK := hI.1
  have hy := h.hY.1
  have hO := h.hO
  refine X_run rfl ?_ ?_
  · simp [md_s, md_w, rget, r_a, r_b, r_c, r_i, r_l, p1, x1, y1, z1, s1, s2]
  try simp only [md_s, md_w, rget_some, r_a, r_b, r_c, r_i, r_l, r_nx, r_pc, Nat.reduceEqDiff, false_and, if_false, p1, x1, y1, z1, s1, s2]
  refine X_callW (bc1 := 1) (bs1 := 6) (args := [.ref X, .int a1, .ref (X + 340)]) rfl (by decide) rfl rfl (Nat.le_of_ble_eq_true rfl) (W_trim h.hX.1.1 hWK hO hL hcls) ?_
  rintro _ _ ⟨D1, k1, rfl, rfl, hd1, ho1, hr1⟩
  have o1 := h.outS ho1
  obtain ⟨g1, g2, g3, g4⟩ := @gz_s S k1
  refine X_run rfl ?_ ?_
  · simp [md_s, md_w, rget, r_a, r_b, r_c, r_i, r_l, p1, x1, y1, z1, s1, s2, g1, g2, o1]
  try simp only [md_s, md_w, rget_some, r_a, r_b, r_c, r_i, r_l, r_nx, r_pc, Nat.reduceEqDiff, false_and, if_false, p1, x1, y1, z1, s1, s2, g1, g2, o1]
  refine X_callV (bc1 := 0) (bs1 := 0) (args := [.int a1]) rfl (by decide) hy.1 rfl rfl (Nat.le_of_ble_eq_true rfl) (href k1 D1 ho1) ?_
  rintro v _ ⟨S2, D2, k2, hk2, rfl, hg2, hO2, hM2, hA2⟩
  have h1 := h.step hI hd1 ho1 hg2.y (MoL.gro (S := gz S k1) h.hY hg2 (by have := h.hz; show _ ≤ s_sz S + k1; omega)) hO2 hM2
  have hy1 := h1.hY.1
  have hO1 := h1.hO
  have v0 := li (n := 1) (0 : Int32) rfl (by decide) (by decide)
  have eO : d_al D2 (X + 340) = d_al D1 (X + 340) := (hO2 _ (by have := h.hz; show _ < s_sz S + k1; omega) (Or.inr (by omega))).2.2.2
  cases p with
  | error E =>
    obtain ⟨q1, rfl⟩ := hA2
    have q0 : codeP [eA] (.error E : Except String Int32) = cod [eA] E := rfl
    rw [q0]
    refine X_run rfl trivial ?_
    refine X_cV (args := []) rfl (by decide) hy1.1 rfl rfl (Nat.le_of_ble_eq_true rfl) (c_thrown h1.hY) ?_
    rintro _ _ ⟨rfl, rfl⟩
    refine X_run rfl trivial ?_
    refine X_icmp_eq rfl (fun _ => ?_) (fun z => absurd q1 z)
    refine X_run rfl trivial ?_
    refine X_if_ne rfl (fun _ => ?_) (fun z => absurd z (cod_ne (Nat.le_of_ble_eq_true rfl)))
    refine X_run rfl trivial ?_
    exact Eg.sub (k _ _ _ _ _ _ _ _ h1) ⟨rfl, rfl, rfl, rfl, congrArg (fun x => some (Value.int x)) (nI_plus i 6).symm, trivial⟩
  | ok r =>
    obtain ⟨q1, rfl⟩ := hA2
    have q0 : codeP [eA] (.ok r : Except String Int32) = 0 := rfl
    rw [q0]
    have hr2 := hr1 r rfl
    refine X_run rfl trivial ?_
    refine X_cV (args := []) rfl (by decide) hy1.1 rfl rfl (Nat.le_of_ble_eq_true rfl) (c_thrown h1.hY) ?_
    rintro _ _ ⟨rfl, rfl⟩
    refine X_run rfl trivial ?_
    refine X_icmp_eq rfl (fun _ => ?_) (fun z => absurd q1 z)
    refine X_run rfl trivial ?_
    refine X_if_ne rfl (fun z => absurd rfl z) (fun _ => ?_)
    refine X_run rfl ?_ ?_
    · simp [md_s, md_w, rget, r_a, r_b, r_c, r_i, r_l, hO1, v0, eO, hr2, lg_self]
    try simp only [md_s, md_w, rget_some, r_a, r_b, r_c, r_i, r_l, r_nx, r_pc, Nat.reduceEqDiff, false_and, if_false, hO1, v0, eO, hr2, lg_self]
    refine X_if_eq rfl (fun _ => ?_) (fun z => absurd rfl z)
    refine X_run rfl trivial ?_
    exact Eg.sub (k _ _ _ _ _ _ _ _ h1) ⟨rfl, rfl, rfl, rfl, congrArg (fun x => some (Value.int x)) (nI_plus i 6).symm, trivial⟩
set_option maxRecDepth 20000 in
theorem Bk_count {a1 : Int32} {p : Except String Int32} {K1 : KT} {T1 P1 : List Nat} {e1 : Int32} {c1 : Nat} (h : LawS g sc N S D X A A2 K T P e c) (hi : i + 6 ≤ N) (ha1 : sc (i + 1) = a1) (hL : ∀ E, p = .error E → E ∈ [eB]) (hI : InvK K1 c1) (hcls : EvX g (d + 10) mX9_count 1 6 [.ref X, .int a1] (md S D) (CalP S D X K1 T1 P1 e1 p) (CalX S D X K1 T1 P1 e1 p)) (href : ∀ k1 D1, OutX X D D1 → EvM g (d + 11) mX11_count 1 12 [.ref (X + 292), .int a1] (md (gz S k1) D1) (RfP (gz S k1) D1 (X + 292) A 1 K1 T1 P1 e1 [eB] p)) (k : NxT g (d + 12) bc bs Z sc N i X c1) : Eg g (d + 12) mL_law (bc + 1 + 1) (bs + 12 + 6) Z 350 (LL g X i) [] (md S D) := by
  obtain ⟨p1, p2, p3, p4, p5⟩ := nI_p i
  obtain ⟨⟨x1, y1⟩, z1⟩ := h.at hi 1 (by decide)
  rw [ha1] at z1
  obtain ⟨s1, s2, s3⟩ := h.hS
  have hW := h.hI.1
  have hWK := hI.1
  have hy := h.hY.1
  have hO := h.hO
  refine X_run rfl ?_ ?_
  · simp [md_s, md_w, rget, r_a, r_b, r_c, r_i, r_l, p1, x1, y1, z1, s1, s2]
  try simp only [md_s, md_w, rget_some, r_a, r_b, r_c, r_i, r_l, r_nx, r_pc, Nat.reduceEqDiff, false_and, if_false, p1, x1, y1, z1, s1, s2]
  refine X_callW (bc1 := 1) (bs1 := 6) (args := [.ref X, .int a1, .ref (X + 340)]) rfl (by decide) rfl rfl (Nat.le_of_ble_eq_true rfl) (W_count h.hX.1.1 hWK hO hL hcls) ?_
  rintro _ _ ⟨D1, k1, rfl, rfl, hd1, ho1, hr1⟩
  have o1 := h.outS ho1
  obtain ⟨g1, g2, g3, g4⟩ := @gz_s S k1
  refine X_run rfl ?_ ?_
  · simp [md_s, md_w, rget, r_a, r_b, r_c, r_i, r_l, p1, x1, y1, z1, s1, s2, g1, g2, o1]
  try simp only [md_s, md_w, rget_some, r_a, r_b, r_c, r_i, r_l, r_nx, r_pc, Nat.reduceEqDiff, false_and, if_false, p1, x1, y1, z1, s1, s2, g1, g2, o1]
  refine X_callV (bc1 := 1) (bs1 := 12) (args := [.int a1]) rfl (by decide) hy.1 rfl rfl (Nat.le_of_ble_eq_true rfl) (href k1 D1 ho1) ?_
  rintro v _ ⟨S2, D2, k2, hk2, rfl, hg2, hO2, hM2, hA2⟩
  have h1 := h.step hI hd1 ho1 hg2.y (MoL.gro (S := gz S k1) h.hY hg2 (by have := h.hz; show _ ≤ s_sz S + k1; omega)) hO2 hM2
  have hy1 := h1.hY.1
  have hO1 := h1.hO
  have v0 := li (n := 1) (0 : Int32) rfl (by decide) (by decide)
  have eO : d_al D2 (X + 340) = d_al D1 (X + 340) := (hO2 _ (by have := h.hz; show _ < s_sz S + k1; omega) (Or.inr (by omega))).2.2.2
  cases p with
  | error E =>
    obtain ⟨q1, rfl⟩ := hA2
    have q0 : codeP [eB] (.error E : Except String Int32) = cod [eB] E := rfl
    rw [q0]
    refine X_run rfl trivial ?_
    refine X_cV (args := []) rfl (by decide) hy1.1 rfl rfl (Nat.le_of_ble_eq_true rfl) (c_thrown h1.hY) ?_
    rintro _ _ ⟨rfl, rfl⟩
    refine X_run rfl trivial ?_
    refine X_icmp_eq rfl (fun _ => ?_) (fun z => absurd q1 z)
    refine X_run rfl trivial ?_
    refine X_if_ne rfl (fun _ => ?_) (fun z => absurd z (cod_ne (Nat.le_of_ble_eq_true rfl)))
    refine X_run rfl trivial ?_
    exact Eg.sub (k _ _ _ _ _ _ _ _ h1) ⟨rfl, rfl, rfl, rfl, congrArg (fun x => some (Value.int x)) (nI_plus i 6).symm, trivial⟩
  | ok r =>
    obtain ⟨q1, rfl⟩ := hA2
    have q0 : codeP [eB] (.ok r : Except String Int32) = 0 := rfl
    rw [q0]
    have hr2 := hr1 r rfl
    refine X_run rfl trivial ?_
    refine X_cV (args := []) rfl (by decide) hy1.1 rfl rfl (Nat.le_of_ble_eq_true rfl) (c_thrown h1.hY) ?_
    rintro _ _ ⟨rfl, rfl⟩
    refine X_run rfl trivial ?_
    refine X_icmp_eq rfl (fun _ => ?_) (fun z => absurd q1 z)
    refine X_run rfl trivial ?_
    refine X_if_ne rfl (fun z => absurd rfl z) (fun _ => ?_)
    refine X_run rfl ?_ ?_
    · simp [md_s, md_w, rget, r_a, r_b, r_c, r_i, r_l, hO1, v0, eO, hr2, lg_self]
    try simp only [md_s, md_w, rget_some, r_a, r_b, r_c, r_i, r_l, r_nx, r_pc, Nat.reduceEqDiff, false_and, if_false, hO1, v0, eO, hr2, lg_self]
    refine X_if_eq rfl (fun _ => ?_) (fun z => absurd rfl z)
    refine X_run rfl trivial ?_
    exact Eg.sub (k _ _ _ _ _ _ _ _ h1) ⟨rfl, rfl, rfl, rfl, congrArg (fun x => some (Value.int x)) (nI_plus i 6).symm, trivial⟩
set_option maxRecDepth 20000 in
theorem Bk_party {a1 a2 : Int32} {p : Except String Int32} {K1 : KT} {T1 P1 : List Nat} {e1 : Int32} {c1 : Nat} (h : LawS g sc N S D X A A2 K T P e c) (hi : i + 6 ≤ N) (ha1 : sc (i + 1) = a1) (ha2 : sc (i + 2) = a2) (hL : ∀ E, p = .error E → E ∈ [eB]) (hI : InvK K1 c1) (hcls : EvX g (d + 10) mX9_party 1 6 [.ref X, .int a1, .int a2] (md S D) (CalP S D X K1 T1 P1 e1 p) (CalX S D X K1 T1 P1 e1 p)) (href : ∀ k1 D1, OutX X D D1 → EvM g (d + 11) mX11_party 0 0 [.ref (X + 292), .int a1, .int a2] (md (gz S k1) D1) (RfP (gz S k1) D1 (X + 292) A 0 K1 T1 P1 e1 [eB] p)) (k : NxT g (d + 12) bc bs Z sc N i X c1) : Eg g (d + 12) mL_law (bc + 0 + 1) (bs + 0 + 6) Z 406 (LL g X i) [] (md S D) := by
  obtain ⟨p1, p2, p3, p4, p5⟩ := nI_p i
  obtain ⟨⟨x1, y1⟩, z1⟩ := h.at hi 1 (by decide)
  obtain ⟨⟨x2, y2⟩, z2⟩ := h.at hi 2 (by decide)
  rw [ha1] at z1
  rw [ha2] at z2
  obtain ⟨s1, s2, s3⟩ := h.hS
  have hW := h.hI.1
  have hWK := hI.1
  have hy := h.hY.1
  have hO := h.hO
  refine X_run rfl ?_ ?_
  · simp [md_s, md_w, rget, r_a, r_b, r_c, r_i, r_l, p1, x1, y1, z1, p2, x2, y2, z2, s1, s2]
  try simp only [md_s, md_w, rget_some, r_a, r_b, r_c, r_i, r_l, r_nx, r_pc, Nat.reduceEqDiff, false_and, if_false, p1, x1, y1, z1, p2, x2, y2, z2, s1, s2]
  refine X_callW (bc1 := 1) (bs1 := 6) (args := [.ref X, .int a1, .int a2, .ref (X + 340)]) rfl (by decide) rfl rfl (Nat.le_of_ble_eq_true rfl) (W_party h.hX.1.1 hWK hO hL hcls) ?_
  rintro _ _ ⟨D1, k1, rfl, rfl, hd1, ho1, hr1⟩
  have o1 := h.outS ho1
  obtain ⟨g1, g2, g3, g4⟩ := @gz_s S k1
  refine X_run rfl ?_ ?_
  · simp [md_s, md_w, rget, r_a, r_b, r_c, r_i, r_l, p1, x1, y1, z1, p2, x2, y2, z2, s1, s2, g1, g2, o1]
  try simp only [md_s, md_w, rget_some, r_a, r_b, r_c, r_i, r_l, r_nx, r_pc, Nat.reduceEqDiff, false_and, if_false, p1, x1, y1, z1, p2, x2, y2, z2, s1, s2, g1, g2, o1]
  refine X_callV (bc1 := 0) (bs1 := 0) (args := [.int a1, .int a2]) rfl (by decide) hy.1 rfl rfl (Nat.le_of_ble_eq_true rfl) (href k1 D1 ho1) ?_
  rintro v _ ⟨S2, D2, k2, hk2, rfl, hg2, hO2, hM2, hA2⟩
  have h1 := h.step hI hd1 ho1 hg2.y (MoL.gro (S := gz S k1) h.hY hg2 (by have := h.hz; show _ ≤ s_sz S + k1; omega)) hO2 hM2
  have hy1 := h1.hY.1
  have hO1 := h1.hO
  have v0 := li (n := 1) (0 : Int32) rfl (by decide) (by decide)
  have eO : d_al D2 (X + 340) = d_al D1 (X + 340) := (hO2 _ (by have := h.hz; show _ < s_sz S + k1; omega) (Or.inr (by omega))).2.2.2
  cases p with
  | error E =>
    obtain ⟨q1, rfl⟩ := hA2
    have q0 : codeP [eB] (.error E : Except String Int32) = cod [eB] E := rfl
    rw [q0]
    refine X_run rfl trivial ?_
    refine X_cV (args := []) rfl (by decide) hy1.1 rfl rfl (Nat.le_of_ble_eq_true rfl) (c_thrown h1.hY) ?_
    rintro _ _ ⟨rfl, rfl⟩
    refine X_run rfl trivial ?_
    refine X_icmp_eq rfl (fun _ => ?_) (fun z => absurd q1 z)
    refine X_run rfl trivial ?_
    refine X_if_ne rfl (fun _ => ?_) (fun z => absurd z (cod_ne (Nat.le_of_ble_eq_true rfl)))
    refine X_run rfl trivial ?_
    exact Eg.sub (k _ _ _ _ _ _ _ _ h1) ⟨rfl, rfl, rfl, rfl, congrArg (fun x => some (Value.int x)) (nI_plus i 6).symm, trivial⟩
  | ok r =>
    obtain ⟨q1, rfl⟩ := hA2
    have q0 : codeP [eB] (.ok r : Except String Int32) = 0 := rfl
    rw [q0]
    have hr2 := hr1 r rfl
    refine X_run rfl trivial ?_
    refine X_cV (args := []) rfl (by decide) hy1.1 rfl rfl (Nat.le_of_ble_eq_true rfl) (c_thrown h1.hY) ?_
    rintro _ _ ⟨rfl, rfl⟩
    refine X_run rfl trivial ?_
    refine X_icmp_eq rfl (fun _ => ?_) (fun z => absurd q1 z)
    refine X_run rfl trivial ?_
    refine X_if_ne rfl (fun z => absurd rfl z) (fun _ => ?_)
    refine X_run rfl ?_ ?_
    · simp [md_s, md_w, rget, r_a, r_b, r_c, r_i, r_l, hO1, v0, eO, hr2, lg_self]
    try simp only [md_s, md_w, rget_some, r_a, r_b, r_c, r_i, r_l, r_nx, r_pc, Nat.reduceEqDiff, false_and, if_false, hO1, v0, eO, hr2, lg_self]
    refine X_if_eq rfl (fun _ => ?_) (fun z => absurd rfl z)
    refine X_run rfl trivial ?_
    exact Eg.sub (k _ _ _ _ _ _ _ _ h1) ⟨rfl, rfl, rfl, rfl, congrArg (fun x => some (Value.int x)) (nI_plus i 6).symm, trivial⟩
set_option maxRecDepth 20000 in
theorem Bk_money {a1 a2 : Int32} {p : Except String Int32} {K1 : KT} {T1 P1 : List Nat} {e1 : Int32} {c1 : Nat} (h : LawS g sc N S D X A A2 K T P e c) (hi : i + 6 ≤ N) (ha1 : sc (i + 1) = a1) (ha2 : sc (i + 2) = a2) (hL : ∀ E, p = .error E → E ∈ [eB]) (hI : InvK K1 c1) (hcls : EvX g (d + 10) mX9_money 1 6 [.ref X, .int a1, .int a2] (md S D) (CalP S D X K1 T1 P1 e1 p) (CalX S D X K1 T1 P1 e1 p)) (href : ∀ k1 D1, OutX X D D1 → EvM g (d + 11) mX11_money 0 0 [.ref (X + 292), .int a1, .int a2] (md (gz S k1) D1) (RfP (gz S k1) D1 (X + 292) A 0 K1 T1 P1 e1 [eB] p)) (k : NxT g (d + 12) bc bs Z sc N i X c1) : Eg g (d + 12) mL_law (bc + 0 + 1) (bs + 0 + 6) Z 474 (LL g X i) [] (md S D) := by
  obtain ⟨p1, p2, p3, p4, p5⟩ := nI_p i
  obtain ⟨⟨x1, y1⟩, z1⟩ := h.at hi 1 (by decide)
  obtain ⟨⟨x2, y2⟩, z2⟩ := h.at hi 2 (by decide)
  rw [ha1] at z1
  rw [ha2] at z2
  obtain ⟨s1, s2, s3⟩ := h.hS
  have hW := h.hI.1
  have hWK := hI.1
  have hy := h.hY.1
  have hO := h.hO
  refine X_run rfl ?_ ?_
  · simp [md_s, md_w, rget, r_a, r_b, r_c, r_i, r_l, p1, x1, y1, z1, p2, x2, y2, z2, s1, s2]
  try simp only [md_s, md_w, rget_some, r_a, r_b, r_c, r_i, r_l, r_nx, r_pc, Nat.reduceEqDiff, false_and, if_false, p1, x1, y1, z1, p2, x2, y2, z2, s1, s2]
  refine X_callW (bc1 := 1) (bs1 := 6) (args := [.ref X, .int a1, .int a2, .ref (X + 340)]) rfl (by decide) rfl rfl (Nat.le_of_ble_eq_true rfl) (W_money h.hX.1.1 hWK hO hL hcls) ?_
  rintro _ _ ⟨D1, k1, rfl, rfl, hd1, ho1, hr1⟩
  have o1 := h.outS ho1
  obtain ⟨g1, g2, g3, g4⟩ := @gz_s S k1
  refine X_run rfl ?_ ?_
  · simp [md_s, md_w, rget, r_a, r_b, r_c, r_i, r_l, p1, x1, y1, z1, p2, x2, y2, z2, s1, s2, g1, g2, o1]
  try simp only [md_s, md_w, rget_some, r_a, r_b, r_c, r_i, r_l, r_nx, r_pc, Nat.reduceEqDiff, false_and, if_false, p1, x1, y1, z1, p2, x2, y2, z2, s1, s2, g1, g2, o1]
  refine X_callV (bc1 := 0) (bs1 := 0) (args := [.int a1, .int a2]) rfl (by decide) hy.1 rfl rfl (Nat.le_of_ble_eq_true rfl) (href k1 D1 ho1) ?_
  rintro v _ ⟨S2, D2, k2, hk2, rfl, hg2, hO2, hM2, hA2⟩
  have h1 := h.step hI hd1 ho1 hg2.y (MoL.gro (S := gz S k1) h.hY hg2 (by have := h.hz; show _ ≤ s_sz S + k1; omega)) hO2 hM2
  have hy1 := h1.hY.1
  have hO1 := h1.hO
  have v0 := li (n := 1) (0 : Int32) rfl (by decide) (by decide)
  have eO : d_al D2 (X + 340) = d_al D1 (X + 340) := (hO2 _ (by have := h.hz; show _ < s_sz S + k1; omega) (Or.inr (by omega))).2.2.2
  cases p with
  | error E =>
    obtain ⟨q1, rfl⟩ := hA2
    have q0 : codeP [eB] (.error E : Except String Int32) = cod [eB] E := rfl
    rw [q0]
    refine X_run rfl trivial ?_
    refine X_cV (args := []) rfl (by decide) hy1.1 rfl rfl (Nat.le_of_ble_eq_true rfl) (c_thrown h1.hY) ?_
    rintro _ _ ⟨rfl, rfl⟩
    refine X_run rfl trivial ?_
    refine X_icmp_eq rfl (fun _ => ?_) (fun z => absurd q1 z)
    refine X_run rfl trivial ?_
    refine X_if_ne rfl (fun _ => ?_) (fun z => absurd z (cod_ne (Nat.le_of_ble_eq_true rfl)))
    refine X_run rfl trivial ?_
    exact Eg.sub (k _ _ _ _ _ _ _ _ h1) ⟨rfl, rfl, rfl, rfl, congrArg (fun x => some (Value.int x)) (nI_plus i 6).symm, trivial⟩
  | ok r =>
    obtain ⟨q1, rfl⟩ := hA2
    have q0 : codeP [eB] (.ok r : Except String Int32) = 0 := rfl
    rw [q0]
    have hr2 := hr1 r rfl
    refine X_run rfl trivial ?_
    refine X_cV (args := []) rfl (by decide) hy1.1 rfl rfl (Nat.le_of_ble_eq_true rfl) (c_thrown h1.hY) ?_
    rintro _ _ ⟨rfl, rfl⟩
    refine X_run rfl trivial ?_
    refine X_icmp_eq rfl (fun _ => ?_) (fun z => absurd q1 z)
    refine X_run rfl trivial ?_
    refine X_if_ne rfl (fun z => absurd rfl z) (fun _ => ?_)
    refine X_run rfl ?_ ?_
    · simp [md_s, md_w, rget, r_a, r_b, r_c, r_i, r_l, hO1, v0, eO, hr2, lg_self]
    try simp only [md_s, md_w, rget_some, r_a, r_b, r_c, r_i, r_l, r_nx, r_pc, Nat.reduceEqDiff, false_and, if_false, hO1, v0, eO, hr2, lg_self]
    refine X_if_eq rfl (fun _ => ?_) (fun z => absurd rfl z)
    refine X_run rfl trivial ?_
    exact Eg.sub (k _ _ _ _ _ _ _ _ h1) ⟨rfl, rfl, rfl, rfl, congrArg (fun x => some (Value.int x)) (nI_plus i 6).symm, trivial⟩
set_option maxRecDepth 20000 in
theorem Bk_setRate {a1 a2 : Int32} {p : Except String Int32} {K1 : KT} {T1 P1 : List Nat} {e1 : Int32} {c1 : Nat} (h : LawS g sc N S D X A A2 K T P e c) (hi : i + 6 ≤ N) (ha1 : sc (i + 1) = a1) (ha2 : sc (i + 2) = a2) (hL : ∀ E, p = .error E → E ∈ [eB, eA]) (hI : InvK K1 c1) (hcls : EvX g (d + 10) mX9_setRate 1 6 [.ref X, .int a1, .int a2] (md S D) (CalP S D X K1 T1 P1 e1 p) (CalX S D X K1 T1 P1 e1 p)) (href : ∀ k1 D1, OutX X D D1 → EvM g (d + 11) mX11_setRate 0 0 [.ref (X + 292), .int a1, .int a2] (md (gz S k1) D1) (RfP (gz S k1) D1 (X + 292) A 0 K1 T1 P1 e1 [eB, eA] p)) (k : NxT g (d + 12) bc bs Z sc N i X c1) : Eg g (d + 12) mL_law (bc + 0 + 1) (bs + 0 + 6) Z 542 (LL g X i) [] (md S D) := by
  obtain ⟨p1, p2, p3, p4, p5⟩ := nI_p i
  obtain ⟨⟨x1, y1⟩, z1⟩ := h.at hi 1 (by decide)
  obtain ⟨⟨x2, y2⟩, z2⟩ := h.at hi 2 (by decide)
  rw [ha1] at z1
  rw [ha2] at z2
  obtain ⟨s1, s2, s3⟩ := h.hS
  have hW := h.hI.1
  have hWK := hI.1
  have hy := h.hY.1
  have hO := h.hO
  refine X_run rfl ?_ ?_
  · simp [md_s, md_w, rget, r_a, r_b, r_c, r_i, r_l, p1, x1, y1, z1, p2, x2, y2, z2, s1, s2]
  try simp only [md_s, md_w, rget_some, r_a, r_b, r_c, r_i, r_l, r_nx, r_pc, Nat.reduceEqDiff, false_and, if_false, p1, x1, y1, z1, p2, x2, y2, z2, s1, s2]
  refine X_callW (bc1 := 1) (bs1 := 6) (args := [.ref X, .int a1, .int a2, .ref (X + 340)]) rfl (by decide) rfl rfl (Nat.le_of_ble_eq_true rfl) (W_setRate h.hX.1.1 hWK hO hL hcls) ?_
  rintro _ _ ⟨D1, k1, rfl, rfl, hd1, ho1, hr1⟩
  have o1 := h.outS ho1
  obtain ⟨g1, g2, g3, g4⟩ := @gz_s S k1
  refine X_run rfl ?_ ?_
  · simp [md_s, md_w, rget, r_a, r_b, r_c, r_i, r_l, p1, x1, y1, z1, p2, x2, y2, z2, s1, s2, g1, g2, o1]
  try simp only [md_s, md_w, rget_some, r_a, r_b, r_c, r_i, r_l, r_nx, r_pc, Nat.reduceEqDiff, false_and, if_false, p1, x1, y1, z1, p2, x2, y2, z2, s1, s2, g1, g2, o1]
  refine X_callV (bc1 := 0) (bs1 := 0) (args := [.int a1, .int a2]) rfl (by decide) hy.1 rfl rfl (Nat.le_of_ble_eq_true rfl) (href k1 D1 ho1) ?_
  rintro v _ ⟨S2, D2, k2, hk2, rfl, hg2, hO2, hM2, hA2⟩
  have h1 := h.step hI hd1 ho1 hg2.y (MoL.gro (S := gz S k1) h.hY hg2 (by have := h.hz; show _ ≤ s_sz S + k1; omega)) hO2 hM2
  have hy1 := h1.hY.1
  have hO1 := h1.hO
  have v0 := li (n := 1) (0 : Int32) rfl (by decide) (by decide)
  have eO : d_al D2 (X + 340) = d_al D1 (X + 340) := (hO2 _ (by have := h.hz; show _ < s_sz S + k1; omega) (Or.inr (by omega))).2.2.2
  cases p with
  | error E =>
    obtain ⟨q1, rfl⟩ := hA2
    have q0 : codeP [eB, eA] (.error E : Except String Int32) = cod [eB, eA] E := rfl
    rw [q0]
    refine X_run rfl trivial ?_
    refine X_cV (args := []) rfl (by decide) hy1.1 rfl rfl (Nat.le_of_ble_eq_true rfl) (c_thrown h1.hY) ?_
    rintro _ _ ⟨rfl, rfl⟩
    refine X_run rfl trivial ?_
    refine X_icmp_eq rfl (fun _ => ?_) (fun z => absurd q1 z)
    refine X_run rfl trivial ?_
    refine X_if_ne rfl (fun _ => ?_) (fun z => absurd z (cod_ne (Nat.le_of_ble_eq_true rfl)))
    refine X_run rfl trivial ?_
    exact Eg.sub (k _ _ _ _ _ _ _ _ h1) ⟨rfl, rfl, rfl, rfl, congrArg (fun x => some (Value.int x)) (nI_plus i 6).symm, trivial⟩
  | ok r =>
    obtain ⟨q1, rfl⟩ := hA2
    have q0 : codeP [eB, eA] (.ok r : Except String Int32) = 0 := rfl
    rw [q0]
    have hr2 := hr1 r rfl
    refine X_run rfl trivial ?_
    refine X_cV (args := []) rfl (by decide) hy1.1 rfl rfl (Nat.le_of_ble_eq_true rfl) (c_thrown h1.hY) ?_
    rintro _ _ ⟨rfl, rfl⟩
    refine X_run rfl trivial ?_
    refine X_icmp_eq rfl (fun _ => ?_) (fun z => absurd q1 z)
    refine X_run rfl trivial ?_
    refine X_if_ne rfl (fun z => absurd rfl z) (fun _ => ?_)
    refine X_run rfl ?_ ?_
    · simp [md_s, md_w, rget, r_a, r_b, r_c, r_i, r_l, hO1, v0, eO, hr2, lg_self]
    try simp only [md_s, md_w, rget_some, r_a, r_b, r_c, r_i, r_l, r_nx, r_pc, Nat.reduceEqDiff, false_and, if_false, hO1, v0, eO, hr2, lg_self]
    refine X_if_eq rfl (fun _ => ?_) (fun z => absurd rfl z)
    refine X_run rfl trivial ?_
    exact Eg.sub (k _ _ _ _ _ _ _ _ h1) ⟨rfl, rfl, rfl, rfl, congrArg (fun x => some (Value.int x)) (nI_plus i 6).symm, trivial⟩
set_option maxRecDepth 20000 in
theorem Bk_has {a1 a2 a3 : Int32} {p : Except String Int32} {K1 : KT} {T1 P1 : List Nat} {e1 : Int32} {c1 : Nat} (h : LawS g sc N S D X A A2 K T P e c) (hi : i + 6 ≤ N) (ha1 : sc (i + 1) = a1) (ha2 : sc (i + 2) = a2) (ha3 : sc (i + 3) = 0 ∧ a3 = 0 ∨ ¬ sc (i + 3) = 0 ∧ a3 = 1) (hL : ∀ E, p = .error E → E ∈ [eB]) (hI : InvK K1 c1) (hcls : EvX g (d + 10) mX9_has 1 6 [.ref X, .int a1, .int a2, .int a3] (md S D) (CalP S D X K1 T1 P1 e1 p) (CalX S D X K1 T1 P1 e1 p)) (href : ∀ k1 D1, OutX X D D1 → EvM g (d + 11) mX11_has 0 0 [.ref (X + 292), .int a1, .int a2, .int a3] (md (gz S k1) D1) (RfP (gz S k1) D1 (X + 292) A 0 K1 T1 P1 e1 [eB] p)) (k : NxT g (d + 12) bc bs Z sc N i X c1) : Eg g (d + 12) mL_law (bc + 0 + 1) (bs + 0 + 6) Z 610 (LL g X i) [] (md S D) := by
  obtain ⟨p1, p2, p3, p4, p5⟩ := nI_p i
  obtain ⟨⟨x1, y1⟩, z1⟩ := h.at hi 1 (by decide)
  obtain ⟨⟨x2, y2⟩, z2⟩ := h.at hi 2 (by decide)
  obtain ⟨⟨x3, y3⟩, z3⟩ := h.at hi 3 (by decide)
  rw [ha1] at z1
  rw [ha2] at z2
  obtain ⟨s1, s2, s3⟩ := h.hS
  have hW := h.hI.1
  have hWK := hI.1
  have hy := h.hY.1
  have hO := h.hO
  refine X_run rfl ?_ ?_
  · simp [md_s, md_w, rget, r_a, r_b, r_c, r_i, r_l, p1, x1, y1, z1, p2, x2, y2, z2, p3, x3, y3, z3, s1, s2]
  try simp only [md_s, md_w, rget_some, r_a, r_b, r_c, r_i, r_l, r_nx, r_pc, Nat.reduceEqDiff, false_and, if_false, p1, x1, y1, z1, p2, x2, y2, z2, p3, x3, y3, z3, s1, s2]
  rcases ha3 with ⟨b1, rfl⟩ | ⟨b1, rfl⟩
  · refine X_if_eq rfl (fun _ => ?_) (fun z => absurd b1 z)
    refine X_run rfl trivial ?_
    refine X_callW (bc1 := 1) (bs1 := 6) (args := [.ref X, .int a1, .int a2, .int 0, .ref (X + 340)]) rfl (by decide) rfl rfl (Nat.le_of_ble_eq_true rfl) (W_has h.hX.1.1 hWK hO hL hcls) ?_
    rintro _ _ ⟨D1, k1, rfl, rfl, hd1, ho1, hr1⟩
    have o1 := h.outS ho1
    obtain ⟨g1, g2, g3, g4⟩ := @gz_s S k1
    refine X_run rfl ?_ ?_
    · simp [md_s, md_w, rget, r_a, r_b, r_c, r_i, r_l, p1, x1, y1, z1, p2, x2, y2, z2, p3, x3, y3, z3, s1, s2, g1, g2, o1]
    try simp only [md_s, md_w, rget_some, r_a, r_b, r_c, r_i, r_l, r_nx, r_pc, Nat.reduceEqDiff, false_and, if_false, p1, x1, y1, z1, p2, x2, y2, z2, p3, x3, y3, z3, s1, s2, g1, g2, o1]
    refine X_if_eq rfl (fun _ => ?_) (fun z => absurd b1 z)
    refine X_run rfl trivial ?_
    refine X_callV (bc1 := 0) (bs1 := 0) (args := [.int a1, .int a2, .int 0]) rfl (by decide) hy.1 rfl rfl (Nat.le_of_ble_eq_true rfl) (href k1 D1 ho1) ?_
    rintro v _ ⟨S2, D2, k2, hk2, rfl, hg2, hO2, hM2, hA2⟩
    have h1 := h.step hI hd1 ho1 hg2.y (MoL.gro (S := gz S k1) h.hY hg2 (by have := h.hz; show _ ≤ s_sz S + k1; omega)) hO2 hM2
    have hy1 := h1.hY.1
    have hO1 := h1.hO
    have v0 := li (n := 1) (0 : Int32) rfl (by decide) (by decide)
    have eO : d_al D2 (X + 340) = d_al D1 (X + 340) := (hO2 _ (by have := h.hz; show _ < s_sz S + k1; omega) (Or.inr (by omega))).2.2.2
    cases p with
    | error E =>
      obtain ⟨q1, rfl⟩ := hA2
      have q0 : codeP [eB] (.error E : Except String Int32) = cod [eB] E := rfl
      rw [q0]
      refine X_run rfl trivial ?_
      refine X_cV (args := []) rfl (by decide) hy1.1 rfl rfl (Nat.le_of_ble_eq_true rfl) (c_thrown h1.hY) ?_
      rintro _ _ ⟨rfl, rfl⟩
      refine X_run rfl trivial ?_
      refine X_icmp_eq rfl (fun _ => ?_) (fun z => absurd q1 z)
      refine X_run rfl trivial ?_
      refine X_if_ne rfl (fun _ => ?_) (fun z => absurd z (cod_ne (Nat.le_of_ble_eq_true rfl)))
      refine X_run rfl trivial ?_
      exact Eg.sub (k _ _ _ _ _ _ _ _ h1) ⟨rfl, rfl, rfl, rfl, congrArg (fun x => some (Value.int x)) (nI_plus i 6).symm, trivial⟩
    | ok r =>
      obtain ⟨q1, rfl⟩ := hA2
      have q0 : codeP [eB] (.ok r : Except String Int32) = 0 := rfl
      rw [q0]
      have hr2 := hr1 r rfl
      refine X_run rfl trivial ?_
      refine X_cV (args := []) rfl (by decide) hy1.1 rfl rfl (Nat.le_of_ble_eq_true rfl) (c_thrown h1.hY) ?_
      rintro _ _ ⟨rfl, rfl⟩
      refine X_run rfl trivial ?_
      refine X_icmp_eq rfl (fun _ => ?_) (fun z => absurd q1 z)
      refine X_run rfl trivial ?_
      refine X_if_ne rfl (fun z => absurd rfl z) (fun _ => ?_)
      refine X_run rfl ?_ ?_
      · simp [md_s, md_w, rget, r_a, r_b, r_c, r_i, r_l, hO1, v0, eO, hr2, lg_self]
      try simp only [md_s, md_w, rget_some, r_a, r_b, r_c, r_i, r_l, r_nx, r_pc, Nat.reduceEqDiff, false_and, if_false, hO1, v0, eO, hr2, lg_self]
      refine X_if_eq rfl (fun _ => ?_) (fun z => absurd rfl z)
      refine X_run rfl trivial ?_
      exact Eg.sub (k _ _ _ _ _ _ _ _ h1) ⟨rfl, rfl, rfl, rfl, congrArg (fun x => some (Value.int x)) (nI_plus i 6).symm, trivial⟩
  · refine X_if_eq rfl (fun z => absurd z b1) (fun _ => ?_)
    refine X_run rfl trivial ?_
    refine X_callW (bc1 := 1) (bs1 := 6) (args := [.ref X, .int a1, .int a2, .int 1, .ref (X + 340)]) rfl (by decide) rfl rfl (Nat.le_of_ble_eq_true rfl) (W_has h.hX.1.1 hWK hO hL hcls) ?_
    rintro _ _ ⟨D1, k1, rfl, rfl, hd1, ho1, hr1⟩
    have o1 := h.outS ho1
    obtain ⟨g1, g2, g3, g4⟩ := @gz_s S k1
    refine X_run rfl ?_ ?_
    · simp [md_s, md_w, rget, r_a, r_b, r_c, r_i, r_l, p1, x1, y1, z1, p2, x2, y2, z2, p3, x3, y3, z3, s1, s2, g1, g2, o1]
    try simp only [md_s, md_w, rget_some, r_a, r_b, r_c, r_i, r_l, r_nx, r_pc, Nat.reduceEqDiff, false_and, if_false, p1, x1, y1, z1, p2, x2, y2, z2, p3, x3, y3, z3, s1, s2, g1, g2, o1]
    refine X_if_eq rfl (fun z => absurd z b1) (fun _ => ?_)
    refine X_run rfl trivial ?_
    refine X_callV (bc1 := 0) (bs1 := 0) (args := [.int a1, .int a2, .int 1]) rfl (by decide) hy.1 rfl rfl (Nat.le_of_ble_eq_true rfl) (href k1 D1 ho1) ?_
    rintro v _ ⟨S2, D2, k2, hk2, rfl, hg2, hO2, hM2, hA2⟩
    have h1 := h.step hI hd1 ho1 hg2.y (MoL.gro (S := gz S k1) h.hY hg2 (by have := h.hz; show _ ≤ s_sz S + k1; omega)) hO2 hM2
    have hy1 := h1.hY.1
    have hO1 := h1.hO
    have v0 := li (n := 1) (0 : Int32) rfl (by decide) (by decide)
    have eO : d_al D2 (X + 340) = d_al D1 (X + 340) := (hO2 _ (by have := h.hz; show _ < s_sz S + k1; omega) (Or.inr (by omega))).2.2.2
    cases p with
    | error E =>
      obtain ⟨q1, rfl⟩ := hA2
      have q0 : codeP [eB] (.error E : Except String Int32) = cod [eB] E := rfl
      rw [q0]
      refine X_run rfl trivial ?_
      refine X_cV (args := []) rfl (by decide) hy1.1 rfl rfl (Nat.le_of_ble_eq_true rfl) (c_thrown h1.hY) ?_
      rintro _ _ ⟨rfl, rfl⟩
      refine X_run rfl trivial ?_
      refine X_icmp_eq rfl (fun _ => ?_) (fun z => absurd q1 z)
      refine X_run rfl trivial ?_
      refine X_if_ne rfl (fun _ => ?_) (fun z => absurd z (cod_ne (Nat.le_of_ble_eq_true rfl)))
      refine X_run rfl trivial ?_
      exact Eg.sub (k _ _ _ _ _ _ _ _ h1) ⟨rfl, rfl, rfl, rfl, congrArg (fun x => some (Value.int x)) (nI_plus i 6).symm, trivial⟩
    | ok r =>
      obtain ⟨q1, rfl⟩ := hA2
      have q0 : codeP [eB] (.ok r : Except String Int32) = 0 := rfl
      rw [q0]
      have hr2 := hr1 r rfl
      refine X_run rfl trivial ?_
      refine X_cV (args := []) rfl (by decide) hy1.1 rfl rfl (Nat.le_of_ble_eq_true rfl) (c_thrown h1.hY) ?_
      rintro _ _ ⟨rfl, rfl⟩
      refine X_run rfl trivial ?_
      refine X_icmp_eq rfl (fun _ => ?_) (fun z => absurd q1 z)
      refine X_run rfl trivial ?_
      refine X_if_ne rfl (fun z => absurd rfl z) (fun _ => ?_)
      refine X_run rfl ?_ ?_
      · simp [md_s, md_w, rget, r_a, r_b, r_c, r_i, r_l, hO1, v0, eO, hr2, lg_self]
      try simp only [md_s, md_w, rget_some, r_a, r_b, r_c, r_i, r_l, r_nx, r_pc, Nat.reduceEqDiff, false_and, if_false, hO1, v0, eO, hr2, lg_self]
      refine X_if_eq rfl (fun _ => ?_) (fun z => absurd rfl z)
      refine X_run rfl trivial ?_
      exact Eg.sub (k _ _ _ _ _ _ _ _ h1) ⟨rfl, rfl, rfl, rfl, congrArg (fun x => some (Value.int x)) (nI_plus i 6).symm, trivial⟩
set_option maxRecDepth 20000 in
theorem Bk_deposit {a1 a2 a3 : Int32} {p : Except String Int32} {K1 : KT} {T1 P1 : List Nat} {e1 : Int32} {c1 : Nat} (h : LawS g sc N S D X A A2 K T P e c) (hi : i + 6 ≤ N) (ha1 : sc (i + 1) = a1) (ha2 : sc (i + 2) = a2) (ha3 : sc (i + 3) = a3) (hL : ∀ E, p = .error E → E ∈ [eB, eA]) (hI : InvK K1 c1) (hcls : EvX g (d + 10) mX9_deposit 1 6 [.ref X, .int a1, .int a2, .int a3] (md S D) (CalP S D X K1 T1 P1 e1 p) (CalX S D X K1 T1 P1 e1 p)) (href : ∀ k1 D1, OutX X D D1 → EvM g (d + 11) mX11_deposit 0 0 [.ref (X + 292), .int a1, .int a2, .int a3] (md (gz S k1) D1) (RfP (gz S k1) D1 (X + 292) A 0 K1 T1 P1 e1 [eB, eA] p)) (k : NxT g (d + 12) bc bs Z sc N i X c1) : Eg g (d + 12) mL_law (bc + 0 + 1) (bs + 0 + 6) Z 706 (LL g X i) [] (md S D) := by
  obtain ⟨p1, p2, p3, p4, p5⟩ := nI_p i
  obtain ⟨⟨x1, y1⟩, z1⟩ := h.at hi 1 (by decide)
  obtain ⟨⟨x2, y2⟩, z2⟩ := h.at hi 2 (by decide)
  obtain ⟨⟨x3, y3⟩, z3⟩ := h.at hi 3 (by decide)
  rw [ha1] at z1
  rw [ha2] at z2
  rw [ha3] at z3
  obtain ⟨s1, s2, s3⟩ := h.hS
  have hW := h.hI.1
  have hWK := hI.1
  have hy := h.hY.1
  have hO := h.hO
  refine X_run rfl ?_ ?_
  · simp [md_s, md_w, rget, r_a, r_b, r_c, r_i, r_l, p1, x1, y1, z1, p2, x2, y2, z2, p3, x3, y3, z3, s1, s2]
  try simp only [md_s, md_w, rget_some, r_a, r_b, r_c, r_i, r_l, r_nx, r_pc, Nat.reduceEqDiff, false_and, if_false, p1, x1, y1, z1, p2, x2, y2, z2, p3, x3, y3, z3, s1, s2]
  refine X_callW (bc1 := 1) (bs1 := 6) (args := [.ref X, .int a1, .int a2, .int a3, .ref (X + 340)]) rfl (by decide) rfl rfl (Nat.le_of_ble_eq_true rfl) (W_deposit h.hX.1.1 hWK hO hL hcls) ?_
  rintro _ _ ⟨D1, k1, rfl, rfl, hd1, ho1, hr1⟩
  have o1 := h.outS ho1
  obtain ⟨g1, g2, g3, g4⟩ := @gz_s S k1
  refine X_run rfl ?_ ?_
  · simp [md_s, md_w, rget, r_a, r_b, r_c, r_i, r_l, p1, x1, y1, z1, p2, x2, y2, z2, p3, x3, y3, z3, s1, s2, g1, g2, o1]
  try simp only [md_s, md_w, rget_some, r_a, r_b, r_c, r_i, r_l, r_nx, r_pc, Nat.reduceEqDiff, false_and, if_false, p1, x1, y1, z1, p2, x2, y2, z2, p3, x3, y3, z3, s1, s2, g1, g2, o1]
  refine X_callV (bc1 := 0) (bs1 := 0) (args := [.int a1, .int a2, .int a3]) rfl (by decide) hy.1 rfl rfl (Nat.le_of_ble_eq_true rfl) (href k1 D1 ho1) ?_
  rintro v _ ⟨S2, D2, k2, hk2, rfl, hg2, hO2, hM2, hA2⟩
  have h1 := h.step hI hd1 ho1 hg2.y (MoL.gro (S := gz S k1) h.hY hg2 (by have := h.hz; show _ ≤ s_sz S + k1; omega)) hO2 hM2
  have hy1 := h1.hY.1
  have hO1 := h1.hO
  have v0 := li (n := 1) (0 : Int32) rfl (by decide) (by decide)
  have eO : d_al D2 (X + 340) = d_al D1 (X + 340) := (hO2 _ (by have := h.hz; show _ < s_sz S + k1; omega) (Or.inr (by omega))).2.2.2
  cases p with
  | error E =>
    obtain ⟨q1, rfl⟩ := hA2
    have q0 : codeP [eB, eA] (.error E : Except String Int32) = cod [eB, eA] E := rfl
    rw [q0]
    refine X_run rfl trivial ?_
    refine X_cV (args := []) rfl (by decide) hy1.1 rfl rfl (Nat.le_of_ble_eq_true rfl) (c_thrown h1.hY) ?_
    rintro _ _ ⟨rfl, rfl⟩
    refine X_run rfl trivial ?_
    refine X_icmp_eq rfl (fun _ => ?_) (fun z => absurd q1 z)
    refine X_run rfl trivial ?_
    refine X_if_ne rfl (fun _ => ?_) (fun z => absurd z (cod_ne (Nat.le_of_ble_eq_true rfl)))
    refine X_run rfl trivial ?_
    exact Eg.sub (k _ _ _ _ _ _ _ _ h1) ⟨rfl, rfl, rfl, rfl, congrArg (fun x => some (Value.int x)) (nI_plus i 6).symm, trivial⟩
  | ok r =>
    obtain ⟨q1, rfl⟩ := hA2
    have q0 : codeP [eB, eA] (.ok r : Except String Int32) = 0 := rfl
    rw [q0]
    have hr2 := hr1 r rfl
    refine X_run rfl trivial ?_
    refine X_cV (args := []) rfl (by decide) hy1.1 rfl rfl (Nat.le_of_ble_eq_true rfl) (c_thrown h1.hY) ?_
    rintro _ _ ⟨rfl, rfl⟩
    refine X_run rfl trivial ?_
    refine X_icmp_eq rfl (fun _ => ?_) (fun z => absurd q1 z)
    refine X_run rfl trivial ?_
    refine X_if_ne rfl (fun z => absurd rfl z) (fun _ => ?_)
    refine X_run rfl ?_ ?_
    · simp [md_s, md_w, rget, r_a, r_b, r_c, r_i, r_l, hO1, v0, eO, hr2, lg_self]
    try simp only [md_s, md_w, rget_some, r_a, r_b, r_c, r_i, r_l, r_nx, r_pc, Nat.reduceEqDiff, false_and, if_false, hO1, v0, eO, hr2, lg_self]
    refine X_if_eq rfl (fun _ => ?_) (fun z => absurd rfl z)
    refine X_run rfl trivial ?_
    exact Eg.sub (k _ _ _ _ _ _ _ _ h1) ⟨rfl, rfl, rfl, rfl, congrArg (fun x => some (Value.int x)) (nI_plus i 6).symm, trivial⟩
set_option maxRecDepth 20000 in
theorem Bk_withdraw {a1 a2 a3 : Int32} {p : Except String Int32} {K1 : KT} {T1 P1 : List Nat} {e1 : Int32} {c1 : Nat} (h : LawS g sc N S D X A A2 K T P e c) (hi : i + 6 ≤ N) (ha1 : sc (i + 1) = a1) (ha2 : sc (i + 2) = a2) (ha3 : sc (i + 3) = a3) (hL : ∀ E, p = .error E → E ∈ [eB, eA, eS]) (hI : InvK K1 c1) (hcls : EvX g (d + 10) mX9_withdraw 1 6 [.ref X, .int a1, .int a2, .int a3] (md S D) (CalP S D X K1 T1 P1 e1 p) (CalX S D X K1 T1 P1 e1 p)) (href : ∀ k1 D1, OutX X D D1 → EvM g (d + 11) mX11_withdraw 0 0 [.ref (X + 292), .int a1, .int a2, .int a3] (md (gz S k1) D1) (RfP (gz S k1) D1 (X + 292) A 0 K1 T1 P1 e1 [eB, eA, eS] p)) (k : NxT g (d + 12) bc bs Z sc N i X c1) : Eg g (d + 12) mL_law (bc + 0 + 1) (bs + 0 + 6) Z 786 (LL g X i) [] (md S D) := by
  obtain ⟨p1, p2, p3, p4, p5⟩ := nI_p i
  obtain ⟨⟨x1, y1⟩, z1⟩ := h.at hi 1 (by decide)
  obtain ⟨⟨x2, y2⟩, z2⟩ := h.at hi 2 (by decide)
  obtain ⟨⟨x3, y3⟩, z3⟩ := h.at hi 3 (by decide)
  rw [ha1] at z1
  rw [ha2] at z2
  rw [ha3] at z3
  obtain ⟨s1, s2, s3⟩ := h.hS
  have hW := h.hI.1
  have hWK := hI.1
  have hy := h.hY.1
  have hO := h.hO
  refine X_run rfl ?_ ?_
  · simp [md_s, md_w, rget, r_a, r_b, r_c, r_i, r_l, p1, x1, y1, z1, p2, x2, y2, z2, p3, x3, y3, z3, s1, s2]
  try simp only [md_s, md_w, rget_some, r_a, r_b, r_c, r_i, r_l, r_nx, r_pc, Nat.reduceEqDiff, false_and, if_false, p1, x1, y1, z1, p2, x2, y2, z2, p3, x3, y3, z3, s1, s2]
  refine X_callW (bc1 := 1) (bs1 := 6) (args := [.ref X, .int a1, .int a2, .int a3, .ref (X + 340)]) rfl (by decide) rfl rfl (Nat.le_of_ble_eq_true rfl) (W_withdraw h.hX.1.1 hWK hO hL hcls) ?_
  rintro _ _ ⟨D1, k1, rfl, rfl, hd1, ho1, hr1⟩
  have o1 := h.outS ho1
  obtain ⟨g1, g2, g3, g4⟩ := @gz_s S k1
  refine X_run rfl ?_ ?_
  · simp [md_s, md_w, rget, r_a, r_b, r_c, r_i, r_l, p1, x1, y1, z1, p2, x2, y2, z2, p3, x3, y3, z3, s1, s2, g1, g2, o1]
  try simp only [md_s, md_w, rget_some, r_a, r_b, r_c, r_i, r_l, r_nx, r_pc, Nat.reduceEqDiff, false_and, if_false, p1, x1, y1, z1, p2, x2, y2, z2, p3, x3, y3, z3, s1, s2, g1, g2, o1]
  refine X_callV (bc1 := 0) (bs1 := 0) (args := [.int a1, .int a2, .int a3]) rfl (by decide) hy.1 rfl rfl (Nat.le_of_ble_eq_true rfl) (href k1 D1 ho1) ?_
  rintro v _ ⟨S2, D2, k2, hk2, rfl, hg2, hO2, hM2, hA2⟩
  have h1 := h.step hI hd1 ho1 hg2.y (MoL.gro (S := gz S k1) h.hY hg2 (by have := h.hz; show _ ≤ s_sz S + k1; omega)) hO2 hM2
  have hy1 := h1.hY.1
  have hO1 := h1.hO
  have v0 := li (n := 1) (0 : Int32) rfl (by decide) (by decide)
  have eO : d_al D2 (X + 340) = d_al D1 (X + 340) := (hO2 _ (by have := h.hz; show _ < s_sz S + k1; omega) (Or.inr (by omega))).2.2.2
  cases p with
  | error E =>
    obtain ⟨q1, rfl⟩ := hA2
    have q0 : codeP [eB, eA, eS] (.error E : Except String Int32) = cod [eB, eA, eS] E := rfl
    rw [q0]
    refine X_run rfl trivial ?_
    refine X_cV (args := []) rfl (by decide) hy1.1 rfl rfl (Nat.le_of_ble_eq_true rfl) (c_thrown h1.hY) ?_
    rintro _ _ ⟨rfl, rfl⟩
    refine X_run rfl trivial ?_
    refine X_icmp_eq rfl (fun _ => ?_) (fun z => absurd q1 z)
    refine X_run rfl trivial ?_
    refine X_if_ne rfl (fun _ => ?_) (fun z => absurd z (cod_ne (Nat.le_of_ble_eq_true rfl)))
    refine X_run rfl trivial ?_
    exact Eg.sub (k _ _ _ _ _ _ _ _ h1) ⟨rfl, rfl, rfl, rfl, congrArg (fun x => some (Value.int x)) (nI_plus i 6).symm, trivial⟩
  | ok r =>
    obtain ⟨q1, rfl⟩ := hA2
    have q0 : codeP [eB, eA, eS] (.ok r : Except String Int32) = 0 := rfl
    rw [q0]
    have hr2 := hr1 r rfl
    refine X_run rfl trivial ?_
    refine X_cV (args := []) rfl (by decide) hy1.1 rfl rfl (Nat.le_of_ble_eq_true rfl) (c_thrown h1.hY) ?_
    rintro _ _ ⟨rfl, rfl⟩
    refine X_run rfl trivial ?_
    refine X_icmp_eq rfl (fun _ => ?_) (fun z => absurd q1 z)
    refine X_run rfl trivial ?_
    refine X_if_ne rfl (fun z => absurd rfl z) (fun _ => ?_)
    refine X_run rfl ?_ ?_
    · simp [md_s, md_w, rget, r_a, r_b, r_c, r_i, r_l, hO1, v0, eO, hr2, lg_self]
    try simp only [md_s, md_w, rget_some, r_a, r_b, r_c, r_i, r_l, r_nx, r_pc, Nat.reduceEqDiff, false_and, if_false, hO1, v0, eO, hr2, lg_self]
    refine X_if_eq rfl (fun _ => ?_) (fun z => absurd rfl z)
    refine X_run rfl trivial ?_
    exact Eg.sub (k _ _ _ _ _ _ _ _ h1) ⟨rfl, rfl, rfl, rfl, congrArg (fun x => some (Value.int x)) (nI_plus i 6).symm, trivial⟩
set_option maxRecDepth 20000 in
theorem Bk_pledge {a1 a2 a3 : Int32} {p : Except String Int32} {K1 : KT} {T1 P1 : List Nat} {e1 : Int32} {c1 : Nat} (h : LawS g sc N S D X A A2 K T P e c) (hi : i + 6 ≤ N) (ha1 : sc (i + 1) = a1) (ha2 : sc (i + 2) = a2) (ha3 : sc (i + 3) = a3) (hL : ∀ E, p = .error E → E ∈ [eB, eA, eS]) (hI : InvK K1 c1) (hcls : EvX g (d + 10) mX9_pledge 1 6 [.ref X, .int a1, .int a2, .int a3] (md S D) (CalP S D X K1 T1 P1 e1 p) (CalX S D X K1 T1 P1 e1 p)) (href : ∀ k1 D1, OutX X D D1 → EvM g (d + 11) mX11_pledge 0 0 [.ref (X + 292), .int a1, .int a2, .int a3] (md (gz S k1) D1) (RfP (gz S k1) D1 (X + 292) A 0 K1 T1 P1 e1 [eB, eA, eS] p)) (k : NxT g (d + 12) bc bs Z sc N i X c1) : Eg g (d + 12) mL_law (bc + 0 + 1) (bs + 0 + 6) Z 866 (LL g X i) [] (md S D) := by
  obtain ⟨p1, p2, p3, p4, p5⟩ := nI_p i
  obtain ⟨⟨x1, y1⟩, z1⟩ := h.at hi 1 (by decide)
  obtain ⟨⟨x2, y2⟩, z2⟩ := h.at hi 2 (by decide)
  obtain ⟨⟨x3, y3⟩, z3⟩ := h.at hi 3 (by decide)
  rw [ha1] at z1
  rw [ha2] at z2
  rw [ha3] at z3
  obtain ⟨s1, s2, s3⟩ := h.hS
  have hW := h.hI.1
  have hWK := hI.1
  have hy := h.hY.1
  have hO := h.hO
  refine X_run rfl ?_ ?_
  · simp [md_s, md_w, rget, r_a, r_b, r_c, r_i, r_l, p1, x1, y1, z1, p2, x2, y2, z2, p3, x3, y3, z3, s1, s2]
  try simp only [md_s, md_w, rget_some, r_a, r_b, r_c, r_i, r_l, r_nx, r_pc, Nat.reduceEqDiff, false_and, if_false, p1, x1, y1, z1, p2, x2, y2, z2, p3, x3, y3, z3, s1, s2]
  refine X_callW (bc1 := 1) (bs1 := 6) (args := [.ref X, .int a1, .int a2, .int a3, .ref (X + 340)]) rfl (by decide) rfl rfl (Nat.le_of_ble_eq_true rfl) (W_pledge h.hX.1.1 hWK hO hL hcls) ?_
  rintro _ _ ⟨D1, k1, rfl, rfl, hd1, ho1, hr1⟩
  have o1 := h.outS ho1
  obtain ⟨g1, g2, g3, g4⟩ := @gz_s S k1
  refine X_run rfl ?_ ?_
  · simp [md_s, md_w, rget, r_a, r_b, r_c, r_i, r_l, p1, x1, y1, z1, p2, x2, y2, z2, p3, x3, y3, z3, s1, s2, g1, g2, o1]
  try simp only [md_s, md_w, rget_some, r_a, r_b, r_c, r_i, r_l, r_nx, r_pc, Nat.reduceEqDiff, false_and, if_false, p1, x1, y1, z1, p2, x2, y2, z2, p3, x3, y3, z3, s1, s2, g1, g2, o1]
  refine X_callV (bc1 := 0) (bs1 := 0) (args := [.int a1, .int a2, .int a3]) rfl (by decide) hy.1 rfl rfl (Nat.le_of_ble_eq_true rfl) (href k1 D1 ho1) ?_
  rintro v _ ⟨S2, D2, k2, hk2, rfl, hg2, hO2, hM2, hA2⟩
  have h1 := h.step hI hd1 ho1 hg2.y (MoL.gro (S := gz S k1) h.hY hg2 (by have := h.hz; show _ ≤ s_sz S + k1; omega)) hO2 hM2
  have hy1 := h1.hY.1
  have hO1 := h1.hO
  have v0 := li (n := 1) (0 : Int32) rfl (by decide) (by decide)
  have eO : d_al D2 (X + 340) = d_al D1 (X + 340) := (hO2 _ (by have := h.hz; show _ < s_sz S + k1; omega) (Or.inr (by omega))).2.2.2
  cases p with
  | error E =>
    obtain ⟨q1, rfl⟩ := hA2
    have q0 : codeP [eB, eA, eS] (.error E : Except String Int32) = cod [eB, eA, eS] E := rfl
    rw [q0]
    refine X_run rfl trivial ?_
    refine X_cV (args := []) rfl (by decide) hy1.1 rfl rfl (Nat.le_of_ble_eq_true rfl) (c_thrown h1.hY) ?_
    rintro _ _ ⟨rfl, rfl⟩
    refine X_run rfl trivial ?_
    refine X_icmp_eq rfl (fun _ => ?_) (fun z => absurd q1 z)
    refine X_run rfl trivial ?_
    refine X_if_ne rfl (fun _ => ?_) (fun z => absurd z (cod_ne (Nat.le_of_ble_eq_true rfl)))
    refine X_run rfl trivial ?_
    exact Eg.sub (k _ _ _ _ _ _ _ _ h1) ⟨rfl, rfl, rfl, rfl, congrArg (fun x => some (Value.int x)) (nI_plus i 6).symm, trivial⟩
  | ok r =>
    obtain ⟨q1, rfl⟩ := hA2
    have q0 : codeP [eB, eA, eS] (.ok r : Except String Int32) = 0 := rfl
    rw [q0]
    have hr2 := hr1 r rfl
    refine X_run rfl trivial ?_
    refine X_cV (args := []) rfl (by decide) hy1.1 rfl rfl (Nat.le_of_ble_eq_true rfl) (c_thrown h1.hY) ?_
    rintro _ _ ⟨rfl, rfl⟩
    refine X_run rfl trivial ?_
    refine X_icmp_eq rfl (fun _ => ?_) (fun z => absurd q1 z)
    refine X_run rfl trivial ?_
    refine X_if_ne rfl (fun z => absurd rfl z) (fun _ => ?_)
    refine X_run rfl ?_ ?_
    · simp [md_s, md_w, rget, r_a, r_b, r_c, r_i, r_l, hO1, v0, eO, hr2, lg_self]
    try simp only [md_s, md_w, rget_some, r_a, r_b, r_c, r_i, r_l, r_nx, r_pc, Nat.reduceEqDiff, false_and, if_false, hO1, v0, eO, hr2, lg_self]
    refine X_if_eq rfl (fun _ => ?_) (fun z => absurd rfl z)
    refine X_run rfl trivial ?_
    exact Eg.sub (k _ _ _ _ _ _ _ _ h1) ⟨rfl, rfl, rfl, rfl, congrArg (fun x => some (Value.int x)) (nI_plus i 6).symm, trivial⟩
set_option maxRecDepth 20000 in
theorem Bk_payment {a1 a2 : Int32} {p : Except String Int32} {K1 : KT} {T1 P1 : List Nat} {e1 : Int32} {c1 : Nat} (h : LawS g sc N S D X A A2 K T P e c) (hi : i + 6 ≤ N) (ha1 : sc (i + 1) = a1) (ha2 : sc (i + 2) = a2) (hL : ∀ E, p = .error E → E ∈ [eB]) (hI : InvK K1 c1) (hcls : EvX g (d + 10) mX9_payment 1 6 [.ref X, .int a1, .int a2] (md S D) (CalP S D X K1 T1 P1 e1 p) (CalX S D X K1 T1 P1 e1 p)) (href : ∀ k1 D1, OutX X D D1 → EvM g (d + 11) mX11_payment 1 9 [.ref (X + 292), .int a1, .int a2] (md (gz S k1) D1) (RfP (gz S k1) D1 (X + 292) A 1 K1 T1 P1 e1 [eB] p)) (k : NxT g (d + 12) bc bs Z sc N i X c1) : Eg g (d + 12) mL_law (bc + 1 + 1) (bs + 9 + 6) Z 946 (LL g X i) [] (md S D) := by
  obtain ⟨p1, p2, p3, p4, p5⟩ := nI_p i
  obtain ⟨⟨x1, y1⟩, z1⟩ := h.at hi 1 (by decide)
  obtain ⟨⟨x2, y2⟩, z2⟩ := h.at hi 2 (by decide)
  rw [ha1] at z1
  rw [ha2] at z2
  obtain ⟨s1, s2, s3⟩ := h.hS
  have hW := h.hI.1
  have hWK := hI.1
  have hy := h.hY.1
  have hO := h.hO
  refine X_run rfl ?_ ?_
  · simp [md_s, md_w, rget, r_a, r_b, r_c, r_i, r_l, p1, x1, y1, z1, p2, x2, y2, z2, s1, s2]
  try simp only [md_s, md_w, rget_some, r_a, r_b, r_c, r_i, r_l, r_nx, r_pc, Nat.reduceEqDiff, false_and, if_false, p1, x1, y1, z1, p2, x2, y2, z2, s1, s2]
  refine X_callW (bc1 := 1) (bs1 := 6) (args := [.ref X, .int a1, .int a2, .ref (X + 340)]) rfl (by decide) rfl rfl (Nat.le_of_ble_eq_true rfl) (W_payment h.hX.1.1 hWK hO hL hcls) ?_
  rintro _ _ ⟨D1, k1, rfl, rfl, hd1, ho1, hr1⟩
  have o1 := h.outS ho1
  obtain ⟨g1, g2, g3, g4⟩ := @gz_s S k1
  refine X_run rfl ?_ ?_
  · simp [md_s, md_w, rget, r_a, r_b, r_c, r_i, r_l, p1, x1, y1, z1, p2, x2, y2, z2, s1, s2, g1, g2, o1]
  try simp only [md_s, md_w, rget_some, r_a, r_b, r_c, r_i, r_l, r_nx, r_pc, Nat.reduceEqDiff, false_and, if_false, p1, x1, y1, z1, p2, x2, y2, z2, s1, s2, g1, g2, o1]
  refine X_callV (bc1 := 1) (bs1 := 9) (args := [.int a1, .int a2]) rfl (by decide) hy.1 rfl rfl (Nat.le_of_ble_eq_true rfl) (href k1 D1 ho1) ?_
  rintro v _ ⟨S2, D2, k2, hk2, rfl, hg2, hO2, hM2, hA2⟩
  have h1 := h.step hI hd1 ho1 hg2.y (MoL.gro (S := gz S k1) h.hY hg2 (by have := h.hz; show _ ≤ s_sz S + k1; omega)) hO2 hM2
  have hy1 := h1.hY.1
  have hO1 := h1.hO
  have v0 := li (n := 1) (0 : Int32) rfl (by decide) (by decide)
  have eO : d_al D2 (X + 340) = d_al D1 (X + 340) := (hO2 _ (by have := h.hz; show _ < s_sz S + k1; omega) (Or.inr (by omega))).2.2.2
  cases p with
  | error E =>
    obtain ⟨q1, rfl⟩ := hA2
    have q0 : codeP [eB] (.error E : Except String Int32) = cod [eB] E := rfl
    rw [q0]
    refine X_run rfl trivial ?_
    refine X_cV (args := []) rfl (by decide) hy1.1 rfl rfl (Nat.le_of_ble_eq_true rfl) (c_thrown h1.hY) ?_
    rintro _ _ ⟨rfl, rfl⟩
    refine X_run rfl trivial ?_
    refine X_icmp_eq rfl (fun _ => ?_) (fun z => absurd q1 z)
    refine X_run rfl trivial ?_
    refine X_if_ne rfl (fun _ => ?_) (fun z => absurd z (cod_ne (Nat.le_of_ble_eq_true rfl)))
    refine X_run rfl trivial ?_
    exact Eg.sub (k _ _ _ _ _ _ _ _ h1) ⟨rfl, rfl, rfl, rfl, congrArg (fun x => some (Value.int x)) (nI_plus i 6).symm, trivial⟩
  | ok r =>
    obtain ⟨q1, rfl⟩ := hA2
    have q0 : codeP [eB] (.ok r : Except String Int32) = 0 := rfl
    rw [q0]
    have hr2 := hr1 r rfl
    refine X_run rfl trivial ?_
    refine X_cV (args := []) rfl (by decide) hy1.1 rfl rfl (Nat.le_of_ble_eq_true rfl) (c_thrown h1.hY) ?_
    rintro _ _ ⟨rfl, rfl⟩
    refine X_run rfl trivial ?_
    refine X_icmp_eq rfl (fun _ => ?_) (fun z => absurd q1 z)
    refine X_run rfl trivial ?_
    refine X_if_ne rfl (fun z => absurd rfl z) (fun _ => ?_)
    refine X_run rfl ?_ ?_
    · simp [md_s, md_w, rget, r_a, r_b, r_c, r_i, r_l, hO1, v0, eO, hr2, lg_self]
    try simp only [md_s, md_w, rget_some, r_a, r_b, r_c, r_i, r_l, r_nx, r_pc, Nat.reduceEqDiff, false_and, if_false, hO1, v0, eO, hr2, lg_self]
    refine X_if_eq rfl (fun _ => ?_) (fun z => absurd rfl z)
    refine X_run rfl trivial ?_
    exact Eg.sub (k _ _ _ _ _ _ _ _ h1) ⟨rfl, rfl, rfl, rfl, congrArg (fun x => some (Value.int x)) (nI_plus i 6).symm, trivial⟩
set_option maxRecDepth 20000 in
theorem Bk_amend {a1 a2 : Int32} {p : Except String Int32} {K1 : KT} {T1 P1 : List Nat} {e1 : Int32} {c1 : Nat} (h : LawS g sc N S D X A A2 K T P e c) (hi : i + 6 ≤ N) (ha1 : sc (i + 1) = a1) (ha2 : sc (i + 2) = a2) (hL : ∀ E, p = .error E → E ∈ [eB, eA, eS]) (hI : InvK K1 c1) (hcls : EvX g (d + 10) mX9_amend 1 6 [.ref X, .int a1, .int a2] (md S D) (CalP S D X K1 T1 P1 e1 p) (CalX S D X K1 T1 P1 e1 p)) (href : ∀ k1 D1, OutX X D D1 → EvM g (d + 11) mX11_amend 0 0 [.ref (X + 292), .int a1, .int a2] (md (gz S k1) D1) (RfP (gz S k1) D1 (X + 292) A 0 K1 T1 P1 e1 [eB, eA, eS] p)) (k : NxT g (d + 12) bc bs Z sc N i X c1) : Eg g (d + 12) mL_law (bc + 0 + 1) (bs + 0 + 6) Z 1014 (LL g X i) [] (md S D) := by
  obtain ⟨p1, p2, p3, p4, p5⟩ := nI_p i
  obtain ⟨⟨x1, y1⟩, z1⟩ := h.at hi 1 (by decide)
  obtain ⟨⟨x2, y2⟩, z2⟩ := h.at hi 2 (by decide)
  rw [ha1] at z1
  rw [ha2] at z2
  obtain ⟨s1, s2, s3⟩ := h.hS
  have hW := h.hI.1
  have hWK := hI.1
  have hy := h.hY.1
  have hO := h.hO
  refine X_run rfl ?_ ?_
  · simp [md_s, md_w, rget, r_a, r_b, r_c, r_i, r_l, p1, x1, y1, z1, p2, x2, y2, z2, s1, s2]
  try simp only [md_s, md_w, rget_some, r_a, r_b, r_c, r_i, r_l, r_nx, r_pc, Nat.reduceEqDiff, false_and, if_false, p1, x1, y1, z1, p2, x2, y2, z2, s1, s2]
  refine X_callW (bc1 := 1) (bs1 := 6) (args := [.ref X, .int a1, .int a2, .ref (X + 340)]) rfl (by decide) rfl rfl (Nat.le_of_ble_eq_true rfl) (W_amend h.hX.1.1 hWK hO hL hcls) ?_
  rintro _ _ ⟨D1, k1, rfl, rfl, hd1, ho1, hr1⟩
  have o1 := h.outS ho1
  obtain ⟨g1, g2, g3, g4⟩ := @gz_s S k1
  refine X_run rfl ?_ ?_
  · simp [md_s, md_w, rget, r_a, r_b, r_c, r_i, r_l, p1, x1, y1, z1, p2, x2, y2, z2, s1, s2, g1, g2, o1]
  try simp only [md_s, md_w, rget_some, r_a, r_b, r_c, r_i, r_l, r_nx, r_pc, Nat.reduceEqDiff, false_and, if_false, p1, x1, y1, z1, p2, x2, y2, z2, s1, s2, g1, g2, o1]
  refine X_callV (bc1 := 0) (bs1 := 0) (args := [.int a1, .int a2]) rfl (by decide) hy.1 rfl rfl (Nat.le_of_ble_eq_true rfl) (href k1 D1 ho1) ?_
  rintro v _ ⟨S2, D2, k2, hk2, rfl, hg2, hO2, hM2, hA2⟩
  have h1 := h.step hI hd1 ho1 hg2.y (MoL.gro (S := gz S k1) h.hY hg2 (by have := h.hz; show _ ≤ s_sz S + k1; omega)) hO2 hM2
  have hy1 := h1.hY.1
  have hO1 := h1.hO
  have v0 := li (n := 1) (0 : Int32) rfl (by decide) (by decide)
  have eO : d_al D2 (X + 340) = d_al D1 (X + 340) := (hO2 _ (by have := h.hz; show _ < s_sz S + k1; omega) (Or.inr (by omega))).2.2.2
  cases p with
  | error E =>
    obtain ⟨q1, rfl⟩ := hA2
    have q0 : codeP [eB, eA, eS] (.error E : Except String Int32) = cod [eB, eA, eS] E := rfl
    rw [q0]
    refine X_run rfl trivial ?_
    refine X_cV (args := []) rfl (by decide) hy1.1 rfl rfl (Nat.le_of_ble_eq_true rfl) (c_thrown h1.hY) ?_
    rintro _ _ ⟨rfl, rfl⟩
    refine X_run rfl trivial ?_
    refine X_icmp_eq rfl (fun _ => ?_) (fun z => absurd q1 z)
    refine X_run rfl trivial ?_
    refine X_if_ne rfl (fun _ => ?_) (fun z => absurd z (cod_ne (Nat.le_of_ble_eq_true rfl)))
    refine X_run rfl trivial ?_
    exact Eg.sub (k _ _ _ _ _ _ _ _ h1) ⟨rfl, rfl, rfl, rfl, congrArg (fun x => some (Value.int x)) (nI_plus i 6).symm, trivial⟩
  | ok r =>
    obtain ⟨q1, rfl⟩ := hA2
    have q0 : codeP [eB, eA, eS] (.ok r : Except String Int32) = 0 := rfl
    rw [q0]
    have hr2 := hr1 r rfl
    refine X_run rfl trivial ?_
    refine X_cV (args := []) rfl (by decide) hy1.1 rfl rfl (Nat.le_of_ble_eq_true rfl) (c_thrown h1.hY) ?_
    rintro _ _ ⟨rfl, rfl⟩
    refine X_run rfl trivial ?_
    refine X_icmp_eq rfl (fun _ => ?_) (fun z => absurd q1 z)
    refine X_run rfl trivial ?_
    refine X_if_ne rfl (fun z => absurd rfl z) (fun _ => ?_)
    refine X_run rfl ?_ ?_
    · simp [md_s, md_w, rget, r_a, r_b, r_c, r_i, r_l, hO1, v0, eO, hr2, lg_self]
    try simp only [md_s, md_w, rget_some, r_a, r_b, r_c, r_i, r_l, r_nx, r_pc, Nat.reduceEqDiff, false_and, if_false, hO1, v0, eO, hr2, lg_self]
    refine X_if_eq rfl (fun _ => ?_) (fun z => absurd rfl z)
    refine X_run rfl trivial ?_
    exact Eg.sub (k _ _ _ _ _ _ _ _ h1) ⟨rfl, rfl, rfl, rfl, congrArg (fun x => some (Value.int x)) (nI_plus i 6).symm, trivial⟩
set_option maxRecDepth 20000 in
theorem Bk_putOff {a1 a2 : Int32} {p : Except String Int32} {K1 : KT} {T1 P1 : List Nat} {e1 : Int32} {c1 : Nat} (h : LawS g sc N S D X A A2 K T P e c) (hi : i + 6 ≤ N) (ha1 : sc (i + 1) = a1) (ha2 : sc (i + 2) = a2) (hL : ∀ E, p = .error E → E ∈ [eB, eA, eS]) (hI : InvK K1 c1) (hcls : EvX g (d + 10) mX9_putOff 1 6 [.ref X, .int a1, .int a2] (md S D) (CalP S D X K1 T1 P1 e1 p) (CalX S D X K1 T1 P1 e1 p)) (href : ∀ k1 D1, OutX X D D1 → EvM g (d + 11) mX11_putOff 0 0 [.ref (X + 292), .int a1, .int a2] (md (gz S k1) D1) (RfP (gz S k1) D1 (X + 292) A 0 K1 T1 P1 e1 [eB, eA, eS] p)) (k : NxT g (d + 12) bc bs Z sc N i X c1) : Eg g (d + 12) mL_law (bc + 0 + 1) (bs + 0 + 6) Z 1082 (LL g X i) [] (md S D) := by
  obtain ⟨p1, p2, p3, p4, p5⟩ := nI_p i
  obtain ⟨⟨x1, y1⟩, z1⟩ := h.at hi 1 (by decide)
  obtain ⟨⟨x2, y2⟩, z2⟩ := h.at hi 2 (by decide)
  rw [ha1] at z1
  rw [ha2] at z2
  obtain ⟨s1, s2, s3⟩ := h.hS
  have hW := h.hI.1
  have hWK := hI.1
  have hy := h.hY.1
  have hO := h.hO
  refine X_run rfl ?_ ?_
  · simp [md_s, md_w, rget, r_a, r_b, r_c, r_i, r_l, p1, x1, y1, z1, p2, x2, y2, z2, s1, s2]
  try simp only [md_s, md_w, rget_some, r_a, r_b, r_c, r_i, r_l, r_nx, r_pc, Nat.reduceEqDiff, false_and, if_false, p1, x1, y1, z1, p2, x2, y2, z2, s1, s2]
  refine X_callW (bc1 := 1) (bs1 := 6) (args := [.ref X, .int a1, .int a2, .ref (X + 340)]) rfl (by decide) rfl rfl (Nat.le_of_ble_eq_true rfl) (W_putOff h.hX.1.1 hWK hO hL hcls) ?_
  rintro _ _ ⟨D1, k1, rfl, rfl, hd1, ho1, hr1⟩
  have o1 := h.outS ho1
  obtain ⟨g1, g2, g3, g4⟩ := @gz_s S k1
  refine X_run rfl ?_ ?_
  · simp [md_s, md_w, rget, r_a, r_b, r_c, r_i, r_l, p1, x1, y1, z1, p2, x2, y2, z2, s1, s2, g1, g2, o1]
  try simp only [md_s, md_w, rget_some, r_a, r_b, r_c, r_i, r_l, r_nx, r_pc, Nat.reduceEqDiff, false_and, if_false, p1, x1, y1, z1, p2, x2, y2, z2, s1, s2, g1, g2, o1]
  refine X_callV (bc1 := 0) (bs1 := 0) (args := [.int a1, .int a2]) rfl (by decide) hy.1 rfl rfl (Nat.le_of_ble_eq_true rfl) (href k1 D1 ho1) ?_
  rintro v _ ⟨S2, D2, k2, hk2, rfl, hg2, hO2, hM2, hA2⟩
  have h1 := h.step hI hd1 ho1 hg2.y (MoL.gro (S := gz S k1) h.hY hg2 (by have := h.hz; show _ ≤ s_sz S + k1; omega)) hO2 hM2
  have hy1 := h1.hY.1
  have hO1 := h1.hO
  have v0 := li (n := 1) (0 : Int32) rfl (by decide) (by decide)
  have eO : d_al D2 (X + 340) = d_al D1 (X + 340) := (hO2 _ (by have := h.hz; show _ < s_sz S + k1; omega) (Or.inr (by omega))).2.2.2
  cases p with
  | error E =>
    obtain ⟨q1, rfl⟩ := hA2
    have q0 : codeP [eB, eA, eS] (.error E : Except String Int32) = cod [eB, eA, eS] E := rfl
    rw [q0]
    refine X_run rfl trivial ?_
    refine X_cV (args := []) rfl (by decide) hy1.1 rfl rfl (Nat.le_of_ble_eq_true rfl) (c_thrown h1.hY) ?_
    rintro _ _ ⟨rfl, rfl⟩
    refine X_run rfl trivial ?_
    refine X_icmp_eq rfl (fun _ => ?_) (fun z => absurd q1 z)
    refine X_run rfl trivial ?_
    refine X_if_ne rfl (fun _ => ?_) (fun z => absurd z (cod_ne (Nat.le_of_ble_eq_true rfl)))
    refine X_run rfl trivial ?_
    exact Eg.sub (k _ _ _ _ _ _ _ _ h1) ⟨rfl, rfl, rfl, rfl, congrArg (fun x => some (Value.int x)) (nI_plus i 6).symm, trivial⟩
  | ok r =>
    obtain ⟨q1, rfl⟩ := hA2
    have q0 : codeP [eB, eA, eS] (.ok r : Except String Int32) = 0 := rfl
    rw [q0]
    have hr2 := hr1 r rfl
    refine X_run rfl trivial ?_
    refine X_cV (args := []) rfl (by decide) hy1.1 rfl rfl (Nat.le_of_ble_eq_true rfl) (c_thrown h1.hY) ?_
    rintro _ _ ⟨rfl, rfl⟩
    refine X_run rfl trivial ?_
    refine X_icmp_eq rfl (fun _ => ?_) (fun z => absurd q1 z)
    refine X_run rfl trivial ?_
    refine X_if_ne rfl (fun z => absurd rfl z) (fun _ => ?_)
    refine X_run rfl ?_ ?_
    · simp [md_s, md_w, rget, r_a, r_b, r_c, r_i, r_l, hO1, v0, eO, hr2, lg_self]
    try simp only [md_s, md_w, rget_some, r_a, r_b, r_c, r_i, r_l, r_nx, r_pc, Nat.reduceEqDiff, false_and, if_false, hO1, v0, eO, hr2, lg_self]
    refine X_if_eq rfl (fun _ => ?_) (fun z => absurd rfl z)
    refine X_run rfl trivial ?_
    exact Eg.sub (k _ _ _ _ _ _ _ _ h1) ⟨rfl, rfl, rfl, rfl, congrArg (fun x => some (Value.int x)) (nI_plus i 6).symm, trivial⟩
set_option maxRecDepth 20000 in
theorem Bk_owes {a1 a2 a3 : Int32} {p : Except String Int32} {K1 : KT} {T1 P1 : List Nat} {e1 : Int32} {c1 : Nat} (h : LawS g sc N S D X A A2 K T P e c) (hi : i + 6 ≤ N) (ha1 : sc (i + 1) = a1) (ha2 : sc (i + 2) = a2) (ha3 : sc (i + 3) = a3) (hL : ∀ E, p = .error E → E ∈ [eB]) (hI : InvK K1 c1) (hcls : EvX g (d + 10) mX9_owes 1 6 [.ref X, .int a1, .int a2, .int a3] (md S D) (CalP S D X K1 T1 P1 e1 p) (CalX S D X K1 T1 P1 e1 p)) (href : ∀ k1 D1, OutX X D D1 → EvM g (d + 11) mX11_owes 0 0 [.ref (X + 292), .int a1, .int a2, .int a3] (md (gz S k1) D1) (RfP (gz S k1) D1 (X + 292) A 0 K1 T1 P1 e1 [eB] p)) (k : NxT g (d + 12) bc bs Z sc N i X c1) : Eg g (d + 12) mL_law (bc + 0 + 1) (bs + 0 + 6) Z 1150 (LL g X i) [] (md S D) := by
  obtain ⟨p1, p2, p3, p4, p5⟩ := nI_p i
  obtain ⟨⟨x1, y1⟩, z1⟩ := h.at hi 1 (by decide)
  obtain ⟨⟨x2, y2⟩, z2⟩ := h.at hi 2 (by decide)
  obtain ⟨⟨x3, y3⟩, z3⟩ := h.at hi 3 (by decide)
  rw [ha1] at z1
  rw [ha2] at z2
  rw [ha3] at z3
  obtain ⟨s1, s2, s3⟩ := h.hS
  have hW := h.hI.1
  have hWK := hI.1
  have hy := h.hY.1
  have hO := h.hO
  refine X_run rfl ?_ ?_
  · simp [md_s, md_w, rget, r_a, r_b, r_c, r_i, r_l, p1, x1, y1, z1, p2, x2, y2, z2, p3, x3, y3, z3, s1, s2]
  try simp only [md_s, md_w, rget_some, r_a, r_b, r_c, r_i, r_l, r_nx, r_pc, Nat.reduceEqDiff, false_and, if_false, p1, x1, y1, z1, p2, x2, y2, z2, p3, x3, y3, z3, s1, s2]
  refine X_callW (bc1 := 1) (bs1 := 6) (args := [.ref X, .int a1, .int a2, .int a3, .ref (X + 340)]) rfl (by decide) rfl rfl (Nat.le_of_ble_eq_true rfl) (W_owes h.hX.1.1 hWK hO hL hcls) ?_
  rintro _ _ ⟨D1, k1, rfl, rfl, hd1, ho1, hr1⟩
  have o1 := h.outS ho1
  obtain ⟨g1, g2, g3, g4⟩ := @gz_s S k1
  refine X_run rfl ?_ ?_
  · simp [md_s, md_w, rget, r_a, r_b, r_c, r_i, r_l, p1, x1, y1, z1, p2, x2, y2, z2, p3, x3, y3, z3, s1, s2, g1, g2, o1]
  try simp only [md_s, md_w, rget_some, r_a, r_b, r_c, r_i, r_l, r_nx, r_pc, Nat.reduceEqDiff, false_and, if_false, p1, x1, y1, z1, p2, x2, y2, z2, p3, x3, y3, z3, s1, s2, g1, g2, o1]
  refine X_callV (bc1 := 0) (bs1 := 0) (args := [.int a1, .int a2, .int a3]) rfl (by decide) hy.1 rfl rfl (Nat.le_of_ble_eq_true rfl) (href k1 D1 ho1) ?_
  rintro v _ ⟨S2, D2, k2, hk2, rfl, hg2, hO2, hM2, hA2⟩
  have h1 := h.step hI hd1 ho1 hg2.y (MoL.gro (S := gz S k1) h.hY hg2 (by have := h.hz; show _ ≤ s_sz S + k1; omega)) hO2 hM2
  have hy1 := h1.hY.1
  have hO1 := h1.hO
  have v0 := li (n := 1) (0 : Int32) rfl (by decide) (by decide)
  have eO : d_al D2 (X + 340) = d_al D1 (X + 340) := (hO2 _ (by have := h.hz; show _ < s_sz S + k1; omega) (Or.inr (by omega))).2.2.2
  cases p with
  | error E =>
    obtain ⟨q1, rfl⟩ := hA2
    have q0 : codeP [eB] (.error E : Except String Int32) = cod [eB] E := rfl
    rw [q0]
    refine X_run rfl trivial ?_
    refine X_cV (args := []) rfl (by decide) hy1.1 rfl rfl (Nat.le_of_ble_eq_true rfl) (c_thrown h1.hY) ?_
    rintro _ _ ⟨rfl, rfl⟩
    refine X_run rfl trivial ?_
    refine X_icmp_eq rfl (fun _ => ?_) (fun z => absurd q1 z)
    refine X_run rfl trivial ?_
    refine X_if_ne rfl (fun _ => ?_) (fun z => absurd z (cod_ne (Nat.le_of_ble_eq_true rfl)))
    refine X_run rfl trivial ?_
    exact Eg.sub (k _ _ _ _ _ _ _ _ h1) ⟨rfl, rfl, rfl, rfl, congrArg (fun x => some (Value.int x)) (nI_plus i 6).symm, trivial⟩
  | ok r =>
    obtain ⟨q1, rfl⟩ := hA2
    have q0 : codeP [eB] (.ok r : Except String Int32) = 0 := rfl
    rw [q0]
    have hr2 := hr1 r rfl
    refine X_run rfl trivial ?_
    refine X_cV (args := []) rfl (by decide) hy1.1 rfl rfl (Nat.le_of_ble_eq_true rfl) (c_thrown h1.hY) ?_
    rintro _ _ ⟨rfl, rfl⟩
    refine X_run rfl trivial ?_
    refine X_icmp_eq rfl (fun _ => ?_) (fun z => absurd q1 z)
    refine X_run rfl trivial ?_
    refine X_if_ne rfl (fun z => absurd rfl z) (fun _ => ?_)
    refine X_run rfl ?_ ?_
    · simp [md_s, md_w, rget, r_a, r_b, r_c, r_i, r_l, hO1, v0, eO, hr2, lg_self]
    try simp only [md_s, md_w, rget_some, r_a, r_b, r_c, r_i, r_l, r_nx, r_pc, Nat.reduceEqDiff, false_and, if_false, hO1, v0, eO, hr2, lg_self]
    refine X_if_eq rfl (fun _ => ?_) (fun z => absurd rfl z)
    refine X_run rfl trivial ?_
    exact Eg.sub (k _ _ _ _ _ _ _ _ h1) ⟨rfl, rfl, rfl, rfl, congrArg (fun x => some (Value.int x)) (nI_plus i 6).symm, trivial⟩
set_option maxRecDepth 20000 in
theorem Bk_pass {a1 : Int32} {p : Except String Int32} {K1 : KT} {T1 P1 : List Nat} {e1 : Int32} {c1 : Nat} (h : LawS g sc N S D X A A2 K T P e c) (hi : i + 6 ≤ N) (ha1 : sc (i + 1) = a1) (hL : ∀ E, p = .error E → E ∈ [eA]) (hI : InvK K1 c1) (hcls : EvX g (d + 10) mX9_pass 1 6 [.ref X, .int a1] (md S D) (CalP S D X K1 T1 P1 e1 p) (CalX S D X K1 T1 P1 e1 p)) (href : ∀ k1 D1, OutX X D D1 → EvM g (d + 11) mX11_pass 0 0 [.ref (X + 292), .int a1] (md (gz S k1) D1) (RfP (gz S k1) D1 (X + 292) A 0 K1 T1 P1 e1 [eA] p)) (k : NxT g (d + 12) bc bs Z sc N i X c1) : Eg g (d + 12) mL_law (bc + 0 + 1) (bs + 0 + 6) Z 1230 (LL g X i) [] (md S D) := by
  obtain ⟨p1, p2, p3, p4, p5⟩ := nI_p i
  obtain ⟨⟨x1, y1⟩, z1⟩ := h.at hi 1 (by decide)
  rw [ha1] at z1
  obtain ⟨s1, s2, s3⟩ := h.hS
  have hW := h.hI.1
  have hWK := hI.1
  have hy := h.hY.1
  have hO := h.hO
  refine X_run rfl ?_ ?_
  · simp [md_s, md_w, rget, r_a, r_b, r_c, r_i, r_l, p1, x1, y1, z1, s1, s2]
  try simp only [md_s, md_w, rget_some, r_a, r_b, r_c, r_i, r_l, r_nx, r_pc, Nat.reduceEqDiff, false_and, if_false, p1, x1, y1, z1, s1, s2]
  refine X_callW (bc1 := 1) (bs1 := 6) (args := [.ref X, .int a1, .ref (X + 340)]) rfl (by decide) rfl rfl (Nat.le_of_ble_eq_true rfl) (W_pass h.hX.1.1 hWK hO hL hcls) ?_
  rintro _ _ ⟨D1, k1, rfl, rfl, hd1, ho1, hr1⟩
  have o1 := h.outS ho1
  obtain ⟨g1, g2, g3, g4⟩ := @gz_s S k1
  refine X_run rfl ?_ ?_
  · simp [md_s, md_w, rget, r_a, r_b, r_c, r_i, r_l, p1, x1, y1, z1, s1, s2, g1, g2, o1]
  try simp only [md_s, md_w, rget_some, r_a, r_b, r_c, r_i, r_l, r_nx, r_pc, Nat.reduceEqDiff, false_and, if_false, p1, x1, y1, z1, s1, s2, g1, g2, o1]
  refine X_callV (bc1 := 0) (bs1 := 0) (args := [.int a1]) rfl (by decide) hy.1 rfl rfl (Nat.le_of_ble_eq_true rfl) (href k1 D1 ho1) ?_
  rintro v _ ⟨S2, D2, k2, hk2, rfl, hg2, hO2, hM2, hA2⟩
  have h1 := h.step hI hd1 ho1 hg2.y (MoL.gro (S := gz S k1) h.hY hg2 (by have := h.hz; show _ ≤ s_sz S + k1; omega)) hO2 hM2
  have hy1 := h1.hY.1
  have hO1 := h1.hO
  have v0 := li (n := 1) (0 : Int32) rfl (by decide) (by decide)
  have eO : d_al D2 (X + 340) = d_al D1 (X + 340) := (hO2 _ (by have := h.hz; show _ < s_sz S + k1; omega) (Or.inr (by omega))).2.2.2
  cases p with
  | error E =>
    obtain ⟨q1, rfl⟩ := hA2
    have q0 : codeP [eA] (.error E : Except String Int32) = cod [eA] E := rfl
    rw [q0]
    refine X_run rfl trivial ?_
    refine X_cV (args := []) rfl (by decide) hy1.1 rfl rfl (Nat.le_of_ble_eq_true rfl) (c_thrown h1.hY) ?_
    rintro _ _ ⟨rfl, rfl⟩
    refine X_run rfl trivial ?_
    refine X_icmp_eq rfl (fun _ => ?_) (fun z => absurd q1 z)
    refine X_run rfl trivial ?_
    refine X_if_ne rfl (fun _ => ?_) (fun z => absurd z (cod_ne (Nat.le_of_ble_eq_true rfl)))
    refine X_run rfl trivial ?_
    exact Eg.sub (k _ _ _ _ _ _ _ _ h1) ⟨rfl, rfl, rfl, rfl, congrArg (fun x => some (Value.int x)) (nI_plus i 6).symm, trivial⟩
  | ok r =>
    obtain ⟨q1, rfl⟩ := hA2
    have q0 : codeP [eA] (.ok r : Except String Int32) = 0 := rfl
    rw [q0]
    have hr2 := hr1 r rfl
    refine X_run rfl trivial ?_
    refine X_cV (args := []) rfl (by decide) hy1.1 rfl rfl (Nat.le_of_ble_eq_true rfl) (c_thrown h1.hY) ?_
    rintro _ _ ⟨rfl, rfl⟩
    refine X_run rfl trivial ?_
    refine X_icmp_eq rfl (fun _ => ?_) (fun z => absurd q1 z)
    refine X_run rfl trivial ?_
    refine X_if_ne rfl (fun z => absurd rfl z) (fun _ => ?_)
    refine X_run rfl ?_ ?_
    · simp [md_s, md_w, rget, r_a, r_b, r_c, r_i, r_l, hO1, v0, eO, hr2, lg_self]
    try simp only [md_s, md_w, rget_some, r_a, r_b, r_c, r_i, r_l, r_nx, r_pc, Nat.reduceEqDiff, false_and, if_false, hO1, v0, eO, hr2, lg_self]
    refine X_if_eq rfl (fun _ => ?_) (fun z => absurd rfl z)
    refine X_run rfl trivial ?_
    exact Eg.sub (k _ _ _ _ _ _ _ _ h1) ⟨rfl, rfl, rfl, rfl, congrArg (fun x => some (Value.int x)) (nI_plus i 6).symm, trivial⟩
set_option maxRecDepth 20000 in
theorem Bk_run {a1 : Int32} {p : Except String Int32} {K1 : KT} {T1 P1 : List Nat} {e1 : Int32} {c1 : Nat} (h : LawS g sc N S D X A A2 K T P e c) (hi : i + 6 ≤ N) (ha1 : sc (i + 1) = a1) (hL : ∀ E, p = .error E → E ∈ [eB]) (hI : InvK K1 c1) (hcls : EvX g (d + 10) mX9_run 1 6 [.ref X, .int a1] (md S D) (CalP S D X K1 T1 P1 e1 p) (CalX S D X K1 T1 P1 e1 p)) (href : ∀ k1 D1, OutX X D D1 → EvM g (d + 11) mX11_run 0 0 [.ref (X + 292), .int a1] (md (gz S k1) D1) (RfP (gz S k1) D1 (X + 292) A 0 K1 T1 P1 e1 [eB] p)) (k : NxT g (d + 12) bc bs Z sc N i X c1) : Eg g (d + 12) mL_law (bc + 0 + 1) (bs + 0 + 6) Z 1286 (LL g X i) [] (md S D) := by
  obtain ⟨p1, p2, p3, p4, p5⟩ := nI_p i
  obtain ⟨⟨x1, y1⟩, z1⟩ := h.at hi 1 (by decide)
  rw [ha1] at z1
  obtain ⟨s1, s2, s3⟩ := h.hS
  have hW := h.hI.1
  have hWK := hI.1
  have hy := h.hY.1
  have hO := h.hO
  refine X_run rfl ?_ ?_
  · simp [md_s, md_w, rget, r_a, r_b, r_c, r_i, r_l, p1, x1, y1, z1, s1, s2]
  try simp only [md_s, md_w, rget_some, r_a, r_b, r_c, r_i, r_l, r_nx, r_pc, Nat.reduceEqDiff, false_and, if_false, p1, x1, y1, z1, s1, s2]
  refine X_callW (bc1 := 1) (bs1 := 6) (args := [.ref X, .int a1, .ref (X + 340)]) rfl (by decide) rfl rfl (Nat.le_of_ble_eq_true rfl) (W_run h.hX.1.1 hWK hO hL hcls) ?_
  rintro _ _ ⟨D1, k1, rfl, rfl, hd1, ho1, hr1⟩
  have o1 := h.outS ho1
  obtain ⟨g1, g2, g3, g4⟩ := @gz_s S k1
  refine X_run rfl ?_ ?_
  · simp [md_s, md_w, rget, r_a, r_b, r_c, r_i, r_l, p1, x1, y1, z1, s1, s2, g1, g2, o1]
  try simp only [md_s, md_w, rget_some, r_a, r_b, r_c, r_i, r_l, r_nx, r_pc, Nat.reduceEqDiff, false_and, if_false, p1, x1, y1, z1, s1, s2, g1, g2, o1]
  refine X_callV (bc1 := 0) (bs1 := 0) (args := [.int a1]) rfl (by decide) hy.1 rfl rfl (Nat.le_of_ble_eq_true rfl) (href k1 D1 ho1) ?_
  rintro v _ ⟨S2, D2, k2, hk2, rfl, hg2, hO2, hM2, hA2⟩
  have h1 := h.step hI hd1 ho1 hg2.y (MoL.gro (S := gz S k1) h.hY hg2 (by have := h.hz; show _ ≤ s_sz S + k1; omega)) hO2 hM2
  have hy1 := h1.hY.1
  have hO1 := h1.hO
  have v0 := li (n := 1) (0 : Int32) rfl (by decide) (by decide)
  have eO : d_al D2 (X + 340) = d_al D1 (X + 340) := (hO2 _ (by have := h.hz; show _ < s_sz S + k1; omega) (Or.inr (by omega))).2.2.2
  cases p with
  | error E =>
    obtain ⟨q1, rfl⟩ := hA2
    have q0 : codeP [eB] (.error E : Except String Int32) = cod [eB] E := rfl
    rw [q0]
    refine X_run rfl trivial ?_
    refine X_cV (args := []) rfl (by decide) hy1.1 rfl rfl (Nat.le_of_ble_eq_true rfl) (c_thrown h1.hY) ?_
    rintro _ _ ⟨rfl, rfl⟩
    refine X_run rfl trivial ?_
    refine X_icmp_eq rfl (fun _ => ?_) (fun z => absurd q1 z)
    refine X_run rfl trivial ?_
    refine X_if_ne rfl (fun _ => ?_) (fun z => absurd z (cod_ne (Nat.le_of_ble_eq_true rfl)))
    refine X_run rfl trivial ?_
    exact Eg.sub (k _ _ _ _ _ _ _ _ h1) ⟨rfl, rfl, rfl, rfl, congrArg (fun x => some (Value.int x)) (nI_plus i 6).symm, trivial⟩
  | ok r =>
    obtain ⟨q1, rfl⟩ := hA2
    have q0 : codeP [eB] (.ok r : Except String Int32) = 0 := rfl
    rw [q0]
    have hr2 := hr1 r rfl
    refine X_run rfl trivial ?_
    refine X_cV (args := []) rfl (by decide) hy1.1 rfl rfl (Nat.le_of_ble_eq_true rfl) (c_thrown h1.hY) ?_
    rintro _ _ ⟨rfl, rfl⟩
    refine X_run rfl trivial ?_
    refine X_icmp_eq rfl (fun _ => ?_) (fun z => absurd q1 z)
    refine X_run rfl trivial ?_
    refine X_if_ne rfl (fun z => absurd rfl z) (fun _ => ?_)
    refine X_run rfl ?_ ?_
    · simp [md_s, md_w, rget, r_a, r_b, r_c, r_i, r_l, hO1, v0, eO, hr2, lg_self]
    try simp only [md_s, md_w, rget_some, r_a, r_b, r_c, r_i, r_l, r_nx, r_pc, Nat.reduceEqDiff, false_and, if_false, hO1, v0, eO, hr2, lg_self]
    refine X_if_eq rfl (fun _ => ?_) (fun z => absurd rfl z)
    refine X_run rfl trivial ?_
    exact Eg.sub (k _ _ _ _ _ _ _ _ h1) ⟨rfl, rfl, rfl, rfl, congrArg (fun x => some (Value.int x)) (nI_plus i 6).symm, trivial⟩
set_option maxRecDepth 20000 in
theorem Bk_settles {a1 : Int32} {p : Except String Int32} {K1 : KT} {T1 P1 : List Nat} {e1 : Int32} {c1 : Nat} (h : LawS g sc N S D X A A2 K T P e c) (hi : i + 6 ≤ N) (ha1 : sc (i + 1) = a1) (hL : ∀ E, p = .error E → E ∈ [eB]) (hb : ∀ r, p = .ok r → r = 0 ∨ r = 1) (hI : InvK K1 c1) (hcls : EvX g (d + 10) mX9_settles 1 6 [.ref X, .int a1] (md S D) (CalP S D X K1 T1 P1 e1 p) (CalX S D X K1 T1 P1 e1 p)) (href : ∀ k1 D1, OutX X D D1 → EvM g (d + 11) mX11_settles 0 0 [.ref (X + 292), .int a1] (md (gz S k1) D1) (RfP (gz S k1) D1 (X + 292) A 0 K1 T1 P1 e1 [eB] p)) (k : NxT g (d + 12) bc bs Z sc N i X c1) : Eg g (d + 12) mL_law (bc + 0 + 1) (bs + 0 + 6) Z 1342 (LL g X i) [] (md S D) := by
  obtain ⟨p1, p2, p3, p4, p5⟩ := nI_p i
  obtain ⟨⟨x1, y1⟩, z1⟩ := h.at hi 1 (by decide)
  rw [ha1] at z1
  obtain ⟨s1, s2, s3⟩ := h.hS
  have hW := h.hI.1
  have hWK := hI.1
  have hy := h.hY.1
  have hO := h.hO
  refine X_run rfl ?_ ?_
  · simp [md_s, md_w, rget, r_a, r_b, r_c, r_i, r_l, p1, x1, y1, z1, s1, s2]
  try simp only [md_s, md_w, rget_some, r_a, r_b, r_c, r_i, r_l, r_nx, r_pc, Nat.reduceEqDiff, false_and, if_false, p1, x1, y1, z1, s1, s2]
  refine X_callW (bc1 := 1) (bs1 := 6) (args := [.ref X, .int a1, .ref (X + 340)]) rfl (by decide) rfl rfl (Nat.le_of_ble_eq_true rfl) (W_settles h.hX.1.1 hWK hO hL hb hcls) ?_
  rintro _ _ ⟨D1, k1, rfl, rfl, hd1, ho1, hr1⟩
  have o1 := h.outS ho1
  obtain ⟨g1, g2, g3, g4⟩ := @gz_s S k1
  refine X_run rfl ?_ ?_
  · simp [md_s, md_w, rget, r_a, r_b, r_c, r_i, r_l, p1, x1, y1, z1, s1, s2, g1, g2, o1]
  try simp only [md_s, md_w, rget_some, r_a, r_b, r_c, r_i, r_l, r_nx, r_pc, Nat.reduceEqDiff, false_and, if_false, p1, x1, y1, z1, s1, s2, g1, g2, o1]
  refine X_callV (bc1 := 0) (bs1 := 0) (args := [.int a1]) rfl (by decide) hy.1 rfl rfl (Nat.le_of_ble_eq_true rfl) (href k1 D1 ho1) ?_
  rintro v _ ⟨S2, D2, k2, hk2, rfl, hg2, hO2, hM2, hA2⟩
  have h1 := h.step hI hd1 ho1 hg2.y (MoL.gro (S := gz S k1) h.hY hg2 (by have := h.hz; show _ ≤ s_sz S + k1; omega)) hO2 hM2
  have hy1 := h1.hY.1
  have hO1 := h1.hO
  have v0 := li (n := 1) (0 : Int32) rfl (by decide) (by decide)
  have eO : d_al D2 (X + 340) = d_al D1 (X + 340) := (hO2 _ (by have := h.hz; show _ < s_sz S + k1; omega) (Or.inr (by omega))).2.2.2
  cases p with
  | error E =>
    obtain ⟨q1, rfl⟩ := hA2
    have q0 : codeP [eB] (.error E : Except String Int32) = cod [eB] E := rfl
    rw [q0]
    refine X_run rfl trivial ?_
    refine X_cV (args := []) rfl (by decide) hy1.1 rfl rfl (Nat.le_of_ble_eq_true rfl) (c_thrown h1.hY) ?_
    rintro _ _ ⟨rfl, rfl⟩
    refine X_run rfl trivial ?_
    refine X_icmp_eq rfl (fun _ => ?_) (fun z => absurd q1 z)
    refine X_run rfl trivial ?_
    refine X_if_ne rfl (fun _ => ?_) (fun z => absurd z (cod_ne (Nat.le_of_ble_eq_true rfl)))
    refine X_run rfl trivial ?_
    exact Eg.sub (k _ _ _ _ _ _ _ _ h1) ⟨rfl, rfl, rfl, rfl, congrArg (fun x => some (Value.int x)) (nI_plus i 6).symm, trivial⟩
  | ok r =>
    obtain ⟨q1, rfl⟩ := hA2
    have q0 : codeP [eB] (.ok r : Except String Int32) = 0 := rfl
    rw [q0]
    have hr2 := hr1 r rfl
    refine X_run rfl trivial ?_
    refine X_cV (args := []) rfl (by decide) hy1.1 rfl rfl (Nat.le_of_ble_eq_true rfl) (c_thrown h1.hY) ?_
    rintro _ _ ⟨rfl, rfl⟩
    refine X_run rfl trivial ?_
    refine X_icmp_eq rfl (fun _ => ?_) (fun z => absurd q1 z)
    refine X_run rfl trivial ?_
    refine X_if_ne rfl (fun z => absurd rfl z) (fun _ => ?_)
    rcases hb r rfl with rfl | rfl
    · refine X_run rfl ?_ ?_
      · simp [md_s, md_w, rget, r_a, r_b, r_c, r_i, r_l, hO1, v0]
      try simp only [md_s, md_w, rget_some, r_a, r_b, r_c, r_i, r_l, r_nx, r_pc, Nat.reduceEqDiff, false_and, if_false, hO1, v0]
      refine X_if_eq rfl (fun _ => ?_) (fun z => absurd rfl z)
      refine X_run rfl trivial ?_
      rw [eO, hr2]
      refine X_if_eq rfl (fun _ => ?_) (fun z => absurd (lg_self 0) z)
      refine X_run rfl trivial ?_
      exact Eg.sub (k _ _ _ _ _ _ _ _ h1) ⟨rfl, rfl, rfl, rfl, congrArg (fun x => some (Value.int x)) (nI_plus i 6).symm, trivial⟩
    · refine X_run rfl ?_ ?_
      · simp [md_s, md_w, rget, r_a, r_b, r_c, r_i, r_l, hO1, v0]
      try simp only [md_s, md_w, rget_some, r_a, r_b, r_c, r_i, r_l, r_nx, r_pc, Nat.reduceEqDiff, false_and, if_false, hO1, v0]
      refine X_if_eq rfl (fun z => absurd z (by decide)) (fun _ => ?_)
      refine X_run rfl trivial ?_
      rw [eO, hr2]
      refine X_if_eq rfl (fun _ => ?_) (fun z => absurd (lg_self 1) z)
      refine X_run rfl trivial ?_
      exact Eg.sub (k _ _ _ _ _ _ _ _ h1) ⟨rfl, rfl, rfl, rfl, congrArg (fun x => some (Value.int x)) (nI_plus i 6).symm, trivial⟩
set_option maxRecDepth 20000 in
theorem Bk_when {a1 : Int32} {p : Except String Int32} {K1 : KT} {T1 P1 : List Nat} {e1 : Int32} {c1 : Nat} (h : LawS g sc N S D X A A2 K T P e c) (hi : i + 6 ≤ N) (ha1 : sc (i + 1) = a1) (hL : ∀ E, p = .error E → E ∈ [eB]) (hI : InvK K1 c1) (hcls : EvX g (d + 10) mX9_when 1 6 [.ref X, .int a1] (md S D) (CalP S D X K1 T1 P1 e1 p) (CalX S D X K1 T1 P1 e1 p)) (href : ∀ k1 D1, OutX X D D1 → EvM g (d + 11) mX11_when 0 0 [.ref (X + 292), .int a1] (md (gz S k1) D1) (RfP (gz S k1) D1 (X + 292) A 0 K1 T1 P1 e1 [eB] p)) (k : NxT g (d + 12) bc bs Z sc N i X c1) : Eg g (d + 12) mL_law (bc + 0 + 1) (bs + 0 + 6) Z 1405 (LL g X i) [] (md S D) := by
  obtain ⟨p1, p2, p3, p4, p5⟩ := nI_p i
  obtain ⟨⟨x1, y1⟩, z1⟩ := h.at hi 1 (by decide)
  rw [ha1] at z1
  obtain ⟨s1, s2, s3⟩ := h.hS
  have hW := h.hI.1
  have hWK := hI.1
  have hy := h.hY.1
  have hO := h.hO
  refine X_run rfl ?_ ?_
  · simp [md_s, md_w, rget, r_a, r_b, r_c, r_i, r_l, p1, x1, y1, z1, s1, s2]
  try simp only [md_s, md_w, rget_some, r_a, r_b, r_c, r_i, r_l, r_nx, r_pc, Nat.reduceEqDiff, false_and, if_false, p1, x1, y1, z1, s1, s2]
  refine X_callW (bc1 := 1) (bs1 := 6) (args := [.ref X, .int a1, .ref (X + 340)]) rfl (by decide) rfl rfl (Nat.le_of_ble_eq_true rfl) (W_when h.hX.1.1 hWK hO hL hcls) ?_
  rintro _ _ ⟨D1, k1, rfl, rfl, hd1, ho1, hr1⟩
  have o1 := h.outS ho1
  obtain ⟨g1, g2, g3, g4⟩ := @gz_s S k1
  refine X_run rfl ?_ ?_
  · simp [md_s, md_w, rget, r_a, r_b, r_c, r_i, r_l, p1, x1, y1, z1, s1, s2, g1, g2, o1]
  try simp only [md_s, md_w, rget_some, r_a, r_b, r_c, r_i, r_l, r_nx, r_pc, Nat.reduceEqDiff, false_and, if_false, p1, x1, y1, z1, s1, s2, g1, g2, o1]
  refine X_callV (bc1 := 0) (bs1 := 0) (args := [.int a1]) rfl (by decide) hy.1 rfl rfl (Nat.le_of_ble_eq_true rfl) (href k1 D1 ho1) ?_
  rintro v _ ⟨S2, D2, k2, hk2, rfl, hg2, hO2, hM2, hA2⟩
  have h1 := h.step hI hd1 ho1 hg2.y (MoL.gro (S := gz S k1) h.hY hg2 (by have := h.hz; show _ ≤ s_sz S + k1; omega)) hO2 hM2
  have hy1 := h1.hY.1
  have hO1 := h1.hO
  have v0 := li (n := 1) (0 : Int32) rfl (by decide) (by decide)
  have eO : d_al D2 (X + 340) = d_al D1 (X + 340) := (hO2 _ (by have := h.hz; show _ < s_sz S + k1; omega) (Or.inr (by omega))).2.2.2
  cases p with
  | error E =>
    obtain ⟨q1, rfl⟩ := hA2
    have q0 : codeP [eB] (.error E : Except String Int32) = cod [eB] E := rfl
    rw [q0]
    refine X_run rfl trivial ?_
    refine X_cV (args := []) rfl (by decide) hy1.1 rfl rfl (Nat.le_of_ble_eq_true rfl) (c_thrown h1.hY) ?_
    rintro _ _ ⟨rfl, rfl⟩
    refine X_run rfl trivial ?_
    refine X_icmp_eq rfl (fun _ => ?_) (fun z => absurd q1 z)
    refine X_run rfl trivial ?_
    refine X_if_ne rfl (fun _ => ?_) (fun z => absurd z (cod_ne (Nat.le_of_ble_eq_true rfl)))
    refine X_run rfl trivial ?_
    exact Eg.sub (k _ _ _ _ _ _ _ _ h1) ⟨rfl, rfl, rfl, rfl, congrArg (fun x => some (Value.int x)) (nI_plus i 6).symm, trivial⟩
  | ok r =>
    obtain ⟨q1, rfl⟩ := hA2
    have q0 : codeP [eB] (.ok r : Except String Int32) = 0 := rfl
    rw [q0]
    have hr2 := hr1 r rfl
    refine X_run rfl trivial ?_
    refine X_cV (args := []) rfl (by decide) hy1.1 rfl rfl (Nat.le_of_ble_eq_true rfl) (c_thrown h1.hY) ?_
    rintro _ _ ⟨rfl, rfl⟩
    refine X_run rfl trivial ?_
    refine X_icmp_eq rfl (fun _ => ?_) (fun z => absurd q1 z)
    refine X_run rfl trivial ?_
    refine X_if_ne rfl (fun z => absurd rfl z) (fun _ => ?_)
    refine X_run rfl ?_ ?_
    · simp [md_s, md_w, rget, r_a, r_b, r_c, r_i, r_l, hO1, v0, eO, hr2, lg_self]
    try simp only [md_s, md_w, rget_some, r_a, r_b, r_c, r_i, r_l, r_nx, r_pc, Nat.reduceEqDiff, false_and, if_false, hO1, v0, eO, hr2, lg_self]
    refine X_if_eq rfl (fun _ => ?_) (fun z => absurd rfl z)
    refine X_run rfl trivial ?_
    exact Eg.sub (k _ _ _ _ _ _ _ _ h1) ⟨rfl, rfl, rfl, rfl, congrArg (fun x => some (Value.int x)) (nI_plus i 6).symm, trivial⟩
set_option maxRecDepth 20000 in
theorem Bk_frees {a1 a2 : Int32} {p : Except String Int32} {K1 : KT} {T1 P1 : List Nat} {e1 : Int32} {c1 : Nat} (h : LawS g sc N S D X A A2 K T P e c) (hi : i + 6 ≤ N) (ha1 : sc (i + 1) = a1) (ha2 : sc (i + 2) = a2) (hL : ∀ E, p = .error E → E ∈ [eB]) (hI : InvK K1 c1) (hcls : EvX g (d + 10) mX9_frees 1 6 [.ref X, .int a1, .int a2] (md S D) (CalP S D X K1 T1 P1 e1 p) (CalX S D X K1 T1 P1 e1 p)) (href : ∀ k1 D1, OutX X D D1 → EvM g (d + 11) mX11_frees 0 0 [.ref (X + 292), .int a1, .int a2] (md (gz S k1) D1) (RfP (gz S k1) D1 (X + 292) A 0 K1 T1 P1 e1 [eB] p)) (k : NxT g (d + 12) bc bs Z sc N i X c1) : Eg g (d + 12) mL_law (bc + 0 + 1) (bs + 0 + 6) Z 1461 (LL g X i) [] (md S D) := by
  obtain ⟨p1, p2, p3, p4, p5⟩ := nI_p i
  obtain ⟨⟨x1, y1⟩, z1⟩ := h.at hi 1 (by decide)
  obtain ⟨⟨x2, y2⟩, z2⟩ := h.at hi 2 (by decide)
  rw [ha1] at z1
  rw [ha2] at z2
  obtain ⟨s1, s2, s3⟩ := h.hS
  have hW := h.hI.1
  have hWK := hI.1
  have hy := h.hY.1
  have hO := h.hO
  refine X_run rfl ?_ ?_
  · simp [md_s, md_w, rget, r_a, r_b, r_c, r_i, r_l, p1, x1, y1, z1, p2, x2, y2, z2, s1, s2]
  try simp only [md_s, md_w, rget_some, r_a, r_b, r_c, r_i, r_l, r_nx, r_pc, Nat.reduceEqDiff, false_and, if_false, p1, x1, y1, z1, p2, x2, y2, z2, s1, s2]
  refine X_callW (bc1 := 1) (bs1 := 6) (args := [.ref X, .int a1, .int a2, .ref (X + 340)]) rfl (by decide) rfl rfl (Nat.le_of_ble_eq_true rfl) (W_frees h.hX.1.1 hWK hO hL hcls) ?_
  rintro _ _ ⟨D1, k1, rfl, rfl, hd1, ho1, hr1⟩
  have o1 := h.outS ho1
  obtain ⟨g1, g2, g3, g4⟩ := @gz_s S k1
  refine X_run rfl ?_ ?_
  · simp [md_s, md_w, rget, r_a, r_b, r_c, r_i, r_l, p1, x1, y1, z1, p2, x2, y2, z2, s1, s2, g1, g2, o1]
  try simp only [md_s, md_w, rget_some, r_a, r_b, r_c, r_i, r_l, r_nx, r_pc, Nat.reduceEqDiff, false_and, if_false, p1, x1, y1, z1, p2, x2, y2, z2, s1, s2, g1, g2, o1]
  refine X_callV (bc1 := 0) (bs1 := 0) (args := [.int a1, .int a2]) rfl (by decide) hy.1 rfl rfl (Nat.le_of_ble_eq_true rfl) (href k1 D1 ho1) ?_
  rintro v _ ⟨S2, D2, k2, hk2, rfl, hg2, hO2, hM2, hA2⟩
  have h1 := h.step hI hd1 ho1 hg2.y (MoL.gro (S := gz S k1) h.hY hg2 (by have := h.hz; show _ ≤ s_sz S + k1; omega)) hO2 hM2
  have hy1 := h1.hY.1
  have hO1 := h1.hO
  have v0 := li (n := 1) (0 : Int32) rfl (by decide) (by decide)
  have eO : d_al D2 (X + 340) = d_al D1 (X + 340) := (hO2 _ (by have := h.hz; show _ < s_sz S + k1; omega) (Or.inr (by omega))).2.2.2
  cases p with
  | error E =>
    obtain ⟨q1, rfl⟩ := hA2
    have q0 : codeP [eB] (.error E : Except String Int32) = cod [eB] E := rfl
    rw [q0]
    refine X_run rfl trivial ?_
    refine X_cV (args := []) rfl (by decide) hy1.1 rfl rfl (Nat.le_of_ble_eq_true rfl) (c_thrown h1.hY) ?_
    rintro _ _ ⟨rfl, rfl⟩
    refine X_run rfl trivial ?_
    refine X_icmp_eq rfl (fun _ => ?_) (fun z => absurd q1 z)
    refine X_run rfl trivial ?_
    refine X_if_ne rfl (fun _ => ?_) (fun z => absurd z (cod_ne (Nat.le_of_ble_eq_true rfl)))
    refine X_run rfl trivial ?_
    exact Eg.sub (k _ _ _ _ _ _ _ _ h1) ⟨rfl, rfl, rfl, rfl, congrArg (fun x => some (Value.int x)) (nI_plus i 6).symm, trivial⟩
  | ok r =>
    obtain ⟨q1, rfl⟩ := hA2
    have q0 : codeP [eB] (.ok r : Except String Int32) = 0 := rfl
    rw [q0]
    have hr2 := hr1 r rfl
    refine X_run rfl trivial ?_
    refine X_cV (args := []) rfl (by decide) hy1.1 rfl rfl (Nat.le_of_ble_eq_true rfl) (c_thrown h1.hY) ?_
    rintro _ _ ⟨rfl, rfl⟩
    refine X_run rfl trivial ?_
    refine X_icmp_eq rfl (fun _ => ?_) (fun z => absurd q1 z)
    refine X_run rfl trivial ?_
    refine X_if_ne rfl (fun z => absurd rfl z) (fun _ => ?_)
    refine X_run rfl ?_ ?_
    · simp [md_s, md_w, rget, r_a, r_b, r_c, r_i, r_l, hO1, v0, eO, hr2, lg_self]
    try simp only [md_s, md_w, rget_some, r_a, r_b, r_c, r_i, r_l, r_nx, r_pc, Nat.reduceEqDiff, false_and, if_false, hO1, v0, eO, hr2, lg_self]
    refine X_if_eq rfl (fun _ => ?_) (fun z => absurd rfl z)
    refine X_run rfl trivial ?_
    exact Eg.sub (k _ _ _ _ _ _ _ _ h1) ⟨rfl, rfl, rfl, rfl, congrArg (fun x => some (Value.int x)) (nI_plus i 6).symm, trivial⟩
set_option maxRecDepth 20000 in
theorem Bk_advise {a1 a2 : Int32} {p : Except String Int32} {K1 : KT} {T1 P1 : List Nat} {e1 : Int32} {c1 : Nat} (h : LawS g sc N S D X A A2 K T P e c) (hi : i + 6 ≤ N) (ha1 : sc (i + 1) = a1) (ha2 : sc (i + 2) = a2) (hL : ∀ E, p = .error E → E ∈ [eB, eA]) (hI : InvK K1 c1) (hcls : EvX g (d + 10) mX9_advise 1 6 [.ref X, .int a1, .int a2] (md S D) (CalP S D X K1 T1 P1 e1 p) (CalX S D X K1 T1 P1 e1 p)) (href : ∀ k1 D1, OutX X D D1 → EvM g (d + 11) mX11_advise 0 0 [.ref (X + 292), .int a1, .int a2] (md (gz S k1) D1) (RfP (gz S k1) D1 (X + 292) A 0 K1 T1 P1 e1 [eB, eA] p)) (k : NxT g (d + 12) bc bs Z sc N i X c1) : Eg g (d + 12) mL_law (bc + 0 + 1) (bs + 0 + 6) Z 1529 (LL g X i) [] (md S D) := by
  obtain ⟨p1, p2, p3, p4, p5⟩ := nI_p i
  obtain ⟨⟨x1, y1⟩, z1⟩ := h.at hi 1 (by decide)
  obtain ⟨⟨x2, y2⟩, z2⟩ := h.at hi 2 (by decide)
  rw [ha1] at z1
  rw [ha2] at z2
  obtain ⟨s1, s2, s3⟩ := h.hS
  have hW := h.hI.1
  have hWK := hI.1
  have hy := h.hY.1
  have hO := h.hO
  refine X_run rfl ?_ ?_
  · simp [md_s, md_w, rget, r_a, r_b, r_c, r_i, r_l, p1, x1, y1, z1, p2, x2, y2, z2, s1, s2]
  try simp only [md_s, md_w, rget_some, r_a, r_b, r_c, r_i, r_l, r_nx, r_pc, Nat.reduceEqDiff, false_and, if_false, p1, x1, y1, z1, p2, x2, y2, z2, s1, s2]
  refine X_callW (bc1 := 1) (bs1 := 6) (args := [.ref X, .int a1, .int a2, .ref (X + 340)]) rfl (by decide) rfl rfl (Nat.le_of_ble_eq_true rfl) (W_advise h.hX.1.1 hWK hO hL hcls) ?_
  rintro _ _ ⟨D1, k1, rfl, rfl, hd1, ho1, hr1⟩
  have o1 := h.outS ho1
  obtain ⟨g1, g2, g3, g4⟩ := @gz_s S k1
  refine X_run rfl ?_ ?_
  · simp [md_s, md_w, rget, r_a, r_b, r_c, r_i, r_l, p1, x1, y1, z1, p2, x2, y2, z2, s1, s2, g1, g2, o1]
  try simp only [md_s, md_w, rget_some, r_a, r_b, r_c, r_i, r_l, r_nx, r_pc, Nat.reduceEqDiff, false_and, if_false, p1, x1, y1, z1, p2, x2, y2, z2, s1, s2, g1, g2, o1]
  refine X_callV (bc1 := 0) (bs1 := 0) (args := [.int a1, .int a2]) rfl (by decide) hy.1 rfl rfl (Nat.le_of_ble_eq_true rfl) (href k1 D1 ho1) ?_
  rintro v _ ⟨S2, D2, k2, hk2, rfl, hg2, hO2, hM2, hA2⟩
  have h1 := h.step hI hd1 ho1 hg2.y (MoL.gro (S := gz S k1) h.hY hg2 (by have := h.hz; show _ ≤ s_sz S + k1; omega)) hO2 hM2
  have hy1 := h1.hY.1
  have hO1 := h1.hO
  have v0 := li (n := 1) (0 : Int32) rfl (by decide) (by decide)
  have eO : d_al D2 (X + 340) = d_al D1 (X + 340) := (hO2 _ (by have := h.hz; show _ < s_sz S + k1; omega) (Or.inr (by omega))).2.2.2
  cases p with
  | error E =>
    obtain ⟨q1, rfl⟩ := hA2
    have q0 : codeP [eB, eA] (.error E : Except String Int32) = cod [eB, eA] E := rfl
    rw [q0]
    refine X_run rfl trivial ?_
    refine X_cV (args := []) rfl (by decide) hy1.1 rfl rfl (Nat.le_of_ble_eq_true rfl) (c_thrown h1.hY) ?_
    rintro _ _ ⟨rfl, rfl⟩
    refine X_run rfl trivial ?_
    refine X_icmp_eq rfl (fun _ => ?_) (fun z => absurd q1 z)
    refine X_run rfl trivial ?_
    refine X_if_ne rfl (fun _ => ?_) (fun z => absurd z (cod_ne (Nat.le_of_ble_eq_true rfl)))
    refine X_run rfl trivial ?_
    exact Eg.sub (k _ _ _ _ _ _ _ _ h1) ⟨rfl, rfl, rfl, rfl, congrArg (fun x => some (Value.int x)) (nI_plus i 6).symm, trivial⟩
  | ok r =>
    obtain ⟨q1, rfl⟩ := hA2
    have q0 : codeP [eB, eA] (.ok r : Except String Int32) = 0 := rfl
    rw [q0]
    have hr2 := hr1 r rfl
    refine X_run rfl trivial ?_
    refine X_cV (args := []) rfl (by decide) hy1.1 rfl rfl (Nat.le_of_ble_eq_true rfl) (c_thrown h1.hY) ?_
    rintro _ _ ⟨rfl, rfl⟩
    refine X_run rfl trivial ?_
    refine X_icmp_eq rfl (fun _ => ?_) (fun z => absurd q1 z)
    refine X_run rfl trivial ?_
    refine X_if_ne rfl (fun z => absurd rfl z) (fun _ => ?_)
    refine X_run rfl ?_ ?_
    · simp [md_s, md_w, rget, r_a, r_b, r_c, r_i, r_l, hO1, v0, eO, hr2, lg_self]
    try simp only [md_s, md_w, rget_some, r_a, r_b, r_c, r_i, r_l, r_nx, r_pc, Nat.reduceEqDiff, false_and, if_false, hO1, v0, eO, hr2, lg_self]
    refine X_if_eq rfl (fun _ => ?_) (fun z => absurd rfl z)
    refine X_run rfl trivial ?_
    exact Eg.sub (k _ _ _ _ _ _ _ _ h1) ⟨rfl, rfl, rfl, rfl, congrArg (fun x => some (Value.int x)) (nI_plus i 6).symm, trivial⟩
set_option maxRecDepth 20000 in
theorem Bk_ring {a1 : Int32} {p : Except String Int32} {K1 : KT} {T1 P1 : List Nat} {e1 : Int32} {c1 : Nat} (h : LawS g sc N S D X A A2 K T P e c) (hi : i + 6 ≤ N) (ha1 : sc (i + 1) = a1) (hL : ∀ E, p = .error E → E ∈ [eB]) (hI : InvK K1 c1) (hcls : EvX g (d + 10) mX9_ring 1 6 [.ref X, .int a1] (md S D) (CalP S D X K1 T1 P1 e1 p) (CalX S D X K1 T1 P1 e1 p)) (href : ∀ k1 D1, OutX X D D1 → EvM g (d + 11) mX11_ring 0 0 [.ref (X + 292), .int a1] (md (gz S k1) D1) (RfP (gz S k1) D1 (X + 292) A 0 K1 T1 P1 e1 [eB] p)) (k : NxT g (d + 12) bc bs Z sc N i X c1) : Eg g (d + 12) mL_law (bc + 0 + 1) (bs + 0 + 6) Z 1597 (LL g X i) [] (md S D) := by
  obtain ⟨p1, p2, p3, p4, p5⟩ := nI_p i
  obtain ⟨⟨x1, y1⟩, z1⟩ := h.at hi 1 (by decide)
  rw [ha1] at z1
  obtain ⟨s1, s2, s3⟩ := h.hS
  have hW := h.hI.1
  have hWK := hI.1
  have hy := h.hY.1
  have hO := h.hO
  refine X_run rfl ?_ ?_
  · simp [md_s, md_w, rget, r_a, r_b, r_c, r_i, r_l, p1, x1, y1, z1, s1, s2]
  try simp only [md_s, md_w, rget_some, r_a, r_b, r_c, r_i, r_l, r_nx, r_pc, Nat.reduceEqDiff, false_and, if_false, p1, x1, y1, z1, s1, s2]
  refine X_callW (bc1 := 1) (bs1 := 6) (args := [.ref X, .int a1, .ref (X + 340)]) rfl (by decide) rfl rfl (Nat.le_of_ble_eq_true rfl) (W_ring h.hX.1.1 hWK hO hL hcls) ?_
  rintro _ _ ⟨D1, k1, rfl, rfl, hd1, ho1, hr1⟩
  have o1 := h.outS ho1
  obtain ⟨g1, g2, g3, g4⟩ := @gz_s S k1
  refine X_run rfl ?_ ?_
  · simp [md_s, md_w, rget, r_a, r_b, r_c, r_i, r_l, p1, x1, y1, z1, s1, s2, g1, g2, o1]
  try simp only [md_s, md_w, rget_some, r_a, r_b, r_c, r_i, r_l, r_nx, r_pc, Nat.reduceEqDiff, false_and, if_false, p1, x1, y1, z1, s1, s2, g1, g2, o1]
  refine X_callV (bc1 := 0) (bs1 := 0) (args := [.int a1]) rfl (by decide) hy.1 rfl rfl (Nat.le_of_ble_eq_true rfl) (href k1 D1 ho1) ?_
  rintro v _ ⟨S2, D2, k2, hk2, rfl, hg2, hO2, hM2, hA2⟩
  have h1 := h.step hI hd1 ho1 hg2.y (MoL.gro (S := gz S k1) h.hY hg2 (by have := h.hz; show _ ≤ s_sz S + k1; omega)) hO2 hM2
  have hy1 := h1.hY.1
  have hO1 := h1.hO
  have v0 := li (n := 1) (0 : Int32) rfl (by decide) (by decide)
  have eO : d_al D2 (X + 340) = d_al D1 (X + 340) := (hO2 _ (by have := h.hz; show _ < s_sz S + k1; omega) (Or.inr (by omega))).2.2.2
  cases p with
  | error E =>
    obtain ⟨q1, rfl⟩ := hA2
    have q0 : codeP [eB] (.error E : Except String Int32) = cod [eB] E := rfl
    rw [q0]
    refine X_run rfl trivial ?_
    refine X_cV (args := []) rfl (by decide) hy1.1 rfl rfl (Nat.le_of_ble_eq_true rfl) (c_thrown h1.hY) ?_
    rintro _ _ ⟨rfl, rfl⟩
    refine X_run rfl trivial ?_
    refine X_icmp_eq rfl (fun _ => ?_) (fun z => absurd q1 z)
    refine X_run rfl trivial ?_
    refine X_if_ne rfl (fun _ => ?_) (fun z => absurd z (cod_ne (Nat.le_of_ble_eq_true rfl)))
    refine X_run rfl trivial ?_
    exact Eg.sub (k _ _ _ _ _ _ _ _ h1) ⟨rfl, rfl, rfl, rfl, congrArg (fun x => some (Value.int x)) (nI_plus i 6).symm, trivial⟩
  | ok r =>
    obtain ⟨q1, rfl⟩ := hA2
    have q0 : codeP [eB] (.ok r : Except String Int32) = 0 := rfl
    rw [q0]
    have hr2 := hr1 r rfl
    refine X_run rfl trivial ?_
    refine X_cV (args := []) rfl (by decide) hy1.1 rfl rfl (Nat.le_of_ble_eq_true rfl) (c_thrown h1.hY) ?_
    rintro _ _ ⟨rfl, rfl⟩
    refine X_run rfl trivial ?_
    refine X_icmp_eq rfl (fun _ => ?_) (fun z => absurd q1 z)
    refine X_run rfl trivial ?_
    refine X_if_ne rfl (fun z => absurd rfl z) (fun _ => ?_)
    refine X_run rfl ?_ ?_
    · simp [md_s, md_w, rget, r_a, r_b, r_c, r_i, r_l, hO1, v0, eO, hr2, lg_self]
    try simp only [md_s, md_w, rget_some, r_a, r_b, r_c, r_i, r_l, r_nx, r_pc, Nat.reduceEqDiff, false_and, if_false, hO1, v0, eO, hr2, lg_self]
    refine X_if_eq rfl (fun _ => ?_) (fun z => absurd rfl z)
    refine X_run rfl trivial ?_
    exact Eg.sub (k _ _ _ _ _ _ _ _ h1) ⟨rfl, rfl, rfl, rfl, congrArg (fun x => some (Value.int x)) (nI_plus i 6).symm, trivial⟩
set_option maxRecDepth 20000 in
theorem Bk_report {a1 : Int32} {p : Except String Int32} {K1 : KT} {T1 P1 : List Nat} {e1 : Int32} {c1 : Nat} (h : LawS g sc N S D X A A2 K T P e c) (hi : i + 6 ≤ N) (ha1 : sc (i + 1) = a1) (hL : ∀ E, p = .error E → E ∈ [eA]) (hI : InvK K1 c1) (hcls : EvX g (d + 10) mX9_report 1 6 [.ref X, .int a1] (md S D) (CalP S D X K1 T1 P1 e1 p) (CalX S D X K1 T1 P1 e1 p)) (href : ∀ k1 D1, OutX X D D1 → EvM g (d + 11) mX11_report 0 0 [.ref (X + 292), .int a1] (md (gz S k1) D1) (RfP (gz S k1) D1 (X + 292) A 0 K1 T1 P1 e1 [eA] p)) (k : NxT g (d + 12) bc bs Z sc N i X c1) : Eg g (d + 12) mL_law (bc + 0 + 1) (bs + 0 + 6) Z 1653 (LL g X i) [] (md S D) := by
  obtain ⟨p1, p2, p3, p4, p5⟩ := nI_p i
  obtain ⟨⟨x1, y1⟩, z1⟩ := h.at hi 1 (by decide)
  rw [ha1] at z1
  obtain ⟨s1, s2, s3⟩ := h.hS
  have hW := h.hI.1
  have hWK := hI.1
  have hy := h.hY.1
  have hO := h.hO
  refine X_run rfl ?_ ?_
  · simp [md_s, md_w, rget, r_a, r_b, r_c, r_i, r_l, p1, x1, y1, z1, s1, s2]
  try simp only [md_s, md_w, rget_some, r_a, r_b, r_c, r_i, r_l, r_nx, r_pc, Nat.reduceEqDiff, false_and, if_false, p1, x1, y1, z1, s1, s2]
  refine X_callW (bc1 := 1) (bs1 := 6) (args := [.ref X, .int a1, .ref (X + 340)]) rfl (by decide) rfl rfl (Nat.le_of_ble_eq_true rfl) (W_report h.hX.1.1 hWK hO hL hcls) ?_
  rintro _ _ ⟨D1, k1, rfl, rfl, hd1, ho1, hr1⟩
  have o1 := h.outS ho1
  obtain ⟨g1, g2, g3, g4⟩ := @gz_s S k1
  refine X_run rfl ?_ ?_
  · simp [md_s, md_w, rget, r_a, r_b, r_c, r_i, r_l, p1, x1, y1, z1, s1, s2, g1, g2, o1]
  try simp only [md_s, md_w, rget_some, r_a, r_b, r_c, r_i, r_l, r_nx, r_pc, Nat.reduceEqDiff, false_and, if_false, p1, x1, y1, z1, s1, s2, g1, g2, o1]
  refine X_callV (bc1 := 0) (bs1 := 0) (args := [.int a1]) rfl (by decide) hy.1 rfl rfl (Nat.le_of_ble_eq_true rfl) (href k1 D1 ho1) ?_
  rintro v _ ⟨S2, D2, k2, hk2, rfl, hg2, hO2, hM2, hA2⟩
  have h1 := h.step hI hd1 ho1 hg2.y (MoL.gro (S := gz S k1) h.hY hg2 (by have := h.hz; show _ ≤ s_sz S + k1; omega)) hO2 hM2
  have hy1 := h1.hY.1
  have hO1 := h1.hO
  have v0 := li (n := 1) (0 : Int32) rfl (by decide) (by decide)
  have eO : d_al D2 (X + 340) = d_al D1 (X + 340) := (hO2 _ (by have := h.hz; show _ < s_sz S + k1; omega) (Or.inr (by omega))).2.2.2
  cases p with
  | error E =>
    obtain ⟨q1, rfl⟩ := hA2
    have q0 : codeP [eA] (.error E : Except String Int32) = cod [eA] E := rfl
    rw [q0]
    refine X_run rfl trivial ?_
    refine X_cV (args := []) rfl (by decide) hy1.1 rfl rfl (Nat.le_of_ble_eq_true rfl) (c_thrown h1.hY) ?_
    rintro _ _ ⟨rfl, rfl⟩
    refine X_run rfl trivial ?_
    refine X_icmp_eq rfl (fun _ => ?_) (fun z => absurd q1 z)
    refine X_run rfl trivial ?_
    refine X_if_ne rfl (fun _ => ?_) (fun z => absurd z (cod_ne (Nat.le_of_ble_eq_true rfl)))
    refine X_run rfl trivial ?_
    exact Eg.sub (k _ _ _ _ _ _ _ _ h1) ⟨rfl, rfl, rfl, rfl, congrArg (fun x => some (Value.int x)) (nI_plus i 6).symm, trivial⟩
  | ok r =>
    obtain ⟨q1, rfl⟩ := hA2
    have q0 : codeP [eA] (.ok r : Except String Int32) = 0 := rfl
    rw [q0]
    have hr2 := hr1 r rfl
    refine X_run rfl trivial ?_
    refine X_cV (args := []) rfl (by decide) hy1.1 rfl rfl (Nat.le_of_ble_eq_true rfl) (c_thrown h1.hY) ?_
    rintro _ _ ⟨rfl, rfl⟩
    refine X_run rfl trivial ?_
    refine X_icmp_eq rfl (fun _ => ?_) (fun z => absurd q1 z)
    refine X_run rfl trivial ?_
    refine X_if_ne rfl (fun z => absurd rfl z) (fun _ => ?_)
    refine X_run rfl ?_ ?_
    · simp [md_s, md_w, rget, r_a, r_b, r_c, r_i, r_l, hO1, v0, eO, hr2, lg_self]
    try simp only [md_s, md_w, rget_some, r_a, r_b, r_c, r_i, r_l, r_nx, r_pc, Nat.reduceEqDiff, false_and, if_false, hO1, v0, eO, hr2, lg_self]
    refine X_if_eq rfl (fun _ => ?_) (fun z => absurd rfl z)
    refine X_run rfl trivial ?_
    exact Eg.sub (k _ _ _ _ _ _ _ _ h1) ⟨rfl, rfl, rfl, rfl, congrArg (fun x => some (Value.int x)) (nI_plus i 6).symm, trivial⟩
set_option maxRecDepth 20000 in
theorem Bk_byteAt {a1 : Int32} {p : Except String Int32} {K1 : KT} {T1 P1 : List Nat} {e1 : Int32} {c1 : Nat} (h : LawS g sc N S D X A A2 K T P e c) (hi : i + 6 ≤ N) (ha1 : sc (i + 1) = a1) (hL : ∀ E, p = .error E → E ∈ [eB]) (hI : InvK K1 c1) (hcls : EvX g (d + 10) mX9_byteAt 1 6 [.ref X, .int a1] (md S D) (CalP S D X K1 T1 P1 e1 p) (CalX S D X K1 T1 P1 e1 p)) (href : ∀ k1 D1, OutX X D D1 → EvM g (d + 11) mX11_byteAt 0 0 [.ref (X + 292), .int a1] (md (gz S k1) D1) (RfP (gz S k1) D1 (X + 292) A 0 K1 T1 P1 e1 [eB] p)) (k : NxT g (d + 12) bc bs Z sc N i X c1) : Eg g (d + 12) mL_law (bc + 0 + 1) (bs + 0 + 6) Z 1709 (LL g X i) [] (md S D) := by
  obtain ⟨p1, p2, p3, p4, p5⟩ := nI_p i
  obtain ⟨⟨x1, y1⟩, z1⟩ := h.at hi 1 (by decide)
  rw [ha1] at z1
  obtain ⟨s1, s2, s3⟩ := h.hS
  have hW := h.hI.1
  have hWK := hI.1
  have hy := h.hY.1
  have hO := h.hO
  refine X_run rfl ?_ ?_
  · simp [md_s, md_w, rget, r_a, r_b, r_c, r_i, r_l, p1, x1, y1, z1, s1, s2]
  try simp only [md_s, md_w, rget_some, r_a, r_b, r_c, r_i, r_l, r_nx, r_pc, Nat.reduceEqDiff, false_and, if_false, p1, x1, y1, z1, s1, s2]
  refine X_callW (bc1 := 1) (bs1 := 6) (args := [.ref X, .int a1, .ref (X + 340)]) rfl (by decide) rfl rfl (Nat.le_of_ble_eq_true rfl) (W_byteAt h.hX.1.1 hWK hO hL hcls) ?_
  rintro _ _ ⟨D1, k1, rfl, rfl, hd1, ho1, hr1⟩
  have o1 := h.outS ho1
  obtain ⟨g1, g2, g3, g4⟩ := @gz_s S k1
  refine X_run rfl ?_ ?_
  · simp [md_s, md_w, rget, r_a, r_b, r_c, r_i, r_l, p1, x1, y1, z1, s1, s2, g1, g2, o1]
  try simp only [md_s, md_w, rget_some, r_a, r_b, r_c, r_i, r_l, r_nx, r_pc, Nat.reduceEqDiff, false_and, if_false, p1, x1, y1, z1, s1, s2, g1, g2, o1]
  refine X_callV (bc1 := 0) (bs1 := 0) (args := [.int a1]) rfl (by decide) hy.1 rfl rfl (Nat.le_of_ble_eq_true rfl) (href k1 D1 ho1) ?_
  rintro v _ ⟨S2, D2, k2, hk2, rfl, hg2, hO2, hM2, hA2⟩
  have h1 := h.step hI hd1 ho1 hg2.y (MoL.gro (S := gz S k1) h.hY hg2 (by have := h.hz; show _ ≤ s_sz S + k1; omega)) hO2 hM2
  have hy1 := h1.hY.1
  have hO1 := h1.hO
  have v0 := li (n := 1) (0 : Int32) rfl (by decide) (by decide)
  have eO : d_al D2 (X + 340) = d_al D1 (X + 340) := (hO2 _ (by have := h.hz; show _ < s_sz S + k1; omega) (Or.inr (by omega))).2.2.2
  cases p with
  | error E =>
    obtain ⟨q1, rfl⟩ := hA2
    have q0 : codeP [eB] (.error E : Except String Int32) = cod [eB] E := rfl
    rw [q0]
    refine X_run rfl trivial ?_
    refine X_cV (args := []) rfl (by decide) hy1.1 rfl rfl (Nat.le_of_ble_eq_true rfl) (c_thrown h1.hY) ?_
    rintro _ _ ⟨rfl, rfl⟩
    refine X_run rfl trivial ?_
    refine X_icmp_eq rfl (fun _ => ?_) (fun z => absurd q1 z)
    refine X_run rfl trivial ?_
    refine X_if_ne rfl (fun _ => ?_) (fun z => absurd z (cod_ne (Nat.le_of_ble_eq_true rfl)))
    refine X_run rfl trivial ?_
    exact Eg.sub (k _ _ _ _ _ _ _ _ h1) ⟨rfl, rfl, rfl, rfl, congrArg (fun x => some (Value.int x)) (nI_plus i 6).symm, trivial⟩
  | ok r =>
    obtain ⟨q1, rfl⟩ := hA2
    have q0 : codeP [eB] (.ok r : Except String Int32) = 0 := rfl
    rw [q0]
    have hr2 := hr1 r rfl
    refine X_run rfl trivial ?_
    refine X_cV (args := []) rfl (by decide) hy1.1 rfl rfl (Nat.le_of_ble_eq_true rfl) (c_thrown h1.hY) ?_
    rintro _ _ ⟨rfl, rfl⟩
    refine X_run rfl trivial ?_
    refine X_icmp_eq rfl (fun _ => ?_) (fun z => absurd q1 z)
    refine X_run rfl trivial ?_
    refine X_if_ne rfl (fun z => absurd rfl z) (fun _ => ?_)
    refine X_run rfl ?_ ?_
    · simp [md_s, md_w, rget, r_a, r_b, r_c, r_i, r_l, hO1, v0, eO, hr2, lg_self]
    try simp only [md_s, md_w, rget_some, r_a, r_b, r_c, r_i, r_l, r_nx, r_pc, Nat.reduceEqDiff, false_and, if_false, hO1, v0, eO, hr2, lg_self]
    refine X_if_eq rfl (fun _ => ?_) (fun z => absurd rfl z)
    refine X_run rfl trivial ?_
    exact Eg.sub (k _ _ _ _ _ _ _ _ h1) ⟨rfl, rfl, rfl, rfl, congrArg (fun x => some (Value.int x)) (nI_plus i 6).symm, trivial⟩
end BLOCKS
