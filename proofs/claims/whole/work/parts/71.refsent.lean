/-! sentences, by the reference -/
def AtO (S : ShT) (Y : Nat) (D D1 : DaT) : Prop := ∀ a, a < s_sz S → (∀ k, ¬ (k = 364 ∧ a = Y) → d_fi D1 k a = d_fi D k a) ∧ (∀ k, d_fl D1 k a = d_fl D k a) ∧ d_ai D1 a = d_ai D a ∧ d_al D1 a = d_al D a
theorem AtO.rf {S : ShT} {Y : Nat} {D : DaT} : AtO S Y D D := fun _ _ => ⟨fun _ _ => rfl, fun _ => rfl, rfl, rfl⟩
theorem AtO.tr {S : ShT} {Y : Nat} {D D1 D2 : DaT} (h : AtO S Y D D1) (h2 : AtO S Y D1 D2) : AtO S Y D D2 := fun a ha => ⟨fun k hk => ((h2 a ha).1 k hk).trans ((h a ha).1 k hk), fun k => ((h2 a ha).2.1 k).trans ((h a ha).2.1 k), (h2 a ha).2.2.1.trans (h a ha).2.2.1, (h2 a ha).2.2.2.trans (h a ha).2.2.2⟩
theorem AtO.o {S : ShT} {Y lo hi : Nat} {D D1 : DaT} (h : Out lo hi D D1) (hl : s_sz S ≤ lo) : AtO S Y D D1 := fun a ha => ⟨fun k _ => (h a (by omega)).1 k, (h a (by omega)).2.1, (h a (by omega)).2.2.1, (h a (by omega)).2.2.2⟩
theorem AtO.at {S : ShT} {Y : Nat} {D : DaT} {v : Int32} : AtO S Y D (pfi D 364 Y v) := fun a ha => ⟨fun k hk => by rw [rd_fi, if_neg hk], fun _ => rfl, rfl, rfl⟩
theorem AtO.sub {S S1 : ShT} {Y : Nat} {D D1 : DaT} (h : AtO S1 Y D D1) (hl : s_sz S ≤ s_sz S1) : AtO S Y D D1 := fun a ha => h a (by omega)
theorem TokR.at {S : ShT} {D D1 : DaT} {Y n : Nat} {T : List Nat} (h : TokR D Y T n) (ho : AtO S Y D D1) (hz : Y + 8 ≤ s_sz S) : TokR D1 Y T n := fun j hj => by
  have := h j hj
  unfold TkP at this ⊢
  rw [(ho (Y + 4) (by omega)).2.2.1, (ho (Y + 5) (by omega)).2.2.1, (ho (Y + 6) (by omega)).2.2.1, (ho (Y + 7) (by omega)).2.2.2]
  exact this
theorem need_drop {f : Nat → Nat} {ks : List Nat} {r : Nat} : ∀ i, i < ks.length → need f (ks.drop i) (r + i) = if f (r + i) = ks.getD i 0 then need f (ks.drop (i + 1)) (r + (i + 1)) else (false, r + i) := fun i hi => by
  rw [List.drop_eq_getElem_cons hi]
  show (if f (r + i) = ks[i] then _ else _) = _
  rw [List.getD_eq_getElem?_getD, List.getElem?_eq_getElem hi]
  rfl
theorem kdA_ty {D : DaT} {Y : Nat} {T : List Nat} (h : TokR D Y T (tN T + 1)) {j : Nat} (hj : j ≤ tN T) : d_ai D (Y + 4) j = nI (rk (kdA T j)) := by
  unfold kdA
  rw [if_pos hj]
  exact (h j (by omega)).1
theorem rk_ne {T : List Nat} {j k : Nat} (hk : k ≤ 13) : (nI (rk (kdA T j)) = nI (rk k)) ↔ kdA T j = k := by
  have h1 := kdA_le T j
  have h2 := rk_le _ h1
  have h3 := rk_le k (by omega)
  exact ⟨fun z => rk_inj _ h1 _ (by omega) (nI_inj (by omega) (by omega) z), fun z => by rw [z]⟩
def SeP (S : ShT) (D : DaT) (Y : Nat) (res : Bool × Nat) : Option Value → Mem → Prop := fun v M1 => ∃ S1 D1 k, k ≤ 3 ∧ v = some (.int (b2i res.1)) ∧ M1 = md S1 D1 ∧ Gro S S1 k ∧ d_fi D1 364 Y = nI res.2 ∧ AtO S Y D D1
section REFSENT
variable {g : GG} {d c : Nat} {S : ShT} {D : DaT} {Y A A2 : Nat} {K : KT} {T P : List Nat} {e : Int32}
theorem c_are {ks : List Nat} {r z : Nat} (hY : MoL S Y A A2) (hz8 : Y + 8 ≤ s_sz S) (hzs : z < s_sz S) (hT : TokR D Y T (tN T + 1)) (hr : d_fi D 364 Y = nI r) (hrN : r ≤ tN T) (hk : ∀ k ∈ ks, k ≤ 13) (hl : ks.length ≤ 8) (hzt : s_tg S z = 20 ∧ s_ln S z = ks.length) (hzv : ∀ j, j < ks.length → d_ai D z j = nI (rk (ks.getD j 0))) : EvM g d mX11_are 0 0 [.ref Y, .ref z] (md S D) (fun v M1 => ∃ D1, v = some (.int (b2i (need (kdA T) ks r).1)) ∧ M1 = md S D1 ∧ d_fi D1 364 Y = nI (need (kdA T) ks r).2 ∧ AtO S Y D D1) := by
  obtain ⟨hy, hz, -⟩ := id hY
  have hN := tN_le T
  refine EvM.mk (by decide) (Nat.le_of_ble_eq_true rfl) ?_
  refine X_run rfl ?_ ?_
  · simp [md_s, md_w, rget, r_a, r_b, r_c, r_i, r_l, hzt]
  try simp only [md_s, md_w, rget_some, r_a, r_b, r_c, r_i, r_l, r_nx, r_pc, Nat.reduceEqDiff, false_and, if_false, hzt]
  refine Eg.sub (ls' := [(0, .ref Y), (2, .ref z), (3, .int (nI ks.length)), (4, .int (nI 0))]) ?_ ⟨rfl, rfl, rfl, rfl, trivial⟩
  refine Eg_up (α := DaT) (fun i D' => Eg g d mX11_are 0 0 (Zr g (fun v M1 => ∃ D1, v = some (.int (b2i (need (kdA T) ks r).1)) ∧ M1 = md S D1 ∧ d_fi D1 364 Y = nI (need (kdA T) ks r).2 ∧ AtO S Y D D1)) 8 [(0, .ref Y), (2, .ref z), (3, .int (nI ks.length)), (4, .int (nI i))] [] (md S D')) (fun i D' => AtO S Y D D' ∧ d_fi D' 364 Y = nI (r + i) ∧ r + i ≤ tN T ∧ need (kdA T) ks r = need (kdA T) (ks.drop i) (r + i)) ks.length (fun i D2 hi hI k => ?_) (fun D2 hI => ?_) D ⟨AtO.rf, hr, hrN, rfl⟩
  · obtain ⟨h1, h2, h3, h4⟩ := hI
    have vz : d_ai D2 z i = nI (rk (ks.getD i 0)) := by rw [(h1 z hzs).2.2.1]; exact hzv i hi
    have xi := vx hi (show ks.length < 2 ^ 31 by omega)
    have xr := vx (show r + i < 402 by omega) (by decide)
    have ty := kdA_ty (hT.at h1 hz8) h3
    have hki : ks.getD i 0 ≤ 13 := by
      rw [List.getD_eq_getElem?_getD, List.getElem?_eq_getElem hi]
      exact hk _ (List.getElem_mem hi)
    refine X_run rfl trivial ?_
    refine X_icmp_ge rfl (fun c1 => no_le c1 hi (by omega)) (fun c1 => ?_)
    refine X_run rfl ?_ ?_
    · simp [md_s, md_w, rget, r_a, r_b, r_c, r_i, r_l, hzt, xi, vz, hy, hz, h2, xr, ty]
    try simp only [md_s, md_w, rget_some, r_a, r_b, r_c, r_i, r_l, r_nx, r_pc, Nat.reduceEqDiff, false_and, if_false, hzt, xi, vz, hy, hz, h2, xr, ty]
    rw [need_drop i hi] at h4
    refine (fun (kf : ¬ nI (rk (kdA T (r + i))) = nI (rk (ks.getD i 0)) → _) (kt : nI (rk (kdA T (r + i))) = nI (rk (ks.getD i 0)) → _) => X_icmp_eq rfl kt kf) (fun c2 => ?_) (fun c2 => ?_)
    · rw [if_neg (fun z => c2 ((rk_ne hki).mpr z))] at h4
      refine X_run rfl trivial ?_
      refine X_zret rfl rfl (Or.inl rfl) ⟨D2, by rw [h4]; rfl, rfl, by rw [h4]; exact h2, h1⟩
    · have c3 := (rk_ne hki).mp c2
      rw [if_pos c3] at h4
      have hlt : r + i < tN T := (kdA_lo c3 hki).1
      obtain ⟨D3, e3, z3, y3⟩ := wr_fi D2 364 Y (nI (r + i + 1))
      refine X_run rfl ?_ ?_
      · simp [md_s, md_w, rget, r_a, r_b, r_c, r_i, r_l, hy, h2, nI_s1, e3]
      try simp only [md_s, md_w, rget_some, r_a, r_b, r_c, r_i, r_l, r_nx, r_pc, Nat.reduceEqDiff, false_and, if_false, hy, h2, nI_s1, e3]
      exact Eg.sub (k D3 ⟨h1.tr (e3 ▸ AtO.at), by rw [z3, if_pos ⟨rfl, rfl⟩]; rfl, hlt, h4⟩) ⟨rfl, rfl, rfl, rfl, trivial⟩
  · obtain ⟨h1, h2, h3, h4⟩ := hI
    rw [List.drop_length] at h4
    refine X_run rfl trivial ?_
    refine X_icmp_ge rfl (fun _ => ?_) (fun c1 => no_nle c1 (Nat.le_refl _) (by omega))
    refine X_run rfl trivial ?_
    exact X_zret rfl rfl (Or.inr rfl) ⟨D2, by rw [h4]; rfl, rfl, by rw [h4]; exact h2, h1⟩

theorem c_isSentence {r : Nat} (hY : MoL S Y A A2) (hz : Y + 48 ≤ s_sz S) (hT : TokR D Y T (tN T + 1)) (hr : d_fi D 364 Y = nI r) (hrN : r ≤ tN T) : EvM g (d + 1) mX11_isSentence 3 11 [.ref Y] (md S D) (SeP S D Y (sentK (kdA T) r)) := by
  obtain ⟨hy, hzz, -⟩ := id hY
  have hN := tN_le T
  have xr := vx (show r < 402 by omega) (by decide)
  have ty := kdA_ty hT hrN
  have hle := kdA_le T r
  refine EvM.mk (by decide) (Nat.le_of_ble_eq_true rfl) ?_
  refine X_run rfl ?_ ?_
  · simp [md_s, md_w, rget, r_a, r_b, r_c, r_i, r_l, hy, hzz, hr, xr, ty]
  try simp only [md_s, md_w, rget_some, r_a, r_b, r_c, r_i, r_l, r_nx, r_pc, Nat.reduceEqDiff, false_and, if_false, hy, hzz, hr, xr, ty]
  have other : ∀ res, sentK (kdA T) r = res → res = (false, r) → Eg g (d + 1) mX11_isSentence 3 11 (Zr g (SeP S D Y (sentK (kdA T) r))) 328 [] [] (md S D) := fun res h1 h2 => by
    rw [h1, h2]
    refine X_run rfl trivial ?_
    exact X_zret rfl rfl (Or.inl rfl) ⟨S, D, 0, Nat.zero_le _, rfl, rfl, Gro.rf, hr, AtO.rf⟩
  have fin : ∀ (res : Bool × Nat) (S1 : ShT) (D1 : DaT) (k : Nat), sentK (kdA T) r = res → k ≤ 3 → Gro S S1 k → d_fi D1 364 Y = nI res.2 → AtO S Y D D1 → SeP S D Y (sentK (kdA T) r) (some (.int (b2i res.1))) (md S1 D1) := fun res S1 D1 k h1 h2 h3 h4 h5 => by
    rw [h1]
    exact ⟨S1, D1, k, h2, rfl, rfl, h3, h4, h5⟩
  by_cases c0 : kdA T r = 0
  · rw [c0]
    refine X_tsw (t := 68) (k0 := 0) rfl (by decide) (by decide) rfl rfl ?_
    refine X_run rfl trivial ?_
    refine X_newarray (N := 2) rfl (by decide) rfl (by decide) ?_
    obtain ⟨Sa, Da0, eNa, hGa, hna, hOa, -⟩ := new_md S D 20 2
    rw [show w_new (md S D) (0 + 20) 2 = md Sa Da0 from eNa]
    have hYa := hY.gro hGa hz
    have hza : Y + 48 ≤ s_sz Sa := by have := hGa.1; omega
    have aa0 : AryR Da0 (s_sz S) [] := fun j hj => absurd hj (Nat.not_lt_zero _)
    have ia0 := li (n := 2) (0 : Int32) rfl (show 0 < 2 by decide) (by decide)
    obtain ⟨Da1, ea1, -⟩ := wr_ai Da0 (s_sz S) 0 10
    have aa1 := aa0.put rfl ea1
    have ia1 := li (n := 2) (1 : Int32) rfl (show 1 < 2 by decide) (by decide)
    obtain ⟨Da2, ea2, -⟩ := wr_ai Da1 (s_sz S) 1 4
    have aa2 := aa1.put rfl ea2
    have hOab : Out (s_sz S) (s_sz S + 1) D Da2 := ((hOa.tr (ea1 ▸ Out.ai (by omega))).tr (ea2 ▸ Out.ai (by omega)))
    have hAa0 : AtO S Y D Da2 := AtO.rf.tr (AtO.o hOab (by omega))
    refine X_run rfl ?_ ?_
    · simp [md_s, md_w, rget, r_a, r_b, r_c, r_i, r_l, md_s, hna, ia0, ea1, ia1, ea2]
    try simp only [md_s, md_w, rget_some, r_a, r_b, r_c, r_i, r_l, r_nx, r_pc, Nat.reduceEqDiff, false_and, if_false, md_s, hna, ia0, ea1, ia1, ea2]
    refine X_cV (args := [.ref (s_sz S)]) rfl (by decide) hYa.1.1 rfl rfl (Nat.le_of_ble_eq_true rfl) (c_are (ks := [0, 11]) (r := r) hYa (by omega) (by have := hGa.1; omega) (hT.at hAa0 (by omega)) (by rw [(hOab Y (by omega)).1]; exact hr) hrN (by decide) (by decide) hna (fun j hj => by rw [aa2 j hj]; exact (show ∀ j, j < 2 → ([10, 4] : List Int32).getD j 0 = nI (rk (([0, 11] : List Nat).getD j 0)) by decide) j hj)) ?_
    rintro _ _ ⟨Da, rfl, rfl, hata, hBa⟩
    have hGGa : Gro S Sa 1 := hGa
    have hAa : AtO S Y D Da := hAa0.tr (hBa.sub (by have := hGGa.1; omega))
    have hra : (need (kdA T) [0, 11] (r)).2 ≤ tN T := need_in (kdA_N T) _ _ (by decide) hrN
    have sK : sentK (kdA T) r = andR (need (kdA T) [0, 11] r) (fun r => andR (opt (kdA T) 1 r) (need (kdA T) [13])) := by unfold sentK; simp [c0]
    cases hb : (need (kdA T) [0, 11] r).1 with
    | false =>
      have e0 : sentK (kdA T) r = (false, (need (kdA T) [0, 11] r).2) := by rw [sK]; unfold andR; rw [hb]; rw [if_neg (by decide)]; exact Prod.ext hb rfl
      refine X_if_ne rfl (fun c => absurd rfl c) (fun _ => ?_)
      refine X_run rfl trivial ?_
      exact X_zret rfl rfl (Or.inl rfl) (fin _ _ _ 1 e0 (by decide) hGGa hata hAa)
    | true =>
      rw [show andR (need (kdA T) [0, 11] r) (fun r => andR (opt (kdA T) 1 r) (need (kdA T) [13])) = andR (opt (kdA T) 1 (need (kdA T) [0, 11] r).2) (need (kdA T) [13]) from if_pos hb] at sK
      generalize hu : (need (kdA T) [0, 11] r).2 = u at *
      have xu := vx (show u < 402 by omega) (by decide)
      have tyu := kdA_ty (hT.at hAa (by omega)) hra
      obtain ⟨hya, hzza, -⟩ := id hYa
      refine X_if_ne rfl (fun _ => ?_) (fun c => absurd c (by decide))
      refine X_run rfl ?_ ?_
      · simp [md_s, md_w, rget, r_a, r_b, r_c, r_i, r_l, hya, hzza, hata, xu, tyu]
      try simp only [md_s, md_w, rget_some, r_a, r_b, r_c, r_i, r_l, r_nx, r_pc, Nat.reduceEqDiff, false_and, if_false, hya, hzza, hata, xu, tyu]
      refine X_icmp_ne rfl (fun c1 => ?_) (fun c1 => ?_)
      · have c1 : ¬ kdA T u = 1 := fun z => c1 (by rw [z]; rfl)
        rw [show opt (kdA T) 1 u = (true, u) from if_neg c1] at sK
        have sK : sentK (kdA T) r = need (kdA T) [13] u := sK
        refine X_run rfl trivial ?_
        refine X_newarray (N := 1) rfl (by decide) rfl (by decide) ?_
        obtain ⟨San, Dan0, eNan, hGan, hnan, hOan, -⟩ := new_md Sa Da 20 1
        rw [show w_new (md Sa Da) (0 + 20) 1 = md San Dan0 from eNan]
        have hYan := hYa.gro hGan hza
        have hzan : Y + 48 ≤ s_sz San := by have := hGan.1; omega
        have aan0 : AryR Dan0 (s_sz Sa) [] := fun j hj => absurd hj (Nat.not_lt_zero _)
        have ian0 := li (n := 1) (0 : Int32) rfl (show 0 < 1 by decide) (by decide)
        obtain ⟨Dan1, ean1, -⟩ := wr_ai Dan0 (s_sz Sa) 0 2
        have aan1 := aan0.put rfl ean1
        have hOanb : Out (s_sz Sa) (s_sz Sa + 1) Da Dan1 := (hOan.tr (ean1 ▸ Out.ai (by omega)))
        have hAan0 : AtO S Y D Dan1 := hAa.tr (AtO.o hOanb (by have := hGGa.1; omega))
        refine X_run rfl ?_ ?_
        · simp [md_s, md_w, rget, r_a, r_b, r_c, r_i, r_l, md_s, hnan, ian0, ean1]
        try simp only [md_s, md_w, rget_some, r_a, r_b, r_c, r_i, r_l, r_nx, r_pc, Nat.reduceEqDiff, false_and, if_false, md_s, hnan, ian0, ean1]
        refine X_cV (args := [.ref (s_sz Sa)]) rfl (by decide) hYan.1.1 rfl rfl (Nat.le_of_ble_eq_true rfl) (c_are (ks := [13]) (r := u) hYan (by omega) (by have := hGan.1; omega) (hT.at hAan0 (by omega)) (by rw [(hOanb Y (by omega)).1]; exact hata) hra (by decide) (by decide) hnan (fun j hj => by rw [aan1 j hj]; exact (show ∀ j, j < 1 → ([2] : List Int32).getD j 0 = nI (rk (([13] : List Nat).getD j 0)) by decide) j hj)) ?_
        rintro _ _ ⟨Dan, rfl, rfl, hatan, hBan⟩
        have hGGan := hGGa.tr hGan
        have hAan : AtO S Y D Dan := hAan0.tr (hBan.sub (by have := hGGan.1; omega))
        have hran : (need (kdA T) [13] (u)).2 ≤ tN T := need_in (kdA_N T) _ _ (by decide) hra
        have fl := fin _ San Dan 2 sK (by decide) hGGan hatan hAan
        cases hb9 : (need (kdA T) [13] u).1 with
        | false =>
          rw [hb9] at fl
          refine X_if_eq rfl (fun _ => ?_) (fun c => absurd rfl c)
          refine X_run rfl trivial ?_
          exact X_zret rfl rfl (Or.inl rfl) fl
        | true =>
          rw [hb9] at fl
          refine X_if_eq rfl (fun c => absurd c (by decide)) (fun _ => ?_)
          refine X_run rfl trivial ?_
          exact X_zret rfl rfl (Or.inr rfl) fl
      · have c1 : kdA T u = 1 := (rk_ne (by decide)).mp c1
        have eo : opt (kdA T) 1 u = need (kdA T) [1, 12] u := if_pos c1
        refine X_run rfl trivial ?_
        refine X_newarray (N := 2) rfl (by decide) rfl (by decide) ?_
        obtain ⟨Sao, Dao0, eNao, hGao, hnao, hOao, -⟩ := new_md Sa Da 20 2
        rw [show w_new (md Sa Da) (0 + 20) 2 = md Sao Dao0 from eNao]
        have hYao := hYa.gro hGao hza
        have hzao : Y + 48 ≤ s_sz Sao := by have := hGao.1; omega
        have aao0 : AryR Dao0 (s_sz Sa) [] := fun j hj => absurd hj (Nat.not_lt_zero _)
        have iao0 := li (n := 2) (0 : Int32) rfl (show 0 < 2 by decide) (by decide)
        obtain ⟨Dao1, eao1, -⟩ := wr_ai Dao0 (s_sz Sa) 0 11
        have aao1 := aao0.put rfl eao1
        have iao1 := li (n := 2) (1 : Int32) rfl (show 1 < 2 by decide) (by decide)
        obtain ⟨Dao2, eao2, -⟩ := wr_ai Dao1 (s_sz Sa) 1 3
        have aao2 := aao1.put rfl eao2
        have hOaob : Out (s_sz Sa) (s_sz Sa + 1) Da Dao2 := ((hOao.tr (eao1 ▸ Out.ai (by omega))).tr (eao2 ▸ Out.ai (by omega)))
        have hAao0 : AtO S Y D Dao2 := hAa.tr (AtO.o hOaob (by have := hGGa.1; omega))
        refine X_run rfl ?_ ?_
        · simp [md_s, md_w, rget, r_a, r_b, r_c, r_i, r_l, md_s, hnao, iao0, eao1, iao1, eao2]
        try simp only [md_s, md_w, rget_some, r_a, r_b, r_c, r_i, r_l, r_nx, r_pc, Nat.reduceEqDiff, false_and, if_false, md_s, hnao, iao0, eao1, iao1, eao2]
        refine X_cV (args := [.ref (s_sz Sa)]) rfl (by decide) hYao.1.1 rfl rfl (Nat.le_of_ble_eq_true rfl) (c_are (ks := [1, 12]) (r := u) hYao (by omega) (by have := hGao.1; omega) (hT.at hAao0 (by omega)) (by rw [(hOaob Y (by omega)).1]; exact hata) hra (by decide) (by decide) hnao (fun j hj => by rw [aao2 j hj]; exact (show ∀ j, j < 2 → ([11, 3] : List Int32).getD j 0 = nI (rk (([1, 12] : List Nat).getD j 0)) by decide) j hj)) ?_
        rintro _ _ ⟨Dao, rfl, rfl, hatao, hBao⟩
        have hGGao := hGGa.tr hGao
        have hAao : AtO S Y D Dao := hAao0.tr (hBao.sub (by have := hGGao.1; omega))
        have hrao : (need (kdA T) [1, 12] (u)).2 ≤ tN T := need_in (kdA_N T) _ _ (by decide) hra
        rw [eo] at sK
        cases hb2 : (need (kdA T) [1, 12] u).1 with
        | false =>
          have e0 : sentK (kdA T) r = (false, (need (kdA T) [1, 12] u).2) := by rw [sK]; unfold andR; rw [hb2]; rw [if_neg (by decide)]; exact Prod.ext hb2 rfl
          refine X_if_eq rfl (fun _ => ?_) (fun c => absurd rfl c)
          refine X_run rfl trivial ?_
          exact X_zret rfl rfl (Or.inl rfl) (fin _ _ _ 2 e0 (by decide) hGGao hatao hAao)
        | true =>
          rw [show andR (need (kdA T) [1, 12] u) (need (kdA T) [13]) = need (kdA T) [13] (need (kdA T) [1, 12] u).2 from if_pos hb2] at sK
          generalize hu2 : (need (kdA T) [1, 12] u).2 = u2 at *
          refine X_if_eq rfl (fun c => absurd c (by decide)) (fun _ => ?_)
          refine X_run rfl trivial ?_
          refine X_newarray (N := 1) rfl (by decide) rfl (by decide) ?_
          obtain ⟨Sap, Dap0, eNap, hGap, hnap, hOap, -⟩ := new_md Sao Dao 20 1
          rw [show w_new (md Sao Dao) (0 + 20) 1 = md Sap Dap0 from eNap]
          have hYap := hYao.gro hGap hzao
          have hzap : Y + 48 ≤ s_sz Sap := by have := hGap.1; omega
          have aap0 : AryR Dap0 (s_sz Sao) [] := fun j hj => absurd hj (Nat.not_lt_zero _)
          have iap0 := li (n := 1) (0 : Int32) rfl (show 0 < 1 by decide) (by decide)
          obtain ⟨Dap1, eap1, -⟩ := wr_ai Dap0 (s_sz Sao) 0 2
          have aap1 := aap0.put rfl eap1
          have hOapb : Out (s_sz Sao) (s_sz Sao + 1) Dao Dap1 := (hOap.tr (eap1 ▸ Out.ai (by omega)))
          have hAap0 : AtO S Y D Dap1 := hAao.tr (AtO.o hOapb (by have := hGGao.1; omega))
          refine X_run rfl ?_ ?_
          · simp [md_s, md_w, rget, r_a, r_b, r_c, r_i, r_l, md_s, hnap, iap0, eap1]
          try simp only [md_s, md_w, rget_some, r_a, r_b, r_c, r_i, r_l, r_nx, r_pc, Nat.reduceEqDiff, false_and, if_false, md_s, hnap, iap0, eap1]
          refine X_cV (args := [.ref (s_sz Sao)]) rfl (by decide) hYap.1.1 rfl rfl (Nat.le_of_ble_eq_true rfl) (c_are (ks := [13]) (r := u2) hYap (by omega) (by have := hGap.1; omega) (hT.at hAap0 (by omega)) (by rw [(hOapb Y (by omega)).1]; exact hatao) hrao (by decide) (by decide) hnap (fun j hj => by rw [aap1 j hj]; exact (show ∀ j, j < 1 → ([2] : List Int32).getD j 0 = nI (rk (([13] : List Nat).getD j 0)) by decide) j hj)) ?_
          rintro _ _ ⟨Dap, rfl, rfl, hatap, hBap⟩
          have hGGap := hGGao.tr hGap
          have hAap : AtO S Y D Dap := hAap0.tr (hBap.sub (by have := hGGap.1; omega))
          have hrap : (need (kdA T) [13] (u2)).2 ≤ tN T := need_in (kdA_N T) _ _ (by decide) hrao
          have fl := fin _ Sap Dap 3 sK (by decide) hGGap hatap hAap
          cases hb9 : (need (kdA T) [13] u2).1 with
          | false =>
            rw [hb9] at fl
            refine X_if_eq rfl (fun _ => ?_) (fun c => absurd rfl c)
            refine X_run rfl trivial ?_
            exact X_zret rfl rfl (Or.inl rfl) fl
          | true =>
            rw [hb9] at fl
            refine X_if_eq rfl (fun c => absurd c (by decide)) (fun _ => ?_)
            refine X_run rfl trivial ?_
            exact X_zret rfl rfl (Or.inr rfl) fl
  by_cases c2 : kdA T r = 2
  · rw [c2]
    refine X_tsw (t := 142) (k0 := 2) rfl (by decide) (by decide) rfl rfl ?_
    have sK : sentK (kdA T) r = need (kdA T) [2, 11, 3, 12, 4, 12, 13] r := by unfold sentK; simp [c2]
    refine X_run rfl trivial ?_
    refine X_newarray (N := 7) rfl (by decide) rfl (by decide) ?_
    obtain ⟨Sb, Db0, eNb, hGb, hnb, hOb, -⟩ := new_md S D 20 7
    rw [show w_new (md S D) (0 + 20) 7 = md Sb Db0 from eNb]
    have hYb := hY.gro hGb hz
    have hzb : Y + 48 ≤ s_sz Sb := by have := hGb.1; omega
    have ab0 : AryR Db0 (s_sz S) [] := fun j hj => absurd hj (Nat.not_lt_zero _)
    have ib0 := li (n := 7) (0 : Int32) rfl (show 0 < 7 by decide) (by decide)
    obtain ⟨Db1, eb1, -⟩ := wr_ai Db0 (s_sz S) 0 12
    have ab1 := ab0.put rfl eb1
    have ib1 := li (n := 7) (1 : Int32) rfl (show 1 < 7 by decide) (by decide)
    obtain ⟨Db2, eb2, -⟩ := wr_ai Db1 (s_sz S) 1 4
    have ab2 := ab1.put rfl eb2
    have ib2 := li (n := 7) (2 : Int32) rfl (show 2 < 7 by decide) (by decide)
    obtain ⟨Db3, eb3, -⟩ := wr_ai Db2 (s_sz S) 2 13
    have ab3 := ab2.put rfl eb3
    have ib3 := li (n := 7) (3 : Int32) rfl (show 3 < 7 by decide) (by decide)
    obtain ⟨Db4, eb4, -⟩ := wr_ai Db3 (s_sz S) 3 3
    have ab4 := ab3.put rfl eb4
    have ib4 := li (n := 7) (4 : Int32) rfl (show 4 < 7 by decide) (by decide)
    obtain ⟨Db5, eb5, -⟩ := wr_ai Db4 (s_sz S) 4 14
    have ab5 := ab4.put rfl eb5
    have ib5 := li (n := 7) (5 : Int32) rfl (show 5 < 7 by decide) (by decide)
    obtain ⟨Db6, eb6, -⟩ := wr_ai Db5 (s_sz S) 5 3
    have ab6 := ab5.put rfl eb6
    have ib6 := li (n := 7) (6 : Int32) rfl (show 6 < 7 by decide) (by decide)
    obtain ⟨Db7, eb7, -⟩ := wr_ai Db6 (s_sz S) 6 2
    have ab7 := ab6.put rfl eb7
    have hObb : Out (s_sz S) (s_sz S + 1) D Db7 := (((((((hOb.tr (eb1 ▸ Out.ai (by omega))).tr (eb2 ▸ Out.ai (by omega))).tr (eb3 ▸ Out.ai (by omega))).tr (eb4 ▸ Out.ai (by omega))).tr (eb5 ▸ Out.ai (by omega))).tr (eb6 ▸ Out.ai (by omega))).tr (eb7 ▸ Out.ai (by omega)))
    have hAb0 : AtO S Y D Db7 := AtO.rf.tr (AtO.o hObb (by omega))
    refine X_run rfl ?_ ?_
    · simp [md_s, md_w, rget, r_a, r_b, r_c, r_i, r_l, md_s, hnb, ib0, eb1, ib1, eb2, ib2, eb3, ib3, eb4, ib4, eb5, ib5, eb6, ib6, eb7]
    try simp only [md_s, md_w, rget_some, r_a, r_b, r_c, r_i, r_l, r_nx, r_pc, Nat.reduceEqDiff, false_and, if_false, md_s, hnb, ib0, eb1, ib1, eb2, ib2, eb3, ib3, eb4, ib4, eb5, ib5, eb6, ib6, eb7]
    refine X_cV (args := [.ref (s_sz S)]) rfl (by decide) hYb.1.1 rfl rfl (Nat.le_of_ble_eq_true rfl) (c_are (ks := [2, 11, 3, 12, 4, 12, 13]) (r := r) hYb (by omega) (by have := hGb.1; omega) (hT.at hAb0 (by omega)) (by rw [(hObb Y (by omega)).1]; exact hr) hrN (by decide) (by decide) hnb (fun j hj => by rw [ab7 j hj]; exact (show ∀ j, j < 7 → ([12, 4, 13, 3, 14, 3, 2] : List Int32).getD j 0 = nI (rk (([2, 11, 3, 12, 4, 12, 13] : List Nat).getD j 0)) by decide) j hj)) ?_
    rintro _ _ ⟨Db, rfl, rfl, hatb, hBb⟩
    have hGGb : Gro S Sb 1 := hGb
    have hAb : AtO S Y D Db := hAb0.tr (hBb.sub (by have := hGGb.1; omega))
    have hrb : (need (kdA T) [2, 11, 3, 12, 4, 12, 13] (r)).2 ≤ tN T := need_in (kdA_N T) _ _ (by decide) hrN
    refine X_run rfl trivial ?_
    exact X_zret rfl rfl (b2i_01 _) (fin _ _ _ 1 sK (by decide) hGGb hatb hAb)
  by_cases c5 : kdA T r = 5
  · rw [c5]
    refine X_tsw (t := 183) (k0 := 5) rfl (by decide) (by decide) rfl rfl ?_
    refine X_run rfl trivial ?_
    refine X_newarray (N := 8) rfl (by decide) rfl (by decide) ?_
    obtain ⟨Sc, Dc0, eNc, hGc, hnc, hOc, -⟩ := new_md S D 20 8
    rw [show w_new (md S D) (0 + 20) 8 = md Sc Dc0 from eNc]
    have hYc := hY.gro hGc hz
    have hzc : Y + 48 ≤ s_sz Sc := by have := hGc.1; omega
    have ac0 : AryR Dc0 (s_sz S) [] := fun j hj => absurd hj (Nat.not_lt_zero _)
    have ic0 := li (n := 8) (0 : Int32) rfl (show 0 < 8 by decide) (by decide)
    obtain ⟨Dc1, ec1, -⟩ := wr_ai Dc0 (s_sz S) 0 15
    have ac1 := ac0.put rfl ec1
    have ic1 := li (n := 8) (1 : Int32) rfl (show 1 < 8 by decide) (by decide)
    obtain ⟨Dc2, ec2, -⟩ := wr_ai Dc1 (s_sz S) 1 4
    have ac2 := ac1.put rfl ec2
    have ic2 := li (n := 8) (2 : Int32) rfl (show 2 < 8 by decide) (by decide)
    obtain ⟨Dc3, ec3, -⟩ := wr_ai Dc2 (s_sz S) 2 16
    have ac3 := ac2.put rfl ec3
    have ic3 := li (n := 8) (3 : Int32) rfl (show 3 < 8 by decide) (by decide)
    obtain ⟨Dc4, ec4, -⟩ := wr_ai Dc3 (s_sz S) 3 4
    have ac4 := ac3.put rfl ec4
    have ic4 := li (n := 8) (4 : Int32) rfl (show 4 < 8 by decide) (by decide)
    obtain ⟨Dc5, ec5, -⟩ := wr_ai Dc4 (s_sz S) 4 3
    have ac5 := ac4.put rfl ec5
    have ic5 := li (n := 8) (5 : Int32) rfl (show 5 < 8 by decide) (by decide)
    obtain ⟨Dc6, ec6, -⟩ := wr_ai Dc5 (s_sz S) 5 4
    have ac6 := ac5.put rfl ec6
    have ic6 := li (n := 8) (6 : Int32) rfl (show 6 < 8 by decide) (by decide)
    obtain ⟨Dc7, ec7, -⟩ := wr_ai Dc6 (s_sz S) 6 17
    have ac7 := ac6.put rfl ec7
    have ic7 := li (n := 8) (7 : Int32) rfl (show 7 < 8 by decide) (by decide)
    obtain ⟨Dc8, ec8, -⟩ := wr_ai Dc7 (s_sz S) 7 3
    have ac8 := ac7.put rfl ec8
    have hOcb : Out (s_sz S) (s_sz S + 1) D Dc8 := ((((((((hOc.tr (ec1 ▸ Out.ai (by omega))).tr (ec2 ▸ Out.ai (by omega))).tr (ec3 ▸ Out.ai (by omega))).tr (ec4 ▸ Out.ai (by omega))).tr (ec5 ▸ Out.ai (by omega))).tr (ec6 ▸ Out.ai (by omega))).tr (ec7 ▸ Out.ai (by omega))).tr (ec8 ▸ Out.ai (by omega)))
    have hAc0 : AtO S Y D Dc8 := AtO.rf.tr (AtO.o hOcb (by omega))
    refine X_run rfl ?_ ?_
    · simp [md_s, md_w, rget, r_a, r_b, r_c, r_i, r_l, md_s, hnc, ic0, ec1, ic1, ec2, ic2, ec3, ic3, ec4, ic4, ec5, ic5, ec6, ic6, ec7, ic7, ec8]
    try simp only [md_s, md_w, rget_some, r_a, r_b, r_c, r_i, r_l, r_nx, r_pc, Nat.reduceEqDiff, false_and, if_false, md_s, hnc, ic0, ec1, ic1, ec2, ic2, ec3, ic3, ec4, ic4, ec5, ic5, ec6, ic6, ec7, ic7, ec8]
    refine X_cV (args := [.ref (s_sz S)]) rfl (by decide) hYc.1.1 rfl rfl (Nat.le_of_ble_eq_true rfl) (c_are (ks := [5, 11, 6, 11, 12, 11, 7, 12]) (r := r) hYc (by omega) (by have := hGc.1; omega) (hT.at hAc0 (by omega)) (by rw [(hOcb Y (by omega)).1]; exact hr) hrN (by decide) (by decide) hnc (fun j hj => by rw [ac8 j hj]; exact (show ∀ j, j < 8 → ([15, 4, 16, 4, 3, 4, 17, 3] : List Int32).getD j 0 = nI (rk (([5, 11, 6, 11, 12, 11, 7, 12] : List Nat).getD j 0)) by decide) j hj)) ?_
    rintro _ _ ⟨Dc, rfl, rfl, hatc, hBc⟩
    have hGGc : Gro S Sc 1 := hGc
    have hAc : AtO S Y D Dc := hAc0.tr (hBc.sub (by have := hGGc.1; omega))
    have hrc : (need (kdA T) [5, 11, 6, 11, 12, 11, 7, 12] (r)).2 ≤ tN T := need_in (kdA_N T) _ _ (by decide) hrN
    have sK : sentK (kdA T) r = andR (need (kdA T) [5, 11, 6, 11, 12, 11, 7, 12] r) (fun r => andR (opt (kdA T) 8 r) (need (kdA T) [13])) := by unfold sentK; simp [c5]
    cases hb : (need (kdA T) [5, 11, 6, 11, 12, 11, 7, 12] r).1 with
    | false =>
      have e0 : sentK (kdA T) r = (false, (need (kdA T) [5, 11, 6, 11, 12, 11, 7, 12] r).2) := by rw [sK]; unfold andR; rw [hb]; rw [if_neg (by decide)]; exact Prod.ext hb rfl
      refine X_if_ne rfl (fun c => absurd rfl c) (fun _ => ?_)
      refine X_run rfl trivial ?_
      exact X_zret rfl rfl (Or.inl rfl) (fin _ _ _ 1 e0 (by decide) hGGc hatc hAc)
    | true =>
      rw [show andR (need (kdA T) [5, 11, 6, 11, 12, 11, 7, 12] r) (fun r => andR (opt (kdA T) 8 r) (need (kdA T) [13])) = andR (opt (kdA T) 8 (need (kdA T) [5, 11, 6, 11, 12, 11, 7, 12] r).2) (need (kdA T) [13]) from if_pos hb] at sK
      generalize hu : (need (kdA T) [5, 11, 6, 11, 12, 11, 7, 12] r).2 = u at *
      have xu := vx (show u < 402 by omega) (by decide)
      have tyu := kdA_ty (hT.at hAc (by omega)) hrc
      obtain ⟨hyc, hzzc, -⟩ := id hYc
      refine X_if_ne rfl (fun _ => ?_) (fun c => absurd c (by decide))
      refine X_run rfl ?_ ?_
      · simp [md_s, md_w, rget, r_a, r_b, r_c, r_i, r_l, hyc, hzzc, hatc, xu, tyu]
      try simp only [md_s, md_w, rget_some, r_a, r_b, r_c, r_i, r_l, r_nx, r_pc, Nat.reduceEqDiff, false_and, if_false, hyc, hzzc, hatc, xu, tyu]
      refine X_icmp_ne rfl (fun c1 => ?_) (fun c1 => ?_)
      · have c1 : ¬ kdA T u = 8 := fun z => c1 (by rw [z]; rfl)
        rw [show opt (kdA T) 8 u = (true, u) from if_neg c1] at sK
        have sK : sentK (kdA T) r = need (kdA T) [13] u := sK
        refine X_run rfl trivial ?_
        refine X_newarray (N := 1) rfl (by decide) rfl (by decide) ?_
        obtain ⟨Scn, Dcn0, eNcn, hGcn, hncn, hOcn, -⟩ := new_md Sc Dc 20 1
        rw [show w_new (md Sc Dc) (0 + 20) 1 = md Scn Dcn0 from eNcn]
        have hYcn := hYc.gro hGcn hzc
        have hzcn : Y + 48 ≤ s_sz Scn := by have := hGcn.1; omega
        have acn0 : AryR Dcn0 (s_sz Sc) [] := fun j hj => absurd hj (Nat.not_lt_zero _)
        have icn0 := li (n := 1) (0 : Int32) rfl (show 0 < 1 by decide) (by decide)
        obtain ⟨Dcn1, ecn1, -⟩ := wr_ai Dcn0 (s_sz Sc) 0 2
        have acn1 := acn0.put rfl ecn1
        have hOcnb : Out (s_sz Sc) (s_sz Sc + 1) Dc Dcn1 := (hOcn.tr (ecn1 ▸ Out.ai (by omega)))
        have hAcn0 : AtO S Y D Dcn1 := hAc.tr (AtO.o hOcnb (by have := hGGc.1; omega))
        refine X_run rfl ?_ ?_
        · simp [md_s, md_w, rget, r_a, r_b, r_c, r_i, r_l, md_s, hncn, icn0, ecn1]
        try simp only [md_s, md_w, rget_some, r_a, r_b, r_c, r_i, r_l, r_nx, r_pc, Nat.reduceEqDiff, false_and, if_false, md_s, hncn, icn0, ecn1]
        refine X_cV (args := [.ref (s_sz Sc)]) rfl (by decide) hYcn.1.1 rfl rfl (Nat.le_of_ble_eq_true rfl) (c_are (ks := [13]) (r := u) hYcn (by omega) (by have := hGcn.1; omega) (hT.at hAcn0 (by omega)) (by rw [(hOcnb Y (by omega)).1]; exact hatc) hrc (by decide) (by decide) hncn (fun j hj => by rw [acn1 j hj]; exact (show ∀ j, j < 1 → ([2] : List Int32).getD j 0 = nI (rk (([13] : List Nat).getD j 0)) by decide) j hj)) ?_
        rintro _ _ ⟨Dcn, rfl, rfl, hatcn, hBcn⟩
        have hGGcn := hGGc.tr hGcn
        have hAcn : AtO S Y D Dcn := hAcn0.tr (hBcn.sub (by have := hGGcn.1; omega))
        have hrcn : (need (kdA T) [13] (u)).2 ≤ tN T := need_in (kdA_N T) _ _ (by decide) hrc
        have fl := fin _ Scn Dcn 2 sK (by decide) hGGcn hatcn hAcn
        cases hb9 : (need (kdA T) [13] u).1 with
        | false =>
          rw [hb9] at fl
          refine X_if_eq rfl (fun _ => ?_) (fun c => absurd rfl c)
          refine X_run rfl trivial ?_
          exact X_zret rfl rfl (Or.inl rfl) fl
        | true =>
          rw [hb9] at fl
          refine X_if_eq rfl (fun c => absurd c (by decide)) (fun _ => ?_)
          refine X_run rfl trivial ?_
          exact X_zret rfl rfl (Or.inr rfl) fl
      · have c1 : kdA T u = 8 := (rk_ne (by decide)).mp c1
        have eo : opt (kdA T) 8 u = need (kdA T) [8, 12] u := if_pos c1
        refine X_run rfl trivial ?_
        refine X_newarray (N := 2) rfl (by decide) rfl (by decide) ?_
        obtain ⟨Sco, Dco0, eNco, hGco, hnco, hOco, -⟩ := new_md Sc Dc 20 2
        rw [show w_new (md Sc Dc) (0 + 20) 2 = md Sco Dco0 from eNco]
        have hYco := hYc.gro hGco hzc
        have hzco : Y + 48 ≤ s_sz Sco := by have := hGco.1; omega
        have aco0 : AryR Dco0 (s_sz Sc) [] := fun j hj => absurd hj (Nat.not_lt_zero _)
        have ico0 := li (n := 2) (0 : Int32) rfl (show 0 < 2 by decide) (by decide)
        obtain ⟨Dco1, eco1, -⟩ := wr_ai Dco0 (s_sz Sc) 0 18
        have aco1 := aco0.put rfl eco1
        have ico1 := li (n := 2) (1 : Int32) rfl (show 1 < 2 by decide) (by decide)
        obtain ⟨Dco2, eco2, -⟩ := wr_ai Dco1 (s_sz Sc) 1 3
        have aco2 := aco1.put rfl eco2
        have hOcob : Out (s_sz Sc) (s_sz Sc + 1) Dc Dco2 := ((hOco.tr (eco1 ▸ Out.ai (by omega))).tr (eco2 ▸ Out.ai (by omega)))
        have hAco0 : AtO S Y D Dco2 := hAc.tr (AtO.o hOcob (by have := hGGc.1; omega))
        refine X_run rfl ?_ ?_
        · simp [md_s, md_w, rget, r_a, r_b, r_c, r_i, r_l, md_s, hnco, ico0, eco1, ico1, eco2]
        try simp only [md_s, md_w, rget_some, r_a, r_b, r_c, r_i, r_l, r_nx, r_pc, Nat.reduceEqDiff, false_and, if_false, md_s, hnco, ico0, eco1, ico1, eco2]
        refine X_cV (args := [.ref (s_sz Sc)]) rfl (by decide) hYco.1.1 rfl rfl (Nat.le_of_ble_eq_true rfl) (c_are (ks := [8, 12]) (r := u) hYco (by omega) (by have := hGco.1; omega) (hT.at hAco0 (by omega)) (by rw [(hOcob Y (by omega)).1]; exact hatc) hrc (by decide) (by decide) hnco (fun j hj => by rw [aco2 j hj]; exact (show ∀ j, j < 2 → ([18, 3] : List Int32).getD j 0 = nI (rk (([8, 12] : List Nat).getD j 0)) by decide) j hj)) ?_
        rintro _ _ ⟨Dco, rfl, rfl, hatco, hBco⟩
        have hGGco := hGGc.tr hGco
        have hAco : AtO S Y D Dco := hAco0.tr (hBco.sub (by have := hGGco.1; omega))
        have hrco : (need (kdA T) [8, 12] (u)).2 ≤ tN T := need_in (kdA_N T) _ _ (by decide) hrc
        rw [eo] at sK
        cases hb2 : (need (kdA T) [8, 12] u).1 with
        | false =>
          have e0 : sentK (kdA T) r = (false, (need (kdA T) [8, 12] u).2) := by rw [sK]; unfold andR; rw [hb2]; rw [if_neg (by decide)]; exact Prod.ext hb2 rfl
          refine X_if_eq rfl (fun _ => ?_) (fun c => absurd rfl c)
          refine X_run rfl trivial ?_
          exact X_zret rfl rfl (Or.inl rfl) (fin _ _ _ 2 e0 (by decide) hGGco hatco hAco)
        | true =>
          rw [show andR (need (kdA T) [8, 12] u) (need (kdA T) [13]) = need (kdA T) [13] (need (kdA T) [8, 12] u).2 from if_pos hb2] at sK
          generalize hu2 : (need (kdA T) [8, 12] u).2 = u2 at *
          refine X_if_eq rfl (fun c => absurd c (by decide)) (fun _ => ?_)
          refine X_run rfl trivial ?_
          refine X_newarray (N := 1) rfl (by decide) rfl (by decide) ?_
          obtain ⟨Scp, Dcp0, eNcp, hGcp, hncp, hOcp, -⟩ := new_md Sco Dco 20 1
          rw [show w_new (md Sco Dco) (0 + 20) 1 = md Scp Dcp0 from eNcp]
          have hYcp := hYco.gro hGcp hzco
          have hzcp : Y + 48 ≤ s_sz Scp := by have := hGcp.1; omega
          have acp0 : AryR Dcp0 (s_sz Sco) [] := fun j hj => absurd hj (Nat.not_lt_zero _)
          have icp0 := li (n := 1) (0 : Int32) rfl (show 0 < 1 by decide) (by decide)
          obtain ⟨Dcp1, ecp1, -⟩ := wr_ai Dcp0 (s_sz Sco) 0 2
          have acp1 := acp0.put rfl ecp1
          have hOcpb : Out (s_sz Sco) (s_sz Sco + 1) Dco Dcp1 := (hOcp.tr (ecp1 ▸ Out.ai (by omega)))
          have hAcp0 : AtO S Y D Dcp1 := hAco.tr (AtO.o hOcpb (by have := hGGco.1; omega))
          refine X_run rfl ?_ ?_
          · simp [md_s, md_w, rget, r_a, r_b, r_c, r_i, r_l, md_s, hncp, icp0, ecp1]
          try simp only [md_s, md_w, rget_some, r_a, r_b, r_c, r_i, r_l, r_nx, r_pc, Nat.reduceEqDiff, false_and, if_false, md_s, hncp, icp0, ecp1]
          refine X_cV (args := [.ref (s_sz Sco)]) rfl (by decide) hYcp.1.1 rfl rfl (Nat.le_of_ble_eq_true rfl) (c_are (ks := [13]) (r := u2) hYcp (by omega) (by have := hGcp.1; omega) (hT.at hAcp0 (by omega)) (by rw [(hOcpb Y (by omega)).1]; exact hatco) hrco (by decide) (by decide) hncp (fun j hj => by rw [acp1 j hj]; exact (show ∀ j, j < 1 → ([2] : List Int32).getD j 0 = nI (rk (([13] : List Nat).getD j 0)) by decide) j hj)) ?_
          rintro _ _ ⟨Dcp, rfl, rfl, hatcp, hBcp⟩
          have hGGcp := hGGco.tr hGcp
          have hAcp : AtO S Y D Dcp := hAcp0.tr (hBcp.sub (by have := hGGcp.1; omega))
          have hrcp : (need (kdA T) [13] (u2)).2 ≤ tN T := need_in (kdA_N T) _ _ (by decide) hrco
          have fl := fin _ Scp Dcp 3 sK (by decide) hGGcp hatcp hAcp
          cases hb9 : (need (kdA T) [13] u2).1 with
          | false =>
            rw [hb9] at fl
            refine X_if_eq rfl (fun _ => ?_) (fun c => absurd rfl c)
            refine X_run rfl trivial ?_
            exact X_zret rfl rfl (Or.inl rfl) fl
          | true =>
            rw [hb9] at fl
            refine X_if_eq rfl (fun c => absurd c (by decide)) (fun _ => ?_)
            refine X_run rfl trivial ?_
            exact X_zret rfl rfl (Or.inr rfl) fl
  by_cases c9 : kdA T r = 9
  · rw [c9]
    refine X_tsw (t := 286) (k0 := 9) rfl (by decide) (by decide) rfl rfl ?_
    have sK : sentK (kdA T) r = need (kdA T) [9, 12, 13] r := by unfold sentK; simp [c9]
    refine X_run rfl trivial ?_
    refine X_newarray (N := 3) rfl (by decide) rfl (by decide) ?_
    obtain ⟨Sf, Df0, eNf, hGf, hnf, hOf, -⟩ := new_md S D 20 3
    rw [show w_new (md S D) (0 + 20) 3 = md Sf Df0 from eNf]
    have hYf := hY.gro hGf hz
    have hzf : Y + 48 ≤ s_sz Sf := by have := hGf.1; omega
    have af0 : AryR Df0 (s_sz S) [] := fun j hj => absurd hj (Nat.not_lt_zero _)
    have if0 := li (n := 3) (0 : Int32) rfl (show 0 < 3 by decide) (by decide)
    obtain ⟨Df1, ef1, -⟩ := wr_ai Df0 (s_sz S) 0 19
    have af1 := af0.put rfl ef1
    have if1 := li (n := 3) (1 : Int32) rfl (show 1 < 3 by decide) (by decide)
    obtain ⟨Df2, ef2, -⟩ := wr_ai Df1 (s_sz S) 1 3
    have af2 := af1.put rfl ef2
    have if2 := li (n := 3) (2 : Int32) rfl (show 2 < 3 by decide) (by decide)
    obtain ⟨Df3, ef3, -⟩ := wr_ai Df2 (s_sz S) 2 2
    have af3 := af2.put rfl ef3
    have hOfb : Out (s_sz S) (s_sz S + 1) D Df3 := (((hOf.tr (ef1 ▸ Out.ai (by omega))).tr (ef2 ▸ Out.ai (by omega))).tr (ef3 ▸ Out.ai (by omega)))
    have hAf0 : AtO S Y D Df3 := AtO.rf.tr (AtO.o hOfb (by omega))
    refine X_run rfl ?_ ?_
    · simp [md_s, md_w, rget, r_a, r_b, r_c, r_i, r_l, md_s, hnf, if0, ef1, if1, ef2, if2, ef3]
    try simp only [md_s, md_w, rget_some, r_a, r_b, r_c, r_i, r_l, r_nx, r_pc, Nat.reduceEqDiff, false_and, if_false, md_s, hnf, if0, ef1, if1, ef2, if2, ef3]
    refine X_cV (args := [.ref (s_sz S)]) rfl (by decide) hYf.1.1 rfl rfl (Nat.le_of_ble_eq_true rfl) (c_are (ks := [9, 12, 13]) (r := r) hYf (by omega) (by have := hGf.1; omega) (hT.at hAf0 (by omega)) (by rw [(hOfb Y (by omega)).1]; exact hr) hrN (by decide) (by decide) hnf (fun j hj => by rw [af3 j hj]; exact (show ∀ j, j < 3 → ([19, 3, 2] : List Int32).getD j 0 = nI (rk (([9, 12, 13] : List Nat).getD j 0)) by decide) j hj)) ?_
    rintro _ _ ⟨Df, rfl, rfl, hatf, hBf⟩
    have hGGf : Gro S Sf 1 := hGf
    have hAf : AtO S Y D Df := hAf0.tr (hBf.sub (by have := hGGf.1; omega))
    have hrf : (need (kdA T) [9, 12, 13] (r)).2 ≤ tN T := need_in (kdA_N T) _ _ (by decide) hrN
    refine X_run rfl trivial ?_
    exact X_zret rfl rfl (b2i_01 _) (fin _ _ _ 1 sK (by decide) hGGf hatf hAf)
  by_cases c10 : kdA T r = 10
  · rw [c10]
    refine X_tsw (t := 307) (k0 := 10) rfl (by decide) (by decide) rfl rfl ?_
    have sK : sentK (kdA T) r = need (kdA T) [10, 12, 13] r := by unfold sentK; simp [c10]
    refine X_run rfl trivial ?_
    refine X_newarray (N := 3) rfl (by decide) rfl (by decide) ?_
    obtain ⟨Sh, Dh0, eNh, hGh, hnh, hOh, -⟩ := new_md S D 20 3
    rw [show w_new (md S D) (0 + 20) 3 = md Sh Dh0 from eNh]
    have hYh := hY.gro hGh hz
    have hzh : Y + 48 ≤ s_sz Sh := by have := hGh.1; omega
    have ah0 : AryR Dh0 (s_sz S) [] := fun j hj => absurd hj (Nat.not_lt_zero _)
    have ih0 := li (n := 3) (0 : Int32) rfl (show 0 < 3 by decide) (by decide)
    obtain ⟨Dh1, eh1, -⟩ := wr_ai Dh0 (s_sz S) 0 20
    have ah1 := ah0.put rfl eh1
    have ih1 := li (n := 3) (1 : Int32) rfl (show 1 < 3 by decide) (by decide)
    obtain ⟨Dh2, eh2, -⟩ := wr_ai Dh1 (s_sz S) 1 3
    have ah2 := ah1.put rfl eh2
    have ih2 := li (n := 3) (2 : Int32) rfl (show 2 < 3 by decide) (by decide)
    obtain ⟨Dh3, eh3, -⟩ := wr_ai Dh2 (s_sz S) 2 2
    have ah3 := ah2.put rfl eh3
    have hOhb : Out (s_sz S) (s_sz S + 1) D Dh3 := (((hOh.tr (eh1 ▸ Out.ai (by omega))).tr (eh2 ▸ Out.ai (by omega))).tr (eh3 ▸ Out.ai (by omega)))
    have hAh0 : AtO S Y D Dh3 := AtO.rf.tr (AtO.o hOhb (by omega))
    refine X_run rfl ?_ ?_
    · simp [md_s, md_w, rget, r_a, r_b, r_c, r_i, r_l, md_s, hnh, ih0, eh1, ih1, eh2, ih2, eh3]
    try simp only [md_s, md_w, rget_some, r_a, r_b, r_c, r_i, r_l, r_nx, r_pc, Nat.reduceEqDiff, false_and, if_false, md_s, hnh, ih0, eh1, ih1, eh2, ih2, eh3]
    refine X_cV (args := [.ref (s_sz S)]) rfl (by decide) hYh.1.1 rfl rfl (Nat.le_of_ble_eq_true rfl) (c_are (ks := [10, 12, 13]) (r := r) hYh (by omega) (by have := hGh.1; omega) (hT.at hAh0 (by omega)) (by rw [(hOhb Y (by omega)).1]; exact hr) hrN (by decide) (by decide) hnh (fun j hj => by rw [ah3 j hj]; exact (show ∀ j, j < 3 → ([20, 3, 2] : List Int32).getD j 0 = nI (rk (([10, 12, 13] : List Nat).getD j 0)) by decide) j hj)) ?_
    rintro _ _ ⟨Dh, rfl, rfl, hath, hBh⟩
    have hGGh : Gro S Sh 1 := hGh
    have hAh : AtO S Y D Dh := hAh0.tr (hBh.sub (by have := hGGh.1; omega))
    have hrh : (need (kdA T) [10, 12, 13] (r)).2 ≤ tN T := need_in (kdA_N T) _ _ (by decide) hrN
    refine X_run rfl trivial ?_
    exact X_zret rfl rfl (b2i_01 _) (fin _ _ _ 1 sK (by decide) hGGh hath hAh)
  have sK : sentK (kdA T) r = (false, r) := by unfold sentK; rw [if_neg c0, if_neg c2, if_neg c5, if_neg c9, if_neg c10]
  have oth := other _ rfl sK
  rcases (show kdA T r = 1 ∨ kdA T r = 3 ∨ kdA T r = 4 ∨ kdA T r = 6 ∨ kdA T r = 7 ∨ kdA T r = 8 ∨ 11 ≤ kdA T r by omega) with h | h | h | h | h | h | h

  · rw [h]
    exact X_tsw (t := 328) (k0 := 1) rfl (by decide) (by decide) rfl rfl (Eg.sub oth trivial)
  · rw [h]
    exact X_tsw (t := 328) (k0 := 3) rfl (by decide) (by decide) rfl rfl (Eg.sub oth trivial)
  · rw [h]
    exact X_tsw (t := 328) (k0 := 4) rfl (by decide) (by decide) rfl rfl (Eg.sub oth trivial)
  · rw [h]
    exact X_tsw (t := 328) (k0 := 6) rfl (by decide) (by decide) rfl rfl (Eg.sub oth trivial)
  · rw [h]
    exact X_tsw (t := 328) (k0 := 7) rfl (by decide) (by decide) rfl rfl (Eg.sub oth trivial)
  · rw [h]
    exact X_tsw (t := 328) (k0 := 8) rfl (by decide) (by decide) rfl rfl (Eg.sub oth trivial)
  · have hlt : rk (kdA T r) < 10 := (show ∀ k, k ≤ 15 → 11 ≤ k → rk k < 10 by decide) _ hle h
    exact X_tswD (t := 328) rfl (Or.inl (by rw [nI_toInt (by omega)]; omega)) rfl (Eg.sub oth trivial)
end REFSENT
