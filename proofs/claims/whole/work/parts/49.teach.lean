theorem tellS_err {T : List Nat} {K : KT} {s : Nat} {x : Nat × Nat} (h : tellS T K s = .error x) : 1 ≤ x.1 ∧ x.1 ≤ 6 := by
  unfold tellS at h
  split at h
  · unfold tellP at h
    split at h
    · cases h; exact ⟨Nat.le_of_ble_eq_true rfl, Nat.le_of_ble_eq_true rfl⟩
    split at h
    · cases h; exact ⟨Nat.le_of_ble_eq_true rfl, Nat.le_of_ble_eq_true rfl⟩
    split at h
    · split at h
      · cases h
      · cases h; exact ⟨Nat.le_of_ble_eq_true rfl, Nat.le_of_ble_eq_true rfl⟩
    · cases h
  split at h
  · unfold tellM at h
    split at h
    · cases h; exact ⟨Nat.le_of_ble_eq_true rfl, Nat.le_of_ble_eq_true rfl⟩
    split at h
    · cases h; exact ⟨Nat.le_of_ble_eq_true rfl, Nat.le_of_ble_eq_true rfl⟩
    split at h
    · cases h; exact ⟨Nat.le_of_ble_eq_true rfl, Nat.le_of_ble_eq_true rfl⟩
    split at h
    · cases h; exact ⟨Nat.le_of_ble_eq_true rfl, Nat.le_of_ble_eq_true rfl⟩
    · cases h
  split at h
  · unfold tellY at h
    split at h
    · cases h; exact ⟨Nat.le_of_ble_eq_true rfl, Nat.le_of_ble_eq_true rfl⟩
    split at h
    · cases h; exact ⟨Nat.le_of_ble_eq_true rfl, Nat.le_of_ble_eq_true rfl⟩
    split at h
    · cases h; exact ⟨Nat.le_of_ble_eq_true rfl, Nat.le_of_ble_eq_true rfl⟩
    unfold tellY2 at h
    split at h
    · cases h; exact ⟨Nat.le_of_ble_eq_true rfl, Nat.le_of_ble_eq_true rfl⟩
    split at h
    · cases h; exact ⟨Nat.le_of_ble_eq_true rfl, Nat.le_of_ble_eq_true rfl⟩
    split at h
    · cases h; exact ⟨Nat.le_of_ble_eq_true rfl, Nat.le_of_ble_eq_true rfl⟩
    unfold tellY3 at h
    split at h
    · cases h; exact ⟨Nat.le_of_ble_eq_true rfl, Nat.le_of_ble_eq_true rfl⟩
    split at h
    · split at h
      · cases h
      · cases h; exact ⟨Nat.le_of_ble_eq_true rfl, Nat.le_of_ble_eq_true rfl⟩
    · cases h
  split at h
  · unfold tellH at h
    split at h
    · cases h
    · cases h; exact ⟨Nat.le_of_ble_eq_true rfl, Nat.le_of_ble_eq_true rfl⟩
  split at h
  · unfold tellC at h
    split at h
    · cases h
    · cases h; exact ⟨Nat.le_of_ble_eq_true rfl, Nat.le_of_ble_eq_true rfl⟩
  cases h
theorem tellR_err {T : List Nat} {x : Nat × Nat} : ∀ (n : Nat) (K : KT) (s : Nat), tellR T n K s = .error x → 1 ≤ x.1 ∧ x.1 ≤ 6
  | 0, K, s, h => by cases h
  | n + 1, K, s, h => by
    rw [tellR] at h
    split at h
    · cases h
    split at h
    · rename_i y hy
      cases h
      exact tellS_err hy
    · exact tellR_err n _ _ h
theorem tellR_ok {T : List Nat} {e : Nat} : ∀ (n : Nat) (K K1 : KT) (s : Nat), WfK K → WrK K → textR (kdA T) n s = (true, e) → tellR T n K s = .ok K1 → WfK K1 ∧ WrK K1
  | 0, K, K1, s, hW, hK, _, h => by cases h; exact ⟨hW, hK⟩
  | n + 1, K, K1, s, hW, hK, ht, h => by
    rw [tellR] at h
    split at h
    · cases h; exact ⟨hW, hK⟩
    rename_i hs
    obtain ⟨e1, h1, h2⟩ := textR_t ht hs
    split at h
    · cases h
    · rename_i K2 hK2
      rw [h1] at h
      obtain ⟨g1, g2⟩ := tellS_ok hW hK (sent_VS h1) hK2
      exact tellR_ok n _ _ _ g1 g2 h2 h
theorem teachR_ok {T : List Nat} {K : KT} (hW : WfK K) (hK : WrK K) : WfK (teachR T K).2.2 ∧ WrK (teachR T K).2.2 := by
  unfold teachR
  split
  · rename_i ht
    generalize hz : textR (kdA T) (tN T + 1) 0 = z at ht
    obtain ⟨b, e⟩ := z
    change b = true at ht
    subst ht
    split
    · exact ⟨hW, hK⟩
    · rename_i K1 h1
      exact tellR_ok _ _ _ _ hW hK hz h1
  · exact ⟨hW, hK⟩
section TEACH
variable {g : GG} {d : Nat} {S : ShT} {D : DaT} {U B X : Nat} {T : List Nat} {K : KT} {s e : Nat}
theorem c_tokenCount {Z : Nat} (hZ : TxL S Z) (hR : TkR D Z T) : EvM g d mX8_tokenCount 0 0 [.ref Z] (md S D) (fun v M1 => M1 = md S D ∧ v = some (.int (nI (tN T + 1)))) := by
  have hz := hZ.1
  refine EvM.mk (by decide) (Nat.le_of_ble_eq_true rfl) ?_
  refine X_run rfl ?_ ?_
  · simp [md_s, md_w, rget, r_a, r_b, r_c, r_i, r_l, hz, hR.1]
  try simp only [md_s, md_w, rget_some, r_a, r_b, r_c, r_i, r_l, r_nx, r_pc, Nat.reduceEqDiff, false_and, if_false, hz, hR.1]
  exact X_iret rfl rfl ⟨rfl, rfl⟩
theorem c_placeReached {Z r : Nat} (hZ : TxL S Z) (hR : TkR D Z T) (hr : d_fi D 261 Z = nI r) (hr2 : r ≤ tN T) : EvM g (d + 1) mX8_placeReached 0 0 [.ref Z] (md S D) (fun v M1 => M1 = md S D ∧ v = some (.int (nI (pl T r)))) := by
  have hz := hZ.1
  refine EvM.mk (by decide) (Nat.le_of_ble_eq_true rfl) ?_
  refine X_run rfl ?_ ?_
  · simp [md_s, md_w, rget, r_a, r_b, r_c, r_i, r_l, hz, hr]
  try simp only [md_s, md_w, rget_some, r_a, r_b, r_c, r_i, r_l, r_nx, r_pc, Nat.reduceEqDiff, false_and, if_false, hz, hr]
  refine X_cV (args := [.int (nI r)]) rfl (by decide) hz.1 rfl rfl (Nat.le_of_ble_eq_true rfl) (c_placeAt hZ hR hr2) ?_
  rintro _ _ ⟨rfl, rfl⟩
  refine X_run rfl trivial ?_
  exact X_iret rfl rfl ⟨rfl, rfl⟩
theorem c_tellSentence (hZ : TxL S (U + 1)) (hU : TlL S U) (hL : BkL S B) (hd : U + 7 ≤ B) (hW : WfK K) (hK : WrK K) (hR : TkR D (U + 1) T) (hC : RepC D B K) (hs : d_fi D 227 U = nI s) (he : d_fi D 226 U = 0) (hV : VS (kdA T) s e) : EvM g (d + 4) mX7_tellSentence 0 0 [.ref U, .ref B] (md S D) (TlP S D U B T s (tellS T K s)) := by
  have hu := hU
  unfold TlL at hu
  have hN := tN_le T
  have hsN : s < 2 ^ 31 := by
    have : kdA T s ≤ 13 := by
      rcases hV with h | h | h | h | h <;> (have := h.1; omega)
    have := (kdA_lo rfl this).1
    omega
  refine EvM.mk (by decide) (Nat.le_of_ble_eq_true rfl) ?_
  refine X_run rfl ?_ ?_
  · simp [md_s, md_w, rget, r_a, r_b, r_c, r_i, r_l, hu, hs]
  try simp only [md_s, md_w, rget_some, r_a, r_b, r_c, r_i, r_l, r_nx, r_pc, Nat.reduceEqDiff, false_and, if_false, hu, hs]
  refine X_cV (args := [.int (nI s)]) rfl (by decide) hZ.1.1 rfl rfl (Nat.le_of_ble_eq_true rfl) (c_kindAt hZ hR hsN) ?_
  rintro _ _ ⟨rfl, rfl⟩
  unfold tellS
  rcases hV with ⟨a0, a1, hV⟩ | ⟨a0, a1, a2, a3, a4, a5, a6, rfl⟩ | ⟨a0, a1, a2, a3, a4, a5, a6, a7, hV⟩ | ⟨a0, a1, a2, rfl⟩ | ⟨a0, a1, a2, rfl⟩
  · rw [a0, if_pos rfl]
    refine X_tsw (t := 68) (k0 := 0) rfl (by decide) (by decide) rfl rfl ?_
    refine X_run rfl trivial ?_
    refine X_cV (args := [.ref B]) rfl (by decide) hu.1 rfl rfl (Nat.le_of_ble_eq_true rfl) (c_tellParty hZ hU hL hd hW hK hR hC hs he a1 (by
      rcases hV with h | h
      · exact Or.inl ⟨h.1, h.2.1⟩
      · exact Or.inr ⟨by omega, h.1⟩)) ?_
    intro v M1 h
    obtain ⟨D1, rfl, rfl, h⟩ := h
    refine X_run rfl trivial ?_
    exact X_vret rfl rfl ⟨D1, rfl, rfl, h⟩
  · rw [a0, if_neg (by decide), if_pos rfl]
    refine X_tsw (t := 76) (k0 := 2) rfl (by decide) (by decide) rfl rfl ?_
    refine X_run rfl trivial ?_
    refine X_cV (args := [.ref B]) rfl (by decide) hu.1 rfl rfl (Nat.le_of_ble_eq_true rfl) (c_tellMoney hZ hU hL hd hW hK hR hC hs he a1 a3 a5) ?_
    intro v M1 h
    obtain ⟨D1, rfl, rfl, h⟩ := h
    refine X_run rfl trivial ?_
    exact X_vret rfl rfl ⟨D1, rfl, rfl, h⟩
  · rw [a0, if_neg (by decide), if_neg (by decide), if_pos rfl]
    refine X_tsw (t := 84) (k0 := 5) rfl (by decide) (by decide) rfl rfl ?_
    refine X_run rfl trivial ?_
    refine X_cV (args := [.ref B]) rfl (by decide) hu.1 rfl rfl (Nat.le_of_ble_eq_true rfl) (c_tellPay hZ hU hL hd hW hK hR hC hs he a1 a3 a4 a5 a7 (by
      rcases hV with h | h
      · exact Or.inl ⟨h.1, h.2.1⟩
      · exact Or.inr h.1)) ?_
    intro v M1 h
    obtain ⟨D1, rfl, rfl, h⟩ := h
    refine X_run rfl trivial ?_
    exact X_vret rfl rfl ⟨D1, rfl, rfl, h⟩
  · rw [a0, if_neg (by decide), if_neg (by decide), if_neg (by decide), if_pos rfl]
    refine X_tsw (t := 92) (k0 := 9) rfl (by decide) (by decide) rfl rfl ?_
    refine X_run rfl trivial ?_
    refine X_cV (args := [.ref B]) rfl (by decide) hu.1 rfl rfl (Nat.le_of_ble_eq_true rfl) (c_tellHold hZ hU hL hd hW hR hC hs he a1) ?_
    intro v M1 h
    obtain ⟨D1, rfl, rfl, h⟩ := h
    refine X_run rfl trivial ?_
    exact X_vret rfl rfl ⟨D1, rfl, rfl, h⟩
  · rw [a0, if_neg (by decide), if_neg (by decide), if_neg (by decide), if_neg (by decide), if_pos rfl]
    refine X_tsw (t := 100) (k0 := 10) rfl (by decide) (by decide) rfl rfl ?_
    refine X_run rfl trivial ?_
    refine X_cV (args := [.ref B]) rfl (by decide) hu.1 rfl rfl (Nat.le_of_ble_eq_true rfl) (c_tellCancel hZ hU hL hd hW hR hC hs he a1) ?_
    intro v M1 h
    obtain ⟨D1, rfl, rfl, h⟩ := h
    refine X_run rfl trivial ?_
    exact X_vret rfl rfl ⟨D1, rfl, rfl, h⟩
theorem c_goBehind (hZ : TxL S (U + 1)) (hU : TlL S U) (hR : TkR D (U + 1) T) (hs : d_fi D 227 U = nI s) (hV : VS (kdA T) s e) : EvM g (d + 1) mX7_goBehindSentence 0 0 [.ref U] (md S D) (fun v M1 => ∃ D1, v = none ∧ M1 = md S D1 ∧ d_fi D1 227 U = nI e ∧ d_fi D1 226 U = d_fi D 226 U ∧ d_fi D1 225 U = d_fi D 225 U ∧ Out U (U + 1) D D1) := by
  have hu := hU
  unfold TlL at hu
  obtain ⟨v1, v2, v3⟩ := hV.semi
  have hN := tN_le T
  have hz := hZ.1
  obtain ⟨l2, -⟩ := kdA_lo v2 (by decide)
  have key : ∀ (n j : Nat) D', e - 1 - j = n → s ≤ j → j ≤ e - 1 → d_fi D' 227 U = nI j → d_fi D' 226 U = d_fi D 226 U → d_fi D' 225 U = d_fi D 225 U → Out U (U + 1) D D' → Eg g (d + 1) mX7_goBehindSentence 0 0 (Zr g (fun v M1 => ∃ D1, v = none ∧ M1 = md S D1 ∧ d_fi D1 227 U = nI e ∧ d_fi D1 226 U = d_fi D 226 U ∧ d_fi D1 225 U = d_fi D 225 U ∧ Out U (U + 1) D D1)) 0 [(0, .ref U)] [] (md S D') := by
    intro n
    induction n with
    | zero =>
      intro j D' hn h1 h2 f1 f2 f3 hO
      have hj : j = e - 1 := by omega
      subst hj
      have hR' : TkR D' (U + 1) T := hR.out hO (by omega)
      have hc := hR'.1
      refine X_run rfl ?_ ?_
      · simp [md_s, md_w, rget, r_a, r_b, r_c, r_i, r_l, hu, f1]
      try simp only [md_s, md_w, rget_some, r_a, r_b, r_c, r_i, r_l, r_nx, r_pc, Nat.reduceEqDiff, false_and, if_false, hu, f1]
      refine X_cV rfl (by decide) hz.1 rfl rfl (Nat.le_of_ble_eq_true rfl) (c_tokenCount hZ hR') ?_
      rintro _ _ ⟨rfl, rfl⟩
      refine X_icmp_ge rfl (fun c1 => no_le c1 (by omega) (by omega)) (fun c1 => ?_)
      refine X_run rfl ?_ ?_
      · simp [md_s, md_w, rget, r_a, r_b, r_c, r_i, r_l, hu, f1]
      try simp only [md_s, md_w, rget_some, r_a, r_b, r_c, r_i, r_l, r_nx, r_pc, Nat.reduceEqDiff, false_and, if_false, hu, f1]
      refine X_cV (args := [.int (nI (e - 1))]) rfl (by decide) hz.1 rfl rfl (Nat.le_of_ble_eq_true rfl) (c_kindAt hZ hR' (by omega)) ?_
      rintro _ _ ⟨rfl, rfl⟩
      rw [v2]
      refine X_run rfl trivial ?_
      refine X_icmp_eq rfl (fun c2 => ?_) (fun c2 => absurd rfl c2)
      have e1 : nI (e - 1) + 1 = nI e := by rw [nI_s1, show e - 1 + 1 = e by omega]
      refine X_run rfl ?_ ?_
      · simp [md_s, md_w, rget, r_a, r_b, r_c, r_i, r_l, hu, f1, e1]
      try simp only [md_s, md_w, rget_some, r_a, r_b, r_c, r_i, r_l, r_nx, r_pc, Nat.reduceEqDiff, false_and, if_false, hu, f1, e1]
      exact X_vret rfl rfl ⟨_, rfl, rfl, by simp [rd_fi], by simp [rd_fi, f2], by simp [rd_fi, f3], hO.tr (Out.fi (by omega))⟩
    | succ n ih =>
      intro j D' hn h1 h2 f1 f2 f3 hO
      have hR' : TkR D' (U + 1) T := hR.out hO (by omega)
      have hle := kdA_le T j
      refine X_run rfl ?_ ?_
      · simp [md_s, md_w, rget, r_a, r_b, r_c, r_i, r_l, hu, f1]
      try simp only [md_s, md_w, rget_some, r_a, r_b, r_c, r_i, r_l, r_nx, r_pc, Nat.reduceEqDiff, false_and, if_false, hu, f1]
      refine X_cV rfl (by decide) hz.1 rfl rfl (Nat.le_of_ble_eq_true rfl) (c_tokenCount hZ hR') ?_
      rintro _ _ ⟨rfl, rfl⟩
      refine X_icmp_ge rfl (fun c1 => no_le c1 (by omega) (by omega)) (fun c1 => ?_)
      refine X_run rfl ?_ ?_
      · simp [md_s, md_w, rget, r_a, r_b, r_c, r_i, r_l, hu, f1]
      try simp only [md_s, md_w, rget_some, r_a, r_b, r_c, r_i, r_l, r_nx, r_pc, Nat.reduceEqDiff, false_and, if_false, hu, f1]
      refine X_cV (args := [.int (nI j)]) rfl (by decide) hz.1 rfl rfl (Nat.le_of_ble_eq_true rfl) (c_kindAt hZ hR' (by omega)) ?_
      rintro _ _ ⟨rfl, rfl⟩
      refine X_run rfl trivial ?_
      refine X_icmp_eq rfl (fun c2 => absurd ((nI_eq (b := 13) (by omega) (by omega)).mp c2) (v3 j h1 (by omega))) (fun c2 => ?_)
      refine X_run rfl ?_ ?_
      · simp [md_s, md_w, rget, r_a, r_b, r_c, r_i, r_l, hu, f1, nI_s1]
      try simp only [md_s, md_w, rget_some, r_a, r_b, r_c, r_i, r_l, r_nx, r_pc, Nat.reduceEqDiff, false_and, if_false, hu, f1, nI_s1]
      exact ih (j + 1) _ (by omega) (by omega) (by omega) (by simp [rd_fi]) (by simp [rd_fi, f2]) (by simp [rd_fi, f3]) (hO.tr (Out.fi (by omega)))
  refine EvM.mk (by decide) (Nat.le_of_ble_eq_true rfl) ?_
  exact key _ s D rfl (Nat.le_refl _) (by omega) hs rfl rfl Out.rf
def TaP (S : ShT) (D : DaT) (U B : Nat) (T : List Nat) (res : TlR) : Option Value → Mem → Prop := fun v M1 => ∃ D1, M1 = md S D1 ∧ OutT U B D D1 ∧ match res with
  | .ok K1 => v = some (.int 0) ∧ RepC D1 B K1
  | .error x => v = some (.int (nI x.1)) ∧ d_fi D1 225 U = nI (pl T x.2)
theorem c_tellAll {e0 : Nat} (hZ : TxL S (U + 1)) (hU : TlL S U) (hL : BkL S B) (hd : U + 7 ≤ B) (hW : WfK K) (hK : WrK K) (hR : TkR D (U + 1) T) (hC : RepC D B K) (ht : textR (kdA T) (tN T + 1) 0 = (true, e0)) : EvM g (d + 5) mX7_tellAll 0 0 [.ref U, .ref B] (md S D) (TaP S D U B T (tellR T (tN T + 1) K 0)) := by
  have hu := hU
  unfold TlL at hu
  have hz := hZ.1
  have hN := tN_le T
  obtain ⟨D1, e1, z1, y1⟩ := wr_fi D 226 U 0
  obtain ⟨D2, e2, z2, y2⟩ := wr_fi D1 225 U (-1)
  obtain ⟨D3, e3, z3, y3⟩ := wr_fi D2 227 U 0
  have hO3 : Out U (U + 1) D D3 := ((e1 ▸ Out.fi (by omega) : Out U (U + 1) D D1).tr (e2 ▸ Out.fi (by omega))).tr (e3 ▸ Out.fi (by omega))
  have hT3 : OutT U B D D3 := fun a h1 _ => hO3 a (by omega)
  have hR3 : TkR D3 (U + 1) T := hR.out hO3 (by omega)
  have hC3 : RepC D3 B K := hC.out hW hO3 (by omega)
  refine EvM.mk (by decide) (Nat.le_of_ble_eq_true rfl) ?_
  refine X_run rfl ?_ ?_
  · simp [md_s, md_w, rget, r_a, r_b, r_c, r_i, r_l, hu, e1, e2, e3]
  try simp only [md_s, md_w, rget_some, r_a, r_b, r_c, r_i, r_l, r_nx, r_pc, Nat.reduceEqDiff, false_and, if_false, hu, e1, e2, e3]
  refine X_cV rfl (by decide) hz.1 rfl rfl (Nat.le_of_ble_eq_true rfl) (c_tokenCount hZ hR3) ?_
  rintro _ _ ⟨rfl, rfl⟩
  refine X_run rfl trivial ?_
  have key : ∀ (n s' : Nat) K' D', n ≤ tN T + 1 → tellR T n K' s' = tellR T (tN T + 1) K 0 → textR (kdA T) n s' = (true, e0) → s' ≤ tN T → WfK K' → WrK K' → d_fi D' 227 U = nI s' → d_fi D' 226 U = 0 → TkR D' (U + 1) T → RepC D' B K' → OutT U B D D' → Eg g (d + 5) mX7_tellAll 0 0 (Zr g (TaP S D U B T (tellR T (tN T + 1) K 0))) 25 [(0, .ref U), (1, .ref B), (2, .int (nI (tN T + 1))), (3, .int (nI (tN T + 1 - n)))] [] (md S D') := by
    intro n
    induction n with
    | zero =>
      intro s' K' D' hn hres htx hsN hW' hK' f1 f2 hR' hC' hO'
      refine X_run rfl trivial ?_
      refine X_icmp_ge rfl (fun c1 => ?_) (fun c1 => no_nle c1 (by omega) (by omega))
      refine X_run rfl ?_ ?_
      · simp [md_s, md_w, rget, r_a, r_b, r_c, r_i, r_l, hu, f2]
      try simp only [md_s, md_w, rget_some, r_a, r_b, r_c, r_i, r_l, r_nx, r_pc, Nat.reduceEqDiff, false_and, if_false, hu, f2]
      refine X_iret rfl rfl ⟨D', rfl, hO', ?_⟩
      rw [← hres]
      exact ⟨rfl, hC'⟩
    | succ n ih =>
      intro s' K' D' hn hres htx hsN hW' hK' f1 f2 hR' hC' hO'
      have hle := kdA_le T s'
      refine X_run rfl trivial ?_
      refine X_icmp_ge rfl (fun c1 => no_le c1 (by omega) (by omega)) (fun c1 => ?_)
      refine X_run rfl ?_ ?_
      · simp [md_s, md_w, rget, r_a, r_b, r_c, r_i, r_l, hu, f2]
      try simp only [md_s, md_w, rget_some, r_a, r_b, r_c, r_i, r_l, r_nx, r_pc, Nat.reduceEqDiff, false_and, if_false, hu, f2]
      refine X_if_ne rfl (fun c2 => absurd rfl c2) (fun c2 => ?_)
      refine X_run rfl ?_ ?_
      · simp [md_s, md_w, rget, r_a, r_b, r_c, r_i, r_l, hu, f1]
      try simp only [md_s, md_w, rget_some, r_a, r_b, r_c, r_i, r_l, r_nx, r_pc, Nat.reduceEqDiff, false_and, if_false, hu, f1]
      refine X_cV (args := [.int (nI s')]) rfl (by decide) hz.1 rfl rfl (Nat.le_of_ble_eq_true rfl) (c_kindAt hZ hR' (by omega)) ?_
      rintro _ _ ⟨rfl, rfl⟩
      refine X_run rfl trivial ?_
      rw [tellR] at hres
      refine X_icmp_eq rfl (fun c3 => ?_) (fun c3 => ?_)
      · have c3 : kdA T s' = 14 := (nI_eq (b := 14) (by omega) (by omega)).mp c3
        rw [if_pos c3] at hres
        refine X_run rfl ?_ ?_
        · simp [md_s, md_w, rget, r_a, r_b, r_c, r_i, r_l, hu, f2]
        try simp only [md_s, md_w, rget_some, r_a, r_b, r_c, r_i, r_l, r_nx, r_pc, Nat.reduceEqDiff, false_and, if_false, hu, f2]
        refine X_iret rfl rfl ⟨D', rfl, hO', ?_⟩
        rw [← hres]
        exact ⟨rfl, hC'⟩
      · have c3 : ¬ kdA T s' = 14 := fun z => c3 (by rw [z]; rfl)
        rw [if_neg c3] at hres
        obtain ⟨ee, h1, h2⟩ := textR_t htx c3
        have hV := sent_VS h1
        have hin := sent_in (kdA_N T) hsN
        rw [h1] at hin hres
        refine X_run rfl trivial ?_
        refine X_cV (args := [.ref B]) rfl (by decide) hu.1 rfl rfl (Nat.le_of_ble_eq_true rfl) (c_tellSentence hZ hU hL hd hW' hK' hR' hC' f1 f2 hV) ?_
        rintro _ _ ⟨D4, rfl, rfl, hR4, g1, hok, hO4⟩
        refine X_run rfl trivial ?_
        refine X_cV rfl (by decide) hu.1 rfl rfl (Nat.le_of_ble_eq_true rfl) (c_goBehind hZ hU hR4 g1 hV) ?_
        rintro _ _ ⟨D5, rfl, rfl, g2, g3, g4, hO5⟩
        have hR5 : TkR D5 (U + 1) T := hR4.out hO5 (by omega)
        have hT5 : OutT U B D D5 := (hO'.tr hO4).tr (fun a h1 _ => hO5 a (by omega))
        cases hS : tellS T K' s' with
        | error x =>
          rw [hS] at hok hres
          have hx := tellS_err hS
          have g5 : d_fi D5 226 U = nI x.1 := g3.trans hok.1
          refine X_run rfl ?_ ?_
          · simp [md_s, md_w, rget, r_a, r_b, r_c, r_i, r_l, nI_s1]
          try simp only [md_s, md_w, rget_some, r_a, r_b, r_c, r_i, r_l, r_nx, r_pc, Nat.reduceEqDiff, false_and, if_false, nI_s1]
          refine X_run rfl trivial ?_
          refine X_icmp_ge rfl (fun c4 => ?_) (fun c4 => ?_)
          · refine X_run rfl ?_ ?_
            · simp [md_s, md_w, rget, r_a, r_b, r_c, r_i, r_l, hu, g5]
            try simp only [md_s, md_w, rget_some, r_a, r_b, r_c, r_i, r_l, r_nx, r_pc, Nat.reduceEqDiff, false_and, if_false, hu, g5]
            refine X_iret rfl rfl ⟨D5, rfl, hT5, ?_⟩
            rw [← hres]
            exact ⟨rfl, g4.trans hok.2⟩
          · refine X_run rfl ?_ ?_
            · simp [md_s, md_w, rget, r_a, r_b, r_c, r_i, r_l, hu, g5]
            try simp only [md_s, md_w, rget_some, r_a, r_b, r_c, r_i, r_l, r_nx, r_pc, Nat.reduceEqDiff, false_and, if_false, hu, g5]
            refine X_if_ne rfl (fun c5 => ?_) (fun c5 => absurd c5 (nI_ne0 (by omega) (by omega)))
            refine X_run rfl ?_ ?_
            · simp [md_s, md_w, rget, r_a, r_b, r_c, r_i, r_l, hu, g5]
            try simp only [md_s, md_w, rget_some, r_a, r_b, r_c, r_i, r_l, r_nx, r_pc, Nat.reduceEqDiff, false_and, if_false, hu, g5]
            refine X_iret rfl rfl ⟨D5, rfl, hT5, ?_⟩
            rw [← hres]
            exact ⟨rfl, g4.trans hok.2⟩
        | ok K1 =>
          rw [hS] at hok hres
          obtain ⟨gw, gk⟩ := tellS_ok hW' hK' hV hS
          refine X_run rfl ?_ ?_
          · simp [md_s, md_w, rget, r_a, r_b, r_c, r_i, r_l, nI_s1]
          try simp only [md_s, md_w, rget_some, r_a, r_b, r_c, r_i, r_l, r_nx, r_pc, Nat.reduceEqDiff, false_and, if_false, nI_s1]
          exact Eg.sub (ih ee K1 D5 (by omega) hres h2 hin gw gk g2 (g3.trans hok.2) hR5 (hok.1.out gw hO5 (by omega)) hT5) ⟨rfl, rfl, rfl, by rw [show tN T + 1 - (n + 1) + 1 = tN T + 1 - n by omega]; rfl, trivial⟩
  exact Eg.sub (key (tN T + 1) 0 K D3 (Nat.le_refl _) rfl ht (Nat.zero_le _) hW hK (by simp [z3]; rfl) (by simp [z3, z2, z1]) hR3 hC3 hT3) ⟨rfl, rfl, rfl, by rw [Nat.sub_self]; rfl, trivial⟩
theorem c_teach (hX : DkL S X) (hU : TlL S (X + 1)) (hZ : TxL S (X + 2)) (hg : gKa g < X) (hKw : KwL g S D) (hW : WfK K) (hK : WrK K) (hR : RepC D (X + 11) K) (hB : BrR D (X + 3) T) (hl : T.length ≤ 2000) : EvM g (d + 6) mX9_teach 0 0 [.ref X] (md S D) (fun v M1 => ∃ D1, v = some (.int (nI (teachR T K).1)) ∧ M1 = md S D1 ∧ RepC D1 (X + 11) (teachR T K).2.2 ∧ d_fi D1 297 X = (teachR T K).2.1 ∧ BrR D1 (X + 3) [] ∧ (∀ P, BrR D (X + 8) P → BrR D1 (X + 8) P) ∧ Out X (X + 290) D D1) := by
  obtain ⟨hx, hP, -, hN, hL, hN2, hL2, -⟩ := id hX
  have hz := hZ.1
  have hp := hP.1
  have hu := hU
  unfold TlL at hu
  have hNN := tN_le T
  have last : ∀ (err : Nat) (K1 : KT) D', teachR T K = (err, d_fi D' 297 X, K1) → RepC D' (X + 11) K1 → WfK K1 → (∀ P, BrR D (X + 8) P → BrR D' (X + 8) P) → Out X (X + 290) D D' → Eg g (d + 6) mX9_teach 0 0 (Zr g (fun v M1 => ∃ D1, v = some (.int (nI (teachR T K).1)) ∧ M1 = md S D1 ∧ RepC D1 (X + 11) (teachR T K).2.2 ∧ d_fi D1 297 X = (teachR T K).2.1 ∧ BrR D1 (X + 3) [] ∧ (∀ P, BrR D (X + 8) P → BrR D1 (X + 8) P) ∧ Out X (X + 290) D D1)) 101 [] [.int (nI err)] (md S (pfi D' 33 (X + 3) 0)) := fun err K1 D' e h1 h2 h3 h4 => by
    have o1 : Out (X + 3) (X + 4) D' (pfi D' 33 (X + 3) 0) := Out.fi (by omega)
    refine X_iret rfl rfl ⟨_, by rw [e], rfl, ?_, ?_, ?_, fun P hP' => (h3 P hP').out o1 (by omega), h4.tr (o1.wide (by omega) (by omega))⟩
    · rw [e]; exact h1.out h2 o1 (by omega)
    · rw [e]; simp [rd_fi]
    · exact ⟨by simp [rd_fi]; rfl, fun i hi => absurd hi (Nat.not_lt_zero i), fun b hb => by cases hb⟩
  refine EvM.mk (by decide) (Nat.le_of_ble_eq_true rfl) ?_
  obtain ⟨D1, e1, z1, y1⟩ := wr_fi D 297 X (-1)
  have o1 : Out X (X + 1) D D1 := e1 ▸ Out.fi (by omega)
  refine X_run rfl ?_ ?_
  · simp [md_s, md_w, rget, r_a, r_b, r_c, r_i, r_l, hx, e1]
  try simp only [md_s, md_w, rget_some, r_a, r_b, r_c, r_i, r_l, r_nx, r_pc, Nat.reduceEqDiff, false_and, if_false, hx, e1]
  have hKw1 : KwL g S D1 := hKw.out o1 hg
  have hB1 : BrR D1 (X + 3) T := hB.out o1 (by omega)
  refine X_cV rfl (by decide) hz.1 rfl rfl (Nat.le_of_ble_eq_true rfl) (c_readTokens hZ hKw1 (by omega) hB1 hl) ?_
  rintro _ _ ⟨D2, rfl, rfl, c2, a2, hB2, o2⟩
  have hR2 : TkR D2 (X + 2) T := ⟨c2, a2⟩
  refine X_run rfl ?_ ?_
  · simp [md_s, md_w, rget, r_a, r_b, r_c, r_i, r_l, hx]
  try simp only [md_s, md_w, rget_some, r_a, r_b, r_c, r_i, r_l, r_nx, r_pc, Nat.reduceEqDiff, false_and, if_false, hx]
  refine X_cV rfl (by decide) hz.1 rfl rfl (Nat.le_of_ble_eq_true rfl) (c_isText hZ hR2) ?_
  rintro _ _ ⟨D3, rfl, rfl, g1, hR3, o3⟩
  have oA : Out X (X + 8) D D3 := ((o1.wide (by omega) (by omega)).tr (o2.wide (by omega) (by omega))).tr (o3.wide (by omega) (by omega))
  have hC3 : RepC D3 (X + 11) K := hR.out hW oA (by omega)
  have hPp3 : ∀ P, BrR D (X + 8) P → BrR D3 (X + 8) P := fun P h => h.out oA (by omega)
  have hin := text_in (f := kdA T) (kdA_N T) (tN T + 1) 0 (Nat.zero_le _)
  have hE : d_fi D3 297 X = -1 := by
    rw [(o3 X (by omega)).1, (o2 X (by omega)).1, z1, if_pos ⟨rfl, rfl⟩]
  have hteach : teachR T K = if (textR (kdA T) (tN T + 1) 0).1 = true then (match tellR T (tN T + 1) K 0 with
    | .error x => (x.1, nI (pl T x.2), K)
    | .ok K1 => (0, -1, K1))
  else (1, nI (pl T (textR (kdA T) (tN T + 1) 0).2), K) := rfl
  generalize htx : textR (kdA T) (tN T + 1) 0 = tx at hin g1 hteach ⊢
  obtain ⟨b, r⟩ := tx
  cases b with
  | false =>
    rw [if_neg (show ¬ (false, r).1 = true from Bool.false_ne_true)] at hteach
    refine X_if_ne rfl (fun c => absurd rfl c) (fun c => ?_)
    refine X_run rfl ?_ ?_
    · simp [md_s, md_w, rget, r_a, r_b, r_c, r_i, r_l, hx]
    try simp only [md_s, md_w, rget_some, r_a, r_b, r_c, r_i, r_l, r_nx, r_pc, Nat.reduceEqDiff, false_and, if_false, hx]
    refine X_cV rfl (by decide) hz.1 rfl rfl (Nat.le_of_ble_eq_true rfl) (c_placeReached hZ hR3 g1 hin) ?_
    rintro _ _ ⟨rfl, rfl⟩
    obtain ⟨D4, e4, z4, y4⟩ := wr_fi D3 297 X (nI (pl T r))
    have o4 : Out X (X + 1) D3 D4 := e4 ▸ Out.fi (by omega)
    refine X_run rfl ?_ ?_
    · simp [md_s, md_w, rget, r_a, r_b, r_c, r_i, r_l, hx, hp, e4]
    try simp only [md_s, md_w, rget_some, r_a, r_b, r_c, r_i, r_l, r_nx, r_pc, Nat.reduceEqDiff, false_and, if_false, hx, hp, e4]
    exact Eg.sub (last 1 K D4 (by rw [hteach, z4, if_pos ⟨rfl, rfl⟩]) (hC3.out hW o4 (by omega)) hW (fun P h => (hPp3 P h).out o4 (by omega)) ((oA.wide (by omega) (by omega)).tr (o4.wide (by omega) (by omega)))) trivial
  | true =>
    rw [if_pos rfl] at hteach
    refine X_if_ne rfl (fun c => ?_) (fun c => absurd c (show ¬ b2i true = 0 by decide))
    refine X_run rfl ?_ ?_
    · simp [md_s, md_w, rget, r_a, r_b, r_c, r_i, r_l, hx]
    try simp only [md_s, md_w, rget_some, r_a, r_b, r_c, r_i, r_l, r_nx, r_pc, Nat.reduceEqDiff, false_and, if_false, hx]
    refine X_cV (args := [.ref (X + 11)]) rfl (by decide) hL2.1.1 rfl rfl (Nat.le_of_ble_eq_true rfl) (c_copyBook hL2 hL hW hC3 (by omega)) ?_
    rintro _ _ ⟨D4, rfl, rfl, hC4, o4⟩
    have hR4 : TkR D4 (X + 2) T := hR3.out o4 (by omega)
    refine X_run rfl ?_ ?_
    · simp [md_s, md_w, rget, r_a, r_b, r_c, r_i, r_l, hx]
    try simp only [md_s, md_w, rget_some, r_a, r_b, r_c, r_i, r_l, r_nx, r_pc, Nat.reduceEqDiff, false_and, if_false, hx]
    refine X_cV (args := [.ref (X + 151)]) rfl (by decide) hu.1 rfl rfl (Nat.le_of_ble_eq_true rfl) (c_tellAll (U := X + 1) hZ hU hL2 (by omega) hW hK hR4 hC4 htx) ?_
    rintro v1 M1 ⟨D5, rfl, o5, hres⟩
    have hC45 : RepC D4 (X + 11) K := hC3.out hW o4 (by omega)
    have o5' : Out (X + 1) (X + 290) D4 D5 := fun a ha => o5 a (by omega) (by omega)
    have same5 : ∀ a, X + 3 ≤ a → a < X + 151 → Same D4 D5 a := fun a h1 h2 => o5 a (by omega) (by omega)
    have hP5 : ∀ P, BrR D (X + 8) P → BrR D5 (X + 8) P := fun P h => by
      have h4 := (hPp3 P h).out o4 (by omega)
      obtain ⟨q1, q2, q3⟩ := h4
      refine ⟨by rw [(same5 (X + 8) (by omega) (by omega)).1]; exact q1, fun i hi => ?_, q3⟩
      rw [(same5 (X + 8 + 1) (by omega) (by omega)).2.2.1]
      exact q2 i hi
    have hC5 : RepC D5 (X + 11) K := by
      obtain ⟨w1, w2, w3, -⟩ := hW
      obtain ⟨h0, hp', hm, hy⟩ := hC45
      refine ⟨?_, fun p hpp => ⟨?_, fun m hmm => ?_⟩, fun m hmm => ?_, fun n hn => ?_⟩
      · have := (same5 (X + 11) (by omega) (by omega)).1
        simp only [this]; exact h0
      · obtain ⟨f1, f2, -⟩ := same5 (pa (X + 11) p) (by unfold pa; omega) (by unfold pa; omega)
        simp only [f1, f2]; exact (hp' p hpp).1
      · rw [(same5 (pa (X + 11) p + 2) (by unfold pa; omega) (by unfold pa; omega)).2.2.1, (same5 (pa (X + 11) p + 4) (by unfold pa; omega) (by unfold pa; omega)).2.2.1]
        exact (hp' p hpp).2 m hmm
      · obtain ⟨f1, f2, -⟩ := same5 (ma (X + 11) m) (by unfold ma; omega) (by unfold ma; omega)
        simp only [f1, f2]; exact hm m hmm
      · obtain ⟨f1, f2, -⟩ := same5 (ya (X + 11) n) (by unfold ya; omega) (by unfold ya; omega)
        simp only [f1]; exact hy n hn
    have oB : Out X (X + 290) D D5 := ((oA.wide (by omega) (by omega)).tr (o4.wide (by omega) (by omega))).tr (o5'.wide (by omega) (by omega))
    have hE5 : d_fi D5 297 X = -1 := by
      rw [(o5' X (by omega)).1, (o4 X (by omega)).1, hE]
    cases hT : tellR T (tN T + 1) K 0 with
    | error x =>
      rw [hT] at hres hteach
      obtain ⟨rfl, f5⟩ := hres
      have hx1 := tellR_err _ _ _ hT
      refine X_run rfl trivial ?_
      refine X_if_ne rfl (fun c5 => ?_) (fun c5 => absurd c5 (nI_ne0 (by omega) (by omega)))
      obtain ⟨D6, e6, z6, y6⟩ := wr_fi D5 297 X (nI (pl T x.2))
      have o6 : Out X (X + 1) D5 D6 := e6 ▸ Out.fi (by omega)
      refine X_run rfl ?_ ?_
      · simp [md_s, md_w, rget, r_a, r_b, r_c, r_i, r_l, hx, hp, hu, f5, e6]
      try simp only [md_s, md_w, rget_some, r_a, r_b, r_c, r_i, r_l, r_nx, r_pc, Nat.reduceEqDiff, false_and, if_false, hx, hp, hu, f5, e6]
      exact Eg.sub (last x.1 K D6 (by rw [hteach, z6, if_pos ⟨rfl, rfl⟩]) (hC5.out hW o6 (by omega)) hW (fun P h => (hP5 P h).out o6 (by omega)) (oB.tr (o6.wide (by omega) (by omega)))) trivial
    | ok K1 =>
      rw [hT] at hres hteach
      obtain ⟨rfl, f5⟩ := hres
      obtain ⟨gw, gk⟩ := tellR_ok _ _ _ _ hW hK htx hT
      refine X_run rfl trivial ?_
      refine X_if_ne rfl (fun c5 => absurd rfl c5) (fun c5 => ?_)
      refine X_run rfl ?_ ?_
      · simp [md_s, md_w, rget, r_a, r_b, r_c, r_i, r_l, hx]
      try simp only [md_s, md_w, rget_some, r_a, r_b, r_c, r_i, r_l, r_nx, r_pc, Nat.reduceEqDiff, false_and, if_false, hx]
      refine X_cV (args := [.ref (X + 151)]) rfl (by decide) hL.1.1 rfl rfl (Nat.le_of_ble_eq_true rfl) (c_copyBook hL hL2 gw f5 (by omega)) ?_
      rintro _ _ ⟨D6, rfl, rfl, hC6, o6⟩
      refine X_run rfl ?_ ?_
      · simp [md_s, md_w, rget, r_a, r_b, r_c, r_i, r_l, hx, hp]
      try simp only [md_s, md_w, rget_some, r_a, r_b, r_c, r_i, r_l, r_nx, r_pc, Nat.reduceEqDiff, false_and, if_false, hx, hp]
      exact Eg.sub (last 0 K1 D6 (by rw [hteach, (o6 X (by omega)).1, hE5]) hC6 gw (fun P h => (hP5 P h).out o6 (by omega)) (oB.tr (o6.wide (by omega) (by omega)))) trivial
end TEACH
