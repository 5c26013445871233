/-! the grammar, as numbers -/
def kdA (T : List Nat) (i : Nat) : Nat := if i ≤ tN T then kd T i else 15
theorem kdA_le (T : List Nat) (i : Nat) : kdA T i ≤ 15 := by
  unfold kdA
  split
  · exact (tk_ok T i).1
  · exact Nat.le_refl _
def need (f : Nat → Nat) : List Nat → Nat → Bool × Nat
  | [], r => (true, r)
  | k :: ks, r => if f r = k then need f ks (r + 1) else (false, r)
def andR (a : Bool × Nat) (h : Nat → Bool × Nat) : Bool × Nat := if a.1 = true then h a.2 else a
def opt (f : Nat → Nat) (k r : Nat) : Bool × Nat := if f r = k then need f [k, 12] r else (true, r)
def sentK (f : Nat → Nat) (r : Nat) : Bool × Nat :=
  if f r = 0 then andR (need f [0, 11] r) (fun r => andR (opt f 1 r) (need f [13]))
  else if f r = 2 then need f [2, 11, 3, 12, 4, 12, 13] r
  else if f r = 5 then andR (need f [5, 11, 6, 11, 12, 11, 7, 12] r) (fun r => andR (opt f 8 r) (need f [13]))
  else if f r = 9 then need f [9, 12, 13] r
  else if f r = 10 then need f [10, 12, 13] r
  else (false, r)
def textR (f : Nat → Nat) : Nat → Nat → Bool × Nat
  | 0, r => (decide (f r = 14), r)
  | n + 1, r => if f r = 14 then (true, r) else andR (sentK f r) (textR f n)
theorem need_y {f : Nat → Nat} {k r : Nat} {ks : List Nat} (h : f r = k) : need f (k :: ks) r = need f ks (r + 1) := if_pos h
theorem need_n {f : Nat → Nat} {k r : Nat} {ks : List Nat} (h : ¬ f r = k) : need f (k :: ks) r = (false, r) := if_neg h
theorem andR_t {r : Nat} {h : Nat → Bool × Nat} : andR (true, r) h = h r := rfl
theorem andR_f {r : Nat} {h : Nat → Bool × Nat} : andR (false, r) h = (false, r) := rfl
theorem need_in {f : Nat → Nat} {N : Nat} (hN : 14 ≤ f N) : ∀ (ks : List Nat) (r : Nat), (∀ k ∈ ks, k ≤ 13) → r ≤ N → (need f ks r).2 ≤ N
  | [], r, _, hr => hr
  | k :: ks, r, hk, hr => by
    unfold need
    split
    · rename_i h
      have h1 := hk k List.mem_cons_self
      have : r ≠ N := fun z => by rw [z] at h; omega
      exact need_in hN ks (r + 1) (fun q hq => hk q (List.mem_cons_of_mem _ hq)) (by omega)
    · exact hr
theorem andR_in {N : Nat} {a : Bool × Nat} {h : Nat → Bool × Nat} (ha : a.2 ≤ N) (hh : ∀ r, r ≤ N → (h r).2 ≤ N) : (andR a h).2 ≤ N := by
  unfold andR
  split
  · exact hh _ ha
  · exact ha
theorem opt_in {f : Nat → Nat} {N k r : Nat} (hN : 14 ≤ f N) (hk : k ≤ 13) (hr : r ≤ N) : (opt f k r).2 ≤ N := by
  unfold opt
  split
  · exact need_in hN _ _ (fun q hq => by simp at hq; omega) hr
  · exact hr
theorem sent_in {f : Nat → Nat} {N r : Nat} (hN : 14 ≤ f N) (hr : r ≤ N) : (sentK f r).2 ≤ N := by
  unfold sentK
  split
  · exact andR_in (need_in hN _ _ (by decide) hr) (fun r hr => andR_in (opt_in hN (by decide) hr) (fun r hr => need_in hN _ _ (by decide) hr))
  split
  · exact need_in hN _ _ (by decide) hr
  split
  · exact andR_in (need_in hN _ _ (by decide) hr) (fun r hr => andR_in (opt_in hN (by decide) hr) (fun r hr => need_in hN _ _ (by decide) hr))
  split
  · exact need_in hN _ _ (by decide) hr
  split
  · exact need_in hN _ _ (by decide) hr
  exact hr
theorem text_in {f : Nat → Nat} {N : Nat} (hN : 14 ≤ f N) : ∀ (n r : Nat), r ≤ N → (textR f n r).2 ≤ N
  | 0, r, hr => hr
  | n + 1, r, hr => by
    unfold textR
    split
    · exact hr
    · exact andR_in (sent_in hN hr) (fun r hr => text_in hN n r hr)
theorem kdA_N (T : List Nat) : 14 ≤ kdA T (tN T) := by
  unfold kdA
  rw [if_pos (Nat.le_refl _)]
  exact tN_end T
/-- the tokens are read -/
def TkR (D : DaT) (Z : Nat) (T : List Nat) : Prop := d_fi D 260 Z = nI (tN T + 1) ∧ TkA D Z T (tN T + 1)
theorem TkR.out {D D1 : DaT} {Z lo hi : Nat} {T : List Nat} (h : TkR D Z T) (ho : Out lo hi D D1) (hd : hi ≤ Z ∨ Z + 6 ≤ lo) : TkR D1 Z T := ⟨by rw [(ho Z (by omega)).1]; exact h.1, h.2.out ho (by omega)⟩
theorem TkR.r {D : DaT} {Z : Nat} {T : List Nat} {x : Int32} (h : TkR D Z T) : TkR (pfi D 261 Z x) Z T := ⟨by simp [rd_fi, h.1], h.2.out (Out.fi (lo := Z) (hi := Z + 1) (by omega)) (by omega)⟩
/-- a part of the grammar is walked: its answer -/
def GrP (S : ShT) (D : DaT) (Z : Nat) (T : List Nat) (res : Bool × Nat) : Option Value → Mem → Prop := fun v M1 => ∃ D1, v = some (.int (b2i res.1)) ∧ M1 = md S D1 ∧ d_fi D1 261 Z = nI res.2 ∧ TkR D1 Z T ∧ Out Z (Z + 1) D D1
section GRAM
variable {g : GG} {d : Nat} {S : ShT} {D : DaT} {Z : Nat} {T : List Nat}
theorem c_kindAt {i : Nat} (hZ : TxL S Z) (hR : TkR D Z T) (hi : i < 2 ^ 31) : EvM g d mX8_kindAt 0 0 [.ref Z, .int (nI i)] (md S D) (fun v M1 => M1 = md S D ∧ v = some (.int (nI (kdA T i)))) := by
  have hz := hZ.1
  obtain ⟨h1, h2⟩ := hR
  have hN := tN_le T
  refine EvM.mk (by decide) (Nat.le_of_ble_eq_true rfl) ?_
  refine X_run rfl trivial ?_
  refine X_if_lt rfl (fun c0 => no_neg c0 hi) (fun c0 => ?_)
  refine X_run rfl ?_ ?_
  · simp [md_s, md_w, rget, r_a, r_b, r_c, r_i, r_l, hz, h1]
  try simp only [md_s, md_w, rget_some, r_a, r_b, r_c, r_i, r_l, r_nx, r_pc, Nat.reduceEqDiff, false_and, if_false, hz, h1]
  refine X_icmp_ge rfl (fun c1 => ?_) (fun c1 => ?_)
  · have c1 := (nI_leI (by omega) (by omega)).mp c1
    refine X_run rfl trivial ?_
    refine X_iret rfl rfl ⟨rfl, ?_⟩
    unfold kdA
    rw [if_neg (by omega)]
    rfl
  · have c1 : i ≤ tN T := Nat.not_lt.mp (fun z => c1 ((nI_leI (by omega) (by omega)).mpr z))
    refine X_run rfl ?_ ?_
    · simp [md_s, md_w, rget, r_a, r_b, r_c, r_i, r_l, hz]
    try simp only [md_s, md_w, rget_some, r_a, r_b, r_c, r_i, r_l, r_nx, r_pc, Nat.reduceEqDiff, false_and, if_false, hz]
    refine X_icmp_ge rfl (fun c2 => no_le c2 (show i < 401 by omega) (by omega)) (fun c2 => ?_)
    refine X_run rfl ?_ ?_
    · simp [md_s, md_w, rget, r_a, r_b, r_c, r_i, r_l, hz, nI_clamp hi, vp_in_nI (show i < 401 by omega) (by decide), (h2 i (by omega)).1]
    try simp only [md_s, md_w, rget_some, r_a, r_b, r_c, r_i, r_l, r_nx, r_pc, Nat.reduceEqDiff, false_and, if_false, hz, nI_clamp hi, vp_in_nI (show i < 401 by omega) (by decide), (h2 i (by omega)).1]
    refine X_iret rfl rfl ⟨rfl, ?_⟩
    unfold kdA
    rw [if_pos c1]
theorem c_placeAt {i : Nat} (hZ : TxL S Z) (hR : TkR D Z T) (hi : i ≤ tN T) : EvM g d mX8_placeAt 0 0 [.ref Z, .int (nI i)] (md S D) (fun v M1 => M1 = md S D ∧ v = some (.int (nI (pl T i)))) := by
  have hz := hZ.1
  obtain ⟨h1, h2⟩ := hR
  have hN := tN_le T
  have hi2 : i < 2 ^ 31 := by omega
  refine EvM.mk (by decide) (Nat.le_of_ble_eq_true rfl) ?_
  refine X_run rfl trivial ?_
  refine X_if_lt rfl (fun c0 => no_neg c0 hi2) (fun c0 => ?_)
  refine X_run rfl ?_ ?_
  · simp [md_s, md_w, rget, r_a, r_b, r_c, r_i, r_l, hz, h1]
  try simp only [md_s, md_w, rget_some, r_a, r_b, r_c, r_i, r_l, r_nx, r_pc, Nat.reduceEqDiff, false_and, if_false, hz, h1]
  refine X_icmp_ge rfl (fun c1 => no_le c1 (show i < tN T + 1 by omega) (by omega)) (fun c1 => ?_)
  refine X_run rfl ?_ ?_
  · simp [md_s, md_w, rget, r_a, r_b, r_c, r_i, r_l, hz]
  try simp only [md_s, md_w, rget_some, r_a, r_b, r_c, r_i, r_l, r_nx, r_pc, Nat.reduceEqDiff, false_and, if_false, hz]
  refine X_icmp_ge rfl (fun c2 => no_le c2 (show i < 401 by omega) (by omega)) (fun c2 => ?_)
  refine X_run rfl ?_ ?_
  · simp [md_s, md_w, rget, r_a, r_b, r_c, r_i, r_l, hz, nI_clamp hi2, vp_in_nI (show i < 401 by omega) (by decide), (h2 i (by omega)).2.1]
  try simp only [md_s, md_w, rget_some, r_a, r_b, r_c, r_i, r_l, r_nx, r_pc, Nat.reduceEqDiff, false_and, if_false, hz, nI_clamp hi2, vp_in_nI (show i < 401 by omega) (by decide), (h2 i (by omega)).2.1]
  exact X_iret rfl rfl ⟨rfl, rfl⟩
theorem c_wordAt {i : Nat} (hZ : TxL S Z) (hR : TkR D Z T) (hi : i ≤ tN T) : EvM g d mX8_wordAt 0 0 [.ref Z, .int (nI i)] (md S D) (fun v M1 => M1 = md S D ∧ v = some (.long (d_al D (Z + 5) i))) := by
  have hz := hZ.1
  obtain ⟨h1, h2⟩ := hR
  have hN := tN_le T
  have hi2 : i < 2 ^ 31 := by omega
  refine EvM.mk (by decide) (Nat.le_of_ble_eq_true rfl) ?_
  refine X_run rfl trivial ?_
  refine X_if_lt rfl (fun c0 => no_neg c0 hi2) (fun c0 => ?_)
  refine X_run rfl ?_ ?_
  · simp [md_s, md_w, rget, r_a, r_b, r_c, r_i, r_l, hz, h1]
  try simp only [md_s, md_w, rget_some, r_a, r_b, r_c, r_i, r_l, r_nx, r_pc, Nat.reduceEqDiff, false_and, if_false, hz, h1]
  refine X_icmp_ge rfl (fun c1 => no_le c1 (show i < tN T + 1 by omega) (by omega)) (fun c1 => ?_)
  refine X_run rfl ?_ ?_
  · simp [md_s, md_w, rget, r_a, r_b, r_c, r_i, r_l, hz]
  try simp only [md_s, md_w, rget_some, r_a, r_b, r_c, r_i, r_l, r_nx, r_pc, Nat.reduceEqDiff, false_and, if_false, hz]
  refine X_icmp_ge rfl (fun c2 => no_le c2 (show i < 401 by omega) (by omega)) (fun c2 => ?_)
  refine X_run rfl ?_ ?_
  · simp [md_s, md_w, rget, r_a, r_b, r_c, r_i, r_l, hz, nI_clamp hi2, vp_in_nI (show i < 401 by omega) (by decide)]
  try simp only [md_s, md_w, rget_some, r_a, r_b, r_c, r_i, r_l, r_nx, r_pc, Nat.reduceEqDiff, false_and, if_false, hz, nI_clamp hi2, vp_in_nI (show i < 401 by omega) (by decide)]
  exact X_lret rfl rfl ⟨rfl, rfl⟩
theorem lN_n32 {n : Nat} : (lN n).toInt32 = nI n := Int64.toInt32_ofNat'
theorem c_numberAt {i : Nat} (hZ : TxL S Z) (hR : TkR D Z T) (hi : i ≤ tN T) (hk : kd T i = 12) : EvM g (d + 1) mX8_numberAt 0 0 [.ref Z, .int (nI i)] (md S D) (fun v M1 => M1 = md S D ∧ v = some (.int (nI (numV (wd T i))))) := by
  have hz := hZ.1
  refine EvM.mk (by decide) (Nat.le_of_ble_eq_true rfl) ?_
  refine X_run rfl trivial ?_
  refine X_cV (args := [.int (nI i)]) rfl (by decide) hz.1 rfl rfl (Nat.le_of_ble_eq_true rfl) (c_wordAt hZ hR hi) ?_
  rintro _ _ ⟨rfl, rfl⟩
  rw [(hR.2 i (by omega)).2.2.2 hk]
  refine X_run rfl trivial ?_
  exact X_iret rfl rfl ⟨rfl, by rw [lN_n32]; rfl⟩
theorem c_takes {k r : Nat} (hZ : TxL S Z) (hR : TkR D Z T) (hr : d_fi D 261 Z = nI r) (hr2 : r ≤ tN T) (hk : k ≤ 15) : EvM g (d + 1) mX8_takes 0 0 [.ref Z, .int (nI k)] (md S D) (GrP S D Z T (need (kdA T) [k] r)) := by
  have hz := hZ.1
  have hN := tN_le T
  have hle := kdA_le T r
  refine EvM.mk (by decide) (Nat.le_of_ble_eq_true rfl) ?_
  refine X_run rfl ?_ ?_
  · simp [md_s, md_w, rget, r_a, r_b, r_c, r_i, r_l, hz, hr]
  try simp only [md_s, md_w, rget_some, r_a, r_b, r_c, r_i, r_l, r_nx, r_pc, Nat.reduceEqDiff, false_and, if_false, hz, hr]
  refine X_cV (args := [.int (nI r)]) rfl (by decide) hz.1 rfl rfl (Nat.le_of_ble_eq_true rfl) (c_kindAt hZ hR (by omega)) ?_
  rintro _ _ ⟨rfl, rfl⟩
  refine X_run rfl trivial ?_
  refine X_icmp_eq rfl (fun c => ?_) (fun c => ?_)
  · have c := (nI_eq (by omega) (by omega)).mp c
    refine X_run rfl ?_ ?_
    · simp [md_s, md_w, rget, r_a, r_b, r_c, r_i, r_l, hz, hr, nI_s1]
    try simp only [md_s, md_w, rget_some, r_a, r_b, r_c, r_i, r_l, r_nx, r_pc, Nat.reduceEqDiff, false_and, if_false, hz, hr, nI_s1]
    refine X_zret rfl rfl (Or.inr rfl) ?_
    rw [need_y c]
    exact ⟨_, rfl, rfl, by simp [rd_fi, need], hR.r, Out.fi (by omega)⟩
  · have c : ¬ kdA T r = k := fun z => c (by rw [z])
    refine X_run rfl trivial ?_
    refine X_zret rfl rfl (Or.inl rfl) ?_
    rw [need_n c]
    exact ⟨D, rfl, rfl, hr, hR, Out.rf⟩
theorem G_take {m pc k r i nx nx2 t c w b' c' w' : Nat} {o : Int} {sp sp' : Bool} {ki ki' : Int32} {kl kl' : Int64} {q0 q1 : Nat} {ls : LsT} {st : List Value} {Zq : ZT} (hr1 : rowAt m pc = some (q0, .invokevirtual i, nx, (90, 1, c, w, sp), ki, kl)) (hr2 : rowAt m nx = some (q1, .ifCond .eq o, nx2, (t, b', c', w', sp'), ki', kl')) (hZ : TxL S Z) (hR : TkR D Z T) (hr : d_fi D 261 Z = nI r) (hrN : r ≤ tN T) (hk : k ≤ 13) (hsum : (st.map fun v => v.category).sum ≤ 8)
    (kt : kdA T r = k → r + 1 ≤ tN T → ∀ D1, TkR D1 Z T → d_fi D1 261 Z = nI (r + 1) → Out Z (Z + 1) D D1 → Eg g (d + 2) m 0 0 Zq nx2 ls st (md S D1)) (kf : ¬ kdA T r = k → ∀ D1, TkR D1 Z T → d_fi D1 261 Z = nI r → Out Z (Z + 1) D D1 → Eg g (d + 2) m 0 0 Zq t ls st (md S D1)) : Eg g (d + 2) m 0 0 Zq pc ls (.int (nI k) :: .ref Z :: st) (md S D) := by
  refine X_cV (args := [.int (nI k)]) hr1 (by decide) hZ.1.1 rfl rfl hsum (c_takes hZ hR hr hrN (by omega)) ?_
  rintro _ _ ⟨D1, rfl, rfl, g1, g2, g3⟩
  by_cases c : kdA T r = k
  · rw [need_y c] at g1 ⊢
    have : r ≠ tN T := fun z => by have := kdA_N T; rw [← z, c] at this; omega
    exact X_if_eq hr2 (fun c2 => absurd c2 (show ¬ b2i true = 0 by decide)) (fun c2 => kt c (by omega) D1 g2 g1 g3)
  · rw [need_n c] at g1 ⊢
    exact X_if_eq hr2 (fun c2 => kf c D1 g2 g1 g3) (fun c2 => absurd rfl c2)
theorem c_opt {k r : Nat} (hZ : TxL S Z) (hR : TkR D Z T) (hr : d_fi D 261 Z = nI r) (hr2 : r ≤ tN T) (hk : k ≤ 13) : EvM g (d + 2) mX8_takesNumberIfBehind 0 0 [.ref Z, .int (nI k)] (md S D) (GrP S D Z T (opt (kdA T) k r)) := by
  have hz := hZ.1
  have hN := tN_le T
  have hle := kdA_le T r
  have no : ∀ r' D1, opt (kdA T) k r = (false, r') → TkR D1 Z T → d_fi D1 261 Z = nI r' → Out Z (Z + 1) D D1 → Eg g (d + 2) mX8_takesNumberIfBehind 0 0 (Zr g (GrP S D Z T (opt (kdA T) k r))) 33 [] [] (md S D1) := fun r' D1 e h1 h2 h3 => by
    refine X_run rfl trivial ?_
    exact X_zret rfl rfl (Or.inl rfl) ⟨D1, by rw [e]; rfl, rfl, by rw [e]; exact h2, h1, h3⟩
  have yes : ∀ r' D1, opt (kdA T) k r = (true, r') → TkR D1 Z T → d_fi D1 261 Z = nI r' → Out Z (Z + 1) D D1 → Eg g (d + 2) mX8_takesNumberIfBehind 0 0 (Zr g (GrP S D Z T (opt (kdA T) k r))) 29 [] [] (md S D1) := fun r' D1 e h1 h2 h3 => by
    refine X_run rfl trivial ?_
    exact X_zret rfl rfl (Or.inr rfl) ⟨D1, by rw [e]; rfl, rfl, by rw [e]; exact h2, h1, h3⟩
  refine EvM.mk (by decide) (Nat.le_of_ble_eq_true rfl) ?_
  refine X_run rfl ?_ ?_
  · simp [md_s, md_w, rget, r_a, r_b, r_c, r_i, r_l, hz, hr]
  try simp only [md_s, md_w, rget_some, r_a, r_b, r_c, r_i, r_l, r_nx, r_pc, Nat.reduceEqDiff, false_and, if_false, hz, hr]
  refine X_cV (args := [.int (nI r)]) rfl (by decide) hz.1 rfl rfl (Nat.le_of_ble_eq_true rfl) (c_kindAt hZ hR (by omega)) ?_
  rintro _ _ ⟨rfl, rfl⟩
  refine X_run rfl trivial ?_
  refine X_icmp_ne rfl (fun c => ?_) (fun c => ?_)
  · have c : ¬ kdA T r = k := fun z => c (by rw [z])
    exact Eg.sub (yes r D (by unfold opt; rw [if_neg c]) hR hr Out.rf) trivial
  · have c := (nI_eq (by omega) (by omega)).mp c
    have e0 : opt (kdA T) k r = need (kdA T) [k, 12] r := by unfold opt; rw [if_pos c]
    refine X_run rfl trivial ?_
    refine G_take rfl rfl hZ hR hr hr2 hk (Nat.zero_le _) (fun c1 l1 D1 hR1 hr1 hO1 => ?_) (fun c1 D1 hR1 hr1 hO1 => absurd c c1)
    refine X_run rfl trivial ?_
    refine G_take (k := 12) rfl rfl hZ hR1 hr1 l1 (by decide) (Nat.zero_le _) (fun c2 l2 D2 hR2 hr2 hO2 => ?_) (fun c2 D2 hR2 hr2 hO2 => ?_)
    · exact Eg.sub (yes (r + 2) D2 (by rw [e0, need_y c1, need_y c2]; rfl) hR2 hr2 (hO1.tr hO2)) trivial
    · exact Eg.sub (no (r + 1) D2 (by rw [e0, need_y c1, need_n c2]) hR2 hr2 (hO1.tr hO2)) trivial
theorem G_opt {m pc k r i nx nx2 t c w b' c' w' : Nat} {o : Int} {sp sp' : Bool} {ki ki' : Int32} {kl kl' : Int64} {q0 q1 : Nat} {ls : LsT} {st : List Value} {Zq : ZT} (hr1 : rowAt m pc = some (q0, .invokevirtual i, nx, (89, 1, c, w, sp), ki, kl)) (hr2 : rowAt m nx = some (q1, .ifCond .eq o, nx2, (t, b', c', w', sp'), ki', kl')) (hZ : TxL S Z) (hR : TkR D Z T) (hr : d_fi D 261 Z = nI r) (hrN : r ≤ tN T) (hk : k ≤ 13) (hsum : (st.map fun v => v.category).sum ≤ 8)
    (kt : ∀ r', opt (kdA T) k r = (true, r') → r' ≤ tN T → ∀ D1, TkR D1 Z T → d_fi D1 261 Z = nI r' → Out Z (Z + 1) D D1 → Eg g (d + 3) m 0 0 Zq nx2 ls st (md S D1)) (kf : ∀ r', opt (kdA T) k r = (false, r') → ∀ D1, TkR D1 Z T → d_fi D1 261 Z = nI r' → Out Z (Z + 1) D D1 → Eg g (d + 3) m 0 0 Zq t ls st (md S D1)) : Eg g (d + 3) m 0 0 Zq pc ls (.int (nI k) :: .ref Z :: st) (md S D) := by
  refine X_cV (args := [.int (nI k)]) hr1 (by decide) hZ.1.1 rfl rfl hsum (c_opt hZ hR hr hrN hk) ?_
  rintro _ _ ⟨D1, rfl, rfl, g1, g2, g3⟩
  have hin := opt_in (f := kdA T) (k := k) (kdA_N T) hk hrN
  generalize hres : opt (kdA T) k r = res at g1 hin ⊢
  obtain ⟨b, r'⟩ := res
  cases b with
  | true => exact X_if_eq hr2 (fun c2 => absurd c2 (show ¬ b2i true = 0 by decide)) (fun c2 => kt r' hres hin D1 g2 g1 g3)
  | false => exact X_if_eq hr2 (fun c2 => kf r' hres D1 g2 g1 g3) (fun c2 => absurd rfl c2)
theorem c_takesSentence {r : Nat} (hZ : TxL S Z) (hR : TkR D Z T) (hr : d_fi D 261 Z = nI r) (hr2 : r ≤ tN T) : EvM g (d + 3) mX8_takesSentence 0 0 [.ref Z] (md S D) (GrP S D Z T (sentK (kdA T) r)) := by
  have hz := hZ.1
  have hN := tN_le T
  have hle := kdA_le T r
  have no : ∀ pc, pc = 106 ∨ pc = 172 ∨ pc = 267 ∨ pc = 300 ∨ pc = 333 ∨ pc = 335 → ∀ r' D1, sentK (kdA T) r = (false, r') → TkR D1 Z T → d_fi D1 261 Z = nI r' → Out Z (Z + 1) D D1 → Eg g (d + 3) mX8_takesSentence 0 0 (Zr g (GrP S D Z T (sentK (kdA T) r))) pc [(0, .ref Z)] [] (md S D1) := fun pc hpc r' D1 e h1 h2 h3 => by
    rcases hpc with rfl | rfl | rfl | rfl | rfl | rfl <;> (refine X_run rfl trivial ?_; exact X_zret rfl rfl (Or.inl rfl) ⟨D1, by rw [e]; rfl, rfl, by rw [e]; exact h2, h1, h3⟩)
  have yes : ∀ pc, pc = 102 ∨ pc = 168 ∨ pc = 263 ∨ pc = 296 ∨ pc = 329 → ∀ r' D1, sentK (kdA T) r = (true, r') → TkR D1 Z T → d_fi D1 261 Z = nI r' → Out Z (Z + 1) D D1 → Eg g (d + 3) mX8_takesSentence 0 0 (Zr g (GrP S D Z T (sentK (kdA T) r))) pc [(0, .ref Z)] [] (md S D1) := fun pc hpc r' D1 e h1 h2 h3 => by
    rcases hpc with rfl | rfl | rfl | rfl | rfl <;> (refine X_run rfl trivial ?_; exact X_zret rfl rfl (Or.inr rfl) ⟨D1, by rw [e]; rfl, rfl, by rw [e]; exact h2, h1, h3⟩)
  refine EvM.mk (by decide) (Nat.le_of_ble_eq_true rfl) ?_
  refine X_run rfl ?_ ?_
  · simp [md_s, md_w, rget, r_a, r_b, r_c, r_i, r_l, hz, hr]
  try simp only [md_s, md_w, rget_some, r_a, r_b, r_c, r_i, r_l, r_nx, r_pc, Nat.reduceEqDiff, false_and, if_false, hz, hr]
  refine X_cV (args := [.int (nI r)]) rfl (by decide) hz.1 rfl rfl (Nat.le_of_ble_eq_true rfl) (c_kindAt hZ hR (by omega)) ?_
  rintro _ _ ⟨rfl, rfl⟩
  have hO : Out Z (Z + 1) D D := Out.rf
  by_cases q0 : kdA T r = 0
  · have e0 : sentK (kdA T) r = andR (need (kdA T) [0, 11] r) (fun r => andR (opt (kdA T) 1 r) (need (kdA T) [13])) := by
      unfold sentK
      rw [if_pos q0]
    rw [q0]
    refine X_tsw (t := 68) (k0 := 0) rfl (by decide) (by decide) rfl rfl ?_
    refine X_run rfl trivial ?_
    refine G_take (k := 0) rfl rfl hZ hR hr hr2 (by decide) (Nat.zero_le _) (fun c0 l0 D0 hR0 hr0 hO0 => ?_) (fun c0 D0 hR0 hr0 hO0 => Eg.sub (no 106 (by decide) (r + 0) D0 (by rw [e0, need_n c0]; rfl) hR0 hr0 (hO.tr hO0)) ⟨rfl, trivial⟩)
    have hO0 := hO.tr hO0
    refine X_run rfl trivial ?_
    refine G_take (k := 11) rfl rfl hZ hR0 hr0 l0 (by decide) (Nat.zero_le _) (fun c1 l1 D1 hR1 hr1 hO1 => ?_) (fun c1 D1 hR1 hr1 hO1 => Eg.sub (no 106 (by decide) (r + 1) D1 (by rw [e0, need_y c0, need_n c1]; rfl) hR1 hr1 (hO0.tr hO1)) ⟨rfl, trivial⟩)
    have hO1 := hO0.tr hO1
    have e1 : sentK (kdA T) r = andR (opt (kdA T) 1 (r + 2)) (need (kdA T) [13]) := by rw [e0, need_y c0, need_y c1]; rfl
    refine X_run rfl trivial ?_
    refine G_opt (k := 1) rfl rfl hZ hR1 hr1 l1 (by decide) (Nat.zero_le _) (fun r' eo lo Do hRo hro hOo => ?_) (fun r' eo Do hRo hro hOo => Eg.sub (no 106 (by decide) r' Do (by rw [e1, eo]; rfl) hRo hro (hO1.tr hOo)) ⟨rfl, trivial⟩)
    have hOo := hO1.tr hOo
    refine X_run rfl trivial ?_
    refine G_take (k := 13) rfl rfl hZ hRo hro lo (by decide) (Nat.zero_le _) (fun cz lz Dz hRz hrz hOz => Eg.sub (yes 102 (by decide) (r' + 1) Dz (by rw [e1, eo, andR_t, need_y cz]; rfl) hRz hrz (hOo.tr hOz)) ⟨rfl, trivial⟩) (fun cz Dz hRz hrz hOz => Eg.sub (no 106 (by decide) r' Dz (by rw [e1, eo, andR_t, need_n cz]) hRz hrz (hOo.tr hOz)) ⟨rfl, trivial⟩)
  by_cases q2 : kdA T r = 2
  · have e0 : sentK (kdA T) r = need (kdA T) [2, 11, 3, 12, 4, 12, 13] r := by
      unfold sentK
      rw [if_neg q0, if_pos q2]
    rw [q2]
    refine X_tsw (t := 108) (k0 := 2) rfl (by decide) (by decide) rfl rfl ?_
    refine X_run rfl trivial ?_
    refine G_take (k := 2) rfl rfl hZ hR hr hr2 (by decide) (Nat.zero_le _) (fun c0 l0 D0 hR0 hr0 hO0 => ?_) (fun c0 D0 hR0 hr0 hO0 => Eg.sub (no 172 (by decide) r D0 (by rw [e0, need_n c0]) hR0 hr0 (hO.tr hO0)) ⟨rfl, trivial⟩)
    have hO0 := hO.tr hO0
    refine X_run rfl trivial ?_
    refine G_take (k := 11) rfl rfl hZ hR0 hr0 l0 (by decide) (Nat.zero_le _) (fun c1 l1 D1 hR1 hr1 hO1 => ?_) (fun c1 D1 hR1 hr1 hO1 => Eg.sub (no 172 (by decide) (r + 1) D1 (by rw [e0, need_y c0, need_n c1]) hR1 hr1 (hO0.tr hO1)) ⟨rfl, trivial⟩)
    have hO1 := hO0.tr hO1
    refine X_run rfl trivial ?_
    refine G_take (k := 3) rfl rfl hZ hR1 hr1 l1 (by decide) (Nat.zero_le _) (fun c2 l2 D2 hR2 hr2 hO2 => ?_) (fun c2 D2 hR2 hr2 hO2 => Eg.sub (no 172 (by decide) (r + 2) D2 (by rw [e0, need_y c0, need_y c1, need_n c2]) hR2 hr2 (hO1.tr hO2)) ⟨rfl, trivial⟩)
    have hO2 := hO1.tr hO2
    refine X_run rfl trivial ?_
    refine G_take (k := 12) rfl rfl hZ hR2 hr2 l2 (by decide) (Nat.zero_le _) (fun c3 l3 D3 hR3 hr3 hO3 => ?_) (fun c3 D3 hR3 hr3 hO3 => Eg.sub (no 172 (by decide) (r + 3) D3 (by rw [e0, need_y c0, need_y c1, need_y c2, need_n c3]) hR3 hr3 (hO2.tr hO3)) ⟨rfl, trivial⟩)
    have hO3 := hO2.tr hO3
    refine X_run rfl trivial ?_
    refine G_take (k := 4) rfl rfl hZ hR3 hr3 l3 (by decide) (Nat.zero_le _) (fun c4 l4 D4 hR4 hr4 hO4 => ?_) (fun c4 D4 hR4 hr4 hO4 => Eg.sub (no 172 (by decide) (r + 4) D4 (by rw [e0, need_y c0, need_y c1, need_y c2, need_y c3, need_n c4]) hR4 hr4 (hO3.tr hO4)) ⟨rfl, trivial⟩)
    have hO4 := hO3.tr hO4
    refine X_run rfl trivial ?_
    refine G_take (k := 12) rfl rfl hZ hR4 hr4 l4 (by decide) (Nat.zero_le _) (fun c5 l5 D5 hR5 hr5 hO5 => ?_) (fun c5 D5 hR5 hr5 hO5 => Eg.sub (no 172 (by decide) (r + 5) D5 (by rw [e0, need_y c0, need_y c1, need_y c2, need_y c3, need_y c4, need_n c5]) hR5 hr5 (hO4.tr hO5)) ⟨rfl, trivial⟩)
    have hO5 := hO4.tr hO5
    refine X_run rfl trivial ?_
    refine G_take (k := 13) rfl rfl hZ hR5 hr5 l5 (by decide) (Nat.zero_le _) (fun c6 l6 D6 hR6 hr6 hO6 => ?_) (fun c6 D6 hR6 hr6 hO6 => Eg.sub (no 172 (by decide) (r + 6) D6 (by rw [e0, need_y c0, need_y c1, need_y c2, need_y c3, need_y c4, need_y c5, need_n c6]) hR6 hr6 (hO5.tr hO6)) ⟨rfl, trivial⟩)
    have hO6 := hO5.tr hO6
    exact Eg.sub (yes 168 (by decide) (r + 7) D6 (by rw [e0, need_y c0, need_y c1, need_y c2, need_y c3, need_y c4, need_y c5, need_y c6]; rfl) hR6 hr6 hO6) ⟨rfl, trivial⟩
  by_cases q5 : kdA T r = 5
  · have e0 : sentK (kdA T) r = andR (need (kdA T) [5, 11, 6, 11, 12, 11, 7, 12] r) (fun r => andR (opt (kdA T) 8 r) (need (kdA T) [13])) := by
      unfold sentK
      rw [if_neg q0, if_neg q2, if_pos q5]
    rw [q5]
    refine X_tsw (t := 174) (k0 := 5) rfl (by decide) (by decide) rfl rfl ?_
    refine X_run rfl trivial ?_
    refine G_take (k := 5) rfl rfl hZ hR hr hr2 (by decide) (Nat.zero_le _) (fun c0 l0 D0 hR0 hr0 hO0 => ?_) (fun c0 D0 hR0 hr0 hO0 => Eg.sub (no 267 (by decide) (r + 0) D0 (by rw [e0, need_n c0]; rfl) hR0 hr0 (hO.tr hO0)) ⟨rfl, trivial⟩)
    have hO0 := hO.tr hO0
    refine X_run rfl trivial ?_
    refine G_take (k := 11) rfl rfl hZ hR0 hr0 l0 (by decide) (Nat.zero_le _) (fun c1 l1 D1 hR1 hr1 hO1 => ?_) (fun c1 D1 hR1 hr1 hO1 => Eg.sub (no 267 (by decide) (r + 1) D1 (by rw [e0, need_y c0, need_n c1]; rfl) hR1 hr1 (hO0.tr hO1)) ⟨rfl, trivial⟩)
    have hO1 := hO0.tr hO1
    refine X_run rfl trivial ?_
    refine G_take (k := 6) rfl rfl hZ hR1 hr1 l1 (by decide) (Nat.zero_le _) (fun c2 l2 D2 hR2 hr2 hO2 => ?_) (fun c2 D2 hR2 hr2 hO2 => Eg.sub (no 267 (by decide) (r + 2) D2 (by rw [e0, need_y c0, need_y c1, need_n c2]; rfl) hR2 hr2 (hO1.tr hO2)) ⟨rfl, trivial⟩)
    have hO2 := hO1.tr hO2
    refine X_run rfl trivial ?_
    refine G_take (k := 11) rfl rfl hZ hR2 hr2 l2 (by decide) (Nat.zero_le _) (fun c3 l3 D3 hR3 hr3 hO3 => ?_) (fun c3 D3 hR3 hr3 hO3 => Eg.sub (no 267 (by decide) (r + 3) D3 (by rw [e0, need_y c0, need_y c1, need_y c2, need_n c3]; rfl) hR3 hr3 (hO2.tr hO3)) ⟨rfl, trivial⟩)
    have hO3 := hO2.tr hO3
    refine X_run rfl trivial ?_
    refine G_take (k := 12) rfl rfl hZ hR3 hr3 l3 (by decide) (Nat.zero_le _) (fun c4 l4 D4 hR4 hr4 hO4 => ?_) (fun c4 D4 hR4 hr4 hO4 => Eg.sub (no 267 (by decide) (r + 4) D4 (by rw [e0, need_y c0, need_y c1, need_y c2, need_y c3, need_n c4]; rfl) hR4 hr4 (hO3.tr hO4)) ⟨rfl, trivial⟩)
    have hO4 := hO3.tr hO4
    refine X_run rfl trivial ?_
    refine G_take (k := 11) rfl rfl hZ hR4 hr4 l4 (by decide) (Nat.zero_le _) (fun c5 l5 D5 hR5 hr5 hO5 => ?_) (fun c5 D5 hR5 hr5 hO5 => Eg.sub (no 267 (by decide) (r + 5) D5 (by rw [e0, need_y c0, need_y c1, need_y c2, need_y c3, need_y c4, need_n c5]; rfl) hR5 hr5 (hO4.tr hO5)) ⟨rfl, trivial⟩)
    have hO5 := hO4.tr hO5
    refine X_run rfl trivial ?_
    refine G_take (k := 7) rfl rfl hZ hR5 hr5 l5 (by decide) (Nat.zero_le _) (fun c6 l6 D6 hR6 hr6 hO6 => ?_) (fun c6 D6 hR6 hr6 hO6 => Eg.sub (no 267 (by decide) (r + 6) D6 (by rw [e0, need_y c0, need_y c1, need_y c2, need_y c3, need_y c4, need_y c5, need_n c6]; rfl) hR6 hr6 (hO5.tr hO6)) ⟨rfl, trivial⟩)
    have hO6 := hO5.tr hO6
    refine X_run rfl trivial ?_
    refine G_take (k := 12) rfl rfl hZ hR6 hr6 l6 (by decide) (Nat.zero_le _) (fun c7 l7 D7 hR7 hr7 hO7 => ?_) (fun c7 D7 hR7 hr7 hO7 => Eg.sub (no 267 (by decide) (r + 7) D7 (by rw [e0, need_y c0, need_y c1, need_y c2, need_y c3, need_y c4, need_y c5, need_y c6, need_n c7]; rfl) hR7 hr7 (hO6.tr hO7)) ⟨rfl, trivial⟩)
    have hO7 := hO6.tr hO7
    have e1 : sentK (kdA T) r = andR (opt (kdA T) 8 (r + 8)) (need (kdA T) [13]) := by rw [e0, need_y c0, need_y c1, need_y c2, need_y c3, need_y c4, need_y c5, need_y c6, need_y c7]; rfl
    refine X_run rfl trivial ?_
    refine G_opt (k := 8) rfl rfl hZ hR7 hr7 l7 (by decide) (Nat.zero_le _) (fun r' eo lo Do hRo hro hOo => ?_) (fun r' eo Do hRo hro hOo => Eg.sub (no 267 (by decide) r' Do (by rw [e1, eo]; rfl) hRo hro (hO7.tr hOo)) ⟨rfl, trivial⟩)
    have hOo := hO7.tr hOo
    refine X_run rfl trivial ?_
    refine G_take (k := 13) rfl rfl hZ hRo hro lo (by decide) (Nat.zero_le _) (fun cz lz Dz hRz hrz hOz => Eg.sub (yes 263 (by decide) (r' + 1) Dz (by rw [e1, eo, andR_t, need_y cz]; rfl) hRz hrz (hOo.tr hOz)) ⟨rfl, trivial⟩) (fun cz Dz hRz hrz hOz => Eg.sub (no 267 (by decide) r' Dz (by rw [e1, eo, andR_t, need_n cz]) hRz hrz (hOo.tr hOz)) ⟨rfl, trivial⟩)
  by_cases q9 : kdA T r = 9
  · have e0 : sentK (kdA T) r = need (kdA T) [9, 12, 13] r := by
      unfold sentK
      rw [if_neg q0, if_neg q2, if_neg q5, if_pos q9]
    rw [q9]
    refine X_tsw (t := 269) (k0 := 9) rfl (by decide) (by decide) rfl rfl ?_
    refine X_run rfl trivial ?_
    refine G_take (k := 9) rfl rfl hZ hR hr hr2 (by decide) (Nat.zero_le _) (fun c0 l0 D0 hR0 hr0 hO0 => ?_) (fun c0 D0 hR0 hr0 hO0 => Eg.sub (no 300 (by decide) r D0 (by rw [e0, need_n c0]) hR0 hr0 (hO.tr hO0)) ⟨rfl, trivial⟩)
    have hO0 := hO.tr hO0
    refine X_run rfl trivial ?_
    refine G_take (k := 12) rfl rfl hZ hR0 hr0 l0 (by decide) (Nat.zero_le _) (fun c1 l1 D1 hR1 hr1 hO1 => ?_) (fun c1 D1 hR1 hr1 hO1 => Eg.sub (no 300 (by decide) (r + 1) D1 (by rw [e0, need_y c0, need_n c1]) hR1 hr1 (hO0.tr hO1)) ⟨rfl, trivial⟩)
    have hO1 := hO0.tr hO1
    refine X_run rfl trivial ?_
    refine G_take (k := 13) rfl rfl hZ hR1 hr1 l1 (by decide) (Nat.zero_le _) (fun c2 l2 D2 hR2 hr2 hO2 => ?_) (fun c2 D2 hR2 hr2 hO2 => Eg.sub (no 300 (by decide) (r + 2) D2 (by rw [e0, need_y c0, need_y c1, need_n c2]) hR2 hr2 (hO1.tr hO2)) ⟨rfl, trivial⟩)
    have hO2 := hO1.tr hO2
    exact Eg.sub (yes 296 (by decide) (r + 3) D2 (by rw [e0, need_y c0, need_y c1, need_y c2]; rfl) hR2 hr2 hO2) ⟨rfl, trivial⟩
  by_cases q10 : kdA T r = 10
  · have e0 : sentK (kdA T) r = need (kdA T) [10, 12, 13] r := by
      unfold sentK
      rw [if_neg q0, if_neg q2, if_neg q5, if_neg q9, if_pos q10]
    rw [q10]
    refine X_tsw (t := 302) (k0 := 10) rfl (by decide) (by decide) rfl rfl ?_
    refine X_run rfl trivial ?_
    refine G_take (k := 10) rfl rfl hZ hR hr hr2 (by decide) (Nat.zero_le _) (fun c0 l0 D0 hR0 hr0 hO0 => ?_) (fun c0 D0 hR0 hr0 hO0 => Eg.sub (no 333 (by decide) r D0 (by rw [e0, need_n c0]) hR0 hr0 (hO.tr hO0)) ⟨rfl, trivial⟩)
    have hO0 := hO.tr hO0
    refine X_run rfl trivial ?_
    refine G_take (k := 12) rfl rfl hZ hR0 hr0 l0 (by decide) (Nat.zero_le _) (fun c1 l1 D1 hR1 hr1 hO1 => ?_) (fun c1 D1 hR1 hr1 hO1 => Eg.sub (no 333 (by decide) (r + 1) D1 (by rw [e0, need_y c0, need_n c1]) hR1 hr1 (hO0.tr hO1)) ⟨rfl, trivial⟩)
    have hO1 := hO0.tr hO1
    refine X_run rfl trivial ?_
    refine G_take (k := 13) rfl rfl hZ hR1 hr1 l1 (by decide) (Nat.zero_le _) (fun c2 l2 D2 hR2 hr2 hO2 => ?_) (fun c2 D2 hR2 hr2 hO2 => Eg.sub (no 333 (by decide) (r + 2) D2 (by rw [e0, need_y c0, need_y c1, need_n c2]) hR2 hr2 (hO1.tr hO2)) ⟨rfl, trivial⟩)
    have hO2 := hO1.tr hO2
    exact Eg.sub (yes 329 (by decide) (r + 3) D2 (by rw [e0, need_y c0, need_y c1, need_y c2]; rfl) hR2 hr2 hO2) ⟨rfl, trivial⟩
  have e0 : sentK (kdA T) r = (false, r) := by
    unfold sentK
    rw [if_neg q0, if_neg q2, if_neg q5, if_neg q9, if_neg q10]
  have fin : Eg g (d + 3) mX8_takesSentence 0 0 (Zr g (GrP S D Z T (sentK (kdA T) r))) 335 [(0, .ref Z)] [] (md S D) := no 335 (by decide) r D e0 hR hr hO
  have hk : kdA T r = 1 ∨ kdA T r = 3 ∨ kdA T r = 4 ∨ kdA T r = 6 ∨ kdA T r = 7 ∨ kdA T r = 8 ∨ 11 ≤ kdA T r := by omega
  rcases hk with h | h | h | h | h | h | h
  · rw [h]; exact X_tsw (t := 335) (k0 := 1) rfl (by decide) (by decide) rfl rfl fin
  · rw [h]; exact X_tsw (t := 335) (k0 := 3) rfl (by decide) (by decide) rfl rfl fin
  · rw [h]; exact X_tsw (t := 335) (k0 := 4) rfl (by decide) (by decide) rfl rfl fin
  · rw [h]; exact X_tsw (t := 335) (k0 := 6) rfl (by decide) (by decide) rfl rfl fin
  · rw [h]; exact X_tsw (t := 335) (k0 := 7) rfl (by decide) (by decide) rfl rfl fin
  · rw [h]; exact X_tsw (t := 335) (k0 := 8) rfl (by decide) (by decide) rfl rfl fin
  · exact X_tswD (t := 335) rfl (Or.inr (by rw [nI_toInt (by omega)]; omega)) rfl fin
theorem c_isText (hZ : TxL S Z) (hR : TkR D Z T) : EvM g (d + 4) mX8_isText 0 0 [.ref Z] (md S D) (GrP S D Z T (textR (kdA T) (tN T + 1) 0)) := by
  have hz := hZ.1
  have hN := tN_le T
  refine EvM.mk (by decide) (Nat.le_of_ble_eq_true rfl) ?_
  refine X_run rfl ?_ ?_
  · simp [md_s, md_w, rget, r_a, r_b, r_c, r_i, r_l, hz]
  try simp only [md_s, md_w, rget_some, r_a, r_b, r_c, r_i, r_l, r_nx, r_pc, Nat.reduceEqDiff, false_and, if_false, hz]
  have hR0 : TkR (pfi D 261 Z 0) Z T := hR.r
  have hr0 : d_fi (pfi D 261 Z 0) 261 Z = nI 0 := by simp [rd_fi]; rfl
  have hO0 : Out Z (Z + 1) D (pfi D 261 Z 0) := Out.fi (by omega)
  generalize pfi D 261 Z 0 = D0 at hR0 hr0 hO0 ⊢
  have key : ∀ (n : Nat) r D', n ≤ tN T + 1 → textR (kdA T) n r = textR (kdA T) (tN T + 1) 0 → r ≤ tN T → TkR D' Z T → d_fi D' 261 Z = nI r → Out Z (Z + 1) D D' → Eg g (d + 4) mX8_isText 0 0 (Zr g (GrP S D Z T (textR (kdA T) (tN T + 1) 0))) 7 [(0, .ref Z), (1, .int (nI (tN T + 1 - n)))] [] (md S D') := by
    intro n
    induction n with
    | zero =>
      intro r D' hn e hr hR' hr' hO'
      have hle := kdA_le T r
      refine X_run rfl ?_ ?_
      · simp [md_s, md_w, rget, r_a, r_b, r_c, r_i, r_l, hz, hR'.1]
      try simp only [md_s, md_w, rget_some, r_a, r_b, r_c, r_i, r_l, r_nx, r_pc, Nat.reduceEqDiff, false_and, if_false, hz, hR'.1]
      refine X_icmp_ge rfl (fun c1 => ?_) (fun c1 => no_nle c1 (by omega) (by omega))
      refine X_run rfl ?_ ?_
      · simp [md_s, md_w, rget, r_a, r_b, r_c, r_i, r_l, hz, hr']
      try simp only [md_s, md_w, rget_some, r_a, r_b, r_c, r_i, r_l, r_nx, r_pc, Nat.reduceEqDiff, false_and, if_false, hz, hr']
      refine X_cV (args := [.int (nI r)]) rfl (by decide) hz.1 rfl rfl (Nat.le_of_ble_eq_true rfl) (c_kindAt hZ hR' (by omega)) ?_
      rintro _ _ ⟨rfl, rfl⟩
      refine X_run rfl trivial ?_
      refine X_icmp_ne rfl (fun c2 => ?_) (fun c2 => ?_)
      · have c2 : ¬ kdA T r = 14 := fun z => c2 (by rw [z]; rfl)
        refine X_run rfl trivial ?_
        refine X_zret rfl rfl (Or.inl rfl) ⟨D', ?_, rfl, ?_, hR', hO'⟩
        · rw [← e, textR, decide_eq_false c2]; rfl
        · rw [← e]; exact hr'
      · have c2 : kdA T r = 14 := (nI_eq (b := 14) (by omega) (by omega)).mp c2
        refine X_run rfl trivial ?_
        refine X_zret rfl rfl (Or.inr rfl) ⟨D', ?_, rfl, ?_, hR', hO'⟩
        · rw [← e, textR, decide_eq_true c2]; rfl
        · rw [← e]; exact hr'
    | succ n ih =>
      intro r D' hn e hr hR' hr' hO'
      have hle := kdA_le T r
      refine X_run rfl ?_ ?_
      · simp [md_s, md_w, rget, r_a, r_b, r_c, r_i, r_l, hz, hR'.1]
      try simp only [md_s, md_w, rget_some, r_a, r_b, r_c, r_i, r_l, r_nx, r_pc, Nat.reduceEqDiff, false_and, if_false, hz, hR'.1]
      refine X_icmp_ge rfl (fun c1 => no_le c1 (by omega) (by omega)) (fun c1 => ?_)
      refine X_run rfl ?_ ?_
      · simp [md_s, md_w, rget, r_a, r_b, r_c, r_i, r_l, hz, hr']
      try simp only [md_s, md_w, rget_some, r_a, r_b, r_c, r_i, r_l, r_nx, r_pc, Nat.reduceEqDiff, false_and, if_false, hz, hr']
      refine X_cV (args := [.int (nI r)]) rfl (by decide) hz.1 rfl rfl (Nat.le_of_ble_eq_true rfl) (c_kindAt hZ hR' (by omega)) ?_
      rintro _ _ ⟨rfl, rfl⟩
      refine X_run rfl trivial ?_
      refine X_icmp_eq rfl (fun c2 => ?_) (fun c2 => ?_)
      · have c2 : kdA T r = 14 := (nI_eq (b := 14) (by omega) (by omega)).mp c2
        refine X_run rfl ?_ ?_
        · simp [md_s, md_w, rget, r_a, r_b, r_c, r_i, r_l, hz, hr']
        try simp only [md_s, md_w, rget_some, r_a, r_b, r_c, r_i, r_l, r_nx, r_pc, Nat.reduceEqDiff, false_and, if_false, hz, hr']
        refine X_cV (args := [.int (nI r)]) rfl (by decide) hz.1 rfl rfl (Nat.le_of_ble_eq_true rfl) (c_kindAt hZ hR' (by omega)) ?_
        rintro _ _ ⟨rfl, rfl⟩
        refine X_run rfl trivial ?_
        refine X_icmp_ne rfl (fun c3 => absurd (by rw [c2]; rfl) c3) (fun c3 => ?_)
        refine X_run rfl trivial ?_
        refine X_zret rfl rfl (Or.inr rfl) ⟨D', ?_, rfl, ?_, hR', hO'⟩
        · rw [← e, textR, if_pos c2]; rfl
        · rw [← e, textR, if_pos c2]; exact hr'
      · have c2 : ¬ kdA T r = 14 := fun z => c2 (by rw [z]; rfl)
        rw [textR, if_neg c2] at e
        refine X_run rfl trivial ?_
        refine X_cV rfl (by decide) hz.1 rfl rfl (Nat.le_of_ble_eq_true rfl) (c_takesSentence hZ hR' hr' hr) ?_
        rintro _ _ ⟨D1, rfl, rfl, g1, g2, g3⟩
        have hin := sent_in (kdA_N T) hr
        generalize sentK (kdA T) r = res at e g1 hin ⊢
        obtain ⟨b, r'⟩ := res
        cases b with
        | false =>
          refine X_if_ne rfl (fun c3 => absurd rfl c3) (fun c3 => ?_)
          refine X_run rfl trivial ?_
          refine X_zret rfl rfl (Or.inl rfl) ⟨D1, ?_, rfl, ?_, g2, hO'.tr g3⟩
          · rw [← e]; rfl
          · rw [← e]; exact g1
        | true =>
          refine X_if_ne rfl (fun c3 => ?_) (fun c3 => absurd c3 (show ¬ b2i true = 0 by decide))
          refine X_run rfl ?_ ?_
          · simp [md_s, md_w, rget, r_a, r_b, r_c, r_i, r_l, nI_s1]
          try simp only [md_s, md_w, rget_some, r_a, r_b, r_c, r_i, r_l, r_nx, r_pc, Nat.reduceEqDiff, false_and, if_false, nI_s1]
          exact Eg.sub (ih r' D1 (by omega) e hin g2 g1 (hO'.tr g3)) ⟨rfl, by rw [show tN T + 1 - (n + 1) + 1 = tN T + 1 - n by omega]; rfl, trivial⟩
  exact Eg.sub (key (tN T + 1) 0 D0 (Nat.le_refl _) rfl (Nat.zero_le _) hR0 hr0 hO0) ⟨rfl, by rw [Nat.sub_self]; rfl, trivial⟩
end GRAM
