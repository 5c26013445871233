/-! making: what a constructor adds -/
def Zf (D : DaT) (lo hi : Nat) : Prop := ∀ a, lo ≤ a → a < hi → ∀ q, d_fi D q a = 0
def Acc (S0 S : ShT) (D0 D : DaT) (o n : Nat) : Prop := s_sz S = s_sz S0 + n ∧ (∀ a, a < s_sz S0 → (s_tg S a = s_tg S0 a ∧ s_ln S a = s_ln S0 a ∧ s_ar S a = s_ar S0 a) ∧ (a ≠ o → ∀ q, s_fr S q a = s_fr S0 q a)) ∧ (∀ a, a < s_sz S0 → Same D0 D a) ∧ Zf D (s_sz S0) (s_sz S)
theorem Same.rf {D : DaT} {a : Nat} : Same D D a := ⟨fun _ => rfl, fun _ => rfl, rfl, rfl⟩
theorem Acc.rf {S : ShT} {D : DaT} {o : Nat} : Acc S S D D o 0 := ⟨rfl, fun _ _ => ⟨⟨rfl, rfl, rfl⟩, fun _ _ => rfl⟩, fun _ _ => Same.rf, fun a h1 h2 => absurd h1 (Nat.not_le.mpr h2)⟩
theorem Acc.put {S0 S : ShT} {D0 D : DaT} {o o' n k : Nat} {v : Option Nat} (h : Acc S0 S D0 D o n) (ho : o' = o ∨ s_sz S0 ≤ o') : Acc S0 (pfr S k o' v) D0 D o n := by
  obtain ⟨h1, h2, h3, h4⟩ := h
  refine ⟨h1, fun a ha => ⟨(h2 a ha).1, fun hne q => ?_⟩, h3, h4⟩
  rw [rd_fr, if_neg (by omega)]
  exact (h2 a ha).2 hne q
theorem Acc.new {S0 S S1 : ShT} {D0 D D1 : DaT} {o n : Nat} (h : Acc S0 S D0 D o n) (hG : Gro S S1 1) (hO : Out (s_sz S) (s_sz S + 1) D D1) (hz : ∀ k, d_fi D1 k (s_sz S) = 0) : Acc S0 S1 D0 D1 o (n + 1) := by
  obtain ⟨h1, h2, h3, h4⟩ := h
  have hs := hG.1
  refine ⟨by omega, fun a ha => ?_, fun a ha => (h3 a ha).tr (hO a (by omega)), fun a h5 h6 q => ?_⟩
  · obtain ⟨q1, q2, q3, q4⟩ := hG.2 a (Nat.zero_le _) (by omega)
    obtain ⟨⟨p1, p2, p3⟩, p4⟩ := h2 a ha
    exact ⟨⟨q1.trans p1, q2.trans p2, q4.trans p3⟩, fun hne q => (q3 q).trans (p4 hne q)⟩
  · by_cases c : a = s_sz S
    · rw [c]; exact hz q
    · rw [(hO a (by omega)).1 q]
      exact h4 a h5 (by omega) q
theorem Acc.call {S0 S S1 : ShT} {D0 D D1 : DaT} {o o' n k : Nat} (h : Acc S0 S D0 D o n) (h' : Acc S S1 D D1 o' k) (ho : s_sz S0 ≤ o') : Acc S0 S1 D0 D1 o (n + k) := by
  obtain ⟨h1, h2, h3, h4⟩ := h
  obtain ⟨g1, g2, g3, g4⟩ := h'
  refine ⟨by omega, fun a ha => ?_, fun a ha => (h3 a ha).tr (g3 a (by omega)), fun a h5 h6 q => ?_⟩
  · obtain ⟨⟨q1, q2, q3⟩, q4⟩ := g2 a (by omega)
    obtain ⟨⟨p1, p2, p3⟩, p4⟩ := h2 a ha
    exact ⟨⟨q1.trans p1, q2.trans p2, q3.trans p3⟩, fun hne q => (q4 (by omega) q).trans (p4 hne q)⟩
  · by_cases c : a < s_sz S
    · rw [(g3 a c).1 q]
      exact h4 a h5 c q
    · exact g4 a (by omega) h6 q
theorem Acc.trans' {S S1 : ShT} {D D1 : DaT} {o n n' : Nat} (h : Acc S S1 D D1 o n) (e : n = n') : Acc S S1 D D1 o n' := e ▸ h
theorem Acc.sam {S S1 : ShT} {D D1 : DaT} {o k lo hi : Nat} (h : Acc S S1 D D1 o k) (h1 : hi ≤ s_sz S) (h2 : o < lo ∨ hi ≤ o) : SamS S S1 lo hi := fun a ha hb => by
  obtain ⟨⟨q1, q2, q3⟩, q4⟩ := h.2.1 a (by omega)
  exact ⟨q1, q2, q4 (by omega), q3⟩
theorem sam_pfr {S : ShT} {k o lo hi : Nat} {v : Option Nat} (h : o < lo ∨ hi ≤ o) : SamS S (pfr S k o v) lo hi := fun a ha hb => ⟨rfl, rfl, fun q => by rw [rd_fr, if_neg (by omega)], rfl⟩
theorem sam_gro {S S1 : ShT} {k lo hi : Nat} (h : Gro S S1 k) (h1 : hi ≤ s_sz S) : SamS S S1 lo hi := h.2.sub (Nat.zero_le _) h1
theorem Acc.fr {S S1 : ShT} {D D1 : DaT} {o k a q : Nat} (h : Acc S S1 D D1 o k) (h1 : a < s_sz S) (h2 : a ≠ o) : s_fr S1 q a = s_fr S q a := (h.2.1 a h1).2 h2 q
theorem Acc.tg {S S1 : ShT} {D D1 : DaT} {o k a : Nat} (h : Acc S S1 D D1 o k) (h1 : a < s_sz S) : s_tg S1 a = s_tg S a := (h.2.1 a h1).1.1
theorem Acc.ln {S S1 : ShT} {D D1 : DaT} {o k a : Nat} (h : Acc S S1 D D1 o k) (h1 : a < s_sz S) : s_ln S1 a = s_ln S a := (h.2.1 a h1).1.2.1
theorem Gro.fr {S S1 : ShT} {k a q : Nat} (h : Gro S S1 k) (h1 : a < s_sz S) : s_fr S1 q a = s_fr S q a := (h.2 a (Nat.zero_le _) h1).2.2.1 q
theorem Gro.tg {S S1 : ShT} {k a : Nat} (h : Gro S S1 k) (h1 : a < s_sz S) : s_tg S1 a = s_tg S a := (h.2 a (Nat.zero_le _) h1).1
theorem Gro.ln {S S1 : ShT} {k a : Nat} (h : Gro S S1 k) (h1 : a < s_sz S) : s_ln S1 a = s_ln S a := (h.2 a (Nat.zero_le _) h1).2.1
/-- a new cell, in one step -/
theorem newA (S : ShT) (D : DaT) (t n : Nat) : ∃ S1 D1, w_new (md S D) t n = md S1 D1 ∧ Gro S S1 1 ∧ s_sz S1 = s_sz S + 1 ∧ (s_tg S1 (s_sz S) = t ∧ s_ln S1 (s_sz S) = n) ∧ Acc S S1 D D1 0 1 ∧ Acc S S1 D D1 (s_sz S) 1 := by
  obtain ⟨S1, D1, e1, hG, hn, hO, -, -, hz, -⟩ := new_md S D t n
  exact ⟨S1, D1, e1, hG, hG.1, hn, (Acc.rf (o := 0)).new hG hO hz, (Acc.rf (o := s_sz S)).new hG hO hz⟩
theorem nI_ge0 {n : Nat} (h : n < 2 ^ 31) : (0 : Int32) ≤ nI n := Int32.le_iff_toInt_le.mpr (by
  rw [nI_toInt h]
  exact Int.natCast_nonneg n)
section MAKE
variable {g : GG} {d : Nat} {S : ShT} {D : DaT} {o n : Nat}
theorem c_mkRow (ht : s_tg S o = 7) (hz : o < s_sz S) (hn : n ≤ 60000) : EvM g (d + 1) mX6_init 1 n [.ref o, .int (nI n)] (md S D) (fun v M1 => ∃ S1 D1, v = none ∧ M1 = md S1 D1 ∧ Acc S S1 D D1 o 1 ∧ RowL S1 o (s_sz S) n) := by
  refine EvM.mk (by decide) (Nat.le_of_ble_eq_true rfl) ?_
  refine X_run rfl trivial ?_
  refine X_obj (a := 0) rfl (Nat.le_of_ble_eq_true rfl) ?_
  refine X_run rfl trivial ?_
  refine X_if_ge rfl (fun _ => ?_) (fun z => absurd (nI_ge0 (by omega)) z)
  refine X_run rfl trivial ?_
  refine Eg.cost (bc := 0 + 1) (bs := 0 + n) ?_ (by omega) (by omega)
  refine X_newarray (N := n) rfl (Int32.not_lt.mpr (nI_ge0 (by omega))) (nI_clamp (by omega)) hn ?_
  obtain ⟨S1, D1, e1, hG, hs, hn1, -, hA⟩ := newA S D 20 n
  rw [show w_new (md S D) (0 + 20) n = md S1 D1 from e1]
  have t1 := (hG.tg hz).trans ht
  refine X_run rfl ?_ ?_
  · simp [md_s, md_w, rget, r_a, r_b, r_c, r_i, r_l, t1, w_fr_md]
  try simp only [md_s, md_w, rget_some, r_a, r_b, r_c, r_i, r_l, r_nx, r_pc, Nat.reduceEqDiff, false_and, if_false, t1, w_fr_md]
  have hA1 : Acc S S1 D D1 o 1 := (Acc.rf.call hA (Nat.le_refl _)).trans' (by omega)
  exact X_vret rfl rfl ⟨_, _, rfl, rfl, hA1.put (Or.inl rfl), t1, by rw [rd_fr, if_pos ⟨rfl, rfl⟩], hn1.1, hn1.2, by omega⟩
theorem c_mkBr (ht : s_tg S o = 2) (hz : o < s_sz S) (hn : n ≤ 60000) : EvM g (d + 1) mX1_init 1 n [.ref o, .int (nI n)] (md S D) (fun v M1 => ∃ S1 D1, v = none ∧ M1 = md S1 D1 ∧ Acc S S1 D D1 o 1 ∧ BrL S1 o (s_sz S) n) := by
  refine EvM.mk (by decide) (Nat.le_of_ble_eq_true rfl) ?_
  refine X_run rfl trivial ?_
  refine X_obj (a := 0) rfl (Nat.le_of_ble_eq_true rfl) ?_
  refine X_run rfl trivial ?_
  refine X_if_ge rfl (fun _ => ?_) (fun z => absurd (nI_ge0 (by omega)) z)
  refine X_run rfl trivial ?_
  refine Eg.cost (bc := 0 + 1) (bs := 0 + n) ?_ (by omega) (by omega)
  refine X_newarray (N := n) rfl (Int32.not_lt.mpr (nI_ge0 (by omega))) (nI_clamp (by omega)) hn ?_
  obtain ⟨S1, D1, e1, hG, hs, hn1, -, hA⟩ := newA S D 22 n
  rw [show w_new (md S D) (2 + 20) n = md S1 D1 from e1]
  have t1 := (hG.tg hz).trans ht
  refine X_run rfl ?_ ?_
  · simp [md_s, md_w, rget, r_a, r_b, r_c, r_i, r_l, t1, w_fr_md]
  try simp only [md_s, md_w, rget_some, r_a, r_b, r_c, r_i, r_l, r_nx, r_pc, Nat.reduceEqDiff, false_and, if_false, t1, w_fr_md]
  have hA1 : Acc S S1 D D1 o 1 := (Acc.rf.call hA (Nat.le_refl _)).trans' (by omega)
  exact X_vret rfl rfl ⟨_, _, rfl, rfl, hA1.put (Or.inl rfl), t1, by rw [rd_fr, if_pos ⟨rfl, rfl⟩], hn1.1, hn1.2, by omega⟩
theorem c_mk2 : EvM g (d + 1) mX2_init 0 0 [.ref o] (md S D) (fun v M1 => v = none ∧ M1 = md S D) := by
  refine EvM.mk (by decide) (Nat.le_of_ble_eq_true rfl) ?_
  refine X_run rfl trivial ?_
  refine X_obj (a := 0) rfl (Nat.le_of_ble_eq_true rfl) ?_
  exact X_vret rfl rfl ⟨rfl, rfl⟩
theorem c_mk5 : EvM g (d + 1) mX5_init 0 0 [.ref o] (md S D) (fun v M1 => v = none ∧ M1 = md S D) := by
  refine EvM.mk (by decide) (Nat.le_of_ble_eq_true rfl) ?_
  refine X_run rfl trivial ?_
  refine X_obj (a := 0) rfl (Nat.le_of_ble_eq_true rfl) ?_
  exact X_vret rfl rfl ⟨rfl, rfl⟩
end MAKE
