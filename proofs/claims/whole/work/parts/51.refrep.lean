/-! the reference's state as numbers -/
def c37 (w : List Nat) : Int64 := w.foldl (fun c b => c * 37 + (if isLet b = true then nI b - 97 + 1 else nI b - 48 + 27).toInt64) 0
def StL (S : ShT) (A : Nat) : Prop := s_tg S A = 11 ∧ (∀ i, i < 19 → s_fr S (325 + i) A = some (A + (1 + i))) ∧
  (s_tg S (A + 1) = 21 ∧ s_ln S (A + 1) = 10) ∧ (s_tg S (A + 2) = 20 ∧ s_ln S (A + 2) = 10) ∧ (s_tg S (A + 3) = 20 ∧ s_ln S (A + 3) = 10) ∧ (s_tg S (A + 4) = 21 ∧ s_ln S (A + 4) = 5) ∧ (s_tg S (A + 5) = 20 ∧ s_ln S (A + 5) = 5) ∧ (s_tg S (A + 6) = 20 ∧ s_ln S (A + 6) = 5) ∧ (s_tg S (A + 7) = 20 ∧ s_ln S (A + 7) = 50) ∧ (s_tg S (A + 8) = 20 ∧ s_ln S (A + 8) = 50) ∧ (∀ i, i < 10 → s_tg S (A + (9 + i)) = 20 ∧ s_ln S (A + (9 + i)) = 60) ∧ (s_tg S (A + 19) = 20 ∧ s_ln S (A + 19) = 50)
/-- all of it, a row each -/
theorem StL.all {S : ShT} {A : Nat} (h : StL S A) : (s_tg S A = 11 ∧ s_fr S 325 A = some (A + 1) ∧ s_fr S 326 A = some (A + 2) ∧ s_fr S 327 A = some (A + 3) ∧ s_fr S 328 A = some (A + 4) ∧ s_fr S 329 A = some (A + 5) ∧ s_fr S 330 A = some (A + 6) ∧ s_fr S 331 A = some (A + 7) ∧ s_fr S 332 A = some (A + 8) ∧ s_fr S 333 A = some (A + 9) ∧ s_fr S 334 A = some (A + 10) ∧ s_fr S 335 A = some (A + 11) ∧ s_fr S 336 A = some (A + 12) ∧ s_fr S 337 A = some (A + 13) ∧ s_fr S 338 A = some (A + 14) ∧ s_fr S 339 A = some (A + 15) ∧ s_fr S 340 A = some (A + 16) ∧ s_fr S 341 A = some (A + 17) ∧ s_fr S 342 A = some (A + 18) ∧ s_fr S 343 A = some (A + 19)) ∧
    ((s_tg S (A + 1) = 21 ∧ s_ln S (A + 1) = 10) ∧ (s_tg S (A + 2) = 20 ∧ s_ln S (A + 2) = 10) ∧ (s_tg S (A + 3) = 20 ∧ s_ln S (A + 3) = 10) ∧ (s_tg S (A + 4) = 21 ∧ s_ln S (A + 4) = 5) ∧ (s_tg S (A + 5) = 20 ∧ s_ln S (A + 5) = 5) ∧ (s_tg S (A + 6) = 20 ∧ s_ln S (A + 6) = 5) ∧ (s_tg S (A + 7) = 20 ∧ s_ln S (A + 7) = 50) ∧ (s_tg S (A + 8) = 20 ∧ s_ln S (A + 8) = 50)) ∧
    ((s_tg S (A + 9) = 20 ∧ s_ln S (A + 9) = 60) ∧ (s_tg S (A + 10) = 20 ∧ s_ln S (A + 10) = 60) ∧ (s_tg S (A + 11) = 20 ∧ s_ln S (A + 11) = 60) ∧ (s_tg S (A + 12) = 20 ∧ s_ln S (A + 12) = 60) ∧ (s_tg S (A + 13) = 20 ∧ s_ln S (A + 13) = 60) ∧ (s_tg S (A + 14) = 20 ∧ s_ln S (A + 14) = 60) ∧ (s_tg S (A + 15) = 20 ∧ s_ln S (A + 15) = 60) ∧ (s_tg S (A + 16) = 20 ∧ s_ln S (A + 16) = 60) ∧ (s_tg S (A + 17) = 20 ∧ s_ln S (A + 17) = 60) ∧ (s_tg S (A + 18) = 20 ∧ s_ln S (A + 18) = 60) ∧ (s_tg S (A + 19) = 20 ∧ s_ln S (A + 19) = 50)) := by
  obtain ⟨h1, h2, h3, h4, h5, h6, h7, h8, h9, h10, h11, h12⟩ := h
  exact ⟨⟨h1, h2 0 (by decide), h2 1 (by decide), h2 2 (by decide), h2 3 (by decide), h2 4 (by decide), h2 5 (by decide), h2 6 (by decide), h2 7 (by decide), h2 8 (by decide), h2 9 (by decide), h2 10 (by decide), h2 11 (by decide), h2 12 (by decide), h2 13 (by decide), h2 14 (by decide), h2 15 (by decide), h2 16 (by decide), h2 17 (by decide), h2 18 (by decide)⟩, ⟨h3, h4, h5, h6, h7, h8, h9, h10⟩, h11 0 (by decide), h11 1 (by decide), h11 2 (by decide), h11 3 (by decide), h11 4 (by decide), h11 5 (by decide), h11 6 (by decide), h11 7 (by decide), h11 8 (by decide), h11 9 (by decide), h12⟩
def RrC (D : DaT) (A : Nat) (K : KT) : Prop := d_fi D 320 A = k_day K ∧ d_fi D 321 A = k_hr K ∧ d_fi D 322 A = nI (k_np K) ∧ d_fi D 323 A = nI (k_nm K) ∧ d_fi D 324 A = nI (k_ny K)
def RrP (D : DaT) (A : Nat) (K : KT) (p : Nat) : Prop := d_al D (A + 1) p = c37 (k_pn K p) ∧ d_ai D (A + 2) p = k_li K p ∧ d_ai D (A + 3) p = b2i (k_df K p) ∧ ∀ m, m < 5 → d_ai D (A + 7) (5 * p + m) = k_ba K p m ∧ d_ai D (A + 8) (5 * p + m) = k_co K p m
def RrM (D : DaT) (A : Nat) (K : KT) (m : Nat) : Prop := d_al D (A + 4) m = c37 (k_mn K m) ∧ d_ai D (A + 5) m = k_rt K m ∧ d_ai D (A + 6) m = k_ct K m
def RrY (D : DaT) (A : Nat) (K : KT) (n : Nat) : Prop := d_ai D (A + 9) n = nI (k_fr K n) ∧ d_ai D (A + 10) n = nI (k_to K n) ∧ d_ai D (A + 11) n = k_am K n ∧ d_ai D (A + 12) n = nI (k_mo K n) ∧ d_ai D (A + 13) n = k_du K n ∧ d_ai D (A + 14) n = pE (k_pr K n) ∧ d_ai D (A + 15) n = k_st K n ∧ d_ai D (A + 16) n = b2i (k_he K n) ∧ d_ai D (A + 17) n = k_se K n
def RepR (D : DaT) (A : Nat) (K : KT) : Prop := RrC D A K ∧ (∀ p, p < k_np K → RrP D A K p) ∧ (∀ m, m < k_nm K → RrM D A K m) ∧ ∀ n, n < k_ny K → RrY D A K n
theorem RepR.same {D D1 : DaT} {A : Nat} {K : KT} (h : RepR D A K) (h1 : ∀ k, d_fi D1 k A = d_fi D k A) (h2 : ∀ r, 1 ≤ r → r < 18 → d_ai D1 (A + r) = d_ai D (A + r) ∧ d_al D1 (A + r) = d_al D (A + r)) : RepR D1 A K := by
  obtain ⟨c, p, m, y⟩ := h
  refine ⟨?_, fun q hq => ?_, fun q hq => ?_, fun q hq => ?_⟩
  · unfold RrC at c ⊢
    simp only [h1]; exact c
  · have := p q hq
    unfold RrP at this ⊢
    rw [(h2 1 (by decide) (by decide)).2, (h2 2 (by decide) (by decide)).1, (h2 3 (by decide) (by decide)).1, (h2 7 (by decide) (by decide)).1, (h2 8 (by decide) (by decide)).1]
    exact this
  · have := m q hq
    unfold RrM at this ⊢
    rw [(h2 4 (by decide) (by decide)).2, (h2 5 (by decide) (by decide)).1, (h2 6 (by decide) (by decide)).1]
    exact this
  · have := y q hq
    unfold RrY at this ⊢
    rw [(h2 9 (by decide) (by decide)).1, (h2 10 (by decide) (by decide)).1, (h2 11 (by decide) (by decide)).1, (h2 12 (by decide) (by decide)).1, (h2 13 (by decide) (by decide)).1, (h2 14 (by decide) (by decide)).1, (h2 15 (by decide) (by decide)).1, (h2 16 (by decide) (by decide)).1, (h2 17 (by decide) (by decide)).1]
    exact this
theorem RepR.out {D D1 : DaT} {A lo hi : Nat} {K : KT} (h : RepR D A K) (ho : Out lo hi D D1) (hd : hi ≤ A ∨ A + 18 ≤ lo) : RepR D1 A K :=
  h.same (fun k => (ho A (by omega)).1 k) (fun r h1 h2 => ⟨(ho (A + r) (by omega)).2.2.1, (ho (A + r) (by omega)).2.2.2⟩)
theorem RepR.wf {D : DaT} {A : Nat} {K K' : KT} (h : RepR D A K) (e : skel K = skel K') : d_fi D 322 A = nI (k_np K') ∧ d_fi D 323 A = nI (k_nm K') ∧ d_fi D 324 A = nI (k_ny K') := by
  obtain ⟨⟨-, -, h3, h4, h5⟩, -⟩ := h
  have e1 : k_np K = k_np K' := congrArg (fun z => z.1) e
  have e2 : k_nm K = k_nm K' := congrArg (fun z => z.2.1) e
  have e3 : k_ny K = k_ny K' := congrArg (fun z => z.2.2.1) e
  rw [← e1, ← e2, ← e3]
  exact ⟨h3, h4, h5⟩
theorem RepR.fr {D : DaT} {A n : Nat} {K : KT} (h : RepR D A K) (v : Nat) : RepR (pai D (A + 9) n (nI v)) A (ks_fr K (up1 (k_fr K) n v)) := by
  obtain ⟨c, p, m, y⟩ := h
  have e : ∀ q, q ≠ 9 → d_ai (pai D (A + 9) n (nI v)) (A + q) = d_ai D (A + q) := fun q hq => up2_ne (by omega)
  refine ⟨c, fun q hq => ?_, fun q hq => ?_, fun q hq => ?_⟩
  · have := p q hq
    unfold RrP at this ⊢
    rw [e 2 (by decide), e 3 (by decide), e 7 (by decide), e 8 (by decide)]
    exact this
  · have := m q hq
    unfold RrM at this ⊢
    rw [e 5 (by decide), e 6 (by decide)]
    exact this
  · have := y q hq
    unfold RrY at this ⊢
    rw [e 10 (by decide), e 11 (by decide), e 12 (by decide), e 13 (by decide), e 14 (by decide), e 15 (by decide), e 16 (by decide), e 17 (by decide)]
    refine ⟨?_, this.2.1, this.2.2.1, this.2.2.2.1, this.2.2.2.2.1, this.2.2.2.2.2.1, this.2.2.2.2.2.2.1, this.2.2.2.2.2.2.2.1, this.2.2.2.2.2.2.2.2⟩
    show d_ai (pai D (A + 9) n (nI v)) (A + 9) q = nI (up1 (k_fr K) n v q)
    rw [rd_ai]
    by_cases hz : q = n
    · rw [if_pos ⟨rfl, hz⟩, hz, u1_eq]
    · rw [if_neg (fun z => hz z.2), u1_no hz]
      exact this.1
theorem RepR.to {D : DaT} {A n : Nat} {K : KT} (h : RepR D A K) (v : Nat) : RepR (pai D (A + 10) n (nI v)) A (ks_to K (up1 (k_to K) n v)) := by
  obtain ⟨c, p, m, y⟩ := h
  have e : ∀ q, q ≠ 10 → d_ai (pai D (A + 10) n (nI v)) (A + q) = d_ai D (A + q) := fun q hq => up2_ne (by omega)
  refine ⟨c, fun q hq => ?_, fun q hq => ?_, fun q hq => ?_⟩
  · have := p q hq
    unfold RrP at this ⊢
    rw [e 2 (by decide), e 3 (by decide), e 7 (by decide), e 8 (by decide)]
    exact this
  · have := m q hq
    unfold RrM at this ⊢
    rw [e 5 (by decide), e 6 (by decide)]
    exact this
  · have := y q hq
    unfold RrY at this ⊢
    rw [e 9 (by decide), e 11 (by decide), e 12 (by decide), e 13 (by decide), e 14 (by decide), e 15 (by decide), e 16 (by decide), e 17 (by decide)]
    refine ⟨this.1, ?_, this.2.2.1, this.2.2.2.1, this.2.2.2.2.1, this.2.2.2.2.2.1, this.2.2.2.2.2.2.1, this.2.2.2.2.2.2.2.1, this.2.2.2.2.2.2.2.2⟩
    show d_ai (pai D (A + 10) n (nI v)) (A + 10) q = nI (up1 (k_to K) n v q)
    rw [rd_ai]
    by_cases hz : q = n
    · rw [if_pos ⟨rfl, hz⟩, hz, u1_eq]
    · rw [if_neg (fun z => hz z.2), u1_no hz]
      exact this.2.1
theorem RepR.am {D : DaT} {A n : Nat} {K : KT} (h : RepR D A K) (v : Int32) : RepR (pai D (A + 11) n (v)) A (ks_am K (up1 (k_am K) n v)) := by
  obtain ⟨c, p, m, y⟩ := h
  have e : ∀ q, q ≠ 11 → d_ai (pai D (A + 11) n (v)) (A + q) = d_ai D (A + q) := fun q hq => up2_ne (by omega)
  refine ⟨c, fun q hq => ?_, fun q hq => ?_, fun q hq => ?_⟩
  · have := p q hq
    unfold RrP at this ⊢
    rw [e 2 (by decide), e 3 (by decide), e 7 (by decide), e 8 (by decide)]
    exact this
  · have := m q hq
    unfold RrM at this ⊢
    rw [e 5 (by decide), e 6 (by decide)]
    exact this
  · have := y q hq
    unfold RrY at this ⊢
    rw [e 9 (by decide), e 10 (by decide), e 12 (by decide), e 13 (by decide), e 14 (by decide), e 15 (by decide), e 16 (by decide), e 17 (by decide)]
    refine ⟨this.1, this.2.1, ?_, this.2.2.2.1, this.2.2.2.2.1, this.2.2.2.2.2.1, this.2.2.2.2.2.2.1, this.2.2.2.2.2.2.2.1, this.2.2.2.2.2.2.2.2⟩
    show d_ai (pai D (A + 11) n (v)) (A + 11) q =  (up1 (k_am K) n v q)
    rw [rd_ai]
    by_cases hz : q = n
    · rw [if_pos ⟨rfl, hz⟩, hz, u1_eq]
    · rw [if_neg (fun z => hz z.2), u1_no hz]
      exact this.2.2.1
theorem RepR.mo {D : DaT} {A n : Nat} {K : KT} (h : RepR D A K) (v : Nat) : RepR (pai D (A + 12) n (nI v)) A (ks_mo K (up1 (k_mo K) n v)) := by
  obtain ⟨c, p, m, y⟩ := h
  have e : ∀ q, q ≠ 12 → d_ai (pai D (A + 12) n (nI v)) (A + q) = d_ai D (A + q) := fun q hq => up2_ne (by omega)
  refine ⟨c, fun q hq => ?_, fun q hq => ?_, fun q hq => ?_⟩
  · have := p q hq
    unfold RrP at this ⊢
    rw [e 2 (by decide), e 3 (by decide), e 7 (by decide), e 8 (by decide)]
    exact this
  · have := m q hq
    unfold RrM at this ⊢
    rw [e 5 (by decide), e 6 (by decide)]
    exact this
  · have := y q hq
    unfold RrY at this ⊢
    rw [e 9 (by decide), e 10 (by decide), e 11 (by decide), e 13 (by decide), e 14 (by decide), e 15 (by decide), e 16 (by decide), e 17 (by decide)]
    refine ⟨this.1, this.2.1, this.2.2.1, ?_, this.2.2.2.2.1, this.2.2.2.2.2.1, this.2.2.2.2.2.2.1, this.2.2.2.2.2.2.2.1, this.2.2.2.2.2.2.2.2⟩
    show d_ai (pai D (A + 12) n (nI v)) (A + 12) q = nI (up1 (k_mo K) n v q)
    rw [rd_ai]
    by_cases hz : q = n
    · rw [if_pos ⟨rfl, hz⟩, hz, u1_eq]
    · rw [if_neg (fun z => hz z.2), u1_no hz]
      exact this.2.2.2.1
theorem RepR.du {D : DaT} {A n : Nat} {K : KT} (h : RepR D A K) (v : Int32) : RepR (pai D (A + 13) n (v)) A (ks_du K (up1 (k_du K) n v)) := by
  obtain ⟨c, p, m, y⟩ := h
  have e : ∀ q, q ≠ 13 → d_ai (pai D (A + 13) n (v)) (A + q) = d_ai D (A + q) := fun q hq => up2_ne (by omega)
  refine ⟨c, fun q hq => ?_, fun q hq => ?_, fun q hq => ?_⟩
  · have := p q hq
    unfold RrP at this ⊢
    rw [e 2 (by decide), e 3 (by decide), e 7 (by decide), e 8 (by decide)]
    exact this
  · have := m q hq
    unfold RrM at this ⊢
    rw [e 5 (by decide), e 6 (by decide)]
    exact this
  · have := y q hq
    unfold RrY at this ⊢
    rw [e 9 (by decide), e 10 (by decide), e 11 (by decide), e 12 (by decide), e 14 (by decide), e 15 (by decide), e 16 (by decide), e 17 (by decide)]
    refine ⟨this.1, this.2.1, this.2.2.1, this.2.2.2.1, ?_, this.2.2.2.2.2.1, this.2.2.2.2.2.2.1, this.2.2.2.2.2.2.2.1, this.2.2.2.2.2.2.2.2⟩
    show d_ai (pai D (A + 13) n (v)) (A + 13) q =  (up1 (k_du K) n v q)
    rw [rd_ai]
    by_cases hz : q = n
    · rw [if_pos ⟨rfl, hz⟩, hz, u1_eq]
    · rw [if_neg (fun z => hz z.2), u1_no hz]
      exact this.2.2.2.2.1
theorem RepR.pr {D : DaT} {A n : Nat} {K : KT} (h : RepR D A K) (v : Option Nat) : RepR (pai D (A + 14) n (pE v)) A (ks_pr K (up1 (k_pr K) n v)) := by
  obtain ⟨c, p, m, y⟩ := h
  have e : ∀ q, q ≠ 14 → d_ai (pai D (A + 14) n (pE v)) (A + q) = d_ai D (A + q) := fun q hq => up2_ne (by omega)
  refine ⟨c, fun q hq => ?_, fun q hq => ?_, fun q hq => ?_⟩
  · have := p q hq
    unfold RrP at this ⊢
    rw [e 2 (by decide), e 3 (by decide), e 7 (by decide), e 8 (by decide)]
    exact this
  · have := m q hq
    unfold RrM at this ⊢
    rw [e 5 (by decide), e 6 (by decide)]
    exact this
  · have := y q hq
    unfold RrY at this ⊢
    rw [e 9 (by decide), e 10 (by decide), e 11 (by decide), e 12 (by decide), e 13 (by decide), e 15 (by decide), e 16 (by decide), e 17 (by decide)]
    refine ⟨this.1, this.2.1, this.2.2.1, this.2.2.2.1, this.2.2.2.2.1, ?_, this.2.2.2.2.2.2.1, this.2.2.2.2.2.2.2.1, this.2.2.2.2.2.2.2.2⟩
    show d_ai (pai D (A + 14) n (pE v)) (A + 14) q = pE (up1 (k_pr K) n v q)
    rw [rd_ai]
    by_cases hz : q = n
    · rw [if_pos ⟨rfl, hz⟩, hz, u1_eq]
    · rw [if_neg (fun z => hz z.2), u1_no hz]
      exact this.2.2.2.2.2.1
theorem RepR.st {D : DaT} {A n : Nat} {K : KT} (h : RepR D A K) (v : Int32) : RepR (pai D (A + 15) n (v)) A (ks_st K (up1 (k_st K) n v)) := by
  obtain ⟨c, p, m, y⟩ := h
  have e : ∀ q, q ≠ 15 → d_ai (pai D (A + 15) n (v)) (A + q) = d_ai D (A + q) := fun q hq => up2_ne (by omega)
  refine ⟨c, fun q hq => ?_, fun q hq => ?_, fun q hq => ?_⟩
  · have := p q hq
    unfold RrP at this ⊢
    rw [e 2 (by decide), e 3 (by decide), e 7 (by decide), e 8 (by decide)]
    exact this
  · have := m q hq
    unfold RrM at this ⊢
    rw [e 5 (by decide), e 6 (by decide)]
    exact this
  · have := y q hq
    unfold RrY at this ⊢
    rw [e 9 (by decide), e 10 (by decide), e 11 (by decide), e 12 (by decide), e 13 (by decide), e 14 (by decide), e 16 (by decide), e 17 (by decide)]
    refine ⟨this.1, this.2.1, this.2.2.1, this.2.2.2.1, this.2.2.2.2.1, this.2.2.2.2.2.1, ?_, this.2.2.2.2.2.2.2.1, this.2.2.2.2.2.2.2.2⟩
    show d_ai (pai D (A + 15) n (v)) (A + 15) q =  (up1 (k_st K) n v q)
    rw [rd_ai]
    by_cases hz : q = n
    · rw [if_pos ⟨rfl, hz⟩, hz, u1_eq]
    · rw [if_neg (fun z => hz z.2), u1_no hz]
      exact this.2.2.2.2.2.2.1
theorem RepR.he {D : DaT} {A n : Nat} {K : KT} (h : RepR D A K) (v : Bool) : RepR (pai D (A + 16) n (b2i v)) A (ks_he K (up1 (k_he K) n v)) := by
  obtain ⟨c, p, m, y⟩ := h
  have e : ∀ q, q ≠ 16 → d_ai (pai D (A + 16) n (b2i v)) (A + q) = d_ai D (A + q) := fun q hq => up2_ne (by omega)
  refine ⟨c, fun q hq => ?_, fun q hq => ?_, fun q hq => ?_⟩
  · have := p q hq
    unfold RrP at this ⊢
    rw [e 2 (by decide), e 3 (by decide), e 7 (by decide), e 8 (by decide)]
    exact this
  · have := m q hq
    unfold RrM at this ⊢
    rw [e 5 (by decide), e 6 (by decide)]
    exact this
  · have := y q hq
    unfold RrY at this ⊢
    rw [e 9 (by decide), e 10 (by decide), e 11 (by decide), e 12 (by decide), e 13 (by decide), e 14 (by decide), e 15 (by decide), e 17 (by decide)]
    refine ⟨this.1, this.2.1, this.2.2.1, this.2.2.2.1, this.2.2.2.2.1, this.2.2.2.2.2.1, this.2.2.2.2.2.2.1, ?_, this.2.2.2.2.2.2.2.2⟩
    show d_ai (pai D (A + 16) n (b2i v)) (A + 16) q = b2i (up1 (k_he K) n v q)
    rw [rd_ai]
    by_cases hz : q = n
    · rw [if_pos ⟨rfl, hz⟩, hz, u1_eq]
    · rw [if_neg (fun z => hz z.2), u1_no hz]
      exact this.2.2.2.2.2.2.2.1
theorem RepR.se {D : DaT} {A n : Nat} {K : KT} (h : RepR D A K) (v : Int32) : RepR (pai D (A + 17) n (v)) A (ks_se K (up1 (k_se K) n v)) := by
  obtain ⟨c, p, m, y⟩ := h
  have e : ∀ q, q ≠ 17 → d_ai (pai D (A + 17) n (v)) (A + q) = d_ai D (A + q) := fun q hq => up2_ne (by omega)
  refine ⟨c, fun q hq => ?_, fun q hq => ?_, fun q hq => ?_⟩
  · have := p q hq
    unfold RrP at this ⊢
    rw [e 2 (by decide), e 3 (by decide), e 7 (by decide), e 8 (by decide)]
    exact this
  · have := m q hq
    unfold RrM at this ⊢
    rw [e 5 (by decide), e 6 (by decide)]
    exact this
  · have := y q hq
    unfold RrY at this ⊢
    rw [e 9 (by decide), e 10 (by decide), e 11 (by decide), e 12 (by decide), e 13 (by decide), e 14 (by decide), e 15 (by decide), e 16 (by decide)]
    refine ⟨this.1, this.2.1, this.2.2.1, this.2.2.2.1, this.2.2.2.2.1, this.2.2.2.2.2.1, this.2.2.2.2.2.2.1, this.2.2.2.2.2.2.2.1, ?_⟩
    show d_ai (pai D (A + 17) n (v)) (A + 17) q =  (up1 (k_se K) n v q)
    rw [rd_ai]
    by_cases hz : q = n
    · rw [if_pos ⟨rfl, hz⟩, hz, u1_eq]
    · rw [if_neg (fun z => hz z.2), u1_no hz]
      exact this.2.2.2.2.2.2.2.2
theorem RepR.ba {D : DaT} {A p m : Nat} {K : KT} (h : RepR D A K) (hm : m < 5) (v : Int32) : RepR (pai D (A + 7) (5 * p + m) v) A (ks_ba K (up2n (k_ba K) p m v)) := by
  obtain ⟨c, hp, hmm, y⟩ := h
  have e : ∀ q, q ≠ 7 → d_ai (pai D (A + 7) (5 * p + m) v) (A + q) = d_ai D (A + q) := fun q hq => up2_ne (by omega)
  refine ⟨c, fun q hq => ?_, fun q hq => ?_, fun q hq => ?_⟩
  · obtain ⟨x1, x2, x3, x4⟩ := hp q hq
    unfold RrP
    rw [e 2 (by decide), e 3 (by decide), e 8 (by decide)]
    refine ⟨x1, x2, x3, fun i hi => ?_⟩
    obtain ⟨z1, z2⟩ := x4 i hi
    refine ⟨?_, z2⟩
    show d_ai (pai D (A + 7) (5 * p + m) v) (A + 7) (5 * q + i) = up2n (k_ba K) p m v q i
    rw [rd_ai]
    unfold up2n
    by_cases hz : q = p ∧ i = m
    · rw [if_pos hz, if_pos ⟨rfl, by rw [hz.1, hz.2]⟩]
    · rw [if_neg hz, if_neg (fun w => hz (by have := w.2; omega))]
      exact z1
  · have := hmm q hq
    unfold RrM at this ⊢
    rw [e 5 (by decide), e 6 (by decide)]
    exact this
  · have := y q hq
    unfold RrY at this ⊢
    rw [e 9 (by decide), e 10 (by decide), e 11 (by decide), e 12 (by decide), e 13 (by decide), e 14 (by decide), e 15 (by decide), e 16 (by decide), e 17 (by decide)]
    exact this
theorem RepR.co {D : DaT} {A p m : Nat} {K : KT} (h : RepR D A K) (hm : m < 5) (v : Int32) : RepR (pai D (A + 8) (5 * p + m) v) A (ks_co K (up2n (k_co K) p m v)) := by
  obtain ⟨c, hp, hmm, y⟩ := h
  have e : ∀ q, q ≠ 8 → d_ai (pai D (A + 8) (5 * p + m) v) (A + q) = d_ai D (A + q) := fun q hq => up2_ne (by omega)
  refine ⟨c, fun q hq => ?_, fun q hq => ?_, fun q hq => ?_⟩
  · obtain ⟨x1, x2, x3, x4⟩ := hp q hq
    unfold RrP
    rw [e 2 (by decide), e 3 (by decide), e 7 (by decide)]
    refine ⟨x1, x2, x3, fun i hi => ?_⟩
    obtain ⟨z1, z2⟩ := x4 i hi
    refine ⟨z1, ?_⟩
    show d_ai (pai D (A + 8) (5 * p + m) v) (A + 8) (5 * q + i) = up2n (k_co K) p m v q i
    rw [rd_ai]
    unfold up2n
    by_cases hz : q = p ∧ i = m
    · rw [if_pos hz, if_pos ⟨rfl, by rw [hz.1, hz.2]⟩]
    · rw [if_neg hz, if_neg (fun w => hz (by have := w.2; omega))]
      exact z2
  · have := hmm q hq
    unfold RrM at this ⊢
    rw [e 5 (by decide), e 6 (by decide)]
    exact this
  · have := y q hq
    unfold RrY at this ⊢
    rw [e 9 (by decide), e 10 (by decide), e 11 (by decide), e 12 (by decide), e 13 (by decide), e 14 (by decide), e 15 (by decide), e 16 (by decide), e 17 (by decide)]
    exact this
theorem RepR.df {D : DaT} {A p : Nat} {K : KT} (h : RepR D A K) (v : Bool) : RepR (pai D (A + 3) p (b2i v)) A (ks_df K (up1 (k_df K) p v)) := by
  obtain ⟨c, hp, hmm, y⟩ := h
  have e : ∀ q, q ≠ 3 → d_ai (pai D (A + 3) p (b2i v)) (A + q) = d_ai D (A + q) := fun q hq => up2_ne (by omega)
  refine ⟨c, fun q hq => ?_, fun q hq => ?_, fun q hq => ?_⟩
  · obtain ⟨x1, x2, x3, x4⟩ := hp q hq
    unfold RrP
    rw [e 2 (by decide), e 7 (by decide), e 8 (by decide)]
    refine ⟨x1, x2, ?_, x4⟩
    show d_ai (pai D (A + 3) p (b2i v)) (A + 3) q = b2i (up1 (k_df K) p v q)
    rw [rd_ai]
    by_cases hz : q = p
    · rw [if_pos ⟨rfl, hz⟩, hz, u1_eq]
    · rw [if_neg (fun z => hz z.2), u1_no hz]
      exact x3
  · have := hmm q hq
    unfold RrM at this ⊢
    rw [e 5 (by decide), e 6 (by decide)]
    exact this
  · have := y q hq
    unfold RrY at this ⊢
    rw [e 9 (by decide), e 10 (by decide), e 11 (by decide), e 12 (by decide), e 13 (by decide), e 14 (by decide), e 15 (by decide), e 16 (by decide), e 17 (by decide)]
    exact this
theorem RepR.rt {D : DaT} {A p : Nat} {K : KT} (h : RepR D A K) (v : Int32) : RepR (pai D (A + 5) p v) A (ks_rt K (up1 (k_rt K) p v)) := by
  obtain ⟨c, hp, hmm, y⟩ := h
  have e : ∀ q, q ≠ 5 → d_ai (pai D (A + 5) p v) (A + q) = d_ai D (A + q) := fun q hq => up2_ne (by omega)
  refine ⟨c, fun q hq => ?_, fun q hq => ?_, fun q hq => ?_⟩
  · have := hp q hq
    unfold RrP at this ⊢
    rw [e 2 (by decide), e 3 (by decide), e 7 (by decide), e 8 (by decide)]
    exact this
  · obtain ⟨x1, x2, x3⟩ := hmm q hq
    unfold RrM
    rw [e 6 (by decide)]
    refine ⟨x1, ?_, x3⟩
    show d_ai (pai D (A + 5) p v) (A + 5) q = up1 (k_rt K) p v q
    rw [rd_ai]
    by_cases hz : q = p
    · rw [if_pos ⟨rfl, hz⟩, hz, u1_eq]
    · rw [if_neg (fun z => hz z.2), u1_no hz]
      exact x2
  · have := y q hq
    unfold RrY at this ⊢
    rw [e 9 (by decide), e 10 (by decide), e 11 (by decide), e 12 (by decide), e 13 (by decide), e 14 (by decide), e 15 (by decide), e 16 (by decide), e 17 (by decide)]
    exact this
theorem RepR.day {D : DaT} {A : Nat} {K : KT} (h : RepR D A K) (v : Int32) : RepR (pfi D 320 A v) A (ks_day K v) := by
  obtain ⟨⟨c1, c2, c3, c4, c5⟩, p, m, y⟩ := h
  exact ⟨⟨by simp [rd_fi]; rfl, by simp [rd_fi]; exact c2, by simp [rd_fi]; exact c3, by simp [rd_fi]; exact c4, by simp [rd_fi]; exact c5⟩, p, m, y⟩
theorem RepR.hr {D : DaT} {A : Nat} {K : KT} (h : RepR D A K) (v : Int32) : RepR (pfi D 321 A v) A (ks_hr K v) := by
  obtain ⟨⟨c1, c2, c3, c4, c5⟩, p, m, y⟩ := h
  exact ⟨⟨by simp [rd_fi]; exact c1, by simp [rd_fi]; rfl, by simp [rd_fi]; exact c3, by simp [rd_fi]; exact c4, by simp [rd_fi]; exact c5⟩, p, m, y⟩
/-- rows that nothing of K lies in -/
theorem RepR.aux {D : DaT} {A r i : Nat} {K : KT} {v : Int32} (h : RepR D A K) (hr : 18 ≤ r) : RepR (pai D (A + r) i v) A K := h.same (fun _ => rfl) (fun q h1 h2 => ⟨up2_ne (by omega), rfl⟩)
