/-! memory in two halves: the shape, that the methods leave, and the numbers -/
abbrev ShT : Type := Nat × (Nat → Nat) × (Nat → Nat) × (Nat → Nat → Option Nat) × (Nat → Nat → Option Nat)
abbrev DaT : Type := (Nat → Nat → Int32) × (Nat → Nat → Int64) × (Nat → Nat → Int32) × (Nat → Nat → Int64)
def s_sz (S : ShT) : Nat := S.1
def s_tg (S : ShT) : Nat → Nat := S.2.1
def s_ln (S : ShT) : Nat → Nat := S.2.2.1
def s_fr (S : ShT) : Nat → Nat → Option Nat := S.2.2.2.1
def s_ar (S : ShT) : Nat → Nat → Option Nat := S.2.2.2.2
def d_fi (D : DaT) : Nat → Nat → Int32 := D.1
def d_fl (D : DaT) : Nat → Nat → Int64 := D.2.1
def d_ai (D : DaT) : Nat → Nat → Int32 := D.2.2.1
def d_al (D : DaT) : Nat → Nat → Int64 := D.2.2.2
def md (S : ShT) (D : DaT) : Mem := (s_sz S, s_tg S, s_ln S, d_fi D, d_fl D, s_fr S, d_ai D, d_al D, s_ar S)
def pfi (D : DaT) (k a : Nat) (v : Int32) : DaT := (up2 (d_fi D) k a v, d_fl D, d_ai D, d_al D)
def pfl (D : DaT) (k a : Nat) (v : Int64) : DaT := (d_fi D, up2 (d_fl D) k a v, d_ai D, d_al D)
def pai (D : DaT) (k a : Nat) (v : Int32) : DaT := (d_fi D, d_fl D, up2 (d_ai D) k a v, d_al D)
def pal (D : DaT) (k a : Nat) (v : Int64) : DaT := (d_fi D, d_fl D, d_ai D, up2 (d_al D) k a v)
theorem md_s (S : ShT) (D : DaT) : m_sz (md S D) = s_sz S ∧ m_tg (md S D) = s_tg S ∧ m_ln (md S D) = s_ln S ∧ m_fr (md S D) = s_fr S ∧ m_ar (md S D) = s_ar S ∧ m_fi (md S D) = d_fi D ∧ m_fl (md S D) = d_fl D ∧ m_ai (md S D) = d_ai D ∧ m_al (md S D) = d_al D := ⟨rfl, rfl, rfl, rfl, rfl, rfl, rfl, rfl, rfl⟩
theorem md_w (S : ShT) (D : DaT) : (∀ k a v, w_fi (md S D) k a v = md S (pfi D k a v)) ∧ (∀ k a v, w_fl (md S D) k a v = md S (pfl D k a v)) ∧ (∀ k a v, w_ai (md S D) k a v = md S (pai D k a v)) ∧ (∀ k a v, w_al (md S D) k a v = md S (pal D k a v)) := ⟨fun _ _ _ => rfl, fun _ _ _ => rfl, fun _ _ _ => rfl, fun _ _ _ => rfl⟩
theorem rget_some (a : Nat) : rget (some a) = a := rfl
/-- counting up: f i is done for i = 0 .. n - 1 -/
def iter {σ : Type} (f : Nat → σ → σ) : Nat → σ → σ
  | 0, x => x
  | n + 1, x => f n (iter f n x)
theorem cmp_in {x : Int32} {n : Nat} (h0 : ¬ x < 0) (h1 : ¬ nI n ≤ x) (hn : n < 2 ^ 31) : vp_in x n := by
  obtain ⟨j, hj, rfl⟩ := nI_of h0
  rw [nI_leI hn hj] at h1
  exact vp_in_nI (by omega) hn
/-- a Row at r with its n numbers at a -/
def RowL (S : ShT) (r a n : Nat) : Prop := s_tg S r = 7 ∧ s_fr S 192 r = some a ∧ s_tg S a = 20 ∧ s_ln S a = n ∧ n < 2 ^ 31
theorem Eg_iter {σ : Type} (E : Nat → σ → Prop) (f : Nat → σ → σ) (n : Nat) (x0 : σ) (step : ∀ i, i < n → E (i + 1) (f i (iter f i x0)) → E i (iter f i x0)) (fin : E n (iter f n x0)) : E 0 x0 := by
  have key : ∀ k, k ≤ n → E k (iter f k x0) → E 0 x0 := by
    intro k
    induction k with
    | zero => intro _ h; exact h
    | succ k ih => intro hk h; exact ih (by omega) (step k (by omega) h)
  exact key n (Nat.le_refl n) fin
theorem iter_inv {σ : Type} {P : Nat → σ → Prop} {f : Nat → σ → σ} {n : Nat} {x0 : σ} (h0 : P 0 x0) (hs : ∀ i x, i < n → P i x → P (i + 1) (f i x)) : ∀ i, i ≤ n → P i (iter f i x0) := by
  intro i
  induction i with
  | zero => intro _; exact h0
  | succ i ih => intro hi; exact hs i _ (by omega) (ih (by omega))
theorem iter_congr {σ : Type} {f h : Nat → σ → σ} {n : Nat} {x0 : σ} (hs : ∀ i x, i < n → f i x = h i x) : iter f n x0 = iter h n x0 := by
  induction n with
  | zero => rfl
  | succ n ih =>
    show f n (iter f n x0) = h n (iter h n x0)
    rw [ih (fun i x hi => hs i x (by omega)), hs n _ (by omega)]
theorem no_le {a b : Nat} {P : Prop} (h : nI a ≤ nI b) (hb : b < a) (ha : a < 2 ^ 31) : P := by
  rw [nI_leI ha (by omega)] at h
  omega
theorem no_lt {a b : Nat} {P : Prop} (h : nI a < nI b) (hb : b ≤ a) (ha : a < 2 ^ 31) : P := by
  rw [nI_ltI ha (by omega)] at h
  omega
theorem no_nle {a b : Nat} {P : Prop} (h : ¬ nI a ≤ nI b) (hb : a ≤ b) (ha : b < 2 ^ 31) : P := by
  rw [nI_leI (by omega) ha] at h
  omega
theorem no_neg {a : Nat} {P : Prop} (h : nI a < 0) (ha : a < 2 ^ 31) : P := absurd h (nI_pos ha)
theorem nI_s1 (a : Nat) : nI a + (1 : Int32) = nI (a + 1) := nI_1 a
section ROWM
variable {g : GG} {d : Nat} {S : ShT} {D : DaT}
theorem c_isFrom {x lo hi : Int32} {M : Mem} : EvM g d mX9_isFrom 0 0 [.int x, .int lo, .int hi] M (fun v M1 => M1 = M ∧ v = some (.int (if lo ≤ x ∧ x ≤ hi then 1 else 0))) := by
  refine EvM.mk (by decide) (Nat.le_of_ble_eq_true rfl) ?_
  refine X_run rfl trivial ?_
  refine X_icmp_lt rfl (fun c0 => ?_) (fun c0 => ?_)
  · refine X_run rfl trivial ?_
    refine X_zret rfl rfl (Or.inl rfl) ⟨rfl, ?_⟩
    rw [if_neg (fun z => absurd c0 (Int32.not_lt.mpr z.1))]
  · refine X_run rfl trivial ?_
    refine X_icmp_gt rfl (fun c1 => ?_) (fun c1 => ?_)
    · refine X_run rfl trivial ?_
      refine X_zret rfl rfl (Or.inl rfl) ⟨rfl, ?_⟩
      rw [if_neg (fun z => absurd c1 (Int32.not_lt.mpr z.2))]
    · refine X_run rfl trivial ?_
      refine X_zret rfl rfl (Or.inr rfl) ⟨rfl, ?_⟩
      rw [if_pos ⟨Int32.not_lt.mp c0, Int32.not_lt.mp c1⟩]
theorem c_Row_at {r a n i : Nat} (h : RowL S r a n) (hi : i < n) : EvM g d mX6_at 0 0 [.ref r, .int (nI i)] (md S D) (fun v M1 => M1 = md S D ∧ v = some (.int (d_ai D a i))) := by
  obtain ⟨h1, h2, h3, h4, h5⟩ := h
  have hi2 : i < 2 ^ 31 := by omega
  refine EvM.mk (by decide) (Nat.le_of_ble_eq_true rfl) ?_
  refine X_run rfl trivial ?_
  refine X_if_lt rfl (fun c0 => no_neg c0 hi2) (fun c0 => ?_)
  refine X_run rfl ?_ ?_
  · simp [md_s, md_w, rget, r_a, r_b, r_c, r_i, r_l, h1, h2, h3, h4]
  try simp only [md_s, md_w, rget_some, r_a, r_b, r_c, r_i, r_l, r_nx, r_pc, h1, h2, h3, h4]
  refine X_icmp_ge rfl (fun c1 => no_le c1 hi h5) (fun c1 => ?_)
  refine X_run rfl ?_ ?_
  · simp [md_s, md_w, rget, r_a, r_b, r_c, r_i, r_l, h1, h2, h3, h4, nI_clamp hi2, vp_in_nI hi h5]
  try simp only [md_s, md_w, rget_some, r_a, r_b, r_c, r_i, r_l, r_nx, r_pc, h1, h2, h3, h4, nI_clamp hi2, vp_in_nI hi h5]
  exact X_iret rfl rfl ⟨rfl, rfl⟩
theorem c_Row_add {r a n i : Nat} {x : Int32} (h : RowL S r a n) (hi : i < n) : EvM g d mX6_add 0 0 [.ref r, .int (nI i), .int x] (md S D) (fun v M1 => v = none ∧ M1 = md S (pai D a i (d_ai D a i + x))) := by
  obtain ⟨h1, h2, h3, h4, h5⟩ := h
  have hi2 : i < 2 ^ 31 := by omega
  refine EvM.mk (by decide) (Nat.le_of_ble_eq_true rfl) ?_
  refine X_run rfl trivial ?_
  refine X_if_lt rfl (fun c0 => no_neg c0 hi2) (fun c0 => ?_)
  refine X_run rfl ?_ ?_
  · simp [md_s, md_w, rget, r_a, r_b, r_c, r_i, r_l, h1, h2, h3, h4]
  try simp only [md_s, md_w, rget_some, r_a, r_b, r_c, r_i, r_l, r_nx, r_pc, h1, h2, h3, h4]
  refine X_icmp_ge rfl (fun c1 => no_le c1 hi h5) (fun c1 => ?_)
  refine X_run rfl ?_ ?_
  · simp [md_s, md_w, rget, r_a, r_b, r_c, r_i, r_l, h1, h2, h3, h4, nI_clamp hi2, vp_in_nI hi h5]
  try simp only [md_s, md_w, rget_some, r_a, r_b, r_c, r_i, r_l, r_nx, r_pc, h1, h2, h3, h4, nI_clamp hi2, vp_in_nI hi h5]
  exact X_vret rfl rfl ⟨rfl, rfl⟩
theorem c_Row_clear {r a n : Nat} (h : RowL S r a n) : EvM g d mX6_clear 0 0 [.ref r] (md S D) (fun v M1 => v = none ∧ M1 = md S (iter (fun i D => pai D a i 0) n D)) := by
  obtain ⟨h1, h2, h3, h4, h5⟩ := h
  refine EvM.mk (by decide) (Nat.le_of_ble_eq_true rfl) ?_
  refine X_run rfl trivial ?_
  refine Eg_iter (fun i D => Eg g d mX6_clear 0 0 (Zr g _) 2 [(0, .ref r), (1, .int (nI i))] [] (md S D)) (fun i D => pai D a i 0) n D (fun i hi k => ?_) ?_
  · have hi2 : i < 2 ^ 31 := by omega
    refine X_run rfl ?_ ?_
    · simp [md_s, md_w, rget, r_a, r_b, r_c, r_i, r_l, h1, h2, h3, h4]
    try simp only [md_s, md_w, rget_some, r_a, r_b, r_c, r_i, r_l, r_nx, r_pc, h1, h2, h3, h4]
    refine X_icmp_ge rfl (fun c1 => no_le c1 hi h5) (fun c1 => ?_)
    refine X_run rfl ?_ ?_
    · simp [md_s, md_w, rget, r_a, r_b, r_c, r_i, r_l, h1, h2, h3, h4, nI_clamp hi2, vp_in_nI hi h5, nI_s1]
    try simp only [md_s, md_w, rget_some, r_a, r_b, r_c, r_i, r_l, r_nx, r_pc, h1, h2, h3, h4, nI_clamp hi2, vp_in_nI hi h5, nI_s1]
    exact k
  · refine X_run rfl ?_ ?_
    · simp [md_s, md_w, rget, r_a, r_b, r_c, r_i, r_l, h1, h2, h3, h4]
    try simp only [md_s, md_w, rget_some, r_a, r_b, r_c, r_i, r_l, r_nx, r_pc, h1, h2, h3, h4]
    refine X_icmp_ge rfl (fun c1 => ?_) (fun c1 => no_nle c1 (Nat.le_refl n) h5)
    exact X_vret rfl rfl ⟨rfl, rfl⟩
theorem c_Row_copy {r a n r2 a2 : Nat} (h : RowL S r a n) (h' : RowL S r2 a2 n) : EvM g (d + 1) mX6_copyFrom 0 0 [.ref r, .ref r2] (md S D) (fun v M1 => v = none ∧ M1 = md S (iter (fun i D => pai D a i (d_ai D a2 i)) n D)) := by
  obtain ⟨h1, h2, h3, h4, h5⟩ := h
  refine EvM.mk (by decide) (Nat.le_of_ble_eq_true rfl) ?_
  refine X_run rfl trivial ?_
  refine Eg_iter (fun i D => Eg g (d + 1) mX6_copyFrom 0 0 (Zr g _) 2 [(0, .ref r), (1, .ref r2), (2, .int (nI i))] [] (md S D)) (fun i D => pai D a i (d_ai D a2 i)) n D (fun i hi k => ?_) ?_
  · have hi2 : i < 2 ^ 31 := by omega
    refine X_run rfl ?_ ?_
    · simp [md_s, md_w, rget, r_a, r_b, r_c, r_i, r_l, h1, h2, h3, h4]
    try simp only [md_s, md_w, rget_some, r_a, r_b, r_c, r_i, r_l, r_nx, r_pc, h1, h2, h3, h4]
    refine X_icmp_ge rfl (fun c1 => no_le c1 hi h5) (fun c1 => ?_)
    refine X_run rfl ?_ ?_
    · simp [md_s, md_w, rget, r_a, r_b, r_c, r_i, r_l, h1, h2, h3, h4]
    try simp only [md_s, md_w, rget_some, r_a, r_b, r_c, r_i, r_l, r_nx, r_pc, h1, h2, h3, h4]
    refine X_cV rfl (by decide) h'.1 rfl rfl (Nat.le_of_ble_eq_true rfl) (c_Row_at h' hi) ?_
    rintro _ _ ⟨rfl, rfl⟩
    refine X_run rfl ?_ ?_
    · simp [md_s, md_w, rget, r_a, r_b, r_c, r_i, r_l, h1, h2, h3, h4, nI_clamp hi2, vp_in_nI hi h5, nI_s1]
    try simp only [md_s, md_w, rget_some, r_a, r_b, r_c, r_i, r_l, r_nx, r_pc, h1, h2, h3, h4, nI_clamp hi2, vp_in_nI hi h5, nI_s1]
    exact k
  · refine X_run rfl ?_ ?_
    · simp [md_s, md_w, rget, r_a, r_b, r_c, r_i, r_l, h1, h2, h3, h4]
    try simp only [md_s, md_w, rget_some, r_a, r_b, r_c, r_i, r_l, r_nx, r_pc, h1, h2, h3, h4]
    refine X_icmp_ge rfl (fun c1 => ?_) (fun c1 => no_nle c1 (Nat.le_refl n) h5)
    exact X_vret rfl rfl ⟨rfl, rfl⟩
end ROWM
