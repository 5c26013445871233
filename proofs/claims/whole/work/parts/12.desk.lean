/-! the desk as numbers: what a book says -/
abbrev KT : Type := (Int32 × Int32 × Nat × Nat × Nat) × ((Nat → List Nat) × (Nat → Int32) × (Nat → Bool) × (Nat → Nat → Int32) × (Nat → Nat → Int32)) × ((Nat → List Nat) × (Nat → Int32) × (Nat → Int32)) × ((Nat → Nat) × (Nat → Nat) × (Nat → Int32) × (Nat → Nat) × (Nat → Int32) × (Nat → Option Nat) × (Nat → Int32) × (Nat → Int32) × (Nat → Bool))
def k_day (K : KT) : Int32 := K.1.1
def k_hr (K : KT) : Int32 := K.1.2.1
def k_np (K : KT) : Nat := K.1.2.2.1
def k_nm (K : KT) : Nat := K.1.2.2.2.1
def k_ny (K : KT) : Nat := K.1.2.2.2.2
def k_pn (K : KT) : Nat → List Nat := K.2.1.1
def k_li (K : KT) : Nat → Int32 := K.2.1.2.1
def k_df (K : KT) : Nat → Bool := K.2.1.2.2.1
def k_ba (K : KT) : Nat → Nat → Int32 := K.2.1.2.2.2.1
def k_co (K : KT) : Nat → Nat → Int32 := K.2.1.2.2.2.2
def k_mn (K : KT) : Nat → List Nat := K.2.2.1.1
def k_rt (K : KT) : Nat → Int32 := K.2.2.1.2.1
def k_ct (K : KT) : Nat → Int32 := K.2.2.1.2.2
def k_fr (K : KT) : Nat → Nat := K.2.2.2.1
def k_to (K : KT) : Nat → Nat := K.2.2.2.2.1
def k_am (K : KT) : Nat → Int32 := K.2.2.2.2.2.1
def k_mo (K : KT) : Nat → Nat := K.2.2.2.2.2.2.1
def k_du (K : KT) : Nat → Int32 := K.2.2.2.2.2.2.2.1
def k_pr (K : KT) : Nat → Option Nat := K.2.2.2.2.2.2.2.2.1
def k_st (K : KT) : Nat → Int32 := K.2.2.2.2.2.2.2.2.2.1
def k_se (K : KT) : Nat → Int32 := K.2.2.2.2.2.2.2.2.2.2.1
def k_he (K : KT) : Nat → Bool := K.2.2.2.2.2.2.2.2.2.2.2
def mkK (a : Int32 × Int32 × Nat × Nat × Nat) (b : (Nat → List Nat) × (Nat → Int32) × (Nat → Bool) × (Nat → Nat → Int32) × (Nat → Nat → Int32)) (c : (Nat → List Nat) × (Nat → Int32) × (Nat → Int32)) (y : (Nat → Nat) × (Nat → Nat) × (Nat → Int32) × (Nat → Nat) × (Nat → Int32) × (Nat → Option Nat) × (Nat → Int32) × (Nat → Int32) × (Nat → Bool)) : KT := (a, b, c, y)
def b2i (b : Bool) : Int32 := if b then 1 else 0
theorem b2i_one {b : Bool} : b2i b = 1 ↔ b = true := by cases b <;> decide
theorem b2i_zero {b : Bool} : b2i b = 0 ↔ b = false := by cases b <;> decide
def pE : Option Nat → Int32
  | none => -1
  | some q => nI q
/-- a word in 8 bytes, the last one the lowest -/
def asc (w : List Nat) : Int64 := w.foldl (fun c b => c <<< 8 ||| Int64.ofNat b) 0
/-- what is so of every desk: indexes are within -/
def WfK (K : KT) : Prop := k_np K ≤ 10 ∧ k_nm K ≤ 5 ∧ k_ny K ≤ 60 ∧ ∀ n, n < k_ny K → k_fr K n < k_np K ∧ k_to K n < k_np K ∧ k_mo K n < k_nm K ∧ ∀ q, k_pr K n = some q → q < k_ny K
/-! places of a book at B -/
def pa (B p : Nat) : Nat := B + 4 + 7 * p
def ma (B m : Nat) : Nat := B + 74 + m
def ya (B n : Nat) : Nat := B + 79 + n
def BkL (S : ShT) (B : Nat) : Prop :=
  (s_tg S B = 1 ∧ s_fr S 0 B = some (B + 1) ∧ s_fr S 1 B = some (B + 2) ∧ s_fr S 2 B = some (B + 3) ∧ s_tg S (B + 1) = 23 ∧ s_ln S (B + 1) = 10 ∧ s_tg S (B + 2) = 24 ∧ s_ln S (B + 2) = 5 ∧ s_tg S (B + 3) = 25 ∧ s_ln S (B + 3) = 60) ∧
  (∀ p, p < 10 → (s_ar S (B + 1) p = some (pa B p) ∧ s_tg S (pa B p) = 5 ∧ s_fr S 131 (pa B p) = some (pa B p + 1) ∧ s_fr S 132 (pa B p) = some (pa B p + 3) ∧ s_fr S 133 (pa B p) = some (pa B p + 5)) ∧ RowL S (pa B p + 1) (pa B p + 2) 5 ∧ RowL S (pa B p + 3) (pa B p + 4) 5 ∧ RowL S (pa B p + 5) (pa B p + 6) 5) ∧
  (∀ m, m < 5 → s_ar S (B + 2) m = some (ma B m) ∧ s_tg S (ma B m) = 3) ∧
  (∀ n, n < 60 → s_ar S (B + 3) n = some (ya B n) ∧ s_tg S (ya B n) = 6)
def RepC (D : DaT) (B : Nat) (K : KT) : Prop :=
  (d_fi D 3 B = nI (k_np K) ∧ d_fi D 4 B = nI (k_nm K) ∧ d_fi D 5 B = nI (k_ny K) ∧ d_fi D 6 B = k_day K ∧ d_fi D 7 B = k_hr K) ∧
  (∀ p, p < k_np K → (d_fl D 128 (pa B p) = asc (k_pn K p) ∧ d_fi D 129 (pa B p) = k_li K p ∧ d_fi D 130 (pa B p) = b2i (k_df K p)) ∧ ∀ m, m < 5 → d_ai D (pa B p + 2) m = k_ba K p m ∧ d_ai D (pa B p + 4) m = k_co K p m) ∧
  (∀ m, m < k_nm K → d_fl D 64 (ma B m) = asc (k_mn K m) ∧ d_fi D 65 (ma B m) = k_rt K m ∧ d_fi D 66 (ma B m) = k_ct K m) ∧
  (∀ n, n < k_ny K → d_fi D 160 (ya B n) = nI (k_fr K n) ∧ d_fi D 161 (ya B n) = nI (k_to K n) ∧ d_fi D 162 (ya B n) = k_am K n ∧ d_fi D 163 (ya B n) = nI (k_mo K n) ∧ d_fi D 164 (ya B n) = k_du K n ∧ d_fi D 165 (ya B n) = pE (k_pr K n) ∧ d_fi D 166 (ya B n) = k_st K n ∧ d_fi D 167 (ya B n) = k_se K n ∧ d_fi D 168 (ya B n) = b2i (k_he K n))
/-- what lies in a book, and stays where nothing in it is written -/
def Out (lo hi : Nat) (D D1 : DaT) : Prop := ∀ a, (a < lo ∨ hi ≤ a) → (∀ k, d_fi D1 k a = d_fi D k a) ∧ (∀ k, d_fl D1 k a = d_fl D k a) ∧ d_ai D1 a = d_ai D a ∧ d_al D1 a = d_al D a
theorem Out.rf {lo hi : Nat} {D : DaT} : Out lo hi D D := fun _ _ => ⟨fun _ => rfl, fun _ => rfl, rfl, rfl⟩
theorem Out.tr {lo hi : Nat} {D D1 D2 : DaT} (h : Out lo hi D D1) (h2 : Out lo hi D1 D2) : Out lo hi D D2 := fun a ha => ⟨fun k => ((h2 a ha).1 k).trans ((h a ha).1 k), fun k => ((h2 a ha).2.1 k).trans ((h a ha).2.1 k), (h2 a ha).2.2.1.trans (h a ha).2.2.1, (h2 a ha).2.2.2.trans (h a ha).2.2.2⟩
theorem Out.wide {lo hi lo' hi' : Nat} {D D1 : DaT} (h : Out lo hi D D1) (h1 : lo' ≤ lo) (h2 : hi ≤ hi') : Out lo' hi' D D1 := fun a ha => h a (by omega)
theorem Out.fi {lo hi k a : Nat} {v : Int32} {D : DaT} (h : lo ≤ a ∧ a < hi) : Out lo hi D (pfi D k a v) := fun x hx => ⟨fun k' => by simp [pfi, d_fi, up2]; omega, fun _ => rfl, rfl, rfl⟩
theorem Out.fl {lo hi k a : Nat} {v : Int64} {D : DaT} (h : lo ≤ a ∧ a < hi) : Out lo hi D (pfl D k a v) := fun x hx => ⟨fun _ => rfl, fun k' => by simp [pfl, d_fl, up2]; omega, rfl, rfl⟩
theorem Out.ai {lo hi k a : Nat} {v : Int32} {D : DaT} (h : lo ≤ k ∧ k < hi) : Out lo hi D (pai D k a v) := fun x hx => ⟨fun _ => rfl, fun _ => rfl, up2_ne (by omega), rfl⟩
theorem Out.al {lo hi k a : Nat} {v : Int64} {D : DaT} (h : lo ≤ k ∧ k < hi) : Out lo hi D (pal D k a v) := fun x hx => ⟨fun _ => rfl, fun _ => rfl, rfl, up2_ne (by omega)⟩
theorem Out.iter {lo hi n : Nat} {f : Nat → DaT → DaT} {D : DaT} (h : ∀ i D, i < n → Out lo hi D (f i D)) : Out lo hi D (iter f n D) := iter_inv (P := fun _ D1 => Out lo hi D D1) Out.rf (fun i x hi hx => hx.tr (h i x hi)) n (Nat.le_refl n)
theorem RepC.out {D D1 : DaT} {B lo hi : Nat} {K : KT} (hW : WfK K) (h : RepC D B K) (ho : Out lo hi D D1) (hd : hi ≤ B ∨ B + 139 ≤ lo) : RepC D1 B K := by
  obtain ⟨w1, w2, w3, -⟩ := hW
  obtain ⟨h0, hp, hm, hy⟩ := h
  refine ⟨?_, fun p hpp => ⟨?_, fun m hmm => ?_⟩, fun m hmm => ?_, fun n hn => ?_⟩
  · obtain ⟨e1, e2, -⟩ := ho B (by omega)
    simp only [e1]
    exact h0
  · obtain ⟨e1, e2, -⟩ := ho (pa B p) (by unfold pa; omega)
    simp only [e1, e2]
    exact (hp p hpp).1
  · rw [(ho (pa B p + 2) (by unfold pa; omega)).2.2.1, (ho (pa B p + 4) (by unfold pa; omega)).2.2.1]
    exact (hp p hpp).2 m hmm
  · obtain ⟨e1, e2, -⟩ := ho (ma B m) (by unfold ma; omega)
    simp only [e1, e2]
    exact hm m hmm
  · obtain ⟨e1, e2, -⟩ := ho (ya B n) (by unfold ya; omega)
    simp only [e1]
    exact hy n hn
