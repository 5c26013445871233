/-! the tokens of a tape, as numbers -/
def isDig (b : Nat) : Bool := decide (48 ≤ b ∧ b ≤ 57)
def isLet (b : Nat) : Bool := decide (97 ≤ b ∧ b ≤ 122)
def isAl (b : Nat) : Bool := isLet b || isDig b
def isBlk (b : Nat) : Bool := decide (b = 32 ∨ b = 10)
/-- where the bytes of a kind end, from i on -/
def fin (p : Nat → Bool) (T : List Nat) (i : Nat) : Nat := i + ((T.drop i).takeWhile p).length
def seg (T : List Nat) (i j : Nat) : List Nat := (T.drop i).take (j - i)
theorem fin_step {p : Nat → Bool} {T : List Nat} {i : Nat} (hi : i < T.length) (hp : p (T.getD i 0) = true) : fin p T i = fin p T (i + 1) := by
  unfold fin
  rw [List.drop_eq_getElem_cons hi, List.takeWhile_cons]
  have e : T.getD i 0 = T[i] := by rw [List.getD_eq_getElem?_getD, List.getElem?_eq_getElem hi]; rfl
  rw [e] at hp
  rw [if_pos hp, List.length_cons]
  omega
theorem fin_stop {p : Nat → Bool} {T : List Nat} {i : Nat} (hi : i < T.length) (hp : p (T.getD i 0) = false) : fin p T i = i := by
  unfold fin
  rw [List.drop_eq_getElem_cons hi, List.takeWhile_cons]
  have e : T.getD i 0 = T[i] := by rw [List.getD_eq_getElem?_getD, List.getElem?_eq_getElem hi]; rfl
  rw [e] at hp
  rw [if_neg (by rw [hp]; decide)]
  rfl
theorem fin_end {p : Nat → Bool} {T : List Nat} {i : Nat} (hi : T.length ≤ i) : fin p T i = i := by
  unfold fin
  rw [List.drop_eq_nil_of_le hi]
  rfl
theorem fin_le {p : Nat → Bool} {T : List Nat} {i : Nat} (hi : i ≤ T.length) : i ≤ fin p T i ∧ fin p T i ≤ T.length := by
  unfold fin
  have h1 := (List.takeWhile_sublist p (l := T.drop i)).length_le
  rw [List.length_drop] at h1
  omega
/-- a loop over them: up to the end, what is in between is of the kind -/
theorem fin_ind {p : Nat → Bool} {T : List Nat} {P : Nat → Prop} (hd : ∀ i, i ≤ T.length → (T.length ≤ i ∨ p (T.getD i 0) = false) → P i) (hs : ∀ i, i < T.length → p (T.getD i 0) = true → P (i + 1) → P i) : ∀ n i, T.length - i = n → i ≤ T.length → P i := by
  intro n
  induction n with
  | zero => intro i hn hi; exact hd i hi (Or.inl (by omega))
  | succ n ih =>
    intro i hn hi
    cases hp : p (T.getD i 0) with
    | true => exact hs i (by omega) hp (ih (i + 1) (by omega) (by omega))
    | false => exact hd i hi (Or.inr hp)
theorem seg_nil {T : List Nat} {i : Nat} : seg T i i = [] := by unfold seg; rw [Nat.sub_self]; rfl
theorem seg_snoc {T : List Nat} {i j : Nat} (h : i ≤ j) (hj : j < T.length) : seg T i (j + 1) = seg T i j ++ [T.getD j 0] := by
  unfold seg
  have e : T.getD j 0 = T[j] := by rw [List.getD_eq_getElem?_getD, List.getElem?_eq_getElem hj]; rfl
  rw [e, show j + 1 - i = (j - i) + 1 by omega, List.take_succ_eq_append_getElem (by rw [List.length_drop]; omega), List.getElem_drop]
  congr 3
  omega
theorem seg_len {T : List Nat} {i j : Nat} (h : i ≤ j) (hj : j ≤ T.length) : (seg T i j).length = j - i := by
  unfold seg
  rw [List.length_take, List.length_drop]
  omega
theorem seg_fin {p : Nat → Bool} {T : List Nat} {i : Nat} : seg T i (fin p T i) = (T.drop i).takeWhile p := by
  unfold seg fin
  rw [Nat.add_sub_cancel_left]
  exact (List.prefix_iff_eq_take.mp (List.takeWhile_prefix p)).symm
theorem tw_all {p : Nat → Bool} : ∀ (l : List Nat), ∀ b ∈ l.takeWhile p, p b = true
  | [], b, h => by cases h
  | a :: l, b, h => by
    rw [List.takeWhile_cons] at h
    split at h
    · rename_i ha
      rcases List.mem_cons.mp h with rfl | h
      · exact ha
      · exact tw_all l b h
    · cases h
theorem seg_all {p : Nat → Bool} {T : List Nat} {i : Nat} : ∀ b ∈ seg T i (fin p T i), p b = true := by
  rw [seg_fin]
  exact tw_all _
def kwL : List (List Nat) := [[112, 97, 114, 116, 121], [108, 105, 110, 101], [109, 111, 110, 101, 121], [114, 97, 116, 101], [99, 117, 116], [112, 97, 121], [116, 111], [111, 110], [102, 111, 114], [104, 111, 108, 100], [99, 97, 110, 99, 101, 108]]
def kwW (k : Nat) : List Nat := kwL.getD k []
def kw (w : List Nat) : Nat := (firstIx 11 (fun k => decide (kwW k = w))).getD 11
theorem kw_le (w : List Nat) : kw w ≤ 11 := by
  unfold kw
  cases h : firstIx 11 (fun k => decide (kwW k = w)) with
  | none => exact Nat.le_refl _
  | some i => exact Nat.le_of_lt (firstIx_lt h)
/-- a token: kind, place, behind, its bytes -/
abbrev TkT : Type := Nat × Nat × Nat × List Nat
def tok (T : List Nat) (c b : Nat) : TkT :=
  if T.length ≤ fin isBlk T b then (14, fin isBlk T b, b, [])
  else if c = 400 then (15, fin isBlk T b, b, [])
  else if T.getD (fin isBlk T b) 0 = 59 then (13, fin isBlk T b, fin isBlk T b + 1, [])
  else if isDig (T.getD (fin isBlk T b) 0) = true then
    (if 7 < fin isDig T (fin isBlk T b) - fin isBlk T b then (15, fin isBlk T b, fin isDig T (fin isBlk T b), []) else (12, fin isBlk T b, fin isDig T (fin isBlk T b), seg T (fin isBlk T b) (fin isDig T (fin isBlk T b))))
  else if isLet (T.getD (fin isBlk T b) 0) = true then
    (if 8 < fin isAl T (fin isBlk T b) - fin isBlk T b then (15, fin isBlk T b, fin isAl T (fin isBlk T b), []) else (kw (seg T (fin isBlk T b) (fin isAl T (fin isBlk T b))), fin isBlk T b, fin isAl T (fin isBlk T b), seg T (fin isBlk T b) (fin isAl T (fin isBlk T b))))
  else (15, fin isBlk T b, b, [])
def bh (T : List Nat) : Nat → Nat
  | 0 => 0
  | k + 1 => (tok T k (bh T k)).2.2.1
def tk (T : List Nat) (k : Nat) : TkT := tok T k (bh T k)
def kd (T : List Nat) (k : Nat) : Nat := (tk T k).1
def pl (T : List Nat) (k : Nat) : Nat := (tk T k).2.1
def wd (T : List Nat) (k : Nat) : List Nat := (tk T k).2.2.2
def isE (T : List Nat) (k : Nat) : Bool := decide (14 ≤ kd T k)
/-- the last token: the end, or what is none -/
def tN (T : List Nat) : Nat := (firstIx 401 (isE T)).getD 400
theorem tok_cases {T : List Nat} {c b : Nat} (hb : b ≤ T.length) {P : TkT → Prop}
    (h1 : T.length ≤ fin isBlk T b → P (14, fin isBlk T b, b, []))
    (h2 : ¬ T.length ≤ fin isBlk T b → c = 400 → P (15, fin isBlk T b, b, []))
    (h3 : ¬ T.length ≤ fin isBlk T b → ¬ c = 400 → T.getD (fin isBlk T b) 0 = 59 → P (13, fin isBlk T b, fin isBlk T b + 1, []))
    (h4 : ¬ T.length ≤ fin isBlk T b → ¬ c = 400 → ¬ T.getD (fin isBlk T b) 0 = 59 → isDig (T.getD (fin isBlk T b) 0) = true → 7 < fin isDig T (fin isBlk T b) - fin isBlk T b → P (15, fin isBlk T b, fin isDig T (fin isBlk T b), []))
    (h5 : ¬ T.length ≤ fin isBlk T b → ¬ c = 400 → ¬ T.getD (fin isBlk T b) 0 = 59 → isDig (T.getD (fin isBlk T b) 0) = true → ¬ 7 < fin isDig T (fin isBlk T b) - fin isBlk T b → P (12, fin isBlk T b, fin isDig T (fin isBlk T b), seg T (fin isBlk T b) (fin isDig T (fin isBlk T b))))
    (h6 : ¬ T.length ≤ fin isBlk T b → ¬ c = 400 → ¬ T.getD (fin isBlk T b) 0 = 59 → ¬ isDig (T.getD (fin isBlk T b) 0) = true → isLet (T.getD (fin isBlk T b) 0) = true → 8 < fin isAl T (fin isBlk T b) - fin isBlk T b → P (15, fin isBlk T b, fin isAl T (fin isBlk T b), []))
    (h7 : ¬ T.length ≤ fin isBlk T b → ¬ c = 400 → ¬ T.getD (fin isBlk T b) 0 = 59 → ¬ isDig (T.getD (fin isBlk T b) 0) = true → isLet (T.getD (fin isBlk T b) 0) = true → ¬ 8 < fin isAl T (fin isBlk T b) - fin isBlk T b → P (kw (seg T (fin isBlk T b) (fin isAl T (fin isBlk T b))), fin isBlk T b, fin isAl T (fin isBlk T b), seg T (fin isBlk T b) (fin isAl T (fin isBlk T b))))
    (h8 : ¬ T.length ≤ fin isBlk T b → ¬ c = 400 → ¬ T.getD (fin isBlk T b) 0 = 59 → ¬ isDig (T.getD (fin isBlk T b) 0) = true → ¬ isLet (T.getD (fin isBlk T b) 0) = true → P (15, fin isBlk T b, b, [])) : P (tok T c b) := by
  unfold tok
  by_cases c1 : T.length ≤ fin isBlk T b
  · rw [if_pos c1]; exact h1 c1
  rw [if_neg c1]
  by_cases c2 : c = 400
  · rw [if_pos c2]; exact h2 c1 c2
  rw [if_neg c2]
  by_cases c3 : T.getD (fin isBlk T b) 0 = 59
  · rw [if_pos c3]; exact h3 c1 c2 c3
  rw [if_neg c3]
  by_cases c4 : isDig (T.getD (fin isBlk T b) 0) = true
  · rw [if_pos c4]
    by_cases c5 : 7 < fin isDig T (fin isBlk T b) - fin isBlk T b
    · rw [if_pos c5]; exact h4 c1 c2 c3 c4 c5
    · rw [if_neg c5]; exact h5 c1 c2 c3 c4 c5
  rw [if_neg c4]
  by_cases c6 : isLet (T.getD (fin isBlk T b) 0) = true
  · rw [if_pos c6]
    by_cases c7 : 8 < fin isAl T (fin isBlk T b) - fin isBlk T b
    · rw [if_pos c7]; exact h6 c1 c2 c3 c4 c6 c7
    · rw [if_neg c7]; exact h7 c1 c2 c3 c4 c6 c7
  rw [if_neg c6]
  exact h8 c1 c2 c3 c4 c6
def numV (w : List Nat) : Nat := w.foldl (fun v b => v * 10 + (b - 48)) 0
theorem numV_snoc (w : List Nat) (b : Nat) : numV (w ++ [b]) = numV w * 10 + (b - 48) := by unfold numV; rw [List.foldl_append]; rfl
theorem numV_lt : ∀ w : List Nat, (∀ b ∈ w, isDig b = true) → numV w < 10 ^ w.length := by
  refine snoc_ind (fun _ => by decide) (fun w b ih hw => ?_)
  have h1 := ih (fun c hc => hw c (by simp [hc]))
  have h2 := of_decide_eq_true (hw b (by simp))
  rw [numV_snoc, List.length_append, List.length_singleton, Nat.pow_succ]
  omega
/-- what is so of every token -/
def TkOk (T : List Nat) (t : TkT) : Prop := t.1 ≤ 15 ∧ t.2.1 ≤ T.length ∧ t.2.2.1 ≤ T.length ∧ (t.1 ≤ 11 → wOk t.2.2.2) ∧ (t.1 = 12 → numV t.2.2.2 ≤ 9999999)
theorem al_of {b : Nat} (h : isAl b = true) : (97 ≤ b ∧ b ≤ 122) ∨ (48 ≤ b ∧ b ≤ 57) := by
  unfold isAl isLet isDig at h
  rw [Bool.or_eq_true, decide_eq_true_iff, decide_eq_true_iff] at h
  exact h
theorem tkOk_hi {T : List Nat} {k p e : Nat} {w : List Nat} (h1 : 13 ≤ k) (h2 : k ≤ 15) (hp : p ≤ T.length) (he : e ≤ T.length) : TkOk T (k, p, e, w) :=
  ⟨h2, hp, he, fun (z : k ≤ 11) => by omega, fun (z : k = 12) => by omega⟩
theorem tok_ok {T : List Nat} {c b : Nat} (hb : b ≤ T.length) : TkOk T (tok T c b) := by
  have hp := fin_le (p := isBlk) hb
  refine tok_cases hb (fun c1 => tkOk_hi (by decide) (by decide) hp.2 hb) (fun c1 c2 => tkOk_hi (by decide) (by decide) hp.2 hb) (fun c1 c2 c3 => tkOk_hi (by decide) (by decide) hp.2 (by omega)) (fun c1 c2 c3 c4 c5 => tkOk_hi (by decide) (by decide) hp.2 (fin_le hp.2).2) (fun c1 c2 c3 c4 c5 => ⟨show 12 ≤ 15 by decide, hp.2, (fin_le hp.2).2, fun (z : 12 ≤ 11) => absurd z (by decide), fun _ => ?_⟩) (fun c1 c2 c3 c4 c5 c6 => tkOk_hi (by decide) (by decide) hp.2 (fin_le hp.2).2) (fun c1 c2 c3 c4 c5 c6 => ⟨Nat.le_trans (kw_le _) (by decide), hp.2, (fin_le hp.2).2, fun _ => ?_, fun (z : kw (seg T (fin isBlk T b) (fin isAl T (fin isBlk T b))) = 12) => absurd z (by have := kw_le (seg T (fin isBlk T b) (fin isAl T (fin isBlk T b))); omega)⟩) (fun c1 c2 c3 c4 c5 => tkOk_hi (by decide) (by decide) hp.2 hb)
  · show numV (seg T (fin isBlk T b) (fin isDig T (fin isBlk T b))) ≤ 9999999
    have h1 := numV_lt _ (seg_all (p := isDig) (T := T) (i := fin isBlk T b))
    rw [seg_len (fin_le hp.2).1 (fin_le hp.2).2] at h1
    have h2 : 10 ^ (fin isDig T (fin isBlk T b) - fin isBlk T b) ≤ 10 ^ 7 := Nat.pow_le_pow_right (by decide) (by omega)
    omega
  · show wOk (seg T (fin isBlk T b) (fin isAl T (fin isBlk T b)))
    have h0 : fin isAl T (fin isBlk T b) = fin isAl T (fin isBlk T b + 1) := fin_step (by omega) (by unfold isAl; rw [c5]; rfl)
    have h1 := (fin_le (p := isAl) (T := T) (i := fin isBlk T b + 1) (by omega)).1
    refine ⟨?_, ?_, fun x hx => al_of (seg_all _ hx)⟩
    · rw [seg_len (fin_le hp.2).1 (fin_le hp.2).2]; omega
    · rw [seg_len (fin_le hp.2).1 (fin_le hp.2).2]; omega
theorem bh_le (T : List Nat) : ∀ k, bh T k ≤ T.length
  | 0 => Nat.zero_le _
  | k + 1 => (tok_ok (c := k) (bh_le T k)).2.2.1
theorem tk_ok (T : List Nat) (k : Nat) : TkOk T (tk T k) := tok_ok (bh_le T k)
theorem kd_400 (T : List Nat) : 14 ≤ kd T 400 := by
  unfold kd tk tok
  split
  · exact Nat.le_refl 14
  · rw [if_pos rfl]
    exact Nat.le_succ 14
theorem tN_le (T : List Nat) : tN T ≤ 400 := by
  unfold tN
  cases h : firstIx 401 (isE T) with
  | none => exact Nat.le_refl _
  | some i => have := firstIx_lt h; show i ≤ 400; omega
theorem tN_end (T : List Nat) : 14 ≤ kd T (tN T) := by
  unfold tN
  cases h : firstIx 401 (isE T) with
  | none => exact kd_400 T
  | some i => exact of_decide_eq_true (firstIx_spec h).2.1
theorem tN_lt {T : List Nat} {k : Nat} (h : k < tN T) : kd T k ≤ 13 := by
  have hl := tN_le T
  unfold tN at h hl
  cases hz : firstIx 401 (isE T) with
  | none =>
    by_cases h2 : isE T k = true
    · have h3 : firstIx 401 (isE T) ≠ none := by
        intro z
        unfold firstIx at z
        have := List.find?_eq_none.mp z k (by rw [List.mem_range]; rw [hz] at h; simp at h; omega)
        exact this h2
      exact absurd hz h3
    · have : ¬ 14 ≤ kd T k := fun z => h2 (decide_eq_true z)
      omega
  | some i =>
    rw [hz] at h
    have h2 := (firstIx_spec hz).2.2 k h
    have : ¬ 14 ≤ kd T k := of_decide_eq_false h2
    omega
