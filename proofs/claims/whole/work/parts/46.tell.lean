/-! what sentences do, as numbers -/
def pIx (K : KT) (w : List Nat) : Option Nat := firstIx (k_np K) (fun p => decide (k_pn K p = w))
def mIx (K : KT) (w : List Nat) : Option Nat := firstIx (k_nm K) (fun m => decide (k_mn K m = w))
def nmV (T : List Nat) (i : Nat) : Nat := numV (wd T i)
def wtg (K : KT) (q : Nat) : Bool := decide (q < k_ny K) && decide (k_st K q = 0)
abbrev TlR : Type := Except (Nat × Nat) KT
def tellP (T : List Nat) (K : KT) (s : Nat) : TlR :=
  if (pIx K (wd T (s + 1))).isSome || (mIx K (wd T (s + 1))).isSome then .error (2, s + 1)
  else if 10 ≤ k_np K then .error (4, s + 1)
  else if kdA T (s + 2) = 1 then (if nmV T (s + 3) ≤ 1000000 then .ok (addP K (wd T (s + 1)) (nI (nmV T (s + 3)))) else .error (5, s + 3))
  else .ok (addP K (wd T (s + 1)) 0)
def tellM (T : List Nat) (K : KT) (s : Nat) : TlR :=
  if (pIx K (wd T (s + 1))).isSome || (mIx K (wd T (s + 1))).isSome then .error (2, s + 1)
  else if 5 ≤ k_nm K then .error (4, s + 1)
  else if ¬ (1 ≤ nmV T (s + 3) ∧ nmV T (s + 3) ≤ 1000) then .error (5, s + 3)
  else if ¬ (1 ≤ nmV T (s + 5) ∧ nmV T (s + 5) ≤ 23) then .error (5, s + 5)
  else .ok (addM K (wd T (s + 1)) (nI (nmV T (s + 3))) (nI (nmV T (s + 5))))
def tellY3 (T : List Nat) (K : KT) (s a b m : Nat) : TlR :=
  if ¬ inR (nI (nmV T (s + 7))) (k_day K) (k_day K + 30) = true then .error (5, s + 7)
  else if kdA T (s + 8) = 8 then (if wtg K (nmV T (s + 9)) && (k_pr K (nmV T (s + 9))).isNone then .ok (linkK (addY K a b (nI (nmV T (s + 4))) m (nI (nmV T (s + 7)))) (nmV T (s + 9))) else .error (5, s + 9))
  else .ok (addY K a b (nI (nmV T (s + 4))) m (nI (nmV T (s + 7))))
def tellY2 (T : List Nat) (K : KT) (s a b : Nat) : TlR :=
  if b = a then .error (6, s + 3)
  else if ¬ (1 ≤ nmV T (s + 4) ∧ nmV T (s + 4) ≤ 100000) then .error (5, s + 4)
  else match mIx K (wd T (s + 5)) with
    | none => .error (3, s + 5)
    | some m => tellY3 T K s a b m
def tellY (T : List Nat) (K : KT) (s : Nat) : TlR :=
  match pIx K (wd T (s + 1)) with
  | none => .error (3, s + 1)
  | some a => if 60 ≤ k_ny K then .error (4, s + 1) else match pIx K (wd T (s + 3)) with
    | none => .error (3, s + 3)
    | some b => tellY2 T K s a b
def tellH (T : List Nat) (K : KT) (s : Nat) : TlR :=
  if wtg K (nmV T (s + 1)) = true then .ok (ks_he K (up1 (k_he K) (nmV T (s + 1)) (!(k_he K (nmV T (s + 1)))))) else .error (5, s + 1)
def tellC (T : List Nat) (K : KT) (s : Nat) : TlR :=
  if wtg K (nmV T (s + 1)) = true then .ok (callOffK K (nmV T (s + 1))) else .error (5, s + 1)
def tellS (T : List Nat) (K : KT) (s : Nat) : TlR :=
  if kdA T s = 0 then tellP T K s else if kdA T s = 2 then tellM T K s else if kdA T s = 5 then tellY T K s else if kdA T s = 9 then tellH T K s else if kdA T s = 10 then tellC T K s else .ok K
def tellR (T : List Nat) : Nat → KT → Nat → TlR
  | 0, K, _ => .ok K
  | n + 1, K, s => if kdA T s = 14 then .ok K else match tellS T K s with
    | .error x => .error x
    | .ok K1 => tellR T n K1 (sentK (kdA T) s).2
/-- what a text does: its error, the place of it, the desk behind it -/
def teachR (T : List Nat) (K : KT) : Nat × Int32 × KT :=
  if (textR (kdA T) (tN T + 1) 0).1 = true then (match tellR T (tN T + 1) K 0 with
    | .error x => (x.1, nI (pl T x.2), K)
    | .ok K1 => (0, -1, K1))
  else (1, nI (pl T (textR (kdA T) (tN T + 1) 0).2), K)
/-- a sentence's tokens -/
def VS (f : Nat → Nat) (s e : Nat) : Prop :=
  (f s = 0 ∧ f (s + 1) = 11 ∧ ((f (s + 2) = 1 ∧ f (s + 3) = 12 ∧ f (s + 4) = 13 ∧ e = s + 5) ∨ (f (s + 2) = 13 ∧ e = s + 3))) ∨
  (f s = 2 ∧ f (s + 1) = 11 ∧ f (s + 2) = 3 ∧ f (s + 3) = 12 ∧ f (s + 4) = 4 ∧ f (s + 5) = 12 ∧ f (s + 6) = 13 ∧ e = s + 7) ∨
  (f s = 5 ∧ f (s + 1) = 11 ∧ f (s + 2) = 6 ∧ f (s + 3) = 11 ∧ f (s + 4) = 12 ∧ f (s + 5) = 11 ∧ f (s + 6) = 7 ∧ f (s + 7) = 12 ∧ ((f (s + 8) = 8 ∧ f (s + 9) = 12 ∧ f (s + 10) = 13 ∧ e = s + 11) ∨ (f (s + 8) = 13 ∧ e = s + 9))) ∨
  (f s = 9 ∧ f (s + 1) = 12 ∧ f (s + 2) = 13 ∧ e = s + 3) ∨ (f s = 10 ∧ f (s + 1) = 12 ∧ f (s + 2) = 13 ∧ e = s + 3)
theorem need_t {f : Nat → Nat} {k r e : Nat} {ks : List Nat} (h : need f (k :: ks) r = (true, e)) : f r = k ∧ need f ks (r + 1) = (true, e) := by
  by_cases c : f r = k
  · rw [need_y c] at h; exact ⟨c, h⟩
  · rw [need_n c] at h; cases h
theorem need_e {f : Nat → Nat} {r e : Nat} (h : need f [] r = (true, e)) : e = r := by cases h; rfl
theorem andR_tt {a : Bool × Nat} {h : Nat → Bool × Nat} {e : Nat} (hz : andR a h = (true, e)) : ∃ r, a = (true, r) ∧ h r = (true, e) := by
  obtain ⟨b, r⟩ := a
  cases b with
  | true => exact ⟨r, rfl, hz⟩
  | false => cases hz
theorem opt_t {f : Nat → Nat} {k r e : Nat} (h : opt f k r = (true, e)) : (f r = k ∧ f (r + 1) = 12 ∧ e = r + 2) ∨ (¬ f r = k ∧ e = r) := by
  unfold opt at h
  split at h
  · obtain ⟨h1, h2⟩ := need_t h
    obtain ⟨h3, h4⟩ := need_t h2
    exact Or.inl ⟨h1, h3, need_e h4⟩
  · rename_i hn
    exact Or.inr ⟨hn, by cases h; rfl⟩
theorem sent_VS {f : Nat → Nat} {s e : Nat} (h : sentK f s = (true, e)) : VS f s e := by
  unfold sentK at h
  split at h
  · obtain ⟨r, h1, h2⟩ := andR_tt h
    obtain ⟨r2, h3, h4⟩ := andR_tt h2
    obtain ⟨a0, h1⟩ := need_t h1
    obtain ⟨a1, h1⟩ := need_t h1
    have hr := need_e h1
    subst hr
    obtain ⟨b0, h4⟩ := need_t h4
    have he := need_e h4
    subst he
    rcases opt_t h3 with ⟨o1, o2, rfl⟩ | ⟨o1, rfl⟩
    · exact Or.inl ⟨a0, a1, Or.inl ⟨o1, o2, b0, rfl⟩⟩
    · exact Or.inl ⟨a0, a1, Or.inr ⟨b0, rfl⟩⟩
  split at h
  · obtain ⟨a0, h⟩ := need_t h
    obtain ⟨a1, h⟩ := need_t h
    obtain ⟨a2, h⟩ := need_t h
    obtain ⟨a3, h⟩ := need_t h
    obtain ⟨a4, h⟩ := need_t h
    obtain ⟨a5, h⟩ := need_t h
    obtain ⟨a6, h⟩ := need_t h
    exact Or.inr (Or.inl ⟨a0, a1, a2, a3, a4, a5, a6, need_e h⟩)
  split at h
  · obtain ⟨r, h1, h2⟩ := andR_tt h
    obtain ⟨r2, h3, h4⟩ := andR_tt h2
    obtain ⟨a0, h1⟩ := need_t h1
    obtain ⟨a1, h1⟩ := need_t h1
    obtain ⟨a2, h1⟩ := need_t h1
    obtain ⟨a3, h1⟩ := need_t h1
    obtain ⟨a4, h1⟩ := need_t h1
    obtain ⟨a5, h1⟩ := need_t h1
    obtain ⟨a6, h1⟩ := need_t h1
    obtain ⟨a7, h1⟩ := need_t h1
    have hr := need_e h1
    subst hr
    obtain ⟨b0, h4⟩ := need_t h4
    have he := need_e h4
    subst he
    rcases opt_t h3 with ⟨o1, o2, rfl⟩ | ⟨o1, rfl⟩
    · exact Or.inr (Or.inr (Or.inl ⟨a0, a1, a2, a3, a4, a5, a6, a7, Or.inl ⟨o1, o2, b0, rfl⟩⟩))
    · exact Or.inr (Or.inr (Or.inl ⟨a0, a1, a2, a3, a4, a5, a6, a7, Or.inr ⟨b0, rfl⟩⟩))
  split at h
  · obtain ⟨a0, h⟩ := need_t h
    obtain ⟨a1, h⟩ := need_t h
    obtain ⟨a2, h⟩ := need_t h
    exact Or.inr (Or.inr (Or.inr (Or.inl ⟨a0, a1, a2, need_e h⟩)))
  split at h
  · obtain ⟨a0, h⟩ := need_t h
    obtain ⟨a1, h⟩ := need_t h
    obtain ⟨a2, h⟩ := need_t h
    exact Or.inr (Or.inr (Or.inr (Or.inr ⟨a0, a1, a2, need_e h⟩)))
  cases h
theorem VS.semi {f : Nat → Nat} {s e : Nat} (h : VS f s e) : s + 3 ≤ e ∧ f (e - 1) = 13 ∧ ∀ j, s ≤ j → j < e - 1 → f j ≠ 13 := by
  rcases h with ⟨a0, a1, h⟩ | ⟨a0, a1, a2, a3, a4, a5, a6, rfl⟩ | ⟨a0, a1, a2, a3, a4, a5, a6, a7, h⟩ | ⟨a0, a1, a2, rfl⟩ | ⟨a0, a1, a2, rfl⟩
  · rcases h with ⟨a2, a3, a4, rfl⟩ | ⟨a2, rfl⟩
    · refine ⟨by omega, a4, fun j h1 h2 => ?_⟩
      have : j = s ∨ j = s + 1 ∨ j = s + 2 ∨ j = s + 3 := by omega
      rcases this with rfl | rfl | rfl | rfl <;> omega
    · refine ⟨by omega, a2, fun j h1 h2 => ?_⟩
      have : j = s ∨ j = s + 1 := by omega
      rcases this with rfl | rfl <;> omega
  · refine ⟨by omega, a6, fun j h1 h2 => ?_⟩
    have : j = s ∨ j = s + 1 ∨ j = s + 2 ∨ j = s + 3 ∨ j = s + 4 ∨ j = s + 5 := by omega
    rcases this with rfl | rfl | rfl | rfl | rfl | rfl <;> omega
  · rcases h with ⟨a8, a9, a10, rfl⟩ | ⟨a8, rfl⟩
    · refine ⟨by omega, a10, fun j h1 h2 => ?_⟩
      have : j = s ∨ j = s + 1 ∨ j = s + 2 ∨ j = s + 3 ∨ j = s + 4 ∨ j = s + 5 ∨ j = s + 6 ∨ j = s + 7 ∨ j = s + 8 ∨ j = s + 9 := by omega
      rcases this with rfl | rfl | rfl | rfl | rfl | rfl | rfl | rfl | rfl | rfl <;> omega
    · refine ⟨by omega, a8, fun j h1 h2 => ?_⟩
      have : j = s ∨ j = s + 1 ∨ j = s + 2 ∨ j = s + 3 ∨ j = s + 4 ∨ j = s + 5 ∨ j = s + 6 ∨ j = s + 7 := by omega
      rcases this with rfl | rfl | rfl | rfl | rfl | rfl | rfl | rfl <;> omega
  · refine ⟨by omega, a2, fun j h1 h2 => ?_⟩
    have : j = s ∨ j = s + 1 := by omega
    rcases this with rfl | rfl <;> omega
  · refine ⟨by omega, a2, fun j h1 h2 => ?_⟩
    have : j = s ∨ j = s + 1 := by omega
    rcases this with rfl | rfl <;> omega
theorem kdA_lo {T : List Nat} {i k : Nat} (h : kdA T i = k) (hk : k ≤ 13) : i < tN T ∧ kd T i = k := by
  unfold kdA at h
  split at h
  · rename_i hi
    have : i ≠ tN T := fun z => by have := tN_end T; rw [← z, h] at this; omega
    exact ⟨by omega, h⟩
  · omega
theorem wd_ok {T : List Nat} {i k : Nat} (h : kdA T i = k) (hk : k ≤ 11) : wOk (wd T i) := by
  have h1 := (tk_ok T i).2.2.2.1
  exact h1 (by rw [show (tk T i).1 = kd T i from rfl, (kdA_lo h (by omega)).2]; exact hk)
theorem nm_le {T : List Nat} {i : Nat} (h : kdA T i = 12) : nmV T i ≤ 9999999 := by
  have h1 := (tk_ok T i).2.2.2.2
  exact h1 (kdA_lo h (by omega)).2
theorem firstIx_congr {n : Nat} {c c' : Nat → Bool} (h : ∀ i, i < n → c i = c' i) : firstIx n c = firstIx n c' := by
  unfold firstIx
  have : ∀ (l : List Nat), (∀ i ∈ l, c i = c' i) → l.find? c = l.find? c' := by
    intro l
    induction l with
    | nil => intro _; rfl
    | cons a l ih =>
      intro hl
      rw [List.find?_cons, List.find?_cons, hl a List.mem_cons_self, ih (fun i hi => hl i (List.mem_cons_of_mem _ hi))]
  exact this _ (fun i hi => h i (List.mem_range.mp hi))
theorem pIx_asc {K : KT} {w : List Nat} (hK : WrK K) (hw : wOk w) : firstIx (k_np K) (fun p => decide (asc (k_pn K p) = asc w)) = pIx K w := firstIx_congr (fun i hi => by
  have := asc_inj (hK.1 i hi) hw
  by_cases c : k_pn K i = w
  · rw [decide_eq_true (this.mpr c), decide_eq_true c]
  · rw [decide_eq_false (fun z => c (this.mp z)), decide_eq_false c])
theorem mIx_asc {K : KT} {w : List Nat} (hK : WrK K) (hw : wOk w) : firstIx (k_nm K) (fun p => decide (asc (k_mn K p) = asc w)) = mIx K w := firstIx_congr (fun i hi => by
  have := asc_inj (hK.2.1 i hi) hw
  by_cases c : k_mn K i = w
  · rw [decide_eq_true (this.mpr c), decide_eq_true c]
  · rw [decide_eq_false (fun z => c (this.mp z)), decide_eq_false c])
theorem named_asc {K : KT} {w : List Nat} (hK : WrK K) (hw : wOk w) : named K (asc w) = ((pIx K w).isSome || (mIx K w).isSome) := by
  unfold named
  rw [pIx_asc hK hw, mIx_asc hK hw]
theorem pIx_lt {K : KT} {w : List Nat} {a : Nat} (h : pIx K w = some a) : a < k_np K := firstIx_lt h
theorem mIx_lt {K : KT} {w : List Nat} {a : Nat} (h : mIx K w = some a) : a < k_nm K := firstIx_lt h
theorem u1_eq {α : Type} {f : Nat → α} {k : Nat} {v : α} : up1 f k v k = v := if_pos rfl
theorem u1_no {α : Type} {f : Nat → α} {k k' : Nat} {v : α} (h : k' ≠ k) : up1 f k v k' = f k' := if_neg h
theorem wf_addP {K : KT} {w : List Nat} {li : Int32} (hW : WfK K) (h : k_np K < 10) : WfK (addP K w li) := by
  obtain ⟨w1, w2, w3, w4⟩ := hW
  exact ⟨h, w2, w3, fun n hn => ⟨Nat.lt_succ_of_lt (w4 n hn).1, Nat.lt_succ_of_lt (w4 n hn).2.1, (w4 n hn).2.2⟩⟩
theorem wf_addM {K : KT} {w : List Nat} {r c : Int32} (hW : WfK K) (h : k_nm K < 5) : WfK (addM K w r c) := by
  obtain ⟨w1, w2, w3, w4⟩ := hW
  exact ⟨w1, h, w3, fun n hn => ⟨(w4 n hn).1, (w4 n hn).2.1, Nat.lt_succ_of_lt (w4 n hn).2.2.1, (w4 n hn).2.2.2⟩⟩
theorem wf_addY {K : KT} {f t m : Nat} {a du : Int32} (hW : WfK K) (h : k_ny K < 60) (hf : f < k_np K) (ht : t < k_np K) (hm : m < k_nm K) : WfK (addY K f t a m du) := by
  obtain ⟨w1, w2, w3, w4⟩ := hW
  refine ⟨w1, w2, h, fun n hn => ?_⟩
  have hn : n < k_ny K + 1 := hn
  show up1 (k_fr K) (k_ny K) f n < k_np K ∧ up1 (k_to K) (k_ny K) t n < k_np K ∧ up1 (k_mo K) (k_ny K) m n < k_nm K ∧ ∀ q, up1 (k_pr K) (k_ny K) none n = some q → q < k_ny K + 1
  by_cases c : n = k_ny K
  · subst c
    rw [u1_eq, u1_eq, u1_eq, u1_eq]
    exact ⟨hf, ht, hm, fun q hq => by cases hq⟩
  · rw [u1_no c, u1_no c, u1_no c, u1_no c]
    obtain ⟨x1, x2, x3, x4⟩ := w4 n (by omega)
    exact ⟨x1, x2, x3, fun q hq => Nat.lt_succ_of_lt (x4 q hq)⟩
theorem wf_linkK {K : KT} {q : Nat} (hW : WfK K) (hq : q < k_ny K) : WfK (linkK K q) := by
  obtain ⟨w1, w2, w3, w4⟩ := hW
  refine ⟨w1, w2, w3, fun n hn => ?_⟩
  obtain ⟨x1, x2, x3, x4⟩ := w4 n hn
  refine ⟨x1, x2, x3, fun q' hq' => ?_⟩
  change up1 (up1 (k_pr K) q (some (k_ny K - 1))) (k_ny K - 1) (some q) n = some q' at hq'
  show q' < k_ny K
  unfold up1 at hq'
  split at hq'
  · cases hq'; exact hq
  split at hq'
  · cases hq'; omega
  · exact x4 q' hq'
theorem wf_callOff {K : KT} {n : Nat} (hW : WfK K) : WfK (callOffK K n) := by
  obtain ⟨w1, w2, w3, w4⟩ := hW
  refine ⟨w1, w2, w3, fun i hi => ?_⟩
  obtain ⟨x1, x2, x3, x4⟩ := w4 i hi
  refine ⟨x1, x2, x3, fun q' hq' => ?_⟩
  change up1 (match k_pr K n with | none => k_pr K | some q => up1 (k_pr K) q none) n none i = some q' at hq'
  show q' < k_ny K
  cases hz : k_pr K n with
  | none =>
    rw [hz] at hq'
    change (if i = n then none else k_pr K i) = some q' at hq'
    by_cases c : i = n
    · rw [if_pos c] at hq'; cases hq'
    · rw [if_neg c] at hq'; exact x4 q' hq'
  | some q =>
    rw [hz] at hq'
    change (if i = n then none else (if i = q then none else k_pr K i)) = some q' at hq'
    by_cases c : i = n
    · rw [if_pos c] at hq'; cases hq'
    · rw [if_neg c] at hq'
      by_cases c2 : i = q
      · rw [if_pos c2] at hq'; cases hq'
      · rw [if_neg c2] at hq'; exact x4 q' hq'
theorem wr_addP {K : KT} {w : List Nat} {li : Int32} (hK : WrK K) (hw : wOk w) : WrK (addP K w li) := by
  refine ⟨fun p hp => ?_, hK.2⟩
  have hp : p < k_np K + 1 := hp
  show wOk (up1 (k_pn K) (k_np K) w p)
  by_cases c : p = k_np K
  · rw [c, u1_eq]; exact hw
  · rw [u1_no c]; exact hK.1 p (by omega)
theorem wr_addM {K : KT} {w : List Nat} {r c : Int32} (hK : WrK K) (hw : wOk w) : WrK (addM K w r c) := by
  refine ⟨hK.1, fun p hp => ?_, hK.2.2⟩
  have hp : p < k_nm K + 1 := hp
  show wOk (up1 (k_mn K) (k_nm K) w p)
  by_cases c : p = k_nm K
  · rw [c, u1_eq]; exact hw
  · rw [u1_no c]; exact hK.2.1 p (by omega)
theorem wr_addY {K : KT} {f t m a : Nat} {du : Int32} (hK : WrK K) (ha : 1 ≤ a ∧ a ≤ 100000) : WrK (addY K f t (nI a) m du) := by
  refine ⟨hK.1, hK.2.1, fun p hp => ?_⟩
  have hp : p < k_ny K + 1 := hp
  show ∃ b : Nat, 1 ≤ b ∧ b ≤ 100000 ∧ up1 (k_am K) (k_ny K) (nI a) p = nI b
  by_cases c : p = k_ny K
  · rw [c, u1_eq]; exact ⟨a, ha.1, ha.2, rfl⟩
  · rw [u1_no c]; exact hK.2.2 p (by omega)
theorem tellS_ok {T : List Nat} {K K1 : KT} {s e : Nat} (hW : WfK K) (hK : WrK K) (hV : VS (kdA T) s e) (h : tellS T K s = .ok K1) : WfK K1 ∧ WrK K1 := by
  unfold tellS at h
  rcases hV with ⟨a0, a1, hV⟩ | ⟨a0, a1, a2, a3, a4, a5, a6, rfl⟩ | ⟨a0, a1, a2, a3, a4, a5, a6, a7, hV⟩ | ⟨a0, a1, a2, rfl⟩ | ⟨a0, a1, a2, rfl⟩
  · rw [if_pos a0] at h
    unfold tellP at h
    split at h
    · cases h
    split at h
    · cases h
    rename_i hn hp
    split at h
    · split at h
      · cases h
        exact ⟨wf_addP hW (by omega), wr_addP hK (wd_ok a1 (by decide))⟩
      · cases h
    · cases h
      exact ⟨wf_addP hW (by omega), wr_addP hK (wd_ok a1 (by decide))⟩
  · rw [if_neg (by omega), if_pos a0] at h
    unfold tellM at h
    split at h
    · cases h
    split at h
    · cases h
    split at h
    · cases h
    split at h
    · cases h
    cases h
    exact ⟨wf_addM hW (by omega), wr_addM hK (wd_ok a1 (by decide))⟩
  · rw [if_neg (by omega), if_neg (by omega), if_pos a0] at h
    unfold tellY at h
    split at h
    · cases h
    rename_i a ha
    split at h
    · cases h
    rename_i hny
    split at h
    · cases h
    rename_i b hb
    unfold tellY2 at h
    split at h
    · cases h
    split at h
    · cases h
    rename_i ham
    split at h
    · cases h
    rename_i m hm
    unfold tellY3 at h
    split at h
    · cases h
    have hWy := wf_addY (a := nI (nmV T (s + 4))) (du := nI (nmV T (s + 7))) hW (by omega) (pIx_lt ha) (pIx_lt hb) (mIx_lt hm)
    have hKy : WrK (addY K a b (nI (nmV T (s + 4))) m (nI (nmV T (s + 7)))) := wr_addY hK (Decidable.not_not.mp ham)
    split at h
    · split at h
      · rename_i hq
        cases h
        rw [Bool.and_eq_true] at hq
        unfold wtg at hq
        rw [Bool.and_eq_true, decide_eq_true_iff] at hq
        exact ⟨wf_linkK hWy (Nat.lt_succ_of_lt hq.1.1), hKy⟩
      · cases h
    · cases h
      exact ⟨hWy, hKy⟩
  · rw [if_neg (by omega), if_neg (by omega), if_neg (by omega), if_pos a0] at h
    unfold tellH at h
    split at h
    · cases h
      exact ⟨hW, hK⟩
    · cases h
  · rw [if_neg (by omega), if_neg (by omega), if_neg (by omega), if_neg (by omega), if_pos a0] at h
    unfold tellC at h
    split at h
    · cases h
      exact ⟨wf_callOff hW, hK⟩
    · cases h
theorem textR_t {f : Nat → Nat} {n s e : Nat} (h : textR f (n + 1) s = (true, e)) (hs : ¬ f s = 14) : ∃ e1, sentK f s = (true, e1) ∧ textR f n e1 = (true, e) := by
  rw [textR, if_neg hs] at h
  exact andR_tt h
