/-! the texts, all of them, at the law's entry -/
theorem OF_inj {o n d : String} {v w : Value} {a : Nat} {A : Nat → Prop} {s : State} {H : Heap} (h : va_OF o n d v a A s H) (h' : va_OF o n d w a A s H) : v = w := by
  obtain ⟨cf, k, i, f, cell, h1, h2, h3, h4, h5, h6⟩ := h
  obtain ⟨cf', k', i', f', cell', g1, g2, g3, g4, g5, g6⟩ := h'
  cases h1.symm.trans g1
  cases h3.symm.trans g3
  exact Option.some.inj (h5.symm.trans g5)
theorem T_inj {ty : FieldType} {t N N' : Nat} {f f' : Nat → Value} {A : Nat → Prop} {s : State} {H : Heap} (h : va_T ty t N f A s H) (h' : va_T ty t N' f' A s H) (hN : N < 2 ^ 31) (hN' : N' < 2 ^ 31) : N = N' ∧ ∀ j, j < N → f j = f' j := by
  obtain ⟨cell, h1, h2, h3, h4, h5, h6, h7⟩ := h
  obtain ⟨cell', g1, g2, g3, g4, g5, g6, g7⟩ := h'
  cases h1.symm.trans g1
  have e : N = N' := nI_inj hN hN' (h5.symm.trans g5)
  exact ⟨e, fun j hj => Option.some.inj ((h6 j hj).symm.trans (g6 j (e ▸ hj)))⟩
theorem sm_diff : ∀ i, i < 11 → ∀ j, j < 11 → i = j ∨ smL.getD i 0 ≠ smL.getD j 0 ∨ ¬ ∀ k, k < smL.getD i 0 → (smB.getD i []).getD k 0 = (smB.getD j []).getD k 0 := by decide +kernel
theorem smR_in : ∀ q ∈ strM, Cond.stringRef RX11 q.1 q.2.1 ∈ lw_tbl := by decide +kernel
theorem smR9_in : ∀ q ∈ strL, Cond.stringRef RX9 q.1 q.2 ∈ lw_tbl := by decide +kernel
theorem str_all {s : State} {args : Array Value} (hq : ∀ c ∈ fcT, c.before args s = true) (hts : ∀ w ∈ lw_tbl, w.before args s = true) {A : Nat → Prop} (hA : ∀ a : Nat, a < s.heap.size → ¬ A a) :
    ∃ adK adV : Nat → Nat, (∀ i, i < 11 → vk_R RX11 (smK i) (smT i) (adK i) s) ∧ vk_S 11 smL smB adK adV A s s.heap := by
  have h0 : ∀ i : Nat, ∃ z : Nat × Nat, i < 11 → ((va_O "java/lang/String" z.1 A s s.heap ∧ va_OF "java/lang/String" "coder" "B" (.int 0) z.1 A s s.heap ∧ va_OF "java/lang/String" "value" "[B" (.ref z.2) z.1 A s s.heap ∧ va_T .byte z.2 (smL.getD i 0) (fun j => .int ((smB.getD i []).getD j 0)) A s s.heap) ∧ vk_R RX11 (smK i) (smT i) z.1 s) := by
    intro i
    by_cases hi : i < 11
    · have hi' : i < strM.length := hi
      have e1 : smL.getD i 0 = (strM[i]).2.2.length := by simp [smL, List.getD_eq_getElem?_getD, hi']
      have e2 : smB.getD i [] = (strM[i]).2.2 := by simp [smB, List.getD_eq_getElem?_getD, hi']
      have e3 : smK i = (strM[i]).1 := by simp [smK, List.getD_eq_getElem?_getD, hi']
      have e4 : smT i = (strM[i]).2.1 := by simp [smT, List.getD_eq_getElem?_getD, hi']
      have hm : strM[i] ∈ strM := List.getElem_mem hi'
      have hl := (sm_all i hi).1.1
      obtain ⟨a, v, h1, h2⟩ := str_one hq hm (by omega) hA
      refine ⟨(a, v), fun _ => ⟨?_, ?_⟩⟩
      · rw [e1, e2]; exact h1
      · rw [e3, e4]; exact vk_R.of (hts _ (smR_in _ hm)) h2
    · exact ⟨(0, 0), fun h => absurd h hi⟩
  obtain ⟨f, hf⟩ := Classical.axiomOfChoice h0
  refine ⟨fun i => (f i).1, fun i => (f i).2, fun i hi => (hf i hi).2, fun i hi => (hf i hi).1, fun i j hi hj e => ?_⟩
  obtain ⟨⟨-, -, v1, t1⟩, -⟩ := hf i hi
  obtain ⟨⟨-, -, v2, t2⟩, -⟩ := hf j hj
  have e : (f i).1 = (f j).1 := e
  rw [e] at v1
  have e2 : (f i).2 = (f j).2 := Value.ref.inj (OF_inj v1 v2)
  rw [e2] at t1
  have l1 := (sm_all i hi).1.1
  have l2 := (sm_all j hj).1.1
  obtain ⟨q1, q2⟩ := T_inj t1 t2 (by omega) (by omega)
  rcases sm_diff i hi j hj with h | h | h
  · exact h
  · exact absurd q1 h
  · exact absurd (fun k hk => Value.int.inj (q2 k hk)) h
theorem vkR_of {own tx : String} {k : Nat} {s : State} {args : Array Value} (h1 : (Cond.stringRef own k tx).before args s = true) (h2 : (Cond.exactly (.string own k) "java/lang/String").before args s = true) : ∃ a, vk_R own k tx a s := by
  obtain ⟨a, c, cA, kA, q1, -⟩ := Cond.exactly_spec (args := args) (first := s) (o := none) (s := s) (idx := []) (t := .string own k) (cls := "java/lang/String") h2
  exact ⟨a, vk_R.of h1 q1⟩
