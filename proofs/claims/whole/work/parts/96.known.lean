/-! what the tables say at the law's entry: classes and arrays -/
theorem cls_inst : ∀ (ci : Nat) (q : vw_C), vwCl[ci]? = some q → Cond.instantiable q.1 q.2.2 ∈ T0 :=
  cls_cases (P := fun ci q => Cond.instantiable q.1 q.2.2 ∈ T0) (inT0 (L := [Cond.instantiable RX0 8]) (by decide +kernel) _ List.mem_cons_self) (inT0 (L := [Cond.instantiable RX1 2]) (by decide +kernel) _ List.mem_cons_self) (inT0 (L := [Cond.instantiable RX2 3]) (by decide +kernel) _ List.mem_cons_self) (inT0 (L := [Cond.instantiable RX3 1]) (by decide +kernel) _ List.mem_cons_self) (inT0 (L := [Cond.instantiable RX4 9]) (by decide +kernel) _ List.mem_cons_self) (inT0 (L := [Cond.instantiable RX5 10]) (by decide +kernel) _ List.mem_cons_self) (inT0 (L := [Cond.instantiable RX6 1]) (by decide +kernel) _ List.mem_cons_self) (inT0 (L := [Cond.instantiable RX7 4]) (by decide +kernel) _ List.mem_cons_self) (inT0 (L := [Cond.instantiable RX8 10]) (by decide +kernel) _ List.mem_cons_self) (inT0 (L := [Cond.instantiable RX9 10]) (by decide +kernel) _ List.mem_cons_self) (inT0 (L := [Cond.instantiable RX10 25]) (by decide +kernel) _ List.mem_cons_self) (inT0 (L := [Cond.instantiable RX11 15]) (by decide +kernel) _ List.mem_cons_self)
theorem known_cls {s : State} {args : Array Value} (hts : ∀ w ∈ T0, w.before args s = true) : ∃ (dC : Nat → ClassId) (dI : Nat → Nat → Nat), ∀ (k : Nat) (q : vw_C), vwCl[k]? = some q → u_Kn s q.1 q.2.1 q.2.2 (dC k) (dI k) := by
  have h0 : ∀ k : Nat, ∃ z : ClassId × (Nat → Nat), ∀ q : vw_C, vwCl[k]? = some q → u_Kn s q.1 q.2.1 q.2.2 z.1 z.2 := by
    intro k
    cases hk : vwCl[k]? with
    | none => exact ⟨(0, fun _ => 0), fun q hq => by cases hq⟩
    | some q =>
      obtain ⟨cC, iS, h⟩ := u_known (n := q.2.2) hts (cls_in k q hk) (hts _ (cls_inst k q hk))
      exact ⟨(cC, iS), fun q' hq => by cases hq; exact h⟩
  obtain ⟨f, hf⟩ := Classical.axiomOfChoice h0
  exact ⟨fun k => (f k).1, fun k => (f k).2, hf⟩
theorem known_prim {s : State} {args : Array Value} {ty : FieldType} (h : (Cond.arrayClass ty).before args s = true) (hp : ty = .int ∨ ty = .long ∨ ty = .byte) : ∃ cA : ClassId, ArrOfT s cA ty ∧ va_RA s cA ty := by
  obtain ⟨c, k, comp, h1, h2, h3⟩ := Cond.arrayClass_spec h
  refine ⟨c, fun N z => ⟨fun k h => (by cases h), k, h2, comp, h3⟩, ?_⟩
  rcases hp with rfl | rfl | rfl <;> exact h1
theorem known_obj {s : State} {C : String} (h : va_AO C s) : ∃ cA : ClassId, ArrOfT s cA (.object C) ∧ va_RA s cA (.object C) := by
  obtain ⟨comp, c, k, h1, h2, h3, h4, h5⟩ := Cond.arrayOver_spec h
  exact ⟨c, fun N z => ⟨fun k h => (by cases h), k, h3, comp, h4⟩, k, comp, h3, h4, h1, h5⟩
theorem known_arr {s : State} {args : Array Value} (hts : ∀ w ∈ T0, w.before args s = true) (h4 : va_AO RX4 s) (h2 : va_AO RX2 s) (h5 : va_AO RX5 s) : ∃ gAr : Nat → ClassId, ∀ t, t < 6 → ArrOfT s (gAr t) (tyA t) ∧ va_RA s (gAr t) (tyA t) := by
  have hw : ∀ w ∈ [Cond.arrayClass .int, Cond.arrayClass .long, Cond.arrayClass .byte], w ∈ T0 := inT0 (by decide +kernel)
  simp only [List.forall_mem_cons] at hw
  obtain ⟨c0, a0⟩ := known_prim (hts _ hw.1) (Or.inl rfl)
  obtain ⟨c1, a1⟩ := known_prim (hts _ hw.2.1) (Or.inr (Or.inl rfl))
  obtain ⟨c2, a2⟩ := known_prim (hts _ hw.2.2.1) (Or.inr (Or.inr rfl))
  obtain ⟨c3, a3⟩ := known_obj h4
  obtain ⟨c4, a4⟩ := known_obj h2
  obtain ⟨c5, a5⟩ := known_obj h5
  refine ⟨fun t => match t with | 0 => c0 | 1 => c1 | 2 => c2 | 3 => c3 | 4 => c4 | _ => c5, fun t ht => ?_⟩
  match t, ht with
  | 0, _ => exact a0
  | 1, _ => exact a1
  | 2, _ => exact a2
  | 3, _ => exact a3
  | 4, _ => exact a4
  | 5, _ => exact a5
  | n + 6, h => exact absurd h (by omega)
