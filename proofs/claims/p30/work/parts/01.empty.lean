/-! the law's method has an exception table in the class file that the claim itself names, and the claim's head says that it has none -/
theorem em_no : classFile.hasCode x code maxLocals ret = false := by decide +kernel
theorem em_with : ((List.range 256).any fun k => classFile.hasCodeWith x code maxLocals ret [(69, 228, 340, k), (229, 303, 340, k), (304, 337, 340, k)]) = true := by decide +kernel
/-- so no launch has its lists, and the claim says nothing of any run -/
theorem em_lists (l : Launch) : ¬ Jvm.D.Lists l classFile x code maxLocals ret tables_1 room_1 := by
  intro h
  obtain ⟨-, h2, h3, -⟩ := h
  have hm : (x, code, maxLocals, ret) ∈ (Jvm.D.headSpec (Cond.code x code maxLocals ret :: tables_1) room_1).pre.codes ++ (Jvm.D.headSpec (Cond.code x code maxLocals ret :: tables_1) room_1).post.codes :=
    List.mem_append_left _ (List.mem_append_left _ (List.mem_singleton.mpr rfl))
  have h4 := h3.1 _ hm
  simp only [h2, Option.any_some, em_no] at h4
  cases h4
theorem i_vc : Claimed_1_1 ∧ Claimed_1_2 := ⟨fun l _ h _ => absurd h (em_lists l), fun l _ h _ => absurd h (em_lists l)⟩
