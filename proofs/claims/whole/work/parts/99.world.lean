/-! the rest of what the Statement says at the entry -/
theorem exL_in : ∀ w ∈ strL.map (fun q => Cond.exactly (.string RX9 q.1) "java/lang/String"), w ∈ fcT := mem_pos (P := [115, 135, 166, 193, 233, 273, 290, 306, 332, 350, 378, 410, 436, 478, 497, 526, 552, 579, 604, 619]) (by decide +kernel)
theorem ncL_in : ∀ w ∈ ncL.map (fun q => Cond.not (.castable q.1 q.2)), w ∈ fcT := mem_pos (P := [51, 65, 37, 66, 38, 52]) (by decide +kernel)
abbrev kwTm : Term := .static "NettingDesk" "KEYWORDS" "[J"
theorem mis_in : ∀ w ∈ [Cond.eq (.static "java/lang/String" "COMPACT_STRINGS" "Z") (.int 1), Cond.isRef (.static "jdk/internal/util/Preconditions" "SIOOBE_FORMATTER" "Ljava/util/function/BiFunction;"), Cond.isRef (.static Bundle.tN "UNASSIGNED_STACK" Bundle.steD), Cond.isRef (.static Bundle.tN "SUPPRESSED_SENTINEL" Bundle.listD), Cond.arrayOf kwTm .long, Cond.eq (.length kwTm) (.int 11)], w ∈ fcT := mem_pos (P := [20, 21, 18, 19, 5, 6]) (by decide +kernel)
theorem kwI_in : ∀ w ∈ (List.range 11).map (fun j => Cond.eq (.elem kwTm (.int (Int32.ofNat j))) (.long (asc (kwW j)))), w ∈ fcT := mem_pos (P := [7, 8, 9, 10, 11, 12, 13, 14, 15, 16, 17]) (by decide +kernel)
theorem lay_in : ∀ w ∈ [Cond.laysStatic "java/lang/String" "COMPACT_STRINGS" "Z", Cond.initialized "java/lang/String", Cond.laysStatic "jdk/internal/util/Preconditions" "SIOOBE_FORMATTER" "Ljava/util/function/BiFunction;", Cond.initialized "jdk/internal/util/Preconditions", Cond.laysStatic Bundle.tN "UNASSIGNED_STACK" Bundle.steD, Cond.initialized Bundle.tN, Cond.laysStatic Bundle.tN "SUPPRESSED_SENTINEL" Bundle.listD, Cond.laysStatic "NettingDesk" "KEYWORDS" "[J", Cond.initialized "NettingDesk"], w ∈ lw_tbl := by decide +kernel
theorem ao_in : ∀ w ∈ [Cond.arrayOver (.object RX4), Cond.arrayOver (.object RX2), Cond.arrayOver (.object RX5)], w ∈ lw_tbl := by decide +kernel
theorem kw_at {s : State} {args : Array Value} (hq : ∀ c ∈ fcT, c.before args s = true) (hts : ∀ w ∈ lw_tbl, w.before args s = true) {A : Nat → Prop} (hA : ∀ a : Nat, a < s.heap.size → ¬ A a) : ∃ t, va_T .long t 11 (fun j => .long (asc (kwW j))) A s s.heap ∧ va_Z "NettingDesk" "KEYWORDS" "[J" (.ref t) A s s.heap := by
  have hm : ∀ w : Cond, w ∈ _ → w.before args s = true := fun w h => hq w (mis_in w h)
  have hl : ∀ w : Cond, w ∈ _ → w.before args s = true := fun w h => hts w (lay_in w h)
  simp only [List.forall_mem_cons] at hm hl
  obtain ⟨-, -, -, -, m5, m6, -⟩ := hm
  obtain ⟨-, -, -, -, -, -, -, l8, l9, -⟩ := hl
  obtain ⟨t, h1, h2⟩ := va_Tof (f := fun j => .long (asc (kwW j))) (A := A) (N := 11) (by decide) m5 (va_eqt m6) (fun j hj => va_eqtl (hq _ (kwI_in _ (List.mem_map_of_mem (List.mem_range.mpr hj))))) hA
  exact ⟨t, h2, va_Zref l8 l9 h1 hA⟩
theorem wx_at {s : State} {args : Array Value} {g : GG} (hq : ∀ c ∈ fcT, c.before args s = true) (hts : ∀ w ∈ lw_tbl, w.before args s = true) (hB : gB g = s.heap.size) (hH : gH g = s.heap) (hS : (∀ i, i < 11 → vk_R RX11 (smK i) (smT i) (gSk g i) s) ∧ vk_S 11 smL smB (gSk g) (gSv g) (fun a => s.heap.size ≤ a) s s.heap) : Wx g s := by
  have hm : ∀ w : Cond, w ∈ _ → w.before args s = true := fun w h => hq w (mis_in w h)
  have hl : ∀ w : Cond, w ∈ _ → w.before args s = true := fun w h => hts w (lay_in w h)
  simp only [List.forall_mem_cons] at hm hl
  obtain ⟨m1, m2, -⟩ := hm
  obtain ⟨l1, l2, l3, l4, -⟩ := hl
  have hA : ∀ a : Nat, a < s.heap.size → ¬ (fun a => gB g ≤ a) a := fun a ha h => by
    have h : gB g ≤ a := h
    omega
  refine ⟨fun q hq' => va_Nc.of (hq _ (ncL_in _ (List.mem_map_of_mem hq'))), ⟨hS.1, ?_⟩, ?_, ?_⟩
  · rw [hB, hH]; exact hS.2
  · rw [hH]; exact va_Zof l1 l2 (va_eqt m1) hA
  · rw [hH]; exact va_Zqof l3 l4 m2 hA
