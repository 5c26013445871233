/-! the small machine at the law's entry -/
theorem entry_g {l : Launch} {s : State} {args : Array Value} {b L : Nat} {xs : Nat → Int32} (hst : l.stackTraces = false) (hq : ∀ c ∈ fcT, c.before args s = true) (hts : ∀ w ∈ lw_tbl, w.before args s = true) (hX : va_X b L xs s s.heap) (hbl : b < s.heap.size) (hL : L ≤ 3072) :
    ∃ (g : GG) (S : ShT) (D : DaT), gL g = l ∧ gSa g = b ∧ gB g = s.heap.size ∧ gKa g < s.heap.size ∧ Wd g s ∧ HR g (md S D) s.heap ∧ s_sz S = s.heap.size ∧ KwL g S D ∧ (s_tg S b = 40 ∧ s_ln S b = L) ∧ ∀ j, j < L → d_ai D b j = xs j := by
  have hA : ∀ a : Nat, a < s.heap.size → ¬ (fun a => s.heap.size ≤ a) a := fun a ha h => by
    have h : s.heap.size ≤ a := h
    omega
  have ht0 : ∀ w ∈ T0, w.before args s = true := fun w hw => hts w (List.mem_filter.mp hw).1
  have hl : ∀ w : Cond, w ∈ _ → w.before args s = true := fun w h => hts w (lay_in w h)
  have hm : ∀ w : Cond, w ∈ _ → w.before args s = true := fun w h => hq w (mis_in w h)
  have ho : ∀ w : Cond, w ∈ _ → w.before args s = true := fun w h => hts w (ao_in w h)
  simp only [List.forall_mem_cons] at hm hl ho
  obtain ⟨m1, m2, m3, m4, -⟩ := hm
  obtain ⟨l1, l2, l3, l4, l5, l6, l7, l8, l9, -⟩ := hl
  obtain ⟨o4, o2, o5, -⟩ := ho
  obtain ⟨dC, dI, hK⟩ := known_cls ht0
  obtain ⟨gAr, hAr⟩ := known_arr ht0 (va_AO.of o4) (va_AO.of o2) (va_AO.of o5)
  obtain ⟨adK, adV, hS1, hS2⟩ := str_all hq hts hA
  obtain ⟨ka, hT, hZ⟩ := kw_at hq hts hA
  obtain ⟨scr, x1, x2, x3, x4, x5⟩ := hX
  obtain ⟨kc, k1, k2, k3, k4, k5, k6, k7⟩ := hT
  obtain ⟨cf, kf, fi, f, za, zc, z1, z2, z3, z4, z5, z6, z7, z8⟩ := hZ
  have kal : ka < s.heap.size := (Array.getElem?_eq_some_iff.mp k1).1
  have zal : za < s.heap.size := (Array.getElem?_eq_some_iff.mp z5).1
  have hne : ka ≠ b := fun e => by
    subst e
    cases k1.symm.trans x1
    have h0 := k6 0 (by decide)
    have h1 := x5 0 (by omega)
    exact absurd (h0.symm.trans h1) (by simp)
  refine ⟨(l, (dC, dI), gAr, (s.heap.size, b, ka, za), (scr, kc, zc, s.heap, adK, adV)), (s.heap.size, (fun a => if a = b then 40 else if a = ka then 41 else 0), (fun a => if a = b then L else if a = ka then 11 else 0), (fun _ _ => none), (fun _ _ => none)), ((fun _ _ => 0), (fun _ _ => 0), (fun a j => if a = b then xs j else 0), (fun a j => if a = ka then asc (kwW j) else 0)), rfl, rfl, rfl, kal, ?_, ?_, rfl, ?_, ⟨if_pos rfl, if_pos rfl⟩, fun j _ => if_pos rfl⟩
  · refine ⟨⟨hK, fun k q hk => ?_⟩, fun w hw => ?_, ⟨va_AO.of o4, va_AO.of o2, va_AO.of o5, hst, vx_Zqof l5 l6 m3 hA, vx_Zqof l7 l6 m4 hA, fun q hq' => vkR_of (hts _ (smR9_in q hq')) (hq _ (exL_in _ (List.mem_map_of_mem hq'))), fun w hw => ?_, wx_at hq hts rfl rfl ⟨hS1, hS2⟩⟩, x2, k2, cf, kf, fi, f, z1, z2, z3, z4, z7⟩
    · have h6 : k < 6 := (List.getElem?_eq_some_iff.mp hk).1
      match k, h6, hk with
      | 0, _, hk => cases hk; exact hAr 0 (by decide)
      | 1, _, hk => cases hk; exact hAr 1 (by decide)
      | 2, _, hk => cases hk; exact hAr 2 (by decide)
      | 3, _, hk => cases hk; exact hAr 3 (by decide)
      | 4, _, hk => cases hk; exact hAr 4 (by decide)
      | 5, _, hk => cases hk; exact hAr 5 (by decide)
      | n + 6, h, _ => exact absurd h (by omega)
    · have h1 := List.mem_filter.mp hw
      refine va_Nw.of ?_ (hts w h1.1)
      have h2 := h1.2
      cases w <;> first | rfl | (simp [isNest] at h2)
    · have h1 := List.mem_filter.mp hw
      have h2 := h1.2
      unfold isDecl at h2
      rw [Bool.and_eq_true] at h2
      exact va_tabs h2.2 rfl (hts w h1.1)
  · refine ⟨⟨rfl, Nat.le_refl _, fun a ha => ?_⟩, fun a ci ha hci => ?_, fun a t ha ht => ?_, fun a ha => ?_, fun a ha => ?_, ⟨hbl, kal, zal, fun a _ => rfl⟩, x1, k1, z5, z6⟩
    · show (if a = b then 40 else if a = ka then 41 else 0) = 0
      have ha : s.heap.size ≤ a := ha
      rw [if_neg (by omega), if_neg (by omega)]
    · change (if a = b then 40 else if a = ka then 41 else 0) = ci + 1 at ha
      split at ha
      · omega
      · split at ha <;> omega
    · change (if a = b then 40 else if a = ka then 41 else 0) = t + 20 at ha
      split at ha
      · omega
      · split at ha <;> omega
    · change (if a = b then 40 else if a = ka then 41 else 0) = 40 at ha
      have e : a = b := by
        by_cases c : a = b
        · exact c
        · rw [if_neg c] at ha
          split at ha <;> omega
      subst e
      refine ⟨rfl, x3, ?_, ?_, fun j hj => ?_⟩
      · show scr.slots.size = if a = a then L else _
        rw [if_pos rfl]; exact x4
      · show (if a = a then L else _) < 2 ^ 31
        rw [if_pos rfl]; omega
      · have hj : j < (if a = a then L else if a = ka then 11 else 0) := hj
        rw [if_pos rfl] at hj
        show scr.slots[j]? = some (.int (if a = a then xs j else 0))
        rw [if_pos rfl]; exact x5 j hj
    · change (if a = b then 40 else if a = ka then 41 else 0) = 41 at ha
      have e : a = ka := by
        by_cases c : a = ka
        · exact c
        · rw [if_neg c] at ha
          split at ha <;> omega
      subst e
      refine ⟨rfl, k3, ?_, ?_, fun j hj => ?_⟩
      · show (if a = b then L else if a = a then 11 else 0) ≤ kc.slots.size ∧ kc.slots.size.toInt32 = nI (if a = b then L else if a = a then 11 else 0)
        rw [if_neg hne, if_pos rfl]; exact ⟨k4, k5⟩
      · show (if a = b then L else if a = a then 11 else 0) < 2 ^ 31
        rw [if_neg hne, if_pos rfl]; decide
      · have hj : j < (if a = b then L else if a = a then 11 else 0) := hj
        rw [if_neg hne, if_pos rfl] at hj
        show kc.slots[j]? = some (.long (if a = a then asc (kwW j) else 0))
        rw [if_pos rfl]; exact k6 j hj
  · refine ⟨?_, ?_, fun k hk => if_pos rfl⟩
    · show (if ka = b then 40 else if ka = ka then 41 else 0) = 41
      rw [if_neg hne, if_pos rfl]
    · show (if ka = b then L else if ka = ka then 11 else 0) = 11
      rw [if_neg hne, if_pos rfl]
