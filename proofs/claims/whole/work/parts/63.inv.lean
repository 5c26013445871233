/-! what is so of every desk that a run of calls reaches -/
def dnT (K : KT) : Nat → Bool := fun n => !decide (k_st K n = 0)
def dnN (K : KT) : Nat := cnN (dnT K) (k_ny K)
def BndK (K : KT) (c : Nat) : Prop := ∀ p, p < k_np K → ∀ m, m < 5 → -(10000000 + 100000 * (dnN K : Int)) ≤ (k_ba K p m).toInt ∧ (k_ba K p m).toInt ≤ 100000 * ((c : Int) + (dnN K : Int))
def coS (K : KT) (p : Nat) : Nat → Int
  | 0 => 0
  | i + 1 => coS K p i + (k_co K p i).toInt
def CoB (K : KT) (c : Nat) : Prop := ∀ p, p < k_np K → (∀ m, m < 5 → 0 ≤ (k_co K p m).toInt) ∧ coS K p 5 ≤ 100000 * (c : Int)
def LiK (K : KT) : Prop := ∀ p, p < k_np K → 0 ≤ (k_li K p).toInt ∧ (k_li K p).toInt ≤ 1000000
def InvK (K : KT) (c : Nat) : Prop := WfK K ∧ WrK K ∧ RtK K ∧ (ZrK K ∧ BndK K c) ∧ (CoB K c ∧ LiK K) ∧ c ≤ 1000
theorem dnN_le {K : KT} (h : WfK K) : dnN K ≤ 60 := Nat.le_trans (cnN_le _ _) h.2.2.1
theorem InvK.run {K : KT} {c : Nat} (h : InvK K c) : RunK K := by
  obtain ⟨h1, h2, h3, ⟨h4, h5⟩, h6, h7⟩ := h
  have hd := dnN_le h1
  refine ⟨h1, h2.am, h3, fun p hp m hm => ?_⟩
  have := h5 p hp m hm
  omega
theorem InvK.co {K : KT} {c : Nat} (h : InvK K c) : CoK K := fun p hp m hm => (h.2.2.2.2.1.1 p hp).1 m hm
theorem InvK.mono {K : KT} {c c' : Nat} (h : InvK K c) (h1 : c ≤ c') (h2 : c' ≤ 1000) : InvK K c' := by
  obtain ⟨i1, i2, i3, ⟨i4, i5⟩, ⟨i6, i7⟩, i8⟩ := h
  refine ⟨i1, i2, i3, ⟨i4, fun p hp m hm => ?_⟩, ⟨fun p hp => ⟨(i6 p hp).1, ?_⟩, i7⟩, h2⟩
  · have := i5 p hp m hm
    omega
  · have := (i6 p hp).2
    omega
theorem cnN_congr {f h : Nat → Bool} : ∀ i, (∀ n, n < i → f n = h n) → cnN f i = cnN h i
  | 0, _ => rfl
  | i + 1, e => by
    unfold cnN
    rw [cnN_congr i (fun n hn => e n (by omega)), e i (by omega)]
theorem cnN_add {f h u : Nat → Bool} : ∀ i, (∀ n, n < i → (u n = true ↔ f n = true ∨ h n = true) ∧ ¬ (f n = true ∧ h n = true)) → cnN u i = cnN f i + cnN h i
  | 0, _ => rfl
  | i + 1, e => by
    have ih := cnN_add i (fun n hn => e n (by omega))
    obtain ⟨e1, e2⟩ := e i (by omega)
    unfold cnN
    rw [ih]
    by_cases c1 : f i = true
    · have c2 : ¬ h i = true := fun z => e2 ⟨c1, z⟩
      rw [if_pos (e1.mpr (Or.inl c1)), if_pos c1, if_neg c2]
      omega
    · by_cases c2 : h i = true
      · rw [if_pos (e1.mpr (Or.inr c2)), if_neg c1, if_pos c2]
        omega
      · rw [if_neg (fun z => (e1.mp z).elim c1 c2), if_neg c1, if_neg c2]
        omega
theorem cnN_mono {f h : Nat → Bool} : ∀ i, (∀ n, n < i → f n = true → h n = true) → cnN f i ≤ cnN h i
  | 0, _ => Nat.le_refl _
  | i + 1, e => by
    have ih := cnN_mono i (fun n hn => e n (by omega))
    unfold cnN
    by_cases c1 : f i = true
    · rw [if_pos c1, if_pos (e i (by omega) c1)]
      omega
    · rw [if_neg c1]
      omega
theorem cnN_one (n : Nat) : ∀ i, n < i → cnN (fun q => decide (q = n)) i = 1
  | 0, h => by omega
  | i + 1, h => by
    unfold cnN
    by_cases c : i = n
    · subst c
      rw [if_pos (by simp)]
      have : cnN (fun q => decide (q = i)) i = 0 := by
        have e : ∀ j, j ≤ i → cnN (fun q => decide (q = i)) j = 0 := by
          intro j
          induction j with
          | zero => intro _; rfl
          | succ j ih => intro hj; unfold cnN; rw [ih (by omega), if_neg (by simp; omega)]
        exact e i (Nat.le_refl _)
      omega
    · rw [cnN_one n i (by omega), if_neg (by simpa using c)]
theorem takes0_w {K : KT} {n : Nat} (h : takes0 K n = true) : k_st K n = 0 := by
  unfold takes0 ready at h
  simp only [Bool.and_eq_true, decide_eq_true_eq] at h
  exact h.1.1
theorem dlI_zero {K : KT} {tk : Nat → Bool} {p m : Nat} (hm : ∀ n, n < k_ny K → k_mo K n ≠ m) : ∀ i, i ≤ k_ny K → dlI K tk p m i = 0
  | 0, _ => rfl
  | i + 1, hi => by
    have := hm i (by omega)
    unfold dlI
    rw [dlI_zero hm i (by omega)]
    have e : sgI K p m i = 0 := by
      unfold sgI
      rw [if_neg (show ¬ (k_to K i = p ∧ k_mo K i = m) from fun z => this z.2), if_neg (show ¬ (k_fr K i = p ∧ k_mo K i = m) from fun z => this z.2)]
      rfl
    rw [e]
    split <;> rfl
theorem inv_settle {K : KT} {c : Nat} (h : InvK K c) : InvK (settleK K) c := by
  obtain ⟨o1, o2, o3⟩ := outK_I h.run
  obtain ⟨h1, h2, h3, ⟨h4, h5⟩, ⟨h6, h7⟩, h8⟩ := h
  have hA := h2.am
  unfold settleK
  generalize outK K = r at o1 o2
  obtain ⟨tk, nt⟩ := r
  replace o1 : NtI K tk nt := o1
  replace o2 : ∀ n, tk n = true → takes0 K n = true := o2
  have hsk : skel (setB (setS K tk (k_ny K)) nt (k_np K)) = skel K := kd_B.2.2.trans kd_S.2.2
  have hdn : dnN (setB (setS K tk (k_ny K)) nt (k_np K)) = dnN K + cnN tk (k_ny K) := by
    refine cnN_add (k_ny K) (fun n hn => ?_)
    have est : k_st (setB (setS K tk (k_ny K)) nt (k_np K)) n = if n < k_ny K ∧ tk n = true then 1 else k_st K n := rfl
    unfold dnT
    rw [est]
    by_cases c1 : tk n = true
    · have c2 := takes0_w (o2 n c1)
      rw [if_pos ⟨hn, c1⟩]
      simp [c1, c2]
    · rw [if_neg (fun z => c1 z.2)]
      simp [c1]
  refine ⟨skel_wf hsk h1, h2, h3, ⟨fun p hp m hm1 hm2 => ?_, fun p hp m hm => ?_⟩, ⟨h6, h7⟩, h8⟩
  · show (if p < k_np K then nt p else k_ba K p) m = 0
    have hp : p < k_np K := hp
    rw [if_pos hp]
    have e := o1 p hp m hm2
    rw [dlI_zero (fun n hn z => by have := (h1.2.2.2 n hn).2.2.1; have hm1 : k_nm K ≤ m := hm1; omega) _ (Nat.le_refl _), h4 p hp m hm1 hm2] at e
    exact Int32.toInt_inj.mp e
  · have hp : p < k_np K := hp
    have e := o1 p hp m hm
    have hd := dlI_le (tk := tk) (p := p) (m := m) hA _ (Nat.le_refl _)
    have hb := h5 p hp m hm
    rw [hdn]
    show _ ≤ ((if p < k_np K then nt p else k_ba K p) m).toInt ∧ ((if p < k_np K then nt p else k_ba K p) m).toInt ≤ _
    rw [if_pos hp, e]
    omega
theorem interN_b (b : Int32) : interN b = b ∨ (interN b).toInt ≤ b.toInt ∧ -10000000 ≤ (interN b).toInt := by
  have hx := b.toInt_lt
  have hy := b.le_toInt
  have e7 : ((-10000000 : Int32)).toInt = -10000000 := rfl
  have e0 : ((0 : Int32)).toInt = 0 := rfl
  unfold interN
  by_cases c1 : b < 0 ∧ -10000000 < b
  · rw [if_pos c1]
    have c2 := Int32.lt_iff_toInt_lt.mp c1.1
    have c3 := Int32.lt_iff_toInt_lt.mp c1.2
    rw [e7] at c3
    rw [e0] at c2
    have hd : (b / 100).toInt = -((-b.toInt) / 100) := by
      rw [t32_div100, show b.toInt = -(-b.toInt) by omega, Int.neg_tdiv, Int.tdiv_eq_ediv_of_nonneg (by omega)]
      omega
    have e2 : (b + b / 100).toInt = b.toInt + -((-b.toInt) / 100) := by rw [t32_add (by rw [hd]; omega) (by rw [hd]; omega), hd]
    by_cases c4 : -10000000 < b + b / 100
    · rw [if_pos c4]
      have := Int32.lt_iff_toInt_lt.mp c4
      rw [e7, e2] at this
      exact Or.inr ⟨by rw [e2]; omega, by rw [e2]; omega⟩
    · rw [if_neg c4]
      exact Or.inr ⟨by rw [e7]; omega, by rw [e7]; omega⟩
  · rw [if_neg c1]
    exact Or.inl rfl
theorem inv_charge {K : KT} {c : Nat} (h : InvK K c) : InvK (chargeK K) c := by
  obtain ⟨h1, h2, h3, ⟨h4, h5⟩, ⟨h6, h7⟩, h8⟩ := h
  refine ⟨h1, h2, h3, ⟨fun p hp m hm1 hm2 => ?_, fun p hp m hm => ?_⟩, ⟨h6, h7⟩, h8⟩
  · show chg K (k_np K) 0 p m = 0
    have hm1 : k_nm K ≤ m := hm1
    unfold chg
    rw [if_neg (by omega)]
    exact h4 p hp m hm1 hm2
  · have hb := h5 p hp m hm
    have hp : p < k_np K := hp
    show -(10000000 + 100000 * (dnN K : Int)) ≤ (chg K (k_np K) 0 p m).toInt ∧ (chg K (k_np K) 0 p m).toInt ≤ _
    unfold chg
    by_cases c1 : m < k_nm K
    · rw [if_pos ⟨c1, Or.inl hp⟩, inter_eq]
      rcases interN_b (k_ba K p m) with z | z
      · rw [z]; exact hb
      · show _ ∧ _ ≤ 100000 * ((c : Int) + (dnN K : Int))
        omega
    · rw [if_neg (fun z => c1 z.1)]
      exact hb
theorem inv_def {K : KT} {c : Nat} (h : InvK K c) : InvK (defK K) c := h
theorem inv_time {K : KT} {c : Nat} {x y : Int32} (h : InvK K c) : InvK (ks_day (ks_hr K x) y) c := h
theorem inv_hr {K : KT} {c : Nat} {x : Int32} (h : InvK K c) : InvK (ks_hr K x) c := h
theorem inv_fail {K : KT} {c n : Nat} (h : InvK K c) (hn : n < k_ny K) (hs : k_st K n = 0) : InvK (failK K n) c := by
  have hB := h.run.2.2.2
  obtain ⟨h1, h2, h3, ⟨h4, h5⟩, ⟨h6, h7⟩, h8⟩ := h
  have ha := h2.am n hn
  have hf : (k_am K n / 100).toInt = (k_am K n).toInt / 100 := by rw [t32_div100, Int.tdiv_eq_ediv_of_nonneg (by omega)]
  obtain ⟨w5, w6, w7, -⟩ := h1.2.2.2 n hn
  have hdn : dnN (failK K n) = dnN K + 1 := by
    rw [show (1 : Nat) = cnN (fun q => decide (q = n)) (k_ny K) from (cnN_one n _ hn).symm]
    refine cnN_add (k_ny K) (fun q hq => ?_)
    have est : k_st (failK K n) q = up1 (k_st K) n 2 q := rfl
    unfold dnT
    rw [est]
    by_cases c1 : q = n
    · subst c1
      rw [u1_eq]
      simp [hs]
    · rw [u1_no c1]
      simp [c1]
  refine ⟨h1, h2, h3, ⟨fun p hp m hm1 hm2 => ?_, fun p hp m hm => ?_⟩, ⟨h6, h7⟩, h8⟩
  · show mvN K (k_ba K) n (k_am K n / 100) p m = 0
    have hm1 : k_nm K ≤ m := hm1
    have hp : p < k_np K := hp
    have hbb := hB p hp m hm2
    refine Int32.toInt_inj.mp ?_
    rw [mvN_I (by omega) (by omega), if_neg (by omega), if_neg (by omega), h4 p hp m hm1 hm2]
    rfl
  · have hp : p < k_np K := hp
    have hb := h5 p hp m hm
    have hbb := hB p hp m hm
    rw [hdn]
    show _ ≤ (mvN K (k_ba K) n (k_am K n / 100) p m).toInt ∧ (mvN K (k_ba K) n (k_am K n / 100) p m).toInt ≤ _
    rw [mvN_I (by omega) (by omega), hf]
    split <;> split <;> omega
theorem inv_failStep {K : KT} {c i : Nat} (h : InvK K c) (hi : i < k_ny K) : InvK (failStep i K) c := by
  unfold failStep
  split
  · rename_i c1
    have h1 := inv_fail h hi c1.1
    split
    · exact h1
    · rename_i q hq
      split
      · rename_i c2
        exact inv_fail h1 ((h.1.2.2.2 i hi).2.2.2 q hq) c2
      · exact h1
  · exact h
theorem inv_failAll {K : KT} {c : Nat} (h : InvK K c) : InvK (failAll K) c := by
  have key : ∀ i, i ≤ k_ny K → InvK (iter failStep i K) c := by
    intro i
    induction i with
    | zero => intro _; exact h
    | succ i ih =>
      intro hi
      have e : k_ny (iter failStep i K) = k_ny K := congrArg (fun z => z.2.2.1) (skel_iter (K := K) skel_failStep i)
      exact inv_failStep (ih (by omega)) (by omega)
  exact key _ (Nat.le_refl _)
theorem inv_end {K : KT} {c : Nat} (h : InvK K c) : InvK (endK K) c := by
  unfold endK
  split
  · exact inv_failAll (inv_def (inv_charge (inv_time h)))
  · exact inv_failAll (inv_hr h)
theorem inv_hour {K : KT} {c : Nat} (h : InvK K c) : InvK (hourK K) c := inv_end (inv_settle h)
theorem inv_hrs {K : KT} {c : Nat} (h : InvK K c) : ∀ i, InvK (hrs K i) c
  | 0 => h
  | i + 1 => inv_hour (inv_hrs h i)
theorem inv_pass {K : KT} {c : Nat} (h : InvK K c) : ∀ i, InvK (iter passS i (0, K)).2 c
  | 0 => h
  | i + 1 => inv_hour (inv_pass h i)
theorem inv_zs {K : KT} {c : Nat} (h : InvK K c) : ZrK (settleK K) := (inv_settle h).2.2.2.1.1
theorem inv_addB {K : KT} {c p m : Nat} {a : Int32} (h : InvK K c) (hp : p < k_np K) (hm : m < k_nm K) (ha : 0 ≤ a.toInt ∧ a.toInt ≤ 100000) (hc : c + 1 ≤ 1000) : InvK (addB K p m a) (c + 1) := by
  have hB := h.run.2.2.2
  obtain ⟨h1, h2, h3, ⟨h4, h5⟩, ⟨h6, h7⟩, h8⟩ := h
  refine ⟨h1, h2, h3, ⟨fun q hq u hu1 hu2 => ?_, fun q hq u hu => ?_⟩, ⟨fun q hq => ⟨(h6 q hq).1, ?_⟩, h7⟩, hc⟩
  · show up2n (k_ba K) p m (k_ba K p m + a) q u = 0
    have hu1 : k_nm K ≤ u := hu1
    unfold up2n
    rw [if_neg (by omega)]
    exact h4 q hq u hu1 hu2
  · have hq : q < k_np K := hq
    have hb := h5 q hq u hu
    show -(10000000 + 100000 * (dnN K : Int)) ≤ (up2n (k_ba K) p m (k_ba K p m + a) q u).toInt ∧ (up2n (k_ba K) p m (k_ba K p m + a) q u).toInt ≤ 100000 * (((c + 1 : Nat) : Int) + (dnN K : Int))
    have hbb := hB q hq u hu
    unfold up2n
    by_cases c1 : q = p ∧ u = m
    · obtain ⟨rfl, rfl⟩ := c1
      rw [if_pos ⟨rfl, rfl⟩, t32_add (by omega) (by omega)]
      omega
    · rw [if_neg c1]
      omega
  · have := (h6 q hq).2
    show coS K q 5 ≤ 100000 * ((c + 1 : Nat) : Int)
    omega
theorem coS_up {K : KT} {f : Nat → Nat → Int32} {p u : Nat} {v : Int32} (hf : ∀ q m, f q m = if q = p ∧ m = u then v else k_co K q m) (K1 : KT) (hK : k_co K1 = f) : ∀ i, coS K1 p i = coS K p i + (if u < i then v.toInt - (k_co K p u).toInt else 0)
  | 0 => by simp [coS]
  | i + 1 => by
    have ih := coS_up hf K1 hK i
    unfold coS
    rw [ih, hK, hf]
    by_cases c : i = u
    · subst c
      rw [if_neg (Nat.lt_irrefl _), if_pos (show i < i + 1 by omega), if_pos ⟨rfl, rfl⟩]
      omega
    · rw [if_neg (show ¬ (p = p ∧ i = u) from fun z => c z.2)]
      by_cases c2 : u < i
      · rw [if_pos c2, if_pos (show u < i + 1 by omega)]
        omega
      · rw [if_neg c2, if_neg (show ¬ u < i + 1 by omega)]
        omega
theorem coS_o {K : KT} {f : Nat → Nat → Int32} {p q u : Nat} {v : Int32} (hf : ∀ q m, f q m = if q = p ∧ m = u then v else k_co K q m) (K1 : KT) (hK : k_co K1 = f) (hq : q ≠ p) : ∀ i, coS K1 q i = coS K q i
  | 0 => rfl
  | i + 1 => by
    have ih := coS_o hf K1 hK hq i
    unfold coS
    rw [ih, hK, hf, if_neg (fun z => hq z.1)]
theorem coS_pos {K : KT} {p : Nat} (h : ∀ m, m < 5 → 0 ≤ (k_co K p m).toInt) : ∀ i, i ≤ 5 → 0 ≤ coS K p i ∧ ∀ m, m < i → (k_co K p m).toInt ≤ coS K p i
  | 0, _ => ⟨Int.le_refl _, fun m hm => by omega⟩
  | i + 1, hi => by
    obtain ⟨i1, i2⟩ := coS_pos h i (by omega)
    have := h i (by omega)
    unfold coS
    refine ⟨by omega, fun m hm => ?_⟩
    by_cases c : m = i
    · subst c; omega
    · have := i2 m (by omega)
      omega
theorem inv_mvC {K : KT} {c p m : Nat} {a : Int32} (h : InvK K c) (hp : p < k_np K) (hm : m < k_nm K) (ha : -100000 ≤ a.toInt ∧ a.toInt ≤ 100000) (h1 : a ≤ k_ba K p m ∨ ¬ 0 < a) (h2 : -a ≤ k_co K p m) (hc : c + 1 ≤ 1000) : InvK (mvC K p m a) (c + 1) := by
  have hB := h.run.2.2.2
  have hw := h.1.2.1
  obtain ⟨i1, i2, i3, ⟨i4, i5⟩, ⟨i6, i7⟩, i8⟩ := h
  have na : (-a).toInt = -a.toInt := t32_neg (by omega)
  have e0 : ((0 : Int32)).toInt = 0 := rfl
  have h2' := Int32.le_iff_toInt_le.mp h2
  rw [na] at h2'
  have h1' : a.toInt ≤ (k_ba K p m).toInt ∨ a.toInt ≤ 0 := by
    rcases h1 with z | z
    · exact Or.inl (Int32.le_iff_toInt_le.mp z)
    · refine Or.inr ?_
      have := Int32.le_iff_toInt_le.mp (Int32.not_lt.mp z)
      rw [e0] at this
      exact this
  have hcs := coS_pos (i6 p hp).1 5 (Nat.le_refl _)
  have hcm := hcs.2 m (by omega)
  have hc5 := (i6 p hp).2
  have hco0 := (i6 p hp).1 m (by omega)
  have ev : (k_co K p m + a).toInt = (k_co K p m).toInt + a.toInt := t32_add (by omega) (by omega)
  refine ⟨i1, i2, i3, ⟨fun q hq u hu1 hu2 => ?_, fun q hq u hu => ?_⟩, ⟨fun q hq => ⟨fun u hu => ?_, ?_⟩, i7⟩, hc⟩
  · show up2n (k_ba K) p m (k_ba K p m + -a) q u = 0
    have hu1 : k_nm K ≤ u := hu1
    unfold up2n
    rw [if_neg (by omega)]
    exact i4 q hq u hu1 hu2
  · have hq : q < k_np K := hq
    have hb := i5 q hq u hu
    have hbb := hB q hq u hu
    show -(10000000 + 100000 * (dnN K : Int)) ≤ (up2n (k_ba K) p m (k_ba K p m + -a) q u).toInt ∧ (up2n (k_ba K) p m (k_ba K p m + -a) q u).toInt ≤ 100000 * (((c + 1 : Nat) : Int) + (dnN K : Int))
    unfold up2n
    by_cases c1 : q = p ∧ u = m
    · obtain ⟨rfl, rfl⟩ := c1
      rw [if_pos ⟨rfl, rfl⟩, t32_add (by omega) (by omega), na]
      omega
    · rw [if_neg c1]
      omega
  · show 0 ≤ (up2n (k_co K) p m (k_co K p m + a) q u).toInt
    unfold up2n
    by_cases c1 : q = p ∧ u = m
    · rw [if_pos c1, ev]
      omega
    · rw [if_neg c1]
      exact (i6 q hq).1 u hu
  · have hq : q < k_np K := hq
    have hf : ∀ q u, up2n (k_co K) p m (k_co K p m + a) q u = if q = p ∧ u = m then k_co K p m + a else k_co K q u := fun _ _ => rfl
    by_cases c1 : q = p
    · subst c1
      rw [coS_up hf (mvC K q m a) rfl 5, if_pos (by omega), ev]
      omega
    · rw [coS_o hf (mvC K p m a) rfl c1 5]
      have := (i6 q hq).2
      omega
/-- an exposure and a limit fit an int -/
theorem expo_le {K : KT} {f : Nat → Int32} (hR : RtK K) (h5 : k_nm K ≤ 5) (hf : ∀ m, m < k_nm K → -17000000 ≤ (f m).toInt) : ∀ i, i ≤ k_nm K → 0 ≤ (iter (fun m acc => if f m < 0 then acc + (-(f m).toInt64 * (k_rt K m).toInt64 + 99) / 100 else acc) i (0 : Int64)).toInt ∧ (iter (fun m acc => if f m < 0 then acc + (-(f m).toInt64 * (k_rt K m).toInt64 + 99) / 100 else acc) i (0 : Int64)).toInt ≤ 170000001 * (i : Int)
  | 0, _ => by simp [iter]
  | i + 1, hi => by
    obtain ⟨i1, i2⟩ := expo_le hR h5 hf i (by omega)
    have hr := hR i (by omega)
    have hl := hf i (by omega)
    simp only [iter]
    generalize iter (fun m acc => if f m < 0 then acc + (-(f m).toInt64 * (k_rt K m).toInt64 + 99) / 100 else acc) i (0 : Int64) = u at *
    by_cases c1 : f i < 0
    · have c2 := Int32.lt_iff_toInt_lt.mp c1
      have e0 : ((0 : Int32)).toInt = 0 := rfl
      rw [e0] at c2
      obtain ⟨a1, a2, a3⟩ := expoT c2 hr
      have hm : -(f i).toInt * (k_rt K i).toInt ≤ 17000000 * 1000 := Int.mul_le_mul (by omega) (by omega) (by omega) (by omega)
      rw [if_pos c1, t64_add (by rw [a1]; omega) (by rw [a1]; omega), a1]
      omega
    · rw [if_neg c1]
      omega
theorem worth_le {K : KT} {x : Int32} {m : Nat} (hR : RtK K) (hm : m < k_nm K) (hx : 0 ≤ x.toInt) : 0 ≤ (worth K x m * 9 / 10).toInt ∧ (worth K x m * 9 / 10).toInt ≤ 9 * x.toInt := by
  have hr := hR m hm
  have h0 := x.toInt_lt
  have h1 : 0 ≤ x.toInt * (k_rt K m).toInt := Int.mul_nonneg hx (by omega)
  have h2 : x.toInt * (k_rt K m).toInt ≤ x.toInt * 1000 := Int.mul_le_mul_of_nonneg_left (by omega) hx
  have e1 : (x.toInt64 * (k_rt K m).toInt64).toInt = x.toInt * (k_rt K m).toInt := by rw [t64_mul (by rw [i64_toInt, i64_toInt]; omega) (by rw [i64_toInt, i64_toInt]; omega), i64_toInt, i64_toInt]
  have e2 : (worth K x m).toInt = x.toInt * (k_rt K m).toInt / 100 := by
    unfold worth
    rw [t64_div100 (by rw [e1]; exact h1), e1]
  have n9 : ((9 : Int64)).toInt = 9 := rfl
  have e3 : (worth K x m * 9).toInt = x.toInt * (k_rt K m).toInt / 100 * 9 := by rw [t64_mul (by rw [e2, n9]; omega) (by rw [e2, n9]; omega), e2, n9]
  have e4 : (worth K x m * 9 / 10).toInt = x.toInt * (k_rt K m).toInt / 100 * 9 / 10 := by
    rw [Int64.toInt_div_of_ne_right _ _ (by decide), show ((10 : Int64)).toInt = 10 from rfl, e3, Int.tdiv_eq_ediv_of_nonneg (by omega)]
  rw [e4]
  omega
theorem limit_le {K : KT} {c p : Nat} (h : InvK K c) (hp : p < k_np K) : ∀ i, i ≤ k_nm K → 0 ≤ (iter (fun m acc => acc + worth K (k_co K p m) m * 9 / 10) i (k_li K p).toInt64).toInt ∧ (iter (fun m acc => acc + worth K (k_co K p m) m * 9 / 10) i (k_li K p).toInt64).toInt ≤ 1000000 + 9 * coS K p i
  | 0, _ => by
    have := h.2.2.2.2.1.2 p hp
    simp only [iter, coS, i64_toInt]
    omega
  | i + 1, hi => by
    obtain ⟨i1, i2⟩ := limit_le h hp i (by omega)
    have hw := h.1.2.1
    have hc := (h.2.2.2.2.1.1 p hp)
    obtain ⟨c1, c2⟩ := coS_pos hc.1 i (by omega)
    have c3 := hc.1 i (by omega)
    obtain ⟨w1, w2⟩ := worth_le h.2.2.1 (show i < k_nm K by omega) c3
    have hle : coS K p i ≤ coS K p 5 := by
      have : ∀ j, i ≤ j → j ≤ 5 → coS K p i ≤ coS K p j := by
        intro j
        induction j with
        | zero => intro hj _; have : i = 0 := by omega
                  subst this; exact Int.le_refl _
        | succ j ih =>
          intro hj hj5
          by_cases c : i = j + 1
          · subst c; exact Int.le_refl _
          · have := ih (by omega) (by omega)
            have := hc.1 j (by omega)
            show coS K p i ≤ coS K p j + (k_co K p j).toInt
            omega
      exact this 5 (by omega) (Nat.le_refl _)
    have hc9 := h.2.2.2.2.2
    have hc5 := hc.2
    have c4 := (k_co K p i).toInt_lt
    simp only [iter]
    rw [t64_add (by omega) (by omega)]
    show _ ∧ _ ≤ 1000000 + 9 * (coS K p i + (k_co K p i).toInt)
    omega
theorem coS_le5 {K : KT} {p : Nat} (h : ∀ m, m < 5 → 0 ≤ (k_co K p m).toInt) {i : Nat} (hi : i ≤ 5) : coS K p i ≤ coS K p 5 := by
  have : ∀ j, i ≤ j → j ≤ 5 → coS K p i ≤ coS K p j := by
    intro j
    induction j with
    | zero => intro hj _; have : i = 0 := by omega
              subst this; exact Int.le_refl _
    | succ j ih =>
      intro hj hj5
      by_cases c : i = j + 1
      · subst c; exact Int.le_refl _
      · have := ih (by omega) (by omega)
        have := h j (by omega)
        show coS K p i ≤ coS K p j + (k_co K p j).toInt
        omega
  exact this 5 hi (Nat.le_refl _)
theorem inv_room {K : KT} {c : Nat} (h : InvK K c) : RoomOk K := by
  intro p hp
  have hw := h.1.2.1
  have hd := dnN_le h.1
  have hc9 := h.2.2.2.2.2
  obtain ⟨l1, l2⟩ := limit_le h hp (k_nm K) (Nat.le_refl _)
  obtain ⟨x1, x2⟩ := expo_le (f := k_ba K p) h.2.2.1 hw (fun m hm => by have := h.2.2.2.1.2 p hp m (by omega); omega) (k_nm K) (Nat.le_refl _)
  have hc5 := (h.2.2.2.2.1.1 p hp).2
  have hc := coS_le5 (h.2.2.2.2.1.1 p hp).1 hw
  have e : (room K p).toInt = (limit K p).toInt - (expo K (k_ba K p)).toInt := by
    unfold room
    rw [Int64.toInt_sub]
    refine Int.bmod_eq_of_le ?_ ?_
    · show -9223372036854775808 ≤ _
      unfold limit expo
      omega
    · show _ < 9223372036854775808
      unfold limit expo
      omega
  have lo : -2147483648 ≤ (room K p).toInt ∧ (room K p).toInt < 2147483648 := by
    rw [e]
    unfold limit expo
    omega
  have e2 : (room K p).toInt32.toInt = (room K p).toInt := by
    rw [Int64.toInt_toInt32]
    exact Int.bmod_eq_of_le lo.1 lo.2
  rw [Int32.lt_iff_toInt_lt, Int64.lt_iff_toInt_lt, e2]
  rfl
