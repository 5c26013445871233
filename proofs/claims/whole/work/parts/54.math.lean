/-! runs in whole numbers -/
theorem t32_add {x y : Int32} (h1 : -2147483648 ≤ x.toInt + y.toInt) (h2 : x.toInt + y.toInt < 2147483648) : (x + y).toInt = x.toInt + y.toInt := by
  rw [Int32.toInt_add]
  exact Int.bmod_eq_of_le h1 h2
theorem t32_neg {x : Int32} (h : -2147483648 < x.toInt) : (-x).toInt = -x.toInt := by
  have := x.toInt_lt
  rw [Int32.toInt_neg]
  exact Int.bmod_eq_of_le (by omega) (by omega)
theorem t32_sub {x y : Int32} (h1 : -2147483648 ≤ x.toInt - y.toInt) (h2 : x.toInt - y.toInt < 2147483648) : (x - y).toInt = x.toInt - y.toInt := by
  rw [Int32.toInt_sub]
  exact Int.bmod_eq_of_le h1 h2
theorem t64_add {x y : Int64} (h1 : -9223372036854775808 ≤ x.toInt + y.toInt) (h2 : x.toInt + y.toInt < 9223372036854775808) : (x + y).toInt = x.toInt + y.toInt := by
  rw [Int64.toInt_add]
  exact Int.bmod_eq_of_le h1 h2
theorem t64_mul {x y : Int64} (h1 : -9223372036854775808 ≤ x.toInt * y.toInt) (h2 : x.toInt * y.toInt < 9223372036854775808) : (x * y).toInt = x.toInt * y.toInt := by
  rw [Int64.toInt_mul]
  exact Int.bmod_eq_of_le h1 h2
theorem t64_neg {x : Int64} (h : -9223372036854775808 < x.toInt) : (-x).toInt = -x.toInt := by
  have := x.toInt_lt
  rw [Int64.toInt_neg]
  exact Int.bmod_eq_of_le (by omega) (by omega)
theorem t64_div100 {x : Int64} (h : 0 ≤ x.toInt) : (x / 100).toInt = x.toInt / 100 := by
  rw [Int64.toInt_div_of_ne_right _ _ (by decide), show ((100 : Int64)).toInt = 100 from rfl, Int.tdiv_eq_ediv_of_nonneg h]
/-- an amount paid in, less what is paid out, of a party in a money by a payment -/
def sgI (K : KT) (p m n : Nat) : Int := (if k_to K n = p ∧ k_mo K n = m then (k_am K n).toInt else 0) - (if k_fr K n = p ∧ k_mo K n = m then (k_am K n).toInt else 0)
def dlI (K : KT) (tk : Nat → Bool) (p m : Nat) : Nat → Int
  | 0 => 0
  | i + 1 => dlI K tk p m i + (if tk i = true then sgI K p m i else 0)
def cnN (tk : Nat → Bool) : Nat → Nat
  | 0 => 0
  | i + 1 => cnN tk i + (if tk i = true then 1 else 0)
def AmK (K : KT) : Prop := ∀ n, n < k_ny K → 0 < (k_am K n).toInt ∧ (k_am K n).toInt ≤ 100000
def RtK (K : KT) : Prop := ∀ m, m < k_nm K → 0 < (k_rt K m).toInt ∧ (k_rt K m).toInt ≤ 1000
def BaK (K : KT) : Prop := ∀ p, p < k_np K → ∀ m, m < 5 → -1000000000 ≤ (k_ba K p m).toInt ∧ (k_ba K p m).toInt ≤ 1000000000
def NtI (K : KT) (tk : Nat → Bool) (nt : Nat → Nat → Int32) : Prop := ∀ p, p < k_np K → ∀ m, m < 5 → (nt p m).toInt = (k_ba K p m).toInt + dlI K tk p m (k_ny K)
theorem WrK.am {K : KT} (h : WrK K) : AmK K := fun n hn => by
  obtain ⟨a, h1, h2, h3⟩ := h.2.2 n hn
  rw [h3, nI_toInt (by omega)]
  omega
theorem sgI_le {K : KT} {p m n : Nat} (hA : AmK K) (hn : n < k_ny K) : -100000 ≤ sgI K p m n ∧ sgI K p m n ≤ 100000 := by
  have := hA n hn
  unfold sgI
  split <;> split <;> omega
theorem dlI_le {K : KT} {tk : Nat → Bool} {p m : Nat} (hA : AmK K) : ∀ i, i ≤ k_ny K → -(100000 * (cnN tk i : Int)) ≤ dlI K tk p m i ∧ dlI K tk p m i ≤ 100000 * (cnN tk i : Int)
  | 0, _ => by simp [dlI, cnN]
  | i + 1, hi => by
    have h1 := dlI_le (tk := tk) (p := p) (m := m) hA i (by omega)
    have h2 := sgI_le (p := p) (m := m) hA (n := i) (by omega)
    unfold dlI cnN
    split <;> omega
theorem cnN_le (tk : Nat → Bool) : ∀ i, cnN tk i ≤ i
  | 0 => Nat.le_refl _
  | i + 1 => by
    have := cnN_le tk i
    unfold cnN
    split <;> omega
theorem dlI_b {K : KT} {tk : Nat → Bool} {p m : Nat} (hA : AmK K) (h60 : k_ny K ≤ 60) {i : Nat} (hi : i ≤ k_ny K) : -6000000 ≤ dlI K tk p m i ∧ dlI K tk p m i ≤ 6000000 := by
  have h1 := dlI_le (tk := tk) (p := p) (m := m) hA i hi
  have h2 := cnN_le tk i
  omega
theorem mvN_I {K : KT} {nt : Nat → Nat → Int32} {n p m : Nat} {x : Int32} (hx : -100000 ≤ x.toInt ∧ x.toInt ≤ 100000) (hb : -2000000000 ≤ (nt p m).toInt ∧ (nt p m).toInt ≤ 2000000000) : (mvN K nt n x p m).toInt = (nt p m).toInt + (if k_to K n = p ∧ k_mo K n = m then x.toInt else 0) - (if k_fr K n = p ∧ k_mo K n = m then x.toInt else 0) := by
  have hn : (-x).toInt = -x.toInt := t32_neg (by omega)
  have e1 : (nt p m + -x).toInt = (nt p m).toInt - x.toInt := by rw [t32_add (by omega) (by omega), hn]; omega
  have e2 : (nt p m + x).toInt = (nt p m).toInt + x.toInt := t32_add (by omega) (by omega)
  have e3 : (nt p m + -x + x).toInt = (nt p m).toInt := by rw [t32_add (by omega) (by omega), e1]; omega
  unfold mvN up2n
  by_cases c1 : p = k_to K n ∧ m = k_mo K n
  · obtain ⟨rfl, rfl⟩ := c1
    rw [if_pos (show k_to K n = k_to K n ∧ k_mo K n = k_mo K n from ⟨rfl, rfl⟩), if_pos (show k_to K n = k_to K n ∧ k_mo K n = k_mo K n from ⟨rfl, rfl⟩)]
    by_cases c2 : k_to K n = k_fr K n
    · rw [if_pos (show k_to K n = k_fr K n ∧ k_mo K n = k_mo K n from ⟨c2, rfl⟩), if_pos (show k_fr K n = k_to K n ∧ k_mo K n = k_mo K n from ⟨c2.symm, rfl⟩), ← c2, e3]
      omega
    · rw [if_neg (show ¬ (k_to K n = k_fr K n ∧ k_mo K n = k_mo K n) from fun z => c2 z.1), if_neg (show ¬ (k_fr K n = k_to K n ∧ k_mo K n = k_mo K n) from fun z => c2 z.1.symm), e2]
      omega
  · rw [if_neg c1, if_neg (show ¬ (k_to K n = p ∧ k_mo K n = m) from fun z => c1 ⟨z.1.symm, z.2.symm⟩)]
    by_cases c2 : p = k_fr K n ∧ m = k_mo K n
    · obtain ⟨rfl, rfl⟩ := c2
      rw [if_pos (show k_fr K n = k_fr K n ∧ k_mo K n = k_mo K n from ⟨rfl, rfl⟩), if_pos (show k_fr K n = k_fr K n ∧ k_mo K n = k_mo K n from ⟨rfl, rfl⟩), e1]
      omega
    · rw [if_neg c2, if_neg (show ¬ (k_fr K n = p ∧ k_mo K n = m) from fun z => c2 ⟨z.1.symm, z.2.symm⟩)]
      omega
theorem net0_I {K : KT} (hA : AmK K) (hB : BaK K) (h60 : k_ny K ≤ 60) : NtI K (takes0 K) (net0 K (k_ny K)) := by
  intro p hp m hm
  have hb := hB p hp m hm
  have key : ∀ i, i ≤ k_ny K → (net0 K i p m).toInt = (k_ba K p m).toInt + dlI K (takes0 K) p m i := by
    intro i
    induction i with
    | zero => intro _; simp [net0, iter, dlI]
    | succ i ih =>
      intro hi
      have e := ih (by omega)
      have hd := dlI_b (tk := takes0 K) (p := p) (m := m) hA h60 (i := i) (by omega)
      have ha := hA i (by omega)
      show ((if takes0 K i = true then mvN K (net0 K i) i (k_am K i) else net0 K i) p m).toInt = _
      unfold dlI
      by_cases c : takes0 K i = true
      · rw [if_pos c, if_pos c, mvN_I (by omega) (by omega), e]
        unfold sgI
        omega
      · rw [if_neg c, if_neg c, e]
        omega
  exact key _ (Nat.le_refl _)
def offT (tk : Nat → Bool) (n : Nat) : Nat → Bool := fun n' => if n' = n then false else tk n'
theorem offT_i {tk : Nat → Bool} {n i : Nat} : offT tk n i = true ↔ i ≠ n ∧ tk i = true := by
  unfold offT
  split <;> simp_all
theorem dlI_off {K : KT} {tk : Nat → Bool} {p m n : Nat} (ht : tk n = true) : ∀ i, dlI K (offT tk n) p m i = dlI K tk p m i - (if n < i then sgI K p m n else 0)
  | 0 => by simp [dlI]
  | i + 1 => by
    have h := dlI_off (K := K) (p := p) (m := m) ht i
    unfold dlI
    rw [h]
    by_cases c : i = n
    · subst c
      rw [if_neg (show ¬ i < i by omega), if_pos (show i < i + 1 by omega), if_neg (show ¬ offT tk i i = true by rw [offT_i]; simp), if_pos ht]
      omega
    · have e : (offT tk n i = true) = (tk i = true) := propext ⟨fun z => (offT_i.mp z).2, fun z => offT_i.mpr ⟨c, z⟩⟩
      simp only [e]
      by_cases c2 : n < i
      · rw [if_pos c2, if_pos (show n < i + 1 by omega)]
        omega
      · rw [if_neg c2, if_neg (show ¬ n < i + 1 by omega)]
        omega
theorem cnN_off {tk : Nat → Bool} {n : Nat} (ht : tk n = true) : ∀ i, cnN (offT tk n) i + (if n < i then 1 else 0) = cnN tk i
  | 0 => by simp [cnN]
  | i + 1 => by
    have h := cnN_off ht i
    unfold cnN
    by_cases c : i = n
    · subst c
      rw [if_neg (show ¬ i < i by omega)] at h
      rw [if_pos (show i < i + 1 by omega), if_neg (show ¬ offT tk i i = true by rw [offT_i]; simp), if_pos ht]
      omega
    · have e : (offT tk n i = true) = (tk i = true) := propext ⟨fun z => (offT_i.mp z).2, fun z => offT_i.mpr ⟨c, z⟩⟩
      simp only [e]
      by_cases c2 : n < i
      · rw [if_pos c2] at h
        rw [if_pos (show n < i + 1 by omega)]
        omega
      · rw [if_neg c2] at h
        rw [if_neg (show ¬ n < i + 1 by omega)]
        omega
theorem leave1_I {K : KT} {r : RuT} {n : Nat} (hA : AmK K) (hB : BaK K) (h60 : k_ny K ≤ 60) (hn : n < k_ny K) (ht : r.1 n = true) (h : NtI K r.1 r.2) : NtI K (leave1 K r n).1 (leave1 K r n).2 := by
  intro p hp m hm
  have hb := hB p hp m hm
  have e := h p hp m hm
  have hd := dlI_b (tk := r.1) (p := p) (m := m) hA h60 (Nat.le_refl _)
  have ha := hA n hn
  have hx : (-(k_am K n)).toInt = -(k_am K n).toInt := t32_neg (by omega)
  show (mvN K r.2 n (-(k_am K n)) p m).toInt = _ + dlI K (offT r.1 n) p m (k_ny K)
  rw [dlI_off ht, if_pos hn, mvN_I (by omega) (by omega), e, hx]
  unfold sgI
  split <;> split <;> omega
theorem i64_toInt (x : Int32) : x.toInt64.toInt = x.toInt := Int32.toInt_toInt64 x
/-- what an exposure has of a balance -/
theorem expoT {x r : Int32} (hx : x.toInt < 0) (hr : 0 < r.toInt ∧ r.toInt ≤ 1000) : ((-x.toInt64 * r.toInt64 + 99) / 100).toInt = (-x.toInt * r.toInt + 99) / 100 ∧ 0 ≤ -x.toInt * r.toInt ∧ -x.toInt * r.toInt ≤ 2147483648000 := by
  have h0 := x.le_toInt
  have h1 : 0 ≤ -x.toInt * r.toInt := Int.mul_nonneg (by omega) (by omega)
  have h2 : -x.toInt * r.toInt ≤ 2147483648 * 1000 := Int.mul_le_mul (by omega) (by omega) (by omega) (by omega)
  have e1 : (-x.toInt64).toInt = -x.toInt := by rw [t64_neg (by rw [i64_toInt]; omega), i64_toInt]
  have e2 : (-x.toInt64 * r.toInt64).toInt = -x.toInt * r.toInt := by rw [t64_mul (by rw [e1, i64_toInt]; omega) (by rw [e1, i64_toInt]; omega), e1, i64_toInt]
  have e3 : (-x.toInt64 * r.toInt64 + 99).toInt = -x.toInt * r.toInt + 99 := by
    have : ((99 : Int64)).toInt = 99 := rfl
    rw [t64_add (by rw [e2, this]; omega) (by rw [e2, this]; omega), e2, this]
  exact ⟨by rw [t64_div100 (by rw [e3]; omega), e3], h1, by omega⟩
theorem expo_mono {K : KT} {f h : Nat → Int32} (hR : RtK K) (h5 : k_nm K ≤ 5) (hle : ∀ m, m < k_nm K → (h m).toInt ≤ (f m).toInt) : (expo K f).toInt ≤ (expo K h).toInt := by
  have key : ∀ i, i ≤ k_nm K → 0 ≤ (iter (fun m acc => if f m < 0 then acc + (-(f m).toInt64 * (k_rt K m).toInt64 + 99) / 100 else acc) i (0 : Int64)).toInt ∧ (iter (fun m acc => if f m < 0 then acc + (-(f m).toInt64 * (k_rt K m).toInt64 + 99) / 100 else acc) i (0 : Int64)).toInt ≤ (iter (fun m acc => if h m < 0 then acc + (-(h m).toInt64 * (k_rt K m).toInt64 + 99) / 100 else acc) i (0 : Int64)).toInt ∧ (iter (fun m acc => if h m < 0 then acc + (-(h m).toInt64 * (k_rt K m).toInt64 + 99) / 100 else acc) i (0 : Int64)).toInt ≤ 30000000000 * i := by
    intro i
    induction i with
    | zero => intro _; refine ⟨by simp [iter], by simp [iter], by simp [iter]⟩
    | succ i ih =>
      intro hi
      obtain ⟨i1, i2, i3⟩ := ih (by omega)
      have hr := hR i (by omega)
      have hl := hle i (by omega)
      simp only [iter]
      generalize iter (fun m acc => if f m < 0 then acc + (-(f m).toInt64 * (k_rt K m).toInt64 + 99) / 100 else acc) i (0 : Int64) = u at *
      generalize iter (fun m acc => if h m < 0 then acc + (-(h m).toInt64 * (k_rt K m).toInt64 + 99) / 100 else acc) i (0 : Int64) = v at *
      have z : ∀ x : Int32, x < 0 ↔ x.toInt < 0 := fun x => Int32.lt_iff_toInt_lt
      by_cases c1 : f i < 0
      · have c1' := (z _).mp c1
        have c2' : (h i).toInt < 0 := by omega
        obtain ⟨a1, a2, a3⟩ := expoT c1' hr
        obtain ⟨b1, b2, b3⟩ := expoT c2' hr
        have hm : -(f i).toInt * (k_rt K i).toInt ≤ -(h i).toInt * (k_rt K i).toInt := Int.mul_le_mul_of_nonneg_right (by omega) (by omega)
        rw [if_pos c1, if_pos ((z _).mpr c2'), t64_add (by rw [a1]; omega) (by rw [a1]; omega), t64_add (by rw [b1]; omega) (by rw [b1]; omega), a1, b1]
        omega
      · rw [if_neg c1]
        by_cases c2 : h i < 0
        · obtain ⟨b1, b2, b3⟩ := expoT ((z _).mp c2) hr
          rw [if_pos c2, t64_add (by rw [b1]; omega) (by rw [b1]; omega), b1]
          omega
        · rw [if_neg c2]
          omega
  exact (key _ (Nat.le_refl _)).2.1
theorem dlI_pos {K : KT} {tk : Nat → Bool} {p m : Nat} (hA : AmK K) : ∀ i, i ≤ k_ny K → (∀ n, n < i → tk n = true → k_fr K n ≠ p) → 0 ≤ dlI K tk p m i
  | 0, _, _ => Int.le_refl _
  | i + 1, hi, h => by
    have h1 := dlI_pos (tk := tk) (p := p) (m := m) hA i (by omega) (fun n hn => h n (by omega))
    have ha := hA i (by omega)
    unfold dlI
    by_cases c : tk i = true
    · rw [if_pos c]
      unfold sgI
      rw [if_neg (show ¬ (k_fr K i = p ∧ k_mo K i = m) from fun z => h i (by omega) c z.1)]
      split <;> omega
    · rw [if_neg c]
      omega
theorem short_has {K : KT} {tk : Nat → Bool} {nt : Nat → Nat → Int32} {p : Nat} (hA : AmK K) (hR : RtK K) (h5 : k_nm K ≤ 5) (hp : p < k_np K) (h : NtI K tk nt) (hs : short K nt p = true) : ∃ n, n < k_ny K ∧ tk n = true ∧ k_fr K n = p := by
  refine Classical.byContradiction fun hno => ?_
  have hle : (expo K (nt p)).toInt ≤ (expo K (k_ba K p)).toInt := expo_mono hR h5 (fun m hm => by
    have e := h p hp m (by omega)
    have := dlI_pos (tk := tk) (p := p) (m := m) hA (k_ny K) (Nat.le_refl _) (fun n hn ht hf => hno ⟨n, hn, ht, hf⟩)
    omega)
  unfold short at hs
  rw [Bool.and_eq_true] at hs
  have := Int64.lt_iff_toInt_lt.mp (of_decide_eq_true hs.2)
  omega
theorem price_nn {K : KT} {n : Nat} (hA : AmK K) (hR : RtK K) (hn : n < k_ny K) (hm : k_mo K n < k_nm K) : (0 : Int64) ≤ price K n := by
  have ha := hA n hn
  have hr := hR _ hm
  have h1 : 0 ≤ (k_am K n).toInt * (k_rt K (k_mo K n)).toInt := Int.mul_nonneg (by omega) (by omega)
  have h2 : (k_am K n).toInt * (k_rt K (k_mo K n)).toInt ≤ 100000 * 1000 := Int.mul_le_mul (by omega) (by omega) (by omega) (by omega)
  rw [Int64.le_iff_toInt_le]
  unfold price
  rw [t64_mul (by rw [i64_toInt, i64_toInt]; omega) (by rw [i64_toInt, i64_toInt]; omega), i64_toInt, i64_toInt]
  exact h1
/-- the search for the dearest: what it holds is of one that takes part -/
theorem dear_inv {K : KT} {tk : Nat → Bool} {p : Nat} : ∀ i, (iter (dear K tk p) i (none, 0)).1 = none ∧ (iter (dear K tk p) i (none, 0)).2 = 0 ∨ ∃ n, n < i ∧ tk n = true ∧ k_fr K n = p ∧ iter (dear K tk p) i (none, 0) = (some n, price K n)
  | 0 => Or.inl ⟨rfl, rfl⟩
  | i + 1 => by
    have h := dear_inv (K := K) (tk := tk) (p := p) i
    simp only [iter]
    generalize iter (dear K tk p) i (none, 0) = s at *
    unfold dear
    split
    · rename_i c
      exact Or.inr ⟨i, by omega, c.1, c.2.1, rfl⟩
    · rcases h with h | ⟨n, h1, h2, h3, h4⟩
      · exact Or.inl h
      · exact Or.inr ⟨n, by omega, h2, h3, h4⟩
theorem dear_has {K : KT} {tk : Nat → Bool} {p : Nat} (hpr : ∀ n, n < k_ny K → (0 : Int64) ≤ price K n) : ∀ i, i ≤ k_ny K → (∃ n, n < i ∧ tk n = true ∧ k_fr K n = p) → (iter (dear K tk p) i (none, 0)).1 ≠ none
  | 0, _, h => by obtain ⟨n, hn, _⟩ := h; omega
  | i + 1, hi, h => by
    have ih := dear_has (tk := tk) (p := p) hpr i (by omega)
    have hv := dear_inv (K := K) (tk := tk) (p := p) i
    simp only [iter]
    generalize iter (dear K tk p) i (none, 0) = s at *
    unfold dear
    split
    · exact fun z => by cases z
    · rename_i c
      obtain ⟨n, h1, h2, h3⟩ := h
      by_cases hni : n = i
      · subst hni
        rcases hv with ⟨v1, v2⟩ | ⟨q, _, _, _, v4⟩
        · exact absurd ⟨h2, h3, by rw [v2]; exact hpr n (by omega)⟩ c
        · rw [v4]; exact fun z => by cases z
      · exact ih ⟨n, by omega, h2, h3⟩
/-- what a desk keeps to, for a run -/
def RunK (K : KT) : Prop := WfK K ∧ AmK K ∧ RtK K ∧ BaK K
theorem dearO_take {K : KT} {tk : Nat → Bool} {o : Option Nat} {n : Nat} (h : dearO K tk o = some n) : n < k_ny K ∧ tk n = true ∧ o = some (k_fr K n) := by
  have hl := dearO_lt h
  cases o with
  | none => exact absurd h (by simp [dearO])
  | some p =>
    rcases dear_inv (K := K) (tk := tk) (p := p) (k_ny K) with ⟨v1, v2⟩ | ⟨q, v1, v2, v3, v4⟩
    · exact absurd (show none = some n from v1.symm.trans h) (by simp)
    · have : q = n := by
        have h' : (iter (dear K tk p) (k_ny K) (none, 0)).1 = some n := h
        rw [v4] at h'
        exact Option.some.inj h'
      subst this
      exact ⟨hl, v2, by rw [v3]⟩
theorem leaves_none {K : KT} {r : RuT} (hK : RunK K) (h : NtI K r.1 r.2) : leaves K r = none ↔ firstIx (k_np K) (short K r.2) = none := by
  obtain ⟨hW, hA, hR, hB⟩ := hK
  obtain ⟨w1, w2, w3, w4⟩ := hW
  constructor
  · intro hl
    cases hf : firstIx (k_np K) (short K r.2) with
    | none => rfl
    | some p =>
      obtain ⟨s1, s2, -⟩ := firstIx_spec hf
      have hd := dear_has (tk := r.1) (p := p) (fun n hn => price_nn hA hR hn (w4 n hn).2.2.1) (k_ny K) (Nat.le_refl _) (short_has hA hR w2 s1 h s2)
      unfold leaves at hl
      rw [hf] at hl
      cases hq : dearO K r.1 (some p) with
      | none => exact absurd hq hd
      | some n =>
        rw [hq] at hl
        dsimp only at hl
        split at hl
        · cases hl
        · split at hl <;> cases hl
  · intro hf
    unfold leaves
    rw [hf]
    rfl
/-- one less at least takes part -/
theorem leaves_I {K : KT} {r r1 : RuT} (hK : RunK K) (h : NtI K r.1 r.2) (hl : leaves K r = some r1) : NtI K r1.1 r1.2 ∧ cnN r1.1 (k_ny K) < cnN r.1 (k_ny K) ∧ ∀ n, r1.1 n = true → r.1 n = true := by
  obtain ⟨⟨w1, w2, w3, w4⟩, hA, hR, hB⟩ := hK
  unfold leaves at hl
  cases hq : dearO K r.1 (firstIx (k_np K) (short K r.2)) with
  | none => rw [hq] at hl; cases hl
  | some n =>
    rw [hq] at hl
    obtain ⟨d1, d2, -⟩ := dearO_take hq
    have i1 := leave1_I hA hB w3 d1 d2 h
    have c1 := cnN_off d2 (k_ny K)
    rw [if_pos d1] at c1
    have s1 : ∀ n', (leave1 K r n).1 n' = true → r.1 n' = true := fun n' hz => (offT_i.mp hz).2
    have c1' : cnN (leave1 K r n).1 (k_ny K) < cnN r.1 (k_ny K) := by show cnN (offT r.1 n) (k_ny K) < _; omega
    dsimp only at hl
    split at hl
    · cases hl; exact ⟨i1, c1', s1⟩
    · rename_i q hp
      split at hl
      · rename_i hz
        cases hl
        have hq2 := (w4 n d1).2.2.2 q hp
        have i2 := leave1_I hA hB w3 hq2 hz i1
        have c2 := cnN_off hz (k_ny K)
        rw [if_pos hq2] at c2
        exact ⟨i2, by show cnN (offT (leave1 K r n).1 q) (k_ny K) < _; omega, fun n' hz' => s1 n' (offT_i.mp hz').2⟩
      · cases hl; exact ⟨i1, c1', s1⟩
theorem outs_I {K : KT} (hK : RunK K) : ∀ (k : Nat) (r : RuT), NtI K r.1 r.2 → NtI K (outs K k r).1 (outs K k r).2 ∧ (∀ n, (outs K k r).1 n = true → r.1 n = true) ∧ (cnN r.1 (k_ny K) ≤ k → leaves K (outs K k r) = none)
  | 0, r, h => ⟨h, fun _ z => z, fun hc => by
      show leaves K r = none
      cases hl : leaves K r with
      | none => rfl
      | some r1 => have := (leaves_I hK h hl).2.1; omega⟩
  | k + 1, r, h => by
    unfold outs
    cases hl : leaves K r with
    | none => exact ⟨h, fun _ z => z, fun _ => hl⟩
    | some r1 =>
      obtain ⟨l1, l2, l3⟩ := leaves_I hK h hl
      obtain ⟨j1, j2, j3⟩ := outs_I hK k r1 l1
      exact ⟨j1, fun n z => l3 n (j2 n z), fun hc => j3 (by omega)⟩
theorem outK_I {K : KT} (hK : RunK K) : NtI K (outK K).1 (outK K).2 ∧ (∀ n, (outK K).1 n = true → takes0 K n = true) ∧ leaves K (outK K) = none := by
  obtain ⟨h1, h2, h3⟩ := outs_I hK 60 (takes0 K, net0 K (k_ny K)) (net0_I hK.2.1 hK.2.2.2 hK.1.2.2.1)
  exact ⟨h1, h2, h3 (Nat.le_trans (cnN_le _ _) hK.1.2.2.1)⟩
/-- an exposure that the reference asks for: a balance, and what it becomes more by -/
theorem nt64 {K : KT} {tk : Nat → Bool} {nt : Nat → Nat → Int32} {p m : Nat} (hK : RunK K) (h : NtI K tk nt) (hp : p < k_np K) (hm : m < 5) : (k_ba K p m).toInt64 + (nt p m - k_ba K p m).toInt64 = (nt p m).toInt64 := by
  obtain ⟨⟨w1, w2, w3, w4⟩, hA, hR, hB⟩ := hK
  have e := h p hp m hm
  have hb := hB p hp m hm
  have hd := dlI_b (tk := tk) (p := p) (m := m) hA w3 (Nat.le_refl _)
  have e1 : (nt p m - k_ba K p m).toInt = (nt p m).toInt - (k_ba K p m).toInt := t32_sub (by omega) (by omega)
  refine Int64.toInt_inj.mp ?_
  rw [t64_add (by rw [i64_toInt, i64_toInt, e1]; omega) (by rw [i64_toInt, i64_toInt, e1]; omega), i64_toInt, i64_toInt, i64_toInt, e1]
  omega
