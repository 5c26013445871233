/-! making a book -/
def par (S : ShT) (k a : Nat) (v : Option Nat) : ShT := (s_sz S, s_tg S, s_ln S, s_fr S, up2 (s_ar S) k a v)
theorem w_ar_md (S : ShT) (D : DaT) (k a : Nat) (v : Option Nat) : w_ar (md S D) k a v = md (par S k a v) D := rfl
theorem rd_ar {S : ShT} {k a k' a' : Nat} {v : Option Nat} : s_ar (par S k a v) k' a' = if k' = k ∧ a' = a then v else s_ar S k' a' := rfl
theorem Acc.par {S0 S : ShT} {D0 D : DaT} {o n k i : Nat} {v : Option Nat} (h : Acc S0 S D0 D o n) (ho : s_sz S0 ≤ k) : Acc S0 (par S k i v) D0 D o n := by
  obtain ⟨h1, h2, h3, h4⟩ := h
  refine ⟨h1, fun a ha => ⟨⟨(h2 a ha).1.1, (h2 a ha).1.2.1, ?_⟩, (h2 a ha).2⟩, h3, h4⟩
  rw [← (h2 a ha).1.2.2]
  funext q
  rw [rd_ar, if_neg (by omega)]
def BkH (S : ShT) (B : Nat) : Prop := s_tg S B = 1 ∧ s_fr S 0 B = some (B + 1) ∧ s_fr S 1 B = some (B + 2) ∧ s_fr S 2 B = some (B + 3) ∧ s_tg S (B + 1) = 23 ∧ s_ln S (B + 1) = 10 ∧ s_tg S (B + 2) = 24 ∧ s_ln S (B + 2) = 5 ∧ s_tg S (B + 3) = 25 ∧ s_ln S (B + 3) = 60
def PaL (S : ShT) (B p : Nat) : Prop := (s_ar S (B + 1) p = some (pa B p) ∧ s_tg S (pa B p) = 5 ∧ s_fr S 131 (pa B p) = some (pa B p + 1) ∧ s_fr S 132 (pa B p) = some (pa B p + 3) ∧ s_fr S 133 (pa B p) = some (pa B p + 5)) ∧ RowL S (pa B p + 1) (pa B p + 2) 5 ∧ RowL S (pa B p + 3) (pa B p + 4) 5 ∧ RowL S (pa B p + 5) (pa B p + 6) 5
def MaL (S : ShT) (B m : Nat) : Prop := s_ar S (B + 2) m = some (ma B m) ∧ s_tg S (ma B m) = 3
def YaL (S : ShT) (B n : Nat) : Prop := s_ar S (B + 3) n = some (ya B n) ∧ s_tg S (ya B n) = 6
theorem BkH.acc {S S1 : ShT} {D D1 : DaT} {o k B : Nat} (h : BkH S B) (hA : Acc S S1 D D1 o k) (h1 : B + 4 ≤ s_sz S) (h2 : o ≠ B) : BkH S1 B := by
  obtain ⟨q0, q1, q2, q3, q4, q5, q6, q7, q8, q9⟩ := h
  exact ⟨(hA.tg (by omega)).trans q0, (hA.fr (by omega) (Ne.symm h2)).trans q1, (hA.fr (by omega) (Ne.symm h2)).trans q2, (hA.fr (by omega) (Ne.symm h2)).trans q3, (hA.tg (by omega)).trans q4, (hA.ln (by omega)).trans q5, (hA.tg (by omega)).trans q6, (hA.ln (by omega)).trans q7, (hA.tg (by omega)).trans q8, (hA.ln (by omega)).trans q9⟩
theorem Acc.ar {S S1 : ShT} {D D1 : DaT} {o k a : Nat} (h : Acc S S1 D D1 o k) (h1 : a < s_sz S) : s_ar S1 a = s_ar S a := (h.2.1 a h1).1.2.2
theorem PaL.acc {S S1 : ShT} {D D1 : DaT} {o k B p : Nat} (h : PaL S B p) (hA : Acc S S1 D D1 o k) (h1 : pa B p + 7 ≤ s_sz S) (h2 : o < B ∨ pa B p + 7 ≤ o) : PaL S1 B p := by
  have hb : B + 4 ≤ pa B p := by unfold pa; omega
  obtain ⟨⟨q1, q2, q3, q4, q5⟩, q6, q7, q8⟩ := h
  exact ⟨⟨by rw [hA.ar (by omega)]; exact q1, (hA.tg (by omega)).trans q2, (hA.fr (by omega) (by omega)).trans q3, (hA.fr (by omega) (by omega)).trans q4, (hA.fr (by omega) (by omega)).trans q5⟩, q6.acc hA (by omega) (by omega), q7.acc hA (by omega) (by omega), q8.acc hA (by omega) (by omega)⟩
theorem PaL.par {S : ShT} {B p k i : Nat} {v : Option Nat} (h : PaL S B p) (hk : k ≠ B + 1 ∨ i ≠ p) : PaL (par S k i v) B p := by
  obtain ⟨⟨q1, q2⟩, q3⟩ := h
  exact ⟨⟨by rw [rd_ar, if_neg (by omega)]; exact q1, q2⟩, q3⟩
theorem MaL.acc {S S1 : ShT} {D D1 : DaT} {o k B m : Nat} (h : MaL S B m) (hA : Acc S S1 D D1 o k) (h1 : ma B m < s_sz S) : MaL S1 B m := by
  have hb : B + 74 ≤ ma B m := by unfold ma; omega
  exact ⟨by rw [hA.ar (by omega)]; exact h.1, (hA.tg h1).trans h.2⟩
theorem MaL.par {S : ShT} {B m k i : Nat} {v : Option Nat} (h : MaL S B m) (hk : k ≠ B + 2 ∨ i ≠ m) : MaL (par S k i v) B m := ⟨by rw [rd_ar, if_neg (by omega)]; exact h.1, h.2⟩
theorem YaL.acc {S S1 : ShT} {D D1 : DaT} {o k B n : Nat} (h : YaL S B n) (hA : Acc S S1 D D1 o k) (h1 : ya B n < s_sz S) : YaL S1 B n := by
  have hb : B + 79 ≤ ya B n := by unfold ya; omega
  exact ⟨by rw [hA.ar (by omega)]; exact h.1, (hA.tg h1).trans h.2⟩
theorem YaL.par {S : ShT} {B n k i : Nat} {v : Option Nat} (h : YaL S B n) (hk : k ≠ B + 3 ∨ i ≠ n) : YaL (par S k i v) B n := ⟨by rw [rd_ar, if_neg (by omega)]; exact h.1, h.2⟩
/-- a book half made -/
def InvB (S S1 : ShT) (D D1 : DaT) (B i j n : Nat) : Prop := Acc S S1 D D1 B (3 + 7 * i + j + n) ∧ BkH S1 B ∧ (∀ p, p < i → PaL S1 B p) ∧ (∀ m, m < j → MaL S1 B m) ∧ ∀ q, q < n → YaL S1 B q
section MKBOOK
variable {g : GG} {d : Nat} {S : ShT} {D : DaT} {B : Nat} {Z : ZT}
set_option maxRecDepth 20000 in
theorem bk_l1 (hz : s_sz S = B + 1) (k : ∀ S' D', InvB S S' D D' B 10 0 0 → Eg g (d + 3) mX0_init 65 615 Z 60 [(0, .ref B)] [] (md S' D')) : ∀ (r i : Nat) (S1 : ShT) (D1 : DaT), i + r = 10 → InvB S S1 D D1 B i 0 0 → Eg g (d + 3) mX0_init (7 * r + 65) (27 * r + 615) Z 32 [(0, .ref B), (1, .int (nI i))] [] (md S1 D1) := by
  intro r
  induction r with
  | zero =>
    intro i S1 D1 hi h
    obtain ⟨hA, hH, hp, hm, hy⟩ := id h
    have hh := hH
    unfold BkH at hh
    have hi : i = 10 := by omega
    subst hi
    refine X_run rfl ?_ ?_
    · simp [md_s, md_w, rget, r_a, r_b, r_c, r_i, r_l, hh]
    try simp only [md_s, md_w, rget_some, r_a, r_b, r_c, r_i, r_l, r_nx, r_pc, Nat.reduceEqDiff, false_and, if_false, hh]
    refine X_icmp_ge rfl (fun _ => ?_) (fun z => absurd (Int32.le_iff_toInt_le.mpr (Int.le_refl _)) z)
    exact Eg.sub (k _ _ h) ⟨rfl, trivial⟩
  | succ r ih =>
    intro i S1 D1 hi h
    obtain ⟨hA, hH, hp, hm, hy⟩ := id h
    have hh := hH
    unfold BkH at hh
    have hs := hA.1
    have x1 := vx (show i < 10 by omega) (by decide)
    refine X_run rfl ?_ ?_
    · simp [md_s, md_w, rget, r_a, r_b, r_c, r_i, r_l, hh]
    try simp only [md_s, md_w, rget_some, r_a, r_b, r_c, r_i, r_l, r_nx, r_pc, Nat.reduceEqDiff, false_and, if_false, hh]
    refine X_icmp_ge rfl (fun z => ?_) (fun _ => ?_)
    · rw [Int32.le_iff_toInt_le, nI_toInt (by omega), nI_toInt (by omega)] at z
      omega
    refine X_run rfl ?_ ?_
    · simp [md_s, md_w, rget, r_a, r_b, r_c, r_i, r_l, hh]
    try simp only [md_s, md_w, rget_some, r_a, r_b, r_c, r_i, r_l, r_nx, r_pc, Nat.reduceEqDiff, false_and, if_false, hh]
    refine Eg.cost (bc := 7 * r + 65 + 6 + 1) (bs := 27 * r + 615 + 18 + 9) ?_ (by omega) (by omega)
    refine X_new (n := 0) (N := 9) rfl (by decide) (fun q hq => by cases hq; rfl) ?_
    obtain ⟨Sa, Da, ea, hGa, hsa, hna, -, hAa⟩ := newA S1 D1 5 0
    rw [show w_new (md S1 D1) (4 + 1) 0 = md Sa Da from ea]
    refine X_run rfl trivial ?_
    refine X_callI (bc1 := 6) (bs1 := 18) (args := []) rfl (by decide) rfl rfl (Nat.le_of_ble_eq_true rfl) (c_mk4 hna.1 (by show s_sz S1 < s_sz Sa; omega)) ?_
    rintro _ _ ⟨Sb, Db, rfl, rfl, hAb, ⟨f1, f2, f3⟩, r1, r2, r3⟩
    have hAab : Acc S1 Sb D1 Db (s_sz S1) 7 := (hAa.call' hAb (Or.inl rfl)).trans' rfl
    have hHb := hH.acc hAab (by omega) (by omega)
    have tz : s_tg Sb (s_sz S1) = 5 := (hAb.tg (by omega)).trans hna.1
    have ez : s_sz S1 = pa B i := by unfold pa; omega
    have f1 : s_fr Sb 131 (s_sz S1) = some (s_sz Sa) := f1
    have f2 : s_fr Sb 132 (s_sz S1) = some (s_sz Sa + 2) := f2
    have f3 : s_fr Sb 133 (s_sz S1) = some (s_sz Sa + 4) := f3
    have hhb := hHb
    unfold BkH at hhb
    refine X_run rfl ?_ ?_
    · simp [md_s, md_w, rget, r_a, r_b, r_c, r_i, r_l, hhb, tz, x1, w_ar_md]
    try simp only [md_s, md_w, rget_some, r_a, r_b, r_c, r_i, r_l, r_nx, r_pc, Nat.reduceEqDiff, false_and, if_false, hhb, tz, x1, w_ar_md]
    have hI : InvB S (par Sb (B + 1) i (some (s_sz S1))) D Db B (i + 1) 0 0 := by
      refine ⟨((hA.call hAab (by omega)).par (by omega)).trans' (by omega), hHb, fun p hpp => ?_, fun m hm => absurd hm (Nat.not_lt_zero _), fun q hq => absurd hq (Nat.not_lt_zero _)⟩
      by_cases c : p = i
      · subst c
        rw [ez] at f1 f2 f3 tz ⊢
        rw [hsa, ez] at f1 f2 f3 r1 r2 r3
        exact ⟨⟨by rw [rd_ar, if_pos ⟨rfl, rfl⟩], tz, f1, f2, f3⟩, r1, r2, r3⟩
      · exact ((hp p (by omega)).acc hAab (by unfold pa; omega) (by unfold pa; omega)).par (Or.inr (by omega))
    have := ih (i + 1) _ _ (by omega) hI
    exact Eg.sub this ⟨rfl, congrArg (fun x => some (Value.int x)) (nI_plus i 1).symm, trivial⟩
end MKBOOK
