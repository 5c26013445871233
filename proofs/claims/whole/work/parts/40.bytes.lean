/-! rows of bytes: the tape and the paper -/
def BrR (D : DaT) (r : Nat) (T : List Nat) : Prop := d_fi D 33 r = nI T.length ∧ (∀ i, i < T.length → d_ai D (r + 1) i &&& 255 = nI (T.getD i 0)) ∧ ∀ b ∈ T, b < 256
theorem BrR.out {D D1 : DaT} {r lo hi : Nat} {T : List Nat} (h : BrR D r T) (ho : Out lo hi D D1) (hd : hi ≤ r ∨ r + 2 ≤ lo) : BrR D1 r T := by
  obtain ⟨h1, h2, h3⟩ := h
  refine ⟨by rw [(ho r (by omega)).1, h1], fun i hi => ?_, h3⟩
  rw [(ho (r + 1) (by omega)).2.2.1]
  exact h2 i hi
theorem gD_l {l m : List Nat} {i : Nat} (h : i < l.length) : (l ++ m).getD i 0 = l.getD i 0 := by
  rw [List.getD_eq_getElem?_getD, List.getElem?_append_left h, ← List.getD_eq_getElem?_getD]
theorem gD_r {l m : List Nat} {i : Nat} (h : l.length ≤ i) : (l ++ m).getD i 0 = m.getD (i - l.length) 0 := by
  rw [List.getD_eq_getElem?_getD, List.getElem?_append_right h, ← List.getD_eq_getElem?_getD]
theorem BrR.app {D : DaT} {r : Nat} {T : List Nat} {x : Int32} (h : BrR D r T) : BrR (pfi (pai D (r + 1) T.length x.toInt8.toInt32) 33 r (nI (T.length + 1))) r (T ++ [lo8 x]) := by
  obtain ⟨h1, h2, h3⟩ := h
  refine ⟨by rw [rd_fi, if_pos ⟨rfl, rfl⟩, List.length_append]; rfl, fun i hi => ?_, fun b hb => ?_⟩
  · rw [List.length_append, List.length_singleton] at hi
    show d_ai (pai D (r + 1) T.length x.toInt8.toInt32) (r + 1) i &&& 255 = _
    rw [rd_ai]
    by_cases hz : i = T.length
    · rw [if_pos ⟨rfl, hz⟩, lo8_i8, hz, gD_r (Nat.le_refl _), Nat.sub_self]
      rfl
    · rw [if_neg (fun z => hz z.2), gD_l (by omega)]
      exact h2 i (by omega)
  · rcases List.mem_append.mp hb with hb | hb
    · exact h3 b hb
    · rw [List.mem_singleton.mp hb]; exact lo8_lt x
theorem Eg.cst {g : GG} {d m bc bs pc : Nat} {Z : ZT} {ls : LsT} {st st' : List Value} {M : Mem} (e : st = st') (k : Eg g d m bc bs Z pc ls st' M) : Eg g d m bc bs Z pc ls st M := e ▸ k
section BYTES
variable {g : GG} {d : Nat} {S : ShT} {D : DaT} {r n : Nat} {T : List Nat}
theorem c_Bapp {x : Int32} (h : BrL S r (r + 1) n) (hB : BrR D r T) (hn : T.length < n) : EvM g d mX1_append 0 0 [.ref r, .int x] (md S D) (fun v M1 => ∃ D1, v = none ∧ M1 = md S D1 ∧ BrR D1 r (T ++ [lo8 x]) ∧ Out r (r + 2) D D1) :=
  (c_B_app h hB.1 hn).mono (fun v M1 hz => ⟨_, hz.1, hz.2, hB.app, (Out.ai (by omega)).tr (Out.fi (by omega))⟩)
theorem c_app4 {x : Int32} (h : BrL S r (r + 1) n) (hB : BrR D r T) (hn : T.length + 4 ≤ n) : EvM g (d + 1) mX1_appendFour 0 0 [.ref r, .int x] (md S D) (fun v M1 => ∃ D1, v = none ∧ M1 = md S D1 ∧ BrR D1 r (T ++ b4 x) ∧ Out r (r + 2) D D1) := by
  have body : ∀ (s s' : Int32) (D1 : DaT) (T1 : List Nat) (Q : Option Value → Mem → Prop), ¬ s < 0 → s' = s + -8 → BrR D1 r T1 → T1.length < n → (∀ D2, BrR D2 r (T1 ++ [lo8 (ush x s)]) → Out r (r + 2) D1 D2 → Eg g (d + 1) mX1_appendFour 0 0 (Zr g Q) 3 [(0, .ref r), (1, .int x), (2, .int s')] [] (md S D2)) → Eg g (d + 1) mX1_appendFour 0 0 (Zr g Q) 3 [(0, .ref r), (1, .int x), (2, .int s)] [] (md S D1) := by
    intro s s' D1 T1 Q hs hs' hB1 hl k
    refine X_run rfl trivial ?_
    refine X_if_lt rfl (fun c => absurd c hs) (fun c => ?_)
    refine X_run rfl trivial ?_
    refine X_cV (args := [.int (ush x s)]) rfl (by decide) h.1 rfl rfl (Nat.le_of_ble_eq_true rfl) (c_Bapp h hB1 hl) ?_
    rintro _ _ ⟨D2, rfl, rfl, hB2, hO2⟩
    subst hs'
    refine X_run rfl trivial ?_
    exact k D2 hB2 hO2
  refine EvM.mk (by decide) (Nat.le_of_ble_eq_true rfl) ?_
  refine X_run rfl trivial ?_
  refine body 24 16 D T _ (by decide) rfl hB (by omega) (fun D1 hB1 hO1 => ?_)
  refine body 16 8 D1 _ _ (by decide) rfl hB1 (by simp; omega) (fun D2 hB2 hO2 => ?_)
  refine body 8 0 D2 _ _ (by decide) rfl hB2 (by simp; omega) (fun D3 hB3 hO3 => ?_)
  refine body 0 (-8) D3 _ _ (by decide) rfl hB3 (by simp; omega) (fun D4 hB4 hO4 => ?_)
  refine X_run rfl trivial ?_
  refine X_if_lt rfl (fun c => ?_) (fun c => absurd (show (-8 : Int32) < 0 by decide) c)
  rw [lo8_24, lo8_16, lo8_8, lo8_0, List.append_assoc, List.append_assoc, List.append_assoc] at hB4
  exact X_vret rfl rfl ⟨D4, rfl, rfl, hB4, ((hO1.tr hO2).tr hO3).tr hO4⟩
theorem sh_dn (k : Nat) : nI (8 * (k + 1)) - 8 = nI (8 * k) := by
  rw [show 8 * (k + 1) = 8 * k + 8 from rfl, ← nI_add, show nI 8 = 8 from rfl, Int32.add_sub_cancel]
theorem c_appW {w : List Nat} (h : BrL S r (r + 1) n) (hB : BrR D r T) (hw : ∀ b ∈ w, 1 ≤ b ∧ b < 256) (hl : w.length ≤ 8) (hn : T.length + 8 ≤ n) : EvM g (d + 1) mX1_appendWord 0 0 [.ref r, .long (asc w)] (md S D) (fun v M1 => ∃ D1, v = none ∧ M1 = md S D1 ∧ BrR D1 r (T ++ w) ∧ Out r (r + 2) D D1) := by
  have key : ∀ (k : Nat) (D1 : DaT) (T1 : List Nat), k ≤ 8 → BrR D1 r T1 → T1.length + k ≤ n → T1 ++ (dgs k (ascN w)).filter (fun b => b != 0) = T ++ w → Out r (r + 2) D D1 → Eg g (d + 1) mX1_appendWord 0 0 (Zr g (fun v M1 => ∃ D1, v = none ∧ M1 = md S D1 ∧ BrR D1 r (T ++ w) ∧ Out r (r + 2) D D1)) 3 [(0, .ref r), (1, .long (asc w)), (3, .int (nI (8 * k) - 8))] [] (md S D1) := by
    intro k
    induction k with
    | zero =>
      intro D1 T1 hk hB1 hl1 hT hO1
      rw [dgs, List.filter_nil, List.append_nil] at hT
      refine X_run rfl trivial ?_
      refine X_if_lt rfl (fun c => ?_) (fun c => absurd (show (nI (8 * 0) - 8 : Int32) < 0 by decide) c)
      exact X_vret rfl rfl ⟨D1, rfl, rfl, hT ▸ hB1, hO1⟩
    | succ k ih =>
      intro D1 T1 hk hB1 hl1 hT hO1
      rw [sh_dn]
      have hd : lsh (asc w) (nI (8 * k)) &&& 255 = nI (ascN w / 256 ^ k % 256) := by rw [lsh_lo (by omega), asc_nat w (fun b hb => (hw b hb).2) hl]
      have hlt : ascN w / 256 ^ k % 256 < 256 := Nat.mod_lt _ (by decide)
      have e0 : dgs (k + 1) (ascN w) = (ascN w / 256 ^ k % 256) :: dgs k (ascN w) := rfl
      rw [e0] at hT
      generalize ascN w / 256 ^ k % 256 = t at hd hlt hT
      have es : nI (8 * k) + -8 = nI (8 * k) - 8 := (Int32.sub_eq_add_neg _ _).symm
      refine X_run rfl trivial ?_
      refine X_if_lt rfl (fun c => no_neg c (by omega)) (fun c => ?_)
      refine X_run rfl trivial ?_
      refine Eg.cst (st' := [.int (nI t)]) (by rw [← hd]; rfl) (Eg.sub (ls' := [(0, .ref r), (1, .long (asc w)), (3, .int (nI (8 * k))), (4, .int (nI t))]) ?_ ⟨rfl, rfl, rfl, by rw [← hd]; rfl, trivial⟩)
      refine X_if_eq rfl (fun c2 => ?_) (fun c2 => ?_)
      · have ht : t = 0 := nI_inj (by omega) (by omega) c2
        subst ht
        refine X_run rfl ?_ ?_
        · simp [md_s, md_w, rget, r_a, r_b, r_c, r_i, r_l, es]
        try simp only [md_s, md_w, rget_some, r_a, r_b, r_c, r_i, r_l, r_nx, r_pc, Nat.reduceEqDiff, false_and, if_false, es]
        exact Eg.sub (ih D1 T1 (by omega) hB1 (by omega) hT hO1) ⟨rfl, rfl, rfl, trivial⟩
      · have ht : t ≠ 0 := fun z => c2 (by rw [z]; rfl)
        have hf : (t :: dgs k (ascN w)).filter (fun b => b != 0) = t :: (dgs k (ascN w)).filter (fun b => b != 0) := List.filter_cons_of_pos (by simp; exact ht)
        rw [hf] at hT
        refine X_run rfl trivial ?_
        refine X_cV (args := [.int (nI t)]) rfl (by decide) h.1 rfl rfl (Nat.le_of_ble_eq_true rfl) (c_Bapp h hB1 (by omega)) ?_
        rintro _ _ ⟨D2, rfl, rfl, hB2, hO2⟩
        rw [lo8_nI hlt] at hB2
        refine X_run rfl ?_ ?_
        · simp [md_s, md_w, rget, r_a, r_b, r_c, r_i, r_l, es]
        try simp only [md_s, md_w, rget_some, r_a, r_b, r_c, r_i, r_l, r_nx, r_pc, Nat.reduceEqDiff, false_and, if_false, es]
        exact Eg.sub (ih D2 (T1 ++ [t]) (by omega) hB2 (by simp; omega) (by rw [List.append_assoc]; exact hT) (hO1.tr hO2)) ⟨rfl, rfl, rfl, trivial⟩
  refine EvM.mk (by decide) (Nat.le_of_ble_eq_true rfl) ?_
  refine X_run rfl trivial ?_
  exact Eg.sub (key 8 D T (Nat.le_refl _) hB hn (by rw [dgs_asc w hw 8 hl]) Out.rf) ⟨rfl, rfl, rfl, trivial⟩
end BYTES
