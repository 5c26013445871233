/-! what the law holds between two calls: the desk at X, the reference at X + 292, out at X + 340 -/
theorem EvX.mono {g : GG} {d m bc bs : Nat} {args : List Value} {M : Mem} {Q Q' : Option Value → Mem → Prop} {XQ XQ' : String → Mem → Prop} (h : EvX g d m bc bs args M Q XQ) (hq : ∀ v M1, Q v M1 → Q' v M1) (hx : ∀ E M1, XQ E M1 → XQ' E M1) : EvX g d m bc bs args M Q' XQ' := by
  intro p e ha hc hk s mi ar be hf hp ht hk2
  obtain ⟨k, o, h1, h2, h3, h4⟩ := h p e ha hc hk s mi ar be hf hp ht hk2
  refine ⟨k, o, h1, h2, h3, ?_⟩
  rcases h4 with ⟨⟨v, M1, z1, z2, z3⟩, h5⟩ | ⟨q, z0, E, ce, L, ⟨M1, z1, z2⟩, z3⟩
  · exact Or.inl ⟨⟨v, M1, z1, hq v M1 z2, z3⟩, h5⟩
  · exact Or.inr ⟨q, z0, E, ce, L, ⟨M1, hx E M1 z1, z2⟩, z3⟩
theorem RowL.sam {S S1 : ShT} {r a n : Nat} (h : RowL S r a n) (hr : SamS S S1 r (r + 1)) (ha : SamS S S1 a (a + 1)) : RowL S1 r a n := by
  obtain ⟨h1, h2, h3, h4, h5⟩ := h
  have r0 := hr r (Nat.le_refl _) (by omega)
  have a0 := ha a (Nat.le_refl _) (by omega)
  exact ⟨by rw [r0.1]; exact h1, by rw [r0.2.2.1]; exact h2, by rw [a0.1]; exact h3, by rw [a0.2.1]; exact h4, h5⟩
theorem BrL.sam {S S1 : ShT} {r a n : Nat} (h : BrL S r a n) (hr : SamS S S1 r (r + 1)) (ha : SamS S S1 a (a + 1)) : BrL S1 r a n := by
  obtain ⟨h1, h2, h3, h4, h5⟩ := h
  have r0 := hr r (Nat.le_refl _) (by omega)
  have a0 := ha a (Nat.le_refl _) (by omega)
  exact ⟨by rw [r0.1]; exact h1, by rw [r0.2.2.1]; exact h2, by rw [a0.1]; exact h3, by rw [a0.2.1]; exact h4, h5⟩
theorem NtL.sam {S S1 : ShT} {N B : Nat} (h : NtL S N B) (hr : SamS S S1 N (N + 1)) : NtL S1 N B := by
  have r0 := hr N (Nat.le_refl _) (by omega)
  exact ⟨by rw [r0.1]; exact h.1, by rw [r0.2.2.1]; exact h.2⟩
theorem BkL.sam {S S1 : ShT} {B : Nat} (h : BkL S B) (hs : SamS S S1 B (B + 139)) : BkL S1 B := by
  obtain ⟨⟨h1, h2, h3, h4, h5, h6, h7, h8, h9, h10⟩, hp, hm, hy⟩ := h
  have e0 := hs B (by omega) (by omega)
  have e1 := hs (B + 1) (by omega) (by omega)
  have e2 := hs (B + 2) (by omega) (by omega)
  have e3 := hs (B + 3) (by omega) (by omega)
  refine ⟨⟨by rw [e0.1]; exact h1, by rw [e0.2.2.1]; exact h2, by rw [e0.2.2.1]; exact h3, by rw [e0.2.2.1]; exact h4, by rw [e1.1]; exact h5, by rw [e1.2.1]; exact h6, by rw [e2.1]; exact h7, by rw [e2.2.1]; exact h8, by rw [e3.1]; exact h9, by rw [e3.2.1]; exact h10⟩, fun p hp' => ?_, fun m hm' => ?_, fun n hn' => ?_⟩
  · obtain ⟨⟨q1, q2, q3, q4, q5⟩, q6, q7, q8⟩ := hp p hp'
    have ep := hs (pa B p) (by unfold pa; omega) (by unfold pa; omega)
    exact ⟨⟨by rw [e1.2.2.2]; exact q1, by rw [ep.1]; exact q2, by rw [ep.2.2.1]; exact q3, by rw [ep.2.2.1]; exact q4, by rw [ep.2.2.1]; exact q5⟩, q6.sam (hs.sub (by unfold pa; omega) (by unfold pa; omega)) (hs.sub (by unfold pa; omega) (by unfold pa; omega)), q7.sam (hs.sub (by unfold pa; omega) (by unfold pa; omega)) (hs.sub (by unfold pa; omega) (by unfold pa; omega)), q8.sam (hs.sub (by unfold pa; omega) (by unfold pa; omega)) (hs.sub (by unfold pa; omega) (by unfold pa; omega))⟩
  · have em := hs (ma B m) (by unfold ma; omega) (by unfold ma; omega)
    exact ⟨by rw [e2.2.2.2]; exact (hm m hm').1, by rw [em.1]; exact (hm m hm').2⟩
  · have en := hs (ya B n) (by unfold ya; omega) (by unfold ya; omega)
    exact ⟨by rw [e3.2.2.2]; exact (hy n hn').1, by rw [en.1]; exact (hy n hn').2⟩
theorem DkL.sam {S S1 : ShT} {X : Nat} (h : DkL S X) (hs : SamS S S1 X (X + 292)) : DkL S1 X := by
  obtain ⟨⟨h0, h1, h2, h3, h4, h5, h6, h7, h8, h9⟩, q1, q2, q3, q4, q5, q6, q7⟩ := h
  have e0 := hs X (by omega) (by omega)
  exact ⟨⟨by rw [e0.1]; exact h0, by rw [e0.2.2.1]; exact h1, by rw [e0.2.2.1]; exact h2, by rw [e0.2.2.1]; exact h3, by rw [e0.2.2.1]; exact h4, by rw [e0.2.2.1]; exact h5, by rw [e0.2.2.1]; exact h6, by rw [e0.2.2.1]; exact h7, by rw [e0.2.2.1]; exact h8, by rw [e0.2.2.1]; exact h9⟩, q1.sam (hs.sub (by omega) (by omega)) (hs.sub (by omega) (by omega)), q2.sam (hs.sub (by omega) (by omega)) (hs.sub (by omega) (by omega)), q3.sam (hs.sub (by omega) (by omega)), q4.sam (hs.sub (by omega) (by omega)), q5.sam (hs.sub (by omega) (by omega)), q6.sam (hs.sub (by omega) (by omega)), q7.sam (hs.sub (by omega) (by omega)) (hs.sub (by omega) (by omega))⟩
theorem TlL.sam {S S1 : ShT} {U : Nat} (h : TlL S U) (hs : SamS S S1 U (U + 1)) : TlL S1 U := by
  have e0 := hs U (by omega) (by omega)
  exact ⟨by rw [e0.1]; exact h.1, by rw [e0.2.2.1]; exact h.2⟩
theorem TxL.sam {S S1 : ShT} {Z : Nat} (h : TxL S Z) (hs : SamS S S1 Z (Z + 6)) : TxL S1 Z := by
  obtain ⟨⟨h0, h1, h2, h3, h4, h5, h6, h7, h8, h9, h10⟩, q⟩ := h
  have e0 := hs Z (by omega) (by omega)
  have e3 := hs (Z + 3) (by omega) (by omega)
  have e4 := hs (Z + 4) (by omega) (by omega)
  have e5 := hs (Z + 5) (by omega) (by omega)
  exact ⟨⟨by rw [e0.1]; exact h0, by rw [e0.2.2.1]; exact h1, by rw [e0.2.2.1]; exact h2, by rw [e0.2.2.1]; exact h3, by rw [e0.2.2.1]; exact h4, by rw [e3.1]; exact h5, by rw [e3.2.1]; exact h6, by rw [e4.1]; exact h7, by rw [e4.2.1]; exact h8, by rw [e5.1]; exact h9, by rw [e5.2.1]; exact h10⟩, q.sam (hs.sub (by omega) (by omega)) (hs.sub (by omega) (by omega))⟩
/-- the class's part -/
def DkR (D : DaT) (X : Nat) (K : KT) (T P : List Nat) (e : Int32) : Prop := RepC D (X + 11) K ∧ BrR D (X + 3) T ∧ BrR D (X + 8) P ∧ d_fi D 297 X = e ∧ T.length ≤ 2000 ∧ P.length ≤ 2160
def OutX (X : Nat) (D D1 : DaT) : Prop := ∀ a, a ≠ X + 340 → (a < X ∨ X + 292 ≤ a) → Same D D1 a
theorem OutX.rf {X : Nat} {D : DaT} : OutX X D D := fun _ _ _ => ⟨fun _ => rfl, fun _ => rfl, rfl, rfl⟩
theorem OutX.tr {X : Nat} {D D1 D2 : DaT} (h : OutX X D D1) (h2 : OutX X D1 D2) : OutX X D D2 := fun a h3 h4 => (h a h3 h4).tr (h2 a h3 h4)
theorem OutX.o {X lo hi : Nat} {D D1 : DaT} (h : Out lo hi D D1) (h1 : X ≤ lo ∧ hi ≤ X + 292) : OutX X D D1 := fun a _ h4 => h a (by omega)
theorem OutX.out {X : Nat} {D : DaT} {v : Int64} : OutX X D (pal D (X + 340) 0 v) := fun a h3 _ => Out.al (lo := X + 340) (hi := X + 341) (by omega) a (by omega)
theorem DkR.out {D D1 : DaT} {X : Nat} {K : KT} {T P : List Nat} {e : Int32} (hW : WfK K) (h : DkR D X K T P e) (hs : ∀ a, X ≤ a → a < X + 292 → Same D D1 a) : DkR D1 X K T P e := by
  obtain ⟨h1, h2, h3, h4, h5⟩ := h
  have hR : RepC D1 (X + 11) K := by
    obtain ⟨w1, w2, w3, -⟩ := hW
    obtain ⟨r0, rp, rm, ry⟩ := h1
    refine ⟨?_, fun p hpp => ⟨?_, fun m hmm => ?_⟩, fun m hmm => ?_, fun n hn => ?_⟩
    · have e1 := hs (X + 11) (by omega) (by omega)
      simp only [e1.1]
      exact r0
    · have e1 := hs (pa (X + 11) p) (by unfold pa; omega) (by unfold pa; omega)
      rw [e1.1, e1.1, e1.2.1]
      exact (rp p hpp).1
    · have e1 := hs (pa (X + 11) p + 2) (by unfold pa; omega) (by unfold pa; omega)
      have e2 := hs (pa (X + 11) p + 4) (by unfold pa; omega) (by unfold pa; omega)
      rw [e1.2.2.1, e2.2.2.1]
      exact (rp p hpp).2 m hmm
    · have e1 := hs (ma (X + 11) m) (by unfold ma; omega) (by unfold ma; omega)
      rw [e1.1, e1.1, e1.2.1]
      exact rm m hmm
    · have e1 := hs (ya (X + 11) n) (by unfold ya; omega) (by unfold ya; omega)
      simp only [e1.1]
      exact ry n hn
  have hb : ∀ r T, X ≤ r → r + 2 ≤ X + 292 → BrR D r T → BrR D1 r T := fun r T a1 a2 hB => ⟨by rw [(hs r (by omega) (by omega)).1]; exact hB.1, by rw [(hs (r + 1) (by omega) (by omega)).2.2.1]; exact hB.2.1, hB.2.2⟩
  exact ⟨hR, hb _ _ (by omega) (by omega) h2, hb _ _ (by omega) (by omega) h3, by rw [(hs X (by omega) (by omega)).1]; exact h4, h5⟩
/-- all of it; sc the script's ints, N how many -/
def LawS (g : GG) (sc : Nat → Int32) (N : Nat) (S : ShT) (D : DaT) (X A A2 : Nat) (K : KT) (T P : List Nat) (e : Int32) (c : Nat) : Prop :=
  (DkL S X) ∧ (TlL S (X + 1)) ∧ (TxL S (X + 2)) ∧ (gKa g < X) ∧ (gSa g < X) ∧ (KwL g S D) ∧ (InvK K c) ∧ (DkR D X K T P e) ∧ (MoL S (X + 292) A A2) ∧ (RmR D (X + 292) A K T P e) ∧ (s_tg S (X + 340) = 21 ∧ s_ln S (X + 340) = 1) ∧ (X + 341 ≤ s_sz S) ∧ (s_tg S (gSa g) = 40 ∧ s_ln S (gSa g) = N ∧ N ≤ 3072) ∧ (∀ j, j < N → d_ai D (gSa g) j = sc j)
theorem LawS.hX {g : GG} {sc : Nat → Int32} {N : Nat} {S : ShT} {D : DaT} {X A A2 : Nat} {K : KT} {T P : List Nat} {e : Int32} {c : Nat} (h : LawS g sc N S D X A A2 K T P e c) : DkL S X := h.1
theorem LawS.hU {g : GG} {sc : Nat → Int32} {N : Nat} {S : ShT} {D : DaT} {X A A2 : Nat} {K : KT} {T P : List Nat} {e : Int32} {c : Nat} (h : LawS g sc N S D X A A2 K T P e c) : TlL S (X + 1) := h.2.1
theorem LawS.hZ {g : GG} {sc : Nat → Int32} {N : Nat} {S : ShT} {D : DaT} {X A A2 : Nat} {K : KT} {T P : List Nat} {e : Int32} {c : Nat} (h : LawS g sc N S D X A A2 K T P e c) : TxL S (X + 2) := h.2.2.1
theorem LawS.hg {g : GG} {sc : Nat → Int32} {N : Nat} {S : ShT} {D : DaT} {X A A2 : Nat} {K : KT} {T P : List Nat} {e : Int32} {c : Nat} (h : LawS g sc N S D X A A2 K T P e c) : gKa g < X := h.2.2.2.1
theorem LawS.hgs {g : GG} {sc : Nat → Int32} {N : Nat} {S : ShT} {D : DaT} {X A A2 : Nat} {K : KT} {T P : List Nat} {e : Int32} {c : Nat} (h : LawS g sc N S D X A A2 K T P e c) : gSa g < X := h.2.2.2.2.1
theorem LawS.hKw {g : GG} {sc : Nat → Int32} {N : Nat} {S : ShT} {D : DaT} {X A A2 : Nat} {K : KT} {T P : List Nat} {e : Int32} {c : Nat} (h : LawS g sc N S D X A A2 K T P e c) : KwL g S D := h.2.2.2.2.2.1
theorem LawS.hI {g : GG} {sc : Nat → Int32} {N : Nat} {S : ShT} {D : DaT} {X A A2 : Nat} {K : KT} {T P : List Nat} {e : Int32} {c : Nat} (h : LawS g sc N S D X A A2 K T P e c) : InvK K c := h.2.2.2.2.2.2.1
theorem LawS.hD {g : GG} {sc : Nat → Int32} {N : Nat} {S : ShT} {D : DaT} {X A A2 : Nat} {K : KT} {T P : List Nat} {e : Int32} {c : Nat} (h : LawS g sc N S D X A A2 K T P e c) : DkR D X K T P e := h.2.2.2.2.2.2.2.1
theorem LawS.hY {g : GG} {sc : Nat → Int32} {N : Nat} {S : ShT} {D : DaT} {X A A2 : Nat} {K : KT} {T P : List Nat} {e : Int32} {c : Nat} (h : LawS g sc N S D X A A2 K T P e c) : MoL S (X + 292) A A2 := h.2.2.2.2.2.2.2.2.1
theorem LawS.hM {g : GG} {sc : Nat → Int32} {N : Nat} {S : ShT} {D : DaT} {X A A2 : Nat} {K : KT} {T P : List Nat} {e : Int32} {c : Nat} (h : LawS g sc N S D X A A2 K T P e c) : RmR D (X + 292) A K T P e := h.2.2.2.2.2.2.2.2.2.1
theorem LawS.hO {g : GG} {sc : Nat → Int32} {N : Nat} {S : ShT} {D : DaT} {X A A2 : Nat} {K : KT} {T P : List Nat} {e : Int32} {c : Nat} (h : LawS g sc N S D X A A2 K T P e c) : s_tg S (X + 340) = 21 ∧ s_ln S (X + 340) = 1 := h.2.2.2.2.2.2.2.2.2.2.1
theorem LawS.hz {g : GG} {sc : Nat → Int32} {N : Nat} {S : ShT} {D : DaT} {X A A2 : Nat} {K : KT} {T P : List Nat} {e : Int32} {c : Nat} (h : LawS g sc N S D X A A2 K T P e c) : X + 341 ≤ s_sz S := h.2.2.2.2.2.2.2.2.2.2.2.1
theorem LawS.hS {g : GG} {sc : Nat → Int32} {N : Nat} {S : ShT} {D : DaT} {X A A2 : Nat} {K : KT} {T P : List Nat} {e : Int32} {c : Nat} (h : LawS g sc N S D X A A2 K T P e c) : s_tg S (gSa g) = 40 ∧ s_ln S (gSa g) = N ∧ N ≤ 3072 := h.2.2.2.2.2.2.2.2.2.2.2.2.1
theorem LawS.hs {g : GG} {sc : Nat → Int32} {N : Nat} {S : ShT} {D : DaT} {X A A2 : Nat} {K : KT} {T P : List Nat} {e : Int32} {c : Nat} (h : LawS g sc N S D X A A2 K T P e c) : ∀ j, j < N → d_ai D (gSa g) j = sc j := h.2.2.2.2.2.2.2.2.2.2.2.2.2
/-- memory of more cells -/
def gz (S : ShT) (k : Nat) : ShT := (s_sz S + k, s_tg S, s_ln S, s_fr S, s_ar S)
theorem gz_opq {S : ShT} {D : DaT} {k : Nat} : w_opq (md S D) k = md (gz S k) D := rfl
theorem gz_z {S : ShT} : gz S 0 = S := rfl
/-- what a call of the desk does -/
def CalP (S : ShT) (D : DaT) (X : Nat) (K : KT) (T P : List Nat) (e : Int32) (p : Except String Int32) : Option Value → Mem → Prop := fun v M1 => ∃ D1 r, p = .ok r ∧ v = some (.int r) ∧ M1 = md S D1 ∧ DkR D1 X K T P e ∧ OutX X D D1
def CalX (S : ShT) (D : DaT) (X : Nat) (K : KT) (T P : List Nat) (e : Int32) (p : Except String Int32) : String → Mem → Prop := fun E M1 => ∃ D1 k, p = .error E ∧ M1 = md (gz S k) D1 ∧ DkR D1 X K T P e ∧ OutX X D D1
def codeP (L : List String) (p : Except String Int32) : Int32 := match p with | .ok _ => 0 | .error E => cod L E
/-- and with it the law's own method around it -/
def WraP (S : ShT) (D : DaT) (X : Nat) (K : KT) (T P : List Nat) (e : Int32) (L : List String) (p : Except String Int32) : Option Value → Mem → Prop := fun v M1 => ∃ D1 k, v = some (.int (codeP L p)) ∧ M1 = md (gz S k) D1 ∧ DkR D1 X K T P e ∧ OutX X D D1 ∧ ∀ r, p = .ok r → d_al D1 (X + 340) 0 = r.toInt64
theorem WraP.ok {S : ShT} {D D1 : DaT} {X : Nat} {K : KT} {T P : List Nat} {e r : Int32} {L : List String} {p : Except String Int32} (hW : WfK K) (hp : p = .ok r) (h : DkR D1 X K T P e) (ho : OutX X D D1) : WraP S D X K T P e L p (some (.int 0)) (md S (pal D1 (X + 340) 0 r.toInt64)) := by
  refine ⟨_, 0, by rw [hp]; rfl, rfl, h.out hW (fun a h1 h2 => ?_), ho.tr OutX.out, fun r' h' => ?_⟩
  · exact Out.al (lo := X + 340) (hi := X + 341) (by omega) a (by omega)
  · cases hp.symm.trans h'
    simp [pal, d_al, up2]
theorem WraP.no {S : ShT} {D : DaT} {X : Nat} {K : KT} {T P : List Nat} {e x : Int32} {L : List String} {p : Except String Int32} {E : String} {M1 : Mem} (h : CalX S D X K T P e p E M1) (hx : x = cod L E) : WraP S D X K T P e L p (some (.int x)) M1 := by
  obtain ⟨D1, k, h1, h2, h3, h4⟩ := h
  exact ⟨D1, k, by rw [h1, hx]; rfl, h2, h3, h4, fun r hr => by rw [h1] at hr; cases hr⟩
/-- a step of the law's loop: the desk's call, then the reference's -/
theorem LawS.step {g : GG} {sc : Nat → Int32} {N : Nat} {S S2 : ShT} {D D1 D2 : DaT} {X A A2 A' A2' k k2 : Nat} {K K' : KT} {T P T' P' : List Nat} {e e' : Int32} {c c' : Nat} (h : LawS g sc N S D X A A2 K T P e c)
    (hI : InvK K' c') (hd : DkR D1 X K' T' P' e') (ho : OutX X D D1) (hg : GroY (gz S k) S2 k2 (X + 292)) (hY : MoL S2 (X + 292) A' A2') (hr : OutR (gz S k) (X + 292) D1 D2) (hm : RmR D2 (X + 292) A' K' T' P' e') : LawS g sc N S2 D2 X A' A2' K' T' P' e' c' := by
  obtain ⟨h1, h2, h3, h4, h5, h6, h7, h8, h9, h10, h11, h12, ⟨h13, h13b, h13c⟩, h14⟩ := h
  have hz : s_sz S2 = s_sz S + k + k2 := hg.1
  have hsa : ∀ lo hi, hi ≤ X + 292 → SamS S S2 lo hi := fun lo hi hh a a1 a2 => by
    obtain ⟨⟨q1, q2, q3⟩, q4⟩ := hg.2 a (by show a < s_sz S + k; omega)
    exact ⟨q1, q2, q4 (by omega), q3⟩
  have hD : ∀ a, a < X + 292 → Same D1 D2 a := fun a ha => hr a (by show a < s_sz S + k; omega) (Or.inl ha)
  have eK := hsa (gKa g) (gKa g + 1) (by omega) _ (Nat.le_refl _) (by omega)
  have eS := hsa (gSa g) (gSa g + 1) (by omega) _ (Nat.le_refl _) (by omega)
  have dK : Same D D2 (gKa g) := (ho _ (by omega) (Or.inl h4)).tr (hD _ (by omega))
  have dS : Same D D2 (gSa g) := (ho _ (by omega) (Or.inl h5)).tr (hD _ (by omega))
  have eO := hg.2 (X + 340) (by show X + 340 < s_sz S + k; omega)
  exact ⟨h1.sam (hsa _ _ (by omega)), h2.sam (hsa _ _ (by omega)), h3.sam (hsa _ _ (by omega)), h4, h5, ⟨by rw [eK.1]; exact h6.1, by rw [eK.2.1]; exact h6.2.1, by rw [dK.2.2.2]; exact h6.2.2⟩, hI, hd.out hI.1 (fun a a1 a2 => hD a (by omega)), hY, hm, ⟨eO.1.1.trans h11.1, eO.1.2.1.trans h11.2⟩, by omega, ⟨eS.1.trans h13, eS.2.1.trans h13b, h13c⟩, by rw [dS.2.2.1]; exact h14⟩
/-- what the reference's call finds -/
theorem LawS.ref {g : GG} {sc : Nat → Int32} {N : Nat} {S : ShT} {D D1 : DaT} {X A A2 : Nat} {K : KT} {T P : List Nat} {e : Int32} {c : Nat} (h : LawS g sc N S D X A A2 K T P e c) (ho : OutX X D D1) : RmR D1 (X + 292) A K T P e := by
  have hl := h.hY.lo
  have hs : ∀ a, X + 292 ≤ a → a < X + 340 → Same D D1 a := fun a a1 a2 => ho a (by omega) (Or.inr a1)
  refine h.hM.keep (h.hM.1.same (fun k => (hs A (by omega) (by omega)).1 k) (fun r h1 h2 => ⟨(hs (A + r) (by omega) (by omega)).2.2.1, (hs (A + r) (by omega) (by omega)).2.2.2⟩)) (fun k _ _ => (hs _ (by omega) (by omega)).1 k) (fun r _ _ => ⟨(hs _ (by omega) (by omega)).2.2.1, (hs _ (by omega) (by omega)).2.2.2⟩)
section USES
variable {g : GG} {d m bc bs : Nat} {args : List Value} {S : ShT} {D : DaT} {X : Nat} {K : KT} {T P : List Nat} {e : Int32}
theorem u_ask {p : Except String Int32} (hD : DkR D X K T P e) (h : EvX g d m bc bs args (md S D) (Ask (md S D) p) (AskX (md S D) p)) : EvX g d m bc bs args (md S D) (CalP S D X K T P e p) (CalX S D X K T P e p) :=
  h.mono (fun v M1 ⟨h1, r, h2, h3⟩ => ⟨D, r, h2, h3, h1, hD, OutX.rf⟩) (fun E M1 ⟨h1, k, h2⟩ => ⟨D, k, h1, h2, hD, OutX.rf⟩)
theorem u_da {p : Except String Int32} (hD : DkR D X K T P e) (h : EvX g d m bc bs args (md S D) (Da S D X K p) (AskX (md S D) p)) : EvX g d m bc bs args (md S D) (CalP S D X K T P e p) (CalX S D X K T P e p) :=
  h.mono (fun v M1 ⟨D1, r, h1, h2, h3, h4, h5⟩ => ⟨D1, r, h1, h2, h3, ⟨h4, hD.2.1.out h5 (by omega), hD.2.2.1.out h5 (by omega), by rw [(h5 X (by omega)).1]; exact hD.2.2.2.1, hD.2.2.2.2⟩, OutX.o h5 (by omega)⟩) (fun E M1 ⟨h1, k, h2⟩ => ⟨D, k, h1, h2, hD, OutX.rf⟩)
theorem u_do {p : Except String (Int32 × KT)} (hD : DkR D X K T P e) (h : EvX g d m bc bs args (md S D) (Do S D X p) (DoX S D X K p)) : EvX g d m bc bs args (md S D) (CalP S D X (ansK K p) T P e (ansV p)) (CalX S D X (ansK K p) T P e (ansV p)) :=
  h.mono (fun v M1 ⟨D1, r, K1, h1, h2, h3, h4, h5⟩ => ⟨D1, r, by rw [h1]; rfl, h2, h3, ⟨by rw [h1]; exact h4, hD.2.1.out h5 (by omega), hD.2.2.1.out h5 (by omega), by rw [(h5 X (by omega)).1]; exact hD.2.2.2.1, hD.2.2.2.2⟩, OutX.o h5 (by omega)⟩)
    (fun E M1 ⟨h1, D1, k, h2, h4, h5⟩ => ⟨D1, k, by rw [h1]; rfl, h2, ⟨by rw [h1]; exact h4, hD.2.1.out h5 (by omega), hD.2.2.1.out h5 (by omega), by rw [(h5 X (by omega)).1]; exact hD.2.2.2.1, hD.2.2.2.2⟩, OutX.o h5 (by omega)⟩)
theorem u_report {x : Int32} (hD : DkR D X K T P e) (hl : (repL K x).length ≤ 2160) (h : EvX g d m bc bs args (md S D) (fun v M1 => 0 ≤ x ∧ ∃ D1, v = some (.int (nI (repL K x).length)) ∧ M1 = md S D1 ∧ RepC D1 (X + 11) K ∧ BrR D1 (X + 8) (repL K x) ∧ Out (X + 8) (X + 10) D D1) (fun E M1 => ¬ 0 ≤ x ∧ E = eA ∧ ∃ k, M1 = w_opq (md S D) k)) :
    EvX g d m bc bs args (md S D) (CalP S D X K T (if 0 ≤ x then repL K x else P) e (if 0 ≤ x then .ok (nI (repL K x).length) else .error eA)) (CalX S D X K T (if 0 ≤ x then repL K x else P) e (if 0 ≤ x then .ok (nI (repL K x).length) else .error eA)) :=
  h.mono (fun v M1 ⟨h0, D1, h2, h3, h4, h5, h6⟩ => by
    rw [if_pos h0, if_pos h0]
    exact ⟨D1, _, rfl, h2, h3, ⟨h4, hD.2.1.out h6 (by omega), h5, by rw [(h6 X (by omega)).1]; exact hD.2.2.2.1, hD.2.2.2.2.1, hl⟩, OutX.o h6 (by omega)⟩) (fun E M1 ⟨h0, h1, k, h2⟩ => by
    rw [if_neg h0, if_neg h0]
    exact ⟨D, k, by rw [h1], h2, hD, OutX.rf⟩)
theorem u_byteAt {x : Int32} (hD : DkR D X K T P e) (h : EvX g d m bc bs args (md S D) (fun v M1 => M1 = md S D ∧ inB x P.length = true ∧ v = some (.int (nI (P.getD (iN x) 0)))) (fun E M1 => inB x P.length = false ∧ E = eB ∧ ∃ k, M1 = w_opq (md S D) k)) :
    EvX g d m bc bs args (md S D) (CalP S D X K T P e (if inB x P.length = true then .ok (nI (P.getD (iN x) 0)) else .error eB)) (CalX S D X K T P e (if inB x P.length = true then .ok (nI (P.getD (iN x) 0)) else .error eB)) :=
  h.mono (fun v M1 ⟨h0, h1, h2⟩ => by
    rw [if_pos h1]
    exact ⟨D, _, rfl, h2, h0, hD, OutX.rf⟩) (fun E M1 ⟨h0, h1, k, h2⟩ => by
    rw [if_neg (by rw [h0]; decide)]
    exact ⟨D, k, by rw [h1], h2, hD, OutX.rf⟩)
theorem u_trim {x : Int32} (hW : WfK K) (hD : DkR D X K T P e) (h : EvX g d m bc bs args (md S D) (fun v M1 => ∃ D1, inB x (T.length + 1) = true ∧ v = some (.int x) ∧ M1 = md S D1 ∧ BrR D1 (X + 3) (T.take (iN x)) ∧ Out (X + 3) (X + 5) D D1) (fun E M1 => inB x (T.length + 1) = false ∧ E = eA ∧ ∃ k, M1 = w_opq (md S D) k)) :
    EvX g d m bc bs args (md S D) (CalP S D X K (if inB x (T.length + 1) = true then T.take (iN x) else T) P e (if inB x (T.length + 1) = true then .ok x else .error eA)) (CalX S D X K (if inB x (T.length + 1) = true then T.take (iN x) else T) P e (if inB x (T.length + 1) = true then .ok x else .error eA)) :=
  h.mono (fun v M1 ⟨D1, h1, h2, h3, h5, h6⟩ => by
    rw [if_pos h1, if_pos h1]
    exact ⟨D1, _, rfl, h2, h3, ⟨hD.1.out hW h6 (by omega), h5, hD.2.2.1.out h6 (by omega), by rw [(h6 X (by omega)).1]; exact hD.2.2.2.1, by rw [List.length_take]; have := hD.2.2.2.2.1; omega, hD.2.2.2.2.2⟩, OutX.o h6 (by omega)⟩) (fun E M1 ⟨h0, h1, k, h2⟩ => by
    rw [if_neg (by rw [h0]; decide), if_neg (by rw [h0]; decide)]
    exact ⟨D, k, by rw [h1], h2, hD, OutX.rf⟩)
theorem u_feed {a b c0 f h0 : Int32} (hW : WfK K) (hD : DkR D X K T P e) (h : EvX g d m bc bs args (md S D) (fun v M1 => ∃ D1, T.length + 20 ≤ 2000 ∧ v = some (.int (nI (T.length + 20))) ∧ M1 = md S D1 ∧ BrR D1 (X + 3) (T ++ (b4 a ++ (b4 b ++ (b4 c0 ++ (b4 f ++ b4 h0))))) ∧ Out (X + 3) (X + 5) D D1) (fun E M1 => ¬ T.length + 20 ≤ 2000 ∧ E = eS ∧ ∃ k, M1 = w_opq (md S D) k)) :
    EvX g d m bc bs args (md S D) (CalP S D X K (if T.length + 20 ≤ 2000 then T ++ fed a b c0 f h0 else T) P e (if T.length + 20 ≤ 2000 then .ok (nI (T.length + 20)) else .error eS)) (CalX S D X K (if T.length + 20 ≤ 2000 then T ++ fed a b c0 f h0 else T) P e (if T.length + 20 ≤ 2000 then .ok (nI (T.length + 20)) else .error eS)) :=
  h.mono (fun v M1 ⟨D1, h1, h2, h3, h5, h6⟩ => by
    rw [if_pos h1, if_pos h1]
    exact ⟨D1, _, rfl, h2, h3, ⟨hD.1.out hW h6 (by omega), h5, hD.2.2.1.out h6 (by omega), by rw [(h6 X (by omega)).1]; exact hD.2.2.2.1, by rw [List.length_append, show (fed a b c0 f h0).length = 20 from rfl]; omega, hD.2.2.2.2.2⟩, OutX.o h6 (by omega)⟩) (fun E M1 ⟨h0, h1, k, h2⟩ => by
    rw [if_neg h0, if_neg h0]
    exact ⟨D, k, by rw [h1], h2, hD, OutX.rf⟩)
end USES
