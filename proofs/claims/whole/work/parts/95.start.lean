/-! the law, from its entry to its loop -/
def K00 : KT := ((0, 0, 0, 0, 0), (fun _ => [], fun _ => 0, fun _ => false, fun _ _ => 0, fun _ _ => 0), (fun _ => [], fun _ => 0, fun _ => 0), (fun _ => 0, fun _ => 0, fun _ => 0, fun _ => 0, fun _ => 0, fun _ => none, fun _ => 0, fun _ => 0, fun _ => false))
theorem k00 : k_np K00 = 0 ∧ k_nm K00 = 0 ∧ k_ny K00 = 0 ∧ k_day K00 = 0 ∧ k_hr K00 = 0 := ⟨rfl, rfl, rfl, rfl, rfl⟩
theorem inv00 : InvK K00 0 := by
  have hn : ∀ {p : Nat} {C : Prop}, p < k_np K00 → C := fun h => absurd h (Nat.not_lt_zero _)
  exact ⟨⟨Nat.zero_le _, Nat.zero_le _, Nat.zero_le _, fun n h => absurd h (Nat.not_lt_zero _)⟩, ⟨fun p h => hn h, fun m h => absurd h (Nat.not_lt_zero _), fun n h => absurd h (Nat.not_lt_zero _)⟩, fun m h => absurd h (Nat.not_lt_zero _), ⟨fun p h => hn h, fun p h => hn h⟩, ⟨fun p h => hn h, fun p h => hn h⟩, Nat.zero_le _⟩
section START
variable {g : GG} {d : Nat} {S : ShT} {D : DaT} {X N : Nat} {sc : Nat → Int32}
set_option maxRecDepth 20000 in
theorem Law_start {Q : Option Value → Mem → Prop} (hQ : ∀ M, Q (some (.int 1)) M) (hz : s_sz S = X) (hg : gKa g < X) (hgs : gSa g < X) (hKw : KwL g S D) (hS : s_tg S (gSa g) = 40 ∧ s_ln S (gSa g) = N ∧ N ≤ 3072) (hs : ∀ j, j < N → d_ai D (gSa g) j = sc j) :
    Eg g (d + 12) mL_law (560 * 512 + 341) (5100 * 512 + 15105) (Zr g Q) 0 [(0, .ref (gSa g))] [] (md S D) := by
  refine Eg.cost (bc := 560 * 512 + 1 + 47 + 1 + 291 + 1) (bs := 5100 * 512 + 1 + 7659 + 15 + 7420 + 10) ?_ (by omega) (by omega)
  refine X_new (n := 0) (N := 10) rfl (by decide) (fun q hq => by cases hq; rfl) ?_
  obtain ⟨Sa, Da, ea, -, hsa, hna, -, hAa⟩ := newA S D 10 0
  rw [show w_new (md S D) (9 + 1) 0 = md Sa Da from ea, show m_sz (md S D) = X from hz]
  rw [hz] at hsa hna hAa
  refine X_run rfl trivial ?_
  refine X_callI (bc1 := 291) (bs1 := 7420) (args := []) rfl (by decide) rfl rfl (Nat.le_of_ble_eq_true rfl) (c_mk9 (d := d + 5) hna.1 hsa) ?_
  rintro _ _ ⟨S1, D1, rfl, rfl, hA1, hX1, hU1, hZ1⟩
  have z1 : s_sz S1 = X + 292 := by have := hA1.1; omega
  have hD1 : ∀ q a, X < a → a < X + 292 → d_fi (pfi D1 297 X (-1)) q a = 0 := fun q a h1 h2 => by
    rw [rd_fi, if_neg (by omega)]
    exact hA1.2.2.2 a (by omega) (by omega) q
  have hD1X : d_fi (pfi D1 297 X (-1)) 297 X = -1 := by rw [rd_fi, if_pos ⟨rfl, rfl⟩]
  have hlo1 : ∀ a, a < X → d_ai (pfi D1 297 X (-1)) a = d_ai D a ∧ d_al (pfi D1 297 X (-1)) a = d_al D a := fun a ha => by
    have h1 := hAa.2.2.1 a (by omega)
    have h2 := hA1.2.2.1 a (by omega)
    exact ⟨h2.2.2.1.trans h1.2.2.1, h2.2.2.2.trans h1.2.2.2⟩
  have hsl1 : ∀ a, a < X → s_tg S1 a = s_tg S a ∧ s_ln S1 a = s_ln S a := fun a ha => ⟨(hA1.tg (by omega)).trans (hAa.tg (by omega)), (hA1.ln (by omega)).trans (hAa.ln (by omega))⟩
  generalize pfi D1 297 X (-1) = D1' at *
  refine X_run rfl trivial ?_
  refine X_new (n := 0) (N := 15) rfl (by decide) (fun q hq => by cases hq; rfl) ?_
  obtain ⟨Sc, Dc, ec, -, hsc, hnc, -, hAc⟩ := newA S1 D1' 12 0
  rw [show w_new (md S1 D1') (11 + 1) 0 = md Sc Dc from ec, show m_sz (md S1 D1') = X + 292 from z1]
  rw [z1] at hsc hnc hAc
  refine X_run rfl trivial ?_
  refine X_callI (bc1 := 47) (bs1 := 7659) (args := []) rfl (by decide) rfl rfl (Nat.le_of_ble_eq_true rfl) (c_mk11 (d := d + 5) hnc.1 hsc) ?_
  rintro _ _ ⟨S2, D2, rfl, rfl, hA2, hY2, hK2⟩
  have z2 : s_sz S2 = X + 340 := by have := hA2.1; omega
  have hD2 : ∀ a, a < X + 292 → Same D1' D2 a := fun a ha => by
    have h1 := hAc.2.2.1 a (by omega)
    have h2 := hA2.2.2.1 a (by omega)
    exact ⟨fun q => by rw [h2.1 q, rd_fi, if_neg (by omega)]; exact h1.1 q, fun q => (h2.2.1 q).trans (h1.2.1 q), h2.2.2.1.trans h1.2.2.1, h2.2.2.2.trans h1.2.2.2⟩
  have hY0 : ∀ q, d_fi D2 q (X + 292) = if q = 355 then -1 else 0 := fun q => by
    rw [(hA2.2.2.1 (X + 292) (by omega)).1 q, rd_fi]
    by_cases c : q = 355
    · rw [if_pos ⟨c, rfl⟩, if_pos c]
    · rw [if_neg (fun z => c z.1), if_neg c]
      exact hAc.2.2.2 (X + 292) (by omega) (by omega) q
  have hA0 : ∀ q, d_fi D2 q (X + 292 + 8) = 0 := fun q => hA2.2.2.2 (X + 292 + 8) (by omega) (by omega) q
  refine X_run rfl trivial ?_
  refine X_newarray (a := 1) (N := 1) rfl (by decide) rfl (by decide) ?_
  obtain ⟨S3, D3, e3, -, hs3, hn3, -, hA3⟩ := newA S2 D2 21 1
  rw [show w_new (md S2 D2) (1 + 20) 1 = md S3 D3 from e3, show m_sz (md S2 D2) = X + 340 from z2]
  rw [z2] at hs3 hn3 hA3
  have hD3 : ∀ a, a < X + 340 → Same D2 D3 a := fun a ha => hA3.2.2.1 a (by omega)
  have sam : ∀ lo hi, hi ≤ X + 292 → SamS S1 S3 lo hi := fun lo hi h1 => ((hAc.sam (by omega) (by omega)).tr (hA2.sam (by omega) (by omega))).tr (hA3.sam (by omega) (by omega))
  have hF : ∀ q a, X < a → a < X + 292 → d_fi D3 q a = 0 := fun q a h1 h2 => by rw [(hD3 a (by omega)).1 q, (hD2 a h2).1 q]; exact hD1 q a h1 h2
  have hT : ∀ a, a < X → s_tg S3 a = s_tg S a ∧ s_ln S3 a = s_ln S a := fun a ha => by
    have h1 := sam a (a + 1) (by omega) a (Nat.le_refl _) (by omega)
    exact ⟨h1.1.trans (hsl1 a ha).1, h1.2.1.trans (hsl1 a ha).2⟩
  have hL : ∀ a, a < X → d_ai D3 a = d_ai D a ∧ d_al D3 a = d_al D a := fun a ha => by
    have h1 := hD3 a (by omega)
    have h2 := hD2 a (by omega)
    exact ⟨(h1.2.2.1.trans h2.2.2.1).trans (hlo1 a ha).1, (h1.2.2.2.trans h2.2.2.2).trans (hlo1 a ha).2⟩
  have h : LawS g sc N S3 D3 X (X + 292 + 8) (X + 292 + 28) K00 [] [] (-1) 0 := by
    refine ⟨hX1.sam (sam _ _ (by omega)), hU1.sam (sam _ _ (by omega)), hZ1.sam (sam _ _ (by omega)), hg, hgs, ⟨(hT _ hg).1.trans hKw.1, (hT _ hg).2.trans hKw.2.1, by rw [(hL _ hg).2]; exact hKw.2.2⟩, inv00, ⟨?_, ?_, ?_, ?_, Nat.zero_le _, Nat.zero_le _⟩, hY2.sam (hA3.sam (by omega) (by omega)), ⟨?_, ?_, ?_, ?_, ?_⟩, ⟨hn3.1, hn3.2⟩, by omega, ⟨(hT _ hgs).1.trans hS.1, (hT _ hgs).2.trans hS.2.1, hS.2.2⟩, by rw [(hL _ hgs).1]; exact hs⟩
    · exact ⟨⟨hF _ _ (by omega) (by omega), hF _ _ (by omega) (by omega), hF _ _ (by omega) (by omega), hF _ _ (by omega) (by omega), hF _ _ (by omega) (by omega)⟩, fun p hp => absurd hp (Nat.not_lt_zero _), fun p hp => absurd hp (Nat.not_lt_zero _), fun p hp => absurd hp (Nat.not_lt_zero _)⟩
    · exact ⟨hF _ _ (by omega) (by omega), fun i hi => absurd hi (Nat.not_lt_zero _), fun b hb => by cases hb⟩
    · exact ⟨hF _ _ (by omega) (by omega), fun i hi => absurd hi (Nat.not_lt_zero _), fun b hb => by cases hb⟩
    · rw [(hD3 X (by omega)).1, (hD2 X (by omega)).1]; exact hD1X
    · have h0 : ∀ q, d_fi D3 q (X + 292 + 8) = 0 := fun q => by rw [(hD3 _ (by omega)).1 q]; exact hA0 q
      refine ⟨?_, fun p hp => absurd hp (Nat.not_lt_zero _), fun p hp => absurd hp (Nat.not_lt_zero _), fun p hp => absurd hp (Nat.not_lt_zero _)⟩
      unfold RrC
      simp only [h0]
      exact ⟨rfl, rfl, rfl, rfl, rfl⟩
    · exact ⟨by rw [(hD3 _ (by omega)).1, hY0]; rfl, fun i hi => absurd hi (Nat.not_lt_zero _), Nat.zero_le _, fun b hb => by cases hb⟩
    · exact ⟨by rw [(hD3 _ (by omega)).1, hY0]; rfl, fun i hi => absurd hi (Nat.not_lt_zero _), Nat.zero_le _, fun b hb => by cases hb⟩
    · unfold KwR
      rw [(hD3 (X + 292 + 3) (by omega)).2.2.2]
      exact hK2
    · rw [(hD3 _ (by omega)).1, hY0]; rfl
  refine X_run rfl trivial ?_
  have h3 := hS.2.2
  exact Eg.sub (Law_loop hQ 512 0 0 S3 D3 _ _ _ _ _ _ h (by omega) (by omega) (Nat.zero_le _)) ⟨rfl, rfl, rfl, rfl, rfl, trivial⟩
end START
