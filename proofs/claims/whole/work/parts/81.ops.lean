/-! every call of the loop, with what is proved of it -/
section OPS
variable {g : GG} {d bc bs : Nat} {Z : ZT} {sc : Nat → Int32} {N i : Nat} {S : ShT} {D : DaT} {X A A2 : Nat} {K : KT} {T P : List Nat} {e : Int32} {c : Nat}
theorem zz {k1 : Nat} (h : LawS g sc N S D X A A2 K T P e c) : X + 292 + 48 ≤ s_sz (gz S k1) := by
  have := h.hz
  show _ ≤ s_sz S + k1
  omega
theorem dkw {g : GG} {S : ShT} {D D1 : DaT} {X : Nat} (h : KwL g S D) (hg : gKa g < X) (ho : OutX X D D1) : KwL g S D1 := ⟨h.1, h.2.1, by rw [(ho _ (by omega) (Or.inl hg)).2.2.2]; exact h.2.2⟩
theorem len_rep {x : Int32} (hI : InvK K c) : (repL K x).length ≤ 2160 := by
  have h1 := repL_len (x := x) hI.2.1 hI.1 (k_ny K) (Nat.le_refl _)
  have := hI.1.2.2.1
  unfold repL
  omega
theorem Op_count (h : LawS g sc N S D X A A2 K T P e c) (hc : c + 1 ≤ 1000) (hi : i + 6 ≤ N) (k : NxT g (d + 12) bc bs Z sc N i X (c + 1)) : Eg g (d + 12) mL_law (bc + 560) (bs + 5100) Z 350 (LL g X i) [] (md S D) := by
  have hW := h.hI.1
  refine Eg.cost (Bk_count h hi rfl (p := pCount K (nI T.length) (nI P.length) (sc (i + 1))) ?_ (h.hI.mono (Nat.le_succ _) hc) (u_ask h.hD (by have := c_count (g := g) (d := d + 4) (x := sc (i + 1)) h.hX hW h.hD.1; rw [h.hD.2.1.1, h.hD.2.2.1.1] at this; exact this)) (fun k1 D1 ho => c_Mcount (S := gz S k1) h.hY (zz h) hW (h.ref ho)) k) (by omega) (by omega)
  intro E hE
  unfold pCount at hE
  repeat' split at hE
  all_goals (first | (cases hE; done) | (cases hE; decide))
theorem Op_party (h : LawS g sc N S D X A A2 K T P e c) (hc : c + 1 ≤ 1000) (hi : i + 6 ≤ N) (k : NxT g (d + 12) bc bs Z sc N i X (c + 1)) : Eg g (d + 12) mL_law (bc + 560) (bs + 5100) Z 406 (LL g X i) [] (md S D) := by
  have hW := h.hI.1
  refine Eg.cost (Bk_party h hi rfl rfl (p := pParty K (sc (i + 1)) (sc (i + 2))) ?_ (h.hI.mono (Nat.le_succ _) hc) (u_ask h.hD (c_party h.hX hW h.hD.1)) (fun k1 D1 ho => c_Mparty (S := gz S k1) h.hY hW (h.ref ho)) k) (by omega) (by omega)
  intro E hE
  unfold pParty at hE
  repeat' split at hE
  all_goals (first | (cases hE; done) | (cases hE; decide))
theorem Op_money (h : LawS g sc N S D X A A2 K T P e c) (hc : c + 1 ≤ 1000) (hi : i + 6 ≤ N) (k : NxT g (d + 12) bc bs Z sc N i X (c + 1)) : Eg g (d + 12) mL_law (bc + 560) (bs + 5100) Z 474 (LL g X i) [] (md S D) := by
  have hW := h.hI.1
  refine Eg.cost (Bk_money h hi rfl rfl (p := pMoney K (sc (i + 1)) (sc (i + 2))) ?_ (h.hI.mono (Nat.le_succ _) hc) (u_ask h.hD (c_money h.hX hW h.hD.1)) (fun k1 D1 ho => c_Mmoney (S := gz S k1) h.hY hW (h.ref ho)) k) (by omega) (by omega)
  intro E hE
  unfold pMoney at hE
  repeat' split at hE
  all_goals (first | (cases hE; done) | (cases hE; decide))
theorem Op_payment (h : LawS g sc N S D X A A2 K T P e c) (hc : c + 1 ≤ 1000) (hi : i + 6 ≤ N) (k : NxT g (d + 12) bc bs Z sc N i X (c + 1)) : Eg g (d + 12) mL_law (bc + 560) (bs + 5100) Z 946 (LL g X i) [] (md S D) := by
  have hW := h.hI.1
  refine Eg.cost (Bk_payment h hi rfl rfl (p := pPayment K (sc (i + 1)) (sc (i + 2))) ?_ (h.hI.mono (Nat.le_succ _) hc) (u_ask h.hD (c_payment h.hX hW h.hD.1)) (fun k1 D1 ho => c_Mpayment (S := gz S k1) h.hY (zz h) hW (h.ref ho)) k) (by omega) (by omega)
  intro E hE
  unfold pPayment at hE
  repeat' split at hE
  all_goals (first | (cases hE; done) | (cases hE; decide))
theorem Op_has (h : LawS g sc N S D X A A2 K T P e c) (hc : c + 1 ≤ 1000) (hi : i + 6 ≤ N) (k : NxT g (d + 12) bc bs Z sc N i X (c + 1)) : Eg g (d + 12) mL_law (bc + 560) (bs + 5100) Z 610 (LL g X i) [] (md S D) := by
  have hz : sc (i + 3) = 0 ∧ (if sc (i + 3) = 0 then (0 : Int32) else 1) = 0 ∨ ¬ sc (i + 3) = 0 ∧ (if sc (i + 3) = 0 then (0 : Int32) else 1) = 1 := by
    by_cases c1 : sc (i + 3) = 0
    · exact Or.inl ⟨c1, if_pos c1⟩
    · exact Or.inr ⟨c1, if_neg c1⟩
  have hW := h.hI.1
  refine Eg.cost (Bk_has h hi rfl rfl hz (p := pHas K (sc (i + 1)) (sc (i + 2)) (if sc (i + 3) = 0 then 0 else 1)) ?_ (h.hI.mono (Nat.le_succ _) hc) (u_ask h.hD (c_has h.hX hW h.hD.1)) (fun k1 D1 ho => c_Mhas (S := gz S k1) h.hY hW (h.ref ho)) k) (by omega) (by omega)
  intro E hE
  unfold pHas at hE
  repeat' split at hE
  all_goals (first | (cases hE; done) | (cases hE; decide))
theorem Op_owes (h : LawS g sc N S D X A A2 K T P e c) (hc : c + 1 ≤ 1000) (hi : i + 6 ≤ N) (k : NxT g (d + 12) bc bs Z sc N i X (c + 1)) : Eg g (d + 12) mL_law (bc + 560) (bs + 5100) Z 1150 (LL g X i) [] (md S D) := by
  have hW := h.hI.1
  refine Eg.cost (Bk_owes h hi rfl rfl rfl (p := pOwes K (sc (i + 1)) (sc (i + 2)) (sc (i + 3))) ?_ (h.hI.mono (Nat.le_succ _) hc) (u_da h.hD (c_owes h.hX hW h.hD.1)) (fun k1 D1 ho => by have := c_Mowes (g := g) (d := d + 9) (S := gz S k1) (a := sc (i + 1)) (b := sc (i + 2)) (m := sc (i + 3)) h.hY hW (h.ref ho); rw [pOwes_eq hW] at this; exact this) k) (by omega) (by omega)
  intro E hE
  unfold pOwes at hE
  repeat' split at hE
  all_goals (first | (cases hE; done) | (cases hE; decide))
theorem Op_setRate (h : LawS g sc N S D X A A2 K T P e c) (hc : c + 1 ≤ 1000) (hi : i + 6 ≤ N) (k : NxT g (d + 12) bc bs Z sc N i X (c + 1)) : Eg g (d + 12) mL_law (bc + 560) (bs + 5100) Z 542 (LL g X i) [] (md S D) := by
  have hW := h.hI.1
  refine Eg.cost (Bk_setRate h hi rfl rfl (p := ansV (pSetRate K (sc (i + 1)) (sc (i + 2)))) ?_ (inv_setRate h.hI hc) (u_do h.hD (c_setRate h.hX hW h.hD.1)) (fun k1 D1 ho => c_MsetRate (S := gz S k1) h.hY hW (h.ref ho)) k) (by omega) (by omega)
  intro E hE
  unfold pSetRate at hE
  repeat' split at hE
  all_goals (first | (cases hE; done) | (cases hE; decide))
theorem Op_deposit (h : LawS g sc N S D X A A2 K T P e c) (hc : c + 1 ≤ 1000) (hi : i + 6 ≤ N) (k : NxT g (d + 12) bc bs Z sc N i X (c + 1)) : Eg g (d + 12) mL_law (bc + 560) (bs + 5100) Z 706 (LL g X i) [] (md S D) := by
  have hW := h.hI.1
  refine Eg.cost (Bk_deposit h hi rfl rfl rfl (p := ansV (pDeposit K (sc (i + 1)) (sc (i + 2)) (sc (i + 3)))) ?_ (inv_deposit h.hI hc) (u_do h.hD (c_deposit h.hX hW h.hD.1)) (fun k1 D1 ho => c_Mdeposit (S := gz S k1) h.hY hW (h.ref ho)) k) (by omega) (by omega)
  intro E hE
  unfold pDeposit at hE
  repeat' split at hE
  all_goals (first | (cases hE; done) | (cases hE; decide))
theorem Op_withdraw (h : LawS g sc N S D X A A2 K T P e c) (hc : c + 1 ≤ 1000) (hi : i + 6 ≤ N) (k : NxT g (d + 12) bc bs Z sc N i X (c + 1)) : Eg g (d + 12) mL_law (bc + 560) (bs + 5100) Z 786 (LL g X i) [] (md S D) := by
  have hW := h.hI.1
  refine Eg.cost (Bk_withdraw h hi rfl rfl rfl (p := ansV (pWithdraw K (sc (i + 1)) (sc (i + 2)) (sc (i + 3)))) ?_ (inv_withdraw h.hI hc) (u_do h.hD (c_withdraw h.hX hW h.hD.1)) (fun k1 D1 ho => c_Mwithdraw (S := gz S k1) h.hY hW (h.ref ho)) k) (by omega) (by omega)
  intro E hE
  unfold pWithdraw at hE
  repeat' split at hE
  all_goals (first | (cases hE; done) | (cases hE; decide))
theorem Op_amend (h : LawS g sc N S D X A A2 K T P e c) (hc : c + 1 ≤ 1000) (hi : i + 6 ≤ N) (k : NxT g (d + 12) bc bs Z sc N i X (c + 1)) : Eg g (d + 12) mL_law (bc + 560) (bs + 5100) Z 1014 (LL g X i) [] (md S D) := by
  have hW := h.hI.1
  refine Eg.cost (Bk_amend h hi rfl rfl (p := ansV (pAmend K (sc (i + 1)) (sc (i + 2)))) ?_ (inv_amend h.hI hc) (u_do h.hD (c_amend h.hX hW h.hD.1)) (fun k1 D1 ho => c_Mamend (S := gz S k1) h.hY hW (h.ref ho)) k) (by omega) (by omega)
  intro E hE
  unfold pAmend at hE
  repeat' split at hE
  all_goals (first | (cases hE; done) | (cases hE; decide))
theorem Op_putOff (h : LawS g sc N S D X A A2 K T P e c) (hc : c + 1 ≤ 1000) (hi : i + 6 ≤ N) (k : NxT g (d + 12) bc bs Z sc N i X (c + 1)) : Eg g (d + 12) mL_law (bc + 560) (bs + 5100) Z 1082 (LL g X i) [] (md S D) := by
  have hW := h.hI.1
  refine Eg.cost (Bk_putOff h hi rfl rfl (p := ansV (pPutOff K (sc (i + 1)) (sc (i + 2)))) ?_ (inv_putOff h.hI hc) (u_do h.hD (c_putOff h.hX hW h.hD.1)) (fun k1 D1 ho => c_MputOff (S := gz S k1) h.hY hW (h.ref ho)) k) (by omega) (by omega)
  intro E hE
  unfold pPutOff at hE
  repeat' split at hE
  all_goals (first | (cases hE; done) | (cases hE; decide))
theorem Op_pledge (h : LawS g sc N S D X A A2 K T P e c) (hc : c + 1 ≤ 1000) (hi : i + 6 ≤ N) (k : NxT g (d + 12) bc bs Z sc N i X (c + 1)) : Eg g (d + 12) mL_law (bc + 560) (bs + 5100) Z 866 (LL g X i) [] (md S D) := by
  have hW := h.hI.1
  refine Eg.cost (Bk_pledge h hi rfl rfl rfl (p := ansV (pPledge K (sc (i + 1)) (sc (i + 2)) (sc (i + 3)))) ?_ (inv_pledge h.hI hc) (u_do h.hD (c_pledge h.hX hW h.hD.1)) (fun k1 D1 ho => c_Mpledge (S := gz S k1) h.hY hW h.hI.co (pledge_room h.hI hc) (h.ref ho)) k) (by omega) (by omega)
  intro E hE
  unfold pPledge at hE
  repeat' split at hE
  all_goals (first | (cases hE; done) | (cases hE; decide))
theorem Op_pass (h : LawS g sc N S D X A A2 K T P e c) (hc : c + 1 ≤ 1000) (hi : i + 6 ≤ N) (k : NxT g (d + 12) bc bs Z sc N i X (c + 1)) : Eg g (d + 12) mL_law (bc + 560) (bs + 5100) Z 1230 (LL g X i) [] (md S D) := by
  have hW := h.hI.1
  refine Eg.cost (Bk_pass h hi rfl (p := ansV (pPass K (sc (i + 1)))) ?_ (inv_pass' h.hI hc) (u_do h.hD (c_pass h.hX hW h.hD.1)) (fun k1 D1 ho => c_Mpass (S := gz S k1) h.hY h.hI (h.ref ho)) k) (by omega) (by omega)
  intro E hE
  unfold pPass at hE
  repeat' split at hE
  all_goals (first | (cases hE; done) | (cases hE; decide))
theorem Op_run (h : LawS g sc N S D X A A2 K T P e c) (hc : c + 1 ≤ 1000) (hi : i + 6 ≤ N) (k : NxT g (d + 12) bc bs Z sc N i X (c + 1)) : Eg g (d + 12) mL_law (bc + 560) (bs + 5100) Z 1286 (LL g X i) [] (md S D) := by
  have hW := h.hI.1
  refine Eg.cost (Bk_run h hi rfl (p := pRun K (sc (i + 1))) ?_ (h.hI.mono (Nat.le_succ _) hc) (u_da h.hD (c_run h.hX hW h.hD.1)) (fun k1 D1 ho => c_Mrun (S := gz S k1) h.hY h.hI (h.ref ho)) k) (by omega) (by omega)
  intro E hE
  unfold pRun at hE
  repeat' split at hE
  all_goals (first | (cases hE; done) | (cases hE; decide))
theorem Op_settles (h : LawS g sc N S D X A A2 K T P e c) (hc : c + 1 ≤ 1000) (hi : i + 6 ≤ N) (k : NxT g (d + 12) bc bs Z sc N i X (c + 1)) : Eg g (d + 12) mL_law (bc + 560) (bs + 5100) Z 1342 (LL g X i) [] (md S D) := by
  have hb : ∀ r, pSettles K (sc (i + 1)) = .ok r → r = 0 ∨ r = 1 := by
    intro r hr
    unfold pSettles at hr
    split at hr
    · cases hr
      unfold b2i
      split
      · exact Or.inr rfl
      · exact Or.inl rfl
    · cases hr
  have hW := h.hI.1
  refine Eg.cost (Bk_settles h hi rfl (p := pSettles K (sc (i + 1))) ?_ hb (h.hI.mono (Nat.le_succ _) hc) (u_da h.hD (c_settles h.hX hW h.hD.1)) (fun k1 D1 ho => c_Msettles (S := gz S k1) h.hY h.hI (h.ref ho)) k) (by omega) (by omega)
  intro E hE
  unfold pSettles at hE
  repeat' split at hE
  all_goals (first | (cases hE; done) | (cases hE; decide))
theorem Op_when (h : LawS g sc N S D X A A2 K T P e c) (hc : c + 1 ≤ 1000) (hi : i + 6 ≤ N) (k : NxT g (d + 12) bc bs Z sc N i X (c + 1)) : Eg g (d + 12) mL_law (bc + 560) (bs + 5100) Z 1405 (LL g X i) [] (md S D) := by
  have hW := h.hI.1
  refine Eg.cost (Bk_when h hi rfl (p := pWhen K (sc (i + 1))) ?_ (h.hI.mono (Nat.le_succ _) hc) (u_da h.hD (c_when h.hX hW h.hD.1)) (fun k1 D1 ho => c_Mwhen (S := gz S k1) h.hY h.hI (h.ref ho)) k) (by omega) (by omega)
  intro E hE
  unfold pWhen at hE
  repeat' split at hE
  all_goals (first | (cases hE; done) | (cases hE; decide))
theorem Op_frees (h : LawS g sc N S D X A A2 K T P e c) (hc : c + 1 ≤ 1000) (hi : i + 6 ≤ N) (k : NxT g (d + 12) bc bs Z sc N i X (c + 1)) : Eg g (d + 12) mL_law (bc + 560) (bs + 5100) Z 1461 (LL g X i) [] (md S D) := by
  have hW := h.hI.1
  refine Eg.cost (Bk_frees h hi rfl rfl (p := pFrees K (sc (i + 1)) (sc (i + 2))) ?_ (h.hI.mono (Nat.le_succ _) hc) (u_da h.hD (c_frees h.hX hW h.hD.1)) (fun k1 D1 ho => c_Mfrees (S := gz S k1) h.hY h.hI hc (h.ref ho)) k) (by omega) (by omega)
  intro E hE
  unfold pFrees at hE
  repeat' split at hE
  all_goals (first | (cases hE; done) | (cases hE; decide))
theorem Op_advise (h : LawS g sc N S D X A A2 K T P e c) (hc : c + 1 ≤ 1000) (hi : i + 6 ≤ N) (k : NxT g (d + 12) bc bs Z sc N i X (c + 1)) : Eg g (d + 12) mL_law (bc + 560) (bs + 5100) Z 1529 (LL g X i) [] (md S D) := by
  have hW := h.hI.1
  refine Eg.cost (Bk_advise h hi rfl rfl (p := pAdvise K (sc (i + 1)) (sc (i + 2))) ?_ (h.hI.mono (Nat.le_succ _) hc) (u_da h.hD (c_advise h.hX hW h.hD.1)) (fun k1 D1 ho => c_Madvise (S := gz S k1) h.hY h.hI hc (h.ref ho)) k) (by omega) (by omega)
  intro E hE
  unfold pAdvise at hE
  repeat' split at hE
  all_goals (first | (cases hE; done) | (cases hE; decide))
theorem Op_ring (h : LawS g sc N S D X A A2 K T P e c) (hc : c + 1 ≤ 1000) (hi : i + 6 ≤ N) (k : NxT g (d + 12) bc bs Z sc N i X (c + 1)) : Eg g (d + 12) mL_law (bc + 560) (bs + 5100) Z 1597 (LL g X i) [] (md S D) := by
  have hW := h.hI.1
  refine Eg.cost (Bk_ring h hi rfl (p := pRing K (sc (i + 1))) ?_ (h.hI.mono (Nat.le_succ _) hc) (u_da h.hD (c_ring h.hX hW h.hD.1)) (fun k1 D1 ho => c_Mring (S := gz S k1) h.hY hW (h.ref ho)) k) (by omega) (by omega)
  intro E hE
  unfold pRing at hE
  repeat' split at hE
  all_goals (first | (cases hE; done) | (cases hE; decide))
theorem Op_report (h : LawS g sc N S D X A A2 K T P e c) (hc : c + 1 ≤ 1000) (hi : i + 6 ≤ N) (k : NxT g (d + 12) bc bs Z sc N i X (c + 1)) : Eg g (d + 12) mL_law (bc + 560) (bs + 5100) Z 1653 (LL g X i) [] (md S D) := by
  have hW := h.hI.1
  refine Eg.cost (Bk_report h hi rfl (p := (if 0 ≤ sc (i + 1) then .ok (nI (repL K (sc (i + 1))).length) else .error eA)) ?_ (h.hI.mono (Nat.le_succ _) hc) (u_report h.hD (len_rep h.hI) (c_report h.hX hW h.hI.2.1 h.hD.1)) (fun k1 D1 ho => c_Mreport (S := gz S k1) h.hY hW h.hI.2.1 (h.ref ho)) k) (by omega) (by omega)
  intro E hE
  repeat' split at hE
  all_goals (first | (cases hE; done) | (cases hE; decide))
theorem Op_byteAt (h : LawS g sc N S D X A A2 K T P e c) (hc : c + 1 ≤ 1000) (hi : i + 6 ≤ N) (k : NxT g (d + 12) bc bs Z sc N i X (c + 1)) : Eg g (d + 12) mL_law (bc + 560) (bs + 5100) Z 1709 (LL g X i) [] (md S D) := by
  have hW := h.hI.1
  refine Eg.cost (Bk_byteAt h hi rfl (p := (if inB (sc (i + 1)) P.length = true then .ok (nI (P.getD (iN (sc (i + 1))) 0)) else .error eB)) ?_ (h.hI.mono (Nat.le_succ _) hc) (u_byteAt h.hD (c_byteAt h.hX h.hD.2.2.1 h.hD.2.2.2.2.2)) (fun k1 D1 ho => c_MbyteAt (S := gz S k1) h.hY hW (h.ref ho)) k) (by omega) (by omega)
  intro E hE
  repeat' split at hE
  all_goals (first | (cases hE; done) | (cases hE; decide))
theorem Op_trim (h : LawS g sc N S D X A A2 K T P e c) (hc : c + 1 ≤ 1000) (hi : i + 6 ≤ N) (k : NxT g (d + 12) bc bs Z sc N i X (c + 1)) : Eg g (d + 12) mL_law (bc + 560) (bs + 5100) Z 268 (LL g X i) [] (md S D) := by
  have hW := h.hI.1
  refine Eg.cost (Bk_trim h hi rfl (p := (if inB (sc (i + 1)) (T.length + 1) = true then .ok (sc (i + 1)) else .error eA)) ?_ (h.hI.mono (Nat.le_succ _) hc) (u_trim hW h.hD (c_trim h.hX h.hD.2.1 h.hD.2.2.2.2.1)) (fun k1 D1 ho => c_Mtrim (S := gz S k1) h.hY hW (h.ref ho)) k) (by omega) (by omega)
  intro E hE
  repeat' split at hE
  all_goals (first | (cases hE; done) | (cases hE; decide))
theorem Op_feed (h : LawS g sc N S D X A A2 K T P e c) (hc : c + 1 ≤ 1000) (hi : i + 6 ≤ N) (k : NxT g (d + 12) bc bs Z sc N i X (c + 1)) : Eg g (d + 12) mL_law (bc + 560) (bs + 5100) Z 164 (LL g X i) [] (md S D) := by
  have hW := h.hI.1
  refine Eg.cost (Bk_feed h hi rfl rfl rfl rfl rfl (p := (if T.length + 20 ≤ 2000 then .ok (nI (T.length + 20)) else .error eS)) ?_ (h.hI.mono (Nat.le_succ _) hc) (u_feed hW h.hD (c_feed h.hX h.hD.2.1 h.hD.2.2.2.2.1)) (fun k1 D1 ho => c_Mfeed (S := gz S k1) h.hY (zz h) hW (h.ref ho)) k) (by omega) (by omega)
  intro E hE
  repeat' split at hE
  all_goals (first | (cases hE; done) | (cases hE; decide))
set_option maxRecDepth 20000 in
theorem Op_teach (h : LawS g sc N S D X A A2 K T P e c) (hc : c + 1 ≤ 1000) (k : NxT g (d + 12) bc bs Z sc N i X (c + 1)) : Eg g (d + 12) mL_law (bc + 560) (bs + 5100) Z 324 (LL g X i) [] (md S D) := by
  have hW := h.hI.1
  have hK := h.hI.2.1
  have hI := inv_teach (T := T) h.hI hc
  refine Eg.cost (bc := bc + 403) (bs := bs + 1612) ?_ (by omega) (by omega)
  refine X_run rfl trivial ?_
  refine X_cV (args := []) rfl (by decide) h.hX.1.1 rfl rfl (Nat.le_of_ble_eq_true rfl) (c_teach h.hX h.hU h.hZ h.hg h.hKw hW hK h.hD.1 h.hD.2.1 h.hD.2.2.2.2.1) ?_
  rintro _ _ ⟨D1, rfl, rfl, hr1, he1, hb1, hp1, ho1⟩
  have hd1 : DkR D1 X (teachR T K).2.2 [] P (teachR T K).2.1 := ⟨hr1, hb1, hp1 _ h.hD.2.2.1, he1, Nat.zero_le _, h.hD.2.2.2.2.2⟩
  have hox := OutX.o ho1 (show X ≤ X ∧ X + 290 ≤ X + 292 by omega)
  refine X_run rfl trivial ?_
  refine X_callV (bc1 := 403) (bs1 := 1612) (args := []) rfl (by decide) h.hY.1.1 rfl rfl (Nat.le_of_ble_eq_true rfl) (c_Mteach h.hY (by have := h.hz; omega) hW hK (h.ref hox)) ?_
  rintro _ _ ⟨S2, D2, k2, A', A2', hk2, rfl, rfl, hg2, hY2, hO2, hM2⟩
  have h1 := h.step (k := 0) hI hd1 hox hg2 hY2 hO2 hM2
  refine X_icmp_eq rfl (fun _ => ?_) (fun z => absurd rfl z)
  refine X_run rfl trivial ?_
  exact Eg.sub (k _ _ _ _ _ _ _ _ h1) ⟨rfl, rfl, rfl, rfl, congrArg (fun x => some (Value.int x)) (nI_plus i 6).symm, trivial⟩
set_option maxRecDepth 20000 in
theorem Op_errorAt (h : LawS g sc N S D X A A2 K T P e c) (hc : c + 1 ≤ 1000) (k : NxT g (d + 12) bc bs Z sc N i X (c + 1)) : Eg g (d + 12) mL_law (bc + 560) (bs + 5100) Z 337 (LL g X i) [] (md S D) := by
  have hW := h.hI.1
  refine Eg.cost (bc := bc) (bs := bs) ?_ (by omega) (by omega)
  refine X_run rfl trivial ?_
  refine X_cV (args := []) rfl (by decide) h.hX.1.1 rfl rfl (Nat.le_of_ble_eq_true rfl) (c_errorAt h.hX) ?_
  rintro _ _ ⟨rfl, rfl⟩
  refine X_run rfl trivial ?_
  refine X_cV (args := []) rfl (by decide) h.hY.1.1 rfl rfl (Nat.le_of_ble_eq_true rfl) (c_MerrorAt h.hY hW h.hM) ?_
  rintro _ _ ⟨D2, rfl, rfl, hO2, hM2⟩
  have h1 := h.step (k := 0) (h.hI.mono (Nat.le_succ _) hc) h.hD OutX.rf Gro.rf.y h.hY hO2 hM2
  refine X_icmp_eq rfl (fun _ => ?_) (fun z => absurd h.hD.2.2.2.1 z)
  refine X_run rfl trivial ?_
  exact Eg.sub (k _ _ _ _ _ _ _ _ h1) ⟨rfl, rfl, rfl, rfl, congrArg (fun x => some (Value.int x)) (nI_plus i 6).symm, trivial⟩
end OPS
