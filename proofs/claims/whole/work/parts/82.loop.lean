section OPS2
variable {g : GG} {d bc bs : Nat} {Z : ZT} {sc : Nat → Int32} {N i : Nat} {S : ShT} {D : DaT} {X A A2 : Nat} {K : KT} {T P : List Nat} {e : Int32} {c : Nat}
set_option maxRecDepth 20000 in
theorem Op_digest (h : LawS g sc N S D X A A2 K T P e c) (hc : c + 1 ≤ 1000) (k : NxT g (d + 12) bc bs Z sc N i X (c + 1)) : Eg g (d + 12) mL_law (bc + 560) (bs + 5100) Z 1806 (LL g X i) [] (md S D) := by
  have hW := h.hI.1
  refine Eg.cost (bc := bc + 552) (bs := bs + 5004) ?_ (by omega) (by omega)
  have hcl := c_digest (g := g) (d := d + 5) h.hX hW h.hD.1 h.hD.2.2.1.1 h.hD.2.2.2.2.2
  rw [h.hD.2.1.1, dgR_eq h.hD.2.2.1] at hcl
  refine X_run rfl trivial ?_
  refine X_cV (args := []) rfl (by decide) h.hX.1.1 rfl rfl (Nat.le_of_ble_eq_true rfl) hcl ?_
  rintro _ _ ⟨rfl, rfl⟩
  refine X_run rfl trivial ?_
  refine X_callV (bc1 := 552) (bs1 := 5004) (args := []) rfl (by decide) h.hY.1.1 rfl rfl (Nat.le_of_ble_eq_true rfl) (c_Mdigest h.hY (by have := h.hz; omega) hW h.hM) ?_
  rintro _ _ ⟨S2, D2, k2, hk2, rfl, rfl, hg2, hO2, hM2⟩
  have h1 := h.step (k := 0) (h.hI.mono (Nat.le_succ _) hc) h.hD OutX.rf hg2.y (MoL.gro h.hY hg2 (by have := h.hz; omega)) hO2 hM2
  refine X_run rfl trivial ?_
  refine X_if_eq rfl (fun _ => ?_) (fun z => absurd (lg_self _) z)
  refine X_run rfl trivial ?_
  exact Eg.sub (k _ _ _ _ _ _ _ _ h1) ⟨rfl, rfl, rfl, rfl, congrArg (fun x => some (Value.int x)) (nI_plus i 6).symm, trivial⟩
end OPS2
