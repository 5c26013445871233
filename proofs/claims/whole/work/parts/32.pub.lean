abbrev eS : String := "java/lang/IllegalStateException"
abbrev eA : String := "java/lang/IllegalArgumentException"
abbrev eB : String := "java/lang/IndexOutOfBoundsException"
theorem i_eS : (68, 72, eS) ∈ thr := List.mem_of_getElem? (show thr[0]? = some _ from rfl)
theorem i_eA : (82, 86, eA) ∈ thr := List.mem_of_getElem? (show thr[1]? = some _ from rfl)
theorem i_eB : (109, 113, eB) ∈ thr := List.mem_of_getElem? (show thr[2]? = some _ from rfl)
theorem s_70 : (70, "the tape is full") ∈ strL := List.mem_of_getElem? (show strL[0]? = some _ from rfl)
theorem s_84 : (84, "the tape has no such length") ∈ strL := List.mem_of_getElem? (show strL[1]? = some _ from rfl)
theorem s_111 : (111, "nothing such is counted") ∈ strL := List.mem_of_getElem? (show strL[2]? = some _ from rfl)
theorem s_143 : (143, "no such party, or nothing such of it") ∈ strL := List.mem_of_getElem? (show strL[3]? = some _ from rfl)
theorem s_185 : (185, "no such money, or nothing such of it") ∈ strL := List.mem_of_getElem? (show strL[4]? = some _ from rfl)
theorem s_205 : (205, "no such money") ∈ strL := List.mem_of_getElem? (show strL[5]? = some _ from rfl)
theorem s_207 : (207, "no such rate") ∈ strL := List.mem_of_getElem? (show strL[6]? = some _ from rfl)
theorem s_209 : (209, "no such party or money") ∈ strL := List.mem_of_getElem? (show strL[7]? = some _ from rfl)
theorem s_218 : (218, "no such amount") ∈ strL := List.mem_of_getElem? (show strL[8]? = some _ from rfl)
theorem s_224 : (224, "the balance is too small") ∈ strL := List.mem_of_getElem? (show strL[9]? = some _ from rfl)
theorem s_227 : (227, "there is not so much to move") ∈ strL := List.mem_of_getElem? (show strL[10]? = some _ from rfl)
theorem s_232 : (232, "there would be no room") ∈ strL := List.mem_of_getElem? (show strL[11]? = some _ from rfl)
theorem s_237 : (237, "no such payment, or nothing such of it") ∈ strL := List.mem_of_getElem? (show strL[12]? = some _ from rfl)
theorem s_275 : (275, "no such payment") ∈ strL := List.mem_of_getElem? (show strL[13]? = some _ from rfl)
theorem s_277 : (277, "the payment does not wait") ∈ strL := List.mem_of_getElem? (show strL[14]? = some _ from rfl)
theorem s_279 : (279, "no such number of days") ∈ strL := List.mem_of_getElem? (show strL[15]? = some _ from rfl)
theorem s_290 : (290, "no such number of hours") ∈ strL := List.mem_of_getElem? (show strL[16]? = some _ from rfl)
theorem s_298 : (298, "nothing such of a run") ∈ strL := List.mem_of_getElem? (show strL[17]? = some _ from rfl)
theorem s_334 : (334, "no such day") ∈ strL := List.mem_of_getElem? (show strL[18]? = some _ from rfl)
theorem s_359 : (359, "no such place on the paper") ∈ strL := List.mem_of_getElem? (show strL[19]? = some _ from rfl)
/-- an index asked for, as a number -/
abbrev iN (x : Int32) : Nat := x.toNatClampNeg
theorem iN_nI {j : Nat} (h : j < 2 ^ 31) : iN (nI j) = j := nI_clamp h
def pCount (K : KT) (tl pl x : Int32) : Except String Int32 := if inB x 12 = true then .ok (cnts K tl pl (iN x)) else .error eB
def pParty (K : KT) (x w : Int32) : Except String Int32 := if inB x (k_np K) = true ∧ inB w 7 = true then .ok (toldP K (iN x) (iN w)) else .error eB
def pMoney (K : KT) (x w : Int32) : Except String Int32 := if inB x (k_nm K) = true ∧ inB w 4 = true then .ok (toldM K (iN x) (iN w)) else .error eB
def pPayment (K : KT) (x w : Int32) : Except String Int32 := if inB x (k_ny K) = true ∧ inB w 9 = true then .ok (toldY K (iN x) (iN w)) else .error eB
/-- what an asking method answers: the memory stays -/
def Ask (M : Mem) (a : Except String Int32) : Option Value → Mem → Prop := fun v M1 => M1 = M ∧ ∃ r, a = .ok r ∧ v = some (.int r)
def AskX (M : Mem) (a : Except String Int32) : String → Mem → Prop := fun E M1 => a = .error E ∧ ∃ k, M1 = w_opq M k
section PUB
variable {g : GG} {d : Nat} {S : ShT} {D : DaT} {X : Nat} {K : KT}
theorem c_count {x : Int32} (hX : DkL S X) (hW : WfK K) (hR : RepC D (X + 11) K) : EvX g (d + 6) mX9_count 1 6 [.ref X, .int x] (md S D) (Ask (md S D) (pCount K (d_fi D 33 (X + 3)) (d_fi D 33 (X + 8)) x)) (AskX (md S D) (pCount K (d_fi D 33 (X + 3)) (d_fi D 33 (X + 8)) x)) := by
  obtain ⟨hx, -⟩ := id hX
  refine EvX.mk (by decide) (Nat.le_of_ble_eq_true rfl) ?_
  refine X_run rfl trivial ?_
  refine X_cS (args := [.int x, .int 0, .int 11]) rfl (by decide) rfl rfl (Nat.le_of_ble_eq_true rfl) c_isFrom ?_
  rintro _ _ ⟨rfl, rfl⟩
  rw [if_b2i, show decide (0 ≤ x ∧ x ≤ 11) = inB x 12 from rfl]
  refine X_if_ne rfl (fun c1 => ?_) (fun c1 => ?_)
  · have c1 := b2i_nz c1
    obtain ⟨w, hw, rfl⟩ := (inB_iff (by omega)).mp c1
    refine X_run rfl trivial ?_
    refine X_cV (args := [.int (nI w)]) rfl (by decide) hx.1 rfl rfl (Nat.le_of_ble_eq_true rfl) (c_counted hX hW hR (by omega)) ?_
    rintro _ _ ⟨rfl, rfl⟩
    refine X_run rfl trivial ?_
    refine Eg.zx ?_
    refine X_iret rfl rfl ⟨rfl, _, ?_, rfl⟩
    rw [pCount, if_pos c1, iN_nI (by omega)]
  · exact X_throw ⟨rfl, rfl, rfl, rfl, rfl⟩ (by decide) rfl i_eB s_111 (Nat.zero_le _) (fun k => ⟨by rw [pCount, if_neg (fun z => by rw [b2i_zero.mp c1] at z; exact absurd z (by decide))], k, rfl⟩)
end PUB
