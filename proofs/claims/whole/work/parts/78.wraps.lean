section WRAPS
variable {g : GG} {d : Nat} {S : ShT} {D : DaT} {X : Nat} {K : KT} {T P : List Nat} {e : Int32} {p : Except String Int32}
theorem W_feed {a1 a2 a3 a4 a5 : Int32} (ht : s_tg S X = 10) (hW : WfK K) (hO : s_tg S (X + 340) = 21 ∧ s_ln S (X + 340) = 1) (hL : ∀ E, p = .error E → E ∈ [eS]) (h : EvX g d mX9_feed 1 6 [.ref X, .int a1, .int a2, .int a3, .int a4, .int a5] (md S D) (CalP S D X K T P e p) (CalX S D X K T P e p)) : EvW g (d + 1) mL_feed 1 6 [.ref X, .int a1, .int a2, .int a3, .int a4, .int a5, .ref (X + 340)] (md S D) (WraP S D X K T P e [eS] p) := by
  refine EvW.mk (by decide) (Nat.le_of_ble_eq_true rfl) ?_
  have v0 := li (n := 1) (0 : Int32) rfl (by decide) (by decide)
  refine X_run rfl trivial ?_
  refine X_callX (bc := 0) (bs := 0) (bc1 := 1) (bs1 := 6) (args := [.int a1, .int a2, .int a3, .int a4, .int a5]) rfl rfl (by decide) ht rfl rfl (Nat.le_of_ble_eq_true rfl) h ?_ ?_
  · rintro _ _ ⟨D1, r, hp, rfl, rfl, hd, ho⟩
    refine X_run rfl ?_ ?_
    · simp [md_s, md_w, rget, r_a, r_b, r_c, r_i, r_l, hO, v0]
    try simp only [md_s, md_w, rget_some, r_a, r_b, r_c, r_i, r_l, r_nx, r_pc, Nat.reduceEqDiff, false_and, if_false, hO, v0]
    exact X_iret rfl rfl (WraP.ok hW hp hd ho)
  · intro E M1 hx
    obtain ⟨D1, k, hp, hM, hd, ho⟩ := id hx
    have hm := hL E hp
    simp only [List.mem_cons, List.not_mem_nil, or_false] at hm
    subst hM
    rcases hm with rfl
    · refine ⟨19, by decide +kernel, fun q => ?_⟩
      refine X_run rfl trivial ?_
      exact X_iret rfl rfl (WraP.no hx rfl)
theorem W_trim {a1 : Int32} (ht : s_tg S X = 10) (hW : WfK K) (hO : s_tg S (X + 340) = 21 ∧ s_ln S (X + 340) = 1) (hL : ∀ E, p = .error E → E ∈ [eA]) (h : EvX g d mX9_trim 1 6 [.ref X, .int a1] (md S D) (CalP S D X K T P e p) (CalX S D X K T P e p)) : EvW g (d + 1) mL_trim 1 6 [.ref X, .int a1, .ref (X + 340)] (md S D) (WraP S D X K T P e [eA] p) := by
  refine EvW.mk (by decide) (Nat.le_of_ble_eq_true rfl) ?_
  have v0 := li (n := 1) (0 : Int32) rfl (by decide) (by decide)
  refine X_run rfl trivial ?_
  refine X_callX (bc := 0) (bs := 0) (bc1 := 1) (bs1 := 6) (args := [.int a1]) rfl rfl (by decide) ht rfl rfl (Nat.le_of_ble_eq_true rfl) h ?_ ?_
  · rintro _ _ ⟨D1, r, hp, rfl, rfl, hd, ho⟩
    refine X_run rfl ?_ ?_
    · simp [md_s, md_w, rget, r_a, r_b, r_c, r_i, r_l, hO, v0]
    try simp only [md_s, md_w, rget_some, r_a, r_b, r_c, r_i, r_l, r_nx, r_pc, Nat.reduceEqDiff, false_and, if_false, hO, v0]
    exact X_iret rfl rfl (WraP.ok hW hp hd ho)
  · intro E M1 hx
    obtain ⟨D1, k, hp, hM, hd, ho⟩ := id hx
    have hm := hL E hp
    simp only [List.mem_cons, List.not_mem_nil, or_false] at hm
    subst hM
    rcases hm with rfl
    · refine ⟨12, by decide +kernel, fun q => ?_⟩
      refine X_run rfl trivial ?_
      exact X_iret rfl rfl (WraP.no hx rfl)
theorem W_count {a1 : Int32} (ht : s_tg S X = 10) (hW : WfK K) (hO : s_tg S (X + 340) = 21 ∧ s_ln S (X + 340) = 1) (hL : ∀ E, p = .error E → E ∈ [eB]) (h : EvX g d mX9_count 1 6 [.ref X, .int a1] (md S D) (CalP S D X K T P e p) (CalX S D X K T P e p)) : EvW g (d + 1) mL_count 1 6 [.ref X, .int a1, .ref (X + 340)] (md S D) (WraP S D X K T P e [eB] p) := by
  refine EvW.mk (by decide) (Nat.le_of_ble_eq_true rfl) ?_
  have v0 := li (n := 1) (0 : Int32) rfl (by decide) (by decide)
  refine X_run rfl trivial ?_
  refine X_callX (bc := 0) (bs := 0) (bc1 := 1) (bs1 := 6) (args := [.int a1]) rfl rfl (by decide) ht rfl rfl (Nat.le_of_ble_eq_true rfl) h ?_ ?_
  · rintro _ _ ⟨D1, r, hp, rfl, rfl, hd, ho⟩
    refine X_run rfl ?_ ?_
    · simp [md_s, md_w, rget, r_a, r_b, r_c, r_i, r_l, hO, v0]
    try simp only [md_s, md_w, rget_some, r_a, r_b, r_c, r_i, r_l, r_nx, r_pc, Nat.reduceEqDiff, false_and, if_false, hO, v0]
    exact X_iret rfl rfl (WraP.ok hW hp hd ho)
  · intro E M1 hx
    obtain ⟨D1, k, hp, hM, hd, ho⟩ := id hx
    have hm := hL E hp
    simp only [List.mem_cons, List.not_mem_nil, or_false] at hm
    subst hM
    rcases hm with rfl
    · refine ⟨12, by decide +kernel, fun q => ?_⟩
      refine X_run rfl trivial ?_
      exact X_iret rfl rfl (WraP.no hx rfl)
theorem W_party {a1 a2 : Int32} (ht : s_tg S X = 10) (hW : WfK K) (hO : s_tg S (X + 340) = 21 ∧ s_ln S (X + 340) = 1) (hL : ∀ E, p = .error E → E ∈ [eB]) (h : EvX g d mX9_party 1 6 [.ref X, .int a1, .int a2] (md S D) (CalP S D X K T P e p) (CalX S D X K T P e p)) : EvW g (d + 1) mL_party 1 6 [.ref X, .int a1, .int a2, .ref (X + 340)] (md S D) (WraP S D X K T P e [eB] p) := by
  refine EvW.mk (by decide) (Nat.le_of_ble_eq_true rfl) ?_
  have v0 := li (n := 1) (0 : Int32) rfl (by decide) (by decide)
  refine X_run rfl trivial ?_
  refine X_callX (bc := 0) (bs := 0) (bc1 := 1) (bs1 := 6) (args := [.int a1, .int a2]) rfl rfl (by decide) ht rfl rfl (Nat.le_of_ble_eq_true rfl) h ?_ ?_
  · rintro _ _ ⟨D1, r, hp, rfl, rfl, hd, ho⟩
    refine X_run rfl ?_ ?_
    · simp [md_s, md_w, rget, r_a, r_b, r_c, r_i, r_l, hO, v0]
    try simp only [md_s, md_w, rget_some, r_a, r_b, r_c, r_i, r_l, r_nx, r_pc, Nat.reduceEqDiff, false_and, if_false, hO, v0]
    exact X_iret rfl rfl (WraP.ok hW hp hd ho)
  · intro E M1 hx
    obtain ⟨D1, k, hp, hM, hd, ho⟩ := id hx
    have hm := hL E hp
    simp only [List.mem_cons, List.not_mem_nil, or_false] at hm
    subst hM
    rcases hm with rfl
    · refine ⟨13, by decide +kernel, fun q => ?_⟩
      refine X_run rfl trivial ?_
      exact X_iret rfl rfl (WraP.no hx rfl)
theorem W_money {a1 a2 : Int32} (ht : s_tg S X = 10) (hW : WfK K) (hO : s_tg S (X + 340) = 21 ∧ s_ln S (X + 340) = 1) (hL : ∀ E, p = .error E → E ∈ [eB]) (h : EvX g d mX9_money 1 6 [.ref X, .int a1, .int a2] (md S D) (CalP S D X K T P e p) (CalX S D X K T P e p)) : EvW g (d + 1) mL_money 1 6 [.ref X, .int a1, .int a2, .ref (X + 340)] (md S D) (WraP S D X K T P e [eB] p) := by
  refine EvW.mk (by decide) (Nat.le_of_ble_eq_true rfl) ?_
  have v0 := li (n := 1) (0 : Int32) rfl (by decide) (by decide)
  refine X_run rfl trivial ?_
  refine X_callX (bc := 0) (bs := 0) (bc1 := 1) (bs1 := 6) (args := [.int a1, .int a2]) rfl rfl (by decide) ht rfl rfl (Nat.le_of_ble_eq_true rfl) h ?_ ?_
  · rintro _ _ ⟨D1, r, hp, rfl, rfl, hd, ho⟩
    refine X_run rfl ?_ ?_
    · simp [md_s, md_w, rget, r_a, r_b, r_c, r_i, r_l, hO, v0]
    try simp only [md_s, md_w, rget_some, r_a, r_b, r_c, r_i, r_l, r_nx, r_pc, Nat.reduceEqDiff, false_and, if_false, hO, v0]
    exact X_iret rfl rfl (WraP.ok hW hp hd ho)
  · intro E M1 hx
    obtain ⟨D1, k, hp, hM, hd, ho⟩ := id hx
    have hm := hL E hp
    simp only [List.mem_cons, List.not_mem_nil, or_false] at hm
    subst hM
    rcases hm with rfl
    · refine ⟨13, by decide +kernel, fun q => ?_⟩
      refine X_run rfl trivial ?_
      exact X_iret rfl rfl (WraP.no hx rfl)
theorem W_setRate {a1 a2 : Int32} (ht : s_tg S X = 10) (hW : WfK K) (hO : s_tg S (X + 340) = 21 ∧ s_ln S (X + 340) = 1) (hL : ∀ E, p = .error E → E ∈ [eB, eA]) (h : EvX g d mX9_setRate 1 6 [.ref X, .int a1, .int a2] (md S D) (CalP S D X K T P e p) (CalX S D X K T P e p)) : EvW g (d + 1) mL_setRate 1 6 [.ref X, .int a1, .int a2, .ref (X + 340)] (md S D) (WraP S D X K T P e [eB, eA] p) := by
  refine EvW.mk (by decide) (Nat.le_of_ble_eq_true rfl) ?_
  have v0 := li (n := 1) (0 : Int32) rfl (by decide) (by decide)
  refine X_run rfl trivial ?_
  refine X_callX (bc := 0) (bs := 0) (bc1 := 1) (bs1 := 6) (args := [.int a1, .int a2]) rfl rfl (by decide) ht rfl rfl (Nat.le_of_ble_eq_true rfl) h ?_ ?_
  · rintro _ _ ⟨D1, r, hp, rfl, rfl, hd, ho⟩
    refine X_run rfl ?_ ?_
    · simp [md_s, md_w, rget, r_a, r_b, r_c, r_i, r_l, hO, v0]
    try simp only [md_s, md_w, rget_some, r_a, r_b, r_c, r_i, r_l, r_nx, r_pc, Nat.reduceEqDiff, false_and, if_false, hO, v0]
    exact X_iret rfl rfl (WraP.ok hW hp hd ho)
  · intro E M1 hx
    obtain ⟨D1, k, hp, hM, hd, ho⟩ := id hx
    have hm := hL E hp
    simp only [List.mem_cons, List.not_mem_nil, or_false] at hm
    subst hM
    rcases hm with rfl | rfl
    · refine ⟨13, by decide +kernel, fun q => ?_⟩
      refine X_run rfl trivial ?_
      exact X_iret rfl rfl (WraP.no hx rfl)
    · refine ⟨17, by decide +kernel, fun q => ?_⟩
      refine X_run rfl trivial ?_
      exact X_iret rfl rfl (WraP.no hx rfl)
theorem W_has {a1 a2 a3 : Int32} (ht : s_tg S X = 10) (hW : WfK K) (hO : s_tg S (X + 340) = 21 ∧ s_ln S (X + 340) = 1) (hL : ∀ E, p = .error E → E ∈ [eB]) (h : EvX g d mX9_has 1 6 [.ref X, .int a1, .int a2, .int a3] (md S D) (CalP S D X K T P e p) (CalX S D X K T P e p)) : EvW g (d + 1) mL_has 1 6 [.ref X, .int a1, .int a2, .int a3, .ref (X + 340)] (md S D) (WraP S D X K T P e [eB] p) := by
  refine EvW.mk (by decide) (Nat.le_of_ble_eq_true rfl) ?_
  have v0 := li (n := 1) (0 : Int32) rfl (by decide) (by decide)
  refine X_run rfl trivial ?_
  refine X_callX (bc := 0) (bs := 0) (bc1 := 1) (bs1 := 6) (args := [.int a1, .int a2, .int a3]) rfl rfl (by decide) ht rfl rfl (Nat.le_of_ble_eq_true rfl) h ?_ ?_
  · rintro _ _ ⟨D1, r, hp, rfl, rfl, hd, ho⟩
    refine X_run rfl ?_ ?_
    · simp [md_s, md_w, rget, r_a, r_b, r_c, r_i, r_l, hO, v0]
    try simp only [md_s, md_w, rget_some, r_a, r_b, r_c, r_i, r_l, r_nx, r_pc, Nat.reduceEqDiff, false_and, if_false, hO, v0]
    exact X_iret rfl rfl (WraP.ok hW hp hd ho)
  · intro E M1 hx
    obtain ⟨D1, k, hp, hM, hd, ho⟩ := id hx
    have hm := hL E hp
    simp only [List.mem_cons, List.not_mem_nil, or_false] at hm
    subst hM
    rcases hm with rfl
    · refine ⟨15, by decide +kernel, fun q => ?_⟩
      refine X_run rfl trivial ?_
      exact X_iret rfl rfl (WraP.no hx rfl)
theorem W_deposit {a1 a2 a3 : Int32} (ht : s_tg S X = 10) (hW : WfK K) (hO : s_tg S (X + 340) = 21 ∧ s_ln S (X + 340) = 1) (hL : ∀ E, p = .error E → E ∈ [eB, eA]) (h : EvX g d mX9_deposit 1 6 [.ref X, .int a1, .int a2, .int a3] (md S D) (CalP S D X K T P e p) (CalX S D X K T P e p)) : EvW g (d + 1) mL_deposit 1 6 [.ref X, .int a1, .int a2, .int a3, .ref (X + 340)] (md S D) (WraP S D X K T P e [eB, eA] p) := by
  refine EvW.mk (by decide) (Nat.le_of_ble_eq_true rfl) ?_
  have v0 := li (n := 1) (0 : Int32) rfl (by decide) (by decide)
  refine X_run rfl trivial ?_
  refine X_callX (bc := 0) (bs := 0) (bc1 := 1) (bs1 := 6) (args := [.int a1, .int a2, .int a3]) rfl rfl (by decide) ht rfl rfl (Nat.le_of_ble_eq_true rfl) h ?_ ?_
  · rintro _ _ ⟨D1, r, hp, rfl, rfl, hd, ho⟩
    refine X_run rfl ?_ ?_
    · simp [md_s, md_w, rget, r_a, r_b, r_c, r_i, r_l, hO, v0]
    try simp only [md_s, md_w, rget_some, r_a, r_b, r_c, r_i, r_l, r_nx, r_pc, Nat.reduceEqDiff, false_and, if_false, hO, v0]
    exact X_iret rfl rfl (WraP.ok hW hp hd ho)
  · intro E M1 hx
    obtain ⟨D1, k, hp, hM, hd, ho⟩ := id hx
    have hm := hL E hp
    simp only [List.mem_cons, List.not_mem_nil, or_false] at hm
    subst hM
    rcases hm with rfl | rfl
    · refine ⟨15, by decide +kernel, fun q => ?_⟩
      refine X_run rfl trivial ?_
      exact X_iret rfl rfl (WraP.no hx rfl)
    · refine ⟨19, by decide +kernel, fun q => ?_⟩
      refine X_run rfl trivial ?_
      exact X_iret rfl rfl (WraP.no hx rfl)
theorem W_withdraw {a1 a2 a3 : Int32} (ht : s_tg S X = 10) (hW : WfK K) (hO : s_tg S (X + 340) = 21 ∧ s_ln S (X + 340) = 1) (hL : ∀ E, p = .error E → E ∈ [eB, eA, eS]) (h : EvX g d mX9_withdraw 1 6 [.ref X, .int a1, .int a2, .int a3] (md S D) (CalP S D X K T P e p) (CalX S D X K T P e p)) : EvW g (d + 1) mL_withdraw 1 6 [.ref X, .int a1, .int a2, .int a3, .ref (X + 340)] (md S D) (WraP S D X K T P e [eB, eA, eS] p) := by
  refine EvW.mk (by decide) (Nat.le_of_ble_eq_true rfl) ?_
  have v0 := li (n := 1) (0 : Int32) rfl (by decide) (by decide)
  refine X_run rfl trivial ?_
  refine X_callX (bc := 0) (bs := 0) (bc1 := 1) (bs1 := 6) (args := [.int a1, .int a2, .int a3]) rfl rfl (by decide) ht rfl rfl (Nat.le_of_ble_eq_true rfl) h ?_ ?_
  · rintro _ _ ⟨D1, r, hp, rfl, rfl, hd, ho⟩
    refine X_run rfl ?_ ?_
    · simp [md_s, md_w, rget, r_a, r_b, r_c, r_i, r_l, hO, v0]
    try simp only [md_s, md_w, rget_some, r_a, r_b, r_c, r_i, r_l, r_nx, r_pc, Nat.reduceEqDiff, false_and, if_false, hO, v0]
    exact X_iret rfl rfl (WraP.ok hW hp hd ho)
  · intro E M1 hx
    obtain ⟨D1, k, hp, hM, hd, ho⟩ := id hx
    have hm := hL E hp
    simp only [List.mem_cons, List.not_mem_nil, or_false] at hm
    subst hM
    rcases hm with rfl | rfl | rfl
    · refine ⟨15, by decide +kernel, fun q => ?_⟩
      refine X_run rfl trivial ?_
      exact X_iret rfl rfl (WraP.no hx rfl)
    · refine ⟨19, by decide +kernel, fun q => ?_⟩
      refine X_run rfl trivial ?_
      exact X_iret rfl rfl (WraP.no hx rfl)
    · refine ⟨23, by decide +kernel, fun q => ?_⟩
      refine X_run rfl trivial ?_
      exact X_iret rfl rfl (WraP.no hx rfl)
theorem W_pledge {a1 a2 a3 : Int32} (ht : s_tg S X = 10) (hW : WfK K) (hO : s_tg S (X + 340) = 21 ∧ s_ln S (X + 340) = 1) (hL : ∀ E, p = .error E → E ∈ [eB, eA, eS]) (h : EvX g d mX9_pledge 1 6 [.ref X, .int a1, .int a2, .int a3] (md S D) (CalP S D X K T P e p) (CalX S D X K T P e p)) : EvW g (d + 1) mL_pledge 1 6 [.ref X, .int a1, .int a2, .int a3, .ref (X + 340)] (md S D) (WraP S D X K T P e [eB, eA, eS] p) := by
  refine EvW.mk (by decide) (Nat.le_of_ble_eq_true rfl) ?_
  have v0 := li (n := 1) (0 : Int32) rfl (by decide) (by decide)
  refine X_run rfl trivial ?_
  refine X_callX (bc := 0) (bs := 0) (bc1 := 1) (bs1 := 6) (args := [.int a1, .int a2, .int a3]) rfl rfl (by decide) ht rfl rfl (Nat.le_of_ble_eq_true rfl) h ?_ ?_
  · rintro _ _ ⟨D1, r, hp, rfl, rfl, hd, ho⟩
    refine X_run rfl ?_ ?_
    · simp [md_s, md_w, rget, r_a, r_b, r_c, r_i, r_l, hO, v0]
    try simp only [md_s, md_w, rget_some, r_a, r_b, r_c, r_i, r_l, r_nx, r_pc, Nat.reduceEqDiff, false_and, if_false, hO, v0]
    exact X_iret rfl rfl (WraP.ok hW hp hd ho)
  · intro E M1 hx
    obtain ⟨D1, k, hp, hM, hd, ho⟩ := id hx
    have hm := hL E hp
    simp only [List.mem_cons, List.not_mem_nil, or_false] at hm
    subst hM
    rcases hm with rfl | rfl | rfl
    · refine ⟨15, by decide +kernel, fun q => ?_⟩
      refine X_run rfl trivial ?_
      exact X_iret rfl rfl (WraP.no hx rfl)
    · refine ⟨19, by decide +kernel, fun q => ?_⟩
      refine X_run rfl trivial ?_
      exact X_iret rfl rfl (WraP.no hx rfl)
    · refine ⟨23, by decide +kernel, fun q => ?_⟩
      refine X_run rfl trivial ?_
      exact X_iret rfl rfl (WraP.no hx rfl)
theorem W_payment {a1 a2 : Int32} (ht : s_tg S X = 10) (hW : WfK K) (hO : s_tg S (X + 340) = 21 ∧ s_ln S (X + 340) = 1) (hL : ∀ E, p = .error E → E ∈ [eB]) (h : EvX g d mX9_payment 1 6 [.ref X, .int a1, .int a2] (md S D) (CalP S D X K T P e p) (CalX S D X K T P e p)) : EvW g (d + 1) mL_payment 1 6 [.ref X, .int a1, .int a2, .ref (X + 340)] (md S D) (WraP S D X K T P e [eB] p) := by
  refine EvW.mk (by decide) (Nat.le_of_ble_eq_true rfl) ?_
  have v0 := li (n := 1) (0 : Int32) rfl (by decide) (by decide)
  refine X_run rfl trivial ?_
  refine X_callX (bc := 0) (bs := 0) (bc1 := 1) (bs1 := 6) (args := [.int a1, .int a2]) rfl rfl (by decide) ht rfl rfl (Nat.le_of_ble_eq_true rfl) h ?_ ?_
  · rintro _ _ ⟨D1, r, hp, rfl, rfl, hd, ho⟩
    refine X_run rfl ?_ ?_
    · simp [md_s, md_w, rget, r_a, r_b, r_c, r_i, r_l, hO, v0]
    try simp only [md_s, md_w, rget_some, r_a, r_b, r_c, r_i, r_l, r_nx, r_pc, Nat.reduceEqDiff, false_and, if_false, hO, v0]
    exact X_iret rfl rfl (WraP.ok hW hp hd ho)
  · intro E M1 hx
    obtain ⟨D1, k, hp, hM, hd, ho⟩ := id hx
    have hm := hL E hp
    simp only [List.mem_cons, List.not_mem_nil, or_false] at hm
    subst hM
    rcases hm with rfl
    · refine ⟨13, by decide +kernel, fun q => ?_⟩
      refine X_run rfl trivial ?_
      exact X_iret rfl rfl (WraP.no hx rfl)
theorem W_amend {a1 a2 : Int32} (ht : s_tg S X = 10) (hW : WfK K) (hO : s_tg S (X + 340) = 21 ∧ s_ln S (X + 340) = 1) (hL : ∀ E, p = .error E → E ∈ [eB, eA, eS]) (h : EvX g d mX9_amend 1 6 [.ref X, .int a1, .int a2] (md S D) (CalP S D X K T P e p) (CalX S D X K T P e p)) : EvW g (d + 1) mL_amend 1 6 [.ref X, .int a1, .int a2, .ref (X + 340)] (md S D) (WraP S D X K T P e [eB, eA, eS] p) := by
  refine EvW.mk (by decide) (Nat.le_of_ble_eq_true rfl) ?_
  have v0 := li (n := 1) (0 : Int32) rfl (by decide) (by decide)
  refine X_run rfl trivial ?_
  refine X_callX (bc := 0) (bs := 0) (bc1 := 1) (bs1 := 6) (args := [.int a1, .int a2]) rfl rfl (by decide) ht rfl rfl (Nat.le_of_ble_eq_true rfl) h ?_ ?_
  · rintro _ _ ⟨D1, r, hp, rfl, rfl, hd, ho⟩
    refine X_run rfl ?_ ?_
    · simp [md_s, md_w, rget, r_a, r_b, r_c, r_i, r_l, hO, v0]
    try simp only [md_s, md_w, rget_some, r_a, r_b, r_c, r_i, r_l, r_nx, r_pc, Nat.reduceEqDiff, false_and, if_false, hO, v0]
    exact X_iret rfl rfl (WraP.ok hW hp hd ho)
  · intro E M1 hx
    obtain ⟨D1, k, hp, hM, hd, ho⟩ := id hx
    have hm := hL E hp
    simp only [List.mem_cons, List.not_mem_nil, or_false] at hm
    subst hM
    rcases hm with rfl | rfl | rfl
    · refine ⟨13, by decide +kernel, fun q => ?_⟩
      refine X_run rfl trivial ?_
      exact X_iret rfl rfl (WraP.no hx rfl)
    · refine ⟨17, by decide +kernel, fun q => ?_⟩
      refine X_run rfl trivial ?_
      exact X_iret rfl rfl (WraP.no hx rfl)
    · refine ⟨21, by decide +kernel, fun q => ?_⟩
      refine X_run rfl trivial ?_
      exact X_iret rfl rfl (WraP.no hx rfl)
theorem W_putOff {a1 a2 : Int32} (ht : s_tg S X = 10) (hW : WfK K) (hO : s_tg S (X + 340) = 21 ∧ s_ln S (X + 340) = 1) (hL : ∀ E, p = .error E → E ∈ [eB, eA, eS]) (h : EvX g d mX9_putOff 1 6 [.ref X, .int a1, .int a2] (md S D) (CalP S D X K T P e p) (CalX S D X K T P e p)) : EvW g (d + 1) mL_putOff 1 6 [.ref X, .int a1, .int a2, .ref (X + 340)] (md S D) (WraP S D X K T P e [eB, eA, eS] p) := by
  refine EvW.mk (by decide) (Nat.le_of_ble_eq_true rfl) ?_
  have v0 := li (n := 1) (0 : Int32) rfl (by decide) (by decide)
  refine X_run rfl trivial ?_
  refine X_callX (bc := 0) (bs := 0) (bc1 := 1) (bs1 := 6) (args := [.int a1, .int a2]) rfl rfl (by decide) ht rfl rfl (Nat.le_of_ble_eq_true rfl) h ?_ ?_
  · rintro _ _ ⟨D1, r, hp, rfl, rfl, hd, ho⟩
    refine X_run rfl ?_ ?_
    · simp [md_s, md_w, rget, r_a, r_b, r_c, r_i, r_l, hO, v0]
    try simp only [md_s, md_w, rget_some, r_a, r_b, r_c, r_i, r_l, r_nx, r_pc, Nat.reduceEqDiff, false_and, if_false, hO, v0]
    exact X_iret rfl rfl (WraP.ok hW hp hd ho)
  · intro E M1 hx
    obtain ⟨D1, k, hp, hM, hd, ho⟩ := id hx
    have hm := hL E hp
    simp only [List.mem_cons, List.not_mem_nil, or_false] at hm
    subst hM
    rcases hm with rfl | rfl | rfl
    · refine ⟨13, by decide +kernel, fun q => ?_⟩
      refine X_run rfl trivial ?_
      exact X_iret rfl rfl (WraP.no hx rfl)
    · refine ⟨17, by decide +kernel, fun q => ?_⟩
      refine X_run rfl trivial ?_
      exact X_iret rfl rfl (WraP.no hx rfl)
    · refine ⟨21, by decide +kernel, fun q => ?_⟩
      refine X_run rfl trivial ?_
      exact X_iret rfl rfl (WraP.no hx rfl)
theorem W_owes {a1 a2 a3 : Int32} (ht : s_tg S X = 10) (hW : WfK K) (hO : s_tg S (X + 340) = 21 ∧ s_ln S (X + 340) = 1) (hL : ∀ E, p = .error E → E ∈ [eB]) (h : EvX g d mX9_owes 1 6 [.ref X, .int a1, .int a2, .int a3] (md S D) (CalP S D X K T P e p) (CalX S D X K T P e p)) : EvW g (d + 1) mL_owes 1 6 [.ref X, .int a1, .int a2, .int a3, .ref (X + 340)] (md S D) (WraP S D X K T P e [eB] p) := by
  refine EvW.mk (by decide) (Nat.le_of_ble_eq_true rfl) ?_
  have v0 := li (n := 1) (0 : Int32) rfl (by decide) (by decide)
  refine X_run rfl trivial ?_
  refine X_callX (bc := 0) (bs := 0) (bc1 := 1) (bs1 := 6) (args := [.int a1, .int a2, .int a3]) rfl rfl (by decide) ht rfl rfl (Nat.le_of_ble_eq_true rfl) h ?_ ?_
  · rintro _ _ ⟨D1, r, hp, rfl, rfl, hd, ho⟩
    refine X_run rfl ?_ ?_
    · simp [md_s, md_w, rget, r_a, r_b, r_c, r_i, r_l, hO, v0]
    try simp only [md_s, md_w, rget_some, r_a, r_b, r_c, r_i, r_l, r_nx, r_pc, Nat.reduceEqDiff, false_and, if_false, hO, v0]
    exact X_iret rfl rfl (WraP.ok hW hp hd ho)
  · intro E M1 hx
    obtain ⟨D1, k, hp, hM, hd, ho⟩ := id hx
    have hm := hL E hp
    simp only [List.mem_cons, List.not_mem_nil, or_false] at hm
    subst hM
    rcases hm with rfl
    · refine ⟨15, by decide +kernel, fun q => ?_⟩
      refine X_run rfl trivial ?_
      exact X_iret rfl rfl (WraP.no hx rfl)
theorem W_pass {a1 : Int32} (ht : s_tg S X = 10) (hW : WfK K) (hO : s_tg S (X + 340) = 21 ∧ s_ln S (X + 340) = 1) (hL : ∀ E, p = .error E → E ∈ [eA]) (h : EvX g d mX9_pass 1 6 [.ref X, .int a1] (md S D) (CalP S D X K T P e p) (CalX S D X K T P e p)) : EvW g (d + 1) mL_pass 1 6 [.ref X, .int a1, .ref (X + 340)] (md S D) (WraP S D X K T P e [eA] p) := by
  refine EvW.mk (by decide) (Nat.le_of_ble_eq_true rfl) ?_
  have v0 := li (n := 1) (0 : Int32) rfl (by decide) (by decide)
  refine X_run rfl trivial ?_
  refine X_callX (bc := 0) (bs := 0) (bc1 := 1) (bs1 := 6) (args := [.int a1]) rfl rfl (by decide) ht rfl rfl (Nat.le_of_ble_eq_true rfl) h ?_ ?_
  · rintro _ _ ⟨D1, r, hp, rfl, rfl, hd, ho⟩
    refine X_run rfl ?_ ?_
    · simp [md_s, md_w, rget, r_a, r_b, r_c, r_i, r_l, hO, v0]
    try simp only [md_s, md_w, rget_some, r_a, r_b, r_c, r_i, r_l, r_nx, r_pc, Nat.reduceEqDiff, false_and, if_false, hO, v0]
    exact X_iret rfl rfl (WraP.ok hW hp hd ho)
  · intro E M1 hx
    obtain ⟨D1, k, hp, hM, hd, ho⟩ := id hx
    have hm := hL E hp
    simp only [List.mem_cons, List.not_mem_nil, or_false] at hm
    subst hM
    rcases hm with rfl
    · refine ⟨12, by decide +kernel, fun q => ?_⟩
      refine X_run rfl trivial ?_
      exact X_iret rfl rfl (WraP.no hx rfl)
theorem W_run {a1 : Int32} (ht : s_tg S X = 10) (hW : WfK K) (hO : s_tg S (X + 340) = 21 ∧ s_ln S (X + 340) = 1) (hL : ∀ E, p = .error E → E ∈ [eB]) (h : EvX g d mX9_run 1 6 [.ref X, .int a1] (md S D) (CalP S D X K T P e p) (CalX S D X K T P e p)) : EvW g (d + 1) mL_run 1 6 [.ref X, .int a1, .ref (X + 340)] (md S D) (WraP S D X K T P e [eB] p) := by
  refine EvW.mk (by decide) (Nat.le_of_ble_eq_true rfl) ?_
  have v0 := li (n := 1) (0 : Int32) rfl (by decide) (by decide)
  refine X_run rfl trivial ?_
  refine X_callX (bc := 0) (bs := 0) (bc1 := 1) (bs1 := 6) (args := [.int a1]) rfl rfl (by decide) ht rfl rfl (Nat.le_of_ble_eq_true rfl) h ?_ ?_
  · rintro _ _ ⟨D1, r, hp, rfl, rfl, hd, ho⟩
    refine X_run rfl ?_ ?_
    · simp [md_s, md_w, rget, r_a, r_b, r_c, r_i, r_l, hO, v0]
    try simp only [md_s, md_w, rget_some, r_a, r_b, r_c, r_i, r_l, r_nx, r_pc, Nat.reduceEqDiff, false_and, if_false, hO, v0]
    exact X_iret rfl rfl (WraP.ok hW hp hd ho)
  · intro E M1 hx
    obtain ⟨D1, k, hp, hM, hd, ho⟩ := id hx
    have hm := hL E hp
    simp only [List.mem_cons, List.not_mem_nil, or_false] at hm
    subst hM
    rcases hm with rfl
    · refine ⟨12, by decide +kernel, fun q => ?_⟩
      refine X_run rfl trivial ?_
      exact X_iret rfl rfl (WraP.no hx rfl)
theorem W_settles {a1 : Int32} (ht : s_tg S X = 10) (hW : WfK K) (hO : s_tg S (X + 340) = 21 ∧ s_ln S (X + 340) = 1) (hL : ∀ E, p = .error E → E ∈ [eB]) (hb : ∀ r, p = .ok r → r = 0 ∨ r = 1) (h : EvX g d mX9_settles 1 6 [.ref X, .int a1] (md S D) (CalP S D X K T P e p) (CalX S D X K T P e p)) : EvW g (d + 1) mL_settles 1 6 [.ref X, .int a1, .ref (X + 340)] (md S D) (WraP S D X K T P e [eB] p) := by
  refine EvW.mk (by decide) (Nat.le_of_ble_eq_true rfl) ?_
  have v0 := li (n := 1) (0 : Int32) rfl (by decide) (by decide)
  refine X_run rfl trivial ?_
  refine X_callX (bc := 0) (bs := 0) (bc1 := 1) (bs1 := 6) (args := [.int a1]) rfl rfl (by decide) ht rfl rfl (Nat.le_of_ble_eq_true rfl) h ?_ ?_
  · rintro _ _ ⟨D1, r, hp, rfl, rfl, hd, ho⟩
    rcases hb r hp with rfl | rfl
    · refine X_if_eq rfl (fun _ => ?_) (fun h => absurd rfl h)
      refine X_run rfl ?_ ?_
      · simp [md_s, md_w, rget, r_a, r_b, r_c, r_i, r_l, hO, v0]
      try simp only [md_s, md_w, rget_some, r_a, r_b, r_c, r_i, r_l, r_nx, r_pc, Nat.reduceEqDiff, false_and, if_false, hO, v0]
      exact X_iret rfl rfl (WraP.ok (r := 0) hW hp hd ho)
    · refine X_if_eq rfl (fun h => absurd h (by decide)) (fun _ => ?_)
      refine X_run rfl ?_ ?_
      · simp [md_s, md_w, rget, r_a, r_b, r_c, r_i, r_l, hO, v0]
      try simp only [md_s, md_w, rget_some, r_a, r_b, r_c, r_i, r_l, r_nx, r_pc, Nat.reduceEqDiff, false_and, if_false, hO, v0]
      exact X_iret rfl rfl (WraP.ok (r := 1) hW hp hd ho)
  · intro E M1 hx
    obtain ⟨D1, k, hp, hM, hd, ho⟩ := id hx
    have hm := hL E hp
    simp only [List.mem_cons, List.not_mem_nil, or_false] at hm
    subst hM
    rcases hm with rfl
    · refine ⟨19, by decide +kernel, fun q => ?_⟩
      refine X_run rfl trivial ?_
      exact X_iret rfl rfl (WraP.no hx rfl)
theorem W_when {a1 : Int32} (ht : s_tg S X = 10) (hW : WfK K) (hO : s_tg S (X + 340) = 21 ∧ s_ln S (X + 340) = 1) (hL : ∀ E, p = .error E → E ∈ [eB]) (h : EvX g d mX9_when 1 6 [.ref X, .int a1] (md S D) (CalP S D X K T P e p) (CalX S D X K T P e p)) : EvW g (d + 1) mL_when 1 6 [.ref X, .int a1, .ref (X + 340)] (md S D) (WraP S D X K T P e [eB] p) := by
  refine EvW.mk (by decide) (Nat.le_of_ble_eq_true rfl) ?_
  have v0 := li (n := 1) (0 : Int32) rfl (by decide) (by decide)
  refine X_run rfl trivial ?_
  refine X_callX (bc := 0) (bs := 0) (bc1 := 1) (bs1 := 6) (args := [.int a1]) rfl rfl (by decide) ht rfl rfl (Nat.le_of_ble_eq_true rfl) h ?_ ?_
  · rintro _ _ ⟨D1, r, hp, rfl, rfl, hd, ho⟩
    refine X_run rfl ?_ ?_
    · simp [md_s, md_w, rget, r_a, r_b, r_c, r_i, r_l, hO, v0]
    try simp only [md_s, md_w, rget_some, r_a, r_b, r_c, r_i, r_l, r_nx, r_pc, Nat.reduceEqDiff, false_and, if_false, hO, v0]
    exact X_iret rfl rfl (WraP.ok hW hp hd ho)
  · intro E M1 hx
    obtain ⟨D1, k, hp, hM, hd, ho⟩ := id hx
    have hm := hL E hp
    simp only [List.mem_cons, List.not_mem_nil, or_false] at hm
    subst hM
    rcases hm with rfl
    · refine ⟨12, by decide +kernel, fun q => ?_⟩
      refine X_run rfl trivial ?_
      exact X_iret rfl rfl (WraP.no hx rfl)
theorem W_frees {a1 a2 : Int32} (ht : s_tg S X = 10) (hW : WfK K) (hO : s_tg S (X + 340) = 21 ∧ s_ln S (X + 340) = 1) (hL : ∀ E, p = .error E → E ∈ [eB]) (h : EvX g d mX9_frees 1 6 [.ref X, .int a1, .int a2] (md S D) (CalP S D X K T P e p) (CalX S D X K T P e p)) : EvW g (d + 1) mL_frees 1 6 [.ref X, .int a1, .int a2, .ref (X + 340)] (md S D) (WraP S D X K T P e [eB] p) := by
  refine EvW.mk (by decide) (Nat.le_of_ble_eq_true rfl) ?_
  have v0 := li (n := 1) (0 : Int32) rfl (by decide) (by decide)
  refine X_run rfl trivial ?_
  refine X_callX (bc := 0) (bs := 0) (bc1 := 1) (bs1 := 6) (args := [.int a1, .int a2]) rfl rfl (by decide) ht rfl rfl (Nat.le_of_ble_eq_true rfl) h ?_ ?_
  · rintro _ _ ⟨D1, r, hp, rfl, rfl, hd, ho⟩
    refine X_run rfl ?_ ?_
    · simp [md_s, md_w, rget, r_a, r_b, r_c, r_i, r_l, hO, v0]
    try simp only [md_s, md_w, rget_some, r_a, r_b, r_c, r_i, r_l, r_nx, r_pc, Nat.reduceEqDiff, false_and, if_false, hO, v0]
    exact X_iret rfl rfl (WraP.ok hW hp hd ho)
  · intro E M1 hx
    obtain ⟨D1, k, hp, hM, hd, ho⟩ := id hx
    have hm := hL E hp
    simp only [List.mem_cons, List.not_mem_nil, or_false] at hm
    subst hM
    rcases hm with rfl
    · refine ⟨13, by decide +kernel, fun q => ?_⟩
      refine X_run rfl trivial ?_
      exact X_iret rfl rfl (WraP.no hx rfl)
theorem W_advise {a1 a2 : Int32} (ht : s_tg S X = 10) (hW : WfK K) (hO : s_tg S (X + 340) = 21 ∧ s_ln S (X + 340) = 1) (hL : ∀ E, p = .error E → E ∈ [eB, eA]) (h : EvX g d mX9_advise 1 6 [.ref X, .int a1, .int a2] (md S D) (CalP S D X K T P e p) (CalX S D X K T P e p)) : EvW g (d + 1) mL_advise 1 6 [.ref X, .int a1, .int a2, .ref (X + 340)] (md S D) (WraP S D X K T P e [eB, eA] p) := by
  refine EvW.mk (by decide) (Nat.le_of_ble_eq_true rfl) ?_
  have v0 := li (n := 1) (0 : Int32) rfl (by decide) (by decide)
  refine X_run rfl trivial ?_
  refine X_callX (bc := 0) (bs := 0) (bc1 := 1) (bs1 := 6) (args := [.int a1, .int a2]) rfl rfl (by decide) ht rfl rfl (Nat.le_of_ble_eq_true rfl) h ?_ ?_
  · rintro _ _ ⟨D1, r, hp, rfl, rfl, hd, ho⟩
    refine X_run rfl ?_ ?_
    · simp [md_s, md_w, rget, r_a, r_b, r_c, r_i, r_l, hO, v0]
    try simp only [md_s, md_w, rget_some, r_a, r_b, r_c, r_i, r_l, r_nx, r_pc, Nat.reduceEqDiff, false_and, if_false, hO, v0]
    exact X_iret rfl rfl (WraP.ok hW hp hd ho)
  · intro E M1 hx
    obtain ⟨D1, k, hp, hM, hd, ho⟩ := id hx
    have hm := hL E hp
    simp only [List.mem_cons, List.not_mem_nil, or_false] at hm
    subst hM
    rcases hm with rfl | rfl
    · refine ⟨13, by decide +kernel, fun q => ?_⟩
      refine X_run rfl trivial ?_
      exact X_iret rfl rfl (WraP.no hx rfl)
    · refine ⟨17, by decide +kernel, fun q => ?_⟩
      refine X_run rfl trivial ?_
      exact X_iret rfl rfl (WraP.no hx rfl)
theorem W_ring {a1 : Int32} (ht : s_tg S X = 10) (hW : WfK K) (hO : s_tg S (X + 340) = 21 ∧ s_ln S (X + 340) = 1) (hL : ∀ E, p = .error E → E ∈ [eB]) (h : EvX g d mX9_ring 1 6 [.ref X, .int a1] (md S D) (CalP S D X K T P e p) (CalX S D X K T P e p)) : EvW g (d + 1) mL_ring 1 6 [.ref X, .int a1, .ref (X + 340)] (md S D) (WraP S D X K T P e [eB] p) := by
  refine EvW.mk (by decide) (Nat.le_of_ble_eq_true rfl) ?_
  have v0 := li (n := 1) (0 : Int32) rfl (by decide) (by decide)
  refine X_run rfl trivial ?_
  refine X_callX (bc := 0) (bs := 0) (bc1 := 1) (bs1 := 6) (args := [.int a1]) rfl rfl (by decide) ht rfl rfl (Nat.le_of_ble_eq_true rfl) h ?_ ?_
  · rintro _ _ ⟨D1, r, hp, rfl, rfl, hd, ho⟩
    refine X_run rfl ?_ ?_
    · simp [md_s, md_w, rget, r_a, r_b, r_c, r_i, r_l, hO, v0]
    try simp only [md_s, md_w, rget_some, r_a, r_b, r_c, r_i, r_l, r_nx, r_pc, Nat.reduceEqDiff, false_and, if_false, hO, v0]
    exact X_iret rfl rfl (WraP.ok hW hp hd ho)
  · intro E M1 hx
    obtain ⟨D1, k, hp, hM, hd, ho⟩ := id hx
    have hm := hL E hp
    simp only [List.mem_cons, List.not_mem_nil, or_false] at hm
    subst hM
    rcases hm with rfl
    · refine ⟨12, by decide +kernel, fun q => ?_⟩
      refine X_run rfl trivial ?_
      exact X_iret rfl rfl (WraP.no hx rfl)
theorem W_report {a1 : Int32} (ht : s_tg S X = 10) (hW : WfK K) (hO : s_tg S (X + 340) = 21 ∧ s_ln S (X + 340) = 1) (hL : ∀ E, p = .error E → E ∈ [eA]) (h : EvX g d mX9_report 1 6 [.ref X, .int a1] (md S D) (CalP S D X K T P e p) (CalX S D X K T P e p)) : EvW g (d + 1) mL_report 1 6 [.ref X, .int a1, .ref (X + 340)] (md S D) (WraP S D X K T P e [eA] p) := by
  refine EvW.mk (by decide) (Nat.le_of_ble_eq_true rfl) ?_
  have v0 := li (n := 1) (0 : Int32) rfl (by decide) (by decide)
  refine X_run rfl trivial ?_
  refine X_callX (bc := 0) (bs := 0) (bc1 := 1) (bs1 := 6) (args := [.int a1]) rfl rfl (by decide) ht rfl rfl (Nat.le_of_ble_eq_true rfl) h ?_ ?_
  · rintro _ _ ⟨D1, r, hp, rfl, rfl, hd, ho⟩
    refine X_run rfl ?_ ?_
    · simp [md_s, md_w, rget, r_a, r_b, r_c, r_i, r_l, hO, v0]
    try simp only [md_s, md_w, rget_some, r_a, r_b, r_c, r_i, r_l, r_nx, r_pc, Nat.reduceEqDiff, false_and, if_false, hO, v0]
    exact X_iret rfl rfl (WraP.ok hW hp hd ho)
  · intro E M1 hx
    obtain ⟨D1, k, hp, hM, hd, ho⟩ := id hx
    have hm := hL E hp
    simp only [List.mem_cons, List.not_mem_nil, or_false] at hm
    subst hM
    rcases hm with rfl
    · refine ⟨12, by decide +kernel, fun q => ?_⟩
      refine X_run rfl trivial ?_
      exact X_iret rfl rfl (WraP.no hx rfl)
theorem W_byteAt {a1 : Int32} (ht : s_tg S X = 10) (hW : WfK K) (hO : s_tg S (X + 340) = 21 ∧ s_ln S (X + 340) = 1) (hL : ∀ E, p = .error E → E ∈ [eB]) (h : EvX g d mX9_byteAt 1 6 [.ref X, .int a1] (md S D) (CalP S D X K T P e p) (CalX S D X K T P e p)) : EvW g (d + 1) mL_byteAt 1 6 [.ref X, .int a1, .ref (X + 340)] (md S D) (WraP S D X K T P e [eB] p) := by
  refine EvW.mk (by decide) (Nat.le_of_ble_eq_true rfl) ?_
  have v0 := li (n := 1) (0 : Int32) rfl (by decide) (by decide)
  refine X_run rfl trivial ?_
  refine X_callX (bc := 0) (bs := 0) (bc1 := 1) (bs1 := 6) (args := [.int a1]) rfl rfl (by decide) ht rfl rfl (Nat.le_of_ble_eq_true rfl) h ?_ ?_
  · rintro _ _ ⟨D1, r, hp, rfl, rfl, hd, ho⟩
    refine X_run rfl ?_ ?_
    · simp [md_s, md_w, rget, r_a, r_b, r_c, r_i, r_l, hO, v0]
    try simp only [md_s, md_w, rget_some, r_a, r_b, r_c, r_i, r_l, r_nx, r_pc, Nat.reduceEqDiff, false_and, if_false, hO, v0]
    exact X_iret rfl rfl (WraP.ok hW hp hd ho)
  · intro E M1 hx
    obtain ⟨D1, k, hp, hM, hd, ho⟩ := id hx
    have hm := hL E hp
    simp only [List.mem_cons, List.not_mem_nil, or_false] at hm
    subst hM
    rcases hm with rfl
    · refine ⟨12, by decide +kernel, fun q => ?_⟩
      refine X_run rfl trivial ?_
      exact X_iret rfl rfl (WraP.no hx rfl)
end WRAPS
