/-! names of the JDK's methods that String.length and charAt reach; their contracts -/
def RJ0 : String := "java/lang/String"
def RJ1 : String := "java/lang/StringLatin1"
def RJ3 : String := "jdk/internal/util/Preconditions"
abbrev cJ0_length_8abf5 : ByteArray := prog_20_method_54_code
def yJ0_length_8abf5 : MethodName := ⟨RJ0, "length", "()I"⟩
abbrev cJ0_charAt_5068e : ByteArray := prog_20_method_56_code
def yJ0_charAt_5068e : MethodName := ⟨RJ0, "charAt", "(I)C"⟩
abbrev cJ0_coder_7d493 : ByteArray := prog_20_method_152_code
def yJ0_coder_7d493 : MethodName := ⟨RJ0, "coder", "()B"⟩
abbrev cJ0_isLatin1_aae02 : ByteArray := prog_20_method_154_code
def yJ0_isLatin1_aae02 : MethodName := ⟨RJ0, "isLatin1", "()Z"⟩
abbrev cJ0_checkIndex_df160 : ByteArray := prog_20_method_155_code
def yJ0_checkIndex_df160 : MethodName := ⟨RJ0, "checkIndex", "(II)V"⟩
abbrev cJ1_charAt_3b067 : ByteArray := prog_21_method_2_code
def yJ1_charAt_3b067 : MethodName := ⟨RJ1, "charAt", "([BI)C"⟩
abbrev cJ3_checkIndex_8e157 : ByteArray := prog_25_method_11_code
def yJ3_checkIndex_8e157 : MethodName := ⟨RJ3, "checkIndex", "(IILjava/util/function/BiFunction;)I"⟩
section JCON
variable {g : GG} {d i : Nat} {M : Mem}
theorem jw1 : Cond.fieldLink RJ0 38 "java/lang/String" "COMPACT_STRINGS" "Z" ∈ T0 ∧ Cond.fieldLink RJ0 15 "java/lang/String" "coder" "B" ∈ T0 ∧ Cond.fieldLink RJ0 9 "java/lang/String" "value" "[B" ∈ T0 ∧ Cond.fieldLink RJ0 1053 "jdk/internal/util/Preconditions" "SIOOBE_FORMATTER" "Ljava/util/function/BiFunction;" ∈ T0 := by
  have h : ∀ w ∈ [Cond.fieldLink RJ0 38 "java/lang/String" "COMPACT_STRINGS" "Z", Cond.fieldLink RJ0 15 "java/lang/String" "coder" "B", Cond.fieldLink RJ0 9 "java/lang/String" "value" "[B", Cond.fieldLink RJ0 1053 "jdk/internal/util/Preconditions" "SIOOBE_FORMATTER" "Ljava/util/function/BiFunction;"], w ∈ T0 := inT0 (by decide +kernel)
  simp only [List.forall_mem_cons] at h
  exact ⟨h.1, h.2.1, h.2.2.1, h.2.2.2.1⟩
theorem j_coder (hi : i < 11) : EvJ g d yJ0_coder_7d493 cJ0_coder_7d493 1 (some .byte) [.ref (gSk g i)] M (fun v M1 => v = some (.int 0) ∧ M1 = M) := by
  refine EvJ.mk (by decide) (Nat.le_of_ble_eq_true rfl) ?_
  refine J_compact jw1.1 (by decide +kernel) ?_
  refine J_if_eq (o := 10) (t := 13) (by decide +kernel) rfl (fun z => absurd z (by decide)) (fun _ => ?_)
  refine J_aload (q := 0) (by decide +kernel) rfl rfl ?_
  refine J_coder hi jw1.2.1 (by decide +kernel) ?_
  refine J_goto (o := 4) (t := 14) (by decide +kernel) rfl ?_
  exact J_zret rfl rfl (by decide +kernel) ⟨rfl, rfl⟩
theorem j_isLatin1 (hi : i < 11) : EvJ g d yJ0_isLatin1_aae02 cJ0_isLatin1_aae02 1 (some .boolean) [.ref (gSk g i)] M (fun v M1 => v = some (.int 1) ∧ M1 = M) := by
  refine EvJ.mk (by decide) (Nat.le_of_ble_eq_true rfl) ?_
  refine J_compact jw1.1 (by decide +kernel) ?_
  refine J_if_eq (o := 14) (t := 17) (by decide +kernel) rfl (fun z => absurd z (by decide)) (fun _ => ?_)
  refine J_aload (q := 0) (by decide +kernel) rfl rfl ?_
  refine J_coder hi jw1.2.1 (by decide +kernel) ?_
  refine J_if_ne (o := 7) (t := 17) (by decide +kernel) rfl (fun z => absurd rfl z) (fun _ => ?_)
  refine J_iconst (i := 1) (by decide +kernel) rfl ?_
  refine J_goto (o := 4) (t := 18) (by decide +kernel) rfl ?_
  exact J_zret rfl rfl (by decide +kernel) ⟨rfl, rfl⟩
theorem jw_coder : WvJ RJ0 335 yJ0_coder_7d493 cJ0_coder_7d493 1 (some .byte) 0 ∧ (Cond.instanceMethod yJ0_coder_7d493 ∈ T0 ∧ Cond.selects "java/lang/String" yJ0_coder_7d493 yJ0_coder_7d493 ∈ T0) := by
  have h : ∀ w ∈ [Cond.methodLink RJ0 335 yJ0_coder_7d493, Cond.code yJ0_coder_7d493 cJ0_coder_7d493 1 (some .byte), Cond.initialized yJ0_coder_7d493.cls, Cond.instanceMethod yJ0_coder_7d493, Cond.selects "java/lang/String" yJ0_coder_7d493 yJ0_coder_7d493], w ∈ T0 := inT0 (by decide +kernel)
  simp only [List.forall_mem_cons] at h
  exact ⟨⟨⟨h.1, h.2.1, h.2.2.1⟩, by decide, ⟨by decide, by decide⟩, by decide +kernel⟩, h.2.2.2.1, h.2.2.2.2.1⟩
theorem j_length (hi : i < 11) : EvJ g (d + 1) yJ0_length_8abf5 cJ0_length_8abf5 1 (some .int) [.ref (gSk g i)] M (fun v M1 => v = some (.int (nI (smL.getD i 0))) ∧ M1 = M) := by
  refine EvJ.mk (by decide) (Nat.le_of_ble_eq_true rfl) ?_
  refine J_aload (q := 0) (by decide +kernel) rfl rfl ?_
  refine J_value hi jw1.2.2.1 (by decide +kernel) ?_
  refine J_alen hi (by decide +kernel) ?_
  refine J_aload (q := 0) (by decide +kernel) rfl rfl ?_
  refine J_callV (args := []) (ix := 335) hi jw_coder.1 jw_coder.2 rfl (Nat.le_of_ble_eq_true rfl) (by decide +kernel) (j_coder hi) ?_
  rintro _ _ ⟨rfl, rfl⟩
  refine J_ishr (by decide +kernel) ?_
  exact J_iret rfl (by decide +kernel) ⟨by rw [(sm_all i hi).1.2.2], rfl⟩
theorem j_check3 {j L : Nat} {v : Value} (hv : v = .null ∨ ∃ t, v = .ref t) (hj : j < L) (hL : L < 2 ^ 31) : EvJ g d yJ3_checkIndex_8e157 cJ3_checkIndex_8e157 3 (some .int) [.int (nI j), .int (nI L), v] M (fun v M1 => v = some (.int (nI j)) ∧ M1 = M) := by
  have h0 : ¬ nI j < 0 := Int32.not_lt.mpr (nI_ge0 (by omega))
  have h1 : nI j < nI L := Int32.lt_iff_toInt_lt.mpr (by rw [nI_toInt (by omega), nI_toInt hL]; omega)
  rcases hv with rfl | ⟨t, rfl⟩
  · refine EvJ.mk (by decide) (Nat.le_of_ble_eq_true rfl) ?_
    refine J_iload (q := 0) (by decide +kernel) rfl rfl ?_
    refine J_if_lt (o := 8) (t := 9) (by decide +kernel) rfl (fun z => absurd z h0) (fun _ => ?_)
    refine J_iload (q := 0) (by decide +kernel) rfl rfl ?_
    refine J_iload (q := 1) (by decide +kernel) rfl rfl ?_
    refine J_icmp_lt (o := 10) (t := 16) (by decide +kernel) rfl (fun _ => ?_) (fun z => absurd h1 z)
    refine J_iload (q := 0) (by decide +kernel) rfl rfl ?_
    exact J_iret rfl (by decide +kernel) ⟨rfl, rfl⟩
  · refine EvJ.mk (by decide) (Nat.le_of_ble_eq_true rfl) ?_
    refine J_iload (q := 0) (by decide +kernel) rfl rfl ?_
    refine J_if_lt (o := 8) (t := 9) (by decide +kernel) rfl (fun z => absurd z h0) (fun _ => ?_)
    refine J_iload (q := 0) (by decide +kernel) rfl rfl ?_
    refine J_iload (q := 1) (by decide +kernel) rfl rfl ?_
    refine J_icmp_lt (o := 10) (t := 16) (by decide +kernel) rfl (fun _ => ?_) (fun z => absurd h1 z)
    refine J_iload (q := 0) (by decide +kernel) rfl rfl ?_
    exact J_iret rfl (by decide +kernel) ⟨rfl, rfl⟩
theorem jw_check3 : WvJ RJ0 1059 yJ3_checkIndex_8e157 cJ3_checkIndex_8e157 3 (some .int) 3 ∧ Cond.static yJ3_checkIndex_8e157 ∈ T0 := by
  have h : ∀ w ∈ [Cond.methodLink RJ0 1059 yJ3_checkIndex_8e157, Cond.code yJ3_checkIndex_8e157 cJ3_checkIndex_8e157 3 (some .int), Cond.initialized yJ3_checkIndex_8e157.cls, Cond.static yJ3_checkIndex_8e157], w ∈ T0 := inT0 (by decide +kernel)
  simp only [List.forall_mem_cons] at h
  exact ⟨⟨⟨h.1, h.2.1, h.2.2.1⟩, by decide, ⟨by decide, by decide⟩, by decide +kernel⟩, h.2.2.2.1⟩
theorem j_check0 {j L : Nat} (hj : j < L) (hL : L < 2 ^ 31) : EvJ g (d + 1) yJ0_checkIndex_df160 cJ0_checkIndex_df160 2 none [.int (nI j), .int (nI L)] M (fun v M1 => v = none ∧ M1 = M) := by
  refine EvJ.mk (by decide) (Nat.le_of_ble_eq_true rfl) ?_
  refine J_iload (q := 0) (by decide +kernel) rfl rfl ?_
  refine J_iload (q := 1) (by decide +kernel) rfl rfl ?_
  refine J_sioobe jw1.2.2.2 (by decide +kernel) (fun v hv => ?_)
  refine J_callS (args := [.int (nI j), .int (nI L), v]) (rest := []) jw_check3.1 jw_check3.2 rfl (Nat.le_of_ble_eq_true rfl) (by decide +kernel) (j_check3 hv hj hL) ?_
  rintro _ _ ⟨rfl, rfl⟩
  refine J_pop (by decide +kernel) rfl ?_
  exact J_vret rfl (by decide +kernel) ⟨rfl, rfl⟩
theorem jw_check0 : WvJ RJ1 9 yJ0_checkIndex_df160 cJ0_checkIndex_df160 2 none 2 ∧ Cond.static yJ0_checkIndex_df160 ∈ T0 := by
  have h : ∀ w ∈ [Cond.methodLink RJ1 9 yJ0_checkIndex_df160, Cond.code yJ0_checkIndex_df160 cJ0_checkIndex_df160 2 none, Cond.initialized yJ0_checkIndex_df160.cls, Cond.static yJ0_checkIndex_df160], w ∈ T0 := inT0 (by decide +kernel)
  simp only [List.forall_mem_cons] at h
  exact ⟨⟨⟨h.1, h.2.1, h.2.2.1⟩, by decide, ⟨by decide, by decide⟩, by decide +kernel⟩, h.2.2.2.1⟩
theorem j_charAt1 {j : Nat} (hi : i < 11) (hj : j < smL.getD i 0) : EvJ g (d + 2) yJ1_charAt_3b067 cJ1_charAt_3b067 2 (some .char) [.ref (gSv g i), .int (nI j)] M (fun v M1 => v = some (.int (chS i j)) ∧ M1 = M) := by
  obtain ⟨⟨l1, -, -⟩, l2⟩ := sm_all i hi
  obtain ⟨c1, c2, -⟩ := l2 j hj
  refine EvJ.mk (by decide) (Nat.le_of_ble_eq_true rfl) ?_
  refine J_iload (q := 1) (by decide +kernel) rfl rfl ?_
  refine J_aload (q := 0) (by decide +kernel) rfl rfl ?_
  refine J_alen hi (by decide +kernel) ?_
  refine J_callS (args := [.int (nI j), .int (nI (smL.getD i 0))]) (rest := []) jw_check0.1 jw_check0.2 rfl (Nat.le_of_ble_eq_true rfl) (by decide +kernel) (j_check0 hj (by omega)) ?_
  rintro _ _ ⟨rfl, rfl⟩
  refine J_aload (q := 0) (by decide +kernel) rfl rfl ?_
  refine J_iload (q := 1) (by decide +kernel) rfl rfl ?_
  refine J_baload hi hj l1 (by decide +kernel) ?_
  refine J_sipush (i := 255) (v := 255) (by decide +kernel) rfl ?_
  refine J_iand (by decide +kernel) ?_
  refine J_i2c (v := chS i j) (by decide +kernel) c1 ?_
  exact J_zret (ty := .char) rfl (by show Value.int _ = _; rw [c2]) (by decide +kernel) ⟨rfl, rfl⟩
theorem jw_charAt1 : WvJ RJ0 495 yJ1_charAt_3b067 cJ1_charAt_3b067 2 (some .char) 2 ∧ Cond.static yJ1_charAt_3b067 ∈ T0 := by
  have h : ∀ w ∈ [Cond.methodLink RJ0 495 yJ1_charAt_3b067, Cond.code yJ1_charAt_3b067 cJ1_charAt_3b067 2 (some .char), Cond.initialized yJ1_charAt_3b067.cls, Cond.static yJ1_charAt_3b067], w ∈ T0 := inT0 (by decide +kernel)
  simp only [List.forall_mem_cons] at h
  exact ⟨⟨⟨h.1, h.2.1, h.2.2.1⟩, by decide, ⟨by decide, by decide⟩, by decide +kernel⟩, h.2.2.2.1⟩
theorem jw_isLatin1 : WvJ RJ0 492 yJ0_isLatin1_aae02 cJ0_isLatin1_aae02 1 (some .boolean) 0 ∧ (Cond.instanceMethod yJ0_isLatin1_aae02 ∈ T0 ∧ Cond.selects "java/lang/String" yJ0_isLatin1_aae02 yJ0_isLatin1_aae02 ∈ T0) := by
  have h : ∀ w ∈ [Cond.methodLink RJ0 492 yJ0_isLatin1_aae02, Cond.code yJ0_isLatin1_aae02 cJ0_isLatin1_aae02 1 (some .boolean), Cond.initialized yJ0_isLatin1_aae02.cls, Cond.instanceMethod yJ0_isLatin1_aae02, Cond.selects "java/lang/String" yJ0_isLatin1_aae02 yJ0_isLatin1_aae02], w ∈ T0 := inT0 (by decide +kernel)
  simp only [List.forall_mem_cons] at h
  exact ⟨⟨⟨h.1, h.2.1, h.2.2.1⟩, by decide, ⟨by decide, by decide⟩, by decide +kernel⟩, h.2.2.2.1, h.2.2.2.2.1⟩
theorem j_charAt {j : Nat} (hi : i < 11) (hj : j < smL.getD i 0) : EvJ g (d + 3) yJ0_charAt_5068e cJ0_charAt_5068e 2 (some .char) [.ref (gSk g i), .int (nI j)] M (fun v M1 => v = some (.int (chS i j)) ∧ M1 = M) := by
  obtain ⟨-, l2⟩ := sm_all i hi
  obtain ⟨c1, c2, -⟩ := l2 j hj
  refine EvJ.mk (by decide) (Nat.le_of_ble_eq_true rfl) ?_
  refine J_aload (q := 0) (by decide +kernel) rfl rfl ?_
  refine J_callV (args := []) (rest := []) hi jw_isLatin1.1 jw_isLatin1.2 rfl (Nat.le_of_ble_eq_true rfl) (by decide +kernel) (j_isLatin1 hi) ?_
  rintro _ _ ⟨rfl, rfl⟩
  refine J_if_eq (o := 12) (t := 16) (by decide +kernel) rfl (fun z => absurd z (by decide)) (fun _ => ?_)
  refine J_aload (q := 0) (by decide +kernel) rfl rfl ?_
  refine J_value hi jw1.2.2.1 (by decide +kernel) ?_
  refine J_iload (q := 1) (by decide +kernel) rfl rfl ?_
  refine J_callS (args := [.ref (gSv g i), .int (nI j)]) (rest := []) jw_charAt1.1 jw_charAt1.2 rfl (Nat.le_of_ble_eq_true rfl) (by decide +kernel) (j_charAt1 hi hj) ?_
  rintro _ _ ⟨rfl, rfl⟩
  exact J_zret (ty := .char) rfl (by show Value.int _ = _; rw [c2]) (by decide +kernel) ⟨rfl, rfl⟩
end JCON
