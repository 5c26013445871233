-- ===== PART A: goes FIRST, ahead of the names: the tables' words, and 'selects' of the private methods out of them =====
/-- a private method of a class that the tables say can be made, by its rows of tables_1 -/
def lw_okq (q : MethodName × Nat) : Prop := (q.1.cls ≠ "java/lang/invoke/MethodHandle" ∧ q.1.cls ≠ "java/lang/invoke/VarHandle") ∧ Cond.instantiable q.1.cls q.2 ∈ tables_1 ∧ Cond.privateMethod q.1 ∈ tables_1 ∧ Cond.instanceMethod q.1 ∈ tables_1
theorem lw_p0 : lw_okq (⟨"NettingDesk$Text", "readToken", "()V"⟩, 10) := ⟨⟨by decide +kernel, by decide +kernel⟩, List.mem_of_getElem? (i := 40) (by decide +kernel), List.mem_of_getElem? (i := 363) (by decide +kernel), List.mem_of_getElem? (i := 364) (by decide +kernel)⟩
theorem lw_p1 : lw_okq (⟨"NettingDesk$Text", "skipBlanks", "()V"⟩, 10) := ⟨⟨by decide +kernel, by decide +kernel⟩, List.mem_of_getElem? (i := 40) (by decide +kernel), List.mem_of_getElem? (i := 367) (by decide +kernel), List.mem_of_getElem? (i := 368) (by decide +kernel)⟩
theorem lw_p2 : lw_okq (⟨"NettingDesk$Text", "readNumber", "()V"⟩, 10) := ⟨⟨by decide +kernel, by decide +kernel⟩, List.mem_of_getElem? (i := 40) (by decide +kernel), List.mem_of_getElem? (i := 378) (by decide +kernel), List.mem_of_getElem? (i := 379) (by decide +kernel)⟩
theorem lw_p3 : lw_okq (⟨"NettingDesk$Text", "readWord", "()V"⟩, 10) := ⟨⟨by decide +kernel, by decide +kernel⟩, List.mem_of_getElem? (i := 40) (by decide +kernel), List.mem_of_getElem? (i := 386) (by decide +kernel), List.mem_of_getElem? (i := 387) (by decide +kernel)⟩
theorem lw_p4 : lw_okq (⟨"NettingDesk$Text", "takesSentence", "()Z"⟩, 10) := ⟨⟨by decide +kernel, by decide +kernel⟩, List.mem_of_getElem? (i := 40) (by decide +kernel), List.mem_of_getElem? (i := 403) (by decide +kernel), List.mem_of_getElem? (i := 404) (by decide +kernel)⟩
theorem lw_p5 : lw_okq (⟨"NettingDesk$Text", "takes", "(I)Z"⟩, 10) := ⟨⟨by decide +kernel, by decide +kernel⟩, List.mem_of_getElem? (i := 40) (by decide +kernel), List.mem_of_getElem? (i := 407) (by decide +kernel), List.mem_of_getElem? (i := 408) (by decide +kernel)⟩
theorem lw_p6 : lw_okq (⟨"NettingDesk$Text", "takesNumberIfBehind", "(I)Z"⟩, 10) := ⟨⟨by decide +kernel, by decide +kernel⟩, List.mem_of_getElem? (i := 40) (by decide +kernel), List.mem_of_getElem? (i := 411) (by decide +kernel), List.mem_of_getElem? (i := 412) (by decide +kernel)⟩
theorem lw_p7 : lw_okq (⟨"NettingDesk$Teller", "tellSentence", "(LNettingDesk$Book;)V"⟩, 4) := ⟨⟨by decide +kernel, by decide +kernel⟩, List.mem_of_getElem? (i := 34) (by decide +kernel), List.mem_of_getElem? (i := 468) (by decide +kernel), List.mem_of_getElem? (i := 469) (by decide +kernel)⟩
theorem lw_p8 : lw_okq (⟨"NettingDesk$Teller", "tellParty", "(LNettingDesk$Book;)V"⟩, 4) := ⟨⟨by decide +kernel, by decide +kernel⟩, List.mem_of_getElem? (i := 34) (by decide +kernel), List.mem_of_getElem? (i := 472) (by decide +kernel), List.mem_of_getElem? (i := 473) (by decide +kernel)⟩
theorem lw_p9 : lw_okq (⟨"NettingDesk$Teller", "refuse", "(II)V"⟩, 4) := ⟨⟨by decide +kernel, by decide +kernel⟩, List.mem_of_getElem? (i := 34) (by decide +kernel), List.mem_of_getElem? (i := 497) (by decide +kernel), List.mem_of_getElem? (i := 498) (by decide +kernel)⟩
theorem lw_p10 : lw_okq (⟨"NettingDesk$Teller", "tellMoney", "(LNettingDesk$Book;)V"⟩, 4) := ⟨⟨by decide +kernel, by decide +kernel⟩, List.mem_of_getElem? (i := 34) (by decide +kernel), List.mem_of_getElem? (i := 514) (by decide +kernel), List.mem_of_getElem? (i := 515) (by decide +kernel)⟩
theorem lw_p11 : lw_okq (⟨"NettingDesk$Teller", "tellPay", "(LNettingDesk$Book;)V"⟩, 4) := ⟨⟨by decide +kernel, by decide +kernel⟩, List.mem_of_getElem? (i := 34) (by decide +kernel), List.mem_of_getElem? (i := 522) (by decide +kernel), List.mem_of_getElem? (i := 523) (by decide +kernel)⟩
theorem lw_p12 : lw_okq (⟨"NettingDesk$Teller", "tellHold", "(LNettingDesk$Book;)V"⟩, 4) := ⟨⟨by decide +kernel, by decide +kernel⟩, List.mem_of_getElem? (i := 34) (by decide +kernel), List.mem_of_getElem? (i := 546) (by decide +kernel), List.mem_of_getElem? (i := 547) (by decide +kernel)⟩
theorem lw_p13 : lw_okq (⟨"NettingDesk$Teller", "tellCancel", "(LNettingDesk$Book;)V"⟩, 4) := ⟨⟨by decide +kernel, by decide +kernel⟩, List.mem_of_getElem? (i := 34) (by decide +kernel), List.mem_of_getElem? (i := 552) (by decide +kernel), List.mem_of_getElem? (i := 553) (by decide +kernel)⟩
theorem lw_p14 : lw_okq (⟨"NettingDesk$Teller", "goBehindSentence", "()V"⟩, 4) := ⟨⟨by decide +kernel, by decide +kernel⟩, List.mem_of_getElem? (i := 34) (by decide +kernel), List.mem_of_getElem? (i := 564) (by decide +kernel), List.mem_of_getElem? (i := 565) (by decide +kernel)⟩
theorem lw_p15 : lw_okq (⟨"NettingDesk", "counted", "(I)I"⟩, 10) := ⟨⟨by decide +kernel, by decide +kernel⟩, List.mem_of_getElem? (i := 26) (by decide +kernel), List.mem_of_getElem? (i := 586) (by decide +kernel), List.mem_of_getElem? (i := 587) (by decide +kernel)⟩
def lw_privs_1 : List (MethodName × Nat) := [(⟨"NettingDesk$Text", "readToken", "()V"⟩, 10), (⟨"NettingDesk$Text", "skipBlanks", "()V"⟩, 10), (⟨"NettingDesk$Text", "readNumber", "()V"⟩, 10), (⟨"NettingDesk$Text", "readWord", "()V"⟩, 10), (⟨"NettingDesk$Text", "takesSentence", "()Z"⟩, 10), (⟨"NettingDesk$Text", "takes", "(I)Z"⟩, 10), (⟨"NettingDesk$Text", "takesNumberIfBehind", "(I)Z"⟩, 10), (⟨"NettingDesk$Teller", "tellSentence", "(LNettingDesk$Book;)V"⟩, 4), (⟨"NettingDesk$Teller", "tellParty", "(LNettingDesk$Book;)V"⟩, 4), (⟨"NettingDesk$Teller", "refuse", "(II)V"⟩, 4), (⟨"NettingDesk$Teller", "tellMoney", "(LNettingDesk$Book;)V"⟩, 4), (⟨"NettingDesk$Teller", "tellPay", "(LNettingDesk$Book;)V"⟩, 4), (⟨"NettingDesk$Teller", "tellHold", "(LNettingDesk$Book;)V"⟩, 4), (⟨"NettingDesk$Teller", "tellCancel", "(LNettingDesk$Book;)V"⟩, 4), (⟨"NettingDesk$Teller", "goBehindSentence", "()V"⟩, 4), (⟨"NettingDesk", "counted", "(I)I"⟩, 10)]
theorem lw_r1 : ∀ q ∈ lw_privs_1, lw_okq q := List.forall_mem_cons.mpr ⟨lw_p0, List.forall_mem_cons.mpr ⟨lw_p1, List.forall_mem_cons.mpr ⟨lw_p2, List.forall_mem_cons.mpr ⟨lw_p3, List.forall_mem_cons.mpr ⟨lw_p4, List.forall_mem_cons.mpr ⟨lw_p5, List.forall_mem_cons.mpr ⟨lw_p6, List.forall_mem_cons.mpr ⟨lw_p7, List.forall_mem_cons.mpr ⟨lw_p8, List.forall_mem_cons.mpr ⟨lw_p9, List.forall_mem_cons.mpr ⟨lw_p10, List.forall_mem_cons.mpr ⟨lw_p11, List.forall_mem_cons.mpr ⟨lw_p12, List.forall_mem_cons.mpr ⟨lw_p13, List.forall_mem_cons.mpr ⟨lw_p14, List.forall_mem_cons.mpr ⟨lw_p15, fun _ h => absurd h List.not_mem_nil⟩⟩⟩⟩⟩⟩⟩⟩⟩⟩⟩⟩⟩⟩⟩⟩
theorem lw_p16 : lw_okq (⟨"NettingDesk", "digestParties", "(J)J"⟩, 10) := ⟨⟨by decide +kernel, by decide +kernel⟩, List.mem_of_getElem? (i := 26) (by decide +kernel), List.mem_of_getElem? (i := 594) (by decide +kernel), List.mem_of_getElem? (i := 595) (by decide +kernel)⟩
theorem lw_p17 : lw_okq (⟨"NettingDesk", "toldOfParty", "(II)I"⟩, 10) := ⟨⟨by decide +kernel, by decide +kernel⟩, List.mem_of_getElem? (i := 26) (by decide +kernel), List.mem_of_getElem? (i := 598) (by decide +kernel), List.mem_of_getElem? (i := 599) (by decide +kernel)⟩
theorem lw_p18 : lw_okq (⟨"NettingDesk", "digestMoneys", "(J)J"⟩, 10) := ⟨⟨by decide +kernel, by decide +kernel⟩, List.mem_of_getElem? (i := 26) (by decide +kernel), List.mem_of_getElem? (i := 635) (by decide +kernel), List.mem_of_getElem? (i := 636) (by decide +kernel)⟩
theorem lw_p19 : lw_okq (⟨"NettingDesk", "toldOfMoney", "(II)I"⟩, 10) := ⟨⟨by decide +kernel, by decide +kernel⟩, List.mem_of_getElem? (i := 26) (by decide +kernel), List.mem_of_getElem? (i := 639) (by decide +kernel), List.mem_of_getElem? (i := 640) (by decide +kernel)⟩
theorem lw_p20 : lw_okq (⟨"NettingDesk", "digestPayments", "(J)J"⟩, 10) := ⟨⟨by decide +kernel, by decide +kernel⟩, List.mem_of_getElem? (i := 26) (by decide +kernel), List.mem_of_getElem? (i := 648) (by decide +kernel), List.mem_of_getElem? (i := 649) (by decide +kernel)⟩
theorem lw_p21 : lw_okq (⟨"NettingDesk", "toldOfPayment", "(II)I"⟩, 10) := ⟨⟨by decide +kernel, by decide +kernel⟩, List.mem_of_getElem? (i := 26) (by decide +kernel), List.mem_of_getElem? (i := 652) (by decide +kernel), List.mem_of_getElem? (i := 653) (by decide +kernel)⟩
theorem lw_p22 : lw_okq (⟨"java/lang/Throwable", "fillInStackTrace", "(I)Ljava/lang/Throwable;"⟩, 6) := ⟨⟨by decide +kernel, by decide +kernel⟩, List.mem_of_getElem? (i := 704) (by decide +kernel), List.mem_of_getElem? (i := 702) (by decide +kernel), List.mem_of_getElem? (i := 703) (by decide +kernel)⟩
theorem lw_p23 : lw_okq (⟨"NettingDesk", "isParty", "(I)Z"⟩, 10) := ⟨⟨by decide +kernel, by decide +kernel⟩, List.mem_of_getElem? (i := 26) (by decide +kernel), List.mem_of_getElem? (i := 797) (by decide +kernel), List.mem_of_getElem? (i := 798) (by decide +kernel)⟩
theorem lw_p24 : lw_okq (⟨"NettingDesk", "isMoney", "(I)Z"⟩, 10) := ⟨⟨by decide +kernel, by decide +kernel⟩, List.mem_of_getElem? (i := 26) (by decide +kernel), List.mem_of_getElem? (i := 809) (by decide +kernel), List.mem_of_getElem? (i := 810) (by decide +kernel)⟩
theorem lw_p25 : lw_okq (⟨"NettingDesk", "isPayment", "(I)Z"⟩, 10) := ⟨⟨by decide +kernel, by decide +kernel⟩, List.mem_of_getElem? (i := 26) (by decide +kernel), List.mem_of_getElem? (i := 874) (by decide +kernel), List.mem_of_getElem? (i := 875) (by decide +kernel)⟩
theorem lw_p26 : lw_okq (⟨"NettingDesk", "fillDebts", "(I)V"⟩, 10) := ⟨⟨by decide +kernel, by decide +kernel⟩, List.mem_of_getElem? (i := 26) (by decide +kernel), List.mem_of_getElem? (i := 903) (by decide +kernel), List.mem_of_getElem? (i := 904) (by decide +kernel)⟩
theorem lw_p27 : lw_okq (⟨"NettingDesk", "debt", "(II)I"⟩, 10) := ⟨⟨by decide +kernel, by decide +kernel⟩, List.mem_of_getElem? (i := 26) (by decide +kernel), List.mem_of_getElem? (i := 908) (by decide +kernel), List.mem_of_getElem? (i := 909) (by decide +kernel)⟩
theorem lw_p28 : lw_okq (⟨"NettingDesk$Netting", "canTakePart", "(LNettingDesk$Payment;)Z"⟩, 1) := ⟨⟨by decide +kernel, by decide +kernel⟩, List.mem_of_getElem? (i := 113) (by decide +kernel), List.mem_of_getElem? (i := 934) (by decide +kernel), List.mem_of_getElem? (i := 935) (by decide +kernel)⟩
theorem lw_p29 : lw_okq (⟨"NettingDesk$Netting", "moveNetted", "(LNettingDesk$Payment;I)V"⟩, 1) := ⟨⟨by decide +kernel, by decide +kernel⟩, List.mem_of_getElem? (i := 113) (by decide +kernel), List.mem_of_getElem? (i := 939) (by decide +kernel), List.mem_of_getElem? (i := 940) (by decide +kernel)⟩
theorem lw_p30 : lw_okq (⟨"NettingDesk$Netting", "lookWhetherShort", "(LNettingDesk$Party;)V"⟩, 1) := ⟨⟨by decide +kernel, by decide +kernel⟩, List.mem_of_getElem? (i := 113) (by decide +kernel), List.mem_of_getElem? (i := 944) (by decide +kernel), List.mem_of_getElem? (i := 945) (by decide +kernel)⟩
theorem lw_p31 : lw_okq (⟨"NettingDesk$Netting", "leavesOneOut", "()Z"⟩, 1) := ⟨⟨by decide +kernel, by decide +kernel⟩, List.mem_of_getElem? (i := 113) (by decide +kernel), List.mem_of_getElem? (i := 952) (by decide +kernel), List.mem_of_getElem? (i := 953) (by decide +kernel)⟩
def lw_privs_2 : List (MethodName × Nat) := [(⟨"NettingDesk", "digestParties", "(J)J"⟩, 10), (⟨"NettingDesk", "toldOfParty", "(II)I"⟩, 10), (⟨"NettingDesk", "digestMoneys", "(J)J"⟩, 10), (⟨"NettingDesk", "toldOfMoney", "(II)I"⟩, 10), (⟨"NettingDesk", "digestPayments", "(J)J"⟩, 10), (⟨"NettingDesk", "toldOfPayment", "(II)I"⟩, 10), (⟨"java/lang/Throwable", "fillInStackTrace", "(I)Ljava/lang/Throwable;"⟩, 6), (⟨"NettingDesk", "isParty", "(I)Z"⟩, 10), (⟨"NettingDesk", "isMoney", "(I)Z"⟩, 10), (⟨"NettingDesk", "isPayment", "(I)Z"⟩, 10), (⟨"NettingDesk", "fillDebts", "(I)V"⟩, 10), (⟨"NettingDesk", "debt", "(II)I"⟩, 10), (⟨"NettingDesk$Netting", "canTakePart", "(LNettingDesk$Payment;)Z"⟩, 1), (⟨"NettingDesk$Netting", "moveNetted", "(LNettingDesk$Payment;I)V"⟩, 1), (⟨"NettingDesk$Netting", "lookWhetherShort", "(LNettingDesk$Party;)V"⟩, 1), (⟨"NettingDesk$Netting", "leavesOneOut", "()Z"⟩, 1)]
theorem lw_r2 : ∀ q ∈ lw_privs_2, lw_okq q := List.forall_mem_cons.mpr ⟨lw_p16, List.forall_mem_cons.mpr ⟨lw_p17, List.forall_mem_cons.mpr ⟨lw_p18, List.forall_mem_cons.mpr ⟨lw_p19, List.forall_mem_cons.mpr ⟨lw_p20, List.forall_mem_cons.mpr ⟨lw_p21, List.forall_mem_cons.mpr ⟨lw_p22, List.forall_mem_cons.mpr ⟨lw_p23, List.forall_mem_cons.mpr ⟨lw_p24, List.forall_mem_cons.mpr ⟨lw_p25, List.forall_mem_cons.mpr ⟨lw_p26, List.forall_mem_cons.mpr ⟨lw_p27, List.forall_mem_cons.mpr ⟨lw_p28, List.forall_mem_cons.mpr ⟨lw_p29, List.forall_mem_cons.mpr ⟨lw_p30, List.forall_mem_cons.mpr ⟨lw_p31, fun _ h => absurd h List.not_mem_nil⟩⟩⟩⟩⟩⟩⟩⟩⟩⟩⟩⟩⟩⟩⟩⟩
theorem lw_p32 : lw_okq (⟨"NettingDesk$Netting", "firstShort", "()I"⟩, 1) := ⟨⟨by decide +kernel, by decide +kernel⟩, List.mem_of_getElem? (i := 113) (by decide +kernel), List.mem_of_getElem? (i := 956) (by decide +kernel), List.mem_of_getElem? (i := 957) (by decide +kernel)⟩
theorem lw_p33 : lw_okq (⟨"NettingDesk$Netting", "dearestOf", "(I)LNettingDesk$Payment;"⟩, 1) := ⟨⟨by decide +kernel, by decide +kernel⟩, List.mem_of_getElem? (i := 113) (by decide +kernel), List.mem_of_getElem? (i := 960) (by decide +kernel), List.mem_of_getElem? (i := 961) (by decide +kernel)⟩
theorem lw_p34 : lw_okq (⟨"NettingDesk$Netting", "leaveOut", "(LNettingDesk$Payment;)V"⟩, 1) := ⟨⟨by decide +kernel, by decide +kernel⟩, List.mem_of_getElem? (i := 113) (by decide +kernel), List.mem_of_getElem? (i := 964) (by decide +kernel), List.mem_of_getElem? (i := 965) (by decide +kernel)⟩
theorem lw_p35 : lw_okq (⟨"NettingDesk$Book", "chargeInterest", "()V"⟩, 8) := ⟨⟨by decide +kernel, by decide +kernel⟩, List.mem_of_getElem? (i := 119) (by decide +kernel), List.mem_of_getElem? (i := 972) (by decide +kernel), List.mem_of_getElem? (i := 973) (by decide +kernel)⟩
theorem lw_p36 : lw_okq (⟨"NettingDesk$Book", "findDefaults", "()V"⟩, 8) := ⟨⟨by decide +kernel, by decide +kernel⟩, List.mem_of_getElem? (i := 119) (by decide +kernel), List.mem_of_getElem? (i := 984) (by decide +kernel), List.mem_of_getElem? (i := 985) (by decide +kernel)⟩
theorem lw_p37 : lw_okq (⟨"NettingDesk$Book", "failLatePayments", "()V"⟩, 8) := ⟨⟨by decide +kernel, by decide +kernel⟩, List.mem_of_getElem? (i := 119) (by decide +kernel), List.mem_of_getElem? (i := 989) (by decide +kernel), List.mem_of_getElem? (i := 990) (by decide +kernel)⟩
theorem lw_p38 : lw_okq (⟨"NettingDesk$Book", "isLate", "(LNettingDesk$Payment;)Z"⟩, 8) := ⟨⟨by decide +kernel, by decide +kernel⟩, List.mem_of_getElem? (i := 119) (by decide +kernel), List.mem_of_getElem? (i := 993) (by decide +kernel), List.mem_of_getElem? (i := 994) (by decide +kernel)⟩
theorem lw_p39 : lw_okq (⟨"NettingDesk$Book", "fail", "(LNettingDesk$Payment;)V"⟩, 8) := ⟨⟨by decide +kernel, by decide +kernel⟩, List.mem_of_getElem? (i := 119) (by decide +kernel), List.mem_of_getElem? (i := 997) (by decide +kernel), List.mem_of_getElem? (i := 998) (by decide +kernel)⟩
theorem lw_p40 : lw_okq (⟨"NettingDesk$Netting", "countTakingPartOf", "(I)I"⟩, 1) := ⟨⟨by decide +kernel, by decide +kernel⟩, List.mem_of_getElem? (i := 113) (by decide +kernel), List.mem_of_getElem? (i := 1055) (by decide +kernel), List.mem_of_getElem? (i := 1056) (by decide +kernel)⟩
theorem lw_p41 : lw_okq (⟨"NettingDesk", "writePayment", "(LNettingDesk$Payment;)V"⟩, 10) := ⟨⟨by decide +kernel, by decide +kernel⟩, List.mem_of_getElem? (i := 26) (by decide +kernel), List.mem_of_getElem? (i := 1087) (by decide +kernel), List.mem_of_getElem? (i := 1088) (by decide +kernel)⟩
theorem lw_p42 : lw_okq (⟨"NettingDeskModel", "no", "(I)I"⟩, 15) := ⟨⟨by decide +kernel, by decide +kernel⟩, List.mem_of_getElem? (i := 1112) (by decide +kernel), List.mem_of_getElem? (i := 1350) (by decide +kernel), List.mem_of_getElem? (i := 1351) (by decide +kernel)⟩
theorem lw_p43 : lw_okq (⟨"NettingDeskModel", "read", "()V"⟩, 15) := ⟨⟨by decide +kernel, by decide +kernel⟩, List.mem_of_getElem? (i := 1112) (by decide +kernel), List.mem_of_getElem? (i := 1362) (by decide +kernel), List.mem_of_getElem? (i := 1363) (by decide +kernel)⟩
theorem lw_p44 : lw_okq (⟨"NettingDeskModel", "token", "(I)I"⟩, 15) := ⟨⟨by decide +kernel, by decide +kernel⟩, List.mem_of_getElem? (i := 1112) (by decide +kernel), List.mem_of_getElem? (i := 1366) (by decide +kernel), List.mem_of_getElem? (i := 1367) (by decide +kernel)⟩
theorem lw_p45 : lw_okq (⟨"NettingDeskModel", "isSentence", "()Z"⟩, 15) := ⟨⟨by decide +kernel, by decide +kernel⟩, List.mem_of_getElem? (i := 1112) (by decide +kernel), List.mem_of_getElem? (i := 1373) (by decide +kernel), List.mem_of_getElem? (i := 1374) (by decide +kernel)⟩
theorem lw_p46 : lw_okq (⟨"NettingDeskModel", "are", "([I)Z"⟩, 15) := ⟨⟨by decide +kernel, by decide +kernel⟩, List.mem_of_getElem? (i := 1112) (by decide +kernel), List.mem_of_getElem? (i := 1377) (by decide +kernel), List.mem_of_getElem? (i := 1378) (by decide +kernel)⟩
theorem lw_p47 : lw_okq (⟨"NettingDeskModel$State", "copy", "([I[I)V"⟩, 25) := ⟨⟨by decide +kernel, by decide +kernel⟩, List.mem_of_getElem? (i := 1190) (by decide +kernel), List.mem_of_getElem? (i := 1388) (by decide +kernel), List.mem_of_getElem? (i := 1389) (by decide +kernel)⟩
def lw_privs_3 : List (MethodName × Nat) := [(⟨"NettingDesk$Netting", "firstShort", "()I"⟩, 1), (⟨"NettingDesk$Netting", "dearestOf", "(I)LNettingDesk$Payment;"⟩, 1), (⟨"NettingDesk$Netting", "leaveOut", "(LNettingDesk$Payment;)V"⟩, 1), (⟨"NettingDesk$Book", "chargeInterest", "()V"⟩, 8), (⟨"NettingDesk$Book", "findDefaults", "()V"⟩, 8), (⟨"NettingDesk$Book", "failLatePayments", "()V"⟩, 8), (⟨"NettingDesk$Book", "isLate", "(LNettingDesk$Payment;)Z"⟩, 8), (⟨"NettingDesk$Book", "fail", "(LNettingDesk$Payment;)V"⟩, 8), (⟨"NettingDesk$Netting", "countTakingPartOf", "(I)I"⟩, 1), (⟨"NettingDesk", "writePayment", "(LNettingDesk$Payment;)V"⟩, 10), (⟨"NettingDeskModel", "no", "(I)I"⟩, 15), (⟨"NettingDeskModel", "read", "()V"⟩, 15), (⟨"NettingDeskModel", "token", "(I)I"⟩, 15), (⟨"NettingDeskModel", "isSentence", "()Z"⟩, 15), (⟨"NettingDeskModel", "are", "([I)Z"⟩, 15), (⟨"NettingDeskModel$State", "copy", "([I[I)V"⟩, 25)]
theorem lw_r3 : ∀ q ∈ lw_privs_3, lw_okq q := List.forall_mem_cons.mpr ⟨lw_p32, List.forall_mem_cons.mpr ⟨lw_p33, List.forall_mem_cons.mpr ⟨lw_p34, List.forall_mem_cons.mpr ⟨lw_p35, List.forall_mem_cons.mpr ⟨lw_p36, List.forall_mem_cons.mpr ⟨lw_p37, List.forall_mem_cons.mpr ⟨lw_p38, List.forall_mem_cons.mpr ⟨lw_p39, List.forall_mem_cons.mpr ⟨lw_p40, List.forall_mem_cons.mpr ⟨lw_p41, List.forall_mem_cons.mpr ⟨lw_p42, List.forall_mem_cons.mpr ⟨lw_p43, List.forall_mem_cons.mpr ⟨lw_p44, List.forall_mem_cons.mpr ⟨lw_p45, List.forall_mem_cons.mpr ⟨lw_p46, List.forall_mem_cons.mpr ⟨lw_p47, fun _ h => absurd h List.not_mem_nil⟩⟩⟩⟩⟩⟩⟩⟩⟩⟩⟩⟩⟩⟩⟩⟩
theorem lw_p48 : lw_okq (⟨"NettingDeskModel", "carryOut", "()I"⟩, 15) := ⟨⟨by decide +kernel, by decide +kernel⟩, List.mem_of_getElem? (i := 1112) (by decide +kernel), List.mem_of_getElem? (i := 1392) (by decide +kernel), List.mem_of_getElem? (i := 1393) (by decide +kernel)⟩
theorem lw_p49 : lw_okq (⟨"NettingDeskModel$State", "find", "([JIJ)I"⟩, 25) := ⟨⟨by decide +kernel, by decide +kernel⟩, List.mem_of_getElem? (i := 1190) (by decide +kernel), List.mem_of_getElem? (i := 1409) (by decide +kernel), List.mem_of_getElem? (i := 1410) (by decide +kernel)⟩
theorem lw_p50 : lw_okq (⟨"NettingDeskModel", "counted", "(I)I"⟩, 15) := ⟨⟨by decide +kernel, by decide +kernel⟩, List.mem_of_getElem? (i := 1112) (by decide +kernel), List.mem_of_getElem? (i := 1439) (by decide +kernel), List.mem_of_getElem? (i := 1440) (by decide +kernel)⟩
theorem lw_p51 : lw_okq (⟨"NettingDeskModel", "with", "(I)I"⟩, 15) := ⟨⟨by decide +kernel, by decide +kernel⟩, List.mem_of_getElem? (i := 1112) (by decide +kernel), List.mem_of_getElem? (i := 1443) (by decide +kernel), List.mem_of_getElem? (i := 1444) (by decide +kernel)⟩
theorem lw_p52 : lw_okq (⟨"NettingDeskModel", "isParty", "(I)Z"⟩, 15) := ⟨⟨by decide +kernel, by decide +kernel⟩, List.mem_of_getElem? (i := 1112) (by decide +kernel), List.mem_of_getElem? (i := 1451) (by decide +kernel), List.mem_of_getElem? (i := 1452) (by decide +kernel)⟩
theorem lw_p53 : lw_okq (⟨"NettingDeskModel", "partyTold", "(II)I"⟩, 15) := ⟨⟨by decide +kernel, by decide +kernel⟩, List.mem_of_getElem? (i := 1112) (by decide +kernel), List.mem_of_getElem? (i := 1455) (by decide +kernel), List.mem_of_getElem? (i := 1456) (by decide +kernel)⟩
theorem lw_p54 : lw_okq (⟨"NettingDeskModel", "isMoney", "(I)Z"⟩, 15) := ⟨⟨by decide +kernel, by decide +kernel⟩, List.mem_of_getElem? (i := 1112) (by decide +kernel), List.mem_of_getElem? (i := 1485) (by decide +kernel), List.mem_of_getElem? (i := 1486) (by decide +kernel)⟩
theorem lw_p55 : lw_okq (⟨"NettingDeskModel", "moneyTold", "(II)I"⟩, 15) := ⟨⟨by decide +kernel, by decide +kernel⟩, List.mem_of_getElem? (i := 1112) (by decide +kernel), List.mem_of_getElem? (i := 1489) (by decide +kernel), List.mem_of_getElem? (i := 1490) (by decide +kernel)⟩
theorem lw_p56 : lw_okq (⟨"NettingDeskModel", "isPayment", "(I)Z"⟩, 15) := ⟨⟨by decide +kernel, by decide +kernel⟩, List.mem_of_getElem? (i := 1112) (by decide +kernel), List.mem_of_getElem? (i := 1518) (by decide +kernel), List.mem_of_getElem? (i := 1519) (by decide +kernel)⟩
theorem lw_p57 : lw_okq (⟨"NettingDeskModel", "paymentTold", "(II)I"⟩, 15) := ⟨⟨by decide +kernel, by decide +kernel⟩, List.mem_of_getElem? (i := 1112) (by decide +kernel), List.mem_of_getElem? (i := 1522) (by decide +kernel), List.mem_of_getElem? (i := 1523) (by decide +kernel)⟩
theorem lw_p58 : lw_okq (⟨"NettingDeskModel$State", "isReady", "(I)Z"⟩, 25) := ⟨⟨by decide +kernel, by decide +kernel⟩, List.mem_of_getElem? (i := 1190) (by decide +kernel), List.mem_of_getElem? (i := 1554) (by decide +kernel), List.mem_of_getElem? (i := 1555) (by decide +kernel)⟩
theorem lw_p59 : lw_okq (⟨"NettingDeskModel$State", "move", "(II)V"⟩, 25) := ⟨⟨by decide +kernel, by decide +kernel⟩, List.mem_of_getElem? (i := 1190) (by decide +kernel), List.mem_of_getElem? (i := 1558) (by decide +kernel), List.mem_of_getElem? (i := 1559) (by decide +kernel)⟩
theorem lw_p60 : lw_okq (⟨"NettingDeskModel$State", "leaveOut", "(I)V"⟩, 25) := ⟨⟨by decide +kernel, by decide +kernel⟩, List.mem_of_getElem? (i := 1190) (by decide +kernel), List.mem_of_getElem? (i := 1570) (by decide +kernel), List.mem_of_getElem? (i := 1571) (by decide +kernel)⟩
theorem lw_p61 : lw_okq (⟨"NettingDeskModel$State", "fail", "(I)V"⟩, 25) := ⟨⟨by decide +kernel, by decide +kernel⟩, List.mem_of_getElem? (i := 1190) (by decide +kernel), List.mem_of_getElem? (i := 1577) (by decide +kernel), List.mem_of_getElem? (i := 1578) (by decide +kernel)⟩
theorem lw_p62 : lw_okq (⟨"NettingDeskModel", "putWord", "(J)V"⟩, 15) := ⟨⟨by decide +kernel, by decide +kernel⟩, List.mem_of_getElem? (i := 1112) (by decide +kernel), List.mem_of_getElem? (i := 1616) (by decide +kernel), List.mem_of_getElem? (i := 1617) (by decide +kernel)⟩
theorem lw_p63 : lw_okq (⟨"NettingDeskModel", "put", "(I)V"⟩, 15) := ⟨⟨by decide +kernel, by decide +kernel⟩, List.mem_of_getElem? (i := 1112) (by decide +kernel), List.mem_of_getElem? (i := 1620) (by decide +kernel), List.mem_of_getElem? (i := 1621) (by decide +kernel)⟩
def lw_privs_4 : List (MethodName × Nat) := [(⟨"NettingDeskModel", "carryOut", "()I"⟩, 15), (⟨"NettingDeskModel$State", "find", "([JIJ)I"⟩, 25), (⟨"NettingDeskModel", "counted", "(I)I"⟩, 15), (⟨"NettingDeskModel", "with", "(I)I"⟩, 15), (⟨"NettingDeskModel", "isParty", "(I)Z"⟩, 15), (⟨"NettingDeskModel", "partyTold", "(II)I"⟩, 15), (⟨"NettingDeskModel", "isMoney", "(I)Z"⟩, 15), (⟨"NettingDeskModel", "moneyTold", "(II)I"⟩, 15), (⟨"NettingDeskModel", "isPayment", "(I)Z"⟩, 15), (⟨"NettingDeskModel", "paymentTold", "(II)I"⟩, 15), (⟨"NettingDeskModel$State", "isReady", "(I)Z"⟩, 25), (⟨"NettingDeskModel$State", "move", "(II)V"⟩, 25), (⟨"NettingDeskModel$State", "leaveOut", "(I)V"⟩, 25), (⟨"NettingDeskModel$State", "fail", "(I)V"⟩, 25), (⟨"NettingDeskModel", "putWord", "(J)V"⟩, 15), (⟨"NettingDeskModel", "put", "(I)V"⟩, 15)]
theorem lw_r4 : ∀ q ∈ lw_privs_4, lw_okq q := List.forall_mem_cons.mpr ⟨lw_p48, List.forall_mem_cons.mpr ⟨lw_p49, List.forall_mem_cons.mpr ⟨lw_p50, List.forall_mem_cons.mpr ⟨lw_p51, List.forall_mem_cons.mpr ⟨lw_p52, List.forall_mem_cons.mpr ⟨lw_p53, List.forall_mem_cons.mpr ⟨lw_p54, List.forall_mem_cons.mpr ⟨lw_p55, List.forall_mem_cons.mpr ⟨lw_p56, List.forall_mem_cons.mpr ⟨lw_p57, List.forall_mem_cons.mpr ⟨lw_p58, List.forall_mem_cons.mpr ⟨lw_p59, List.forall_mem_cons.mpr ⟨lw_p60, List.forall_mem_cons.mpr ⟨lw_p61, List.forall_mem_cons.mpr ⟨lw_p62, List.forall_mem_cons.mpr ⟨lw_p63, fun _ h => absurd h List.not_mem_nil⟩⟩⟩⟩⟩⟩⟩⟩⟩⟩⟩⟩⟩⟩⟩⟩
theorem lw_p64 : lw_okq (⟨"NettingDeskModel", "putNumber", "(I)V"⟩, 15) := ⟨⟨by decide +kernel, by decide +kernel⟩, List.mem_of_getElem? (i := 1112) (by decide +kernel), List.mem_of_getElem? (i := 1624) (by decide +kernel), List.mem_of_getElem? (i := 1625) (by decide +kernel)⟩
def lw_privs_5 : List (MethodName × Nat) := [(⟨"NettingDeskModel", "putNumber", "(I)V"⟩, 15)]
theorem lw_r5 : ∀ q ∈ lw_privs_5, lw_okq q := List.forall_mem_cons.mpr ⟨lw_p64, fun _ h => absurd h List.not_mem_nil⟩
def lw_privs : List (MethodName × Nat) := lw_privs_1 ++ (lw_privs_2 ++ (lw_privs_3 ++ (lw_privs_4 ++ (lw_privs_5))))
def lw_tbl : List Cond := k2_sels lw_privs ++ tables_1
theorem lw_privs_ok : ∀ q ∈ lw_privs, lw_okq q := by
  show ∀ q ∈ lw_privs_1 ++ (lw_privs_2 ++ (lw_privs_3 ++ (lw_privs_4 ++ (lw_privs_5)))), lw_okq q
  exact List.forall_mem_append.mpr ⟨lw_r1, List.forall_mem_append.mpr ⟨lw_r2, List.forall_mem_append.mpr ⟨lw_r3, List.forall_mem_append.mpr ⟨lw_r4, lw_r5⟩⟩⟩⟩
/-- the streams that the claim lets the run draw from -/
abbrev lw_cs : List Choice := [Jvm.Choice.named "NaN.bits"]
theorem lw_bits : nanBits ∈ lw_cs := by first | decide | exact List.mem_cons_self | simp [lw_cs, nanBits]
def RX0 : String := "NettingDesk$Book"
def TX0 : u_T := fun k => match k with
  | 0 => ("NettingDesk$Book", "parties", "[LNettingDesk$Party;", true)
  | 1 => ("NettingDesk$Book", "moneys", "[LNettingDesk$Money;", true)
  | 2 => ("NettingDesk$Book", "payments", "[LNettingDesk$Payment;", true)
  | 3 => ("NettingDesk$Book", "partyCount", "I", false)
  | 4 => ("NettingDesk$Book", "moneyCount", "I", false)
  | 5 => ("NettingDesk$Book", "paymentCount", "I", false)
  | 6 => ("NettingDesk$Book", "day", "I", false)
  | _ => ("NettingDesk$Book", "hour", "I", false)
def tyX0 : Nat → FieldType := fun k => match k with
  | 0 => .array (.object "NettingDesk$Party")
  | 1 => .array (.object "NettingDesk$Money")
  | 2 => .array (.object "NettingDesk$Payment")
  | 3 => .int
  | 4 => .int
  | 5 => .int
  | 6 => .int
  | _ => .int
abbrev wsX00 : List Cond := u_ws RX0 TX0 8
theorem nmX0 : ∀ a, a < 8 → ∀ b, b < 8 → a ≠ b → (TX0 a).2.1 ≠ (TX0 b).2.1 := by decide +kernel
theorem tyX0_ok : ∀ k, k < 8 → parseFieldDescriptor (TX0 k).2.2.1 = some (tyX0 k) := by decide +kernel
abbrev cX0_init : ByteArray := prog_2_method_1_code
def yX0_init : MethodName := ⟨RX0, "<init>", "()V"⟩
abbrev cX0_partyAt : ByteArray := prog_2_method_2_code
def yX0_partyAt : MethodName := ⟨RX0, "partyAt", "(I)LNettingDesk$Party;"⟩
abbrev cX0_moneyAt : ByteArray := prog_2_method_3_code
def yX0_moneyAt : MethodName := ⟨RX0, "moneyAt", "(I)LNettingDesk$Money;"⟩
abbrev cX0_paymentAt : ByteArray := prog_2_method_4_code
def yX0_paymentAt : MethodName := ⟨RX0, "paymentAt", "(I)LNettingDesk$Payment;"⟩
abbrev cX0_partnerOf : ByteArray := prog_2_method_5_code
def yX0_partnerOf : MethodName := ⟨RX0, "partnerOf", "(LNettingDesk$Payment;)LNettingDesk$Payment;"⟩
abbrev cX0_copyFrom : ByteArray := prog_2_method_6_code
def yX0_copyFrom : MethodName := ⟨RX0, "copyFrom", "(LNettingDesk$Book;)V"⟩
abbrev cX0_partyNamed : ByteArray := prog_2_method_7_code
def yX0_partyNamed : MethodName := ⟨RX0, "partyNamed", "(J)I"⟩
abbrev cX0_moneyNamed : ByteArray := prog_2_method_8_code
def yX0_moneyNamed : MethodName := ⟨RX0, "moneyNamed", "(J)I"⟩
abbrev cX0_isNamed : ByteArray := prog_2_method_9_code
def yX0_isNamed : MethodName := ⟨RX0, "isNamed", "(J)Z"⟩
abbrev cX0_isWaiting : ByteArray := prog_2_method_10_code
def yX0_isWaiting : MethodName := ⟨RX0, "isWaiting", "(I)Z"⟩
abbrev cX0_canBePartner : ByteArray := prog_2_method_11_code
def yX0_canBePartner : MethodName := ⟨RX0, "canBePartner", "(I)Z"⟩
abbrev cX0_addParty : ByteArray := prog_2_method_12_code
def yX0_addParty : MethodName := ⟨RX0, "addParty", "(JI)V"⟩
abbrev cX0_addMoney : ByteArray := prog_2_method_13_code
def yX0_addMoney : MethodName := ⟨RX0, "addMoney", "(JII)V"⟩
abbrev cX0_addPayment : ByteArray := prog_2_method_14_code
def yX0_addPayment : MethodName := ⟨RX0, "addPayment", "(IIIII)V"⟩
abbrev cX0_linkLastTo : ByteArray := prog_2_method_15_code
def yX0_linkLastTo : MethodName := ⟨RX0, "linkLastTo", "(I)V"⟩
abbrev cX0_callOff : ByteArray := prog_2_method_16_code
def yX0_callOff : MethodName := ⟨RX0, "callOff", "(LNettingDesk$Payment;)V"⟩
abbrev cX0_countInState : ByteArray := prog_2_method_17_code
def yX0_countInState : MethodName := ⟨RX0, "countInState", "(I)I"⟩
abbrev cX0_countInDefault : ByteArray := prog_2_method_18_code
def yX0_countInDefault : MethodName := ⟨RX0, "countInDefault", "()I"⟩
abbrev cX0_countWaitingOf : ByteArray := prog_2_method_19_code
def yX0_countWaitingOf : MethodName := ⟨RX0, "countWaitingOf", "(I)I"⟩
abbrev cX0_countWaitingTo : ByteArray := prog_2_method_20_code
def yX0_countWaitingTo : MethodName := ⟨RX0, "countWaitingTo", "(I)I"⟩
abbrev cX0_waitingAmountIn : ByteArray := prog_2_method_21_code
def yX0_waitingAmountIn : MethodName := ⟨RX0, "waitingAmountIn", "(I)I"⟩
abbrev cX0_worthOf : ByteArray := prog_2_method_22_code
def yX0_worthOf : MethodName := ⟨RX0, "worthOf", "(II)J"⟩
abbrev cX0_limitOf : ByteArray := prog_2_method_23_code
def yX0_limitOf : MethodName := ⟨RX0, "limitOf", "(LNettingDesk$Party;)J"⟩
abbrev cX0_exposureOf : ByteArray := prog_2_method_24_code
def yX0_exposureOf : MethodName := ⟨RX0, "exposureOf", "(LNettingDesk$Row;)J"⟩
abbrev cX0_roomOf : ByteArray := prog_2_method_25_code
def yX0_roomOf : MethodName := ⟨RX0, "roomOf", "(LNettingDesk$Party;)J"⟩
abbrev cX0_endHour : ByteArray := prog_2_method_26_code
def yX0_endHour : MethodName := ⟨RX0, "endHour", "()V"⟩
abbrev cX0_chargeInterest : ByteArray := prog_2_method_27_code
def yX0_chargeInterest : MethodName := ⟨RX0, "chargeInterest", "()V"⟩
abbrev cX0_interestOn : ByteArray := prog_2_method_28_code
def yX0_interestOn : MethodName := ⟨RX0, "interestOn", "(I)I"⟩
abbrev cX0_findDefaults : ByteArray := prog_2_method_29_code
def yX0_findDefaults : MethodName := ⟨RX0, "findDefaults", "()V"⟩
abbrev cX0_failLatePayments : ByteArray := prog_2_method_30_code
def yX0_failLatePayments : MethodName := ⟨RX0, "failLatePayments", "()V"⟩
abbrev cX0_isLate : ByteArray := prog_2_method_31_code
def yX0_isLate : MethodName := ⟨RX0, "isLate", "(LNettingDesk$Payment;)Z"⟩
abbrev cX0_fail : ByteArray := prog_2_method_32_code
def yX0_fail : MethodName := ⟨RX0, "fail", "(LNettingDesk$Payment;)V"⟩
def RX1 : String := "NettingDesk$ByteRow"
def TX1 : u_T := fun k => match k with
  | 0 => ("NettingDesk$ByteRow", "bytes", "[B", true)
  | _ => ("NettingDesk$ByteRow", "length", "I", false)
def tyX1 : Nat → FieldType := fun k => match k with
  | 0 => .array .byte
  | _ => .int
abbrev wsX10 : List Cond := u_ws RX1 TX1 2
theorem nmX1 : ∀ a, a < 2 → ∀ b, b < 2 → a ≠ b → (TX1 a).2.1 ≠ (TX1 b).2.1 := by decide +kernel
theorem tyX1_ok : ∀ k, k < 2 → parseFieldDescriptor (TX1 k).2.2.1 = some (tyX1 k) := by decide +kernel
abbrev cX1_init : ByteArray := prog_3_method_1_code
def yX1_init : MethodName := ⟨RX1, "<init>", "(I)V"⟩
abbrev cX1_at : ByteArray := prog_3_method_2_code
def yX1_at : MethodName := ⟨RX1, "at", "(I)I"⟩
abbrev cX1_append : ByteArray := prog_3_method_3_code
def yX1_append : MethodName := ⟨RX1, "append", "(I)V"⟩
abbrev cX1_appendFour : ByteArray := prog_3_method_4_code
def yX1_appendFour : MethodName := ⟨RX1, "appendFour", "(I)V"⟩
abbrev cX1_appendWord : ByteArray := prog_3_method_5_code
def yX1_appendWord : MethodName := ⟨RX1, "appendWord", "(J)V"⟩
abbrev cX1_appendNumber : ByteArray := prog_3_method_6_code
def yX1_appendNumber : MethodName := ⟨RX1, "appendNumber", "(I)V"⟩
def RX2 : String := "NettingDesk$Money"
def TX2 : u_T := fun k => match k with
  | 0 => ("NettingDesk$Money", "name", "J", false)
  | 1 => ("NettingDesk$Money", "rate", "I", false)
  | _ => ("NettingDesk$Money", "cut", "I", false)
def tyX2 : Nat → FieldType := fun k => match k with
  | 0 => .long
  | 1 => .int
  | _ => .int
abbrev wsX20 : List Cond := u_ws RX2 TX2 3
theorem nmX2 : ∀ a, a < 3 → ∀ b, b < 3 → a ≠ b → (TX2 a).2.1 ≠ (TX2 b).2.1 := by decide +kernel
theorem tyX2_ok : ∀ k, k < 3 → parseFieldDescriptor (TX2 k).2.2.1 = some (tyX2 k) := by decide +kernel
abbrev cX2_init : ByteArray := prog_4_method_1_code
def yX2_init : MethodName := ⟨RX2, "<init>", "()V"⟩
abbrev cX2_copyFrom : ByteArray := prog_4_method_2_code
def yX2_copyFrom : MethodName := ⟨RX2, "copyFrom", "(LNettingDesk$Money;)V"⟩
def RX3 : String := "NettingDesk$Netting"
def TX3 : u_T := fun k => match k with
  | _ => ("NettingDesk$Netting", "book", "LNettingDesk$Book;", true)
def tyX3 : Nat → FieldType := fun k => match k with
  | _ => .object "NettingDesk$Book"
abbrev wsX30 : List Cond := u_ws RX3 TX3 1
theorem nmX3 : ∀ a, a < 1 → ∀ b, b < 1 → a ≠ b → (TX3 a).2.1 ≠ (TX3 b).2.1 := by decide +kernel
theorem tyX3_ok : ∀ k, k < 1 → parseFieldDescriptor (TX3 k).2.2.1 = some (tyX3 k) := by decide +kernel
abbrev cX3_init : ByteArray := prog_5_method_1_code
def yX3_init : MethodName := ⟨RX3, "<init>", "()V"⟩
abbrev cX3_begin : ByteArray := prog_5_method_2_code
def yX3_begin : MethodName := ⟨RX3, "begin", "()V"⟩
abbrev cX3_canTakePart : ByteArray := prog_5_method_3_code
def yX3_canTakePart : MethodName := ⟨RX3, "canTakePart", "(LNettingDesk$Payment;)Z"⟩
abbrev cX3_moveNetted : ByteArray := prog_5_method_4_code
def yX3_moveNetted : MethodName := ⟨RX3, "moveNetted", "(LNettingDesk$Payment;I)V"⟩
abbrev cX3_lookWhetherShort : ByteArray := prog_5_method_5_code
def yX3_lookWhetherShort : MethodName := ⟨RX3, "lookWhetherShort", "(LNettingDesk$Party;)V"⟩
abbrev cX3_leaveOutAll : ByteArray := prog_5_method_6_code
def yX3_leaveOutAll : MethodName := ⟨RX3, "leaveOutAll", "()V"⟩
abbrev cX3_leavesOneOut : ByteArray := prog_5_method_7_code
def yX3_leavesOneOut : MethodName := ⟨RX3, "leavesOneOut", "()Z"⟩
abbrev cX3_leaveOut : ByteArray := prog_5_method_8_code
def yX3_leaveOut : MethodName := ⟨RX3, "leaveOut", "(LNettingDesk$Payment;)V"⟩
abbrev cX3_firstShort : ByteArray := prog_5_method_9_code
def yX3_firstShort : MethodName := ⟨RX3, "firstShort", "()I"⟩
abbrev cX3_dearestOf : ByteArray := prog_5_method_10_code
def yX3_dearestOf : MethodName := ⟨RX3, "dearestOf", "(I)LNettingDesk$Payment;"⟩
abbrev cX3_settle : ByteArray := prog_5_method_11_code
def yX3_settle : MethodName := ⟨RX3, "settle", "()I"⟩
abbrev cX3_countSettling : ByteArray := prog_5_method_12_code
def yX3_countSettling : MethodName := ⟨RX3, "countSettling", "()I"⟩
abbrev cX3_leavesOutNoneOf : ByteArray := prog_5_method_13_code
def yX3_leavesOutNoneOf : MethodName := ⟨RX3, "leavesOutNoneOf", "(I)Z"⟩
abbrev cX3_countTakingPartOf : ByteArray := prog_5_method_14_code
def yX3_countTakingPartOf : MethodName := ⟨RX3, "countTakingPartOf", "(I)I"⟩
abbrev cX3_countTakingPart : ByteArray := prog_5_method_15_code
def yX3_countTakingPart : MethodName := ⟨RX3, "countTakingPart", "()I"⟩
abbrev cX3_countShort : ByteArray := prog_5_method_16_code
def yX3_countShort : MethodName := ⟨RX3, "countShort", "()I"⟩
abbrev cX3_worthTakingPart : ByteArray := prog_5_method_17_code
def yX3_worthTakingPart : MethodName := ⟨RX3, "worthTakingPart", "()J"⟩
abbrev cX3_worthOfGains : ByteArray := prog_5_method_18_code
def yX3_worthOfGains : MethodName := ⟨RX3, "worthOfGains", "()J"⟩
def RX4 : String := "NettingDesk$Party"
def TX4 : u_T := fun k => match k with
  | 0 => ("NettingDesk$Party", "name", "J", false)
  | 1 => ("NettingDesk$Party", "line", "I", false)
  | 2 => ("NettingDesk$Party", "inDefault", "Z", false)
  | 3 => ("NettingDesk$Party", "balance", "LNettingDesk$Row;", true)
  | 4 => ("NettingDesk$Party", "collateral", "LNettingDesk$Row;", true)
  | 5 => ("NettingDesk$Party", "netted", "LNettingDesk$Row;", true)
  | 6 => ("NettingDesk$Party", "limitNow", "J", false)
  | 7 => ("NettingDesk$Party", "exposureNow", "J", false)
  | _ => ("NettingDesk$Party", "isShort", "Z", false)
def tyX4 : Nat → FieldType := fun k => match k with
  | 0 => .long
  | 1 => .int
  | 2 => .boolean
  | 3 => .object "NettingDesk$Row"
  | 4 => .object "NettingDesk$Row"
  | 5 => .object "NettingDesk$Row"
  | 6 => .long
  | 7 => .long
  | _ => .boolean
abbrev wsX40 : List Cond := u_ws RX4 TX4 9
theorem nmX4 : ∀ a, a < 9 → ∀ b, b < 9 → a ≠ b → (TX4 a).2.1 ≠ (TX4 b).2.1 := by decide +kernel
theorem tyX4_ok : ∀ k, k < 9 → parseFieldDescriptor (TX4 k).2.2.1 = some (tyX4 k) := by decide +kernel
abbrev cX4_init : ByteArray := prog_6_method_1_code
def yX4_init : MethodName := ⟨RX4, "<init>", "()V"⟩
abbrev cX4_moveToCollateral : ByteArray := prog_6_method_2_code
def yX4_moveToCollateral : MethodName := ⟨RX4, "moveToCollateral", "(II)V"⟩
abbrev cX4_copyFrom : ByteArray := prog_6_method_3_code
def yX4_copyFrom : MethodName := ⟨RX4, "copyFrom", "(LNettingDesk$Party;)V"⟩
def RX5 : String := "NettingDesk$Payment"
def TX5 : u_T := fun k => match k with
  | 0 => ("NettingDesk$Payment", "from", "I", false)
  | 1 => ("NettingDesk$Payment", "to", "I", false)
  | 2 => ("NettingDesk$Payment", "amount", "I", false)
  | 3 => ("NettingDesk$Payment", "money", "I", false)
  | 4 => ("NettingDesk$Payment", "due", "I", false)
  | 5 => ("NettingDesk$Payment", "partner", "I", false)
  | 6 => ("NettingDesk$Payment", "state", "I", false)
  | 7 => ("NettingDesk$Payment", "settledAt", "I", false)
  | 8 => ("NettingDesk$Payment", "isHeld", "Z", false)
  | _ => ("NettingDesk$Payment", "takesPart", "Z", false)
def tyX5 : Nat → FieldType := fun k => match k with
  | 0 => .int
  | 1 => .int
  | 2 => .int
  | 3 => .int
  | 4 => .int
  | 5 => .int
  | 6 => .int
  | 7 => .int
  | 8 => .boolean
  | _ => .boolean
abbrev wsX50 : List Cond := u_ws RX5 TX5 10
theorem nmX5 : ∀ a, a < 10 → ∀ b, b < 10 → a ≠ b → (TX5 a).2.1 ≠ (TX5 b).2.1 := by decide +kernel
theorem tyX5_ok : ∀ k, k < 10 → parseFieldDescriptor (TX5 k).2.2.1 = some (tyX5 k) := by decide +kernel
abbrev cX5_init : ByteArray := prog_7_method_1_code
def yX5_init : MethodName := ⟨RX5, "<init>", "()V"⟩
abbrev cX5_copyFrom : ByteArray := prog_7_method_2_code
def yX5_copyFrom : MethodName := ⟨RX5, "copyFrom", "(LNettingDesk$Payment;)V"⟩
def RX6 : String := "NettingDesk$Row"
def TX6 : u_T := fun k => match k with
  | _ => ("NettingDesk$Row", "numbers", "[I", true)
def tyX6 : Nat → FieldType := fun k => match k with
  | _ => .array .int
abbrev wsX60 : List Cond := u_ws RX6 TX6 1
theorem nmX6 : ∀ a, a < 1 → ∀ b, b < 1 → a ≠ b → (TX6 a).2.1 ≠ (TX6 b).2.1 := by decide +kernel
theorem tyX6_ok : ∀ k, k < 1 → parseFieldDescriptor (TX6 k).2.2.1 = some (tyX6 k) := by decide +kernel
abbrev cX6_init : ByteArray := prog_8_method_1_code
def yX6_init : MethodName := ⟨RX6, "<init>", "(I)V"⟩
abbrev cX6_at : ByteArray := prog_8_method_2_code
def yX6_at : MethodName := ⟨RX6, "at", "(I)I"⟩
abbrev cX6_add : ByteArray := prog_8_method_3_code
def yX6_add : MethodName := ⟨RX6, "add", "(II)V"⟩
abbrev cX6_clear : ByteArray := prog_8_method_4_code
def yX6_clear : MethodName := ⟨RX6, "clear", "()V"⟩
abbrev cX6_copyFrom : ByteArray := prog_8_method_5_code
def yX6_copyFrom : MethodName := ⟨RX6, "copyFrom", "(LNettingDesk$Row;)V"⟩
def RX7 : String := "NettingDesk$Teller"
def TX7 : u_T := fun k => match k with
  | 0 => ("NettingDesk$Teller", "text", "LNettingDesk$Text;", true)
  | 1 => ("NettingDesk$Teller", "errorPlace", "I", false)
  | 2 => ("NettingDesk$Teller", "error", "I", false)
  | _ => ("NettingDesk$Teller", "start", "I", false)
def tyX7 : Nat → FieldType := fun k => match k with
  | 0 => .object "NettingDesk$Text"
  | 1 => .int
  | 2 => .int
  | _ => .int
abbrev wsX70 : List Cond := u_ws RX7 TX7 4
theorem nmX7 : ∀ a, a < 4 → ∀ b, b < 4 → a ≠ b → (TX7 a).2.1 ≠ (TX7 b).2.1 := by decide +kernel
theorem tyX7_ok : ∀ k, k < 4 → parseFieldDescriptor (TX7 k).2.2.1 = some (tyX7 k) := by decide +kernel
abbrev cX7_init : ByteArray := prog_9_method_1_code
def yX7_init : MethodName := ⟨RX7, "<init>", "()V"⟩
abbrev cX7_tellAll : ByteArray := prog_9_method_2_code
def yX7_tellAll : MethodName := ⟨RX7, "tellAll", "(LNettingDesk$Book;)I"⟩
abbrev cX7_goBehindSentence : ByteArray := prog_9_method_3_code
def yX7_goBehindSentence : MethodName := ⟨RX7, "goBehindSentence", "()V"⟩
abbrev cX7_tellSentence : ByteArray := prog_9_method_4_code
def yX7_tellSentence : MethodName := ⟨RX7, "tellSentence", "(LNettingDesk$Book;)V"⟩
abbrev cX7_refuse : ByteArray := prog_9_method_5_code
def yX7_refuse : MethodName := ⟨RX7, "refuse", "(II)V"⟩
abbrev cX7_tellParty : ByteArray := prog_9_method_6_code
def yX7_tellParty : MethodName := ⟨RX7, "tellParty", "(LNettingDesk$Book;)V"⟩
abbrev cX7_tellMoney : ByteArray := prog_9_method_7_code
def yX7_tellMoney : MethodName := ⟨RX7, "tellMoney", "(LNettingDesk$Book;)V"⟩
abbrev cX7_tellPay : ByteArray := prog_9_method_8_code
def yX7_tellPay : MethodName := ⟨RX7, "tellPay", "(LNettingDesk$Book;)V"⟩
abbrev cX7_tellHold : ByteArray := prog_9_method_9_code
def yX7_tellHold : MethodName := ⟨RX7, "tellHold", "(LNettingDesk$Book;)V"⟩
abbrev cX7_tellCancel : ByteArray := prog_9_method_10_code
def yX7_tellCancel : MethodName := ⟨RX7, "tellCancel", "(LNettingDesk$Book;)V"⟩
def RX8 : String := "NettingDesk$Text"
def TX8 : u_T := fun k => match k with
  | 0 => ("NettingDesk$Text", "tape", "LNettingDesk$ByteRow;", true)
  | 1 => ("NettingDesk$Text", "kinds", "[I", true)
  | 2 => ("NettingDesk$Text", "places", "[I", true)
  | 3 => ("NettingDesk$Text", "values", "[J", true)
  | 4 => ("NettingDesk$Text", "count", "I", false)
  | 5 => ("NettingDesk$Text", "reached", "I", false)
  | 6 => ("NettingDesk$Text", "kind", "I", false)
  | 7 => ("NettingDesk$Text", "place", "I", false)
  | 8 => ("NettingDesk$Text", "behind", "I", false)
  | _ => ("NettingDesk$Text", "value", "J", false)
def tyX8 : Nat → FieldType := fun k => match k with
  | 0 => .object "NettingDesk$ByteRow"
  | 1 => .array .int
  | 2 => .array .int
  | 3 => .array .long
  | 4 => .int
  | 5 => .int
  | 6 => .int
  | 7 => .int
  | 8 => .int
  | _ => .long
abbrev wsX80 : List Cond := u_ws RX8 TX8 10
theorem nmX8 : ∀ a, a < 10 → ∀ b, b < 10 → a ≠ b → (TX8 a).2.1 ≠ (TX8 b).2.1 := by decide +kernel
theorem tyX8_ok : ∀ k, k < 10 → parseFieldDescriptor (TX8 k).2.2.1 = some (tyX8 k) := by decide +kernel
abbrev cX8_init : ByteArray := prog_10_method_1_code
def yX8_init : MethodName := ⟨RX8, "<init>", "()V"⟩
abbrev cX8_readTokens : ByteArray := prog_10_method_2_code
def yX8_readTokens : MethodName := ⟨RX8, "readTokens", "()V"⟩
abbrev cX8_readToken : ByteArray := prog_10_method_3_code
def yX8_readToken : MethodName := ⟨RX8, "readToken", "()V"⟩
abbrev cX8_skipBlanks : ByteArray := prog_10_method_4_code
def yX8_skipBlanks : MethodName := ⟨RX8, "skipBlanks", "()V"⟩
abbrev cX8_readNumber : ByteArray := prog_10_method_5_code
def yX8_readNumber : MethodName := ⟨RX8, "readNumber", "()V"⟩
abbrev cX8_readWord : ByteArray := prog_10_method_6_code
def yX8_readWord : MethodName := ⟨RX8, "readWord", "()V"⟩
abbrev cX8_kindOfWord : ByteArray := prog_10_method_7_code
def yX8_kindOfWord : MethodName := ⟨RX8, "kindOfWord", "(J)I"⟩
abbrev cX8_isDigit : ByteArray := prog_10_method_8_code
def yX8_isDigit : MethodName := ⟨RX8, "isDigit", "(I)Z"⟩
abbrev cX8_isLetter : ByteArray := prog_10_method_9_code
def yX8_isLetter : MethodName := ⟨RX8, "isLetter", "(I)Z"⟩
abbrev cX8_isText : ByteArray := prog_10_method_10_code
def yX8_isText : MethodName := ⟨RX8, "isText", "()Z"⟩
abbrev cX8_takesSentence : ByteArray := prog_10_method_11_code
def yX8_takesSentence : MethodName := ⟨RX8, "takesSentence", "()Z"⟩
abbrev cX8_takesNumberIfBehind : ByteArray := prog_10_method_12_code
def yX8_takesNumberIfBehind : MethodName := ⟨RX8, "takesNumberIfBehind", "(I)Z"⟩
abbrev cX8_takes : ByteArray := prog_10_method_13_code
def yX8_takes : MethodName := ⟨RX8, "takes", "(I)Z"⟩
abbrev cX8_placeReached : ByteArray := prog_10_method_14_code
def yX8_placeReached : MethodName := ⟨RX8, "placeReached", "()I"⟩
abbrev cX8_tokenCount : ByteArray := prog_10_method_15_code
def yX8_tokenCount : MethodName := ⟨RX8, "tokenCount", "()I"⟩
abbrev cX8_kindAt : ByteArray := prog_10_method_16_code
def yX8_kindAt : MethodName := ⟨RX8, "kindAt", "(I)I"⟩
abbrev cX8_placeAt : ByteArray := prog_10_method_17_code
def yX8_placeAt : MethodName := ⟨RX8, "placeAt", "(I)I"⟩
abbrev cX8_wordAt : ByteArray := prog_10_method_18_code
def yX8_wordAt : MethodName := ⟨RX8, "wordAt", "(I)J"⟩
abbrev cX8_numberAt : ByteArray := prog_10_method_19_code
def yX8_numberAt : MethodName := ⟨RX8, "numberAt", "(I)I"⟩
def RX9 : String := "NettingDesk"
def TX9 : u_T := fun k => match k with
  | 0 => ("NettingDesk", "teller", "LNettingDesk$Teller;", true)
  | 1 => ("NettingDesk", "text", "LNettingDesk$Text;", true)
  | 2 => ("NettingDesk", "tape", "LNettingDesk$ByteRow;", true)
  | 3 => ("NettingDesk", "paper", "LNettingDesk$ByteRow;", true)
  | 4 => ("NettingDesk", "netting", "LNettingDesk$Netting;", true)
  | 5 => ("NettingDesk", "book", "LNettingDesk$Book;", true)
  | 6 => ("NettingDesk", "draftNetting", "LNettingDesk$Netting;", true)
  | 7 => ("NettingDesk", "draft", "LNettingDesk$Book;", true)
  | 8 => ("NettingDesk", "debts", "LNettingDesk$Row;", true)
  | _ => ("NettingDesk", "errorPlace", "I", false)
def tyX9 : Nat → FieldType := fun k => match k with
  | 0 => .object "NettingDesk$Teller"
  | 1 => .object "NettingDesk$Text"
  | 2 => .object "NettingDesk$ByteRow"
  | 3 => .object "NettingDesk$ByteRow"
  | 4 => .object "NettingDesk$Netting"
  | 5 => .object "NettingDesk$Book"
  | 6 => .object "NettingDesk$Netting"
  | 7 => .object "NettingDesk$Book"
  | 8 => .object "NettingDesk$Row"
  | _ => .int
abbrev wsX90 : List Cond := u_ws RX9 TX9 10
theorem nmX9 : ∀ a, a < 10 → ∀ b, b < 10 → a ≠ b → (TX9 a).2.1 ≠ (TX9 b).2.1 := by decide +kernel
theorem tyX9_ok : ∀ k, k < 10 → parseFieldDescriptor (TX9 k).2.2.1 = some (tyX9 k) := by decide +kernel
abbrev cX9_init : ByteArray := prog_1_method_1_code
def yX9_init : MethodName := ⟨RX9, "<init>", "()V"⟩
abbrev cX9_feed : ByteArray := prog_1_method_2_code
def yX9_feed : MethodName := ⟨RX9, "feed", "(IIIII)I"⟩
abbrev cX9_trim : ByteArray := prog_1_method_3_code
def yX9_trim : MethodName := ⟨RX9, "trim", "(I)I"⟩
abbrev cX9_teach : ByteArray := prog_1_method_4_code
def yX9_teach : MethodName := ⟨RX9, "teach", "()I"⟩
abbrev cX9_errorAt : ByteArray := prog_1_method_5_code
def yX9_errorAt : MethodName := ⟨RX9, "errorAt", "()I"⟩
abbrev cX9_count : ByteArray := prog_1_method_6_code
def yX9_count : MethodName := ⟨RX9, "count", "(I)I"⟩
abbrev cX9_counted : ByteArray := prog_1_method_7_code
def yX9_counted : MethodName := ⟨RX9, "counted", "(I)I"⟩
abbrev cX9_party : ByteArray := prog_1_method_8_code
def yX9_party : MethodName := ⟨RX9, "party", "(II)I"⟩
abbrev cX9_toldOfParty : ByteArray := prog_1_method_9_code
def yX9_toldOfParty : MethodName := ⟨RX9, "toldOfParty", "(II)I"⟩
abbrev cX9_money : ByteArray := prog_1_method_10_code
def yX9_money : MethodName := ⟨RX9, "money", "(II)I"⟩
abbrev cX9_toldOfMoney : ByteArray := prog_1_method_11_code
def yX9_toldOfMoney : MethodName := ⟨RX9, "toldOfMoney", "(II)I"⟩
abbrev cX9_setRate : ByteArray := prog_1_method_12_code
def yX9_setRate : MethodName := ⟨RX9, "setRate", "(II)I"⟩
abbrev cX9_has : ByteArray := prog_1_method_13_code
def yX9_has : MethodName := ⟨RX9, "has", "(IIZ)I"⟩
abbrev cX9_deposit : ByteArray := prog_1_method_14_code
def yX9_deposit : MethodName := ⟨RX9, "deposit", "(III)I"⟩
abbrev cX9_withdraw : ByteArray := prog_1_method_15_code
def yX9_withdraw : MethodName := ⟨RX9, "withdraw", "(III)I"⟩
abbrev cX9_pledge : ByteArray := prog_1_method_16_code
def yX9_pledge : MethodName := ⟨RX9, "pledge", "(III)I"⟩
abbrev cX9_payment : ByteArray := prog_1_method_17_code
def yX9_payment : MethodName := ⟨RX9, "payment", "(II)I"⟩
abbrev cX9_toldOfPayment : ByteArray := prog_1_method_18_code
def yX9_toldOfPayment : MethodName := ⟨RX9, "toldOfPayment", "(II)I"⟩
abbrev cX9_amend : ByteArray := prog_1_method_19_code
def yX9_amend : MethodName := ⟨RX9, "amend", "(II)I"⟩
abbrev cX9_putOff : ByteArray := prog_1_method_20_code
def yX9_putOff : MethodName := ⟨RX9, "putOff", "(II)I"⟩
abbrev cX9_owes : ByteArray := prog_1_method_21_code
def yX9_owes : MethodName := ⟨RX9, "owes", "(III)I"⟩
abbrev cX9_fillDebts : ByteArray := prog_1_method_22_code
def yX9_fillDebts : MethodName := ⟨RX9, "fillDebts", "(I)V"⟩
abbrev cX9_debt : ByteArray := prog_1_method_23_code
def yX9_debt : MethodName := ⟨RX9, "debt", "(II)I"⟩
abbrev cX9_pass : ByteArray := prog_1_method_24_code
def yX9_pass : MethodName := ⟨RX9, "pass", "(I)I"⟩
abbrev cX9_run : ByteArray := prog_1_method_25_code
def yX9_run : MethodName := ⟨RX9, "run", "(I)I"⟩
abbrev cX9_settles : ByteArray := prog_1_method_26_code
def yX9_settles : MethodName := ⟨RX9, "settles", "(I)Z"⟩
abbrev cX9_when : ByteArray := prog_1_method_27_code
def yX9_when : MethodName := ⟨RX9, "when", "(I)I"⟩
abbrev cX9_frees : ByteArray := prog_1_method_28_code
def yX9_frees : MethodName := ⟨RX9, "frees", "(II)I"⟩
abbrev cX9_advise : ByteArray := prog_1_method_29_code
def yX9_advise : MethodName := ⟨RX9, "advise", "(II)I"⟩
abbrev cX9_ring : ByteArray := prog_1_method_30_code
def yX9_ring : MethodName := ⟨RX9, "ring", "(I)I"⟩
abbrev cX9_report : ByteArray := prog_1_method_31_code
def yX9_report : MethodName := ⟨RX9, "report", "(I)I"⟩
abbrev cX9_writePayment : ByteArray := prog_1_method_32_code
def yX9_writePayment : MethodName := ⟨RX9, "writePayment", "(LNettingDesk$Payment;)V"⟩
abbrev cX9_letterOf : ByteArray := prog_1_method_33_code
def yX9_letterOf : MethodName := ⟨RX9, "letterOf", "(I)C"⟩
abbrev cX9_byteAt : ByteArray := prog_1_method_34_code
def yX9_byteAt : MethodName := ⟨RX9, "byteAt", "(I)I"⟩
abbrev cX9_kept : ByteArray := prog_1_method_35_code
def yX9_kept : MethodName := ⟨RX9, "kept", "()D"⟩
abbrev cX9_digest : ByteArray := prog_1_method_36_code
def yX9_digest : MethodName := ⟨RX9, "digest", "()J"⟩
abbrev cX9_digestParties : ByteArray := prog_1_method_37_code
def yX9_digestParties : MethodName := ⟨RX9, "digestParties", "(J)J"⟩
abbrev cX9_digestMoneys : ByteArray := prog_1_method_38_code
def yX9_digestMoneys : MethodName := ⟨RX9, "digestMoneys", "(J)J"⟩
abbrev cX9_digestPayments : ByteArray := prog_1_method_39_code
def yX9_digestPayments : MethodName := ⟨RX9, "digestPayments", "(J)J"⟩
abbrev cX9_isParty : ByteArray := prog_1_method_40_code
def yX9_isParty : MethodName := ⟨RX9, "isParty", "(I)Z"⟩
abbrev cX9_isMoney : ByteArray := prog_1_method_41_code
def yX9_isMoney : MethodName := ⟨RX9, "isMoney", "(I)Z"⟩
abbrev cX9_isPayment : ByteArray := prog_1_method_42_code
def yX9_isPayment : MethodName := ⟨RX9, "isPayment", "(I)Z"⟩
abbrev cX9_isFrom : ByteArray := prog_1_method_43_code
def yX9_isFrom : MethodName := ⟨RX9, "isFrom", "(III)Z"⟩
def RX10 : String := "NettingDeskModel$State"
def TX10 : u_T := fun k => match k with
  | 0 => ("NettingDeskModel$State", "day", "I", false)
  | 1 => ("NettingDeskModel$State", "hour", "I", false)
  | 2 => ("NettingDeskModel$State", "parties", "I", false)
  | 3 => ("NettingDeskModel$State", "moneys", "I", false)
  | 4 => ("NettingDeskModel$State", "payments", "I", false)
  | 5 => ("NettingDeskModel$State", "name", "[J", true)
  | 6 => ("NettingDeskModel$State", "line", "[I", true)
  | 7 => ("NettingDeskModel$State", "isOut", "[I", true)
  | 8 => ("NettingDeskModel$State", "title", "[J", true)
  | 9 => ("NettingDeskModel$State", "rate", "[I", true)
  | 10 => ("NettingDeskModel$State", "cut", "[I", true)
  | 11 => ("NettingDeskModel$State", "balance", "[I", true)
  | 12 => ("NettingDeskModel$State", "pledged", "[I", true)
  | 13 => ("NettingDeskModel$State", "from", "[I", true)
  | 14 => ("NettingDeskModel$State", "to", "[I", true)
  | 15 => ("NettingDeskModel$State", "amount", "[I", true)
  | 16 => ("NettingDeskModel$State", "money", "[I", true)
  | 17 => ("NettingDeskModel$State", "due", "[I", true)
  | 18 => ("NettingDeskModel$State", "partner", "[I", true)
  | 19 => ("NettingDeskModel$State", "status", "[I", true)
  | 20 => ("NettingDeskModel$State", "held", "[I", true)
  | 21 => ("NettingDeskModel$State", "when", "[I", true)
  | 22 => ("NettingDeskModel$State", "in", "[I", true)
  | 23 => ("NettingDeskModel$State", "more", "[I", true)
  | _ => ("NettingDeskModel$State", "this$0", "LNettingDeskModel;", true)
def tyX10 : Nat → FieldType := fun k => match k with
  | 0 => .int
  | 1 => .int
  | 2 => .int
  | 3 => .int
  | 4 => .int
  | 5 => .array .long
  | 6 => .array .int
  | 7 => .array .int
  | 8 => .array .long
  | 9 => .array .int
  | 10 => .array .int
  | 11 => .array .int
  | 12 => .array .int
  | 13 => .array .int
  | 14 => .array .int
  | 15 => .array .int
  | 16 => .array .int
  | 17 => .array .int
  | 18 => .array .int
  | 19 => .array .int
  | 20 => .array .int
  | 21 => .array .int
  | 22 => .array .int
  | 23 => .array .int
  | _ => .object "NettingDeskModel"
abbrev wsX100 : List Cond := u_ws RX10 TX10 25
theorem nmX10 : ∀ a, a < 25 → ∀ b, b < 25 → a ≠ b → (TX10 a).2.1 ≠ (TX10 b).2.1 := by decide +kernel
theorem tyX10_ok : ∀ k, k < 25 → parseFieldDescriptor (TX10 k).2.2.1 = some (tyX10 k) := by decide +kernel
abbrev cX10_init : ByteArray := prog_13_method_1_code
def yX10_init : MethodName := ⟨RX10, "<init>", "(LNettingDeskModel;)V"⟩
abbrev cX10_copy : ByteArray := prog_13_method_2_code
def yX10_copy : MethodName := ⟨RX10, "copy", "([I[I)V"⟩
abbrev cX10_become : ByteArray := prog_13_method_3_code
def yX10_become : MethodName := ⟨RX10, "become", "(LNettingDeskModel$State;)V"⟩
abbrev cX10_find : ByteArray := prog_13_method_4_code
def yX10_find : MethodName := ⟨RX10, "find", "([JIJ)I"⟩
abbrev cX10_party : ByteArray := prog_13_method_5_code
def yX10_party : MethodName := ⟨RX10, "party", "(J)I"⟩
abbrev cX10_money : ByteArray := prog_13_method_6_code
def yX10_money : MethodName := ⟨RX10, "money", "(J)I"⟩
abbrev cX10_isWaiting : ByteArray := prog_13_method_7_code
def yX10_isWaiting : MethodName := ⟨RX10, "isWaiting", "(I)Z"⟩
abbrev cX10_addParty : ByteArray := prog_13_method_8_code
def yX10_addParty : MethodName := ⟨RX10, "addParty", "(JI)V"⟩
abbrev cX10_addMoney : ByteArray := prog_13_method_9_code
def yX10_addMoney : MethodName := ⟨RX10, "addMoney", "(JII)V"⟩
abbrev cX10_addPayment : ByteArray := prog_13_method_10_code
def yX10_addPayment : MethodName := ⟨RX10, "addPayment", "(IIIIII)V"⟩
abbrev cX10_cancel : ByteArray := prog_13_method_11_code
def yX10_cancel : MethodName := ⟨RX10, "cancel", "(I)V"⟩
abbrev cX10_worth : ByteArray := prog_13_method_12_code
def yX10_worth : MethodName := ⟨RX10, "worth", "(JI)J"⟩
abbrev cX10_limit : ByteArray := prog_13_method_13_code
def yX10_limit : MethodName := ⟨RX10, "limit", "(I)J"⟩
abbrev cX10_exposure : ByteArray := prog_13_method_14_code
def yX10_exposure : MethodName := ⟨RX10, "exposure", "(IZ)J"⟩
abbrev cX10_room : ByteArray := prog_13_method_15_code
def yX10_room : MethodName := ⟨RX10, "room", "(I)J"⟩
abbrev cX10_isReady : ByteArray := prog_13_method_16_code
def yX10_isReady : MethodName := ⟨RX10, "isReady", "(I)Z"⟩
abbrev cX10_move : ByteArray := prog_13_method_17_code
def yX10_move : MethodName := ⟨RX10, "move", "(II)V"⟩
abbrev cX10_begin : ByteArray := prog_13_method_18_code
def yX10_begin : MethodName := ⟨RX10, "begin", "()I"⟩
abbrev cX10_isShort : ByteArray := prog_13_method_19_code
def yX10_isShort : MethodName := ⟨RX10, "isShort", "(I)Z"⟩
abbrev cX10_leaveOut : ByteArray := prog_13_method_20_code
def yX10_leaveOut : MethodName := ⟨RX10, "leaveOut", "(I)V"⟩
abbrev cX10_go : ByteArray := prog_13_method_21_code
def yX10_go : MethodName := ⟨RX10, "go", "()I"⟩
abbrev cX10_fail : ByteArray := prog_13_method_22_code
def yX10_fail : MethodName := ⟨RX10, "fail", "(I)V"⟩
abbrev cX10_pass : ByteArray := prog_13_method_23_code
def yX10_pass : MethodName := ⟨RX10, "pass", "()I"⟩
abbrev cX10_owes : ByteArray := prog_13_method_24_code
def yX10_owes : MethodName := ⟨RX10, "owes", "(III)I"⟩
def RX11 : String := "NettingDeskModel"
def TX11 : u_T := fun k => match k with
  | 0 => ("NettingDeskModel", "thrown", "I", false)
  | 1 => ("NettingDeskModel", "tape", "[I", true)
  | 2 => ("NettingDeskModel", "bytes", "I", false)
  | 3 => ("NettingDeskModel", "errorAt", "I", false)
  | 4 => ("NettingDeskModel", "paper", "[I", true)
  | 5 => ("NettingDeskModel", "written", "I", false)
  | 6 => ("NettingDeskModel", "keywords", "[J", true)
  | 7 => ("NettingDeskModel", "tokens", "I", false)
  | 8 => ("NettingDeskModel", "type", "[I", true)
  | 9 => ("NettingDeskModel", "place", "[I", true)
  | 10 => ("NettingDeskModel", "value", "[I", true)
  | 11 => ("NettingDeskModel", "word", "[J", true)
  | 12 => ("NettingDeskModel", "at", "I", false)
  | 13 => ("NettingDeskModel", "s", "LNettingDeskModel$State;", false)
  | _ => ("NettingDeskModel", "ahead", "LNettingDeskModel$State;", false)
def tyX11 : Nat → FieldType := fun k => match k with
  | 0 => .int
  | 1 => .array .int
  | 2 => .int
  | 3 => .int
  | 4 => .array .int
  | 5 => .int
  | 6 => .array .long
  | 7 => .int
  | 8 => .array .int
  | 9 => .array .int
  | 10 => .array .int
  | 11 => .array .long
  | 12 => .int
  | 13 => .object "NettingDeskModel$State"
  | _ => .object "NettingDeskModel$State"
abbrev wsX110 : List Cond := u_ws RX11 TX11 15
theorem nmX11 : ∀ a, a < 15 → ∀ b, b < 15 → a ≠ b → (TX11 a).2.1 ≠ (TX11 b).2.1 := by decide +kernel
theorem tyX11_ok : ∀ k, k < 15 → parseFieldDescriptor (TX11 k).2.2.1 = some (tyX11 k) := by decide +kernel
abbrev cX11_init : ByteArray := prog_12_method_1_code
def yX11_init : MethodName := ⟨RX11, "<init>", "()V"⟩
abbrev cX11_thrown : ByteArray := prog_12_method_2_code
def yX11_thrown : MethodName := ⟨RX11, "thrown", "()I"⟩
abbrev cX11_no : ByteArray := prog_12_method_3_code
def yX11_no : MethodName := ⟨RX11, "no", "(I)I"⟩
abbrev cX11_isIn : ByteArray := prog_12_method_4_code
def yX11_isIn : MethodName := ⟨RX11, "isIn", "(III)Z"⟩
abbrev cX11_isParty : ByteArray := prog_12_method_5_code
def yX11_isParty : MethodName := ⟨RX11, "isParty", "(I)Z"⟩
abbrev cX11_isMoney : ByteArray := prog_12_method_6_code
def yX11_isMoney : MethodName := ⟨RX11, "isMoney", "(I)Z"⟩
abbrev cX11_isPayment : ByteArray := prog_12_method_7_code
def yX11_isPayment : MethodName := ⟨RX11, "isPayment", "(I)Z"⟩
abbrev cX11_isLetter : ByteArray := prog_12_method_8_code
def yX11_isLetter : MethodName := ⟨RX11, "isLetter", "(I)Z"⟩
abbrev cX11_isDigit : ByteArray := prog_12_method_9_code
def yX11_isDigit : MethodName := ⟨RX11, "isDigit", "(I)Z"⟩
abbrev cX11_next : ByteArray := prog_12_method_10_code
def yX11_next : MethodName := ⟨RX11, "next", "(JI)J"⟩
abbrev cX11_code : ByteArray := prog_12_method_11_code
def yX11_code : MethodName := ⟨RX11, "code", "(Ljava/lang/String;)J"⟩
abbrev cX11_feed : ByteArray := prog_12_method_12_code
def yX11_feed : MethodName := ⟨RX11, "feed", "(IIIII)I"⟩
abbrev cX11_trim : ByteArray := prog_12_method_13_code
def yX11_trim : MethodName := ⟨RX11, "trim", "(I)I"⟩
abbrev cX11_token : ByteArray := prog_12_method_14_code
def yX11_token : MethodName := ⟨RX11, "token", "(I)I"⟩
abbrev cX11_read : ByteArray := prog_12_method_15_code
def yX11_read : MethodName := ⟨RX11, "read", "()V"⟩
abbrev cX11_are : ByteArray := prog_12_method_16_code
def yX11_are : MethodName := ⟨RX11, "are", "([I)Z"⟩
abbrev cX11_isSentence : ByteArray := prog_12_method_17_code
def yX11_isSentence : MethodName := ⟨RX11, "isSentence", "()Z"⟩
abbrev cX11_carryOut : ByteArray := prog_12_method_18_code
def yX11_carryOut : MethodName := ⟨RX11, "carryOut", "()I"⟩
abbrev cX11_teach : ByteArray := prog_12_method_19_code
def yX11_teach : MethodName := ⟨RX11, "teach", "()I"⟩
abbrev cX11_errorAt : ByteArray := prog_12_method_20_code
def yX11_errorAt : MethodName := ⟨RX11, "errorAt", "()I"⟩
abbrev cX11_with : ByteArray := prog_12_method_21_code
def yX11_with : MethodName := ⟨RX11, "with", "(I)I"⟩
abbrev cX11_counted : ByteArray := prog_12_method_22_code
def yX11_counted : MethodName := ⟨RX11, "counted", "(I)I"⟩
abbrev cX11_count : ByteArray := prog_12_method_23_code
def yX11_count : MethodName := ⟨RX11, "count", "(I)I"⟩
abbrev cX11_partyTold : ByteArray := prog_12_method_24_code
def yX11_partyTold : MethodName := ⟨RX11, "partyTold", "(II)I"⟩
abbrev cX11_party : ByteArray := prog_12_method_25_code
def yX11_party : MethodName := ⟨RX11, "party", "(II)I"⟩
abbrev cX11_moneyTold : ByteArray := prog_12_method_26_code
def yX11_moneyTold : MethodName := ⟨RX11, "moneyTold", "(II)I"⟩
abbrev cX11_money : ByteArray := prog_12_method_27_code
def yX11_money : MethodName := ⟨RX11, "money", "(II)I"⟩
abbrev cX11_setRate : ByteArray := prog_12_method_28_code
def yX11_setRate : MethodName := ⟨RX11, "setRate", "(II)I"⟩
abbrev cX11_has : ByteArray := prog_12_method_29_code
def yX11_has : MethodName := ⟨RX11, "has", "(IIZ)I"⟩
abbrev cX11_deposit : ByteArray := prog_12_method_30_code
def yX11_deposit : MethodName := ⟨RX11, "deposit", "(III)I"⟩
abbrev cX11_withdraw : ByteArray := prog_12_method_31_code
def yX11_withdraw : MethodName := ⟨RX11, "withdraw", "(III)I"⟩
abbrev cX11_pledge : ByteArray := prog_12_method_32_code
def yX11_pledge : MethodName := ⟨RX11, "pledge", "(III)I"⟩
abbrev cX11_paymentTold : ByteArray := prog_12_method_33_code
def yX11_paymentTold : MethodName := ⟨RX11, "paymentTold", "(II)I"⟩
abbrev cX11_payment : ByteArray := prog_12_method_34_code
def yX11_payment : MethodName := ⟨RX11, "payment", "(II)I"⟩
abbrev cX11_amend : ByteArray := prog_12_method_35_code
def yX11_amend : MethodName := ⟨RX11, "amend", "(II)I"⟩
abbrev cX11_putOff : ByteArray := prog_12_method_36_code
def yX11_putOff : MethodName := ⟨RX11, "putOff", "(II)I"⟩
abbrev cX11_owes : ByteArray := prog_12_method_37_code
def yX11_owes : MethodName := ⟨RX11, "owes", "(III)I"⟩
abbrev cX11_pass : ByteArray := prog_12_method_38_code
def yX11_pass : MethodName := ⟨RX11, "pass", "(I)I"⟩
abbrev cX11_run : ByteArray := prog_12_method_39_code
def yX11_run : MethodName := ⟨RX11, "run", "(I)I"⟩
abbrev cX11_settles : ByteArray := prog_12_method_40_code
def yX11_settles : MethodName := ⟨RX11, "settles", "(I)Z"⟩
abbrev cX11_when : ByteArray := prog_12_method_41_code
def yX11_when : MethodName := ⟨RX11, "when", "(I)I"⟩
abbrev cX11_frees : ByteArray := prog_12_method_42_code
def yX11_frees : MethodName := ⟨RX11, "frees", "(II)I"⟩
abbrev cX11_advise : ByteArray := prog_12_method_43_code
def yX11_advise : MethodName := ⟨RX11, "advise", "(II)I"⟩
abbrev cX11_ring : ByteArray := prog_12_method_44_code
def yX11_ring : MethodName := ⟨RX11, "ring", "(I)I"⟩
abbrev cX11_put : ByteArray := prog_12_method_45_code
def yX11_put : MethodName := ⟨RX11, "put", "(I)V"⟩
abbrev cX11_putNumber : ByteArray := prog_12_method_46_code
def yX11_putNumber : MethodName := ⟨RX11, "putNumber", "(I)V"⟩
abbrev cX11_putWord : ByteArray := prog_12_method_47_code
def yX11_putWord : MethodName := ⟨RX11, "putWord", "(J)V"⟩
abbrev cX11_report : ByteArray := prog_12_method_48_code
def yX11_report : MethodName := ⟨RX11, "report", "(I)I"⟩
abbrev cX11_byteAt : ByteArray := prog_12_method_49_code
def yX11_byteAt : MethodName := ⟨RX11, "byteAt", "(I)I"⟩
abbrev cX11_kept : ByteArray := prog_12_method_50_code
def yX11_kept : MethodName := ⟨RX11, "kept", "()D"⟩
abbrev cX11_digest : ByteArray := prog_12_method_51_code
def yX11_digest : MethodName := ⟨RX11, "digest", "()J"⟩
def RL : String := "NettingDeskLaw"
abbrev cL_feed : ByteArray := method_3_code
def yL_feed : MethodName := ⟨RL, "feed", "(LNettingDesk;IIIII[J)I"⟩
abbrev cL_trim : ByteArray := method_4_code
def yL_trim : MethodName := ⟨RL, "trim", "(LNettingDesk;I[J)I"⟩
abbrev cL_count : ByteArray := method_5_code
def yL_count : MethodName := ⟨RL, "count", "(LNettingDesk;I[J)I"⟩
abbrev cL_party : ByteArray := method_6_code
def yL_party : MethodName := ⟨RL, "party", "(LNettingDesk;II[J)I"⟩
abbrev cL_money : ByteArray := method_7_code
def yL_money : MethodName := ⟨RL, "money", "(LNettingDesk;II[J)I"⟩
abbrev cL_setRate : ByteArray := method_8_code
def yL_setRate : MethodName := ⟨RL, "setRate", "(LNettingDesk;II[J)I"⟩
abbrev cL_has : ByteArray := method_9_code
def yL_has : MethodName := ⟨RL, "has", "(LNettingDesk;IIZ[J)I"⟩
abbrev cL_deposit : ByteArray := method_10_code
def yL_deposit : MethodName := ⟨RL, "deposit", "(LNettingDesk;III[J)I"⟩
abbrev cL_withdraw : ByteArray := method_11_code
def yL_withdraw : MethodName := ⟨RL, "withdraw", "(LNettingDesk;III[J)I"⟩
abbrev cL_pledge : ByteArray := method_12_code
def yL_pledge : MethodName := ⟨RL, "pledge", "(LNettingDesk;III[J)I"⟩
abbrev cL_payment : ByteArray := method_13_code
def yL_payment : MethodName := ⟨RL, "payment", "(LNettingDesk;II[J)I"⟩
abbrev cL_amend : ByteArray := method_14_code
def yL_amend : MethodName := ⟨RL, "amend", "(LNettingDesk;II[J)I"⟩
abbrev cL_putOff : ByteArray := method_15_code
def yL_putOff : MethodName := ⟨RL, "putOff", "(LNettingDesk;II[J)I"⟩
abbrev cL_owes : ByteArray := method_16_code
def yL_owes : MethodName := ⟨RL, "owes", "(LNettingDesk;III[J)I"⟩
abbrev cL_pass : ByteArray := method_17_code
def yL_pass : MethodName := ⟨RL, "pass", "(LNettingDesk;I[J)I"⟩
abbrev cL_run : ByteArray := method_18_code
def yL_run : MethodName := ⟨RL, "run", "(LNettingDesk;I[J)I"⟩
abbrev cL_settles : ByteArray := method_19_code
def yL_settles : MethodName := ⟨RL, "settles", "(LNettingDesk;I[J)I"⟩
abbrev cL_when : ByteArray := method_20_code
def yL_when : MethodName := ⟨RL, "when", "(LNettingDesk;I[J)I"⟩
abbrev cL_frees : ByteArray := method_21_code
def yL_frees : MethodName := ⟨RL, "frees", "(LNettingDesk;II[J)I"⟩
abbrev cL_advise : ByteArray := method_22_code
def yL_advise : MethodName := ⟨RL, "advise", "(LNettingDesk;II[J)I"⟩
abbrev cL_ring : ByteArray := method_23_code
def yL_ring : MethodName := ⟨RL, "ring", "(LNettingDesk;I[J)I"⟩
abbrev cL_report : ByteArray := method_24_code
def yL_report : MethodName := ⟨RL, "report", "(LNettingDesk;I[J)I"⟩
abbrev cL_byteAt : ByteArray := method_25_code
def yL_byteAt : MethodName := ⟨RL, "byteAt", "(LNettingDesk;I[J)I"⟩
abbrev cL_law : ByteArray := code
def yL_law : MethodName := ⟨RL, "law", "([I)Z"⟩
abbrev vwCl : List vw_C := [(RX0, TX0, 8), (RX1, TX1, 2), (RX2, TX2, 3), (RX3, TX3, 1), (RX4, TX4, 9), (RX5, TX5, 10), (RX6, TX6, 1), (RX7, TX7, 4), (RX8, TX8, 10), (RX9, TX9, 10), (RX10, TX10, 25), (RX11, TX11, 15)]
