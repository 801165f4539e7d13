/-- a private method of a class that the tables say can be made, by its rows of tables_1 -/
def lw_okq (q : MethodName × Nat) : Prop := (q.1.cls ≠ "java/lang/invoke/MethodHandle" ∧ q.1.cls ≠ "java/lang/invoke/VarHandle") ∧ Cond.instantiable q.1.cls q.2 ∈ tables_1 ∧ Cond.privateMethod q.1 ∈ tables_1 ∧ Cond.instanceMethod q.1 ∈ tables_1
theorem lw_p0 : lw_okq (⟨"PurringHolds$Rule", "bePlain", "()V"⟩, 8) := ⟨⟨by decide +kernel, by decide +kernel⟩, List.mem_of_getElem? (i := 164) (by decide +kernel), List.mem_of_getElem? (i := 170) (by decide +kernel), List.mem_of_getElem? (i := 171) (by decide +kernel)⟩
theorem lw_p1 : lw_okq (⟨"PurringHolds$Rule", "addStep", "(I)V"⟩, 8) := ⟨⟨by decide +kernel, by decide +kernel⟩, List.mem_of_getElem? (i := 164) (by decide +kernel), List.mem_of_getElem? (i := 174) (by decide +kernel), List.mem_of_getElem? (i := 175) (by decide +kernel)⟩
theorem lw_p2 : lw_okq (⟨"PurringHolds", "linesTaken", "(II)I"⟩, 16) := ⟨⟨by decide +kernel, by decide +kernel⟩, List.mem_of_getElem? (i := 20) (by decide +kernel), List.mem_of_getElem? (i := 289) (by decide +kernel), List.mem_of_getElem? (i := 290) (by decide +kernel)⟩
theorem lw_p3 : lw_okq (⟨"PurringHolds", "readSpare", "()I"⟩, 16) := ⟨⟨by decide +kernel, by decide +kernel⟩, List.mem_of_getElem? (i := 20) (by decide +kernel), List.mem_of_getElem? (i := 305) (by decide +kernel), List.mem_of_getElem? (i := 306) (by decide +kernel)⟩
theorem lw_p4 : lw_okq (⟨"PurringHolds$Rule", "start", "()V"⟩, 8) := ⟨⟨by decide +kernel, by decide +kernel⟩, List.mem_of_getElem? (i := 164) (by decide +kernel), List.mem_of_getElem? (i := 313) (by decide +kernel), List.mem_of_getElem? (i := 314) (by decide +kernel)⟩
theorem lw_p5 : lw_okq (⟨"PurringHolds$Rule", "takes", "(I)Z"⟩, 8) := ⟨⟨by decide +kernel, by decide +kernel⟩, List.mem_of_getElem? (i := 164) (by decide +kernel), List.mem_of_getElem? (i := 318) (by decide +kernel), List.mem_of_getElem? (i := 319) (by decide +kernel)⟩
theorem lw_p6 : lw_okq (⟨"PurringHolds$Rule", "takesDigit", "(I)Z"⟩, 8) := ⟨⟨by decide +kernel, by decide +kernel⟩, List.mem_of_getElem? (i := 164) (by decide +kernel), List.mem_of_getElem? (i := 322) (by decide +kernel), List.mem_of_getElem? (i := 323) (by decide +kernel)⟩
theorem lw_p7 : lw_okq (⟨"PurringHolds$Rule", "takesThing", "(I)Z"⟩, 8) := ⟨⟨by decide +kernel, by decide +kernel⟩, List.mem_of_getElem? (i := 164) (by decide +kernel), List.mem_of_getElem? (i := 326) (by decide +kernel), List.mem_of_getElem? (i := 327) (by decide +kernel)⟩
theorem lw_p8 : lw_okq (⟨"PurringHolds$Rule", "push", "(I)V"⟩, 8) := ⟨⟨by decide +kernel, by decide +kernel⟩, List.mem_of_getElem? (i := 164) (by decide +kernel), List.mem_of_getElem? (i := 330) (by decide +kernel), List.mem_of_getElem? (i := 331) (by decide +kernel)⟩
theorem lw_p9 : lw_okq (⟨"PurringHolds$Rule", "takesBehindThing", "(I)Z"⟩, 8) := ⟨⟨by decide +kernel, by decide +kernel⟩, List.mem_of_getElem? (i := 164) (by decide +kernel), List.mem_of_getElem? (i := 334) (by decide +kernel), List.mem_of_getElem? (i := 335) (by decide +kernel)⟩
theorem lw_p10 : lw_okq (⟨"PurringHolds$Rule", "settle", "(I)V"⟩, 8) := ⟨⟨by decide +kernel, by decide +kernel⟩, List.mem_of_getElem? (i := 164) (by decide +kernel), List.mem_of_getElem? (i := 338) (by decide +kernel), List.mem_of_getElem? (i := 339) (by decide +kernel)⟩
theorem lw_p11 : lw_okq (⟨"PurringHolds$Rule", "pop", "()I"⟩, 8) := ⟨⟨by decide +kernel, by decide +kernel⟩, List.mem_of_getElem? (i := 164) (by decide +kernel), List.mem_of_getElem? (i := 345) (by decide +kernel), List.mem_of_getElem? (i := 346) (by decide +kernel)⟩
theorem lw_p12 : lw_okq (⟨"PurringHolds", "remembered", "(I)I"⟩, 16) := ⟨⟨by decide +kernel, by decide +kernel⟩, List.mem_of_getElem? (i := 20) (by decide +kernel), List.mem_of_getElem? (i := 457) (by decide +kernel), List.mem_of_getElem? (i := 458) (by decide +kernel)⟩
theorem lw_p13 : lw_okq (⟨"PurringHolds", "act", "(III)I"⟩, 16) := ⟨⟨by decide +kernel, by decide +kernel⟩, List.mem_of_getElem? (i := 20) (by decide +kernel), List.mem_of_getElem? (i := 508) (by decide +kernel), List.mem_of_getElem? (i := 509) (by decide +kernel)⟩
theorem lw_p14 : lw_okq (⟨"PurringHolds", "toldIfFound", "(II)I"⟩, 16) := ⟨⟨by decide +kernel, by decide +kernel⟩, List.mem_of_getElem? (i := 20) (by decide +kernel), List.mem_of_getElem? (i := 545) (by decide +kernel), List.mem_of_getElem? (i := 546) (by decide +kernel)⟩
theorem lw_p15 : lw_okq (⟨"PurringHolds", "findWhoHoldsAlone", "()V"⟩, 16) := ⟨⟨by decide +kernel, by decide +kernel⟩, List.mem_of_getElem? (i := 20) (by decide +kernel), List.mem_of_getElem? (i := 586) (by decide +kernel), List.mem_of_getElem? (i := 587) (by decide +kernel)⟩
def lw_privs_1 : List (MethodName × Nat) := [(⟨"PurringHolds$Rule", "bePlain", "()V"⟩, 8), (⟨"PurringHolds$Rule", "addStep", "(I)V"⟩, 8), (⟨"PurringHolds", "linesTaken", "(II)I"⟩, 16), (⟨"PurringHolds", "readSpare", "()I"⟩, 16), (⟨"PurringHolds$Rule", "start", "()V"⟩, 8), (⟨"PurringHolds$Rule", "takes", "(I)Z"⟩, 8), (⟨"PurringHolds$Rule", "takesDigit", "(I)Z"⟩, 8), (⟨"PurringHolds$Rule", "takesThing", "(I)Z"⟩, 8), (⟨"PurringHolds$Rule", "push", "(I)V"⟩, 8), (⟨"PurringHolds$Rule", "takesBehindThing", "(I)Z"⟩, 8), (⟨"PurringHolds$Rule", "settle", "(I)V"⟩, 8), (⟨"PurringHolds$Rule", "pop", "()I"⟩, 8), (⟨"PurringHolds", "remembered", "(I)I"⟩, 16), (⟨"PurringHolds", "act", "(III)I"⟩, 16), (⟨"PurringHolds", "toldIfFound", "(II)I"⟩, 16), (⟨"PurringHolds", "findWhoHoldsAlone", "()V"⟩, 16)]
theorem lw_r1 : ∀ q ∈ lw_privs_1, lw_okq q := List.forall_mem_cons.mpr ⟨lw_p0, List.forall_mem_cons.mpr ⟨lw_p1, List.forall_mem_cons.mpr ⟨lw_p2, List.forall_mem_cons.mpr ⟨lw_p3, List.forall_mem_cons.mpr ⟨lw_p4, List.forall_mem_cons.mpr ⟨lw_p5, List.forall_mem_cons.mpr ⟨lw_p6, List.forall_mem_cons.mpr ⟨lw_p7, List.forall_mem_cons.mpr ⟨lw_p8, List.forall_mem_cons.mpr ⟨lw_p9, List.forall_mem_cons.mpr ⟨lw_p10, List.forall_mem_cons.mpr ⟨lw_p11, List.forall_mem_cons.mpr ⟨lw_p12, List.forall_mem_cons.mpr ⟨lw_p13, List.forall_mem_cons.mpr ⟨lw_p14, List.forall_mem_cons.mpr ⟨lw_p15, fun _ h => absurd h List.not_mem_nil⟩⟩⟩⟩⟩⟩⟩⟩⟩⟩⟩⟩⟩⟩⟩⟩
theorem lw_p16 : lw_okq (⟨"PurringHolds", "mostGuarded", "(II)I"⟩, 16) := ⟨⟨by decide +kernel, by decide +kernel⟩, List.mem_of_getElem? (i := 20) (by decide +kernel), List.mem_of_getElem? (i := 595) (by decide +kernel), List.mem_of_getElem? (i := 596) (by decide +kernel)⟩
theorem lw_p17 : lw_okq (⟨"PurringHolds", "leastGuard", "(IIII)I"⟩, 16) := ⟨⟨by decide +kernel, by decide +kernel⟩, List.mem_of_getElem? (i := 20) (by decide +kernel), List.mem_of_getElem? (i := 601) (by decide +kernel), List.mem_of_getElem? (i := 602) (by decide +kernel)⟩
theorem lw_p18 : lw_okq (⟨"PurringHolds", "sagsIn", "(I)I"⟩, 16) := ⟨⟨by decide +kernel, by decide +kernel⟩, List.mem_of_getElem? (i := 20) (by decide +kernel), List.mem_of_getElem? (i := 610) (by decide +kernel), List.mem_of_getElem? (i := 611) (by decide +kernel)⟩
theorem lw_p19 : lw_okq (⟨"PurringHolds", "trainsBorne", "(I)I"⟩, 16) := ⟨⟨by decide +kernel, by decide +kernel⟩, List.mem_of_getElem? (i := 20) (by decide +kernel), List.mem_of_getElem? (i := 626) (by decide +kernel), List.mem_of_getElem? (i := 627) (by decide +kernel)⟩
theorem lw_p20 : lw_okq (⟨"PurringHolds", "findPurrs", "()V"⟩, 16) := ⟨⟨by decide +kernel, by decide +kernel⟩, List.mem_of_getElem? (i := 20) (by decide +kernel), List.mem_of_getElem? (i := 665) (by decide +kernel), List.mem_of_getElem? (i := 666) (by decide +kernel)⟩
theorem lw_p21 : lw_okq (⟨"PurringHolds", "fittingCats", "()I"⟩, 16) := ⟨⟨by decide +kernel, by decide +kernel⟩, List.mem_of_getElem? (i := 20) (by decide +kernel), List.mem_of_getElem? (i := 673) (by decide +kernel), List.mem_of_getElem? (i := 674) (by decide +kernel)⟩
theorem lw_p22 : lw_okq (⟨"PurringHolds", "fitsWithout", "(I)Z"⟩, 16) := ⟨⟨by decide +kernel, by decide +kernel⟩, List.mem_of_getElem? (i := 20) (by decide +kernel), List.mem_of_getElem? (i := 677) (by decide +kernel), List.mem_of_getElem? (i := 678) (by decide +kernel)⟩
theorem lw_p23 : lw_okq (⟨"PurringHolds", "holdWithout", "(II)I"⟩, 16) := ⟨⟨by decide +kernel, by decide +kernel⟩, List.mem_of_getElem? (i := 20) (by decide +kernel), List.mem_of_getElem? (i := 681) (by decide +kernel), List.mem_of_getElem? (i := 682) (by decide +kernel)⟩
theorem lw_p24 : lw_okq (⟨"PurringHolds", "mostLeft", "(II)I"⟩, 16) := ⟨⟨by decide +kernel, by decide +kernel⟩, List.mem_of_getElem? (i := 20) (by decide +kernel), List.mem_of_getElem? (i := 689) (by decide +kernel), List.mem_of_getElem? (i := 690) (by decide +kernel)⟩
theorem lw_p25 : lw_okq (⟨"PurringHolds", "suitingCats", "()I"⟩, 16) := ⟨⟨by decide +kernel, by decide +kernel⟩, List.mem_of_getElem? (i := 20) (by decide +kernel), List.mem_of_getElem? (i := 716) (by decide +kernel), List.mem_of_getElem? (i := 717) (by decide +kernel)⟩
theorem lw_p26 : lw_okq (⟨"PurringHolds", "catsOfWhom", "(II)I"⟩, 16) := ⟨⟨by decide +kernel, by decide +kernel⟩, List.mem_of_getElem? (i := 20) (by decide +kernel), List.mem_of_getElem? (i := 720) (by decide +kernel), List.mem_of_getElem? (i := 721) (by decide +kernel)⟩
theorem lw_p27 : lw_okq (⟨"PurringHolds", "isSo", "(III)Z"⟩, 16) := ⟨⟨by decide +kernel, by decide +kernel⟩, List.mem_of_getElem? (i := 20) (by decide +kernel), List.mem_of_getElem? (i := 724) (by decide +kernel), List.mem_of_getElem? (i := 725) (by decide +kernel)⟩
theorem lw_p28 : lw_okq (⟨"PurringHolds", "waysToHold", "(II)J"⟩, 16) := ⟨⟨by decide +kernel, by decide +kernel⟩, List.mem_of_getElem? (i := 20) (by decide +kernel), List.mem_of_getElem? (i := 736) (by decide +kernel), List.mem_of_getElem? (i := 737) (by decide +kernel)⟩
theorem lw_p29 : lw_okq (⟨"PurringHolds", "addToWays", "(II)V"⟩, 16) := ⟨⟨by decide +kernel, by decide +kernel⟩, List.mem_of_getElem? (i := 20) (by decide +kernel), List.mem_of_getElem? (i := 740) (by decide +kernel), List.mem_of_getElem? (i := 741) (by decide +kernel)⟩
theorem lw_p30 : lw_okq (⟨"PurringHolds", "tellFraction", "(JJ)V"⟩, 16) := ⟨⟨by decide +kernel, by decide +kernel⟩, List.mem_of_getElem? (i := 20) (by decide +kernel), List.mem_of_getElem? (i := 749) (by decide +kernel), List.mem_of_getElem? (i := 750) (by decide +kernel)⟩
theorem lw_p31 : lw_okq (⟨"PurringHolds", "nimberOf", "(I)I"⟩, 16) := ⟨⟨by decide +kernel, by decide +kernel⟩, List.mem_of_getElem? (i := 20) (by decide +kernel), List.mem_of_getElem? (i := 761) (by decide +kernel), List.mem_of_getElem? (i := 762) (by decide +kernel)⟩
def lw_privs_2 : List (MethodName × Nat) := [(⟨"PurringHolds", "mostGuarded", "(II)I"⟩, 16), (⟨"PurringHolds", "leastGuard", "(IIII)I"⟩, 16), (⟨"PurringHolds", "sagsIn", "(I)I"⟩, 16), (⟨"PurringHolds", "trainsBorne", "(I)I"⟩, 16), (⟨"PurringHolds", "findPurrs", "()V"⟩, 16), (⟨"PurringHolds", "fittingCats", "()I"⟩, 16), (⟨"PurringHolds", "fitsWithout", "(I)Z"⟩, 16), (⟨"PurringHolds", "holdWithout", "(II)I"⟩, 16), (⟨"PurringHolds", "mostLeft", "(II)I"⟩, 16), (⟨"PurringHolds", "suitingCats", "()I"⟩, 16), (⟨"PurringHolds", "catsOfWhom", "(II)I"⟩, 16), (⟨"PurringHolds", "isSo", "(III)Z"⟩, 16), (⟨"PurringHolds", "waysToHold", "(II)J"⟩, 16), (⟨"PurringHolds", "addToWays", "(II)V"⟩, 16), (⟨"PurringHolds", "tellFraction", "(JJ)V"⟩, 16), (⟨"PurringHolds", "nimberOf", "(I)I"⟩, 16)]
theorem lw_r2 : ∀ q ∈ lw_privs_2, lw_okq q := List.forall_mem_cons.mpr ⟨lw_p16, List.forall_mem_cons.mpr ⟨lw_p17, List.forall_mem_cons.mpr ⟨lw_p18, List.forall_mem_cons.mpr ⟨lw_p19, List.forall_mem_cons.mpr ⟨lw_p20, List.forall_mem_cons.mpr ⟨lw_p21, List.forall_mem_cons.mpr ⟨lw_p22, List.forall_mem_cons.mpr ⟨lw_p23, List.forall_mem_cons.mpr ⟨lw_p24, List.forall_mem_cons.mpr ⟨lw_p25, List.forall_mem_cons.mpr ⟨lw_p26, List.forall_mem_cons.mpr ⟨lw_p27, List.forall_mem_cons.mpr ⟨lw_p28, List.forall_mem_cons.mpr ⟨lw_p29, List.forall_mem_cons.mpr ⟨lw_p30, List.forall_mem_cons.mpr ⟨lw_p31, fun _ h => absurd h List.not_mem_nil⟩⟩⟩⟩⟩⟩⟩⟩⟩⟩⟩⟩⟩⟩⟩⟩
theorem lw_p32 : lw_okq (⟨"PurringHolds", "drawnAct", "()I"⟩, 16) := ⟨⟨by decide +kernel, by decide +kernel⟩, List.mem_of_getElem? (i := 20) (by decide +kernel), List.mem_of_getElem? (i := 783) (by decide +kernel), List.mem_of_getElem? (i := 784) (by decide +kernel)⟩
theorem lw_p33 : lw_okq (⟨"java/lang/Throwable", "fillInStackTrace", "(I)Ljava/lang/Throwable;"⟩, 6) := ⟨⟨by decide +kernel, by decide +kernel⟩, List.mem_of_getElem? (i := 848) (by decide +kernel), List.mem_of_getElem? (i := 846) (by decide +kernel), List.mem_of_getElem? (i := 847) (by decide +kernel)⟩
theorem lw_p34 : lw_okq (⟨"PurringHoldsModel", "beginText", "(I)V"⟩, 42) := ⟨⟨by decide +kernel, by decide +kernel⟩, List.mem_of_getElem? (i := 887) (by decide +kernel), List.mem_of_getElem? (i := 1041) (by decide +kernel), List.mem_of_getElem? (i := 1042) (by decide +kernel)⟩
theorem lw_p35 : lw_okq (⟨"PurringHoldsModel", "begin", "([BII)V"⟩, 42) := ⟨⟨by decide +kernel, by decide +kernel⟩, List.mem_of_getElem? (i := 887) (by decide +kernel), List.mem_of_getElem? (i := 1045) (by decide +kernel), List.mem_of_getElem? (i := 1046) (by decide +kernel)⟩
theorem lw_p36 : lw_okq (⟨"PurringHoldsModel", "fine", "()Z"⟩, 42) := ⟨⟨by decide +kernel, by decide +kernel⟩, List.mem_of_getElem? (i := 887) (by decide +kernel), List.mem_of_getElem? (i := 1049) (by decide +kernel), List.mem_of_getElem? (i := 1050) (by decide +kernel)⟩
theorem lw_p37 : lw_okq (⟨"PurringHoldsModel", "fault", "(I)V"⟩, 42) := ⟨⟨by decide +kernel, by decide +kernel⟩, List.mem_of_getElem? (i := 887) (by decide +kernel), List.mem_of_getElem? (i := 1053) (by decide +kernel), List.mem_of_getElem? (i := 1054) (by decide +kernel)⟩
theorem lw_p38 : lw_okq (⟨"PurringHoldsModel", "oneOf", "(CI)I"⟩, 42) := ⟨⟨by decide +kernel, by decide +kernel⟩, List.mem_of_getElem? (i := 887) (by decide +kernel), List.mem_of_getElem? (i := 1057) (by decide +kernel), List.mem_of_getElem? (i := 1058) (by decide +kernel)⟩
theorem lw_p39 : lw_okq (⟨"PurringHoldsModel", "here", "()I"⟩, 42) := ⟨⟨by decide +kernel, by decide +kernel⟩, List.mem_of_getElem? (i := 887) (by decide +kernel), List.mem_of_getElem? (i := 1061) (by decide +kernel), List.mem_of_getElem? (i := 1062) (by decide +kernel)⟩
theorem lw_p40 : lw_okq (⟨"PurringHoldsModel", "passes", "(C)Z"⟩, 42) := ⟨⟨by decide +kernel, by decide +kernel⟩, List.mem_of_getElem? (i := 887) (by decide +kernel), List.mem_of_getElem? (i := 1065) (by decide +kernel), List.mem_of_getElem? (i := 1066) (by decide +kernel)⟩
theorem lw_p41 : lw_okq (⟨"PurringHoldsModel", "wasRight", "()Z"⟩, 42) := ⟨⟨by decide +kernel, by decide +kernel⟩, List.mem_of_getElem? (i := 887) (by decide +kernel), List.mem_of_getElem? (i := 1069) (by decide +kernel), List.mem_of_getElem? (i := 1070) (by decide +kernel)⟩
theorem lw_p42 : lw_okq (⟨"PurringHoldsModel", "toldAnew", "()V"⟩, 42) := ⟨⟨by decide +kernel, by decide +kernel⟩, List.mem_of_getElem? (i := 887) (by decide +kernel), List.mem_of_getElem? (i := 1073) (by decide +kernel), List.mem_of_getElem? (i := 1074) (by decide +kernel)⟩
theorem lw_p43 : lw_okq (⟨"PurringHoldsModel", "readRule", "()Z"⟩, 42) := ⟨⟨by decide +kernel, by decide +kernel⟩, List.mem_of_getElem? (i := 887) (by decide +kernel), List.mem_of_getElem? (i := 1085) (by decide +kernel), List.mem_of_getElem? (i := 1086) (by decide +kernel)⟩
theorem lw_p44 : lw_okq (⟨"PurringHoldsModel", "held", "(I)I"⟩, 42) := ⟨⟨by decide +kernel, by decide +kernel⟩, List.mem_of_getElem? (i := 887) (by decide +kernel), List.mem_of_getElem? (i := 1089) (by decide +kernel), List.mem_of_getElem? (i := 1090) (by decide +kernel)⟩
theorem lw_p45 : lw_okq (⟨"PurringHoldsModel", "sum", "(I)I"⟩, 42) := ⟨⟨by decide +kernel, by decide +kernel⟩, List.mem_of_getElem? (i := 887) (by decide +kernel), List.mem_of_getElem? (i := 1093) (by decide +kernel), List.mem_of_getElem? (i := 1094) (by decide +kernel)⟩
theorem lw_p46 : lw_okq (⟨"PurringHoldsModel", "product", "(I)I"⟩, 42) := ⟨⟨by decide +kernel, by decide +kernel⟩, List.mem_of_getElem? (i := 887) (by decide +kernel), List.mem_of_getElem? (i := 1097) (by decide +kernel), List.mem_of_getElem? (i := 1098) (by decide +kernel)⟩
theorem lw_p47 : lw_okq (⟨"PurringHoldsModel", "thing", "(I)I"⟩, 42) := ⟨⟨by decide +kernel, by decide +kernel⟩, List.mem_of_getElem? (i := 887) (by decide +kernel), List.mem_of_getElem? (i := 1101) (by decide +kernel), List.mem_of_getElem? (i := 1102) (by decide +kernel)⟩
def lw_privs_3 : List (MethodName × Nat) := [(⟨"PurringHolds", "drawnAct", "()I"⟩, 16), (⟨"java/lang/Throwable", "fillInStackTrace", "(I)Ljava/lang/Throwable;"⟩, 6), (⟨"PurringHoldsModel", "beginText", "(I)V"⟩, 42), (⟨"PurringHoldsModel", "begin", "([BII)V"⟩, 42), (⟨"PurringHoldsModel", "fine", "()Z"⟩, 42), (⟨"PurringHoldsModel", "fault", "(I)V"⟩, 42), (⟨"PurringHoldsModel", "oneOf", "(CI)I"⟩, 42), (⟨"PurringHoldsModel", "here", "()I"⟩, 42), (⟨"PurringHoldsModel", "passes", "(C)Z"⟩, 42), (⟨"PurringHoldsModel", "wasRight", "()Z"⟩, 42), (⟨"PurringHoldsModel", "toldAnew", "()V"⟩, 42), (⟨"PurringHoldsModel", "readRule", "()Z"⟩, 42), (⟨"PurringHoldsModel", "held", "(I)I"⟩, 42), (⟨"PurringHoldsModel", "sum", "(I)I"⟩, 42), (⟨"PurringHoldsModel", "product", "(I)I"⟩, 42), (⟨"PurringHoldsModel", "thing", "(I)I"⟩, 42)]
theorem lw_r3 : ∀ q ∈ lw_privs_3, lw_okq q := List.forall_mem_cons.mpr ⟨lw_p32, List.forall_mem_cons.mpr ⟨lw_p33, List.forall_mem_cons.mpr ⟨lw_p34, List.forall_mem_cons.mpr ⟨lw_p35, List.forall_mem_cons.mpr ⟨lw_p36, List.forall_mem_cons.mpr ⟨lw_p37, List.forall_mem_cons.mpr ⟨lw_p38, List.forall_mem_cons.mpr ⟨lw_p39, List.forall_mem_cons.mpr ⟨lw_p40, List.forall_mem_cons.mpr ⟨lw_p41, List.forall_mem_cons.mpr ⟨lw_p42, List.forall_mem_cons.mpr ⟨lw_p43, List.forall_mem_cons.mpr ⟨lw_p44, List.forall_mem_cons.mpr ⟨lw_p45, List.forall_mem_cons.mpr ⟨lw_p46, List.forall_mem_cons.mpr ⟨lw_p47, fun _ h => absurd h List.not_mem_nil⟩⟩⟩⟩⟩⟩⟩⟩⟩⟩⟩⟩⟩⟩⟩⟩
theorem lw_p48 : lw_okq (⟨"PurringHoldsModel", "need", "(C)V"⟩, 42) := ⟨⟨by decide +kernel, by decide +kernel⟩, List.mem_of_getElem? (i := 887) (by decide +kernel), List.mem_of_getElem? (i := 1105) (by decide +kernel), List.mem_of_getElem? (i := 1106) (by decide +kernel)⟩
theorem lw_p49 : lw_okq (⟨"PurringHoldsModel", "number", "(I)I"⟩, 42) := ⟨⟨by decide +kernel, by decide +kernel⟩, List.mem_of_getElem? (i := 887) (by decide +kernel), List.mem_of_getElem? (i := 1109) (by decide +kernel), List.mem_of_getElem? (i := 1110) (by decide +kernel)⟩
theorem lw_p50 : lw_okq (⟨"PurringHoldsModel", "isArch", "(I)Z"⟩, 42) := ⟨⟨by decide +kernel, by decide +kernel⟩, List.mem_of_getElem? (i := 887) (by decide +kernel), List.mem_of_getElem? (i := 1120) (by decide +kernel), List.mem_of_getElem? (i := 1121) (by decide +kernel)⟩
theorem lw_p51 : lw_okq (⟨"PurringHoldsModel", "lost", "()I"⟩, 42) := ⟨⟨by decide +kernel, by decide +kernel⟩, List.mem_of_getElem? (i := 887) (by decide +kernel), List.mem_of_getElem? (i := 1124) (by decide +kernel), List.mem_of_getElem? (i := 1125) (by decide +kernel)⟩
theorem lw_p52 : lw_okq (⟨"PurringHoldsModel", "there", "([II)I"⟩, 42) := ⟨⟨by decide +kernel, by decide +kernel⟩, List.mem_of_getElem? (i := 887) (by decide +kernel), List.mem_of_getElem? (i := 1128) (by decide +kernel), List.mem_of_getElem? (i := 1129) (by decide +kernel)⟩
theorem lw_p53 : lw_okq (⟨"PurringHoldsModel", "holdOf", "([II)I"⟩, 42) := ⟨⟨by decide +kernel, by decide +kernel⟩, List.mem_of_getElem? (i := 887) (by decide +kernel), List.mem_of_getElem? (i := 1132) (by decide +kernel), List.mem_of_getElem? (i := 1133) (by decide +kernel)⟩
theorem lw_p54 : lw_okq (⟨"PurringHoldsModel", "purrOf", "([II)I"⟩, 42) := ⟨⟨by decide +kernel, by decide +kernel⟩, List.mem_of_getElem? (i := 887) (by decide +kernel), List.mem_of_getElem? (i := 1136) (by decide +kernel), List.mem_of_getElem? (i := 1137) (by decide +kernel)⟩
theorem lw_p55 : lw_okq (⟨"PurringHoldsModel", "purrIn", "([IIII)I"⟩, 42) := ⟨⟨by decide +kernel, by decide +kernel⟩, List.mem_of_getElem? (i := 887) (by decide +kernel), List.mem_of_getElem? (i := 1141) (by decide +kernel), List.mem_of_getElem? (i := 1142) (by decide +kernel)⟩
theorem lw_p56 : lw_okq (⟨"PurringHoldsModel", "isCat", "(I)Z"⟩, 42) := ⟨⟨by decide +kernel, by decide +kernel⟩, List.mem_of_getElem? (i := 887) (by decide +kernel), List.mem_of_getElem? (i := 1151) (by decide +kernel), List.mem_of_getElem? (i := 1152) (by decide +kernel)⟩
theorem lw_p57 : lw_okq (⟨"PurringHoldsModel", "remember", "([I)V"⟩, 42) := ⟨⟨by decide +kernel, by decide +kernel⟩, List.mem_of_getElem? (i := 887) (by decide +kernel), List.mem_of_getElem? (i := 1166) (by decide +kernel), List.mem_of_getElem? (i := 1167) (by decide +kernel)⟩
theorem lw_p58 : lw_okq (⟨"PurringHoldsModel", "goHours", "([II)V"⟩, 42) := ⟨⟨by decide +kernel, by decide +kernel⟩, List.mem_of_getElem? (i := 887) (by decide +kernel), List.mem_of_getElem? (i := 1173) (by decide +kernel), List.mem_of_getElem? (i := 1174) (by decide +kernel)⟩
theorem lw_p59 : lw_okq (⟨"PurringHoldsModel", "goHour", "([I)V"⟩, 42) := ⟨⟨by decide +kernel, by decide +kernel⟩, List.mem_of_getElem? (i := 887) (by decide +kernel), List.mem_of_getElem? (i := 1177) (by decide +kernel), List.mem_of_getElem? (i := 1178) (by decide +kernel)⟩
theorem lw_p60 : lw_okq (⟨"PurringHoldsModel", "tell", "(J)V"⟩, 42) := ⟨⟨by decide +kernel, by decide +kernel⟩, List.mem_of_getElem? (i := 887) (by decide +kernel), List.mem_of_getElem? (i := 1181) (by decide +kernel), List.mem_of_getElem? (i := 1182) (by decide +kernel)⟩
theorem lw_p61 : lw_okq (⟨"PurringHoldsModel", "sags", "([I)I"⟩, 42) := ⟨⟨by decide +kernel, by decide +kernel⟩, List.mem_of_getElem? (i := 887) (by decide +kernel), List.mem_of_getElem? (i := 1185) (by decide +kernel), List.mem_of_getElem? (i := 1186) (by decide +kernel)⟩
theorem lw_p62 : lw_okq (⟨"PurringHoldsModel", "refusesFeed", "([III)I"⟩, 42) := ⟨⟨by decide +kernel, by decide +kernel⟩, List.mem_of_getElem? (i := 887) (by decide +kernel), List.mem_of_getElem? (i := 1193) (by decide +kernel), List.mem_of_getElem? (i := 1194) (by decide +kernel)⟩
theorem lw_p63 : lw_okq (⟨"PurringHoldsModel", "refusesPet", "(I)I"⟩, 42) := ⟨⟨by decide +kernel, by decide +kernel⟩, List.mem_of_getElem? (i := 887) (by decide +kernel), List.mem_of_getElem? (i := 1204) (by decide +kernel), List.mem_of_getElem? (i := 1205) (by decide +kernel)⟩
def lw_privs_4 : List (MethodName × Nat) := [(⟨"PurringHoldsModel", "need", "(C)V"⟩, 42), (⟨"PurringHoldsModel", "number", "(I)I"⟩, 42), (⟨"PurringHoldsModel", "isArch", "(I)Z"⟩, 42), (⟨"PurringHoldsModel", "lost", "()I"⟩, 42), (⟨"PurringHoldsModel", "there", "([II)I"⟩, 42), (⟨"PurringHoldsModel", "holdOf", "([II)I"⟩, 42), (⟨"PurringHoldsModel", "purrOf", "([II)I"⟩, 42), (⟨"PurringHoldsModel", "purrIn", "([IIII)I"⟩, 42), (⟨"PurringHoldsModel", "isCat", "(I)Z"⟩, 42), (⟨"PurringHoldsModel", "remember", "([I)V"⟩, 42), (⟨"PurringHoldsModel", "goHours", "([II)V"⟩, 42), (⟨"PurringHoldsModel", "goHour", "([I)V"⟩, 42), (⟨"PurringHoldsModel", "tell", "(J)V"⟩, 42), (⟨"PurringHoldsModel", "sags", "([I)I"⟩, 42), (⟨"PurringHoldsModel", "refusesFeed", "([III)I"⟩, 42), (⟨"PurringHoldsModel", "refusesPet", "(I)I"⟩, 42)]
theorem lw_r4 : ∀ q ∈ lw_privs_4, lw_okq q := List.forall_mem_cons.mpr ⟨lw_p48, List.forall_mem_cons.mpr ⟨lw_p49, List.forall_mem_cons.mpr ⟨lw_p50, List.forall_mem_cons.mpr ⟨lw_p51, List.forall_mem_cons.mpr ⟨lw_p52, List.forall_mem_cons.mpr ⟨lw_p53, List.forall_mem_cons.mpr ⟨lw_p54, List.forall_mem_cons.mpr ⟨lw_p55, List.forall_mem_cons.mpr ⟨lw_p56, List.forall_mem_cons.mpr ⟨lw_p57, List.forall_mem_cons.mpr ⟨lw_p58, List.forall_mem_cons.mpr ⟨lw_p59, List.forall_mem_cons.mpr ⟨lw_p60, List.forall_mem_cons.mpr ⟨lw_p61, List.forall_mem_cons.mpr ⟨lw_p62, List.forall_mem_cons.mpr ⟨lw_p63, fun _ h => absurd h List.not_mem_nil⟩⟩⟩⟩⟩⟩⟩⟩⟩⟩⟩⟩⟩⟩⟩⟩
theorem lw_p64 : lw_okq (⟨"PurringHoldsModel", "canGrieve", "(II)Z"⟩, 42) := ⟨⟨by decide +kernel, by decide +kernel⟩, List.mem_of_getElem? (i := 887) (by decide +kernel), List.mem_of_getElem? (i := 1212) (by decide +kernel), List.mem_of_getElem? (i := 1213) (by decide +kernel)⟩
theorem lw_p65 : lw_okq (⟨"PurringHoldsModel", "refusesSet", "(II)I"⟩, 42) := ⟨⟨by decide +kernel, by decide +kernel⟩, List.mem_of_getElem? (i := 887) (by decide +kernel), List.mem_of_getElem? (i := 1223) (by decide +kernel), List.mem_of_getElem? (i := 1224) (by decide +kernel)⟩
theorem lw_p66 : lw_okq (⟨"PurringHoldsModel", "refusesLoad", "(II)I"⟩, 42) := ⟨⟨by decide +kernel, by decide +kernel⟩, List.mem_of_getElem? (i := 887) (by decide +kernel), List.mem_of_getElem? (i := 1232) (by decide +kernel), List.mem_of_getElem? (i := 1233) (by decide +kernel)⟩
theorem lw_p67 : lw_okq (⟨"PurringHoldsModel", "readAct", "(I)V"⟩, 42) := ⟨⟨by decide +kernel, by decide +kernel⟩, List.mem_of_getElem? (i := 887) (by decide +kernel), List.mem_of_getElem? (i := 1240) (by decide +kernel), List.mem_of_getElem? (i := 1241) (by decide +kernel)⟩
theorem lw_p68 : lw_okq (⟨"PurringHoldsModel", "act", "(III)Z"⟩, 42) := ⟨⟨by decide +kernel, by decide +kernel⟩, List.mem_of_getElem? (i := 887) (by decide +kernel), List.mem_of_getElem? (i := 1244) (by decide +kernel), List.mem_of_getElem? (i := 1245) (by decide +kernel)⟩
theorem lw_p69 : lw_okq (⟨"PurringHoldsModel", "holding", "([I)I"⟩, 42) := ⟨⟨by decide +kernel, by decide +kernel⟩, List.mem_of_getElem? (i := 887) (by decide +kernel), List.mem_of_getElem? (i := 1256) (by decide +kernel), List.mem_of_getElem? (i := 1257) (by decide +kernel)⟩
theorem lw_p70 : lw_okq (⟨"PurringHoldsModel", "goThen", "(I)V"⟩, 42) := ⟨⟨by decide +kernel, by decide +kernel⟩, List.mem_of_getElem? (i := 887) (by decide +kernel), List.mem_of_getElem? (i := 1267) (by decide +kernel), List.mem_of_getElem? (i := 1268) (by decide +kernel)⟩
theorem lw_p71 : lw_okq (⟨"PurringHoldsModel", "lowest", "([I)I"⟩, 42) := ⟨⟨by decide +kernel, by decide +kernel⟩, List.mem_of_getElem? (i := 887) (by decide +kernel), List.mem_of_getElem? (i := 1279) (by decide +kernel), List.mem_of_getElem? (i := 1280) (by decide +kernel)⟩
theorem lw_p72 : lw_okq (⟨"PurringHoldsModel", "allHold", "([I)I"⟩, 42) := ⟨⟨by decide +kernel, by decide +kernel⟩, List.mem_of_getElem? (i := 887) (by decide +kernel), List.mem_of_getElem? (i := 1292) (by decide +kernel), List.mem_of_getElem? (i := 1293) (by decide +kernel)⟩
theorem lw_p73 : lw_okq (⟨"PurringHoldsModel", "lackOf", "(I)I"⟩, 42) := ⟨⟨by decide +kernel, by decide +kernel⟩, List.mem_of_getElem? (i := 887) (by decide +kernel), List.mem_of_getElem? (i := 1300) (by decide +kernel), List.mem_of_getElem? (i := 1301) (by decide +kernel)⟩
theorem lw_p74 : lw_okq (⟨"PurringHoldsModel", "allCats", "()I"⟩, 42) := ⟨⟨by decide +kernel, by decide +kernel⟩, List.mem_of_getElem? (i := 887) (by decide +kernel), List.mem_of_getElem? (i := 1312) (by decide +kernel), List.mem_of_getElem? (i := 1313) (by decide +kernel)⟩
theorem lw_p75 : lw_okq (⟨"PurringHoldsModel", "holdBy", "(II)I"⟩, 42) := ⟨⟨by decide +kernel, by decide +kernel⟩, List.mem_of_getElem? (i := 887) (by decide +kernel), List.mem_of_getElem? (i := 1316) (by decide +kernel), List.mem_of_getElem? (i := 1317) (by decide +kernel)⟩
theorem lw_p76 : lw_okq (⟨"PurringHoldsModel", "isHeld", "(II)I"⟩, 42) := ⟨⟨by decide +kernel, by decide +kernel⟩, List.mem_of_getElem? (i := 887) (by decide +kernel), List.mem_of_getElem? (i := 1324) (by decide +kernel), List.mem_of_getElem? (i := 1325) (by decide +kernel)⟩
theorem lw_p77 : lw_okq (⟨"PurringHoldsModel", "sagsBehind", "(I)I"⟩, 42) := ⟨⟨by decide +kernel, by decide +kernel⟩, List.mem_of_getElem? (i := 887) (by decide +kernel), List.mem_of_getElem? (i := 1332) (by decide +kernel), List.mem_of_getElem? (i := 1333) (by decide +kernel)⟩
theorem lw_p78 : lw_okq (⟨"PurringHoldsModel", "goTrolley", "(I)I"⟩, 42) := ⟨⟨by decide +kernel, by decide +kernel⟩, List.mem_of_getElem? (i := 887) (by decide +kernel), List.mem_of_getElem? (i := 1348) (by decide +kernel), List.mem_of_getElem? (i := 1349) (by decide +kernel)⟩
theorem lw_p79 : lw_okq (⟨"PurringHoldsModel", "grieving", "()I"⟩, 42) := ⟨⟨by decide +kernel, by decide +kernel⟩, List.mem_of_getElem? (i := 887) (by decide +kernel), List.mem_of_getElem? (i := 1368) (by decide +kernel), List.mem_of_getElem? (i := 1369) (by decide +kernel)⟩
def lw_privs_5 : List (MethodName × Nat) := [(⟨"PurringHoldsModel", "canGrieve", "(II)Z"⟩, 42), (⟨"PurringHoldsModel", "refusesSet", "(II)I"⟩, 42), (⟨"PurringHoldsModel", "refusesLoad", "(II)I"⟩, 42), (⟨"PurringHoldsModel", "readAct", "(I)V"⟩, 42), (⟨"PurringHoldsModel", "act", "(III)Z"⟩, 42), (⟨"PurringHoldsModel", "holding", "([I)I"⟩, 42), (⟨"PurringHoldsModel", "goThen", "(I)V"⟩, 42), (⟨"PurringHoldsModel", "lowest", "([I)I"⟩, 42), (⟨"PurringHoldsModel", "allHold", "([I)I"⟩, 42), (⟨"PurringHoldsModel", "lackOf", "(I)I"⟩, 42), (⟨"PurringHoldsModel", "allCats", "()I"⟩, 42), (⟨"PurringHoldsModel", "holdBy", "(II)I"⟩, 42), (⟨"PurringHoldsModel", "isHeld", "(II)I"⟩, 42), (⟨"PurringHoldsModel", "sagsBehind", "(I)I"⟩, 42), (⟨"PurringHoldsModel", "goTrolley", "(I)I"⟩, 42), (⟨"PurringHoldsModel", "grieving", "()I"⟩, 42)]
theorem lw_r5 : ∀ q ∈ lw_privs_5, lw_okq q := List.forall_mem_cons.mpr ⟨lw_p64, List.forall_mem_cons.mpr ⟨lw_p65, List.forall_mem_cons.mpr ⟨lw_p66, List.forall_mem_cons.mpr ⟨lw_p67, List.forall_mem_cons.mpr ⟨lw_p68, List.forall_mem_cons.mpr ⟨lw_p69, List.forall_mem_cons.mpr ⟨lw_p70, List.forall_mem_cons.mpr ⟨lw_p71, List.forall_mem_cons.mpr ⟨lw_p72, List.forall_mem_cons.mpr ⟨lw_p73, List.forall_mem_cons.mpr ⟨lw_p74, List.forall_mem_cons.mpr ⟨lw_p75, List.forall_mem_cons.mpr ⟨lw_p76, List.forall_mem_cons.mpr ⟨lw_p77, List.forall_mem_cons.mpr ⟨lw_p78, List.forall_mem_cons.mpr ⟨lw_p79, fun _ h => absurd h List.not_mem_nil⟩⟩⟩⟩⟩⟩⟩⟩⟩⟩⟩⟩⟩⟩⟩⟩
theorem lw_p80 : lw_okq (⟨"PurringHoldsModel", "isFelt", "(I)Z"⟩, 42) := ⟨⟨by decide +kernel, by decide +kernel⟩, List.mem_of_getElem? (i := 887) (by decide +kernel), List.mem_of_getElem? (i := 1372) (by decide +kernel), List.mem_of_getElem? (i := 1373) (by decide +kernel)⟩
theorem lw_p81 : lw_okq (⟨"PurringHoldsModel", "holdWithout", "(II)I"⟩, 42) := ⟨⟨by decide +kernel, by decide +kernel⟩, List.mem_of_getElem? (i := 887) (by decide +kernel), List.mem_of_getElem? (i := 1376) (by decide +kernel), List.mem_of_getElem? (i := 1377) (by decide +kernel)⟩
theorem lw_p82 : lw_okq (⟨"PurringHoldsModel", "spread", "(I)I"⟩, 42) := ⟨⟨by decide +kernel, by decide +kernel⟩, List.mem_of_getElem? (i := 887) (by decide +kernel), List.mem_of_getElem? (i := 1388) (by decide +kernel), List.mem_of_getElem? (i := 1389) (by decide +kernel)⟩
theorem lw_p83 : lw_okq (⟨"PurringHoldsModel", "suiting", "()I"⟩, 42) := ⟨⟨by decide +kernel, by decide +kernel⟩, List.mem_of_getElem? (i := 887) (by decide +kernel), List.mem_of_getElem? (i := 1404) (by decide +kernel), List.mem_of_getElem? (i := 1405) (by decide +kernel)⟩
theorem lw_p84 : lw_okq (⟨"PurringHoldsModel", "isSo", "(III)Z"⟩, 42) := ⟨⟨by decide +kernel, by decide +kernel⟩, List.mem_of_getElem? (i := 887) (by decide +kernel), List.mem_of_getElem? (i := 1408) (by decide +kernel), List.mem_of_getElem? (i := 1409) (by decide +kernel)⟩
theorem lw_p85 : lw_okq (⟨"PurringHoldsModel", "partsOf", "(II)J"⟩, 42) := ⟨⟨by decide +kernel, by decide +kernel⟩, List.mem_of_getElem? (i := 887) (by decide +kernel), List.mem_of_getElem? (i := 1420) (by decide +kernel), List.mem_of_getElem? (i := 1421) (by decide +kernel)⟩
theorem lw_p86 : lw_okq (⟨"PurringHoldsModel", "tellPart", "(JJ)I"⟩, 42) := ⟨⟨by decide +kernel, by decide +kernel⟩, List.mem_of_getElem? (i := 887) (by decide +kernel), List.mem_of_getElem? (i := 1428) (by decide +kernel), List.mem_of_getElem? (i := 1429) (by decide +kernel)⟩
theorem lw_p87 : lw_okq (⟨"PurringHoldsModel", "draw", "(I)I"⟩, 42) := ⟨⟨by decide +kernel, by decide +kernel⟩, List.mem_of_getElem? (i := 887) (by decide +kernel), List.mem_of_getElem? (i := 1469) (by decide +kernel), List.mem_of_getElem? (i := 1470) (by decide +kernel)⟩
def lw_privs_6 : List (MethodName × Nat) := [(⟨"PurringHoldsModel", "isFelt", "(I)Z"⟩, 42), (⟨"PurringHoldsModel", "holdWithout", "(II)I"⟩, 42), (⟨"PurringHoldsModel", "spread", "(I)I"⟩, 42), (⟨"PurringHoldsModel", "suiting", "()I"⟩, 42), (⟨"PurringHoldsModel", "isSo", "(III)Z"⟩, 42), (⟨"PurringHoldsModel", "partsOf", "(II)J"⟩, 42), (⟨"PurringHoldsModel", "tellPart", "(JJ)I"⟩, 42), (⟨"PurringHoldsModel", "draw", "(I)I"⟩, 42)]
theorem lw_r6 : ∀ q ∈ lw_privs_6, lw_okq q := List.forall_mem_cons.mpr ⟨lw_p80, List.forall_mem_cons.mpr ⟨lw_p81, List.forall_mem_cons.mpr ⟨lw_p82, List.forall_mem_cons.mpr ⟨lw_p83, List.forall_mem_cons.mpr ⟨lw_p84, List.forall_mem_cons.mpr ⟨lw_p85, List.forall_mem_cons.mpr ⟨lw_p86, List.forall_mem_cons.mpr ⟨lw_p87, fun _ h => absurd h List.not_mem_nil⟩⟩⟩⟩⟩⟩⟩⟩
def lw_privs : List (MethodName × Nat) := lw_privs_1 ++ (lw_privs_2 ++ (lw_privs_3 ++ (lw_privs_4 ++ (lw_privs_5 ++ (lw_privs_6)))))
def lw_tbl : List Cond := k2_sels lw_privs ++ tables_1
theorem lw_privs_ok : ∀ q ∈ lw_privs, lw_okq q := by
  show ∀ q ∈ lw_privs_1 ++ (lw_privs_2 ++ (lw_privs_3 ++ (lw_privs_4 ++ (lw_privs_5 ++ (lw_privs_6))))), lw_okq q
  exact List.forall_mem_append.mpr ⟨lw_r1, List.forall_mem_append.mpr ⟨lw_r2, List.forall_mem_append.mpr ⟨lw_r3, List.forall_mem_append.mpr ⟨lw_r4, List.forall_mem_append.mpr ⟨lw_r5, lw_r6⟩⟩⟩⟩⟩
def RX0 : String := "PurringHolds$Draws"
def TX0 : u_T := fun k => match k with
  | _ => ("PurringHolds$Draws", "last", "I", false)
def tyX0 : Nat → FieldType := fun k => match k with
  | _ => .int
theorem nmX0 : ∀ a, a < 1 → ∀ b, b < 1 → a ≠ b → (TX0 a).2.1 ≠ (TX0 b).2.1 := by decide +kernel
theorem tyX0_ok : ∀ k, k < 1 → parseFieldDescriptor (TX0 k).2.2.1 = some (tyX0 k) := by decide +kernel
abbrev cX0_init : ByteArray := prog_2_method_1_code
def yX0_init : MethodName := ⟨RX0, "<init>", "()V"⟩
abbrev cX0_below : ByteArray := prog_2_method_2_code
def yX0_below : MethodName := ⟨RX0, "below", "(I)I"⟩
def RX1 : String := "PurringHolds$Notes"
def TX1 : u_T := fun k => match k with
  | 0 => ("PurringHolds$Notes", "first", "[I", true)
  | 1 => ("PurringHolds$Notes", "second", "[I", true)
  | 2 => ("PurringHolds$Notes", "most", "I", true)
  | _ => ("PurringHolds$Notes", "size", "I", false)
def tyX1 : Nat → FieldType := fun k => match k with
  | 0 => .array .int
  | 1 => .array .int
  | 2 => .int
  | _ => .int
theorem nmX1 : ∀ a, a < 4 → ∀ b, b < 4 → a ≠ b → (TX1 a).2.1 ≠ (TX1 b).2.1 := by decide +kernel
theorem tyX1_ok : ∀ k, k < 4 → parseFieldDescriptor (TX1 k).2.2.1 = some (tyX1 k) := by decide +kernel
abbrev cX1_init : ByteArray := prog_3_method_1_code
def yX1_init : MethodName := ⟨RX1, "<init>", "(I)V"⟩
abbrev cX1_add : ByteArray := prog_3_method_2_code
def yX1_add : MethodName := ⟨RX1, "add", "(II)I"⟩
abbrev cX1_empty : ByteArray := prog_3_method_3_code
def yX1_empty : MethodName := ⟨RX1, "empty", "()I"⟩
def RX2 : String := "PurringHolds$Past"
def TX2 : u_T := fun k => match k with
  | 0 => ("PurringHolds$Past", "ring", "[LPurringHolds$Viaduct;", true)
  | 1 => ("PurringHolds$Past", "next", "I", false)
  | _ => ("PurringHolds$Past", "size", "I", false)
def tyX2 : Nat → FieldType := fun k => match k with
  | 0 => .array (.object "PurringHolds$Viaduct")
  | 1 => .int
  | _ => .int
theorem nmX2 : ∀ a, a < 3 → ∀ b, b < 3 → a ≠ b → (TX2 a).2.1 ≠ (TX2 b).2.1 := by decide +kernel
theorem tyX2_ok : ∀ k, k < 3 → parseFieldDescriptor (TX2 k).2.2.1 = some (tyX2 k) := by decide +kernel
abbrev cX2_init : ByteArray := prog_4_method_1_code
def yX2_init : MethodName := ⟨RX2, "<init>", "()V"⟩
abbrev cX2_add : ByteArray := prog_4_method_2_code
def yX2_add : MethodName := ⟨RX2, "add", "(LPurringHolds$Viaduct;)V"⟩
abbrev cX2_bringBack : ByteArray := prog_4_method_3_code
def yX2_bringBack : MethodName := ⟨RX2, "bringBack", "(LPurringHolds$Viaduct;)Z"⟩
def RX3 : String := "PurringHolds$Row"
def TX3 : u_T := fun k => match k with
  | 0 => ("PurringHolds$Row", "numbers", "[J", true)
  | _ => ("PurringHolds$Row", "size", "I", false)
def tyX3 : Nat → FieldType := fun k => match k with
  | 0 => .array .long
  | _ => .int
theorem nmX3 : ∀ a, a < 2 → ∀ b, b < 2 → a ≠ b → (TX3 a).2.1 ≠ (TX3 b).2.1 := by decide +kernel
theorem tyX3_ok : ∀ k, k < 2 → parseFieldDescriptor (TX3 k).2.2.1 = some (tyX3 k) := by decide +kernel
abbrev cX3_init : ByteArray := prog_5_method_1_code
def yX3_init : MethodName := ⟨RX3, "<init>", "()V"⟩
abbrev cX3_anew : ByteArray := prog_5_method_2_code
def yX3_anew : MethodName := ⟨RX3, "anew", "()LPurringHolds$Row;"⟩
abbrev cX3_add : ByteArray := prog_5_method_3_code
def yX3_add : MethodName := ⟨RX3, "add", "(J)LPurringHolds$Row;"⟩
def RX4 : String := "PurringHolds$Rule"
def TX4 : u_T := fun k => match k with
  | 0 => ("PurringHolds$Rule", "steps", "[I", true)
  | 1 => ("PurringHolds$Rule", "stack", "[I", true)
  | 2 => ("PurringHolds$Rule", "size", "I", false)
  | 3 => ("PurringHolds$Rule", "top", "I", false)
  | 4 => ("PurringHolds$Rule", "open", "I", false)
  | 5 => ("PurringHolds$Rule", "compared", "I", false)
  | 6 => ("PurringHolds$Rule", "digits", "I", false)
  | _ => ("PurringHolds$Rule", "wantsThing", "Z", false)
def tyX4 : Nat → FieldType := fun k => match k with
  | 0 => .array .int
  | 1 => .array .int
  | 2 => .int
  | 3 => .int
  | 4 => .int
  | 5 => .int
  | 6 => .int
  | _ => .boolean
theorem nmX4 : ∀ a, a < 8 → ∀ b, b < 8 → a ≠ b → (TX4 a).2.1 ≠ (TX4 b).2.1 := by decide +kernel
theorem tyX4_ok : ∀ k, k < 8 → parseFieldDescriptor (TX4 k).2.2.1 = some (tyX4 k) := by decide +kernel
abbrev cX4_init : ByteArray := prog_6_method_1_code
def yX4_init : MethodName := ⟨RX4, "<init>", "()V"⟩
abbrev cX4_bePlain : ByteArray := prog_6_method_2_code
def yX4_bePlain : MethodName := ⟨RX4, "bePlain", "()V"⟩
abbrev cX4_read : ByteArray := prog_6_method_3_code
def yX4_read : MethodName := ⟨RX4, "read", "(LPurringHolds$Text;)I"⟩
abbrev cX4_start : ByteArray := prog_6_method_4_code
def yX4_start : MethodName := ⟨RX4, "start", "()V"⟩
abbrev cX4_takes : ByteArray := prog_6_method_5_code
def yX4_takes : MethodName := ⟨RX4, "takes", "(I)Z"⟩
abbrev cX4_takesDigit : ByteArray := prog_6_method_6_code
def yX4_takesDigit : MethodName := ⟨RX4, "takesDigit", "(I)Z"⟩
abbrev cX4_takesThing : ByteArray := prog_6_method_7_code
def yX4_takesThing : MethodName := ⟨RX4, "takesThing", "(I)Z"⟩
abbrev cX4_takesBehindThing : ByteArray := prog_6_method_8_code
def yX4_takesBehindThing : MethodName := ⟨RX4, "takesBehindThing", "(I)Z"⟩
abbrev cX4_settle : ByteArray := prog_6_method_9_code
def yX4_settle : MethodName := ⟨RX4, "settle", "(I)V"⟩
abbrev cX4_rankOf : ByteArray := prog_6_method_10_code
def yX4_rankOf : MethodName := ⟨RX4, "rankOf", "(I)I"⟩
abbrev cX4_addStep : ByteArray := prog_6_method_11_code
def yX4_addStep : MethodName := ⟨RX4, "addStep", "(I)V"⟩
abbrev cX4_push : ByteArray := prog_6_method_12_code
def yX4_push : MethodName := ⟨RX4, "push", "(I)V"⟩
abbrev cX4_pop : ByteArray := prog_6_method_13_code
def yX4_pop : MethodName := ⟨RX4, "pop", "()I"⟩
abbrev cX4_purr : ByteArray := prog_6_method_14_code
def yX4_purr : MethodName := ⟨RX4, "purr", "(LPurringHolds$Viaduct;III)I"⟩
abbrev cX4_joined : ByteArray := prog_6_method_15_code
def yX4_joined : MethodName := ⟨RX4, "joined", "(III)I"⟩
def RX5 : String := "PurringHolds$Text"
def TX5 : u_T := fun k => match k with
  | 0 => ("PurringHolds$Text", "signs", "[C", true)
  | _ => ("PurringHolds$Text", "length", "I", false)
def tyX5 : Nat → FieldType := fun k => match k with
  | 0 => .array .char
  | _ => .int
theorem nmX5 : ∀ a, a < 2 → ∀ b, b < 2 → a ≠ b → (TX5 a).2.1 ≠ (TX5 b).2.1 := by decide +kernel
theorem tyX5_ok : ∀ k, k < 2 → parseFieldDescriptor (TX5 k).2.2.1 = some (tyX5 k) := by decide +kernel
abbrev cX5_init : ByteArray := prog_7_method_1_code
def yX5_init : MethodName := ⟨RX5, "<init>", "()V"⟩
abbrev cX5_addFour : ByteArray := prog_7_method_2_code
def yX5_addFour : MethodName := ⟨RX5, "addFour", "(I)I"⟩
abbrev cX5_at : ByteArray := prog_7_method_3_code
def yX5_at : MethodName := ⟨RX5, "at", "(I)I"⟩
abbrev cX5_digit : ByteArray := prog_7_method_4_code
def yX5_digit : MethodName := ⟨RX5, "digit", "(I)I"⟩
abbrev cX5_faultInLines : ByteArray := prog_7_method_5_code
def yX5_faultInLines : MethodName := ⟨RX5, "faultInLines", "(IIII)I"⟩
abbrev cX5_linesOf : ByteArray := prog_7_method_6_code
def yX5_linesOf : MethodName := ⟨RX5, "linesOf", "(I)I"⟩
abbrev cX5_faultInNight : ByteArray := prog_7_method_7_code
def yX5_faultInNight : MethodName := ⟨RX5, "faultInNight", "()I"⟩
abbrev cX5_faultInTrains : ByteArray := prog_7_method_8_code
def yX5_faultInTrains : MethodName := ⟨RX5, "faultInTrains", "()I"⟩
def RX6 : String := "PurringHolds$Viaduct"
def TX6 : u_T := fun k => match k with
  | 0 => ("PurringHolds$Viaduct", "load", "[I", true)
  | 1 => ("PurringHolds$Viaduct", "sag", "[I", true)
  | 2 => ("PurringHolds$Viaduct", "joy", "[I", true)
  | 3 => ("PurringHolds$Viaduct", "bowl", "[I", true)
  | 4 => ("PurringHolds$Viaduct", "grief", "[I", true)
  | 5 => ("PurringHolds$Viaduct", "place", "[I", true)
  | 6 => ("PurringHolds$Viaduct", "arches", "I", false)
  | 7 => ("PurringHolds$Viaduct", "cats", "I", false)
  | 8 => ("PurringHolds$Viaduct", "store", "I", false)
  | 9 => ("PurringHolds$Viaduct", "hour", "I", false)
  | _ => ("PurringHolds$Viaduct", "drops", "I", false)
def tyX6 : Nat → FieldType := fun k => match k with
  | 0 => .array .int
  | 1 => .array .int
  | 2 => .array .int
  | 3 => .array .int
  | 4 => .array .int
  | 5 => .array .int
  | 6 => .int
  | 7 => .int
  | 8 => .int
  | 9 => .int
  | _ => .int
theorem nmX6 : ∀ a, a < 11 → ∀ b, b < 11 → a ≠ b → (TX6 a).2.1 ≠ (TX6 b).2.1 := by decide +kernel
theorem tyX6_ok : ∀ k, k < 11 → parseFieldDescriptor (TX6 k).2.2.1 = some (tyX6 k) := by decide +kernel
abbrev cX6_init : ByteArray := prog_8_method_1_code
def yX6_init : MethodName := ⟨RX6, "<init>", "()V"⟩
abbrev cX6_become : ByteArray := prog_8_method_2_code
def yX6_become : MethodName := ⟨RX6, "become", "(LPurringHolds$Viaduct;)V"⟩
abbrev cX6_addArch : ByteArray := prog_8_method_3_code
def yX6_addArch : MethodName := ⟨RX6, "addArch", "(I)V"⟩
abbrev cX6_addCat : ByteArray := prog_8_method_4_code
def yX6_addCat : MethodName := ⟨RX6, "addCat", "(III)V"⟩
abbrev cX6_hasArch : ByteArray := prog_8_method_5_code
def yX6_hasArch : MethodName := ⟨RX6, "hasArch", "(I)Z"⟩
abbrev cX6_hasCat : ByteArray := prog_8_method_6_code
def yX6_hasCat : MethodName := ⟨RX6, "hasCat", "(I)Z"⟩
abbrev cX6_feed : ByteArray := prog_8_method_7_code
def yX6_feed : MethodName := ⟨RX6, "feed", "(II)I"⟩
abbrev cX6_pet : ByteArray := prog_8_method_8_code
def yX6_pet : MethodName := ⟨RX6, "pet", "(I)I"⟩
abbrev cX6_sadden : ByteArray := prog_8_method_9_code
def yX6_sadden : MethodName := ⟨RX6, "sadden", "(II)I"⟩
abbrev cX6_seat : ByteArray := prog_8_method_10_code
def yX6_seat : MethodName := ⟨RX6, "seat", "(II)I"⟩
abbrev cX6_burden : ByteArray := prog_8_method_11_code
def yX6_burden : MethodName := ⟨RX6, "burden", "(II)I"⟩
abbrev cX6_passHours : ByteArray := prog_8_method_12_code
def yX6_passHours : MethodName := ⟨RX6, "passHours", "(LPurringHolds$Rule;I)I"⟩
abbrev cX6_passHour : ByteArray := prog_8_method_13_code
def yX6_passHour : MethodName := ⟨RX6, "passHour", "(LPurringHolds$Rule;)I"⟩
abbrev cX6_catsIn : ByteArray := prog_8_method_14_code
def yX6_catsIn : MethodName := ⟨RX6, "catsIn", "(I)I"⟩
abbrev cX6_purrOf : ByteArray := prog_8_method_15_code
def yX6_purrOf : MethodName := ⟨RX6, "purrOf", "(LPurringHolds$Rule;I)I"⟩
abbrev cX6_holdOf : ByteArray := prog_8_method_16_code
def yX6_holdOf : MethodName := ⟨RX6, "holdOf", "(LPurringHolds$Rule;I)I"⟩
abbrev cX6_holdBy : ByteArray := prog_8_method_17_code
def yX6_holdBy : MethodName := ⟨RX6, "holdBy", "(LPurringHolds$Rule;II)I"⟩
abbrev cX6_allHold : ByteArray := prog_8_method_18_code
def yX6_allHold : MethodName := ⟨RX6, "allHold", "(LPurringHolds$Rule;)I"⟩
abbrev cX6_heldArches : ByteArray := prog_8_method_19_code
def yX6_heldArches : MethodName := ⟨RX6, "heldArches", "(LPurringHolds$Rule;)I"⟩
abbrev cX6_loadedArches : ByteArray := prog_8_method_20_code
def yX6_loadedArches : MethodName := ⟨RX6, "loadedArches", "()I"⟩
abbrev cX6_lowestArches : ByteArray := prog_8_method_21_code
def yX6_lowestArches : MethodName := ⟨RX6, "lowestArches", "()I"⟩
abbrev cX6_farthestSagging : ByteArray := prog_8_method_22_code
def yX6_farthestSagging : MethodName := ⟨RX6, "farthestSagging", "(II)I"⟩
abbrev cX6_spreadFrom : ByteArray := prog_8_method_23_code
def yX6_spreadFrom : MethodName := ⟨RX6, "spreadFrom", "(I)I"⟩
abbrev cX6_allSags : ByteArray := prog_8_method_24_code
def yX6_allSags : MethodName := ⟨RX6, "allSags", "()I"⟩
abbrev cX6_allLoads : ByteArray := prog_8_method_25_code
def yX6_allLoads : MethodName := ⟨RX6, "allLoads", "()I"⟩
abbrev cX6_allJoy : ByteArray := prog_8_method_26_code
def yX6_allJoy : MethodName := ⟨RX6, "allJoy", "()I"⟩
abbrev cX6_sumOf : ByteArray := prog_8_method_27_code
def yX6_sumOf : MethodName := ⟨RX6, "sumOf", "([II)I"⟩
abbrev cX6_thing : ByteArray := prog_8_method_28_code
def yX6_thing : MethodName := ⟨RX6, "thing", "(IIII)I"⟩
def RX7 : String := "PurringHolds"
def TX7 : u_T := fun k => match k with
  | 0 => ("PurringHolds", "text", "LPurringHolds$Text;", true)
  | 1 => ("PurringHolds", "told", "LPurringHolds$Row;", true)
  | 2 => ("PurringHolds", "now", "LPurringHolds$Viaduct;", true)
  | 3 => ("PurringHolds", "before", "LPurringHolds$Viaduct;", true)
  | 4 => ("PurringHolds", "trial", "LPurringHolds$Viaduct;", true)
  | 5 => ("PurringHolds", "past", "LPurringHolds$Past;", true)
  | 6 => ("PurringHolds", "kept", "[LPurringHolds$Viaduct;", true)
  | 7 => ("PurringHolds", "feltNotes", "LPurringHolds$Notes;", true)
  | 8 => ("PurringHolds", "heardNotes", "LPurringHolds$Notes;", true)
  | 9 => ("PurringHolds", "draws", "LPurringHolds$Draws;", true)
  | 10 => ("PurringHolds", "purrs", "[I", true)
  | 11 => ("PurringHolds", "alone", "[I", true)
  | 12 => ("PurringHolds", "nimbers", "[I", true)
  | 13 => ("PurringHolds", "ways", "[J", true)
  | 14 => ("PurringHolds", "ruling", "LPurringHolds$Rule;", false)
  | _ => ("PurringHolds", "spare", "LPurringHolds$Rule;", false)
def tyX7 : Nat → FieldType := fun k => match k with
  | 0 => .object "PurringHolds$Text"
  | 1 => .object "PurringHolds$Row"
  | 2 => .object "PurringHolds$Viaduct"
  | 3 => .object "PurringHolds$Viaduct"
  | 4 => .object "PurringHolds$Viaduct"
  | 5 => .object "PurringHolds$Past"
  | 6 => .array (.object "PurringHolds$Viaduct")
  | 7 => .object "PurringHolds$Notes"
  | 8 => .object "PurringHolds$Notes"
  | 9 => .object "PurringHolds$Draws"
  | 10 => .array .int
  | 11 => .array .int
  | 12 => .array .int
  | 13 => .array .long
  | 14 => .object "PurringHolds$Rule"
  | _ => .object "PurringHolds$Rule"
theorem nmX7 : ∀ a, a < 16 → ∀ b, b < 16 → a ≠ b → (TX7 a).2.1 ≠ (TX7 b).2.1 := by decide +kernel
theorem tyX7_ok : ∀ k, k < 16 → parseFieldDescriptor (TX7 k).2.2.1 = some (tyX7 k) := by decide +kernel
abbrev cX7_init : ByteArray := prog_1_method_1_code
def yX7_init : MethodName := ⟨RX7, "<init>", "()V"⟩
abbrev cX7_sign : ByteArray := prog_1_method_2_code
def yX7_sign : MethodName := ⟨RX7, "sign", "(I)I"⟩
abbrev cX7_end : ByteArray := prog_1_method_3_code
def yX7_end : MethodName := ⟨RX7, "end", "(I)Z"⟩
abbrev cX7_arches : ByteArray := prog_1_method_4_code
def yX7_arches : MethodName := ⟨RX7, "arches", "()I"⟩
abbrev cX7_cats : ByteArray := prog_1_method_5_code
def yX7_cats : MethodName := ⟨RX7, "cats", "()I"⟩
abbrev cX7_linesTaken : ByteArray := prog_1_method_6_code
def yX7_linesTaken : MethodName := ⟨RX7, "linesTaken", "(II)I"⟩
abbrev cX7_rule : ByteArray := prog_1_method_7_code
def yX7_rule : MethodName := ⟨RX7, "rule", "()I"⟩
abbrev cX7_readSpare : ByteArray := prog_1_method_8_code
def yX7_readSpare : MethodName := ⟨RX7, "readSpare", "()I"⟩
abbrev cX7_arch : ByteArray := prog_1_method_9_code
def yX7_arch : MethodName := ⟨RX7, "arch", "(II)I"⟩
abbrev cX7_cat : ByteArray := prog_1_method_10_code
def yX7_cat : MethodName := ⟨RX7, "cat", "(II)I"⟩
abbrev cX7_sheet : ByteArray := prog_1_method_11_code
def yX7_sheet : MethodName := ⟨RX7, "sheet", "(IIII)I"⟩
abbrev cX7_entryOf : ByteArray := prog_1_method_12_code
def yX7_entryOf : MethodName := ⟨RX7, "entryOf", "(II)I"⟩
abbrev cX7_asDigit : ByteArray := prog_1_method_13_code
def yX7_asDigit : MethodName := ⟨RX7, "asDigit", "(I)I"⟩
abbrev cX7_hours : ByteArray := prog_1_method_14_code
def yX7_hours : MethodName := ⟨RX7, "hours", "(I)I"⟩
abbrev cX7_feeds : ByteArray := prog_1_method_15_code
def yX7_feeds : MethodName := ⟨RX7, "feeds", "(II)I"⟩
abbrev cX7_pets : ByteArray := prog_1_method_16_code
def yX7_pets : MethodName := ⟨RX7, "pets", "(I)I"⟩
abbrev cX7_grieves : ByteArray := prog_1_method_17_code
def yX7_grieves : MethodName := ⟨RX7, "grieves", "(II)I"⟩
abbrev cX7_sets : ByteArray := prog_1_method_18_code
def yX7_sets : MethodName := ⟨RX7, "sets", "(II)I"⟩
abbrev cX7_loads : ByteArray := prog_1_method_19_code
def yX7_loads : MethodName := ⟨RX7, "loads", "(II)I"⟩
abbrev cX7_remembered : ByteArray := prog_1_method_20_code
def yX7_remembered : MethodName := ⟨RX7, "remembered", "(I)I"⟩
abbrev cX7_night : ByteArray := prog_1_method_21_code
def yX7_night : MethodName := ⟨RX7, "night", "()I"⟩
abbrev cX7_act : ByteArray := prog_1_method_22_code
def yX7_act : MethodName := ⟨RX7, "act", "(III)I"⟩
abbrev cX7_digitsOfAct : ByteArray := prog_1_method_23_code
def yX7_digitsOfAct : MethodName := ⟨RX7, "digitsOfAct", "(I)I"⟩
abbrev cX7_undo : ByteArray := prog_1_method_24_code
def yX7_undo : MethodName := ⟨RX7, "undo", "()I"⟩
abbrev cX7_holds : ByteArray := prog_1_method_25_code
def yX7_holds : MethodName := ⟨RX7, "holds", "()I"⟩
abbrev cX7_later : ByteArray := prog_1_method_26_code
def yX7_later : MethodName := ⟨RX7, "later", "(II)I"⟩
abbrev cX7_when : ByteArray := prog_1_method_27_code
def yX7_when : MethodName := ⟨RX7, "when", "(II)I"⟩
abbrev cX7_down : ByteArray := prog_1_method_28_code
def yX7_down : MethodName := ⟨RX7, "down", "()I"⟩
abbrev cX7_safe : ByteArray := prog_1_method_29_code
def yX7_safe : MethodName := ⟨RX7, "safe", "()I"⟩
abbrev cX7_toldIfFound : ByteArray := prog_1_method_30_code
def yX7_toldIfFound : MethodName := ⟨RX7, "toldIfFound", "(II)I"⟩
abbrev cX7_loudest : ByteArray := prog_1_method_31_code
def yX7_loudest : MethodName := ⟨RX7, "loudest", "(I)I"⟩
abbrev cX7_weakest : ByteArray := prog_1_method_32_code
def yX7_weakest : MethodName := ⟨RX7, "weakest", "()I"⟩
abbrev cX7_trades : ByteArray := prog_1_method_33_code
def yX7_trades : MethodName := ⟨RX7, "trades", "()I"⟩
abbrev cX7_needs : ByteArray := prog_1_method_34_code
def yX7_needs : MethodName := ⟨RX7, "needs", "(I)I"⟩
abbrev cX7_guards : ByteArray := prog_1_method_35_code
def yX7_guards : MethodName := ⟨RX7, "guards", "()I"⟩
abbrev cX7_findWhoHoldsAlone : ByteArray := prog_1_method_36_code
def yX7_findWhoHoldsAlone : MethodName := ⟨RX7, "findWhoHoldsAlone", "()V"⟩
abbrev cX7_leastGuard : ByteArray := prog_1_method_37_code
def yX7_leastGuard : MethodName := ⟨RX7, "leastGuard", "(IIII)I"⟩
abbrev cX7_mostGuarded : ByteArray := prog_1_method_38_code
def yX7_mostGuarded : MethodName := ⟨RX7, "mostGuarded", "(II)I"⟩
abbrev cX7_best : ByteArray := prog_1_method_39_code
def yX7_best : MethodName := ⟨RX7, "best", "(II)I"⟩
abbrev cX7_sagsIn : ByteArray := prog_1_method_40_code
def yX7_sagsIn : MethodName := ⟨RX7, "sagsIn", "(I)I"⟩
abbrev cX7_cheers : ByteArray := prog_1_method_41_code
def yX7_cheers : MethodName := ⟨RX7, "cheers", "(I)I"⟩
abbrev cX7_bears : ByteArray := prog_1_method_42_code
def yX7_bears : MethodName := ⟨RX7, "bears", "(I)I"⟩
abbrev cX7_trainsBorne : ByteArray := prog_1_method_43_code
def yX7_trainsBorne : MethodName := ⟨RX7, "trainsBorne", "(I)I"⟩
abbrev cX7_trolley : ByteArray := prog_1_method_44_code
def yX7_trolley : MethodName := ⟨RX7, "trolley", "(I)I"⟩
abbrev cX7_depot : ByteArray := prog_1_method_45_code
def yX7_depot : MethodName := ⟨RX7, "depot", "()I"⟩
abbrev cX7_stepsOf : ByteArray := prog_1_method_46_code
def yX7_stepsOf : MethodName := ⟨RX7, "stepsOf", "(III)I"⟩
abbrev cX7_felt : ByteArray := prog_1_method_47_code
def yX7_felt : MethodName := ⟨RX7, "felt", "(II)I"⟩
abbrev cX7_forget : ByteArray := prog_1_method_48_code
def yX7_forget : MethodName := ⟨RX7, "forget", "()I"⟩
abbrev cX7_fits : ByteArray := prog_1_method_49_code
def yX7_fits : MethodName := ⟨RX7, "fits", "()I"⟩
abbrev cX7_findPurrs : ByteArray := prog_1_method_50_code
def yX7_findPurrs : MethodName := ⟨RX7, "findPurrs", "()V"⟩
abbrev cX7_fittingCats : ByteArray := prog_1_method_51_code
def yX7_fittingCats : MethodName := ⟨RX7, "fittingCats", "()I"⟩
abbrev cX7_fitsWithout : ByteArray := prog_1_method_52_code
def yX7_fitsWithout : MethodName := ⟨RX7, "fitsWithout", "(I)Z"⟩
abbrev cX7_holdWithout : ByteArray := prog_1_method_53_code
def yX7_holdWithout : MethodName := ⟨RX7, "holdWithout", "(II)I"⟩
abbrev cX7_feels : ByteArray := prog_1_method_54_code
def yX7_feels : MethodName := ⟨RX7, "feels", "()I"⟩
abbrev cX7_mostLeft : ByteArray := prog_1_method_55_code
def yX7_mostLeft : MethodName := ⟨RX7, "mostLeft", "(II)I"⟩
abbrev cX7_spreads : ByteArray := prog_1_method_56_code
def yX7_spreads : MethodName := ⟨RX7, "spreads", "(II)I"⟩
abbrev cX7_heard : ByteArray := prog_1_method_57_code
def yX7_heard : MethodName := ⟨RX7, "heard", "(II)I"⟩
abbrev cX7_highestHeard : ByteArray := prog_1_method_58_code
def yX7_highestHeard : MethodName := ⟨RX7, "highestHeard", "(I)I"⟩
abbrev cX7_denies : ByteArray := prog_1_method_59_code
def yX7_denies : MethodName := ⟨RX7, "denies", "()I"⟩
abbrev cX7_suits : ByteArray := prog_1_method_60_code
def yX7_suits : MethodName := ⟨RX7, "suits", "()I"⟩
abbrev cX7_suitingCats : ByteArray := prog_1_method_61_code
def yX7_suitingCats : MethodName := ⟨RX7, "suitingCats", "()I"⟩
abbrev cX7_catsOfWhom : ByteArray := prog_1_method_62_code
def yX7_catsOfWhom : MethodName := ⟨RX7, "catsOfWhom", "(II)I"⟩
abbrev cX7_isSo : ByteArray := prog_1_method_63_code
def yX7_isSo : MethodName := ⟨RX7, "isSo", "(III)Z"⟩
abbrev cX7_asks : ByteArray := prog_1_method_64_code
def yX7_asks : MethodName := ⟨RX7, "asks", "()I"⟩
abbrev cX7_odds : ByteArray := prog_1_method_65_code
def yX7_odds : MethodName := ⟨RX7, "odds", "(II)I"⟩
abbrev cX7_stands : ByteArray := prog_1_method_66_code
def yX7_stands : MethodName := ⟨RX7, "stands", "(I)I"⟩
abbrev cX7_waysToHold : ByteArray := prog_1_method_67_code
def yX7_waysToHold : MethodName := ⟨RX7, "waysToHold", "(II)J"⟩
abbrev cX7_addToWays : ByteArray := prog_1_method_68_code
def yX7_addToWays : MethodName := ⟨RX7, "addToWays", "(II)V"⟩
abbrev cX7_tensFor : ByteArray := prog_1_method_69_code
def yX7_tensFor : MethodName := ⟨RX7, "tensFor", "(I)J"⟩
abbrev cX7_tellFraction : ByteArray := prog_1_method_70_code
def yX7_tellFraction : MethodName := ⟨RX7, "tellFraction", "(JJ)V"⟩
abbrev cX7_litters : ByteArray := prog_1_method_71_code
def yX7_litters : MethodName := ⟨RX7, "litters", "(I)I"⟩
abbrev cX7_nimberOf : ByteArray := prog_1_method_72_code
def yX7_nimberOf : MethodName := ⟨RX7, "nimberOf", "(I)I"⟩
abbrev cX7_rests : ByteArray := prog_1_method_73_code
def yX7_rests : MethodName := ⟨RX7, "rests", "(I)I"⟩
abbrev cX7_staysAt : ByteArray := prog_1_method_74_code
def yX7_staysAt : MethodName := ⟨RX7, "staysAt", "(III)Z"⟩
abbrev cX7_worthOf : ByteArray := prog_1_method_75_code
def yX7_worthOf : MethodName := ⟨RX7, "worthOf", "(III)I"⟩
abbrev cX7_law : ByteArray := prog_1_method_76_code
def yX7_law : MethodName := ⟨RX7, "law", "()I"⟩
abbrev cX7_years : ByteArray := prog_1_method_77_code
def yX7_years : MethodName := ⟨RX7, "years", "(II)I"⟩
abbrev cX7_drawnAct : ByteArray := prog_1_method_78_code
def yX7_drawnAct : MethodName := ⟨RX7, "drawnAct", "()I"⟩
abbrev cX7_keep : ByteArray := prog_1_method_79_code
def yX7_keep : MethodName := ⟨RX7, "keep", "(I)Z"⟩
abbrev cX7_again : ByteArray := prog_1_method_80_code
def yX7_again : MethodName := ⟨RX7, "again", "(I)Z"⟩
abbrev cX7_count : ByteArray := prog_1_method_81_code
def yX7_count : MethodName := ⟨RX7, "count", "(I)I"⟩
abbrev cX7_row : ByteArray := prog_1_method_82_code
def yX7_row : MethodName := ⟨RX7, "row", "(I)J"⟩
def RX8 : String := "PurringHoldsModel"
def TX8 : u_T := fun k => match k with
  | 0 => ("PurringHoldsModel", "now", "[I", true)
  | 1 => ("PurringHoldsModel", "arches", "I", false)
  | 2 => ("PurringHoldsModel", "cats", "I", false)
  | 3 => ("PurringHoldsModel", "text", "[B", true)
  | 4 => ("PurringHoldsModel", "typed", "I", false)
  | 5 => ("PurringHoldsModel", "row", "[J", true)
  | 6 => ("PurringHoldsModel", "rowMany", "I", false)
  | 7 => ("PurringHoldsModel", "thrown", "I", false)
  | 8 => ("PurringHoldsModel", "read", "[B", false)
  | 9 => ("PurringHoldsModel", "length", "I", false)
  | 10 => ("PurringHoldsModel", "top", "I", false)
  | 11 => ("PurringHoldsModel", "at", "I", false)
  | 12 => ("PurringHoldsModel", "wrong", "I", false)
  | 13 => ("PurringHoldsModel", "told", "[I", true)
  | 14 => ("PurringHoldsModel", "rule", "[B", false)
  | 15 => ("PurringHoldsModel", "otherRule", "[B", false)
  | 16 => ("PurringHoldsModel", "ruleSize", "I", false)
  | 17 => ("PurringHoldsModel", "isAsked", "Z", false)
  | 18 => ("PurringHoldsModel", "asked", "[I", true)
  | 19 => ("PurringHoldsModel", "undos", "[I", true)
  | 20 => ("PurringHoldsModel", "undoMany", "I", false)
  | 21 => ("PurringHoldsModel", "aside", "[I", true)
  | 22 => ("PurringHoldsModel", "then", "[I", true)
  | 23 => ("PurringHoldsModel", "hold", "[I", true)
  | 24 => ("PurringHoldsModel", "dropped", "I", false)
  | 25 => ("PurringHoldsModel", "acts", "[I", true)
  | 26 => ("PurringHoldsModel", "guarded", "[I", true)
  | 27 => ("PurringHoldsModel", "train", "[I", true)
  | 28 => ("PurringHoldsModel", "trolleyEnd", "I", false)
  | 29 => ("PurringHoldsModel", "feltOf", "[I", true)
  | 30 => ("PurringHoldsModel", "feltBy", "[I", true)
  | 31 => ("PurringHoldsModel", "feltMany", "I", false)
  | 32 => ("PurringHoldsModel", "many", "[I", true)
  | 33 => ("PurringHoldsModel", "heardOf", "[I", true)
  | 34 => ("PurringHoldsModel", "heardBy", "[I", true)
  | 35 => ("PurringHoldsModel", "heardMany", "I", false)
  | 36 => ("PurringHoldsModel", "worth", "[I", true)
  | 37 => ("PurringHoldsModel", "drawn", "I", false)
  | 38 => ("PurringHoldsModel", "came", "I", false)
  | 39 => ("PurringHoldsModel", "kept", "[I", true)
  | 40 => ("PurringHoldsModel", "isKept", "[Z", true)
  | _ => ("PurringHoldsModel", "keptCame", "[I", true)
def tyX8 : Nat → FieldType := fun k => match k with
  | 0 => .array .int
  | 1 => .int
  | 2 => .int
  | 3 => .array .byte
  | 4 => .int
  | 5 => .array .long
  | 6 => .int
  | 7 => .int
  | 8 => .array .byte
  | 9 => .int
  | 10 => .int
  | 11 => .int
  | 12 => .int
  | 13 => .array .int
  | 14 => .array .byte
  | 15 => .array .byte
  | 16 => .int
  | 17 => .boolean
  | 18 => .array .int
  | 19 => .array .int
  | 20 => .int
  | 21 => .array .int
  | 22 => .array .int
  | 23 => .array .int
  | 24 => .int
  | 25 => .array .int
  | 26 => .array .int
  | 27 => .array .int
  | 28 => .int
  | 29 => .array .int
  | 30 => .array .int
  | 31 => .int
  | 32 => .array .int
  | 33 => .array .int
  | 34 => .array .int
  | 35 => .int
  | 36 => .array .int
  | 37 => .int
  | 38 => .int
  | 39 => .array .int
  | 40 => .array .boolean
  | _ => .array .int
theorem nmX8 : ∀ a, a < 42 → ∀ b, b < 42 → a ≠ b → (TX8 a).2.1 ≠ (TX8 b).2.1 := by decide +kernel
theorem tyX8_ok : ∀ k, k < 42 → parseFieldDescriptor (TX8 k).2.2.1 = some (tyX8 k) := by decide +kernel
abbrev cX8_init : ByteArray := prog_10_method_1_code
def yX8_init : MethodName := ⟨RX8, "<init>", "()V"⟩
abbrev cX8_thrown : ByteArray := prog_10_method_2_code
def yX8_thrown : MethodName := ⟨RX8, "thrown", "()I"⟩
abbrev cX8_in : ByteArray := prog_10_method_3_code
def yX8_in : MethodName := ⟨RX8, "in", "(III)Z"⟩
abbrev cX8_has : ByteArray := prog_10_method_4_code
def yX8_has : MethodName := ⟨RX8, "has", "(II)Z"⟩
abbrev cX8_lost : ByteArray := prog_10_method_5_code
def yX8_lost : MethodName := ⟨RX8, "lost", "()I"⟩
abbrev cX8_tell : ByteArray := prog_10_method_6_code
def yX8_tell : MethodName := ⟨RX8, "tell", "(J)V"⟩
abbrev cX8_isArch : ByteArray := prog_10_method_7_code
def yX8_isArch : MethodName := ⟨RX8, "isArch", "(I)Z"⟩
abbrev cX8_isCat : ByteArray := prog_10_method_8_code
def yX8_isCat : MethodName := ⟨RX8, "isCat", "(I)Z"⟩
abbrev cX8_allCats : ByteArray := prog_10_method_9_code
def yX8_allCats : MethodName := ⟨RX8, "allCats", "()I"⟩
abbrev cX8_sign : ByteArray := prog_10_method_10_code
def yX8_sign : MethodName := ⟨RX8, "sign", "(I)I"⟩
abbrev cX8_end : ByteArray := prog_10_method_11_code
def yX8_end : MethodName := ⟨RX8, "end", "(I)Z"⟩
abbrev cX8_begin : ByteArray := prog_10_method_12_code
def yX8_begin : MethodName := ⟨RX8, "begin", "([BII)V"⟩
abbrev cX8_beginText : ByteArray := prog_10_method_13_code
def yX8_beginText : MethodName := ⟨RX8, "beginText", "(I)V"⟩
abbrev cX8_here : ByteArray := prog_10_method_14_code
def yX8_here : MethodName := ⟨RX8, "here", "()I"⟩
abbrev cX8_fine : ByteArray := prog_10_method_15_code
def yX8_fine : MethodName := ⟨RX8, "fine", "()Z"⟩
abbrev cX8_fault : ByteArray := prog_10_method_16_code
def yX8_fault : MethodName := ⟨RX8, "fault", "(I)V"⟩
abbrev cX8_passes : ByteArray := prog_10_method_17_code
def yX8_passes : MethodName := ⟨RX8, "passes", "(C)Z"⟩
abbrev cX8_need : ByteArray := prog_10_method_18_code
def yX8_need : MethodName := ⟨RX8, "need", "(C)V"⟩
abbrev cX8_oneOf : ByteArray := prog_10_method_19_code
def yX8_oneOf : MethodName := ⟨RX8, "oneOf", "(CI)I"⟩
abbrev cX8_number : ByteArray := prog_10_method_20_code
def yX8_number : MethodName := ⟨RX8, "number", "(I)I"⟩
abbrev cX8_wasRight : ByteArray := prog_10_method_21_code
def yX8_wasRight : MethodName := ⟨RX8, "wasRight", "()Z"⟩
abbrev cX8_toldAnew : ByteArray := prog_10_method_22_code
def yX8_toldAnew : MethodName := ⟨RX8, "toldAnew", "()V"⟩
abbrev cX8_arches : ByteArray := prog_10_method_23_code
def yX8_arches : MethodName := ⟨RX8, "arches", "()I"⟩
abbrev cX8_cats : ByteArray := prog_10_method_24_code
def yX8_cats : MethodName := ⟨RX8, "cats", "()I"⟩
abbrev cX8_held : ByteArray := prog_10_method_25_code
def yX8_held : MethodName := ⟨RX8, "held", "(I)I"⟩
abbrev cX8_sum : ByteArray := prog_10_method_26_code
def yX8_sum : MethodName := ⟨RX8, "sum", "(I)I"⟩
abbrev cX8_product : ByteArray := prog_10_method_27_code
def yX8_product : MethodName := ⟨RX8, "product", "(I)I"⟩
abbrev cX8_letterOf : ByteArray := prog_10_method_28_code
def yX8_letterOf : MethodName := ⟨RX8, "letterOf", "(I)I"⟩
abbrev cX8_thing : ByteArray := prog_10_method_29_code
def yX8_thing : MethodName := ⟨RX8, "thing", "(I)I"⟩
abbrev cX8_readRule : ByteArray := prog_10_method_30_code
def yX8_readRule : MethodName := ⟨RX8, "readRule", "()Z"⟩
abbrev cX8_rule : ByteArray := prog_10_method_31_code
def yX8_rule : MethodName := ⟨RX8, "rule", "()I"⟩
abbrev cX8_there : ByteArray := prog_10_method_32_code
def yX8_there : MethodName := ⟨RX8, "there", "([II)I"⟩
abbrev cX8_purrIn : ByteArray := prog_10_method_33_code
def yX8_purrIn : MethodName := ⟨RX8, "purrIn", "([IIII)I"⟩
abbrev cX8_purrOf : ByteArray := prog_10_method_34_code
def yX8_purrOf : MethodName := ⟨RX8, "purrOf", "([II)I"⟩
abbrev cX8_holdOf : ByteArray := prog_10_method_35_code
def yX8_holdOf : MethodName := ⟨RX8, "holdOf", "([II)I"⟩
abbrev cX8_arch : ByteArray := prog_10_method_36_code
def yX8_arch : MethodName := ⟨RX8, "arch", "(II)I"⟩
abbrev cX8_cat : ByteArray := prog_10_method_37_code
def yX8_cat : MethodName := ⟨RX8, "cat", "(II)I"⟩
abbrev cX8_sumOf : ByteArray := prog_10_method_38_code
def yX8_sumOf : MethodName := ⟨RX8, "sumOf", "([III)I"⟩
abbrev cX8_sags : ByteArray := prog_10_method_39_code
def yX8_sags : MethodName := ⟨RX8, "sags", "([I)I"⟩
abbrev cX8_allHold : ByteArray := prog_10_method_40_code
def yX8_allHold : MethodName := ⟨RX8, "allHold", "([I)I"⟩
abbrev cX8_sheet : ByteArray := prog_10_method_41_code
def yX8_sheet : MethodName := ⟨RX8, "sheet", "(IIII)I"⟩
abbrev cX8_lay : ByteArray := prog_10_method_42_code
def yX8_lay : MethodName := ⟨RX8, "lay", "([I[II)V"⟩
abbrev cX8_remember : ByteArray := prog_10_method_43_code
def yX8_remember : MethodName := ⟨RX8, "remember", "([I)V"⟩
abbrev cX8_goHour : ByteArray := prog_10_method_44_code
def yX8_goHour : MethodName := ⟨RX8, "goHour", "([I)V"⟩
abbrev cX8_goHours : ByteArray := prog_10_method_45_code
def yX8_goHours : MethodName := ⟨RX8, "goHours", "([II)V"⟩
abbrev cX8_goThen : ByteArray := prog_10_method_46_code
def yX8_goThen : MethodName := ⟨RX8, "goThen", "(I)V"⟩
abbrev cX8_hours : ByteArray := prog_10_method_47_code
def yX8_hours : MethodName := ⟨RX8, "hours", "(I)I"⟩
abbrev cX8_refusesFeed : ByteArray := prog_10_method_48_code
def yX8_refusesFeed : MethodName := ⟨RX8, "refusesFeed", "([III)I"⟩
abbrev cX8_goFeed : ByteArray := prog_10_method_49_code
def yX8_goFeed : MethodName := ⟨RX8, "goFeed", "([III)V"⟩
abbrev cX8_feeds : ByteArray := prog_10_method_50_code
def yX8_feeds : MethodName := ⟨RX8, "feeds", "(II)I"⟩
abbrev cX8_refusesPet : ByteArray := prog_10_method_51_code
def yX8_refusesPet : MethodName := ⟨RX8, "refusesPet", "(I)I"⟩
abbrev cX8_pets : ByteArray := prog_10_method_52_code
def yX8_pets : MethodName := ⟨RX8, "pets", "(I)I"⟩
abbrev cX8_canGrieve : ByteArray := prog_10_method_53_code
def yX8_canGrieve : MethodName := ⟨RX8, "canGrieve", "(II)Z"⟩
abbrev cX8_goGrieve : ByteArray := prog_10_method_54_code
def yX8_goGrieve : MethodName := ⟨RX8, "goGrieve", "([III)V"⟩
abbrev cX8_grieves : ByteArray := prog_10_method_55_code
def yX8_grieves : MethodName := ⟨RX8, "grieves", "(II)I"⟩
abbrev cX8_refusesSet : ByteArray := prog_10_method_56_code
def yX8_refusesSet : MethodName := ⟨RX8, "refusesSet", "(II)I"⟩
abbrev cX8_sets : ByteArray := prog_10_method_57_code
def yX8_sets : MethodName := ⟨RX8, "sets", "(II)I"⟩
abbrev cX8_refusesLoad : ByteArray := prog_10_method_58_code
def yX8_refusesLoad : MethodName := ⟨RX8, "refusesLoad", "(II)I"⟩
abbrev cX8_loads : ByteArray := prog_10_method_59_code
def yX8_loads : MethodName := ⟨RX8, "loads", "(II)I"⟩
abbrev cX8_night : ByteArray := prog_10_method_60_code
def yX8_night : MethodName := ⟨RX8, "night", "()I"⟩
abbrev cX8_readAct : ByteArray := prog_10_method_61_code
def yX8_readAct : MethodName := ⟨RX8, "readAct", "(I)V"⟩
abbrev cX8_act : ByteArray := prog_10_method_62_code
def yX8_act : MethodName := ⟨RX8, "act", "(III)Z"⟩
abbrev cX8_undo : ByteArray := prog_10_method_63_code
def yX8_undo : MethodName := ⟨RX8, "undo", "()I"⟩
abbrev cX8_holding : ByteArray := prog_10_method_64_code
def yX8_holding : MethodName := ⟨RX8, "holding", "([I)I"⟩
abbrev cX8_holds : ByteArray := prog_10_method_65_code
def yX8_holds : MethodName := ⟨RX8, "holds", "()I"⟩
abbrev cX8_later : ByteArray := prog_10_method_66_code
def yX8_later : MethodName := ⟨RX8, "later", "(II)I"⟩
abbrev cX8_when : ByteArray := prog_10_method_67_code
def yX8_when : MethodName := ⟨RX8, "when", "(II)I"⟩
abbrev cX8_lowest : ByteArray := prog_10_method_68_code
def yX8_lowest : MethodName := ⟨RX8, "lowest", "([I)I"⟩
abbrev cX8_down : ByteArray := prog_10_method_69_code
def yX8_down : MethodName := ⟨RX8, "down", "()I"⟩
abbrev cX8_safe : ByteArray := prog_10_method_70_code
def yX8_safe : MethodName := ⟨RX8, "safe", "()I"⟩
abbrev cX8_loudest : ByteArray := prog_10_method_71_code
def yX8_loudest : MethodName := ⟨RX8, "loudest", "(I)I"⟩
abbrev cX8_lackOf : ByteArray := prog_10_method_72_code
def yX8_lackOf : MethodName := ⟨RX8, "lackOf", "(I)I"⟩
abbrev cX8_weakest : ByteArray := prog_10_method_73_code
def yX8_weakest : MethodName := ⟨RX8, "weakest", "()I"⟩
abbrev cX8_trades : ByteArray := prog_10_method_74_code
def yX8_trades : MethodName := ⟨RX8, "trades", "()I"⟩
abbrev cX8_holdBy : ByteArray := prog_10_method_75_code
def yX8_holdBy : MethodName := ⟨RX8, "holdBy", "(II)I"⟩
abbrev cX8_needs : ByteArray := prog_10_method_76_code
def yX8_needs : MethodName := ⟨RX8, "needs", "(I)I"⟩
abbrev cX8_isHeld : ByteArray := prog_10_method_77_code
def yX8_isHeld : MethodName := ⟨RX8, "isHeld", "(II)I"⟩
abbrev cX8_guards : ByteArray := prog_10_method_78_code
def yX8_guards : MethodName := ⟨RX8, "guards", "()I"⟩
abbrev cX8_sagsBehind : ByteArray := prog_10_method_79_code
def yX8_sagsBehind : MethodName := ⟨RX8, "sagsBehind", "(I)I"⟩
abbrev cX8_best : ByteArray := prog_10_method_80_code
def yX8_best : MethodName := ⟨RX8, "best", "(II)I"⟩
abbrev cX8_cheers : ByteArray := prog_10_method_81_code
def yX8_cheers : MethodName := ⟨RX8, "cheers", "(I)I"⟩
abbrev cX8_bears : ByteArray := prog_10_method_82_code
def yX8_bears : MethodName := ⟨RX8, "bears", "(I)I"⟩
abbrev cX8_goTrolley : ByteArray := prog_10_method_83_code
def yX8_goTrolley : MethodName := ⟨RX8, "goTrolley", "(I)I"⟩
abbrev cX8_trolley : ByteArray := prog_10_method_84_code
def yX8_trolley : MethodName := ⟨RX8, "trolley", "(I)I"⟩
abbrev cX8_depot : ByteArray := prog_10_method_85_code
def yX8_depot : MethodName := ⟨RX8, "depot", "()I"⟩
abbrev cX8_felt : ByteArray := prog_10_method_86_code
def yX8_felt : MethodName := ⟨RX8, "felt", "(II)I"⟩
abbrev cX8_forget : ByteArray := prog_10_method_87_code
def yX8_forget : MethodName := ⟨RX8, "forget", "()I"⟩
abbrev cX8_holdWithout : ByteArray := prog_10_method_88_code
def yX8_holdWithout : MethodName := ⟨RX8, "holdWithout", "(II)I"⟩
abbrev cX8_isFelt : ByteArray := prog_10_method_89_code
def yX8_isFelt : MethodName := ⟨RX8, "isFelt", "(I)Z"⟩
abbrev cX8_grieving : ByteArray := prog_10_method_90_code
def yX8_grieving : MethodName := ⟨RX8, "grieving", "()I"⟩
abbrev cX8_fits : ByteArray := prog_10_method_91_code
def yX8_fits : MethodName := ⟨RX8, "fits", "()I"⟩
abbrev cX8_feels : ByteArray := prog_10_method_92_code
def yX8_feels : MethodName := ⟨RX8, "feels", "()I"⟩
abbrev cX8_spread : ByteArray := prog_10_method_93_code
def yX8_spread : MethodName := ⟨RX8, "spread", "(I)I"⟩
abbrev cX8_spreads : ByteArray := prog_10_method_94_code
def yX8_spreads : MethodName := ⟨RX8, "spreads", "(II)I"⟩
abbrev cX8_heard : ByteArray := prog_10_method_95_code
def yX8_heard : MethodName := ⟨RX8, "heard", "(II)I"⟩
abbrev cX8_denies : ByteArray := prog_10_method_96_code
def yX8_denies : MethodName := ⟨RX8, "denies", "()I"⟩
abbrev cX8_isSo : ByteArray := prog_10_method_97_code
def yX8_isSo : MethodName := ⟨RX8, "isSo", "(III)Z"⟩
abbrev cX8_suiting : ByteArray := prog_10_method_98_code
def yX8_suiting : MethodName := ⟨RX8, "suiting", "()I"⟩
abbrev cX8_suits : ByteArray := prog_10_method_99_code
def yX8_suits : MethodName := ⟨RX8, "suits", "()I"⟩
abbrev cX8_asks : ByteArray := prog_10_method_100_code
def yX8_asks : MethodName := ⟨RX8, "asks", "()I"⟩
abbrev cX8_common : ByteArray := prog_10_method_101_code
def yX8_common : MethodName := ⟨RX8, "common", "(JJ)J"⟩
abbrev cX8_tellPart : ByteArray := prog_10_method_102_code
def yX8_tellPart : MethodName := ⟨RX8, "tellPart", "(JJ)I"⟩
abbrev cX8_partsOf : ByteArray := prog_10_method_103_code
def yX8_partsOf : MethodName := ⟨RX8, "partsOf", "(II)J"⟩
abbrev cX8_tens : ByteArray := prog_10_method_104_code
def yX8_tens : MethodName := ⟨RX8, "tens", "(I)J"⟩
abbrev cX8_odds : ByteArray := prog_10_method_105_code
def yX8_odds : MethodName := ⟨RX8, "odds", "(II)I"⟩
abbrev cX8_stands : ByteArray := prog_10_method_106_code
def yX8_stands : MethodName := ⟨RX8, "stands", "(I)I"⟩
abbrev cX8_litters : ByteArray := prog_10_method_107_code
def yX8_litters : MethodName := ⟨RX8, "litters", "(I)I"⟩
abbrev cX8_gets : ByteArray := prog_10_method_108_code
def yX8_gets : MethodName := ⟨RX8, "gets", "(III)I"⟩
abbrev cX8_isBest : ByteArray := prog_10_method_109_code
def yX8_isBest : MethodName := ⟨RX8, "isBest", "(III)Z"⟩
abbrev cX8_rests : ByteArray := prog_10_method_110_code
def yX8_rests : MethodName := ⟨RX8, "rests", "(I)I"⟩
abbrev cX8_law : ByteArray := prog_10_method_111_code
def yX8_law : MethodName := ⟨RX8, "law", "()I"⟩
abbrev cX8_draw : ByteArray := prog_10_method_112_code
def yX8_draw : MethodName := ⟨RX8, "draw", "(I)I"⟩
abbrev cX8_years : ByteArray := prog_10_method_113_code
def yX8_years : MethodName := ⟨RX8, "years", "(II)I"⟩
abbrev cX8_keep : ByteArray := prog_10_method_114_code
def yX8_keep : MethodName := ⟨RX8, "keep", "(I)Z"⟩
abbrev cX8_again : ByteArray := prog_10_method_115_code
def yX8_again : MethodName := ⟨RX8, "again", "(I)Z"⟩
abbrev cX8_count : ByteArray := prog_10_method_116_code
def yX8_count : MethodName := ⟨RX8, "count", "(I)I"⟩
abbrev cX8_row : ByteArray := prog_10_method_117_code
def yX8_row : MethodName := ⟨RX8, "row", "(I)J"⟩
def RJ6 : String := "java/lang/Integer"
abbrev cJ6_numberOfTrailingZeros_0f7a4 : ByteArray := prog_13_method_48_code
def yJ6_numberOfTrailingZeros_0f7a4 : MethodName := ⟨RJ6, "numberOfTrailingZeros", "(I)I"⟩
abbrev cJ6_bitCount_0f7a4 : ByteArray := prog_13_method_49_code
def yJ6_bitCount_0f7a4 : MethodName := ⟨RJ6, "bitCount", "(I)I"⟩
def RJ13 : String := "java/lang/Long"
abbrev cJ13_numberOfTrailingZeros_95d88 : ByteArray := prog_14_method_49_code
def yJ13_numberOfTrailingZeros_95d88 : MethodName := ⟨RJ13, "numberOfTrailingZeros", "(J)I"⟩
def RJ9 : String := "java/lang/Math"
abbrev cJ9_abs_0f7a4 : ByteArray := prog_15_method_59_code
def yJ9_abs_0f7a4 : MethodName := ⟨RJ9, "abs", "(I)I"⟩
abbrev cJ9_max_7cf53 : ByteArray := prog_15_method_65_code
def yJ9_max_7cf53 : MethodName := ⟨RJ9, "max", "(II)I"⟩
abbrev cJ9_min_7cf53 : ByteArray := prog_15_method_69_code
def yJ9_min_7cf53 : MethodName := ⟨RJ9, "min", "(II)I"⟩
def RL : String := "PurringHoldsLaw"
abbrev cL_arch : ByteArray := method_3_code
def yL_arch : MethodName := ⟨RL, "arch", "(LPurringHolds;II[J)I"⟩
abbrev cL_cat : ByteArray := method_4_code
def yL_cat : MethodName := ⟨RL, "cat", "(LPurringHolds;II[J)I"⟩
abbrev cL_row : ByteArray := method_5_code
def yL_row : MethodName := ⟨RL, "row", "(LPurringHolds;I[J)I"⟩
abbrev cL_law : ByteArray := code
def yL_law : MethodName := ⟨RL, "law", "([I)Z"⟩
