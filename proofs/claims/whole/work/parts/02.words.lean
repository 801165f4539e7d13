/-- the words of the tables that every call of the machine leaves true -/
def gw : List Cond := lw_tbl.filter goodWord
theorem gw_in {w : Cond} (h : w ∈ tables_1) (hg : goodWord w = true) : w ∈ gw := List.mem_filter.mpr ⟨List.mem_append_right _ h, hg⟩
theorem gw_sel {w : Cond} (h : w ∈ k2_sels lw_privs) (hg : goodWord w = true) : w ∈ gw := List.mem_filter.mpr ⟨List.mem_append_left _ h, hg⟩
theorem gw_good {c : Cond} (hc : c ∈ gw) : GoodIn gw (c :: gw) := fun w hw => by
  have h : w ∈ gw := (List.mem_cons.mp hw).elim (fun e => e ▸ hc) id
  exact ⟨h, good_of_word (List.mem_filter.mp h).2⟩
theorem tb_1 {w : Cond} (h : w ∈ tables_1_1) : w ∈ tables_1 := List.mem_append_left _ h
theorem tb_2 {w : Cond} (h : w ∈ tables_1_2) : w ∈ tables_1 := List.mem_append_right _ (List.mem_append_left _ h)
theorem tb_3 {w : Cond} (h : w ∈ tables_1_3) : w ∈ tables_1 := List.mem_append_right _ (List.mem_append_right _ (List.mem_append_left _ h))
theorem tb_4 {w : Cond} (h : w ∈ tables_1_4) : w ∈ tables_1 := List.mem_append_right _ (List.mem_append_right _ (List.mem_append_right _ (List.mem_append_left _ h)))
theorem tb_5 {w : Cond} (h : w ∈ tables_1_5) : w ∈ tables_1 := List.mem_append_right _ (List.mem_append_right _ (List.mem_append_right _ (List.mem_append_right _ (List.mem_append_left _ h))))
theorem tb_6 {w : Cond} (h : w ∈ tables_1_6) : w ∈ tables_1 := List.mem_append_right _ (List.mem_append_right _ (List.mem_append_right _ (List.mem_append_right _ (List.mem_append_right _ (List.mem_append_left _ h)))))
theorem tb_7 {w : Cond} (h : w ∈ tables_1_7) : w ∈ tables_1 := List.mem_append_right _ (List.mem_append_right _ (List.mem_append_right _ (List.mem_append_right _ (List.mem_append_right _ (List.mem_append_right _ h)))))
theorem w1_0 : Cond.initialized RL ∈ gw := gw_in (tb_1 (List.mem_of_getElem? (i := 0) rfl)) rfl
theorem w1_1 : Cond.initialized RX7 ∈ gw := gw_in (tb_1 (List.mem_of_getElem? (i := 1) rfl)) rfl
theorem w1_2 : Cond.initialized RX5 ∈ gw := gw_in (tb_1 (List.mem_of_getElem? (i := 2) rfl)) rfl
theorem w1_3 : Cond.initialized RX3 ∈ gw := gw_in (tb_1 (List.mem_of_getElem? (i := 3) rfl)) rfl
theorem w1_4 : Cond.initialized RX6 ∈ gw := gw_in (tb_1 (List.mem_of_getElem? (i := 4) rfl)) rfl
theorem w1_5 : Cond.initialized RX2 ∈ gw := gw_in (tb_1 (List.mem_of_getElem? (i := 5) rfl)) rfl
theorem w1_6 : Cond.initialized RX1 ∈ gw := gw_in (tb_1 (List.mem_of_getElem? (i := 6) rfl)) rfl
theorem w1_7 : Cond.initialized RX0 ∈ gw := gw_in (tb_1 (List.mem_of_getElem? (i := 7) rfl)) rfl
theorem w1_8 : Cond.initialized RX4 ∈ gw := gw_in (tb_1 (List.mem_of_getElem? (i := 8) rfl)) rfl
theorem w1_9 : Cond.initialized RX8 ∈ gw := gw_in (tb_1 (List.mem_of_getElem? (i := 9) rfl)) rfl
theorem w1_10 : Cond.initialized "java/lang/Number" ∈ gw := gw_in (tb_1 (List.mem_of_getElem? (i := 10) rfl)) rfl
theorem w1_11 : Cond.initialized RJ6 ∈ gw := gw_in (tb_1 (List.mem_of_getElem? (i := 11) rfl)) rfl
theorem w1_12 : Cond.initialized RJ9 ∈ gw := gw_in (tb_1 (List.mem_of_getElem? (i := 12) rfl)) rfl
theorem w1_13 : Cond.initialized "java/lang/Throwable" ∈ gw := gw_in (tb_1 (List.mem_of_getElem? (i := 13) rfl)) rfl
theorem w1_14 : Cond.initialized "java/lang/Exception" ∈ gw := gw_in (tb_1 (List.mem_of_getElem? (i := 14) rfl)) rfl
theorem w1_15 : Cond.initialized "java/lang/RuntimeException" ∈ gw := gw_in (tb_1 (List.mem_of_getElem? (i := 15) rfl)) rfl
theorem w1_16 : Cond.initialized "java/util/NoSuchElementException" ∈ gw := gw_in (tb_1 (List.mem_of_getElem? (i := 16) rfl)) rfl
theorem w1_17 : Cond.initialized "java/lang/System" ∈ gw := gw_in (tb_1 (List.mem_of_getElem? (i := 17) rfl)) rfl
theorem w1_18 : Cond.initialized RJ13 ∈ gw := gw_in (tb_1 (List.mem_of_getElem? (i := 18) rfl)) rfl
theorem w1_19 : Cond.classLink RL 8 RX7 ∈ gw := gw_in (tb_1 (List.mem_of_getElem? (i := 19) rfl)) rfl
theorem w1_20 : Cond.instantiable RX7 16 ∈ gw := gw_in (tb_1 (List.mem_of_getElem? (i := 20) rfl)) rfl
theorem w1_21 : Cond.methodLink RL 22 yX7_init ∈ gw := gw_in (tb_1 (List.mem_of_getElem? (i := 21) rfl)) rfl
theorem w1_22 : Cond.instanceMethod yX7_init ∈ gw := gw_in (tb_1 (List.mem_of_getElem? (i := 22) rfl)) rfl
theorem w1_23 : Cond.code yX7_init cX7_init 1 none ∈ gw := gw_in (tb_1 (List.mem_of_getElem? (i := 23) rfl)) rfl
theorem w1_24 : Cond.methodLink RX7 1 ⟨"java/lang/Object", "<init>", "()V"⟩ ∈ gw := gw_in (tb_1 (List.mem_of_getElem? (i := 24) rfl)) rfl
theorem w1_25 : Cond.instanceMethod ⟨"java/lang/Object", "<init>", "()V"⟩ ∈ gw := gw_in (tb_1 (List.mem_of_getElem? (i := 25) rfl)) rfl
theorem w1_26 : Cond.code ⟨"java/lang/Object", "<init>", "()V"⟩ object_method_1_code 1 none ∈ gw := gw_in (tb_1 (List.mem_of_getElem? (i := 26) rfl)) rfl
theorem w1_27 : Cond.classLink RX7 7 RX5 ∈ gw := gw_in (tb_1 (List.mem_of_getElem? (i := 27) rfl)) rfl
theorem w1_28 : Cond.instantiable RX5 2 ∈ gw := gw_in (tb_1 (List.mem_of_getElem? (i := 28) rfl)) rfl
theorem w1_30 : Cond.instanceMethod yX5_init ∈ gw := gw_in (tb_1 (List.mem_of_getElem? (i := 30) rfl)) rfl
theorem w1_31 : Cond.code yX5_init cX5_init 1 none ∈ gw := gw_in (tb_1 (List.mem_of_getElem? (i := 31) rfl)) rfl
theorem w1_32 : Cond.methodLink RX5 3 ⟨"java/lang/Object", "<init>", "()V"⟩ ∈ gw := gw_in (tb_1 (List.mem_of_getElem? (i := 32) rfl)) rfl
theorem w1_33 : Cond.fieldLink RX5 9 "PurringHolds$Text" "signs" "[C" ∈ gw := gw_in (tb_1 (List.mem_of_getElem? (i := 33) rfl)) rfl
theorem w1_34 : Cond.fieldLink RX5 15 "PurringHolds$Text" "length" "I" ∈ gw := gw_in (tb_1 (List.mem_of_getElem? (i := 34) rfl)) rfl
theorem w1_35 : Cond.fieldLink RX4 28 "PurringHolds$Text" "length" "I" ∈ gw := gw_in (tb_1 (List.mem_of_getElem? (i := 35) rfl)) rfl
theorem w1_36 : Cond.fieldLink RX7 94 "PurringHolds$Text" "length" "I" ∈ gw := gw_in (tb_1 (List.mem_of_getElem? (i := 36) rfl)) rfl
theorem w1_37 : Cond.laysFinal RX5 "PurringHolds$Text" "signs" "[C" ∈ gw := gw_in (tb_1 (List.mem_of_getElem? (i := 37) rfl)) rfl
theorem w1_39 : Cond.lays RX5 "PurringHolds$Text" "length" "I" ∈ gw := gw_in (tb_1 (List.mem_of_getElem? (i := 39) rfl)) rfl
theorem w1_42 : Cond.arrayClass .char ∈ gw := gw_in (tb_1 (List.mem_of_getElem? (i := 42) rfl)) rfl
theorem w1_43 : Cond.classLink RX7 16 RX3 ∈ gw := gw_in (tb_1 (List.mem_of_getElem? (i := 43) rfl)) rfl
theorem w1_44 : Cond.instantiable RX3 2 ∈ gw := gw_in (tb_1 (List.mem_of_getElem? (i := 44) rfl)) rfl
theorem w1_46 : Cond.instanceMethod yX3_init ∈ gw := gw_in (tb_1 (List.mem_of_getElem? (i := 46) rfl)) rfl
theorem w1_47 : Cond.code yX3_init cX3_init 1 none ∈ gw := gw_in (tb_1 (List.mem_of_getElem? (i := 47) rfl)) rfl
theorem w1_48 : Cond.methodLink RX3 3 ⟨"java/lang/Object", "<init>", "()V"⟩ ∈ gw := gw_in (tb_1 (List.mem_of_getElem? (i := 48) rfl)) rfl
theorem w1_49 : Cond.fieldLink RX3 9 "PurringHolds$Row" "numbers" "[J" ∈ gw := gw_in (tb_1 (List.mem_of_getElem? (i := 49) rfl)) rfl
theorem w1_50 : Cond.fieldLink RX7 397 "PurringHolds$Row" "numbers" "[J" ∈ gw := gw_in (tb_1 (List.mem_of_getElem? (i := 50) rfl)) rfl
theorem w1_51 : Cond.fieldLink RX3 15 "PurringHolds$Row" "size" "I" ∈ gw := gw_in (tb_1 (List.mem_of_getElem? (i := 51) rfl)) rfl
theorem w1_52 : Cond.fieldLink RX7 396 "PurringHolds$Row" "size" "I" ∈ gw := gw_in (tb_1 (List.mem_of_getElem? (i := 52) rfl)) rfl
theorem w1_53 : Cond.laysFinal RX3 "PurringHolds$Row" "numbers" "[J" ∈ gw := gw_in (tb_1 (List.mem_of_getElem? (i := 53) rfl)) rfl
theorem w1_55 : Cond.lays RX3 "PurringHolds$Row" "size" "I" ∈ gw := gw_in (tb_1 (List.mem_of_getElem? (i := 55) rfl)) rfl
theorem w1_58 : Cond.arrayClass .long ∈ gw := gw_in (tb_1 (List.mem_of_getElem? (i := 58) rfl)) rfl
theorem w1_59 : Cond.classLink RX7 23 RX6 ∈ gw := gw_in (tb_1 (List.mem_of_getElem? (i := 59) rfl)) rfl
theorem w1_60 : Cond.instantiable RX6 11 ∈ gw := gw_in (tb_1 (List.mem_of_getElem? (i := 60) rfl)) rfl
theorem w1_62 : Cond.instanceMethod yX6_init ∈ gw := gw_in (tb_1 (List.mem_of_getElem? (i := 62) rfl)) rfl
theorem w1_63 : Cond.code yX6_init cX6_init 1 none ∈ gw := gw_in (tb_1 (List.mem_of_getElem? (i := 63) rfl)) rfl
theorem w1_64 : Cond.methodLink RX6 3 ⟨"java/lang/Object", "<init>", "()V"⟩ ∈ gw := gw_in (tb_1 (List.mem_of_getElem? (i := 64) rfl)) rfl
theorem w1_65 : Cond.fieldLink RX6 9 "PurringHolds$Viaduct" "load" "[I" ∈ gw := gw_in (tb_1 (List.mem_of_getElem? (i := 65) rfl)) rfl
theorem w1_66 : Cond.fieldLink RX7 140 "PurringHolds$Viaduct" "load" "[I" ∈ gw := gw_in (tb_1 (List.mem_of_getElem? (i := 66) rfl)) rfl
theorem w1_67 : Cond.fieldLink RX6 15 "PurringHolds$Viaduct" "sag" "[I" ∈ gw := gw_in (tb_1 (List.mem_of_getElem? (i := 67) rfl)) rfl
theorem w1_68 : Cond.fieldLink RX7 143 "PurringHolds$Viaduct" "sag" "[I" ∈ gw := gw_in (tb_1 (List.mem_of_getElem? (i := 68) rfl)) rfl
theorem w1_69 : Cond.fieldLink RX6 18 "PurringHolds$Viaduct" "joy" "[I" ∈ gw := gw_in (tb_1 (List.mem_of_getElem? (i := 69) rfl)) rfl
theorem w1_70 : Cond.fieldLink RX7 159 "PurringHolds$Viaduct" "joy" "[I" ∈ gw := gw_in (tb_1 (List.mem_of_getElem? (i := 70) rfl)) rfl
theorem w1_71 : Cond.fieldLink RX6 21 "PurringHolds$Viaduct" "bowl" "[I" ∈ gw := gw_in (tb_1 (List.mem_of_getElem? (i := 71) rfl)) rfl
theorem w1_72 : Cond.fieldLink RX7 162 "PurringHolds$Viaduct" "bowl" "[I" ∈ gw := gw_in (tb_1 (List.mem_of_getElem? (i := 72) rfl)) rfl
theorem w1_73 : Cond.fieldLink RX6 24 "PurringHolds$Viaduct" "grief" "[I" ∈ gw := gw_in (tb_1 (List.mem_of_getElem? (i := 73) rfl)) rfl
theorem w1_74 : Cond.fieldLink RX7 165 "PurringHolds$Viaduct" "grief" "[I" ∈ gw := gw_in (tb_1 (List.mem_of_getElem? (i := 74) rfl)) rfl
theorem w1_75 : Cond.fieldLink RX6 27 "PurringHolds$Viaduct" "place" "[I" ∈ gw := gw_in (tb_1 (List.mem_of_getElem? (i := 75) rfl)) rfl
theorem w1_76 : Cond.fieldLink RX7 168 "PurringHolds$Viaduct" "place" "[I" ∈ gw := gw_in (tb_1 (List.mem_of_getElem? (i := 76) rfl)) rfl
theorem w1_77 : Cond.fieldLink RX6 34 "PurringHolds$Viaduct" "arches" "I" ∈ gw := gw_in (tb_1 (List.mem_of_getElem? (i := 77) rfl)) rfl
theorem w1_78 : Cond.fieldLink RX7 98 "PurringHolds$Viaduct" "arches" "I" ∈ gw := gw_in (tb_1 (List.mem_of_getElem? (i := 78) rfl)) rfl
theorem w1_79 : Cond.fieldLink RX6 37 "PurringHolds$Viaduct" "cats" "I" ∈ gw := gw_in (tb_1 (List.mem_of_getElem? (i := 79) rfl)) rfl
theorem w1_80 : Cond.fieldLink RX7 118 "PurringHolds$Viaduct" "cats" "I" ∈ gw := gw_in (tb_1 (List.mem_of_getElem? (i := 80) rfl)) rfl
theorem w1_81 : Cond.fieldLink RX6 30 "PurringHolds$Viaduct" "store" "I" ∈ gw := gw_in (tb_1 (List.mem_of_getElem? (i := 81) rfl)) rfl
theorem w1_82 : Cond.fieldLink RX7 384 "PurringHolds$Viaduct" "store" "I" ∈ gw := gw_in (tb_1 (List.mem_of_getElem? (i := 82) rfl)) rfl
theorem w1_83 : Cond.fieldLink RX6 40 "PurringHolds$Viaduct" "hour" "I" ∈ gw := gw_in (tb_1 (List.mem_of_getElem? (i := 83) rfl)) rfl
theorem w1_84 : Cond.fieldLink RX7 390 "PurringHolds$Viaduct" "hour" "I" ∈ gw := gw_in (tb_1 (List.mem_of_getElem? (i := 84) rfl)) rfl
theorem w1_85 : Cond.fieldLink RX6 43 "PurringHolds$Viaduct" "drops" "I" ∈ gw := gw_in (tb_1 (List.mem_of_getElem? (i := 85) rfl)) rfl
theorem w1_86 : Cond.fieldLink RX7 393 "PurringHolds$Viaduct" "drops" "I" ∈ gw := gw_in (tb_1 (List.mem_of_getElem? (i := 86) rfl)) rfl
theorem w1_87 : Cond.laysFinal RX6 "PurringHolds$Viaduct" "load" "[I" ∈ gw := gw_in (tb_1 (List.mem_of_getElem? (i := 87) rfl)) rfl
theorem w1_89 : Cond.laysFinal RX6 "PurringHolds$Viaduct" "sag" "[I" ∈ gw := gw_in (tb_1 (List.mem_of_getElem? (i := 89) rfl)) rfl
theorem w1_91 : Cond.laysFinal RX6 "PurringHolds$Viaduct" "joy" "[I" ∈ gw := gw_in (tb_1 (List.mem_of_getElem? (i := 91) rfl)) rfl
theorem w1_93 : Cond.laysFinal RX6 "PurringHolds$Viaduct" "bowl" "[I" ∈ gw := gw_in (tb_1 (List.mem_of_getElem? (i := 93) rfl)) rfl
theorem w1_95 : Cond.laysFinal RX6 "PurringHolds$Viaduct" "grief" "[I" ∈ gw := gw_in (tb_1 (List.mem_of_getElem? (i := 95) rfl)) rfl
theorem w1_97 : Cond.laysFinal RX6 "PurringHolds$Viaduct" "place" "[I" ∈ gw := gw_in (tb_1 (List.mem_of_getElem? (i := 97) rfl)) rfl
theorem w1_99 : Cond.lays RX6 "PurringHolds$Viaduct" "arches" "I" ∈ gw := gw_in (tb_1 (List.mem_of_getElem? (i := 99) rfl)) rfl
theorem w1_101 : Cond.lays RX6 "PurringHolds$Viaduct" "cats" "I" ∈ gw := gw_in (tb_1 (List.mem_of_getElem? (i := 101) rfl)) rfl
theorem w1_103 : Cond.lays RX6 "PurringHolds$Viaduct" "store" "I" ∈ gw := gw_in (tb_1 (List.mem_of_getElem? (i := 103) rfl)) rfl
theorem w1_105 : Cond.lays RX6 "PurringHolds$Viaduct" "hour" "I" ∈ gw := gw_in (tb_1 (List.mem_of_getElem? (i := 105) rfl)) rfl
theorem w1_107 : Cond.lays RX6 "PurringHolds$Viaduct" "drops" "I" ∈ gw := gw_in (tb_1 (List.mem_of_getElem? (i := 107) rfl)) rfl
theorem w1_110 : Cond.arrayClass .int ∈ gw := gw_in (tb_1 (List.mem_of_getElem? (i := 110) rfl)) rfl
theorem w1_111 : Cond.classLink RX7 36 RX2 ∈ gw := gw_in (tb_1 (List.mem_of_getElem? (i := 111) rfl)) rfl
theorem w1_112 : Cond.instantiable RX2 3 ∈ gw := gw_in (tb_1 (List.mem_of_getElem? (i := 112) rfl)) rfl
theorem w1_114 : Cond.instanceMethod yX2_init ∈ gw := gw_in (tb_1 (List.mem_of_getElem? (i := 114) rfl)) rfl
theorem w1_115 : Cond.code yX2_init cX2_init 1 none ∈ gw := gw_in (tb_1 (List.mem_of_getElem? (i := 115) rfl)) rfl
theorem w1_116 : Cond.methodLink RX2 3 ⟨"java/lang/Object", "<init>", "()V"⟩ ∈ gw := gw_in (tb_1 (List.mem_of_getElem? (i := 116) rfl)) rfl
theorem w1_117 : Cond.classLink RX2 9 RX6 ∈ gw := gw_in (tb_1 (List.mem_of_getElem? (i := 117) rfl)) rfl
theorem w1_119 : Cond.fieldLink RX2 11 "PurringHolds$Past" "ring" "[LPurringHolds$Viaduct;" ∈ gw := gw_in (tb_1 (List.mem_of_getElem? (i := 119) rfl)) rfl
theorem w1_120 : Cond.fieldLink RX2 17 "PurringHolds$Past" "next" "I" ∈ gw := gw_in (tb_1 (List.mem_of_getElem? (i := 120) rfl)) rfl
theorem w1_121 : Cond.fieldLink RX2 26 "PurringHolds$Past" "size" "I" ∈ gw := gw_in (tb_1 (List.mem_of_getElem? (i := 121) rfl)) rfl
theorem w1_122 : Cond.fieldLink RX7 125 "PurringHolds$Past" "size" "I" ∈ gw := gw_in (tb_1 (List.mem_of_getElem? (i := 122) rfl)) rfl
theorem w1_123 : Cond.laysFinal RX2 "PurringHolds$Past" "ring" "[LPurringHolds$Viaduct;" ∈ gw := gw_in (tb_1 (List.mem_of_getElem? (i := 123) rfl)) rfl
theorem w1_125 : Cond.lays RX2 "PurringHolds$Past" "next" "I" ∈ gw := gw_in (tb_1 (List.mem_of_getElem? (i := 125) rfl)) rfl
theorem w1_127 : Cond.lays RX2 "PurringHolds$Past" "size" "I" ∈ gw := gw_in (tb_1 (List.mem_of_getElem? (i := 127) rfl)) rfl
theorem w1_130 : Cond.classLink RX7 47 RX1 ∈ gw := gw_in (tb_1 (List.mem_of_getElem? (i := 130) rfl)) rfl
theorem w1_131 : Cond.instantiable RX1 4 ∈ gw := gw_in (tb_1 (List.mem_of_getElem? (i := 131) rfl)) rfl
theorem w1_132 : Cond.methodLink RX7 49 yX1_init ∈ gw := gw_in (tb_1 (List.mem_of_getElem? (i := 132) rfl)) rfl
theorem w1_133 : Cond.instanceMethod yX1_init ∈ gw := gw_in (tb_1 (List.mem_of_getElem? (i := 133) rfl)) rfl
theorem w1_134 : Cond.code yX1_init cX1_init 2 none ∈ gw := gw_in (tb_1 (List.mem_of_getElem? (i := 134) rfl)) rfl
theorem w1_135 : Cond.methodLink RX1 3 ⟨"java/lang/Object", "<init>", "()V"⟩ ∈ gw := gw_in (tb_1 (List.mem_of_getElem? (i := 135) rfl)) rfl
theorem w1_136 : Cond.fieldLink RX1 9 "PurringHolds$Notes" "first" "[I" ∈ gw := gw_in (tb_1 (List.mem_of_getElem? (i := 136) rfl)) rfl
theorem w1_137 : Cond.fieldLink RX7 323 "PurringHolds$Notes" "first" "[I" ∈ gw := gw_in (tb_1 (List.mem_of_getElem? (i := 137) rfl)) rfl
theorem w1_138 : Cond.fieldLink RX1 15 "PurringHolds$Notes" "second" "[I" ∈ gw := gw_in (tb_1 (List.mem_of_getElem? (i := 138) rfl)) rfl
theorem w1_139 : Cond.fieldLink RX7 329 "PurringHolds$Notes" "second" "[I" ∈ gw := gw_in (tb_1 (List.mem_of_getElem? (i := 139) rfl)) rfl
theorem w1_140 : Cond.fieldLink RX1 18 "PurringHolds$Notes" "most" "I" ∈ gw := gw_in (tb_1 (List.mem_of_getElem? (i := 140) rfl)) rfl
theorem w1_141 : Cond.fieldLink RX1 22 "PurringHolds$Notes" "size" "I" ∈ gw := gw_in (tb_1 (List.mem_of_getElem? (i := 141) rfl)) rfl
theorem w1_142 : Cond.fieldLink RX7 322 "PurringHolds$Notes" "size" "I" ∈ gw := gw_in (tb_1 (List.mem_of_getElem? (i := 142) rfl)) rfl
theorem w1_143 : Cond.laysFinal RX1 "PurringHolds$Notes" "first" "[I" ∈ gw := gw_in (tb_1 (List.mem_of_getElem? (i := 143) rfl)) rfl
theorem w1_145 : Cond.laysFinal RX1 "PurringHolds$Notes" "second" "[I" ∈ gw := gw_in (tb_1 (List.mem_of_getElem? (i := 145) rfl)) rfl
theorem w1_147 : Cond.laysFinal RX1 "PurringHolds$Notes" "most" "I" ∈ gw := gw_in (tb_1 (List.mem_of_getElem? (i := 147) rfl)) rfl
theorem w1_149 : Cond.lays RX1 "PurringHolds$Notes" "size" "I" ∈ gw := gw_in (tb_1 (List.mem_of_getElem? (i := 149) rfl)) rfl
theorem w1_152 : Cond.classLink RX7 59 RX0 ∈ gw := gw_in (tb_1 (List.mem_of_getElem? (i := 152) rfl)) rfl
theorem w1_153 : Cond.instantiable RX0 1 ∈ gw := gw_in (tb_1 (List.mem_of_getElem? (i := 153) rfl)) rfl
theorem w1_155 : Cond.instanceMethod yX0_init ∈ gw := gw_in (tb_1 (List.mem_of_getElem? (i := 155) rfl)) rfl
theorem w1_156 : Cond.code yX0_init cX0_init 1 none ∈ gw := gw_in (tb_1 (List.mem_of_getElem? (i := 156) rfl)) rfl
theorem w1_157 : Cond.methodLink RX0 1 ⟨"java/lang/Object", "<init>", "()V"⟩ ∈ gw := gw_in (tb_1 (List.mem_of_getElem? (i := 157) rfl)) rfl
theorem w1_158 : Cond.fieldLink RX0 7 "PurringHolds$Draws" "last" "I" ∈ gw := gw_in (tb_1 (List.mem_of_getElem? (i := 158) rfl)) rfl
theorem w1_159 : Cond.fieldLink RX7 378 "PurringHolds$Draws" "last" "I" ∈ gw := gw_in (tb_1 (List.mem_of_getElem? (i := 159) rfl)) rfl
theorem w1_160 : Cond.lays RX0 "PurringHolds$Draws" "last" "I" ∈ gw := gw_in (tb_1 (List.mem_of_getElem? (i := 160) rfl)) rfl
theorem w1_163 : Cond.classLink RX7 80 RX4 ∈ gw := gw_in (tb_1 (List.mem_of_getElem? (i := 163) rfl)) rfl
theorem w1_164 : Cond.instantiable RX4 8 ∈ gw := gw_in (tb_1 (List.mem_of_getElem? (i := 164) rfl)) rfl
theorem w1_165 : Cond.methodLink RX7 82 yX4_init ∈ gw := gw_in (tb_1 (List.mem_of_getElem? (i := 165) rfl)) rfl
theorem w1_166 : Cond.instanceMethod yX4_init ∈ gw := gw_in (tb_1 (List.mem_of_getElem? (i := 166) rfl)) rfl
theorem w1_167 : Cond.code yX4_init cX4_init 1 none ∈ gw := gw_in (tb_1 (List.mem_of_getElem? (i := 167) rfl)) rfl
theorem w1_168 : Cond.methodLink RX4 3 ⟨"java/lang/Object", "<init>", "()V"⟩ ∈ gw := gw_in (tb_1 (List.mem_of_getElem? (i := 168) rfl)) rfl
theorem w1_169 : Cond.methodLink RX4 18 yX4_bePlain ∈ gw := gw_in (tb_1 (List.mem_of_getElem? (i := 169) rfl)) rfl
theorem w1_171 : Cond.instanceMethod yX4_bePlain ∈ gw := gw_in (tb_1 (List.mem_of_getElem? (i := 171) rfl)) rfl
theorem w1_172 : Cond.code yX4_bePlain cX4_bePlain 1 none ∈ gw := gw_in (tb_1 (List.mem_of_getElem? (i := 172) rfl)) rfl
theorem w1_173 : Cond.methodLink RX4 21 yX4_addStep ∈ gw := gw_in (tb_1 (List.mem_of_getElem? (i := 173) rfl)) rfl
theorem w1_175 : Cond.instanceMethod yX4_addStep ∈ gw := gw_in (tb_1 (List.mem_of_getElem? (i := 175) rfl)) rfl
theorem w1_176 : Cond.code yX4_addStep cX4_addStep 2 none ∈ gw := gw_in (tb_1 (List.mem_of_getElem? (i := 176) rfl)) rfl
theorem w1_177 : Cond.fieldLink RX4 9 "PurringHolds$Rule" "steps" "[I" ∈ gw := gw_in (tb_1 (List.mem_of_getElem? (i := 177) rfl)) rfl
theorem w1_178 : Cond.fieldLink RX4 15 "PurringHolds$Rule" "stack" "[I" ∈ gw := gw_in (tb_1 (List.mem_of_getElem? (i := 178) rfl)) rfl
theorem w1_179 : Cond.fieldLink RX4 52 "PurringHolds$Rule" "size" "I" ∈ gw := gw_in (tb_1 (List.mem_of_getElem? (i := 179) rfl)) rfl
theorem w1_180 : Cond.fieldLink RX4 55 "PurringHolds$Rule" "top" "I" ∈ gw := gw_in (tb_1 (List.mem_of_getElem? (i := 180) rfl)) rfl
theorem w1_181 : Cond.fieldLink RX4 46 "PurringHolds$Rule" "open" "I" ∈ gw := gw_in (tb_1 (List.mem_of_getElem? (i := 181) rfl)) rfl
theorem w1_182 : Cond.fieldLink RX4 58 "PurringHolds$Rule" "compared" "I" ∈ gw := gw_in (tb_1 (List.mem_of_getElem? (i := 182) rfl)) rfl
theorem w1_183 : Cond.fieldLink RX4 61 "PurringHolds$Rule" "digits" "I" ∈ gw := gw_in (tb_1 (List.mem_of_getElem? (i := 183) rfl)) rfl
theorem w1_184 : Cond.fieldLink RX4 42 "PurringHolds$Rule" "wantsThing" "Z" ∈ gw := gw_in (tb_1 (List.mem_of_getElem? (i := 184) rfl)) rfl
theorem w1_185 : Cond.laysFinal RX4 "PurringHolds$Rule" "steps" "[I" ∈ gw := gw_in (tb_1 (List.mem_of_getElem? (i := 185) rfl)) rfl
theorem w1_187 : Cond.laysFinal RX4 "PurringHolds$Rule" "stack" "[I" ∈ gw := gw_in (tb_1 (List.mem_of_getElem? (i := 187) rfl)) rfl
theorem w1_189 : Cond.lays RX4 "PurringHolds$Rule" "size" "I" ∈ gw := gw_in (tb_1 (List.mem_of_getElem? (i := 189) rfl)) rfl
theorem w1_191 : Cond.lays RX4 "PurringHolds$Rule" "top" "I" ∈ gw := gw_in (tb_1 (List.mem_of_getElem? (i := 191) rfl)) rfl
theorem w1_193 : Cond.lays RX4 "PurringHolds$Rule" "open" "I" ∈ gw := gw_in (tb_1 (List.mem_of_getElem? (i := 193) rfl)) rfl
theorem w1_195 : Cond.lays RX4 "PurringHolds$Rule" "compared" "I" ∈ gw := gw_in (tb_1 (List.mem_of_getElem? (i := 195) rfl)) rfl
theorem w1_197 : Cond.lays RX4 "PurringHolds$Rule" "digits" "I" ∈ gw := gw_in (tb_1 (List.mem_of_getElem? (i := 197) rfl)) rfl
theorem w1_199 : Cond.lays RX4 "PurringHolds$Rule" "wantsThing" "Z" ∈ gw := gw_in (tb_1 (List.mem_of_getElem? (i := 199) rfl)) rfl
theorem w1_202 : Cond.fieldLink RX7 10 "PurringHolds" "text" "LPurringHolds$Text;" ∈ gw := gw_in (tb_1 (List.mem_of_getElem? (i := 202) rfl)) rfl
theorem w1_203 : Cond.fieldLink RX7 19 "PurringHolds" "told" "LPurringHolds$Row;" ∈ gw := gw_in (tb_1 (List.mem_of_getElem? (i := 203) rfl)) rfl
theorem w1_204 : Cond.fieldLink RX7 26 "PurringHolds" "now" "LPurringHolds$Viaduct;" ∈ gw := gw_in (tb_1 (List.mem_of_getElem? (i := 204) rfl)) rfl
theorem w1_205 : Cond.fieldLink RX7 30 "PurringHolds" "before" "LPurringHolds$Viaduct;" ∈ gw := gw_in (tb_1 (List.mem_of_getElem? (i := 205) rfl)) rfl
theorem w1_206 : Cond.fieldLink RX7 33 "PurringHolds" "trial" "LPurringHolds$Viaduct;" ∈ gw := gw_in (tb_1 (List.mem_of_getElem? (i := 206) rfl)) rfl
theorem w1_207 : Cond.fieldLink RX7 39 "PurringHolds" "past" "LPurringHolds$Past;" ∈ gw := gw_in (tb_1 (List.mem_of_getElem? (i := 207) rfl)) rfl
theorem w1_208 : Cond.fieldLink RX7 43 "PurringHolds" "kept" "[LPurringHolds$Viaduct;" ∈ gw := gw_in (tb_1 (List.mem_of_getElem? (i := 208) rfl)) rfl
theorem w1_209 : Cond.fieldLink RX7 52 "PurringHolds" "feltNotes" "LPurringHolds$Notes;" ∈ gw := gw_in (tb_1 (List.mem_of_getElem? (i := 209) rfl)) rfl
theorem w1_210 : Cond.fieldLink RX7 56 "PurringHolds" "heardNotes" "LPurringHolds$Notes;" ∈ gw := gw_in (tb_1 (List.mem_of_getElem? (i := 210) rfl)) rfl
theorem w1_211 : Cond.fieldLink RX7 62 "PurringHolds" "draws" "LPurringHolds$Draws;" ∈ gw := gw_in (tb_1 (List.mem_of_getElem? (i := 211) rfl)) rfl
theorem w1_212 : Cond.fieldLink RX7 66 "PurringHolds" "purrs" "[I" ∈ gw := gw_in (tb_1 (List.mem_of_getElem? (i := 212) rfl)) rfl
theorem w1_213 : Cond.fieldLink RX7 70 "PurringHolds" "alone" "[I" ∈ gw := gw_in (tb_1 (List.mem_of_getElem? (i := 213) rfl)) rfl
theorem w1_214 : Cond.fieldLink RX7 73 "PurringHolds" "nimbers" "[I" ∈ gw := gw_in (tb_1 (List.mem_of_getElem? (i := 214) rfl)) rfl
theorem w1_215 : Cond.fieldLink RX7 76 "PurringHolds" "ways" "[J" ∈ gw := gw_in (tb_1 (List.mem_of_getElem? (i := 215) rfl)) rfl
theorem w1_216 : Cond.fieldLink RX7 83 "PurringHolds" "ruling" "LPurringHolds$Rule;" ∈ gw := gw_in (tb_1 (List.mem_of_getElem? (i := 216) rfl)) rfl
theorem w1_217 : Cond.fieldLink RX7 87 "PurringHolds" "spare" "LPurringHolds$Rule;" ∈ gw := gw_in (tb_1 (List.mem_of_getElem? (i := 217) rfl)) rfl
theorem w1_218 : Cond.laysFinal RX7 "PurringHolds" "text" "LPurringHolds$Text;" ∈ gw := gw_in (tb_1 (List.mem_of_getElem? (i := 218) rfl)) rfl
theorem w1_220 : Cond.laysFinal RX7 "PurringHolds" "told" "LPurringHolds$Row;" ∈ gw := gw_in (tb_1 (List.mem_of_getElem? (i := 220) rfl)) rfl
theorem w1_222 : Cond.laysFinal RX7 "PurringHolds" "now" "LPurringHolds$Viaduct;" ∈ gw := gw_in (tb_1 (List.mem_of_getElem? (i := 222) rfl)) rfl
theorem w1_224 : Cond.laysFinal RX7 "PurringHolds" "before" "LPurringHolds$Viaduct;" ∈ gw := gw_in (tb_1 (List.mem_of_getElem? (i := 224) rfl)) rfl
theorem w1_226 : Cond.laysFinal RX7 "PurringHolds" "trial" "LPurringHolds$Viaduct;" ∈ gw := gw_in (tb_1 (List.mem_of_getElem? (i := 226) rfl)) rfl
theorem w1_228 : Cond.laysFinal RX7 "PurringHolds" "past" "LPurringHolds$Past;" ∈ gw := gw_in (tb_1 (List.mem_of_getElem? (i := 228) rfl)) rfl
theorem w1_230 : Cond.laysFinal RX7 "PurringHolds" "kept" "[LPurringHolds$Viaduct;" ∈ gw := gw_in (tb_1 (List.mem_of_getElem? (i := 230) rfl)) rfl
theorem w1_232 : Cond.laysFinal RX7 "PurringHolds" "feltNotes" "LPurringHolds$Notes;" ∈ gw := gw_in (tb_1 (List.mem_of_getElem? (i := 232) rfl)) rfl
theorem w1_234 : Cond.laysFinal RX7 "PurringHolds" "heardNotes" "LPurringHolds$Notes;" ∈ gw := gw_in (tb_1 (List.mem_of_getElem? (i := 234) rfl)) rfl
theorem w1_236 : Cond.laysFinal RX7 "PurringHolds" "draws" "LPurringHolds$Draws;" ∈ gw := gw_in (tb_1 (List.mem_of_getElem? (i := 236) rfl)) rfl
theorem w1_238 : Cond.laysFinal RX7 "PurringHolds" "purrs" "[I" ∈ gw := gw_in (tb_1 (List.mem_of_getElem? (i := 238) rfl)) rfl
theorem w2_0 : Cond.laysFinal RX7 "PurringHolds" "alone" "[I" ∈ gw := gw_in (tb_2 (List.mem_of_getElem? (i := 0) rfl)) rfl
theorem w2_2 : Cond.laysFinal RX7 "PurringHolds" "nimbers" "[I" ∈ gw := gw_in (tb_2 (List.mem_of_getElem? (i := 2) rfl)) rfl
theorem w2_4 : Cond.laysFinal RX7 "PurringHolds" "ways" "[J" ∈ gw := gw_in (tb_2 (List.mem_of_getElem? (i := 4) rfl)) rfl
theorem w2_6 : Cond.lays RX7 "PurringHolds" "ruling" "LPurringHolds$Rule;" ∈ gw := gw_in (tb_2 (List.mem_of_getElem? (i := 6) rfl)) rfl
theorem w2_8 : Cond.lays RX7 "PurringHolds" "spare" "LPurringHolds$Rule;" ∈ gw := gw_in (tb_2 (List.mem_of_getElem? (i := 8) rfl)) rfl
theorem w2_11 : Cond.methodLink RL 26 yX7_sign ∈ gw := gw_in (tb_2 (List.mem_of_getElem? (i := 11) rfl)) rfl
theorem w2_12 : Cond.instanceMethod yX7_sign ∈ gw := gw_in (tb_2 (List.mem_of_getElem? (i := 12) rfl)) rfl
theorem w2_13 : Cond.selects RX7 yX7_sign yX7_sign ∈ gw := gw_in (tb_2 (List.mem_of_getElem? (i := 13) rfl)) rfl
theorem w2_14 : Cond.code yX7_sign cX7_sign 2 (some .int) ∈ gw := gw_in (tb_2 (List.mem_of_getElem? (i := 14) rfl)) rfl
theorem w2_15 : Cond.methodLink RX7 90 yX5_addFour ∈ gw := gw_in (tb_2 (List.mem_of_getElem? (i := 15) rfl)) rfl
theorem w2_16 : Cond.instanceMethod yX5_addFour ∈ gw := gw_in (tb_2 (List.mem_of_getElem? (i := 16) rfl)) rfl
theorem w2_17 : Cond.selects RX5 yX5_addFour yX5_addFour ∈ gw := gw_in (tb_2 (List.mem_of_getElem? (i := 17) rfl)) rfl
theorem w2_18 : Cond.code yX5_addFour cX5_addFour 3 (some .int) ∈ gw := gw_in (tb_2 (List.mem_of_getElem? (i := 18) rfl)) rfl
theorem w2_19 : Cond.methodLink RL 31 yX7_end ∈ gw := gw_in (tb_2 (List.mem_of_getElem? (i := 19) rfl)) rfl
theorem w2_20 : Cond.instanceMethod yX7_end ∈ gw := gw_in (tb_2 (List.mem_of_getElem? (i := 20) rfl)) rfl
theorem w2_21 : Cond.selects RX7 yX7_end yX7_end ∈ gw := gw_in (tb_2 (List.mem_of_getElem? (i := 21) rfl)) rfl
theorem w2_22 : Cond.code yX7_end cX7_end 2 (some .boolean) ∈ gw := gw_in (tb_2 (List.mem_of_getElem? (i := 22) rfl)) rfl
theorem w2_23 : Cond.methodLink RL 36 yX7_arches ∈ gw := gw_in (tb_2 (List.mem_of_getElem? (i := 23) rfl)) rfl
theorem w2_24 : Cond.instanceMethod yX7_arches ∈ gw := gw_in (tb_2 (List.mem_of_getElem? (i := 24) rfl)) rfl
theorem w2_25 : Cond.selects RX7 yX7_arches yX7_arches ∈ gw := gw_in (tb_2 (List.mem_of_getElem? (i := 25) rfl)) rfl
theorem w2_26 : Cond.code yX7_arches cX7_arches 4 (some .int) ∈ gw := gw_in (tb_2 (List.mem_of_getElem? (i := 26) rfl)) rfl
theorem w2_27 : Cond.methodLink RX7 101 yX5_faultInLines ∈ gw := gw_in (tb_2 (List.mem_of_getElem? (i := 27) rfl)) rfl
theorem w2_28 : Cond.instanceMethod yX5_faultInLines ∈ gw := gw_in (tb_2 (List.mem_of_getElem? (i := 28) rfl)) rfl
theorem w2_29 : Cond.selects RX5 yX5_faultInLines yX5_faultInLines ∈ gw := gw_in (tb_2 (List.mem_of_getElem? (i := 29) rfl)) rfl
theorem w2_30 : Cond.code yX5_faultInLines cX5_faultInLines 10 (some .int) ∈ gw := gw_in (tb_2 (List.mem_of_getElem? (i := 30) rfl)) rfl
theorem w2_31 : Cond.methodLink RX5 19 yX5_at ∈ gw := gw_in (tb_2 (List.mem_of_getElem? (i := 31) rfl)) rfl
theorem w2_32 : Cond.instanceMethod yX5_at ∈ gw := gw_in (tb_2 (List.mem_of_getElem? (i := 32) rfl)) rfl
theorem w2_33 : Cond.selects RX5 yX5_at yX5_at ∈ gw := gw_in (tb_2 (List.mem_of_getElem? (i := 33) rfl)) rfl
theorem w2_34 : Cond.code yX5_at cX5_at 2 (some .int) ∈ gw := gw_in (tb_2 (List.mem_of_getElem? (i := 34) rfl)) rfl
theorem w2_35 : Cond.methodLink RX5 23 yX5_digit ∈ gw := gw_in (tb_2 (List.mem_of_getElem? (i := 35) rfl)) rfl
theorem w2_36 : Cond.instanceMethod yX5_digit ∈ gw := gw_in (tb_2 (List.mem_of_getElem? (i := 36) rfl)) rfl
theorem w2_37 : Cond.selects RX5 yX5_digit yX5_digit ∈ gw := gw_in (tb_2 (List.mem_of_getElem? (i := 37) rfl)) rfl
theorem w2_38 : Cond.code yX5_digit cX5_digit 3 (some .int) ∈ gw := gw_in (tb_2 (List.mem_of_getElem? (i := 38) rfl)) rfl
theorem w2_39 : Cond.methodLink RX7 105 yX5_linesOf ∈ gw := gw_in (tb_2 (List.mem_of_getElem? (i := 39) rfl)) rfl
theorem w2_40 : Cond.instanceMethod yX5_linesOf ∈ gw := gw_in (tb_2 (List.mem_of_getElem? (i := 40) rfl)) rfl
theorem w2_41 : Cond.selects RX5 yX5_linesOf yX5_linesOf ∈ gw := gw_in (tb_2 (List.mem_of_getElem? (i := 41) rfl)) rfl
theorem w2_42 : Cond.code yX5_linesOf cX5_linesOf 2 (some .int) ∈ gw := gw_in (tb_2 (List.mem_of_getElem? (i := 42) rfl)) rfl
theorem w2_43 : Cond.methodLink RX7 108 yX5_digit ∈ gw := gw_in (tb_2 (List.mem_of_getElem? (i := 43) rfl)) rfl
theorem w2_44 : Cond.methodLink RX7 111 yX6_addArch ∈ gw := gw_in (tb_2 (List.mem_of_getElem? (i := 44) rfl)) rfl
theorem w2_45 : Cond.instanceMethod yX6_addArch ∈ gw := gw_in (tb_2 (List.mem_of_getElem? (i := 45) rfl)) rfl
theorem w2_46 : Cond.selects RX6 yX6_addArch yX6_addArch ∈ gw := gw_in (tb_2 (List.mem_of_getElem? (i := 46) rfl)) rfl
theorem w2_47 : Cond.code yX6_addArch cX6_addArch 2 none ∈ gw := gw_in (tb_2 (List.mem_of_getElem? (i := 47) rfl)) rfl
theorem w2_48 : Cond.methodLink RX7 114 yX7_linesTaken ∈ gw := gw_in (tb_2 (List.mem_of_getElem? (i := 48) rfl)) rfl
theorem w2_50 : Cond.instanceMethod yX7_linesTaken ∈ gw := gw_in (tb_2 (List.mem_of_getElem? (i := 50) rfl)) rfl
theorem w2_51 : Cond.code yX7_linesTaken cX7_linesTaken 3 (some .int) ∈ gw := gw_in (tb_2 (List.mem_of_getElem? (i := 51) rfl)) rfl
theorem w2_52 : Cond.methodLink RL 41 yX7_cats ∈ gw := gw_in (tb_2 (List.mem_of_getElem? (i := 52) rfl)) rfl
theorem w2_53 : Cond.instanceMethod yX7_cats ∈ gw := gw_in (tb_2 (List.mem_of_getElem? (i := 53) rfl)) rfl
theorem w2_54 : Cond.selects RX7 yX7_cats yX7_cats ∈ gw := gw_in (tb_2 (List.mem_of_getElem? (i := 54) rfl)) rfl
theorem w2_55 : Cond.code yX7_cats cX7_cats 4 (some .int) ∈ gw := gw_in (tb_2 (List.mem_of_getElem? (i := 55) rfl)) rfl
theorem w2_56 : Cond.methodLink RX7 121 yX6_addCat ∈ gw := gw_in (tb_2 (List.mem_of_getElem? (i := 56) rfl)) rfl
theorem w2_57 : Cond.instanceMethod yX6_addCat ∈ gw := gw_in (tb_2 (List.mem_of_getElem? (i := 57) rfl)) rfl
theorem w2_58 : Cond.selects RX6 yX6_addCat yX6_addCat ∈ gw := gw_in (tb_2 (List.mem_of_getElem? (i := 58) rfl)) rfl
theorem w2_59 : Cond.code yX6_addCat cX6_addCat 4 none ∈ gw := gw_in (tb_2 (List.mem_of_getElem? (i := 59) rfl)) rfl
theorem w2_60 : Cond.methodLink RL 45 yX7_rule ∈ gw := gw_in (tb_2 (List.mem_of_getElem? (i := 60) rfl)) rfl
theorem w2_61 : Cond.instanceMethod yX7_rule ∈ gw := gw_in (tb_2 (List.mem_of_getElem? (i := 61) rfl)) rfl
theorem w2_62 : Cond.selects RX7 yX7_rule yX7_rule ∈ gw := gw_in (tb_2 (List.mem_of_getElem? (i := 62) rfl)) rfl
theorem w2_63 : Cond.code yX7_rule cX7_rule 3 (some .int) ∈ gw := gw_in (tb_2 (List.mem_of_getElem? (i := 63) rfl)) rfl
theorem w2_64 : Cond.methodLink RX7 128 yX7_readSpare ∈ gw := gw_in (tb_2 (List.mem_of_getElem? (i := 64) rfl)) rfl
theorem w2_66 : Cond.instanceMethod yX7_readSpare ∈ gw := gw_in (tb_2 (List.mem_of_getElem? (i := 66) rfl)) rfl
theorem w2_67 : Cond.code yX7_readSpare cX7_readSpare 2 (some .int) ∈ gw := gw_in (tb_2 (List.mem_of_getElem? (i := 67) rfl)) rfl
theorem w2_68 : Cond.methodLink RX7 132 yX4_read ∈ gw := gw_in (tb_2 (List.mem_of_getElem? (i := 68) rfl)) rfl
theorem w2_69 : Cond.instanceMethod yX4_read ∈ gw := gw_in (tb_2 (List.mem_of_getElem? (i := 69) rfl)) rfl
theorem w2_70 : Cond.selects RX4 yX4_read yX4_read ∈ gw := gw_in (tb_2 (List.mem_of_getElem? (i := 70) rfl)) rfl
theorem w2_71 : Cond.code yX4_read cX4_read 3 (some .int) ∈ gw := gw_in (tb_2 (List.mem_of_getElem? (i := 71) rfl)) rfl
theorem w2_72 : Cond.methodLink RX4 25 yX4_start ∈ gw := gw_in (tb_2 (List.mem_of_getElem? (i := 72) rfl)) rfl
theorem w2_74 : Cond.instanceMethod yX4_start ∈ gw := gw_in (tb_2 (List.mem_of_getElem? (i := 74) rfl)) rfl
theorem w2_75 : Cond.code yX4_start cX4_start 1 none ∈ gw := gw_in (tb_2 (List.mem_of_getElem? (i := 75) rfl)) rfl
theorem w2_76 : Cond.methodLink RX4 34 yX5_at ∈ gw := gw_in (tb_2 (List.mem_of_getElem? (i := 76) rfl)) rfl
theorem w2_77 : Cond.methodLink RX4 38 yX4_takes ∈ gw := gw_in (tb_2 (List.mem_of_getElem? (i := 77) rfl)) rfl
theorem w2_79 : Cond.instanceMethod yX4_takes ∈ gw := gw_in (tb_2 (List.mem_of_getElem? (i := 79) rfl)) rfl
theorem w2_80 : Cond.code yX4_takes cX4_takes 2 (some .boolean) ∈ gw := gw_in (tb_2 (List.mem_of_getElem? (i := 80) rfl)) rfl
theorem w2_81 : Cond.methodLink RX4 64 yX4_takesDigit ∈ gw := gw_in (tb_2 (List.mem_of_getElem? (i := 81) rfl)) rfl
theorem w2_83 : Cond.instanceMethod yX4_takesDigit ∈ gw := gw_in (tb_2 (List.mem_of_getElem? (i := 83) rfl)) rfl
theorem w2_84 : Cond.code yX4_takesDigit cX4_takesDigit 2 (some .boolean) ∈ gw := gw_in (tb_2 (List.mem_of_getElem? (i := 84) rfl)) rfl
theorem w2_85 : Cond.methodLink RX4 67 yX4_takesThing ∈ gw := gw_in (tb_2 (List.mem_of_getElem? (i := 85) rfl)) rfl
theorem w2_87 : Cond.instanceMethod yX4_takesThing ∈ gw := gw_in (tb_2 (List.mem_of_getElem? (i := 87) rfl)) rfl
theorem w2_88 : Cond.code yX4_takesThing cX4_takesThing 2 (some .boolean) ∈ gw := gw_in (tb_2 (List.mem_of_getElem? (i := 88) rfl)) rfl
theorem w2_89 : Cond.methodLink RX4 73 yX4_push ∈ gw := gw_in (tb_2 (List.mem_of_getElem? (i := 89) rfl)) rfl
theorem w2_91 : Cond.instanceMethod yX4_push ∈ gw := gw_in (tb_2 (List.mem_of_getElem? (i := 91) rfl)) rfl
theorem w2_92 : Cond.code yX4_push cX4_push 2 none ∈ gw := gw_in (tb_2 (List.mem_of_getElem? (i := 92) rfl)) rfl
theorem w2_93 : Cond.methodLink RX4 70 yX4_takesBehindThing ∈ gw := gw_in (tb_2 (List.mem_of_getElem? (i := 93) rfl)) rfl
theorem w2_95 : Cond.instanceMethod yX4_takesBehindThing ∈ gw := gw_in (tb_2 (List.mem_of_getElem? (i := 95) rfl)) rfl
theorem w2_96 : Cond.code yX4_takesBehindThing cX4_takesBehindThing 3 (some .boolean) ∈ gw := gw_in (tb_2 (List.mem_of_getElem? (i := 96) rfl)) rfl
theorem w2_97 : Cond.methodLink RX4 49 yX4_settle ∈ gw := gw_in (tb_2 (List.mem_of_getElem? (i := 97) rfl)) rfl
theorem w2_99 : Cond.instanceMethod yX4_settle ∈ gw := gw_in (tb_2 (List.mem_of_getElem? (i := 99) rfl)) rfl
theorem w2_100 : Cond.code yX4_settle cX4_settle 3 none ∈ gw := gw_in (tb_2 (List.mem_of_getElem? (i := 100) rfl)) rfl
theorem w2_101 : Cond.methodLink RX4 80 yX4_rankOf ∈ gw := gw_in (tb_2 (List.mem_of_getElem? (i := 101) rfl)) rfl
theorem w2_102 : Cond.static yX4_rankOf ∈ gw := gw_in (tb_2 (List.mem_of_getElem? (i := 102) rfl)) rfl
theorem w2_103 : Cond.code yX4_rankOf cX4_rankOf 1 (some .int) ∈ gw := gw_in (tb_2 (List.mem_of_getElem? (i := 103) rfl)) rfl
theorem w2_104 : Cond.methodLink RX4 76 yX4_pop ∈ gw := gw_in (tb_2 (List.mem_of_getElem? (i := 104) rfl)) rfl
theorem w2_106 : Cond.instanceMethod yX4_pop ∈ gw := gw_in (tb_2 (List.mem_of_getElem? (i := 106) rfl)) rfl
theorem w2_107 : Cond.code yX4_pop cX4_pop 1 (some .int) ∈ gw := gw_in (tb_2 (List.mem_of_getElem? (i := 107) rfl)) rfl
theorem w2_108 : Cond.methodLink RL 61 yX7_sheet ∈ gw := gw_in (tb_2 (List.mem_of_getElem? (i := 108) rfl)) rfl
theorem w2_109 : Cond.instanceMethod yX7_sheet ∈ gw := gw_in (tb_2 (List.mem_of_getElem? (i := 109) rfl)) rfl
theorem w2_110 : Cond.selects RX7 yX7_sheet yX7_sheet ∈ gw := gw_in (tb_2 (List.mem_of_getElem? (i := 110) rfl)) rfl
theorem w2_111 : Cond.code yX7_sheet cX7_sheet 7 (some .int) ∈ gw := gw_in (tb_2 (List.mem_of_getElem? (i := 111) rfl)) rfl
theorem w2_112 : Cond.methodLink RX7 174 yX7_entryOf ∈ gw := gw_in (tb_2 (List.mem_of_getElem? (i := 112) rfl)) rfl
theorem w2_113 : Cond.static yX7_entryOf ∈ gw := gw_in (tb_2 (List.mem_of_getElem? (i := 113) rfl)) rfl
theorem w2_114 : Cond.code yX7_entryOf cX7_entryOf 3 (some .int) ∈ gw := gw_in (tb_2 (List.mem_of_getElem? (i := 114) rfl)) rfl
theorem w2_115 : Cond.methodLink RX7 180 yX7_asDigit ∈ gw := gw_in (tb_2 (List.mem_of_getElem? (i := 115) rfl)) rfl
theorem w2_116 : Cond.static yX7_asDigit ∈ gw := gw_in (tb_2 (List.mem_of_getElem? (i := 116) rfl)) rfl
theorem w2_117 : Cond.code yX7_asDigit cX7_asDigit 1 (some .int) ∈ gw := gw_in (tb_2 (List.mem_of_getElem? (i := 117) rfl)) rfl
theorem w2_118 : Cond.methodLink RX7 183 yJ9_min_7cf53 ∈ gw := gw_in (tb_2 (List.mem_of_getElem? (i := 118) rfl)) rfl
theorem w2_119 : Cond.static yJ9_min_7cf53 ∈ gw := gw_in (tb_2 (List.mem_of_getElem? (i := 119) rfl)) rfl
theorem w2_120 : Cond.code yJ9_min_7cf53 cJ9_min_7cf53 2 (some .int) ∈ gw := gw_in (tb_2 (List.mem_of_getElem? (i := 120) rfl)) rfl
theorem w2_121 : Cond.methodLink RX7 188 yJ9_max_7cf53 ∈ gw := gw_in (tb_2 (List.mem_of_getElem? (i := 121) rfl)) rfl
theorem w2_122 : Cond.static yJ9_max_7cf53 ∈ gw := gw_in (tb_2 (List.mem_of_getElem? (i := 122) rfl)) rfl
theorem w2_123 : Cond.code yJ9_max_7cf53 cJ9_max_7cf53 2 (some .int) ∈ gw := gw_in (tb_2 (List.mem_of_getElem? (i := 123) rfl)) rfl
theorem w2_124 : Cond.methodLink RX7 177 yX6_allLoads ∈ gw := gw_in (tb_2 (List.mem_of_getElem? (i := 124) rfl)) rfl
theorem w2_125 : Cond.instanceMethod yX6_allLoads ∈ gw := gw_in (tb_2 (List.mem_of_getElem? (i := 125) rfl)) rfl
theorem w2_126 : Cond.selects RX6 yX6_allLoads yX6_allLoads ∈ gw := gw_in (tb_2 (List.mem_of_getElem? (i := 126) rfl)) rfl
theorem w2_127 : Cond.code yX6_allLoads cX6_allLoads 1 (some .int) ∈ gw := gw_in (tb_2 (List.mem_of_getElem? (i := 127) rfl)) rfl
theorem w2_128 : Cond.methodLink RX6 95 yX6_sumOf ∈ gw := gw_in (tb_2 (List.mem_of_getElem? (i := 128) rfl)) rfl
theorem w2_129 : Cond.static yX6_sumOf ∈ gw := gw_in (tb_2 (List.mem_of_getElem? (i := 129) rfl)) rfl
theorem w2_130 : Cond.code yX6_sumOf cX6_sumOf 4 (some .int) ∈ gw := gw_in (tb_2 (List.mem_of_getElem? (i := 130) rfl)) rfl
theorem w2_131 : Cond.methodLink RL 66 yX7_hours ∈ gw := gw_in (tb_2 (List.mem_of_getElem? (i := 131) rfl)) rfl
theorem w2_132 : Cond.instanceMethod yX7_hours ∈ gw := gw_in (tb_2 (List.mem_of_getElem? (i := 132) rfl)) rfl
theorem w2_133 : Cond.selects RX7 yX7_hours yX7_hours ∈ gw := gw_in (tb_2 (List.mem_of_getElem? (i := 133) rfl)) rfl
theorem w2_134 : Cond.code yX7_hours cX7_hours 3 (some .int) ∈ gw := gw_in (tb_2 (List.mem_of_getElem? (i := 134) rfl)) rfl
theorem w2_135 : Cond.methodLink RX7 191 yX6_become ∈ gw := gw_in (tb_2 (List.mem_of_getElem? (i := 135) rfl)) rfl
theorem w2_136 : Cond.instanceMethod yX6_become ∈ gw := gw_in (tb_2 (List.mem_of_getElem? (i := 136) rfl)) rfl
theorem w2_137 : Cond.selects RX6 yX6_become yX6_become ∈ gw := gw_in (tb_2 (List.mem_of_getElem? (i := 137) rfl)) rfl
theorem w2_138 : Cond.code yX6_become cX6_become 2 none ∈ gw := gw_in (tb_2 (List.mem_of_getElem? (i := 138) rfl)) rfl
theorem w2_139 : Cond.methodLink RX6 46 ⟨"java/lang/System", "arraycopy", "(Ljava/lang/Object;ILjava/lang/Object;II)V"⟩ ∈ gw := gw_in (tb_2 (List.mem_of_getElem? (i := 139) rfl)) rfl
theorem w2_140 : Cond.static ⟨"java/lang/System", "arraycopy", "(Ljava/lang/Object;ILjava/lang/Object;II)V"⟩ ∈ gw := gw_in (tb_2 (List.mem_of_getElem? (i := 140) rfl)) rfl
theorem w2_141 : Cond.native ⟨"java/lang/System", "arraycopy", "(Ljava/lang/Object;ILjava/lang/Object;II)V"⟩ ∈ gw := gw_in (tb_2 (List.mem_of_getElem? (i := 141) rfl)) rfl
theorem w2_142 : Cond.methodLink RX7 195 yX6_passHours ∈ gw := gw_in (tb_2 (List.mem_of_getElem? (i := 142) rfl)) rfl
theorem w2_143 : Cond.instanceMethod yX6_passHours ∈ gw := gw_in (tb_2 (List.mem_of_getElem? (i := 143) rfl)) rfl
theorem w2_144 : Cond.selects RX6 yX6_passHours yX6_passHours ∈ gw := gw_in (tb_2 (List.mem_of_getElem? (i := 144) rfl)) rfl
theorem w2_145 : Cond.code yX6_passHours cX6_passHours 5 (some .int) ∈ gw := gw_in (tb_2 (List.mem_of_getElem? (i := 145) rfl)) rfl
theorem w2_146 : Cond.methodLink RX6 69 yX6_passHour ∈ gw := gw_in (tb_2 (List.mem_of_getElem? (i := 146) rfl)) rfl
theorem w2_147 : Cond.instanceMethod yX6_passHour ∈ gw := gw_in (tb_2 (List.mem_of_getElem? (i := 147) rfl)) rfl
theorem w2_148 : Cond.selects RX6 yX6_passHour yX6_passHour ∈ gw := gw_in (tb_2 (List.mem_of_getElem? (i := 148) rfl)) rfl
theorem w2_149 : Cond.code yX6_passHour cX6_passHour 5 (some .int) ∈ gw := gw_in (tb_2 (List.mem_of_getElem? (i := 149) rfl)) rfl
theorem w2_150 : Cond.methodLink RX6 73 yX6_catsIn ∈ gw := gw_in (tb_2 (List.mem_of_getElem? (i := 150) rfl)) rfl
theorem w2_151 : Cond.instanceMethod yX6_catsIn ∈ gw := gw_in (tb_2 (List.mem_of_getElem? (i := 151) rfl)) rfl
theorem w2_152 : Cond.selects RX6 yX6_catsIn yX6_catsIn ∈ gw := gw_in (tb_2 (List.mem_of_getElem? (i := 152) rfl)) rfl
theorem w2_153 : Cond.code yX6_catsIn cX6_catsIn 4 (some .int) ∈ gw := gw_in (tb_2 (List.mem_of_getElem? (i := 153) rfl)) rfl
theorem w2_154 : Cond.methodLink RX6 76 yX6_holdBy ∈ gw := gw_in (tb_2 (List.mem_of_getElem? (i := 154) rfl)) rfl
theorem w2_155 : Cond.instanceMethod yX6_holdBy ∈ gw := gw_in (tb_2 (List.mem_of_getElem? (i := 155) rfl)) rfl
theorem w2_156 : Cond.selects RX6 yX6_holdBy yX6_holdBy ∈ gw := gw_in (tb_2 (List.mem_of_getElem? (i := 156) rfl)) rfl
theorem w2_157 : Cond.code yX6_holdBy cX6_holdBy 7 (some .int) ∈ gw := gw_in (tb_2 (List.mem_of_getElem? (i := 157) rfl)) rfl
theorem w2_158 : Cond.methodLink RX6 80 yJ6_bitCount_0f7a4 ∈ gw := gw_in (tb_2 (List.mem_of_getElem? (i := 158) rfl)) rfl
theorem w2_159 : Cond.static yJ6_bitCount_0f7a4 ∈ gw := gw_in (tb_2 (List.mem_of_getElem? (i := 159) rfl)) rfl
theorem w2_160 : Cond.code yJ6_bitCount_0f7a4 cJ6_bitCount_0f7a4 1 (some .int) ∈ gw := gw_in (tb_2 (List.mem_of_getElem? (i := 160) rfl)) rfl
theorem w2_161 : Cond.constant RJ6 265 1431655765 ∈ gw := gw_in (tb_2 (List.mem_of_getElem? (i := 161) rfl)) rfl
theorem w2_162 : Cond.constant RJ6 266 858993459 ∈ gw := gw_in (tb_2 (List.mem_of_getElem? (i := 162) rfl)) rfl
theorem w2_163 : Cond.constant RJ6 267 252645135 ∈ gw := gw_in (tb_2 (List.mem_of_getElem? (i := 163) rfl)) rfl
theorem w2_164 : Cond.methodLink RX6 85 yX4_purr ∈ gw := gw_in (tb_2 (List.mem_of_getElem? (i := 164) rfl)) rfl
theorem w2_165 : Cond.instanceMethod yX4_purr ∈ gw := gw_in (tb_2 (List.mem_of_getElem? (i := 165) rfl)) rfl
theorem w2_166 : Cond.selects RX4 yX4_purr yX4_purr ∈ gw := gw_in (tb_2 (List.mem_of_getElem? (i := 166) rfl)) rfl
theorem w2_167 : Cond.code yX4_purr cX4_purr 8 (some .int) ∈ gw := gw_in (tb_2 (List.mem_of_getElem? (i := 167) rfl)) rfl
theorem w2_168 : Cond.methodLink RX4 83 yX4_joined ∈ gw := gw_in (tb_2 (List.mem_of_getElem? (i := 168) rfl)) rfl
theorem w2_169 : Cond.static yX4_joined ∈ gw := gw_in (tb_2 (List.mem_of_getElem? (i := 169) rfl)) rfl
theorem w2_170 : Cond.code yX4_joined cX4_joined 3 (some .int) ∈ gw := gw_in (tb_2 (List.mem_of_getElem? (i := 170) rfl)) rfl
theorem w2_171 : Cond.methodLink RX4 87 yX6_thing ∈ gw := gw_in (tb_2 (List.mem_of_getElem? (i := 171) rfl)) rfl
theorem w2_172 : Cond.instanceMethod yX6_thing ∈ gw := gw_in (tb_2 (List.mem_of_getElem? (i := 172) rfl)) rfl
theorem w2_173 : Cond.selects RX6 yX6_thing yX6_thing ∈ gw := gw_in (tb_2 (List.mem_of_getElem? (i := 173) rfl)) rfl
theorem w2_174 : Cond.code yX6_thing cX6_thing 5 (some .int) ∈ gw := gw_in (tb_2 (List.mem_of_getElem? (i := 174) rfl)) rfl
theorem w2_175 : Cond.methodLink RX6 52 yX6_hasCat ∈ gw := gw_in (tb_2 (List.mem_of_getElem? (i := 175) rfl)) rfl
theorem w2_176 : Cond.instanceMethod yX6_hasCat ∈ gw := gw_in (tb_2 (List.mem_of_getElem? (i := 176) rfl)) rfl
theorem w2_177 : Cond.selects RX6 yX6_hasCat yX6_hasCat ∈ gw := gw_in (tb_2 (List.mem_of_getElem? (i := 177) rfl)) rfl
theorem w2_178 : Cond.code yX6_hasCat cX6_hasCat 2 (some .boolean) ∈ gw := gw_in (tb_2 (List.mem_of_getElem? (i := 178) rfl)) rfl
theorem w2_179 : Cond.methodLink RX6 62 yX6_hasArch ∈ gw := gw_in (tb_2 (List.mem_of_getElem? (i := 179) rfl)) rfl
theorem w2_180 : Cond.instanceMethod yX6_hasArch ∈ gw := gw_in (tb_2 (List.mem_of_getElem? (i := 180) rfl)) rfl
theorem w2_181 : Cond.selects RX6 yX6_hasArch yX6_hasArch ∈ gw := gw_in (tb_2 (List.mem_of_getElem? (i := 181) rfl)) rfl
theorem w2_182 : Cond.code yX6_hasArch cX6_hasArch 2 (some .boolean) ∈ gw := gw_in (tb_2 (List.mem_of_getElem? (i := 182) rfl)) rfl
theorem w2_184 : Cond.methodLink RX6 56 yJ9_min_7cf53 ∈ gw := gw_in (tb_2 (List.mem_of_getElem? (i := 184) rfl)) rfl
theorem w2_185 : Cond.methodLink RX7 198 yX2_add ∈ gw := gw_in (tb_2 (List.mem_of_getElem? (i := 185) rfl)) rfl
theorem w2_186 : Cond.instanceMethod yX2_add ∈ gw := gw_in (tb_2 (List.mem_of_getElem? (i := 186) rfl)) rfl
theorem w2_187 : Cond.selects RX2 yX2_add yX2_add ∈ gw := gw_in (tb_2 (List.mem_of_getElem? (i := 187) rfl)) rfl
theorem w2_188 : Cond.code yX2_add cX2_add 2 none ∈ gw := gw_in (tb_2 (List.mem_of_getElem? (i := 188) rfl)) rfl
theorem w2_190 : Cond.methodLink RX2 22 yX6_become ∈ gw := gw_in (tb_2 (List.mem_of_getElem? (i := 190) rfl)) rfl
theorem w2_191 : Cond.methodLink RX2 29 yJ9_min_7cf53 ∈ gw := gw_in (tb_2 (List.mem_of_getElem? (i := 191) rfl)) rfl
theorem w2_192 : Cond.methodLink RX7 201 yX3_anew ∈ gw := gw_in (tb_2 (List.mem_of_getElem? (i := 192) rfl)) rfl
theorem w2_193 : Cond.instanceMethod yX3_anew ∈ gw := gw_in (tb_2 (List.mem_of_getElem? (i := 193) rfl)) rfl
theorem w2_194 : Cond.selects RX3 yX3_anew yX3_anew ∈ gw := gw_in (tb_2 (List.mem_of_getElem? (i := 194) rfl)) rfl
theorem w2_195 : Cond.code yX3_anew cX3_anew 1 (some (.object "PurringHolds$Row")) ∈ gw := gw_in (tb_2 (List.mem_of_getElem? (i := 195) rfl)) rfl
theorem w2_196 : Cond.methodLink RX7 205 yX3_add ∈ gw := gw_in (tb_2 (List.mem_of_getElem? (i := 196) rfl)) rfl
theorem w2_197 : Cond.instanceMethod yX3_add ∈ gw := gw_in (tb_2 (List.mem_of_getElem? (i := 197) rfl)) rfl
theorem w2_198 : Cond.selects RX3 yX3_add yX3_add ∈ gw := gw_in (tb_2 (List.mem_of_getElem? (i := 198) rfl)) rfl
theorem w2_199 : Cond.code yX3_add cX3_add 3 (some (.object "PurringHolds$Row")) ∈ gw := gw_in (tb_2 (List.mem_of_getElem? (i := 199) rfl)) rfl
theorem w2_200 : Cond.methodLink RX7 208 yX6_allJoy ∈ gw := gw_in (tb_2 (List.mem_of_getElem? (i := 200) rfl)) rfl
theorem w2_201 : Cond.instanceMethod yX6_allJoy ∈ gw := gw_in (tb_2 (List.mem_of_getElem? (i := 201) rfl)) rfl
theorem w2_202 : Cond.selects RX6 yX6_allJoy yX6_allJoy ∈ gw := gw_in (tb_2 (List.mem_of_getElem? (i := 202) rfl)) rfl
theorem w2_203 : Cond.code yX6_allJoy cX6_allJoy 1 (some .int) ∈ gw := gw_in (tb_2 (List.mem_of_getElem? (i := 203) rfl)) rfl
theorem w2_204 : Cond.methodLink RX7 211 yX6_allSags ∈ gw := gw_in (tb_2 (List.mem_of_getElem? (i := 204) rfl)) rfl
theorem w2_205 : Cond.instanceMethod yX6_allSags ∈ gw := gw_in (tb_2 (List.mem_of_getElem? (i := 205) rfl)) rfl
theorem w2_206 : Cond.selects RX6 yX6_allSags yX6_allSags ∈ gw := gw_in (tb_2 (List.mem_of_getElem? (i := 206) rfl)) rfl
theorem w2_207 : Cond.code yX6_allSags cX6_allSags 1 (some .int) ∈ gw := gw_in (tb_2 (List.mem_of_getElem? (i := 207) rfl)) rfl
theorem w2_208 : Cond.methodLink RL 70 yX7_feeds ∈ gw := gw_in (tb_2 (List.mem_of_getElem? (i := 208) rfl)) rfl
theorem w2_209 : Cond.instanceMethod yX7_feeds ∈ gw := gw_in (tb_2 (List.mem_of_getElem? (i := 209) rfl)) rfl
theorem w2_210 : Cond.selects RX7 yX7_feeds yX7_feeds ∈ gw := gw_in (tb_2 (List.mem_of_getElem? (i := 210) rfl)) rfl
theorem w2_211 : Cond.code yX7_feeds cX7_feeds 3 (some .int) ∈ gw := gw_in (tb_2 (List.mem_of_getElem? (i := 211) rfl)) rfl
theorem w2_212 : Cond.methodLink RX7 214 yX6_feed ∈ gw := gw_in (tb_2 (List.mem_of_getElem? (i := 212) rfl)) rfl
theorem w2_213 : Cond.instanceMethod yX6_feed ∈ gw := gw_in (tb_2 (List.mem_of_getElem? (i := 213) rfl)) rfl
theorem w2_214 : Cond.selects RX6 yX6_feed yX6_feed ∈ gw := gw_in (tb_2 (List.mem_of_getElem? (i := 214) rfl)) rfl
theorem w2_215 : Cond.code yX6_feed cX6_feed 3 (some .int) ∈ gw := gw_in (tb_2 (List.mem_of_getElem? (i := 215) rfl)) rfl
theorem w2_216 : Cond.methodLink RX7 217 yX7_remembered ∈ gw := gw_in (tb_2 (List.mem_of_getElem? (i := 216) rfl)) rfl
theorem w2_218 : Cond.instanceMethod yX7_remembered ∈ gw := gw_in (tb_2 (List.mem_of_getElem? (i := 218) rfl)) rfl
theorem w2_219 : Cond.code yX7_remembered cX7_remembered 2 (some .int) ∈ gw := gw_in (tb_2 (List.mem_of_getElem? (i := 219) rfl)) rfl
theorem w2_220 : Cond.methodLink RL 74 yX7_pets ∈ gw := gw_in (tb_2 (List.mem_of_getElem? (i := 220) rfl)) rfl
theorem w2_221 : Cond.instanceMethod yX7_pets ∈ gw := gw_in (tb_2 (List.mem_of_getElem? (i := 221) rfl)) rfl
theorem w2_222 : Cond.selects RX7 yX7_pets yX7_pets ∈ gw := gw_in (tb_2 (List.mem_of_getElem? (i := 222) rfl)) rfl
theorem w2_223 : Cond.code yX7_pets cX7_pets 2 (some .int) ∈ gw := gw_in (tb_2 (List.mem_of_getElem? (i := 223) rfl)) rfl
theorem w2_224 : Cond.methodLink RX7 220 yX6_pet ∈ gw := gw_in (tb_2 (List.mem_of_getElem? (i := 224) rfl)) rfl
theorem w2_225 : Cond.instanceMethod yX6_pet ∈ gw := gw_in (tb_2 (List.mem_of_getElem? (i := 225) rfl)) rfl
theorem w2_226 : Cond.selects RX6 yX6_pet yX6_pet ∈ gw := gw_in (tb_2 (List.mem_of_getElem? (i := 226) rfl)) rfl
theorem w2_227 : Cond.code yX6_pet cX6_pet 2 (some .int) ∈ gw := gw_in (tb_2 (List.mem_of_getElem? (i := 227) rfl)) rfl
theorem w2_228 : Cond.methodLink RL 78 yX7_grieves ∈ gw := gw_in (tb_2 (List.mem_of_getElem? (i := 228) rfl)) rfl
theorem w2_229 : Cond.instanceMethod yX7_grieves ∈ gw := gw_in (tb_2 (List.mem_of_getElem? (i := 229) rfl)) rfl
theorem w2_230 : Cond.selects RX7 yX7_grieves yX7_grieves ∈ gw := gw_in (tb_2 (List.mem_of_getElem? (i := 230) rfl)) rfl
theorem w2_231 : Cond.code yX7_grieves cX7_grieves 3 (some .int) ∈ gw := gw_in (tb_2 (List.mem_of_getElem? (i := 231) rfl)) rfl
theorem w2_232 : Cond.methodLink RX7 223 yX6_sadden ∈ gw := gw_in (tb_2 (List.mem_of_getElem? (i := 232) rfl)) rfl
theorem w2_233 : Cond.instanceMethod yX6_sadden ∈ gw := gw_in (tb_2 (List.mem_of_getElem? (i := 233) rfl)) rfl
theorem w2_234 : Cond.selects RX6 yX6_sadden yX6_sadden ∈ gw := gw_in (tb_2 (List.mem_of_getElem? (i := 234) rfl)) rfl
theorem w2_235 : Cond.code yX6_sadden cX6_sadden 3 (some .int) ∈ gw := gw_in (tb_2 (List.mem_of_getElem? (i := 235) rfl)) rfl
theorem w2_236 : Cond.methodLink RL 82 yX7_sets ∈ gw := gw_in (tb_2 (List.mem_of_getElem? (i := 236) rfl)) rfl
theorem w2_237 : Cond.instanceMethod yX7_sets ∈ gw := gw_in (tb_2 (List.mem_of_getElem? (i := 237) rfl)) rfl
theorem w2_238 : Cond.selects RX7 yX7_sets yX7_sets ∈ gw := gw_in (tb_2 (List.mem_of_getElem? (i := 238) rfl)) rfl
theorem w2_239 : Cond.code yX7_sets cX7_sets 3 (some .int) ∈ gw := gw_in (tb_2 (List.mem_of_getElem? (i := 239) rfl)) rfl
theorem w3_0 : Cond.methodLink RX7 226 yX6_seat ∈ gw := gw_in (tb_3 (List.mem_of_getElem? (i := 0) rfl)) rfl
theorem w3_1 : Cond.instanceMethod yX6_seat ∈ gw := gw_in (tb_3 (List.mem_of_getElem? (i := 1) rfl)) rfl
theorem w3_2 : Cond.selects RX6 yX6_seat yX6_seat ∈ gw := gw_in (tb_3 (List.mem_of_getElem? (i := 2) rfl)) rfl
theorem w3_3 : Cond.code yX6_seat cX6_seat 4 (some .int) ∈ gw := gw_in (tb_3 (List.mem_of_getElem? (i := 3) rfl)) rfl
theorem w3_4 : Cond.methodLink RX6 65 yJ9_abs_0f7a4 ∈ gw := gw_in (tb_3 (List.mem_of_getElem? (i := 4) rfl)) rfl
theorem w3_5 : Cond.static yJ9_abs_0f7a4 ∈ gw := gw_in (tb_3 (List.mem_of_getElem? (i := 5) rfl)) rfl
theorem w3_6 : Cond.code yJ9_abs_0f7a4 cJ9_abs_0f7a4 1 (some .int) ∈ gw := gw_in (tb_3 (List.mem_of_getElem? (i := 6) rfl)) rfl
theorem w3_7 : Cond.methodLink RL 86 yX7_loads ∈ gw := gw_in (tb_3 (List.mem_of_getElem? (i := 7) rfl)) rfl
theorem w3_8 : Cond.instanceMethod yX7_loads ∈ gw := gw_in (tb_3 (List.mem_of_getElem? (i := 8) rfl)) rfl
theorem w3_9 : Cond.selects RX7 yX7_loads yX7_loads ∈ gw := gw_in (tb_3 (List.mem_of_getElem? (i := 9) rfl)) rfl
theorem w3_10 : Cond.code yX7_loads cX7_loads 3 (some .int) ∈ gw := gw_in (tb_3 (List.mem_of_getElem? (i := 10) rfl)) rfl
theorem w3_11 : Cond.methodLink RX7 229 yX6_burden ∈ gw := gw_in (tb_3 (List.mem_of_getElem? (i := 11) rfl)) rfl
theorem w3_12 : Cond.instanceMethod yX6_burden ∈ gw := gw_in (tb_3 (List.mem_of_getElem? (i := 12) rfl)) rfl
theorem w3_13 : Cond.selects RX6 yX6_burden yX6_burden ∈ gw := gw_in (tb_3 (List.mem_of_getElem? (i := 13) rfl)) rfl
theorem w3_14 : Cond.code yX6_burden cX6_burden 4 (some .int) ∈ gw := gw_in (tb_3 (List.mem_of_getElem? (i := 14) rfl)) rfl
theorem w3_15 : Cond.methodLink RL 90 yX7_night ∈ gw := gw_in (tb_3 (List.mem_of_getElem? (i := 15) rfl)) rfl
theorem w3_16 : Cond.instanceMethod yX7_night ∈ gw := gw_in (tb_3 (List.mem_of_getElem? (i := 16) rfl)) rfl
theorem w3_17 : Cond.selects RX7 yX7_night yX7_night ∈ gw := gw_in (tb_3 (List.mem_of_getElem? (i := 17) rfl)) rfl
theorem w3_18 : Cond.code yX7_night cX7_night 5 (some .int) ∈ gw := gw_in (tb_3 (List.mem_of_getElem? (i := 18) rfl)) rfl
theorem w3_19 : Cond.methodLink RX7 232 yX5_faultInNight ∈ gw := gw_in (tb_3 (List.mem_of_getElem? (i := 19) rfl)) rfl
theorem w3_20 : Cond.instanceMethod yX5_faultInNight ∈ gw := gw_in (tb_3 (List.mem_of_getElem? (i := 20) rfl)) rfl
theorem w3_21 : Cond.selects RX5 yX5_faultInNight yX5_faultInNight ∈ gw := gw_in (tb_3 (List.mem_of_getElem? (i := 21) rfl)) rfl
theorem w3_22 : Cond.code yX5_faultInNight cX5_faultInNight 5 (some .int) ∈ gw := gw_in (tb_3 (List.mem_of_getElem? (i := 22) rfl)) rfl
theorem w3_24 : Cond.static yX7_digitsOfAct ∈ gw := gw_in (tb_3 (List.mem_of_getElem? (i := 24) rfl)) rfl
theorem w3_25 : Cond.code yX7_digitsOfAct cX7_digitsOfAct 1 (some .int) ∈ gw := gw_in (tb_3 (List.mem_of_getElem? (i := 25) rfl)) rfl
theorem w3_26 : Cond.methodLink RX7 235 yX5_at ∈ gw := gw_in (tb_3 (List.mem_of_getElem? (i := 26) rfl)) rfl
theorem w3_27 : Cond.methodLink RX7 238 yX7_act ∈ gw := gw_in (tb_3 (List.mem_of_getElem? (i := 27) rfl)) rfl
theorem w3_29 : Cond.instanceMethod yX7_act ∈ gw := gw_in (tb_3 (List.mem_of_getElem? (i := 29) rfl)) rfl
theorem w3_30 : Cond.code yX7_act cX7_act 4 (some .int) ∈ gw := gw_in (tb_3 (List.mem_of_getElem? (i := 30) rfl)) rfl
theorem w3_31 : Cond.methodLink RX7 242 yX7_digitsOfAct ∈ gw := gw_in (tb_3 (List.mem_of_getElem? (i := 31) rfl)) rfl
theorem w3_32 : Cond.methodLink RL 94 yX7_undo ∈ gw := gw_in (tb_3 (List.mem_of_getElem? (i := 32) rfl)) rfl
theorem w3_33 : Cond.instanceMethod yX7_undo ∈ gw := gw_in (tb_3 (List.mem_of_getElem? (i := 33) rfl)) rfl
theorem w3_34 : Cond.selects RX7 yX7_undo yX7_undo ∈ gw := gw_in (tb_3 (List.mem_of_getElem? (i := 34) rfl)) rfl
theorem w3_35 : Cond.code yX7_undo cX7_undo 1 (some .int) ∈ gw := gw_in (tb_3 (List.mem_of_getElem? (i := 35) rfl)) rfl
theorem w3_36 : Cond.methodLink RX7 245 yX2_bringBack ∈ gw := gw_in (tb_3 (List.mem_of_getElem? (i := 36) rfl)) rfl
theorem w3_37 : Cond.instanceMethod yX2_bringBack ∈ gw := gw_in (tb_3 (List.mem_of_getElem? (i := 37) rfl)) rfl
theorem w3_38 : Cond.selects RX2 yX2_bringBack yX2_bringBack ∈ gw := gw_in (tb_3 (List.mem_of_getElem? (i := 38) rfl)) rfl
theorem w3_39 : Cond.code yX2_bringBack cX2_bringBack 3 (some .boolean) ∈ gw := gw_in (tb_3 (List.mem_of_getElem? (i := 39) rfl)) rfl
theorem w3_40 : Cond.methodLink RL 98 yX7_holds ∈ gw := gw_in (tb_3 (List.mem_of_getElem? (i := 40) rfl)) rfl
theorem w3_41 : Cond.instanceMethod yX7_holds ∈ gw := gw_in (tb_3 (List.mem_of_getElem? (i := 41) rfl)) rfl
theorem w3_42 : Cond.selects RX7 yX7_holds yX7_holds ∈ gw := gw_in (tb_3 (List.mem_of_getElem? (i := 42) rfl)) rfl
theorem w3_43 : Cond.code yX7_holds cX7_holds 4 (some .int) ∈ gw := gw_in (tb_3 (List.mem_of_getElem? (i := 43) rfl)) rfl
theorem w3_44 : Cond.methodLink RX7 249 yX6_heldArches ∈ gw := gw_in (tb_3 (List.mem_of_getElem? (i := 44) rfl)) rfl
theorem w3_45 : Cond.instanceMethod yX6_heldArches ∈ gw := gw_in (tb_3 (List.mem_of_getElem? (i := 45) rfl)) rfl
theorem w3_46 : Cond.selects RX6 yX6_heldArches yX6_heldArches ∈ gw := gw_in (tb_3 (List.mem_of_getElem? (i := 46) rfl)) rfl
theorem w3_47 : Cond.code yX6_heldArches cX6_heldArches 4 (some .int) ∈ gw := gw_in (tb_3 (List.mem_of_getElem? (i := 47) rfl)) rfl
theorem w3_48 : Cond.methodLink RX6 91 yX6_holdOf ∈ gw := gw_in (tb_3 (List.mem_of_getElem? (i := 48) rfl)) rfl
theorem w3_49 : Cond.instanceMethod yX6_holdOf ∈ gw := gw_in (tb_3 (List.mem_of_getElem? (i := 49) rfl)) rfl
theorem w3_50 : Cond.selects RX6 yX6_holdOf yX6_holdOf ∈ gw := gw_in (tb_3 (List.mem_of_getElem? (i := 50) rfl)) rfl
theorem w3_51 : Cond.code yX6_holdOf cX6_holdOf 3 (some .int) ∈ gw := gw_in (tb_3 (List.mem_of_getElem? (i := 51) rfl)) rfl
theorem w3_52 : Cond.methodLink RX7 149 yX6_holdOf ∈ gw := gw_in (tb_3 (List.mem_of_getElem? (i := 52) rfl)) rfl
theorem w3_53 : Cond.methodLink RX7 253 yJ6_bitCount_0f7a4 ∈ gw := gw_in (tb_3 (List.mem_of_getElem? (i := 53) rfl)) rfl
theorem w3_54 : Cond.methodLink RL 102 yX7_later ∈ gw := gw_in (tb_3 (List.mem_of_getElem? (i := 54) rfl)) rfl
theorem w3_55 : Cond.instanceMethod yX7_later ∈ gw := gw_in (tb_3 (List.mem_of_getElem? (i := 55) rfl)) rfl
theorem w3_56 : Cond.selects RX7 yX7_later yX7_later ∈ gw := gw_in (tb_3 (List.mem_of_getElem? (i := 56) rfl)) rfl
theorem w3_57 : Cond.code yX7_later cX7_later 3 (some .int) ∈ gw := gw_in (tb_3 (List.mem_of_getElem? (i := 57) rfl)) rfl
theorem w3_58 : Cond.methodLink RX7 136 yX6_hasArch ∈ gw := gw_in (tb_3 (List.mem_of_getElem? (i := 58) rfl)) rfl
theorem w3_59 : Cond.methodLink RL 106 yX7_when ∈ gw := gw_in (tb_3 (List.mem_of_getElem? (i := 59) rfl)) rfl
theorem w3_60 : Cond.instanceMethod yX7_when ∈ gw := gw_in (tb_3 (List.mem_of_getElem? (i := 60) rfl)) rfl
theorem w3_61 : Cond.selects RX7 yX7_when yX7_when ∈ gw := gw_in (tb_3 (List.mem_of_getElem? (i := 61) rfl)) rfl
theorem w3_62 : Cond.code yX7_when cX7_when 6 (some .int) ∈ gw := gw_in (tb_3 (List.mem_of_getElem? (i := 62) rfl)) rfl
theorem w3_63 : Cond.methodLink RX7 258 yX6_passHour ∈ gw := gw_in (tb_3 (List.mem_of_getElem? (i := 63) rfl)) rfl
theorem w3_64 : Cond.methodLink RX7 261 yX7_toldIfFound ∈ gw := gw_in (tb_3 (List.mem_of_getElem? (i := 64) rfl)) rfl
theorem w3_66 : Cond.instanceMethod yX7_toldIfFound ∈ gw := gw_in (tb_3 (List.mem_of_getElem? (i := 66) rfl)) rfl
theorem w3_67 : Cond.code yX7_toldIfFound cX7_toldIfFound 3 (some .int) ∈ gw := gw_in (tb_3 (List.mem_of_getElem? (i := 67) rfl)) rfl
theorem w3_68 : Cond.methodLink RL 110 yX7_down ∈ gw := gw_in (tb_3 (List.mem_of_getElem? (i := 68) rfl)) rfl
theorem w3_69 : Cond.instanceMethod yX7_down ∈ gw := gw_in (tb_3 (List.mem_of_getElem? (i := 69) rfl)) rfl
theorem w3_70 : Cond.selects RX7 yX7_down yX7_down ∈ gw := gw_in (tb_3 (List.mem_of_getElem? (i := 70) rfl)) rfl
theorem w3_71 : Cond.code yX7_down cX7_down 3 (some .int) ∈ gw := gw_in (tb_3 (List.mem_of_getElem? (i := 71) rfl)) rfl
theorem w3_72 : Cond.methodLink RX7 264 yX6_lowestArches ∈ gw := gw_in (tb_3 (List.mem_of_getElem? (i := 72) rfl)) rfl
theorem w3_73 : Cond.instanceMethod yX6_lowestArches ∈ gw := gw_in (tb_3 (List.mem_of_getElem? (i := 73) rfl)) rfl
theorem w3_74 : Cond.selects RX6 yX6_lowestArches yX6_lowestArches ∈ gw := gw_in (tb_3 (List.mem_of_getElem? (i := 74) rfl)) rfl
theorem w3_75 : Cond.code yX6_lowestArches cX6_lowestArches 3 (some .int) ∈ gw := gw_in (tb_3 (List.mem_of_getElem? (i := 75) rfl)) rfl
theorem w3_76 : Cond.methodLink RL 114 yX7_safe ∈ gw := gw_in (tb_3 (List.mem_of_getElem? (i := 76) rfl)) rfl
theorem w3_77 : Cond.instanceMethod yX7_safe ∈ gw := gw_in (tb_3 (List.mem_of_getElem? (i := 77) rfl)) rfl
theorem w3_78 : Cond.selects RX7 yX7_safe yX7_safe ∈ gw := gw_in (tb_3 (List.mem_of_getElem? (i := 78) rfl)) rfl
theorem w3_79 : Cond.code yX7_safe cX7_safe 4 (some .int) ∈ gw := gw_in (tb_3 (List.mem_of_getElem? (i := 79) rfl)) rfl
theorem w3_80 : Cond.methodLink RL 118 yX7_loudest ∈ gw := gw_in (tb_3 (List.mem_of_getElem? (i := 80) rfl)) rfl
theorem w3_81 : Cond.instanceMethod yX7_loudest ∈ gw := gw_in (tb_3 (List.mem_of_getElem? (i := 81) rfl)) rfl
theorem w3_82 : Cond.selects RX7 yX7_loudest yX7_loudest ∈ gw := gw_in (tb_3 (List.mem_of_getElem? (i := 82) rfl)) rfl
theorem w3_83 : Cond.code yX7_loudest cX7_loudest 8 (some .int) ∈ gw := gw_in (tb_3 (List.mem_of_getElem? (i := 83) rfl)) rfl
theorem w3_84 : Cond.methodLink RX7 267 yX6_allHold ∈ gw := gw_in (tb_3 (List.mem_of_getElem? (i := 84) rfl)) rfl
theorem w3_85 : Cond.instanceMethod yX6_allHold ∈ gw := gw_in (tb_3 (List.mem_of_getElem? (i := 85) rfl)) rfl
theorem w3_86 : Cond.selects RX6 yX6_allHold yX6_allHold ∈ gw := gw_in (tb_3 (List.mem_of_getElem? (i := 86) rfl)) rfl
theorem w3_87 : Cond.code yX6_allHold cX6_allHold 4 (some .int) ∈ gw := gw_in (tb_3 (List.mem_of_getElem? (i := 87) rfl)) rfl
theorem w3_88 : Cond.methodLink RL 122 yX7_weakest ∈ gw := gw_in (tb_3 (List.mem_of_getElem? (i := 88) rfl)) rfl
theorem w3_89 : Cond.instanceMethod yX7_weakest ∈ gw := gw_in (tb_3 (List.mem_of_getElem? (i := 89) rfl)) rfl
theorem w3_90 : Cond.selects RX7 yX7_weakest yX7_weakest ∈ gw := gw_in (tb_3 (List.mem_of_getElem? (i := 90) rfl)) rfl
theorem w3_91 : Cond.code yX7_weakest cX7_weakest 5 (some .int) ∈ gw := gw_in (tb_3 (List.mem_of_getElem? (i := 91) rfl)) rfl
theorem w3_92 : Cond.methodLink RL 126 yX7_trades ∈ gw := gw_in (tb_3 (List.mem_of_getElem? (i := 92) rfl)) rfl
theorem w3_93 : Cond.instanceMethod yX7_trades ∈ gw := gw_in (tb_3 (List.mem_of_getElem? (i := 93) rfl)) rfl
theorem w3_94 : Cond.selects RX7 yX7_trades yX7_trades ∈ gw := gw_in (tb_3 (List.mem_of_getElem? (i := 94) rfl)) rfl
theorem w3_95 : Cond.code yX7_trades cX7_trades 7 (some .int) ∈ gw := gw_in (tb_3 (List.mem_of_getElem? (i := 95) rfl)) rfl
theorem w3_96 : Cond.methodLink RL 130 yX7_needs ∈ gw := gw_in (tb_3 (List.mem_of_getElem? (i := 96) rfl)) rfl
theorem w3_97 : Cond.instanceMethod yX7_needs ∈ gw := gw_in (tb_3 (List.mem_of_getElem? (i := 97) rfl)) rfl
theorem w3_98 : Cond.selects RX7 yX7_needs yX7_needs ∈ gw := gw_in (tb_3 (List.mem_of_getElem? (i := 98) rfl)) rfl
theorem w3_99 : Cond.code yX7_needs cX7_needs 8 (some .int) ∈ gw := gw_in (tb_3 (List.mem_of_getElem? (i := 99) rfl)) rfl
theorem w3_100 : Cond.methodLink RX7 270 yX6_holdBy ∈ gw := gw_in (tb_3 (List.mem_of_getElem? (i := 100) rfl)) rfl
theorem w3_101 : Cond.methodLink RL 134 yX7_guards ∈ gw := gw_in (tb_3 (List.mem_of_getElem? (i := 101) rfl)) rfl
theorem w3_102 : Cond.instanceMethod yX7_guards ∈ gw := gw_in (tb_3 (List.mem_of_getElem? (i := 102) rfl)) rfl
theorem w3_103 : Cond.selects RX7 yX7_guards yX7_guards ∈ gw := gw_in (tb_3 (List.mem_of_getElem? (i := 103) rfl)) rfl
theorem w3_104 : Cond.code yX7_guards cX7_guards 7 (some .int) ∈ gw := gw_in (tb_3 (List.mem_of_getElem? (i := 104) rfl)) rfl
theorem w3_105 : Cond.methodLink RX7 274 yX7_findWhoHoldsAlone ∈ gw := gw_in (tb_3 (List.mem_of_getElem? (i := 105) rfl)) rfl
theorem w3_107 : Cond.instanceMethod yX7_findWhoHoldsAlone ∈ gw := gw_in (tb_3 (List.mem_of_getElem? (i := 107) rfl)) rfl
theorem w3_108 : Cond.code yX7_findWhoHoldsAlone cX7_findWhoHoldsAlone 3 none ∈ gw := gw_in (tb_3 (List.mem_of_getElem? (i := 108) rfl)) rfl
theorem w3_109 : Cond.methodLink RX7 286 yX4_purr ∈ gw := gw_in (tb_3 (List.mem_of_getElem? (i := 109) rfl)) rfl
theorem w3_110 : Cond.methodLink RX7 277 yX6_loadedArches ∈ gw := gw_in (tb_3 (List.mem_of_getElem? (i := 110) rfl)) rfl
theorem w3_111 : Cond.instanceMethod yX6_loadedArches ∈ gw := gw_in (tb_3 (List.mem_of_getElem? (i := 111) rfl)) rfl
theorem w3_112 : Cond.selects RX6 yX6_loadedArches yX6_loadedArches ∈ gw := gw_in (tb_3 (List.mem_of_getElem? (i := 112) rfl)) rfl
theorem w3_113 : Cond.code yX6_loadedArches cX6_loadedArches 3 (some .int) ∈ gw := gw_in (tb_3 (List.mem_of_getElem? (i := 113) rfl)) rfl
theorem w3_114 : Cond.methodLink RX7 280 yX7_mostGuarded ∈ gw := gw_in (tb_3 (List.mem_of_getElem? (i := 114) rfl)) rfl
theorem w3_116 : Cond.instanceMethod yX7_mostGuarded ∈ gw := gw_in (tb_3 (List.mem_of_getElem? (i := 116) rfl)) rfl
theorem w3_117 : Cond.code yX7_mostGuarded cX7_mostGuarded 10 (some .int) ∈ gw := gw_in (tb_3 (List.mem_of_getElem? (i := 117) rfl)) rfl
theorem w3_118 : Cond.fieldLink RX7 290 "PurringHolds" "SETS_WITHOUT" "[J" ∈ gw := gw_in (tb_3 (List.mem_of_getElem? (i := 118) rfl)) rfl
theorem w3_120 : Cond.methodLink RX7 283 yX7_leastGuard ∈ gw := gw_in (tb_3 (List.mem_of_getElem? (i := 120) rfl)) rfl
theorem w3_122 : Cond.instanceMethod yX7_leastGuard ∈ gw := gw_in (tb_3 (List.mem_of_getElem? (i := 122) rfl)) rfl
theorem w3_123 : Cond.code yX7_leastGuard cX7_leastGuard 7 (some .int) ∈ gw := gw_in (tb_3 (List.mem_of_getElem? (i := 123) rfl)) rfl
theorem w3_124 : Cond.methodLink RL 138 yX7_best ∈ gw := gw_in (tb_3 (List.mem_of_getElem? (i := 124) rfl)) rfl
theorem w3_125 : Cond.instanceMethod yX7_best ∈ gw := gw_in (tb_3 (List.mem_of_getElem? (i := 125) rfl)) rfl
theorem w3_126 : Cond.selects RX7 yX7_best yX7_best ∈ gw := gw_in (tb_3 (List.mem_of_getElem? (i := 126) rfl)) rfl
theorem w3_127 : Cond.code yX7_best cX7_best 6 (some .int) ∈ gw := gw_in (tb_3 (List.mem_of_getElem? (i := 127) rfl)) rfl
theorem w3_128 : Cond.methodLink RX7 156 yX6_hasCat ∈ gw := gw_in (tb_3 (List.mem_of_getElem? (i := 128) rfl)) rfl
theorem w3_129 : Cond.methodLink RX7 293 yX7_sagsIn ∈ gw := gw_in (tb_3 (List.mem_of_getElem? (i := 129) rfl)) rfl
theorem w3_131 : Cond.instanceMethod yX7_sagsIn ∈ gw := gw_in (tb_3 (List.mem_of_getElem? (i := 131) rfl)) rfl
theorem w3_132 : Cond.code yX7_sagsIn cX7_sagsIn 2 (some .int) ∈ gw := gw_in (tb_3 (List.mem_of_getElem? (i := 132) rfl)) rfl
theorem w3_133 : Cond.methodLink RL 142 yX7_cheers ∈ gw := gw_in (tb_3 (List.mem_of_getElem? (i := 133) rfl)) rfl
theorem w3_134 : Cond.instanceMethod yX7_cheers ∈ gw := gw_in (tb_3 (List.mem_of_getElem? (i := 134) rfl)) rfl
theorem w3_135 : Cond.selects RX7 yX7_cheers yX7_cheers ∈ gw := gw_in (tb_3 (List.mem_of_getElem? (i := 135) rfl)) rfl
theorem w3_136 : Cond.code yX7_cheers cX7_cheers 5 (some .int) ∈ gw := gw_in (tb_3 (List.mem_of_getElem? (i := 136) rfl)) rfl
theorem w3_137 : Cond.methodLink RL 146 yX7_bears ∈ gw := gw_in (tb_3 (List.mem_of_getElem? (i := 137) rfl)) rfl
theorem w3_138 : Cond.instanceMethod yX7_bears ∈ gw := gw_in (tb_3 (List.mem_of_getElem? (i := 138) rfl)) rfl
theorem w3_139 : Cond.selects RX7 yX7_bears yX7_bears ∈ gw := gw_in (tb_3 (List.mem_of_getElem? (i := 139) rfl)) rfl
theorem w3_140 : Cond.code yX7_bears cX7_bears 4 (some .int) ∈ gw := gw_in (tb_3 (List.mem_of_getElem? (i := 140) rfl)) rfl
theorem w3_141 : Cond.methodLink RX7 296 yX5_faultInTrains ∈ gw := gw_in (tb_3 (List.mem_of_getElem? (i := 141) rfl)) rfl
theorem w3_142 : Cond.instanceMethod yX5_faultInTrains ∈ gw := gw_in (tb_3 (List.mem_of_getElem? (i := 142) rfl)) rfl
theorem w3_143 : Cond.selects RX5 yX5_faultInTrains yX5_faultInTrains ∈ gw := gw_in (tb_3 (List.mem_of_getElem? (i := 143) rfl)) rfl
theorem w3_144 : Cond.code yX5_faultInTrains cX5_faultInTrains 2 (some .int) ∈ gw := gw_in (tb_3 (List.mem_of_getElem? (i := 144) rfl)) rfl
theorem w3_145 : Cond.methodLink RX7 299 yX7_trainsBorne ∈ gw := gw_in (tb_3 (List.mem_of_getElem? (i := 145) rfl)) rfl
theorem w3_147 : Cond.instanceMethod yX7_trainsBorne ∈ gw := gw_in (tb_3 (List.mem_of_getElem? (i := 147) rfl)) rfl
theorem w3_148 : Cond.code yX7_trainsBorne cX7_trainsBorne 5 (some .int) ∈ gw := gw_in (tb_3 (List.mem_of_getElem? (i := 148) rfl)) rfl
theorem w3_149 : Cond.methodLink RL 150 yX7_trolley ∈ gw := gw_in (tb_3 (List.mem_of_getElem? (i := 149) rfl)) rfl
theorem w3_150 : Cond.instanceMethod yX7_trolley ∈ gw := gw_in (tb_3 (List.mem_of_getElem? (i := 150) rfl)) rfl
theorem w3_151 : Cond.selects RX7 yX7_trolley yX7_trolley ∈ gw := gw_in (tb_3 (List.mem_of_getElem? (i := 151) rfl)) rfl
theorem w3_152 : Cond.code yX7_trolley cX7_trolley 5 (some .int) ∈ gw := gw_in (tb_3 (List.mem_of_getElem? (i := 152) rfl)) rfl
theorem w3_153 : Cond.methodLink RX7 302 yX6_farthestSagging ∈ gw := gw_in (tb_3 (List.mem_of_getElem? (i := 153) rfl)) rfl
theorem w3_154 : Cond.instanceMethod yX6_farthestSagging ∈ gw := gw_in (tb_3 (List.mem_of_getElem? (i := 154) rfl)) rfl
theorem w3_155 : Cond.selects RX6 yX6_farthestSagging yX6_farthestSagging ∈ gw := gw_in (tb_3 (List.mem_of_getElem? (i := 155) rfl)) rfl
theorem w3_156 : Cond.code yX6_farthestSagging cX6_farthestSagging 5 (some .int) ∈ gw := gw_in (tb_3 (List.mem_of_getElem? (i := 156) rfl)) rfl
theorem w3_157 : Cond.methodLink RX7 305 yX7_stepsOf ∈ gw := gw_in (tb_3 (List.mem_of_getElem? (i := 157) rfl)) rfl
theorem w3_158 : Cond.static yX7_stepsOf ∈ gw := gw_in (tb_3 (List.mem_of_getElem? (i := 158) rfl)) rfl
theorem w3_159 : Cond.code yX7_stepsOf cX7_stepsOf 3 (some .int) ∈ gw := gw_in (tb_3 (List.mem_of_getElem? (i := 159) rfl)) rfl
theorem w3_160 : Cond.methodLink RL 154 yX7_depot ∈ gw := gw_in (tb_3 (List.mem_of_getElem? (i := 160) rfl)) rfl
theorem w3_161 : Cond.instanceMethod yX7_depot ∈ gw := gw_in (tb_3 (List.mem_of_getElem? (i := 161) rfl)) rfl
theorem w3_162 : Cond.selects RX7 yX7_depot yX7_depot ∈ gw := gw_in (tb_3 (List.mem_of_getElem? (i := 162) rfl)) rfl
theorem w3_163 : Cond.code yX7_depot cX7_depot 5 (some .int) ∈ gw := gw_in (tb_3 (List.mem_of_getElem? (i := 163) rfl)) rfl
theorem w3_164 : Cond.methodLink RL 158 yX7_felt ∈ gw := gw_in (tb_3 (List.mem_of_getElem? (i := 164) rfl)) rfl
theorem w3_165 : Cond.instanceMethod yX7_felt ∈ gw := gw_in (tb_3 (List.mem_of_getElem? (i := 165) rfl)) rfl
theorem w3_166 : Cond.selects RX7 yX7_felt yX7_felt ∈ gw := gw_in (tb_3 (List.mem_of_getElem? (i := 166) rfl)) rfl
theorem w3_167 : Cond.code yX7_felt cX7_felt 3 (some .int) ∈ gw := gw_in (tb_3 (List.mem_of_getElem? (i := 167) rfl)) rfl
theorem w3_168 : Cond.methodLink RX7 308 yX1_add ∈ gw := gw_in (tb_3 (List.mem_of_getElem? (i := 168) rfl)) rfl
theorem w3_169 : Cond.instanceMethod yX1_add ∈ gw := gw_in (tb_3 (List.mem_of_getElem? (i := 169) rfl)) rfl
theorem w3_170 : Cond.selects RX1 yX1_add yX1_add ∈ gw := gw_in (tb_3 (List.mem_of_getElem? (i := 170) rfl)) rfl
theorem w3_171 : Cond.code yX1_add cX1_add 3 (some .int) ∈ gw := gw_in (tb_3 (List.mem_of_getElem? (i := 171) rfl)) rfl
theorem w3_172 : Cond.methodLink RL 162 yX7_forget ∈ gw := gw_in (tb_3 (List.mem_of_getElem? (i := 172) rfl)) rfl
theorem w3_173 : Cond.instanceMethod yX7_forget ∈ gw := gw_in (tb_3 (List.mem_of_getElem? (i := 173) rfl)) rfl
theorem w3_174 : Cond.selects RX7 yX7_forget yX7_forget ∈ gw := gw_in (tb_3 (List.mem_of_getElem? (i := 174) rfl)) rfl
theorem w3_175 : Cond.code yX7_forget cX7_forget 1 (some .int) ∈ gw := gw_in (tb_3 (List.mem_of_getElem? (i := 175) rfl)) rfl
theorem w3_176 : Cond.methodLink RX7 310 yX1_empty ∈ gw := gw_in (tb_3 (List.mem_of_getElem? (i := 176) rfl)) rfl
theorem w3_177 : Cond.instanceMethod yX1_empty ∈ gw := gw_in (tb_3 (List.mem_of_getElem? (i := 177) rfl)) rfl
theorem w3_178 : Cond.selects RX1 yX1_empty yX1_empty ∈ gw := gw_in (tb_3 (List.mem_of_getElem? (i := 178) rfl)) rfl
theorem w3_179 : Cond.code yX1_empty cX1_empty 2 (some .int) ∈ gw := gw_in (tb_3 (List.mem_of_getElem? (i := 179) rfl)) rfl
theorem w3_180 : Cond.methodLink RL 166 yX7_fits ∈ gw := gw_in (tb_3 (List.mem_of_getElem? (i := 180) rfl)) rfl
theorem w3_181 : Cond.instanceMethod yX7_fits ∈ gw := gw_in (tb_3 (List.mem_of_getElem? (i := 181) rfl)) rfl
theorem w3_182 : Cond.selects RX7 yX7_fits yX7_fits ∈ gw := gw_in (tb_3 (List.mem_of_getElem? (i := 182) rfl)) rfl
theorem w3_183 : Cond.code yX7_fits cX7_fits 2 (some .int) ∈ gw := gw_in (tb_3 (List.mem_of_getElem? (i := 183) rfl)) rfl
theorem w3_184 : Cond.methodLink RX7 313 yX7_findPurrs ∈ gw := gw_in (tb_3 (List.mem_of_getElem? (i := 184) rfl)) rfl
theorem w3_186 : Cond.instanceMethod yX7_findPurrs ∈ gw := gw_in (tb_3 (List.mem_of_getElem? (i := 186) rfl)) rfl
theorem w3_187 : Cond.code yX7_findPurrs cX7_findPurrs 2 none ∈ gw := gw_in (tb_3 (List.mem_of_getElem? (i := 187) rfl)) rfl
theorem w3_188 : Cond.methodLink RX7 171 yX6_purrOf ∈ gw := gw_in (tb_3 (List.mem_of_getElem? (i := 188) rfl)) rfl
theorem w3_189 : Cond.instanceMethod yX6_purrOf ∈ gw := gw_in (tb_3 (List.mem_of_getElem? (i := 189) rfl)) rfl
theorem w3_190 : Cond.selects RX6 yX6_purrOf yX6_purrOf ∈ gw := gw_in (tb_3 (List.mem_of_getElem? (i := 190) rfl)) rfl
theorem w3_191 : Cond.code yX6_purrOf cX6_purrOf 3 (some .int) ∈ gw := gw_in (tb_3 (List.mem_of_getElem? (i := 191) rfl)) rfl
theorem w3_192 : Cond.methodLink RX7 316 yX7_fittingCats ∈ gw := gw_in (tb_3 (List.mem_of_getElem? (i := 192) rfl)) rfl
theorem w3_194 : Cond.instanceMethod yX7_fittingCats ∈ gw := gw_in (tb_3 (List.mem_of_getElem? (i := 194) rfl)) rfl
theorem w3_195 : Cond.code yX7_fittingCats cX7_fittingCats 3 (some .int) ∈ gw := gw_in (tb_3 (List.mem_of_getElem? (i := 195) rfl)) rfl
theorem w3_196 : Cond.methodLink RX7 319 yX7_fitsWithout ∈ gw := gw_in (tb_3 (List.mem_of_getElem? (i := 196) rfl)) rfl
theorem w3_198 : Cond.instanceMethod yX7_fitsWithout ∈ gw := gw_in (tb_3 (List.mem_of_getElem? (i := 198) rfl)) rfl
theorem w3_199 : Cond.code yX7_fitsWithout cX7_fitsWithout 3 (some .boolean) ∈ gw := gw_in (tb_3 (List.mem_of_getElem? (i := 199) rfl)) rfl
theorem w3_200 : Cond.methodLink RX7 326 yX7_holdWithout ∈ gw := gw_in (tb_3 (List.mem_of_getElem? (i := 200) rfl)) rfl
theorem w3_202 : Cond.instanceMethod yX7_holdWithout ∈ gw := gw_in (tb_3 (List.mem_of_getElem? (i := 202) rfl)) rfl
theorem w3_203 : Cond.code yX7_holdWithout cX7_holdWithout 5 (some .int) ∈ gw := gw_in (tb_3 (List.mem_of_getElem? (i := 203) rfl)) rfl
theorem w3_204 : Cond.methodLink RL 170 yX7_feels ∈ gw := gw_in (tb_3 (List.mem_of_getElem? (i := 204) rfl)) rfl
theorem w3_205 : Cond.instanceMethod yX7_feels ∈ gw := gw_in (tb_3 (List.mem_of_getElem? (i := 205) rfl)) rfl
theorem w3_206 : Cond.selects RX7 yX7_feels yX7_feels ∈ gw := gw_in (tb_3 (List.mem_of_getElem? (i := 206) rfl)) rfl
theorem w3_207 : Cond.code yX7_feels cX7_feels 6 (some .int) ∈ gw := gw_in (tb_3 (List.mem_of_getElem? (i := 207) rfl)) rfl
theorem w3_208 : Cond.methodLink RX7 332 yX7_mostLeft ∈ gw := gw_in (tb_3 (List.mem_of_getElem? (i := 208) rfl)) rfl
theorem w3_210 : Cond.instanceMethod yX7_mostLeft ∈ gw := gw_in (tb_3 (List.mem_of_getElem? (i := 210) rfl)) rfl
theorem w3_211 : Cond.code yX7_mostLeft cX7_mostLeft 8 (some .int) ∈ gw := gw_in (tb_3 (List.mem_of_getElem? (i := 211) rfl)) rfl
theorem w3_212 : Cond.methodLink RL 174 yX7_spreads ∈ gw := gw_in (tb_3 (List.mem_of_getElem? (i := 212) rfl)) rfl
theorem w3_213 : Cond.instanceMethod yX7_spreads ∈ gw := gw_in (tb_3 (List.mem_of_getElem? (i := 213) rfl)) rfl
theorem w3_214 : Cond.selects RX7 yX7_spreads yX7_spreads ∈ gw := gw_in (tb_3 (List.mem_of_getElem? (i := 214) rfl)) rfl
theorem w3_215 : Cond.code yX7_spreads cX7_spreads 8 (some .int) ∈ gw := gw_in (tb_3 (List.mem_of_getElem? (i := 215) rfl)) rfl
theorem w3_216 : Cond.methodLink RX7 335 yX6_spreadFrom ∈ gw := gw_in (tb_3 (List.mem_of_getElem? (i := 216) rfl)) rfl
theorem w3_217 : Cond.instanceMethod yX6_spreadFrom ∈ gw := gw_in (tb_3 (List.mem_of_getElem? (i := 217) rfl)) rfl
theorem w3_218 : Cond.selects RX6 yX6_spreadFrom yX6_spreadFrom ∈ gw := gw_in (tb_3 (List.mem_of_getElem? (i := 218) rfl)) rfl
theorem w3_219 : Cond.code yX6_spreadFrom cX6_spreadFrom 5 (some .int) ∈ gw := gw_in (tb_3 (List.mem_of_getElem? (i := 219) rfl)) rfl
theorem w3_220 : Cond.methodLink RL 178 yX7_heard ∈ gw := gw_in (tb_3 (List.mem_of_getElem? (i := 220) rfl)) rfl
theorem w3_221 : Cond.instanceMethod yX7_heard ∈ gw := gw_in (tb_3 (List.mem_of_getElem? (i := 221) rfl)) rfl
theorem w3_222 : Cond.selects RX7 yX7_heard yX7_heard ∈ gw := gw_in (tb_3 (List.mem_of_getElem? (i := 222) rfl)) rfl
theorem w3_223 : Cond.code yX7_heard cX7_heard 3 (some .int) ∈ gw := gw_in (tb_3 (List.mem_of_getElem? (i := 223) rfl)) rfl
theorem w3_224 : Cond.methodLink RX7 338 yX7_highestHeard ∈ gw := gw_in (tb_3 (List.mem_of_getElem? (i := 224) rfl)) rfl
theorem w3_225 : Cond.static yX7_highestHeard ∈ gw := gw_in (tb_3 (List.mem_of_getElem? (i := 225) rfl)) rfl
theorem w3_226 : Cond.code yX7_highestHeard cX7_highestHeard 1 (some .int) ∈ gw := gw_in (tb_3 (List.mem_of_getElem? (i := 226) rfl)) rfl
theorem w3_227 : Cond.methodLink RL 182 yX7_denies ∈ gw := gw_in (tb_3 (List.mem_of_getElem? (i := 227) rfl)) rfl
theorem w3_228 : Cond.instanceMethod yX7_denies ∈ gw := gw_in (tb_3 (List.mem_of_getElem? (i := 228) rfl)) rfl
theorem w3_229 : Cond.selects RX7 yX7_denies yX7_denies ∈ gw := gw_in (tb_3 (List.mem_of_getElem? (i := 229) rfl)) rfl
theorem w3_230 : Cond.code yX7_denies cX7_denies 1 (some .int) ∈ gw := gw_in (tb_3 (List.mem_of_getElem? (i := 230) rfl)) rfl
theorem w3_231 : Cond.methodLink RL 186 yX7_suits ∈ gw := gw_in (tb_3 (List.mem_of_getElem? (i := 231) rfl)) rfl
theorem w3_232 : Cond.instanceMethod yX7_suits ∈ gw := gw_in (tb_3 (List.mem_of_getElem? (i := 232) rfl)) rfl
theorem w3_233 : Cond.selects RX7 yX7_suits yX7_suits ∈ gw := gw_in (tb_3 (List.mem_of_getElem? (i := 233) rfl)) rfl
theorem w3_234 : Cond.code yX7_suits cX7_suits 2 (some .int) ∈ gw := gw_in (tb_3 (List.mem_of_getElem? (i := 234) rfl)) rfl
theorem w3_235 : Cond.methodLink RX7 341 yX7_suitingCats ∈ gw := gw_in (tb_3 (List.mem_of_getElem? (i := 235) rfl)) rfl
theorem w3_237 : Cond.instanceMethod yX7_suitingCats ∈ gw := gw_in (tb_3 (List.mem_of_getElem? (i := 237) rfl)) rfl
theorem w3_238 : Cond.code yX7_suitingCats cX7_suitingCats 3 (some .int) ∈ gw := gw_in (tb_3 (List.mem_of_getElem? (i := 238) rfl)) rfl
theorem w3_239 : Cond.methodLink RX7 344 yX7_catsOfWhom ∈ gw := gw_in (tb_3 (List.mem_of_getElem? (i := 239) rfl)) rfl
theorem w4_1 : Cond.instanceMethod yX7_catsOfWhom ∈ gw := gw_in (tb_4 (List.mem_of_getElem? (i := 1) rfl)) rfl
theorem w4_2 : Cond.code yX7_catsOfWhom cX7_catsOfWhom 5 (some .int) ∈ gw := gw_in (tb_4 (List.mem_of_getElem? (i := 2) rfl)) rfl
theorem w4_3 : Cond.methodLink RX7 347 yX7_isSo ∈ gw := gw_in (tb_4 (List.mem_of_getElem? (i := 3) rfl)) rfl
theorem w4_5 : Cond.instanceMethod yX7_isSo ∈ gw := gw_in (tb_4 (List.mem_of_getElem? (i := 5) rfl)) rfl
theorem w4_6 : Cond.code yX7_isSo cX7_isSo 4 (some .boolean) ∈ gw := gw_in (tb_4 (List.mem_of_getElem? (i := 6) rfl)) rfl
theorem w4_7 : Cond.methodLink RL 190 yX7_asks ∈ gw := gw_in (tb_4 (List.mem_of_getElem? (i := 7) rfl)) rfl
theorem w4_8 : Cond.instanceMethod yX7_asks ∈ gw := gw_in (tb_4 (List.mem_of_getElem? (i := 8) rfl)) rfl
theorem w4_9 : Cond.selects RX7 yX7_asks yX7_asks ∈ gw := gw_in (tb_4 (List.mem_of_getElem? (i := 9) rfl)) rfl
theorem w4_10 : Cond.code yX7_asks cX7_asks 9 (some .int) ∈ gw := gw_in (tb_4 (List.mem_of_getElem? (i := 10) rfl)) rfl
theorem w4_11 : Cond.methodLink RL 194 yX7_odds ∈ gw := gw_in (tb_4 (List.mem_of_getElem? (i := 11) rfl)) rfl
theorem w4_12 : Cond.instanceMethod yX7_odds ∈ gw := gw_in (tb_4 (List.mem_of_getElem? (i := 12) rfl)) rfl
theorem w4_13 : Cond.selects RX7 yX7_odds yX7_odds ∈ gw := gw_in (tb_4 (List.mem_of_getElem? (i := 13) rfl)) rfl
theorem w4_14 : Cond.code yX7_odds cX7_odds 3 (some .int) ∈ gw := gw_in (tb_4 (List.mem_of_getElem? (i := 14) rfl)) rfl
theorem w4_15 : Cond.methodLink RX7 351 yX7_waysToHold ∈ gw := gw_in (tb_4 (List.mem_of_getElem? (i := 15) rfl)) rfl
theorem w4_17 : Cond.instanceMethod yX7_waysToHold ∈ gw := gw_in (tb_4 (List.mem_of_getElem? (i := 17) rfl)) rfl
theorem w4_18 : Cond.code yX7_waysToHold cX7_waysToHold 6 (some .long) ∈ gw := gw_in (tb_4 (List.mem_of_getElem? (i := 18) rfl)) rfl
theorem w4_19 : Cond.methodLink RX7 363 yX7_addToWays ∈ gw := gw_in (tb_4 (List.mem_of_getElem? (i := 19) rfl)) rfl
theorem w4_21 : Cond.instanceMethod yX7_addToWays ∈ gw := gw_in (tb_4 (List.mem_of_getElem? (i := 21) rfl)) rfl
theorem w4_22 : Cond.code yX7_addToWays cX7_addToWays 6 none ∈ gw := gw_in (tb_4 (List.mem_of_getElem? (i := 22) rfl)) rfl
theorem w4_23 : Cond.methodLink RX7 146 yX6_catsIn ∈ gw := gw_in (tb_4 (List.mem_of_getElem? (i := 23) rfl)) rfl
theorem w4_24 : Cond.methodLink RX7 355 yX7_tensFor ∈ gw := gw_in (tb_4 (List.mem_of_getElem? (i := 24) rfl)) rfl
theorem w4_25 : Cond.static yX7_tensFor ∈ gw := gw_in (tb_4 (List.mem_of_getElem? (i := 25) rfl)) rfl
theorem w4_26 : Cond.code yX7_tensFor cX7_tensFor 4 (some .long) ∈ gw := gw_in (tb_4 (List.mem_of_getElem? (i := 26) rfl)) rfl
theorem w4_27 : Cond.constantLong RX7 367 10 ∈ gw := gw_in (tb_4 (List.mem_of_getElem? (i := 27) rfl)) rfl
theorem w4_28 : Cond.methodLink RX7 359 yX7_tellFraction ∈ gw := gw_in (tb_4 (List.mem_of_getElem? (i := 28) rfl)) rfl
theorem w4_30 : Cond.instanceMethod yX7_tellFraction ∈ gw := gw_in (tb_4 (List.mem_of_getElem? (i := 30) rfl)) rfl
theorem w4_31 : Cond.code yX7_tellFraction cX7_tellFraction 12 none ∈ gw := gw_in (tb_4 (List.mem_of_getElem? (i := 31) rfl)) rfl
theorem w4_32 : Cond.methodLink RL 198 yX7_stands ∈ gw := gw_in (tb_4 (List.mem_of_getElem? (i := 32) rfl)) rfl
theorem w4_33 : Cond.instanceMethod yX7_stands ∈ gw := gw_in (tb_4 (List.mem_of_getElem? (i := 33) rfl)) rfl
theorem w4_34 : Cond.selects RX7 yX7_stands yX7_stands ∈ gw := gw_in (tb_4 (List.mem_of_getElem? (i := 34) rfl)) rfl
theorem w4_35 : Cond.code yX7_stands cX7_stands 5 (some .int) ∈ gw := gw_in (tb_4 (List.mem_of_getElem? (i := 35) rfl)) rfl
theorem w4_36 : Cond.methodLink RL 202 yX7_litters ∈ gw := gw_in (tb_4 (List.mem_of_getElem? (i := 36) rfl)) rfl
theorem w4_37 : Cond.instanceMethod yX7_litters ∈ gw := gw_in (tb_4 (List.mem_of_getElem? (i := 37) rfl)) rfl
theorem w4_38 : Cond.selects RX7 yX7_litters yX7_litters ∈ gw := gw_in (tb_4 (List.mem_of_getElem? (i := 38) rfl)) rfl
theorem w4_39 : Cond.code yX7_litters cX7_litters 3 (some .int) ∈ gw := gw_in (tb_4 (List.mem_of_getElem? (i := 39) rfl)) rfl
theorem w4_40 : Cond.methodLink RX7 369 yX7_nimberOf ∈ gw := gw_in (tb_4 (List.mem_of_getElem? (i := 40) rfl)) rfl
theorem w4_42 : Cond.instanceMethod yX7_nimberOf ∈ gw := gw_in (tb_4 (List.mem_of_getElem? (i := 42) rfl)) rfl
theorem w4_43 : Cond.code yX7_nimberOf cX7_nimberOf 5 (some .int) ∈ gw := gw_in (tb_4 (List.mem_of_getElem? (i := 43) rfl)) rfl
theorem w4_44 : Cond.methodLink RL 206 yX7_rests ∈ gw := gw_in (tb_4 (List.mem_of_getElem? (i := 44) rfl)) rfl
theorem w4_45 : Cond.instanceMethod yX7_rests ∈ gw := gw_in (tb_4 (List.mem_of_getElem? (i := 45) rfl)) rfl
theorem w4_46 : Cond.selects RX7 yX7_rests yX7_rests ∈ gw := gw_in (tb_4 (List.mem_of_getElem? (i := 46) rfl)) rfl
theorem w4_47 : Cond.code yX7_rests cX7_rests 5 (some .int) ∈ gw := gw_in (tb_4 (List.mem_of_getElem? (i := 47) rfl)) rfl
theorem w4_48 : Cond.methodLink RX7 372 yX7_staysAt ∈ gw := gw_in (tb_4 (List.mem_of_getElem? (i := 48) rfl)) rfl
theorem w4_49 : Cond.static yX7_staysAt ∈ gw := gw_in (tb_4 (List.mem_of_getElem? (i := 49) rfl)) rfl
theorem w4_50 : Cond.code yX7_staysAt cX7_staysAt 4 (some .boolean) ∈ gw := gw_in (tb_4 (List.mem_of_getElem? (i := 50) rfl)) rfl
theorem w4_51 : Cond.methodLink RX7 375 yX7_worthOf ∈ gw := gw_in (tb_4 (List.mem_of_getElem? (i := 51) rfl)) rfl
theorem w4_52 : Cond.static yX7_worthOf ∈ gw := gw_in (tb_4 (List.mem_of_getElem? (i := 52) rfl)) rfl
theorem w4_53 : Cond.code yX7_worthOf cX7_worthOf 3 (some .int) ∈ gw := gw_in (tb_4 (List.mem_of_getElem? (i := 53) rfl)) rfl
theorem w4_54 : Cond.methodLink RL 210 yX7_law ∈ gw := gw_in (tb_4 (List.mem_of_getElem? (i := 54) rfl)) rfl
theorem w4_55 : Cond.instanceMethod yX7_law ∈ gw := gw_in (tb_4 (List.mem_of_getElem? (i := 55) rfl)) rfl
theorem w4_56 : Cond.selects RX7 yX7_law yX7_law ∈ gw := gw_in (tb_4 (List.mem_of_getElem? (i := 56) rfl)) rfl
theorem w4_57 : Cond.code yX7_law cX7_law 5 (some .int) ∈ gw := gw_in (tb_4 (List.mem_of_getElem? (i := 57) rfl)) rfl
theorem w4_58 : Cond.methodLink RL 214 yX7_years ∈ gw := gw_in (tb_4 (List.mem_of_getElem? (i := 58) rfl)) rfl
theorem w4_59 : Cond.instanceMethod yX7_years ∈ gw := gw_in (tb_4 (List.mem_of_getElem? (i := 59) rfl)) rfl
theorem w4_60 : Cond.selects RX7 yX7_years yX7_years ∈ gw := gw_in (tb_4 (List.mem_of_getElem? (i := 60) rfl)) rfl
theorem w4_61 : Cond.code yX7_years cX7_years 5 (some .int) ∈ gw := gw_in (tb_4 (List.mem_of_getElem? (i := 61) rfl)) rfl
theorem w4_62 : Cond.methodLink RX7 381 yX7_drawnAct ∈ gw := gw_in (tb_4 (List.mem_of_getElem? (i := 62) rfl)) rfl
theorem w4_64 : Cond.instanceMethod yX7_drawnAct ∈ gw := gw_in (tb_4 (List.mem_of_getElem? (i := 64) rfl)) rfl
theorem w4_65 : Cond.code yX7_drawnAct cX7_drawnAct 3 (some .int) ∈ gw := gw_in (tb_4 (List.mem_of_getElem? (i := 65) rfl)) rfl
theorem w4_66 : Cond.methodLink RX7 387 yX0_below ∈ gw := gw_in (tb_4 (List.mem_of_getElem? (i := 66) rfl)) rfl
theorem w4_67 : Cond.instanceMethod yX0_below ∈ gw := gw_in (tb_4 (List.mem_of_getElem? (i := 67) rfl)) rfl
theorem w4_68 : Cond.selects RX0 yX0_below yX0_below ∈ gw := gw_in (tb_4 (List.mem_of_getElem? (i := 68) rfl)) rfl
theorem w4_69 : Cond.code yX0_below cX0_below 2 (some .int) ∈ gw := gw_in (tb_4 (List.mem_of_getElem? (i := 69) rfl)) rfl
theorem w4_70 : Cond.constant RX0 13 1103515245 ∈ gw := gw_in (tb_4 (List.mem_of_getElem? (i := 70) rfl)) rfl
theorem w4_71 : Cond.methodLink RL 218 yX7_keep ∈ gw := gw_in (tb_4 (List.mem_of_getElem? (i := 71) rfl)) rfl
theorem w4_72 : Cond.instanceMethod yX7_keep ∈ gw := gw_in (tb_4 (List.mem_of_getElem? (i := 72) rfl)) rfl
theorem w4_73 : Cond.selects RX7 yX7_keep yX7_keep ∈ gw := gw_in (tb_4 (List.mem_of_getElem? (i := 73) rfl)) rfl
theorem w4_74 : Cond.code yX7_keep cX7_keep 2 (some .boolean) ∈ gw := gw_in (tb_4 (List.mem_of_getElem? (i := 74) rfl)) rfl
theorem w4_75 : Cond.methodLink RL 222 yX7_again ∈ gw := gw_in (tb_4 (List.mem_of_getElem? (i := 75) rfl)) rfl
theorem w4_76 : Cond.instanceMethod yX7_again ∈ gw := gw_in (tb_4 (List.mem_of_getElem? (i := 76) rfl)) rfl
theorem w4_77 : Cond.selects RX7 yX7_again yX7_again ∈ gw := gw_in (tb_4 (List.mem_of_getElem? (i := 77) rfl)) rfl
theorem w4_78 : Cond.code yX7_again cX7_again 3 (some .boolean) ∈ gw := gw_in (tb_4 (List.mem_of_getElem? (i := 78) rfl)) rfl
theorem w4_79 : Cond.methodLink RL 226 yX7_count ∈ gw := gw_in (tb_4 (List.mem_of_getElem? (i := 79) rfl)) rfl
theorem w4_80 : Cond.instanceMethod yX7_count ∈ gw := gw_in (tb_4 (List.mem_of_getElem? (i := 80) rfl)) rfl
theorem w4_81 : Cond.selects RX7 yX7_count yX7_count ∈ gw := gw_in (tb_4 (List.mem_of_getElem? (i := 81) rfl)) rfl
theorem w4_82 : Cond.code yX7_count cX7_count 2 (some .int) ∈ gw := gw_in (tb_4 (List.mem_of_getElem? (i := 82) rfl)) rfl
theorem w4_83 : Cond.methodLink RL 49 yL_arch ∈ gw := gw_in (tb_4 (List.mem_of_getElem? (i := 83) rfl)) rfl
theorem w4_84 : Cond.static yL_arch ∈ gw := gw_in (tb_4 (List.mem_of_getElem? (i := 84) rfl)) rfl
theorem w4_86 : Cond.classLink RL 13 "java/util/NoSuchElementException" ∈ gw := gw_in (tb_4 (List.mem_of_getElem? (i := 86) rfl)) rfl
theorem w4_87 : Cond.methodLink RL 7 yX7_arch ∈ gw := gw_in (tb_4 (List.mem_of_getElem? (i := 87) rfl)) rfl
theorem w4_88 : Cond.instanceMethod yX7_arch ∈ gw := gw_in (tb_4 (List.mem_of_getElem? (i := 88) rfl)) rfl
theorem w4_89 : Cond.selects RX7 yX7_arch yX7_arch ∈ gw := gw_in (tb_4 (List.mem_of_getElem? (i := 89) rfl)) rfl
theorem w4_90 : Cond.code yX7_arch cX7_arch 3 (some .int) ∈ gw := gw_in (tb_4 (List.mem_of_getElem? (i := 90) rfl)) rfl
theorem w4_91 : Cond.classLink RX7 153 "java/util/NoSuchElementException" ∈ gw := gw_in (tb_4 (List.mem_of_getElem? (i := 91) rfl)) rfl
theorem w4_92 : Cond.instantiable "java/util/NoSuchElementException" 6 ∈ gw := gw_in (tb_4 (List.mem_of_getElem? (i := 92) rfl)) rfl
theorem w4_100 : Cond.selects "java/util/NoSuchElementException" ⟨"java/lang/Throwable", "fillInStackTrace", "(I)Ljava/lang/Throwable;"⟩ ⟨"java/lang/Throwable", "fillInStackTrace", "(I)Ljava/lang/Throwable;"⟩ ∈ gw := gw_in (tb_4 (List.mem_of_getElem? (i := 100) rfl)) rfl
theorem w4_101 : Cond.selects "java/util/NoSuchElementException" ⟨"java/lang/Throwable", "fillInStackTrace", "()Ljava/lang/Throwable;"⟩ ⟨"java/lang/Throwable", "fillInStackTrace", "()Ljava/lang/Throwable;"⟩ ∈ gw := gw_in (tb_4 (List.mem_of_getElem? (i := 101) rfl)) rfl
theorem w4_102 : Cond.lays "java/util/NoSuchElementException" "java/lang/Throwable" "cause" "Ljava/lang/Throwable;" ∈ gw := gw_in (tb_4 (List.mem_of_getElem? (i := 102) rfl)) rfl
theorem w4_103 : Cond.lays "java/lang/Throwable" "java/lang/Throwable" "cause" "Ljava/lang/Throwable;" ∈ gw := gw_in (tb_4 (List.mem_of_getElem? (i := 103) rfl)) rfl
theorem w4_104 : Cond.lays "java/util/NoSuchElementException" "java/lang/Throwable" "stackTrace" "[Ljava/lang/StackTraceElement;" ∈ gw := gw_in (tb_4 (List.mem_of_getElem? (i := 104) rfl)) rfl
theorem w4_105 : Cond.lays "java/lang/Throwable" "java/lang/Throwable" "stackTrace" "[Ljava/lang/StackTraceElement;" ∈ gw := gw_in (tb_4 (List.mem_of_getElem? (i := 105) rfl)) rfl
theorem w4_106 : Cond.lays "java/util/NoSuchElementException" "java/lang/Throwable" "suppressedExceptions" "Ljava/util/List;" ∈ gw := gw_in (tb_4 (List.mem_of_getElem? (i := 106) rfl)) rfl
theorem w4_107 : Cond.lays "java/lang/Throwable" "java/lang/Throwable" "suppressedExceptions" "Ljava/util/List;" ∈ gw := gw_in (tb_4 (List.mem_of_getElem? (i := 107) rfl)) rfl
theorem w4_108 : Cond.lays "java/util/NoSuchElementException" "java/lang/Throwable" "detailMessage" "Ljava/lang/String;" ∈ gw := gw_in (tb_4 (List.mem_of_getElem? (i := 108) rfl)) rfl
theorem w4_109 : Cond.lays "java/lang/Throwable" "java/lang/Throwable" "detailMessage" "Ljava/lang/String;" ∈ gw := gw_in (tb_4 (List.mem_of_getElem? (i := 109) rfl)) rfl
theorem w4_110 : Cond.lays "java/util/NoSuchElementException" "java/lang/Throwable" "backtrace" "Ljava/lang/Object;" ∈ gw := gw_in (tb_4 (List.mem_of_getElem? (i := 110) rfl)) rfl
theorem w4_111 : Cond.lays "java/lang/Throwable" "java/lang/Throwable" "backtrace" "Ljava/lang/Object;" ∈ gw := gw_in (tb_4 (List.mem_of_getElem? (i := 111) rfl)) rfl
theorem w4_112 : Cond.fieldLink "java/lang/Throwable" 198 "java/lang/Throwable" "backtrace" "Ljava/lang/Object;" ∈ gw := gw_in (tb_4 (List.mem_of_getElem? (i := 112) rfl)) rfl
theorem w4_114 : Cond.instanceMethod ⟨"java/lang/Throwable", "<init>", "()V"⟩ ∈ gw := gw_in (tb_4 (List.mem_of_getElem? (i := 114) rfl)) rfl
theorem w4_115 : Cond.code ⟨"java/lang/Throwable", "<init>", "()V"⟩ prog_19_method_1_code 1 none ∈ gw := gw_in (tb_4 (List.mem_of_getElem? (i := 115) rfl)) rfl
theorem w4_116 : Cond.methodLink "java/lang/Throwable" 1 ⟨"java/lang/Object", "<init>", "()V"⟩ ∈ gw := gw_in (tb_4 (List.mem_of_getElem? (i := 116) rfl)) rfl
theorem w4_117 : Cond.fieldLink "java/lang/Throwable" 13 "java/lang/Throwable" "UNASSIGNED_STACK" "[Ljava/lang/StackTraceElement;" ∈ gw := gw_in (tb_4 (List.mem_of_getElem? (i := 117) rfl)) rfl
theorem w4_119 : Cond.fieldLink "java/lang/Throwable" 20 "java/lang/Throwable" "SUPPRESSED_SENTINEL" "Ljava/util/List;" ∈ gw := gw_in (tb_4 (List.mem_of_getElem? (i := 119) rfl)) rfl
theorem w4_121 : Cond.methodLink "java/lang/Throwable" 27 ⟨"java/lang/Throwable", "fillInStackTrace", "()Ljava/lang/Throwable;"⟩ ∈ gw := gw_in (tb_4 (List.mem_of_getElem? (i := 121) rfl)) rfl
theorem w4_122 : Cond.instanceMethod ⟨"java/lang/Throwable", "fillInStackTrace", "()Ljava/lang/Throwable;"⟩ ∈ gw := gw_in (tb_4 (List.mem_of_getElem? (i := 122) rfl)) rfl
theorem w4_125 : Cond.methodLink "java/lang/Throwable" 202 ⟨"java/lang/Throwable", "fillInStackTrace", "(I)Ljava/lang/Throwable;"⟩ ∈ gw := gw_in (tb_4 (List.mem_of_getElem? (i := 125) rfl)) rfl
theorem w4_127 : Cond.instanceMethod ⟨"java/lang/Throwable", "fillInStackTrace", "(I)Ljava/lang/Throwable;"⟩ ∈ gw := gw_in (tb_4 (List.mem_of_getElem? (i := 127) rfl)) rfl
theorem w4_128 : Cond.instantiable "java/lang/Throwable" 6 ∈ gw := gw_in (tb_4 (List.mem_of_getElem? (i := 128) rfl)) rfl
theorem w4_129 : Cond.native ⟨"java/lang/Throwable", "fillInStackTrace", "(I)Ljava/lang/Throwable;"⟩ ∈ gw := gw_in (tb_4 (List.mem_of_getElem? (i := 129) rfl)) rfl
theorem w4_130 : Cond.methodLink RX7 155 ⟨"java/util/NoSuchElementException", "<init>", "()V"⟩ ∈ gw := gw_in (tb_4 (List.mem_of_getElem? (i := 130) rfl)) rfl
theorem w4_131 : Cond.instanceMethod ⟨"java/util/NoSuchElementException", "<init>", "()V"⟩ ∈ gw := gw_in (tb_4 (List.mem_of_getElem? (i := 131) rfl)) rfl
theorem w4_132 : Cond.code ⟨"java/util/NoSuchElementException", "<init>", "()V"⟩ prog_20_method_1_code 1 none ∈ gw := gw_in (tb_4 (List.mem_of_getElem? (i := 132) rfl)) rfl
theorem w4_133 : Cond.methodLink "java/util/NoSuchElementException" 1 ⟨"java/lang/RuntimeException", "<init>", "()V"⟩ ∈ gw := gw_in (tb_4 (List.mem_of_getElem? (i := 133) rfl)) rfl
theorem w4_134 : Cond.instanceMethod ⟨"java/lang/RuntimeException", "<init>", "()V"⟩ ∈ gw := gw_in (tb_4 (List.mem_of_getElem? (i := 134) rfl)) rfl
theorem w4_135 : Cond.code ⟨"java/lang/RuntimeException", "<init>", "()V"⟩ prog_17_method_1_code 1 none ∈ gw := gw_in (tb_4 (List.mem_of_getElem? (i := 135) rfl)) rfl
theorem w4_136 : Cond.methodLink "java/lang/RuntimeException" 1 ⟨"java/lang/Exception", "<init>", "()V"⟩ ∈ gw := gw_in (tb_4 (List.mem_of_getElem? (i := 136) rfl)) rfl
theorem w4_137 : Cond.instanceMethod ⟨"java/lang/Exception", "<init>", "()V"⟩ ∈ gw := gw_in (tb_4 (List.mem_of_getElem? (i := 137) rfl)) rfl
theorem w4_138 : Cond.code ⟨"java/lang/Exception", "<init>", "()V"⟩ prog_12_method_1_code 1 none ∈ gw := gw_in (tb_4 (List.mem_of_getElem? (i := 138) rfl)) rfl
theorem w4_139 : Cond.methodLink "java/lang/Exception" 1 ⟨"java/lang/Throwable", "<init>", "()V"⟩ ∈ gw := gw_in (tb_4 (List.mem_of_getElem? (i := 139) rfl)) rfl
theorem w4_141 : Cond.fieldLink "java/lang/Throwable" 7 "java/lang/Throwable" "cause" "Ljava/lang/Throwable;" ∈ gw := gw_in (tb_4 (List.mem_of_getElem? (i := 141) rfl)) rfl
theorem w4_142 : Cond.fieldLink "java/lang/Throwable" 17 "java/lang/Throwable" "stackTrace" "[Ljava/lang/StackTraceElement;" ∈ gw := gw_in (tb_4 (List.mem_of_getElem? (i := 142) rfl)) rfl
theorem w4_143 : Cond.fieldLink "java/lang/Throwable" 24 "java/lang/Throwable" "suppressedExceptions" "Ljava/util/List;" ∈ gw := gw_in (tb_4 (List.mem_of_getElem? (i := 143) rfl)) rfl
theorem w4_148 : Cond.lays "java/util/NoSuchElementException" "java/lang/Throwable" "depth" "I" ∈ gw := gw_in (tb_4 (List.mem_of_getElem? (i := 148) rfl)) rfl
theorem w4_152 : Cond.methodLink RL 58 yL_cat ∈ gw := gw_in (tb_4 (List.mem_of_getElem? (i := 152) rfl)) rfl
theorem w4_153 : Cond.static yL_cat ∈ gw := gw_in (tb_4 (List.mem_of_getElem? (i := 153) rfl)) rfl
theorem w4_155 : Cond.methodLink RL 15 yX7_cat ∈ gw := gw_in (tb_4 (List.mem_of_getElem? (i := 155) rfl)) rfl
theorem w4_156 : Cond.instanceMethod yX7_cat ∈ gw := gw_in (tb_4 (List.mem_of_getElem? (i := 156) rfl)) rfl
theorem w4_157 : Cond.selects RX7 yX7_cat yX7_cat ∈ gw := gw_in (tb_4 (List.mem_of_getElem? (i := 157) rfl)) rfl
theorem w4_158 : Cond.code yX7_cat cX7_cat 3 (some .int) ∈ gw := gw_in (tb_4 (List.mem_of_getElem? (i := 158) rfl)) rfl
theorem w4_159 : Cond.methodLink RL 230 yL_row ∈ gw := gw_in (tb_4 (List.mem_of_getElem? (i := 159) rfl)) rfl
theorem w4_160 : Cond.static yL_row ∈ gw := gw_in (tb_4 (List.mem_of_getElem? (i := 160) rfl)) rfl
theorem w4_162 : Cond.methodLink RL 18 yX7_row ∈ gw := gw_in (tb_4 (List.mem_of_getElem? (i := 162) rfl)) rfl
theorem w4_163 : Cond.instanceMethod yX7_row ∈ gw := gw_in (tb_4 (List.mem_of_getElem? (i := 163) rfl)) rfl
theorem w4_164 : Cond.selects RX7 yX7_row yX7_row ∈ gw := gw_in (tb_4 (List.mem_of_getElem? (i := 164) rfl)) rfl
theorem w4_165 : Cond.code yX7_row cX7_row 2 (some .long) ∈ gw := gw_in (tb_4 (List.mem_of_getElem? (i := 165) rfl)) rfl
theorem w4_166 : Cond.classLink RL 23 RX8 ∈ gw := gw_in (tb_4 (List.mem_of_getElem? (i := 166) rfl)) rfl
theorem w4_167 : Cond.instantiable RX8 42 ∈ gw := gw_in (tb_4 (List.mem_of_getElem? (i := 167) rfl)) rfl
theorem w4_168 : Cond.methodLink RL 25 yX8_init ∈ gw := gw_in (tb_4 (List.mem_of_getElem? (i := 168) rfl)) rfl
theorem w4_169 : Cond.instanceMethod yX8_init ∈ gw := gw_in (tb_4 (List.mem_of_getElem? (i := 169) rfl)) rfl
theorem w4_170 : Cond.code yX8_init cX8_init 1 none ∈ gw := gw_in (tb_4 (List.mem_of_getElem? (i := 170) rfl)) rfl
theorem w4_171 : Cond.methodLink RX8 3 ⟨"java/lang/Object", "<init>", "()V"⟩ ∈ gw := gw_in (tb_4 (List.mem_of_getElem? (i := 171) rfl)) rfl
theorem w4_172 : Cond.fieldLink RX8 9 "PurringHoldsModel" "now" "[I" ∈ gw := gw_in (tb_4 (List.mem_of_getElem? (i := 172) rfl)) rfl
theorem w4_173 : Cond.fieldLink RX8 89 "PurringHoldsModel" "arches" "I" ∈ gw := gw_in (tb_4 (List.mem_of_getElem? (i := 173) rfl)) rfl
theorem w4_174 : Cond.fieldLink RX8 96 "PurringHoldsModel" "cats" "I" ∈ gw := gw_in (tb_4 (List.mem_of_getElem? (i := 174) rfl)) rfl
theorem w4_175 : Cond.fieldLink RX8 13 "PurringHoldsModel" "text" "[B" ∈ gw := gw_in (tb_4 (List.mem_of_getElem? (i := 175) rfl)) rfl
theorem w4_176 : Cond.fieldLink RX8 99 "PurringHoldsModel" "typed" "I" ∈ gw := gw_in (tb_4 (List.mem_of_getElem? (i := 176) rfl)) rfl
theorem w4_177 : Cond.fieldLink RX8 17 "PurringHoldsModel" "row" "[J" ∈ gw := gw_in (tb_4 (List.mem_of_getElem? (i := 177) rfl)) rfl
theorem w4_178 : Cond.fieldLink RX8 86 "PurringHoldsModel" "rowMany" "I" ∈ gw := gw_in (tb_4 (List.mem_of_getElem? (i := 178) rfl)) rfl
theorem w4_179 : Cond.fieldLink RX8 82 "PurringHoldsModel" "thrown" "I" ∈ gw := gw_in (tb_4 (List.mem_of_getElem? (i := 179) rfl)) rfl
theorem w4_180 : Cond.fieldLink RX8 102 "PurringHoldsModel" "read" "[B" ∈ gw := gw_in (tb_4 (List.mem_of_getElem? (i := 180) rfl)) rfl
theorem w4_181 : Cond.fieldLink RX8 105 "PurringHoldsModel" "length" "I" ∈ gw := gw_in (tb_4 (List.mem_of_getElem? (i := 181) rfl)) rfl
theorem w4_182 : Cond.fieldLink RX8 108 "PurringHoldsModel" "top" "I" ∈ gw := gw_in (tb_4 (List.mem_of_getElem? (i := 182) rfl)) rfl
theorem w4_183 : Cond.fieldLink RX8 111 "PurringHoldsModel" "at" "I" ∈ gw := gw_in (tb_4 (List.mem_of_getElem? (i := 183) rfl)) rfl
theorem w4_184 : Cond.fieldLink RX8 114 "PurringHoldsModel" "wrong" "I" ∈ gw := gw_in (tb_4 (List.mem_of_getElem? (i := 184) rfl)) rfl
theorem w4_185 : Cond.fieldLink RX8 21 "PurringHoldsModel" "told" "[I" ∈ gw := gw_in (tb_4 (List.mem_of_getElem? (i := 185) rfl)) rfl
theorem w4_186 : Cond.fieldLink RX8 24 "PurringHoldsModel" "rule" "[B" ∈ gw := gw_in (tb_4 (List.mem_of_getElem? (i := 186) rfl)) rfl
theorem w4_187 : Cond.fieldLink RX8 27 "PurringHoldsModel" "otherRule" "[B" ∈ gw := gw_in (tb_4 (List.mem_of_getElem? (i := 187) rfl)) rfl
theorem w4_188 : Cond.fieldLink RX8 186 "PurringHoldsModel" "ruleSize" "I" ∈ gw := gw_in (tb_4 (List.mem_of_getElem? (i := 188) rfl)) rfl
theorem w4_189 : Cond.fieldLink RX8 179 "PurringHoldsModel" "isAsked" "Z" ∈ gw := gw_in (tb_4 (List.mem_of_getElem? (i := 189) rfl)) rfl
theorem w4_190 : Cond.fieldLink RX8 30 "PurringHoldsModel" "asked" "[I" ∈ gw := gw_in (tb_4 (List.mem_of_getElem? (i := 190) rfl)) rfl
theorem w4_191 : Cond.fieldLink RX8 33 "PurringHoldsModel" "undos" "[I" ∈ gw := gw_in (tb_4 (List.mem_of_getElem? (i := 191) rfl)) rfl
theorem w4_192 : Cond.fieldLink RX8 141 "PurringHoldsModel" "undoMany" "I" ∈ gw := gw_in (tb_4 (List.mem_of_getElem? (i := 192) rfl)) rfl
theorem w4_193 : Cond.fieldLink RX8 36 "PurringHoldsModel" "aside" "[I" ∈ gw := gw_in (tb_4 (List.mem_of_getElem? (i := 193) rfl)) rfl
theorem w4_194 : Cond.fieldLink RX8 39 "PurringHoldsModel" "then" "[I" ∈ gw := gw_in (tb_4 (List.mem_of_getElem? (i := 194) rfl)) rfl
theorem w4_195 : Cond.fieldLink RX8 42 "PurringHoldsModel" "hold" "[I" ∈ gw := gw_in (tb_4 (List.mem_of_getElem? (i := 195) rfl)) rfl
theorem w4_196 : Cond.fieldLink RX8 235 "PurringHoldsModel" "dropped" "I" ∈ gw := gw_in (tb_4 (List.mem_of_getElem? (i := 196) rfl)) rfl
theorem w4_197 : Cond.fieldLink RX8 45 "PurringHoldsModel" "acts" "[I" ∈ gw := gw_in (tb_4 (List.mem_of_getElem? (i := 197) rfl)) rfl
theorem w4_198 : Cond.fieldLink RX8 48 "PurringHoldsModel" "guarded" "[I" ∈ gw := gw_in (tb_4 (List.mem_of_getElem? (i := 198) rfl)) rfl
theorem w4_199 : Cond.fieldLink RX8 51 "PurringHoldsModel" "train" "[I" ∈ gw := gw_in (tb_4 (List.mem_of_getElem? (i := 199) rfl)) rfl
theorem w4_200 : Cond.fieldLink RX8 320 "PurringHoldsModel" "trolleyEnd" "I" ∈ gw := gw_in (tb_4 (List.mem_of_getElem? (i := 200) rfl)) rfl
theorem w4_201 : Cond.fieldLink RX8 54 "PurringHoldsModel" "feltOf" "[I" ∈ gw := gw_in (tb_4 (List.mem_of_getElem? (i := 201) rfl)) rfl
theorem w4_202 : Cond.fieldLink RX8 57 "PurringHoldsModel" "feltBy" "[I" ∈ gw := gw_in (tb_4 (List.mem_of_getElem? (i := 202) rfl)) rfl
theorem w4_203 : Cond.fieldLink RX8 326 "PurringHoldsModel" "feltMany" "I" ∈ gw := gw_in (tb_4 (List.mem_of_getElem? (i := 203) rfl)) rfl
theorem w4_204 : Cond.fieldLink RX8 60 "PurringHoldsModel" "many" "[I" ∈ gw := gw_in (tb_4 (List.mem_of_getElem? (i := 204) rfl)) rfl
theorem w4_205 : Cond.fieldLink RX8 63 "PurringHoldsModel" "heardOf" "[I" ∈ gw := gw_in (tb_4 (List.mem_of_getElem? (i := 205) rfl)) rfl
theorem w4_206 : Cond.fieldLink RX8 66 "PurringHoldsModel" "heardBy" "[I" ∈ gw := gw_in (tb_4 (List.mem_of_getElem? (i := 206) rfl)) rfl
theorem w4_207 : Cond.fieldLink RX8 341 "PurringHoldsModel" "heardMany" "I" ∈ gw := gw_in (tb_4 (List.mem_of_getElem? (i := 207) rfl)) rfl
theorem w4_208 : Cond.fieldLink RX8 69 "PurringHoldsModel" "worth" "[I" ∈ gw := gw_in (tb_4 (List.mem_of_getElem? (i := 208) rfl)) rfl
theorem w4_209 : Cond.fieldLink RX8 383 "PurringHoldsModel" "drawn" "I" ∈ gw := gw_in (tb_4 (List.mem_of_getElem? (i := 209) rfl)) rfl
theorem w4_210 : Cond.fieldLink RX8 144 "PurringHoldsModel" "came" "I" ∈ gw := gw_in (tb_4 (List.mem_of_getElem? (i := 210) rfl)) rfl
theorem w4_211 : Cond.fieldLink RX8 72 "PurringHoldsModel" "kept" "[I" ∈ gw := gw_in (tb_4 (List.mem_of_getElem? (i := 211) rfl)) rfl
theorem w4_212 : Cond.fieldLink RX8 75 "PurringHoldsModel" "isKept" "[Z" ∈ gw := gw_in (tb_4 (List.mem_of_getElem? (i := 212) rfl)) rfl
theorem w4_213 : Cond.fieldLink RX8 79 "PurringHoldsModel" "keptCame" "[I" ∈ gw := gw_in (tb_4 (List.mem_of_getElem? (i := 213) rfl)) rfl
theorem w4_214 : Cond.laysFinal RX8 "PurringHoldsModel" "now" "[I" ∈ gw := gw_in (tb_4 (List.mem_of_getElem? (i := 214) rfl)) rfl
theorem w4_216 : Cond.lays RX8 "PurringHoldsModel" "arches" "I" ∈ gw := gw_in (tb_4 (List.mem_of_getElem? (i := 216) rfl)) rfl
theorem w4_218 : Cond.lays RX8 "PurringHoldsModel" "cats" "I" ∈ gw := gw_in (tb_4 (List.mem_of_getElem? (i := 218) rfl)) rfl
theorem w4_220 : Cond.laysFinal RX8 "PurringHoldsModel" "text" "[B" ∈ gw := gw_in (tb_4 (List.mem_of_getElem? (i := 220) rfl)) rfl
theorem w4_222 : Cond.lays RX8 "PurringHoldsModel" "typed" "I" ∈ gw := gw_in (tb_4 (List.mem_of_getElem? (i := 222) rfl)) rfl
theorem w4_224 : Cond.laysFinal RX8 "PurringHoldsModel" "row" "[J" ∈ gw := gw_in (tb_4 (List.mem_of_getElem? (i := 224) rfl)) rfl
theorem w4_226 : Cond.lays RX8 "PurringHoldsModel" "rowMany" "I" ∈ gw := gw_in (tb_4 (List.mem_of_getElem? (i := 226) rfl)) rfl
theorem w4_228 : Cond.lays RX8 "PurringHoldsModel" "thrown" "I" ∈ gw := gw_in (tb_4 (List.mem_of_getElem? (i := 228) rfl)) rfl
theorem w4_230 : Cond.lays RX8 "PurringHoldsModel" "read" "[B" ∈ gw := gw_in (tb_4 (List.mem_of_getElem? (i := 230) rfl)) rfl
theorem w4_232 : Cond.lays RX8 "PurringHoldsModel" "length" "I" ∈ gw := gw_in (tb_4 (List.mem_of_getElem? (i := 232) rfl)) rfl
theorem w4_234 : Cond.lays RX8 "PurringHoldsModel" "top" "I" ∈ gw := gw_in (tb_4 (List.mem_of_getElem? (i := 234) rfl)) rfl
theorem w4_236 : Cond.lays RX8 "PurringHoldsModel" "at" "I" ∈ gw := gw_in (tb_4 (List.mem_of_getElem? (i := 236) rfl)) rfl
theorem w4_238 : Cond.lays RX8 "PurringHoldsModel" "wrong" "I" ∈ gw := gw_in (tb_4 (List.mem_of_getElem? (i := 238) rfl)) rfl
theorem w5_0 : Cond.laysFinal RX8 "PurringHoldsModel" "told" "[I" ∈ gw := gw_in (tb_5 (List.mem_of_getElem? (i := 0) rfl)) rfl
theorem w5_2 : Cond.lays RX8 "PurringHoldsModel" "rule" "[B" ∈ gw := gw_in (tb_5 (List.mem_of_getElem? (i := 2) rfl)) rfl
theorem w5_4 : Cond.lays RX8 "PurringHoldsModel" "otherRule" "[B" ∈ gw := gw_in (tb_5 (List.mem_of_getElem? (i := 4) rfl)) rfl
theorem w5_6 : Cond.lays RX8 "PurringHoldsModel" "ruleSize" "I" ∈ gw := gw_in (tb_5 (List.mem_of_getElem? (i := 6) rfl)) rfl
theorem w5_8 : Cond.lays RX8 "PurringHoldsModel" "isAsked" "Z" ∈ gw := gw_in (tb_5 (List.mem_of_getElem? (i := 8) rfl)) rfl
theorem w5_10 : Cond.laysFinal RX8 "PurringHoldsModel" "asked" "[I" ∈ gw := gw_in (tb_5 (List.mem_of_getElem? (i := 10) rfl)) rfl
theorem w5_12 : Cond.laysFinal RX8 "PurringHoldsModel" "undos" "[I" ∈ gw := gw_in (tb_5 (List.mem_of_getElem? (i := 12) rfl)) rfl
theorem w5_14 : Cond.lays RX8 "PurringHoldsModel" "undoMany" "I" ∈ gw := gw_in (tb_5 (List.mem_of_getElem? (i := 14) rfl)) rfl
theorem w5_16 : Cond.laysFinal RX8 "PurringHoldsModel" "aside" "[I" ∈ gw := gw_in (tb_5 (List.mem_of_getElem? (i := 16) rfl)) rfl
theorem w5_18 : Cond.laysFinal RX8 "PurringHoldsModel" "then" "[I" ∈ gw := gw_in (tb_5 (List.mem_of_getElem? (i := 18) rfl)) rfl
theorem w5_20 : Cond.laysFinal RX8 "PurringHoldsModel" "hold" "[I" ∈ gw := gw_in (tb_5 (List.mem_of_getElem? (i := 20) rfl)) rfl
theorem w5_22 : Cond.lays RX8 "PurringHoldsModel" "dropped" "I" ∈ gw := gw_in (tb_5 (List.mem_of_getElem? (i := 22) rfl)) rfl
theorem w5_24 : Cond.laysFinal RX8 "PurringHoldsModel" "acts" "[I" ∈ gw := gw_in (tb_5 (List.mem_of_getElem? (i := 24) rfl)) rfl
theorem w5_26 : Cond.laysFinal RX8 "PurringHoldsModel" "guarded" "[I" ∈ gw := gw_in (tb_5 (List.mem_of_getElem? (i := 26) rfl)) rfl
theorem w5_28 : Cond.laysFinal RX8 "PurringHoldsModel" "train" "[I" ∈ gw := gw_in (tb_5 (List.mem_of_getElem? (i := 28) rfl)) rfl
theorem w5_30 : Cond.lays RX8 "PurringHoldsModel" "trolleyEnd" "I" ∈ gw := gw_in (tb_5 (List.mem_of_getElem? (i := 30) rfl)) rfl
theorem w5_32 : Cond.laysFinal RX8 "PurringHoldsModel" "feltOf" "[I" ∈ gw := gw_in (tb_5 (List.mem_of_getElem? (i := 32) rfl)) rfl
theorem w5_34 : Cond.laysFinal RX8 "PurringHoldsModel" "feltBy" "[I" ∈ gw := gw_in (tb_5 (List.mem_of_getElem? (i := 34) rfl)) rfl
theorem w5_36 : Cond.lays RX8 "PurringHoldsModel" "feltMany" "I" ∈ gw := gw_in (tb_5 (List.mem_of_getElem? (i := 36) rfl)) rfl
theorem w5_38 : Cond.laysFinal RX8 "PurringHoldsModel" "many" "[I" ∈ gw := gw_in (tb_5 (List.mem_of_getElem? (i := 38) rfl)) rfl
theorem w5_40 : Cond.laysFinal RX8 "PurringHoldsModel" "heardOf" "[I" ∈ gw := gw_in (tb_5 (List.mem_of_getElem? (i := 40) rfl)) rfl
theorem w5_42 : Cond.laysFinal RX8 "PurringHoldsModel" "heardBy" "[I" ∈ gw := gw_in (tb_5 (List.mem_of_getElem? (i := 42) rfl)) rfl
theorem w5_44 : Cond.lays RX8 "PurringHoldsModel" "heardMany" "I" ∈ gw := gw_in (tb_5 (List.mem_of_getElem? (i := 44) rfl)) rfl
theorem w5_46 : Cond.laysFinal RX8 "PurringHoldsModel" "worth" "[I" ∈ gw := gw_in (tb_5 (List.mem_of_getElem? (i := 46) rfl)) rfl
theorem w5_48 : Cond.lays RX8 "PurringHoldsModel" "drawn" "I" ∈ gw := gw_in (tb_5 (List.mem_of_getElem? (i := 48) rfl)) rfl
theorem w5_50 : Cond.lays RX8 "PurringHoldsModel" "came" "I" ∈ gw := gw_in (tb_5 (List.mem_of_getElem? (i := 50) rfl)) rfl
theorem w5_52 : Cond.laysFinal RX8 "PurringHoldsModel" "kept" "[I" ∈ gw := gw_in (tb_5 (List.mem_of_getElem? (i := 52) rfl)) rfl
theorem w5_54 : Cond.laysFinal RX8 "PurringHoldsModel" "isKept" "[Z" ∈ gw := gw_in (tb_5 (List.mem_of_getElem? (i := 54) rfl)) rfl
theorem w5_56 : Cond.laysFinal RX8 "PurringHoldsModel" "keptCame" "[I" ∈ gw := gw_in (tb_5 (List.mem_of_getElem? (i := 56) rfl)) rfl
theorem w5_59 : Cond.arrayClass .byte ∈ gw := gw_in (tb_5 (List.mem_of_getElem? (i := 59) rfl)) rfl
theorem w5_60 : Cond.arrayClass .boolean ∈ gw := gw_in (tb_5 (List.mem_of_getElem? (i := 60) rfl)) rfl
theorem w5_61 : Cond.methodLink RL 55 yX8_thrown ∈ gw := gw_in (tb_5 (List.mem_of_getElem? (i := 61) rfl)) rfl
theorem w5_62 : Cond.instanceMethod yX8_thrown ∈ gw := gw_in (tb_5 (List.mem_of_getElem? (i := 62) rfl)) rfl
theorem w5_63 : Cond.selects RX8 yX8_thrown yX8_thrown ∈ gw := gw_in (tb_5 (List.mem_of_getElem? (i := 63) rfl)) rfl
theorem w5_64 : Cond.code yX8_thrown cX8_thrown 1 (some .int) ∈ gw := gw_in (tb_5 (List.mem_of_getElem? (i := 64) rfl)) rfl
theorem w5_65 : Cond.methodLink RL 30 yX8_sign ∈ gw := gw_in (tb_5 (List.mem_of_getElem? (i := 65) rfl)) rfl
theorem w5_66 : Cond.instanceMethod yX8_sign ∈ gw := gw_in (tb_5 (List.mem_of_getElem? (i := 66) rfl)) rfl
theorem w5_67 : Cond.selects RX8 yX8_sign yX8_sign ∈ gw := gw_in (tb_5 (List.mem_of_getElem? (i := 67) rfl)) rfl
theorem w5_68 : Cond.code yX8_sign cX8_sign 3 (some .int) ∈ gw := gw_in (tb_5 (List.mem_of_getElem? (i := 68) rfl)) rfl
theorem w5_69 : Cond.methodLink RL 35 yX8_end ∈ gw := gw_in (tb_5 (List.mem_of_getElem? (i := 69) rfl)) rfl
theorem w5_70 : Cond.instanceMethod yX8_end ∈ gw := gw_in (tb_5 (List.mem_of_getElem? (i := 70) rfl)) rfl
theorem w5_71 : Cond.selects RX8 yX8_end yX8_end ∈ gw := gw_in (tb_5 (List.mem_of_getElem? (i := 71) rfl)) rfl
theorem w5_72 : Cond.code yX8_end cX8_end 2 (some .boolean) ∈ gw := gw_in (tb_5 (List.mem_of_getElem? (i := 72) rfl)) rfl
theorem w5_73 : Cond.methodLink RX8 92 yX8_in ∈ gw := gw_in (tb_5 (List.mem_of_getElem? (i := 73) rfl)) rfl
theorem w5_74 : Cond.static yX8_in ∈ gw := gw_in (tb_5 (List.mem_of_getElem? (i := 74) rfl)) rfl
theorem w5_75 : Cond.code yX8_in cX8_in 3 (some .boolean) ∈ gw := gw_in (tb_5 (List.mem_of_getElem? (i := 75) rfl)) rfl
theorem w5_76 : Cond.methodLink RL 40 yX8_arches ∈ gw := gw_in (tb_5 (List.mem_of_getElem? (i := 76) rfl)) rfl
theorem w5_77 : Cond.instanceMethod yX8_arches ∈ gw := gw_in (tb_5 (List.mem_of_getElem? (i := 77) rfl)) rfl
theorem w5_78 : Cond.selects RX8 yX8_arches yX8_arches ∈ gw := gw_in (tb_5 (List.mem_of_getElem? (i := 78) rfl)) rfl
theorem w5_79 : Cond.code yX8_arches cX8_arches 4 (some .int) ∈ gw := gw_in (tb_5 (List.mem_of_getElem? (i := 79) rfl)) rfl
theorem w5_80 : Cond.methodLink RX8 147 yX8_beginText ∈ gw := gw_in (tb_5 (List.mem_of_getElem? (i := 80) rfl)) rfl
theorem w5_82 : Cond.instanceMethod yX8_beginText ∈ gw := gw_in (tb_5 (List.mem_of_getElem? (i := 82) rfl)) rfl
theorem w5_83 : Cond.code yX8_beginText cX8_beginText 2 none ∈ gw := gw_in (tb_5 (List.mem_of_getElem? (i := 83) rfl)) rfl
theorem w5_84 : Cond.methodLink RX8 117 yX8_begin ∈ gw := gw_in (tb_5 (List.mem_of_getElem? (i := 84) rfl)) rfl
theorem w5_86 : Cond.instanceMethod yX8_begin ∈ gw := gw_in (tb_5 (List.mem_of_getElem? (i := 86) rfl)) rfl
theorem w5_87 : Cond.code yX8_begin cX8_begin 4 none ∈ gw := gw_in (tb_5 (List.mem_of_getElem? (i := 87) rfl)) rfl
theorem w5_88 : Cond.methodLink RX8 121 yX8_fine ∈ gw := gw_in (tb_5 (List.mem_of_getElem? (i := 88) rfl)) rfl
theorem w5_90 : Cond.instanceMethod yX8_fine ∈ gw := gw_in (tb_5 (List.mem_of_getElem? (i := 90) rfl)) rfl
theorem w5_91 : Cond.code yX8_fine cX8_fine 1 (some .boolean) ∈ gw := gw_in (tb_5 (List.mem_of_getElem? (i := 91) rfl)) rfl
theorem w5_92 : Cond.methodLink RX8 133 yX8_fault ∈ gw := gw_in (tb_5 (List.mem_of_getElem? (i := 92) rfl)) rfl
theorem w5_94 : Cond.instanceMethod yX8_fault ∈ gw := gw_in (tb_5 (List.mem_of_getElem? (i := 94) rfl)) rfl
theorem w5_95 : Cond.code yX8_fault cX8_fault 2 none ∈ gw := gw_in (tb_5 (List.mem_of_getElem? (i := 95) rfl)) rfl
theorem w5_96 : Cond.methodLink RX8 137 yX8_oneOf ∈ gw := gw_in (tb_5 (List.mem_of_getElem? (i := 96) rfl)) rfl
theorem w5_98 : Cond.instanceMethod yX8_oneOf ∈ gw := gw_in (tb_5 (List.mem_of_getElem? (i := 98) rfl)) rfl
theorem w5_99 : Cond.code yX8_oneOf cX8_oneOf 3 (some .int) ∈ gw := gw_in (tb_5 (List.mem_of_getElem? (i := 99) rfl)) rfl
theorem w5_100 : Cond.methodLink RX8 125 yX8_here ∈ gw := gw_in (tb_5 (List.mem_of_getElem? (i := 100) rfl)) rfl
theorem w5_102 : Cond.instanceMethod yX8_here ∈ gw := gw_in (tb_5 (List.mem_of_getElem? (i := 102) rfl)) rfl
theorem w5_103 : Cond.code yX8_here cX8_here 1 (some .int) ∈ gw := gw_in (tb_5 (List.mem_of_getElem? (i := 103) rfl)) rfl
theorem w5_104 : Cond.methodLink RX8 129 yX8_passes ∈ gw := gw_in (tb_5 (List.mem_of_getElem? (i := 104) rfl)) rfl
theorem w5_106 : Cond.instanceMethod yX8_passes ∈ gw := gw_in (tb_5 (List.mem_of_getElem? (i := 106) rfl)) rfl
theorem w5_107 : Cond.code yX8_passes cX8_passes 2 (some .boolean) ∈ gw := gw_in (tb_5 (List.mem_of_getElem? (i := 107) rfl)) rfl
theorem w5_108 : Cond.methodLink RX8 150 yX8_wasRight ∈ gw := gw_in (tb_5 (List.mem_of_getElem? (i := 108) rfl)) rfl
theorem w5_110 : Cond.instanceMethod yX8_wasRight ∈ gw := gw_in (tb_5 (List.mem_of_getElem? (i := 110) rfl)) rfl
theorem w5_111 : Cond.code yX8_wasRight cX8_wasRight 1 (some .boolean) ∈ gw := gw_in (tb_5 (List.mem_of_getElem? (i := 111) rfl)) rfl
theorem w5_112 : Cond.methodLink RX8 153 yX8_toldAnew ∈ gw := gw_in (tb_5 (List.mem_of_getElem? (i := 112) rfl)) rfl
theorem w5_114 : Cond.instanceMethod yX8_toldAnew ∈ gw := gw_in (tb_5 (List.mem_of_getElem? (i := 114) rfl)) rfl
theorem w5_115 : Cond.code yX8_toldAnew cX8_toldAnew 1 none ∈ gw := gw_in (tb_5 (List.mem_of_getElem? (i := 115) rfl)) rfl
theorem w5_116 : Cond.methodLink RL 44 yX8_cats ∈ gw := gw_in (tb_5 (List.mem_of_getElem? (i := 116) rfl)) rfl
theorem w5_117 : Cond.instanceMethod yX8_cats ∈ gw := gw_in (tb_5 (List.mem_of_getElem? (i := 117) rfl)) rfl
theorem w5_118 : Cond.selects RX8 yX8_cats yX8_cats ∈ gw := gw_in (tb_5 (List.mem_of_getElem? (i := 118) rfl)) rfl
theorem w5_119 : Cond.code yX8_cats cX8_cats 4 (some .int) ∈ gw := gw_in (tb_5 (List.mem_of_getElem? (i := 119) rfl)) rfl
theorem w5_120 : Cond.methodLink RL 48 yX8_rule ∈ gw := gw_in (tb_5 (List.mem_of_getElem? (i := 120) rfl)) rfl
theorem w5_121 : Cond.instanceMethod yX8_rule ∈ gw := gw_in (tb_5 (List.mem_of_getElem? (i := 121) rfl)) rfl
theorem w5_122 : Cond.selects RX8 yX8_rule yX8_rule ∈ gw := gw_in (tb_5 (List.mem_of_getElem? (i := 122) rfl)) rfl
theorem w5_123 : Cond.code yX8_rule cX8_rule 3 (some .int) ∈ gw := gw_in (tb_5 (List.mem_of_getElem? (i := 123) rfl)) rfl
theorem w5_124 : Cond.methodLink RX8 183 yX8_readRule ∈ gw := gw_in (tb_5 (List.mem_of_getElem? (i := 124) rfl)) rfl
theorem w5_126 : Cond.instanceMethod yX8_readRule ∈ gw := gw_in (tb_5 (List.mem_of_getElem? (i := 126) rfl)) rfl
theorem w5_127 : Cond.code yX8_readRule cX8_readRule 1 (some .boolean) ∈ gw := gw_in (tb_5 (List.mem_of_getElem? (i := 127) rfl)) rfl
theorem w5_128 : Cond.methodLink RX8 166 yX8_held ∈ gw := gw_in (tb_5 (List.mem_of_getElem? (i := 128) rfl)) rfl
theorem w5_130 : Cond.instanceMethod yX8_held ∈ gw := gw_in (tb_5 (List.mem_of_getElem? (i := 130) rfl)) rfl
theorem w5_131 : Cond.code yX8_held cX8_held 3 (some .int) ∈ gw := gw_in (tb_5 (List.mem_of_getElem? (i := 131) rfl)) rfl
theorem w5_132 : Cond.methodLink RX8 156 yX8_sum ∈ gw := gw_in (tb_5 (List.mem_of_getElem? (i := 132) rfl)) rfl
theorem w5_134 : Cond.instanceMethod yX8_sum ∈ gw := gw_in (tb_5 (List.mem_of_getElem? (i := 134) rfl)) rfl
theorem w5_135 : Cond.code yX8_sum cX8_sum 5 (some .int) ∈ gw := gw_in (tb_5 (List.mem_of_getElem? (i := 135) rfl)) rfl
theorem w5_136 : Cond.methodLink RX8 160 yX8_product ∈ gw := gw_in (tb_5 (List.mem_of_getElem? (i := 136) rfl)) rfl
theorem w5_138 : Cond.instanceMethod yX8_product ∈ gw := gw_in (tb_5 (List.mem_of_getElem? (i := 138) rfl)) rfl
theorem w5_139 : Cond.code yX8_product cX8_product 5 (some .int) ∈ gw := gw_in (tb_5 (List.mem_of_getElem? (i := 139) rfl)) rfl
theorem w5_140 : Cond.methodLink RX8 163 yX8_thing ∈ gw := gw_in (tb_5 (List.mem_of_getElem? (i := 140) rfl)) rfl
theorem w5_142 : Cond.instanceMethod yX8_thing ∈ gw := gw_in (tb_5 (List.mem_of_getElem? (i := 142) rfl)) rfl
theorem w5_143 : Cond.code yX8_thing cX8_thing 4 (some .int) ∈ gw := gw_in (tb_5 (List.mem_of_getElem? (i := 143) rfl)) rfl
theorem w5_144 : Cond.methodLink RX8 169 yX8_need ∈ gw := gw_in (tb_5 (List.mem_of_getElem? (i := 144) rfl)) rfl
theorem w5_146 : Cond.instanceMethod yX8_need ∈ gw := gw_in (tb_5 (List.mem_of_getElem? (i := 146) rfl)) rfl
theorem w5_147 : Cond.code yX8_need cX8_need 2 none ∈ gw := gw_in (tb_5 (List.mem_of_getElem? (i := 147) rfl)) rfl
theorem w5_148 : Cond.methodLink RX8 173 yX8_number ∈ gw := gw_in (tb_5 (List.mem_of_getElem? (i := 148) rfl)) rfl
theorem w5_150 : Cond.instanceMethod yX8_number ∈ gw := gw_in (tb_5 (List.mem_of_getElem? (i := 150) rfl)) rfl
theorem w5_151 : Cond.code yX8_number cX8_number 4 (some .int) ∈ gw := gw_in (tb_5 (List.mem_of_getElem? (i := 151) rfl)) rfl
theorem w5_152 : Cond.methodLink RX8 176 yX8_letterOf ∈ gw := gw_in (tb_5 (List.mem_of_getElem? (i := 152) rfl)) rfl
theorem w5_153 : Cond.static yX8_letterOf ∈ gw := gw_in (tb_5 (List.mem_of_getElem? (i := 153) rfl)) rfl
theorem w5_154 : Cond.code yX8_letterOf cX8_letterOf 1 (some .int) ∈ gw := gw_in (tb_5 (List.mem_of_getElem? (i := 154) rfl)) rfl
theorem w5_155 : Cond.methodLink RL 54 yX8_arch ∈ gw := gw_in (tb_5 (List.mem_of_getElem? (i := 155) rfl)) rfl
theorem w5_156 : Cond.instanceMethod yX8_arch ∈ gw := gw_in (tb_5 (List.mem_of_getElem? (i := 156) rfl)) rfl
theorem w5_157 : Cond.selects RX8 yX8_arch yX8_arch ∈ gw := gw_in (tb_5 (List.mem_of_getElem? (i := 157) rfl)) rfl
theorem w5_158 : Cond.code yX8_arch cX8_arch 3 (some .int) ∈ gw := gw_in (tb_5 (List.mem_of_getElem? (i := 158) rfl)) rfl
theorem w5_159 : Cond.methodLink RX8 214 yX8_isArch ∈ gw := gw_in (tb_5 (List.mem_of_getElem? (i := 159) rfl)) rfl
theorem w5_161 : Cond.instanceMethod yX8_isArch ∈ gw := gw_in (tb_5 (List.mem_of_getElem? (i := 161) rfl)) rfl
theorem w5_162 : Cond.code yX8_isArch cX8_isArch 2 (some .boolean) ∈ gw := gw_in (tb_5 (List.mem_of_getElem? (i := 162) rfl)) rfl
theorem w5_163 : Cond.methodLink RX8 218 yX8_lost ∈ gw := gw_in (tb_5 (List.mem_of_getElem? (i := 163) rfl)) rfl
theorem w5_165 : Cond.instanceMethod yX8_lost ∈ gw := gw_in (tb_5 (List.mem_of_getElem? (i := 165) rfl)) rfl
theorem w5_166 : Cond.code yX8_lost cX8_lost 1 (some .int) ∈ gw := gw_in (tb_5 (List.mem_of_getElem? (i := 166) rfl)) rfl
theorem w5_167 : Cond.methodLink RX8 198 yX8_there ∈ gw := gw_in (tb_5 (List.mem_of_getElem? (i := 167) rfl)) rfl
theorem w5_169 : Cond.instanceMethod yX8_there ∈ gw := gw_in (tb_5 (List.mem_of_getElem? (i := 169) rfl)) rfl
theorem w5_170 : Cond.code yX8_there cX8_there 5 (some .int) ∈ gw := gw_in (tb_5 (List.mem_of_getElem? (i := 170) rfl)) rfl
theorem w5_171 : Cond.methodLink RX8 221 yX8_holdOf ∈ gw := gw_in (tb_5 (List.mem_of_getElem? (i := 171) rfl)) rfl
theorem w5_173 : Cond.instanceMethod yX8_holdOf ∈ gw := gw_in (tb_5 (List.mem_of_getElem? (i := 173) rfl)) rfl
theorem w5_174 : Cond.code yX8_holdOf cX8_holdOf 5 (some .int) ∈ gw := gw_in (tb_5 (List.mem_of_getElem? (i := 174) rfl)) rfl
theorem w5_175 : Cond.methodLink RX8 211 yX8_purrOf ∈ gw := gw_in (tb_5 (List.mem_of_getElem? (i := 175) rfl)) rfl
theorem w5_177 : Cond.instanceMethod yX8_purrOf ∈ gw := gw_in (tb_5 (List.mem_of_getElem? (i := 177) rfl)) rfl
theorem w5_178 : Cond.code yX8_purrOf cX8_purrOf 4 (some .int) ∈ gw := gw_in (tb_5 (List.mem_of_getElem? (i := 178) rfl)) rfl
theorem w5_179 : Cond.methodLink RX8 202 yJ6_bitCount_0f7a4 ∈ gw := gw_in (tb_5 (List.mem_of_getElem? (i := 179) rfl)) rfl
theorem w5_180 : Cond.methodLink RX8 207 yX8_purrIn ∈ gw := gw_in (tb_5 (List.mem_of_getElem? (i := 180) rfl)) rfl
theorem w5_182 : Cond.instanceMethod yX8_purrIn ∈ gw := gw_in (tb_5 (List.mem_of_getElem? (i := 182) rfl)) rfl
theorem w5_183 : Cond.code yX8_purrIn cX8_purrIn 6 (some .int) ∈ gw := gw_in (tb_5 (List.mem_of_getElem? (i := 183) rfl)) rfl
theorem w5_184 : Cond.methodLink RX8 189 yJ9_min_7cf53 ∈ gw := gw_in (tb_5 (List.mem_of_getElem? (i := 184) rfl)) rfl
theorem w5_185 : Cond.methodLink RX8 195 yJ9_max_7cf53 ∈ gw := gw_in (tb_5 (List.mem_of_getElem? (i := 185) rfl)) rfl
theorem w5_186 : Cond.methodLink RL 60 yX8_cat ∈ gw := gw_in (tb_5 (List.mem_of_getElem? (i := 186) rfl)) rfl
theorem w5_187 : Cond.instanceMethod yX8_cat ∈ gw := gw_in (tb_5 (List.mem_of_getElem? (i := 187) rfl)) rfl
theorem w5_188 : Cond.selects RX8 yX8_cat yX8_cat ∈ gw := gw_in (tb_5 (List.mem_of_getElem? (i := 188) rfl)) rfl
theorem w5_189 : Cond.code yX8_cat cX8_cat 3 (some .int) ∈ gw := gw_in (tb_5 (List.mem_of_getElem? (i := 189) rfl)) rfl
theorem w5_190 : Cond.methodLink RX8 224 yX8_isCat ∈ gw := gw_in (tb_5 (List.mem_of_getElem? (i := 190) rfl)) rfl
theorem w5_192 : Cond.instanceMethod yX8_isCat ∈ gw := gw_in (tb_5 (List.mem_of_getElem? (i := 192) rfl)) rfl
theorem w5_193 : Cond.code yX8_isCat cX8_isCat 2 (some .boolean) ∈ gw := gw_in (tb_5 (List.mem_of_getElem? (i := 193) rfl)) rfl
theorem w5_194 : Cond.methodLink RL 65 yX8_sheet ∈ gw := gw_in (tb_5 (List.mem_of_getElem? (i := 194) rfl)) rfl
theorem w5_195 : Cond.instanceMethod yX8_sheet ∈ gw := gw_in (tb_5 (List.mem_of_getElem? (i := 195) rfl)) rfl
theorem w5_196 : Cond.selects RX8 yX8_sheet yX8_sheet ∈ gw := gw_in (tb_5 (List.mem_of_getElem? (i := 196) rfl)) rfl
theorem w5_197 : Cond.code yX8_sheet cX8_sheet 8 (some .int) ∈ gw := gw_in (tb_5 (List.mem_of_getElem? (i := 197) rfl)) rfl
theorem w5_198 : Cond.methodLink RX8 227 yX8_sumOf ∈ gw := gw_in (tb_5 (List.mem_of_getElem? (i := 198) rfl)) rfl
theorem w5_199 : Cond.static yX8_sumOf ∈ gw := gw_in (tb_5 (List.mem_of_getElem? (i := 199) rfl)) rfl
theorem w5_200 : Cond.code yX8_sumOf cX8_sumOf 5 (some .int) ∈ gw := gw_in (tb_5 (List.mem_of_getElem? (i := 200) rfl)) rfl
theorem w5_201 : Cond.methodLink RL 69 yX8_hours ∈ gw := gw_in (tb_5 (List.mem_of_getElem? (i := 201) rfl)) rfl
theorem w5_202 : Cond.instanceMethod yX8_hours ∈ gw := gw_in (tb_5 (List.mem_of_getElem? (i := 202) rfl)) rfl
theorem w5_203 : Cond.selects RX8 yX8_hours yX8_hours ∈ gw := gw_in (tb_5 (List.mem_of_getElem? (i := 203) rfl)) rfl
theorem w5_204 : Cond.code yX8_hours cX8_hours 2 (some .int) ∈ gw := gw_in (tb_5 (List.mem_of_getElem? (i := 204) rfl)) rfl
theorem w5_205 : Cond.methodLink RX8 246 yX8_remember ∈ gw := gw_in (tb_5 (List.mem_of_getElem? (i := 205) rfl)) rfl
theorem w5_207 : Cond.instanceMethod yX8_remember ∈ gw := gw_in (tb_5 (List.mem_of_getElem? (i := 207) rfl)) rfl
theorem w5_208 : Cond.code yX8_remember cX8_remember 3 none ∈ gw := gw_in (tb_5 (List.mem_of_getElem? (i := 208) rfl)) rfl
theorem w5_209 : Cond.methodLink RX8 231 yX8_lay ∈ gw := gw_in (tb_5 (List.mem_of_getElem? (i := 209) rfl)) rfl
theorem w5_210 : Cond.static yX8_lay ∈ gw := gw_in (tb_5 (List.mem_of_getElem? (i := 210) rfl)) rfl
theorem w5_211 : Cond.code yX8_lay cX8_lay 4 none ∈ gw := gw_in (tb_5 (List.mem_of_getElem? (i := 211) rfl)) rfl
theorem w5_212 : Cond.methodLink RX8 242 yX8_goHours ∈ gw := gw_in (tb_5 (List.mem_of_getElem? (i := 212) rfl)) rfl
theorem w5_214 : Cond.instanceMethod yX8_goHours ∈ gw := gw_in (tb_5 (List.mem_of_getElem? (i := 214) rfl)) rfl
theorem w5_215 : Cond.code yX8_goHours cX8_goHours 4 none ∈ gw := gw_in (tb_5 (List.mem_of_getElem? (i := 215) rfl)) rfl
theorem w5_216 : Cond.methodLink RX8 238 yX8_goHour ∈ gw := gw_in (tb_5 (List.mem_of_getElem? (i := 216) rfl)) rfl
theorem w5_218 : Cond.instanceMethod yX8_goHour ∈ gw := gw_in (tb_5 (List.mem_of_getElem? (i := 218) rfl)) rfl
theorem w5_219 : Cond.code yX8_goHour cX8_goHour 3 none ∈ gw := gw_in (tb_5 (List.mem_of_getElem? (i := 219) rfl)) rfl
theorem w5_220 : Cond.methodLink RX8 249 yX8_tell ∈ gw := gw_in (tb_5 (List.mem_of_getElem? (i := 220) rfl)) rfl
theorem w5_222 : Cond.instanceMethod yX8_tell ∈ gw := gw_in (tb_5 (List.mem_of_getElem? (i := 222) rfl)) rfl
theorem w5_223 : Cond.code yX8_tell cX8_tell 3 none ∈ gw := gw_in (tb_5 (List.mem_of_getElem? (i := 223) rfl)) rfl
theorem w5_224 : Cond.methodLink RX8 253 yX8_sags ∈ gw := gw_in (tb_5 (List.mem_of_getElem? (i := 224) rfl)) rfl
theorem w5_226 : Cond.instanceMethod yX8_sags ∈ gw := gw_in (tb_5 (List.mem_of_getElem? (i := 226) rfl)) rfl
theorem w5_227 : Cond.code yX8_sags cX8_sags 2 (some .int) ∈ gw := gw_in (tb_5 (List.mem_of_getElem? (i := 227) rfl)) rfl
theorem w5_228 : Cond.methodLink RL 73 yX8_feeds ∈ gw := gw_in (tb_5 (List.mem_of_getElem? (i := 228) rfl)) rfl
theorem w5_229 : Cond.instanceMethod yX8_feeds ∈ gw := gw_in (tb_5 (List.mem_of_getElem? (i := 229) rfl)) rfl
theorem w5_230 : Cond.selects RX8 yX8_feeds yX8_feeds ∈ gw := gw_in (tb_5 (List.mem_of_getElem? (i := 230) rfl)) rfl
theorem w5_231 : Cond.code yX8_feeds cX8_feeds 4 (some .int) ∈ gw := gw_in (tb_5 (List.mem_of_getElem? (i := 231) rfl)) rfl
theorem w5_232 : Cond.methodLink RX8 257 yX8_refusesFeed ∈ gw := gw_in (tb_5 (List.mem_of_getElem? (i := 232) rfl)) rfl
theorem w5_234 : Cond.instanceMethod yX8_refusesFeed ∈ gw := gw_in (tb_5 (List.mem_of_getElem? (i := 234) rfl)) rfl
theorem w5_235 : Cond.code yX8_refusesFeed cX8_refusesFeed 4 (some .int) ∈ gw := gw_in (tb_5 (List.mem_of_getElem? (i := 235) rfl)) rfl
theorem w5_236 : Cond.methodLink RX8 260 yX8_goFeed ∈ gw := gw_in (tb_5 (List.mem_of_getElem? (i := 236) rfl)) rfl
theorem w5_237 : Cond.static yX8_goFeed ∈ gw := gw_in (tb_5 (List.mem_of_getElem? (i := 237) rfl)) rfl
theorem w5_238 : Cond.code yX8_goFeed cX8_goFeed 3 none ∈ gw := gw_in (tb_5 (List.mem_of_getElem? (i := 238) rfl)) rfl
theorem w5_239 : Cond.methodLink RL 77 yX8_pets ∈ gw := gw_in (tb_5 (List.mem_of_getElem? (i := 239) rfl)) rfl
theorem w6_0 : Cond.instanceMethod yX8_pets ∈ gw := gw_in (tb_6 (List.mem_of_getElem? (i := 0) rfl)) rfl
theorem w6_1 : Cond.selects RX8 yX8_pets yX8_pets ∈ gw := gw_in (tb_6 (List.mem_of_getElem? (i := 1) rfl)) rfl
theorem w6_2 : Cond.code yX8_pets cX8_pets 3 (some .int) ∈ gw := gw_in (tb_6 (List.mem_of_getElem? (i := 2) rfl)) rfl
theorem w6_3 : Cond.methodLink RX8 264 yX8_refusesPet ∈ gw := gw_in (tb_6 (List.mem_of_getElem? (i := 3) rfl)) rfl
theorem w6_5 : Cond.instanceMethod yX8_refusesPet ∈ gw := gw_in (tb_6 (List.mem_of_getElem? (i := 5) rfl)) rfl
theorem w6_6 : Cond.code yX8_refusesPet cX8_refusesPet 2 (some .int) ∈ gw := gw_in (tb_6 (List.mem_of_getElem? (i := 6) rfl)) rfl
theorem w6_7 : Cond.methodLink RL 81 yX8_grieves ∈ gw := gw_in (tb_6 (List.mem_of_getElem? (i := 7) rfl)) rfl
theorem w6_8 : Cond.instanceMethod yX8_grieves ∈ gw := gw_in (tb_6 (List.mem_of_getElem? (i := 8) rfl)) rfl
theorem w6_9 : Cond.selects RX8 yX8_grieves yX8_grieves ∈ gw := gw_in (tb_6 (List.mem_of_getElem? (i := 9) rfl)) rfl
theorem w6_10 : Cond.code yX8_grieves cX8_grieves 3 (some .int) ∈ gw := gw_in (tb_6 (List.mem_of_getElem? (i := 10) rfl)) rfl
theorem w6_11 : Cond.methodLink RX8 267 yX8_canGrieve ∈ gw := gw_in (tb_6 (List.mem_of_getElem? (i := 11) rfl)) rfl
theorem w6_13 : Cond.instanceMethod yX8_canGrieve ∈ gw := gw_in (tb_6 (List.mem_of_getElem? (i := 13) rfl)) rfl
theorem w6_14 : Cond.code yX8_canGrieve cX8_canGrieve 3 (some .boolean) ∈ gw := gw_in (tb_6 (List.mem_of_getElem? (i := 14) rfl)) rfl
theorem w6_15 : Cond.methodLink RX8 271 yX8_goGrieve ∈ gw := gw_in (tb_6 (List.mem_of_getElem? (i := 15) rfl)) rfl
theorem w6_16 : Cond.static yX8_goGrieve ∈ gw := gw_in (tb_6 (List.mem_of_getElem? (i := 16) rfl)) rfl
theorem w6_17 : Cond.code yX8_goGrieve cX8_goGrieve 3 none ∈ gw := gw_in (tb_6 (List.mem_of_getElem? (i := 17) rfl)) rfl
theorem w6_18 : Cond.methodLink RL 85 yX8_sets ∈ gw := gw_in (tb_6 (List.mem_of_getElem? (i := 18) rfl)) rfl
theorem w6_19 : Cond.instanceMethod yX8_sets ∈ gw := gw_in (tb_6 (List.mem_of_getElem? (i := 19) rfl)) rfl
theorem w6_20 : Cond.selects RX8 yX8_sets yX8_sets ∈ gw := gw_in (tb_6 (List.mem_of_getElem? (i := 20) rfl)) rfl
theorem w6_21 : Cond.code yX8_sets cX8_sets 5 (some .int) ∈ gw := gw_in (tb_6 (List.mem_of_getElem? (i := 21) rfl)) rfl
theorem w6_22 : Cond.methodLink RX8 274 yX8_refusesSet ∈ gw := gw_in (tb_6 (List.mem_of_getElem? (i := 22) rfl)) rfl
theorem w6_24 : Cond.instanceMethod yX8_refusesSet ∈ gw := gw_in (tb_6 (List.mem_of_getElem? (i := 24) rfl)) rfl
theorem w6_25 : Cond.code yX8_refusesSet cX8_refusesSet 3 (some .int) ∈ gw := gw_in (tb_6 (List.mem_of_getElem? (i := 25) rfl)) rfl
theorem w6_26 : Cond.methodLink RX8 277 yJ9_abs_0f7a4 ∈ gw := gw_in (tb_6 (List.mem_of_getElem? (i := 26) rfl)) rfl
theorem w6_27 : Cond.methodLink RL 89 yX8_loads ∈ gw := gw_in (tb_6 (List.mem_of_getElem? (i := 27) rfl)) rfl
theorem w6_28 : Cond.instanceMethod yX8_loads ∈ gw := gw_in (tb_6 (List.mem_of_getElem? (i := 28) rfl)) rfl
theorem w6_29 : Cond.selects RX8 yX8_loads yX8_loads ∈ gw := gw_in (tb_6 (List.mem_of_getElem? (i := 29) rfl)) rfl
theorem w6_30 : Cond.code yX8_loads cX8_loads 5 (some .int) ∈ gw := gw_in (tb_6 (List.mem_of_getElem? (i := 30) rfl)) rfl
theorem w6_31 : Cond.methodLink RX8 280 yX8_refusesLoad ∈ gw := gw_in (tb_6 (List.mem_of_getElem? (i := 31) rfl)) rfl
theorem w6_33 : Cond.instanceMethod yX8_refusesLoad ∈ gw := gw_in (tb_6 (List.mem_of_getElem? (i := 33) rfl)) rfl
theorem w6_34 : Cond.code yX8_refusesLoad cX8_refusesLoad 3 (some .int) ∈ gw := gw_in (tb_6 (List.mem_of_getElem? (i := 34) rfl)) rfl
theorem w6_35 : Cond.methodLink RL 93 yX8_night ∈ gw := gw_in (tb_6 (List.mem_of_getElem? (i := 35) rfl)) rfl
theorem w6_36 : Cond.instanceMethod yX8_night ∈ gw := gw_in (tb_6 (List.mem_of_getElem? (i := 36) rfl)) rfl
theorem w6_37 : Cond.selects RX8 yX8_night yX8_night ∈ gw := gw_in (tb_6 (List.mem_of_getElem? (i := 37) rfl)) rfl
theorem w6_38 : Cond.code yX8_night cX8_night 3 (some .int) ∈ gw := gw_in (tb_6 (List.mem_of_getElem? (i := 38) rfl)) rfl
theorem w6_39 : Cond.methodLink RX8 283 yX8_readAct ∈ gw := gw_in (tb_6 (List.mem_of_getElem? (i := 39) rfl)) rfl
theorem w6_41 : Cond.instanceMethod yX8_readAct ∈ gw := gw_in (tb_6 (List.mem_of_getElem? (i := 41) rfl)) rfl
theorem w6_42 : Cond.code yX8_readAct cX8_readAct 3 none ∈ gw := gw_in (tb_6 (List.mem_of_getElem? (i := 42) rfl)) rfl
theorem w6_43 : Cond.methodLink RX8 286 yX8_act ∈ gw := gw_in (tb_6 (List.mem_of_getElem? (i := 43) rfl)) rfl
theorem w6_45 : Cond.instanceMethod yX8_act ∈ gw := gw_in (tb_6 (List.mem_of_getElem? (i := 45) rfl)) rfl
theorem w6_46 : Cond.code yX8_act cX8_act 4 (some .boolean) ∈ gw := gw_in (tb_6 (List.mem_of_getElem? (i := 46) rfl)) rfl
theorem w6_47 : Cond.methodLink RL 97 yX8_undo ∈ gw := gw_in (tb_6 (List.mem_of_getElem? (i := 47) rfl)) rfl
theorem w6_48 : Cond.instanceMethod yX8_undo ∈ gw := gw_in (tb_6 (List.mem_of_getElem? (i := 48) rfl)) rfl
theorem w6_49 : Cond.selects RX8 yX8_undo yX8_undo ∈ gw := gw_in (tb_6 (List.mem_of_getElem? (i := 49) rfl)) rfl
theorem w6_50 : Cond.code yX8_undo cX8_undo 2 (some .int) ∈ gw := gw_in (tb_6 (List.mem_of_getElem? (i := 50) rfl)) rfl
theorem w6_51 : Cond.methodLink RL 101 yX8_holds ∈ gw := gw_in (tb_6 (List.mem_of_getElem? (i := 51) rfl)) rfl
theorem w6_52 : Cond.instanceMethod yX8_holds ∈ gw := gw_in (tb_6 (List.mem_of_getElem? (i := 52) rfl)) rfl
theorem w6_53 : Cond.selects RX8 yX8_holds yX8_holds ∈ gw := gw_in (tb_6 (List.mem_of_getElem? (i := 53) rfl)) rfl
theorem w6_54 : Cond.code yX8_holds cX8_holds 4 (some .int) ∈ gw := gw_in (tb_6 (List.mem_of_getElem? (i := 54) rfl)) rfl
theorem w6_55 : Cond.methodLink RX8 289 yX8_holding ∈ gw := gw_in (tb_6 (List.mem_of_getElem? (i := 55) rfl)) rfl
theorem w6_57 : Cond.instanceMethod yX8_holding ∈ gw := gw_in (tb_6 (List.mem_of_getElem? (i := 57) rfl)) rfl
theorem w6_58 : Cond.code yX8_holding cX8_holding 4 (some .int) ∈ gw := gw_in (tb_6 (List.mem_of_getElem? (i := 58) rfl)) rfl
theorem w6_59 : Cond.methodLink RX8 292 yX8_has ∈ gw := gw_in (tb_6 (List.mem_of_getElem? (i := 59) rfl)) rfl
theorem w6_60 : Cond.static yX8_has ∈ gw := gw_in (tb_6 (List.mem_of_getElem? (i := 60) rfl)) rfl
theorem w6_61 : Cond.code yX8_has cX8_has 2 (some .boolean) ∈ gw := gw_in (tb_6 (List.mem_of_getElem? (i := 61) rfl)) rfl
theorem w6_62 : Cond.methodLink RL 105 yX8_later ∈ gw := gw_in (tb_6 (List.mem_of_getElem? (i := 62) rfl)) rfl
theorem w6_63 : Cond.instanceMethod yX8_later ∈ gw := gw_in (tb_6 (List.mem_of_getElem? (i := 63) rfl)) rfl
theorem w6_64 : Cond.selects RX8 yX8_later yX8_later ∈ gw := gw_in (tb_6 (List.mem_of_getElem? (i := 64) rfl)) rfl
theorem w6_65 : Cond.code yX8_later cX8_later 3 (some .int) ∈ gw := gw_in (tb_6 (List.mem_of_getElem? (i := 65) rfl)) rfl
theorem w6_66 : Cond.methodLink RX8 295 yX8_goThen ∈ gw := gw_in (tb_6 (List.mem_of_getElem? (i := 66) rfl)) rfl
theorem w6_68 : Cond.instanceMethod yX8_goThen ∈ gw := gw_in (tb_6 (List.mem_of_getElem? (i := 68) rfl)) rfl
theorem w6_69 : Cond.code yX8_goThen cX8_goThen 2 none ∈ gw := gw_in (tb_6 (List.mem_of_getElem? (i := 69) rfl)) rfl
theorem w6_70 : Cond.methodLink RL 109 yX8_when ∈ gw := gw_in (tb_6 (List.mem_of_getElem? (i := 70) rfl)) rfl
theorem w6_71 : Cond.instanceMethod yX8_when ∈ gw := gw_in (tb_6 (List.mem_of_getElem? (i := 71) rfl)) rfl
theorem w6_72 : Cond.selects RX8 yX8_when yX8_when ∈ gw := gw_in (tb_6 (List.mem_of_getElem? (i := 72) rfl)) rfl
theorem w6_73 : Cond.code yX8_when cX8_when 6 (some .int) ∈ gw := gw_in (tb_6 (List.mem_of_getElem? (i := 73) rfl)) rfl
theorem w6_74 : Cond.methodLink RL 113 yX8_down ∈ gw := gw_in (tb_6 (List.mem_of_getElem? (i := 74) rfl)) rfl
theorem w6_75 : Cond.instanceMethod yX8_down ∈ gw := gw_in (tb_6 (List.mem_of_getElem? (i := 75) rfl)) rfl
theorem w6_76 : Cond.selects RX8 yX8_down yX8_down ∈ gw := gw_in (tb_6 (List.mem_of_getElem? (i := 76) rfl)) rfl
theorem w6_77 : Cond.code yX8_down cX8_down 2 (some .int) ∈ gw := gw_in (tb_6 (List.mem_of_getElem? (i := 77) rfl)) rfl
theorem w6_78 : Cond.methodLink RX8 298 yX8_lowest ∈ gw := gw_in (tb_6 (List.mem_of_getElem? (i := 78) rfl)) rfl
theorem w6_80 : Cond.instanceMethod yX8_lowest ∈ gw := gw_in (tb_6 (List.mem_of_getElem? (i := 80) rfl)) rfl
theorem w6_81 : Cond.code yX8_lowest cX8_lowest 4 (some .int) ∈ gw := gw_in (tb_6 (List.mem_of_getElem? (i := 81) rfl)) rfl
theorem w6_82 : Cond.methodLink RL 117 yX8_safe ∈ gw := gw_in (tb_6 (List.mem_of_getElem? (i := 82) rfl)) rfl
theorem w6_83 : Cond.instanceMethod yX8_safe ∈ gw := gw_in (tb_6 (List.mem_of_getElem? (i := 83) rfl)) rfl
theorem w6_84 : Cond.selects RX8 yX8_safe yX8_safe ∈ gw := gw_in (tb_6 (List.mem_of_getElem? (i := 84) rfl)) rfl
theorem w6_85 : Cond.code yX8_safe cX8_safe 4 (some .int) ∈ gw := gw_in (tb_6 (List.mem_of_getElem? (i := 85) rfl)) rfl
theorem w6_86 : Cond.methodLink RL 121 yX8_loudest ∈ gw := gw_in (tb_6 (List.mem_of_getElem? (i := 86) rfl)) rfl
theorem w6_87 : Cond.instanceMethod yX8_loudest ∈ gw := gw_in (tb_6 (List.mem_of_getElem? (i := 87) rfl)) rfl
theorem w6_88 : Cond.selects RX8 yX8_loudest yX8_loudest ∈ gw := gw_in (tb_6 (List.mem_of_getElem? (i := 88) rfl)) rfl
theorem w6_89 : Cond.code yX8_loudest cX8_loudest 8 (some .int) ∈ gw := gw_in (tb_6 (List.mem_of_getElem? (i := 89) rfl)) rfl
theorem w6_90 : Cond.constant RX8 301 1000000 ∈ gw := gw_in (tb_6 (List.mem_of_getElem? (i := 90) rfl)) rfl
theorem w6_91 : Cond.methodLink RX8 302 yX8_allHold ∈ gw := gw_in (tb_6 (List.mem_of_getElem? (i := 91) rfl)) rfl
theorem w6_93 : Cond.instanceMethod yX8_allHold ∈ gw := gw_in (tb_6 (List.mem_of_getElem? (i := 93) rfl)) rfl
theorem w6_94 : Cond.code yX8_allHold cX8_allHold 4 (some .int) ∈ gw := gw_in (tb_6 (List.mem_of_getElem? (i := 94) rfl)) rfl
theorem w6_95 : Cond.methodLink RL 125 yX8_weakest ∈ gw := gw_in (tb_6 (List.mem_of_getElem? (i := 95) rfl)) rfl
theorem w6_96 : Cond.instanceMethod yX8_weakest ∈ gw := gw_in (tb_6 (List.mem_of_getElem? (i := 96) rfl)) rfl
theorem w6_97 : Cond.selects RX8 yX8_weakest yX8_weakest ∈ gw := gw_in (tb_6 (List.mem_of_getElem? (i := 97) rfl)) rfl
theorem w6_98 : Cond.code yX8_weakest cX8_weakest 3 (some .int) ∈ gw := gw_in (tb_6 (List.mem_of_getElem? (i := 98) rfl)) rfl
theorem w6_99 : Cond.methodLink RX8 305 yX8_lackOf ∈ gw := gw_in (tb_6 (List.mem_of_getElem? (i := 99) rfl)) rfl
theorem w6_101 : Cond.instanceMethod yX8_lackOf ∈ gw := gw_in (tb_6 (List.mem_of_getElem? (i := 101) rfl)) rfl
theorem w6_102 : Cond.code yX8_lackOf cX8_lackOf 2 (some .int) ∈ gw := gw_in (tb_6 (List.mem_of_getElem? (i := 102) rfl)) rfl
theorem w6_103 : Cond.methodLink RL 129 yX8_trades ∈ gw := gw_in (tb_6 (List.mem_of_getElem? (i := 103) rfl)) rfl
theorem w6_104 : Cond.instanceMethod yX8_trades ∈ gw := gw_in (tb_6 (List.mem_of_getElem? (i := 104) rfl)) rfl
theorem w6_105 : Cond.selects RX8 yX8_trades yX8_trades ∈ gw := gw_in (tb_6 (List.mem_of_getElem? (i := 105) rfl)) rfl
theorem w6_106 : Cond.code yX8_trades cX8_trades 5 (some .int) ∈ gw := gw_in (tb_6 (List.mem_of_getElem? (i := 106) rfl)) rfl
theorem w6_107 : Cond.methodLink RL 133 yX8_needs ∈ gw := gw_in (tb_6 (List.mem_of_getElem? (i := 107) rfl)) rfl
theorem w6_108 : Cond.instanceMethod yX8_needs ∈ gw := gw_in (tb_6 (List.mem_of_getElem? (i := 108) rfl)) rfl
theorem w6_109 : Cond.selects RX8 yX8_needs yX8_needs ∈ gw := gw_in (tb_6 (List.mem_of_getElem? (i := 109) rfl)) rfl
theorem w6_110 : Cond.code yX8_needs cX8_needs 4 (some .int) ∈ gw := gw_in (tb_6 (List.mem_of_getElem? (i := 110) rfl)) rfl
theorem w6_111 : Cond.methodLink RX8 308 yX8_allCats ∈ gw := gw_in (tb_6 (List.mem_of_getElem? (i := 111) rfl)) rfl
theorem w6_113 : Cond.instanceMethod yX8_allCats ∈ gw := gw_in (tb_6 (List.mem_of_getElem? (i := 113) rfl)) rfl
theorem w6_114 : Cond.code yX8_allCats cX8_allCats 1 (some .int) ∈ gw := gw_in (tb_6 (List.mem_of_getElem? (i := 114) rfl)) rfl
theorem w6_115 : Cond.methodLink RX8 311 yX8_holdBy ∈ gw := gw_in (tb_6 (List.mem_of_getElem? (i := 115) rfl)) rfl
theorem w6_117 : Cond.instanceMethod yX8_holdBy ∈ gw := gw_in (tb_6 (List.mem_of_getElem? (i := 117) rfl)) rfl
theorem w6_118 : Cond.code yX8_holdBy cX8_holdBy 5 (some .int) ∈ gw := gw_in (tb_6 (List.mem_of_getElem? (i := 118) rfl)) rfl
theorem w6_119 : Cond.methodLink RL 137 yX8_guards ∈ gw := gw_in (tb_6 (List.mem_of_getElem? (i := 119) rfl)) rfl
theorem w6_120 : Cond.instanceMethod yX8_guards ∈ gw := gw_in (tb_6 (List.mem_of_getElem? (i := 120) rfl)) rfl
theorem w6_121 : Cond.selects RX8 yX8_guards yX8_guards ∈ gw := gw_in (tb_6 (List.mem_of_getElem? (i := 121) rfl)) rfl
theorem w6_122 : Cond.code yX8_guards cX8_guards 5 (some .int) ∈ gw := gw_in (tb_6 (List.mem_of_getElem? (i := 122) rfl)) rfl
theorem w6_123 : Cond.methodLink RX8 314 yX8_isHeld ∈ gw := gw_in (tb_6 (List.mem_of_getElem? (i := 123) rfl)) rfl
theorem w6_125 : Cond.instanceMethod yX8_isHeld ∈ gw := gw_in (tb_6 (List.mem_of_getElem? (i := 125) rfl)) rfl
theorem w6_126 : Cond.code yX8_isHeld cX8_isHeld 3 (some .int) ∈ gw := gw_in (tb_6 (List.mem_of_getElem? (i := 126) rfl)) rfl
theorem w6_127 : Cond.methodLink RL 141 yX8_best ∈ gw := gw_in (tb_6 (List.mem_of_getElem? (i := 127) rfl)) rfl
theorem w6_128 : Cond.instanceMethod yX8_best ∈ gw := gw_in (tb_6 (List.mem_of_getElem? (i := 128) rfl)) rfl
theorem w6_129 : Cond.selects RX8 yX8_best yX8_best ∈ gw := gw_in (tb_6 (List.mem_of_getElem? (i := 129) rfl)) rfl
theorem w6_130 : Cond.code yX8_best cX8_best 7 (some .int) ∈ gw := gw_in (tb_6 (List.mem_of_getElem? (i := 130) rfl)) rfl
theorem w6_131 : Cond.methodLink RX8 317 yX8_sagsBehind ∈ gw := gw_in (tb_6 (List.mem_of_getElem? (i := 131) rfl)) rfl
theorem w6_133 : Cond.instanceMethod yX8_sagsBehind ∈ gw := gw_in (tb_6 (List.mem_of_getElem? (i := 133) rfl)) rfl
theorem w6_134 : Cond.code yX8_sagsBehind cX8_sagsBehind 2 (some .int) ∈ gw := gw_in (tb_6 (List.mem_of_getElem? (i := 134) rfl)) rfl
theorem w6_135 : Cond.methodLink RL 145 yX8_cheers ∈ gw := gw_in (tb_6 (List.mem_of_getElem? (i := 135) rfl)) rfl
theorem w6_136 : Cond.instanceMethod yX8_cheers ∈ gw := gw_in (tb_6 (List.mem_of_getElem? (i := 136) rfl)) rfl
theorem w6_137 : Cond.selects RX8 yX8_cheers yX8_cheers ∈ gw := gw_in (tb_6 (List.mem_of_getElem? (i := 137) rfl)) rfl
theorem w6_138 : Cond.code yX8_cheers cX8_cheers 6 (some .int) ∈ gw := gw_in (tb_6 (List.mem_of_getElem? (i := 138) rfl)) rfl
theorem w6_139 : Cond.methodLink RL 149 yX8_bears ∈ gw := gw_in (tb_6 (List.mem_of_getElem? (i := 139) rfl)) rfl
theorem w6_140 : Cond.instanceMethod yX8_bears ∈ gw := gw_in (tb_6 (List.mem_of_getElem? (i := 140) rfl)) rfl
theorem w6_141 : Cond.selects RX8 yX8_bears yX8_bears ∈ gw := gw_in (tb_6 (List.mem_of_getElem? (i := 141) rfl)) rfl
theorem w6_142 : Cond.code yX8_bears cX8_bears 6 (some .int) ∈ gw := gw_in (tb_6 (List.mem_of_getElem? (i := 142) rfl)) rfl
theorem w6_143 : Cond.methodLink RL 153 yX8_trolley ∈ gw := gw_in (tb_6 (List.mem_of_getElem? (i := 143) rfl)) rfl
theorem w6_144 : Cond.instanceMethod yX8_trolley ∈ gw := gw_in (tb_6 (List.mem_of_getElem? (i := 144) rfl)) rfl
theorem w6_145 : Cond.selects RX8 yX8_trolley yX8_trolley ∈ gw := gw_in (tb_6 (List.mem_of_getElem? (i := 145) rfl)) rfl
theorem w6_146 : Cond.code yX8_trolley cX8_trolley 3 (some .int) ∈ gw := gw_in (tb_6 (List.mem_of_getElem? (i := 146) rfl)) rfl
theorem w6_147 : Cond.methodLink RX8 323 yX8_goTrolley ∈ gw := gw_in (tb_6 (List.mem_of_getElem? (i := 147) rfl)) rfl
theorem w6_149 : Cond.instanceMethod yX8_goTrolley ∈ gw := gw_in (tb_6 (List.mem_of_getElem? (i := 149) rfl)) rfl
theorem w6_150 : Cond.code yX8_goTrolley cX8_goTrolley 8 (some .int) ∈ gw := gw_in (tb_6 (List.mem_of_getElem? (i := 150) rfl)) rfl
theorem w6_151 : Cond.methodLink RL 157 yX8_depot ∈ gw := gw_in (tb_6 (List.mem_of_getElem? (i := 151) rfl)) rfl
theorem w6_152 : Cond.instanceMethod yX8_depot ∈ gw := gw_in (tb_6 (List.mem_of_getElem? (i := 152) rfl)) rfl
theorem w6_153 : Cond.selects RX8 yX8_depot yX8_depot ∈ gw := gw_in (tb_6 (List.mem_of_getElem? (i := 153) rfl)) rfl
theorem w6_154 : Cond.code yX8_depot cX8_depot 3 (some .int) ∈ gw := gw_in (tb_6 (List.mem_of_getElem? (i := 154) rfl)) rfl
theorem w6_155 : Cond.methodLink RL 161 yX8_felt ∈ gw := gw_in (tb_6 (List.mem_of_getElem? (i := 155) rfl)) rfl
theorem w6_156 : Cond.instanceMethod yX8_felt ∈ gw := gw_in (tb_6 (List.mem_of_getElem? (i := 156) rfl)) rfl
theorem w6_157 : Cond.selects RX8 yX8_felt yX8_felt ∈ gw := gw_in (tb_6 (List.mem_of_getElem? (i := 157) rfl)) rfl
theorem w6_158 : Cond.code yX8_felt cX8_felt 3 (some .int) ∈ gw := gw_in (tb_6 (List.mem_of_getElem? (i := 158) rfl)) rfl
theorem w6_159 : Cond.methodLink RL 165 yX8_forget ∈ gw := gw_in (tb_6 (List.mem_of_getElem? (i := 159) rfl)) rfl
theorem w6_160 : Cond.instanceMethod yX8_forget ∈ gw := gw_in (tb_6 (List.mem_of_getElem? (i := 160) rfl)) rfl
theorem w6_161 : Cond.selects RX8 yX8_forget yX8_forget ∈ gw := gw_in (tb_6 (List.mem_of_getElem? (i := 161) rfl)) rfl
theorem w6_162 : Cond.code yX8_forget cX8_forget 2 (some .int) ∈ gw := gw_in (tb_6 (List.mem_of_getElem? (i := 162) rfl)) rfl
theorem w6_163 : Cond.methodLink RL 169 yX8_fits ∈ gw := gw_in (tb_6 (List.mem_of_getElem? (i := 163) rfl)) rfl
theorem w6_164 : Cond.instanceMethod yX8_fits ∈ gw := gw_in (tb_6 (List.mem_of_getElem? (i := 164) rfl)) rfl
theorem w6_165 : Cond.selects RX8 yX8_fits yX8_fits ∈ gw := gw_in (tb_6 (List.mem_of_getElem? (i := 165) rfl)) rfl
theorem w6_166 : Cond.code yX8_fits cX8_fits 2 (some .int) ∈ gw := gw_in (tb_6 (List.mem_of_getElem? (i := 166) rfl)) rfl
theorem w6_167 : Cond.methodLink RX8 335 yX8_grieving ∈ gw := gw_in (tb_6 (List.mem_of_getElem? (i := 167) rfl)) rfl
theorem w6_169 : Cond.instanceMethod yX8_grieving ∈ gw := gw_in (tb_6 (List.mem_of_getElem? (i := 169) rfl)) rfl
theorem w6_170 : Cond.code yX8_grieving cX8_grieving 3 (some .int) ∈ gw := gw_in (tb_6 (List.mem_of_getElem? (i := 170) rfl)) rfl
theorem w6_171 : Cond.methodLink RX8 332 yX8_isFelt ∈ gw := gw_in (tb_6 (List.mem_of_getElem? (i := 171) rfl)) rfl
theorem w6_173 : Cond.instanceMethod yX8_isFelt ∈ gw := gw_in (tb_6 (List.mem_of_getElem? (i := 173) rfl)) rfl
theorem w6_174 : Cond.code yX8_isFelt cX8_isFelt 3 (some .boolean) ∈ gw := gw_in (tb_6 (List.mem_of_getElem? (i := 174) rfl)) rfl
theorem w6_175 : Cond.methodLink RX8 329 yX8_holdWithout ∈ gw := gw_in (tb_6 (List.mem_of_getElem? (i := 175) rfl)) rfl
theorem w6_177 : Cond.instanceMethod yX8_holdWithout ∈ gw := gw_in (tb_6 (List.mem_of_getElem? (i := 177) rfl)) rfl
theorem w6_178 : Cond.code yX8_holdWithout cX8_holdWithout 3 (some .int) ∈ gw := gw_in (tb_6 (List.mem_of_getElem? (i := 178) rfl)) rfl
theorem w6_179 : Cond.methodLink RL 173 yX8_feels ∈ gw := gw_in (tb_6 (List.mem_of_getElem? (i := 179) rfl)) rfl
theorem w6_180 : Cond.instanceMethod yX8_feels ∈ gw := gw_in (tb_6 (List.mem_of_getElem? (i := 180) rfl)) rfl
theorem w6_181 : Cond.selects RX8 yX8_feels yX8_feels ∈ gw := gw_in (tb_6 (List.mem_of_getElem? (i := 181) rfl)) rfl
theorem w6_182 : Cond.code yX8_feels cX8_feels 8 (some .int) ∈ gw := gw_in (tb_6 (List.mem_of_getElem? (i := 182) rfl)) rfl
theorem w6_183 : Cond.methodLink RL 177 yX8_spreads ∈ gw := gw_in (tb_6 (List.mem_of_getElem? (i := 183) rfl)) rfl
theorem w6_184 : Cond.instanceMethod yX8_spreads ∈ gw := gw_in (tb_6 (List.mem_of_getElem? (i := 184) rfl)) rfl
theorem w6_185 : Cond.selects RX8 yX8_spreads yX8_spreads ∈ gw := gw_in (tb_6 (List.mem_of_getElem? (i := 185) rfl)) rfl
theorem w6_186 : Cond.code yX8_spreads cX8_spreads 6 (some .int) ∈ gw := gw_in (tb_6 (List.mem_of_getElem? (i := 186) rfl)) rfl
theorem w6_187 : Cond.methodLink RX8 338 yX8_spread ∈ gw := gw_in (tb_6 (List.mem_of_getElem? (i := 187) rfl)) rfl
theorem w6_189 : Cond.instanceMethod yX8_spread ∈ gw := gw_in (tb_6 (List.mem_of_getElem? (i := 189) rfl)) rfl
theorem w6_190 : Cond.code yX8_spread cX8_spread 5 (some .int) ∈ gw := gw_in (tb_6 (List.mem_of_getElem? (i := 190) rfl)) rfl
theorem w6_191 : Cond.methodLink RL 181 yX8_heard ∈ gw := gw_in (tb_6 (List.mem_of_getElem? (i := 191) rfl)) rfl
theorem w6_192 : Cond.instanceMethod yX8_heard ∈ gw := gw_in (tb_6 (List.mem_of_getElem? (i := 192) rfl)) rfl
theorem w6_193 : Cond.selects RX8 yX8_heard yX8_heard ∈ gw := gw_in (tb_6 (List.mem_of_getElem? (i := 193) rfl)) rfl
theorem w6_194 : Cond.code yX8_heard cX8_heard 4 (some .int) ∈ gw := gw_in (tb_6 (List.mem_of_getElem? (i := 194) rfl)) rfl
theorem w6_195 : Cond.methodLink RL 185 yX8_denies ∈ gw := gw_in (tb_6 (List.mem_of_getElem? (i := 195) rfl)) rfl
theorem w6_196 : Cond.instanceMethod yX8_denies ∈ gw := gw_in (tb_6 (List.mem_of_getElem? (i := 196) rfl)) rfl
theorem w6_197 : Cond.selects RX8 yX8_denies yX8_denies ∈ gw := gw_in (tb_6 (List.mem_of_getElem? (i := 197) rfl)) rfl
theorem w6_198 : Cond.code yX8_denies cX8_denies 2 (some .int) ∈ gw := gw_in (tb_6 (List.mem_of_getElem? (i := 198) rfl)) rfl
theorem w6_199 : Cond.methodLink RL 189 yX8_suits ∈ gw := gw_in (tb_6 (List.mem_of_getElem? (i := 199) rfl)) rfl
theorem w6_200 : Cond.instanceMethod yX8_suits ∈ gw := gw_in (tb_6 (List.mem_of_getElem? (i := 200) rfl)) rfl
theorem w6_201 : Cond.selects RX8 yX8_suits yX8_suits ∈ gw := gw_in (tb_6 (List.mem_of_getElem? (i := 201) rfl)) rfl
theorem w6_202 : Cond.code yX8_suits cX8_suits 2 (some .int) ∈ gw := gw_in (tb_6 (List.mem_of_getElem? (i := 202) rfl)) rfl
theorem w6_203 : Cond.methodLink RX8 347 yX8_suiting ∈ gw := gw_in (tb_6 (List.mem_of_getElem? (i := 203) rfl)) rfl
theorem w6_205 : Cond.instanceMethod yX8_suiting ∈ gw := gw_in (tb_6 (List.mem_of_getElem? (i := 205) rfl)) rfl
theorem w6_206 : Cond.code yX8_suiting cX8_suiting 5 (some .int) ∈ gw := gw_in (tb_6 (List.mem_of_getElem? (i := 206) rfl)) rfl
theorem w6_207 : Cond.methodLink RX8 344 yX8_isSo ∈ gw := gw_in (tb_6 (List.mem_of_getElem? (i := 207) rfl)) rfl
theorem w6_209 : Cond.instanceMethod yX8_isSo ∈ gw := gw_in (tb_6 (List.mem_of_getElem? (i := 209) rfl)) rfl
theorem w6_210 : Cond.code yX8_isSo cX8_isSo 4 (some .boolean) ∈ gw := gw_in (tb_6 (List.mem_of_getElem? (i := 210) rfl)) rfl
theorem w6_211 : Cond.methodLink RL 193 yX8_asks ∈ gw := gw_in (tb_6 (List.mem_of_getElem? (i := 211) rfl)) rfl
theorem w6_212 : Cond.instanceMethod yX8_asks ∈ gw := gw_in (tb_6 (List.mem_of_getElem? (i := 212) rfl)) rfl
theorem w6_213 : Cond.selects RX8 yX8_asks yX8_asks ∈ gw := gw_in (tb_6 (List.mem_of_getElem? (i := 213) rfl)) rfl
theorem w6_214 : Cond.code yX8_asks cX8_asks 7 (some .int) ∈ gw := gw_in (tb_6 (List.mem_of_getElem? (i := 214) rfl)) rfl
theorem w6_215 : Cond.methodLink RL 197 yX8_odds ∈ gw := gw_in (tb_6 (List.mem_of_getElem? (i := 215) rfl)) rfl
theorem w6_216 : Cond.instanceMethod yX8_odds ∈ gw := gw_in (tb_6 (List.mem_of_getElem? (i := 216) rfl)) rfl
theorem w6_217 : Cond.selects RX8 yX8_odds yX8_odds ∈ gw := gw_in (tb_6 (List.mem_of_getElem? (i := 217) rfl)) rfl
theorem w6_218 : Cond.code yX8_odds cX8_odds 3 (some .int) ∈ gw := gw_in (tb_6 (List.mem_of_getElem? (i := 218) rfl)) rfl
theorem w6_219 : Cond.methodLink RX8 356 yX8_partsOf ∈ gw := gw_in (tb_6 (List.mem_of_getElem? (i := 219) rfl)) rfl
theorem w6_221 : Cond.instanceMethod yX8_partsOf ∈ gw := gw_in (tb_6 (List.mem_of_getElem? (i := 221) rfl)) rfl
theorem w6_222 : Cond.code yX8_partsOf cX8_partsOf 11 (some .long) ∈ gw := gw_in (tb_6 (List.mem_of_getElem? (i := 222) rfl)) rfl
theorem w6_223 : Cond.methodLink RX8 360 yX8_tens ∈ gw := gw_in (tb_6 (List.mem_of_getElem? (i := 223) rfl)) rfl
theorem w6_224 : Cond.static yX8_tens ∈ gw := gw_in (tb_6 (List.mem_of_getElem? (i := 224) rfl)) rfl
theorem w6_225 : Cond.code yX8_tens cX8_tens 4 (some .long) ∈ gw := gw_in (tb_6 (List.mem_of_getElem? (i := 225) rfl)) rfl
theorem w6_226 : Cond.constantLong RX8 354 10 ∈ gw := gw_in (tb_6 (List.mem_of_getElem? (i := 226) rfl)) rfl
theorem w6_227 : Cond.methodLink RX8 364 yX8_tellPart ∈ gw := gw_in (tb_6 (List.mem_of_getElem? (i := 227) rfl)) rfl
theorem w6_229 : Cond.instanceMethod yX8_tellPart ∈ gw := gw_in (tb_6 (List.mem_of_getElem? (i := 229) rfl)) rfl
theorem w6_230 : Cond.code yX8_tellPart cX8_tellPart 7 (some .int) ∈ gw := gw_in (tb_6 (List.mem_of_getElem? (i := 230) rfl)) rfl
theorem w6_231 : Cond.methodLink RX8 350 yX8_common ∈ gw := gw_in (tb_6 (List.mem_of_getElem? (i := 231) rfl)) rfl
theorem w6_232 : Cond.static yX8_common ∈ gw := gw_in (tb_6 (List.mem_of_getElem? (i := 232) rfl)) rfl
theorem w6_233 : Cond.code yX8_common cX8_common 4 (some .long) ∈ gw := gw_in (tb_6 (List.mem_of_getElem? (i := 233) rfl)) rfl
theorem w6_234 : Cond.methodLink RL 201 yX8_stands ∈ gw := gw_in (tb_6 (List.mem_of_getElem? (i := 234) rfl)) rfl
theorem w6_235 : Cond.instanceMethod yX8_stands ∈ gw := gw_in (tb_6 (List.mem_of_getElem? (i := 235) rfl)) rfl
theorem w6_236 : Cond.selects RX8 yX8_stands yX8_stands ∈ gw := gw_in (tb_6 (List.mem_of_getElem? (i := 236) rfl)) rfl
theorem w6_237 : Cond.code yX8_stands cX8_stands 5 (some .int) ∈ gw := gw_in (tb_6 (List.mem_of_getElem? (i := 237) rfl)) rfl
theorem w6_238 : Cond.methodLink RL 205 yX8_litters ∈ gw := gw_in (tb_6 (List.mem_of_getElem? (i := 238) rfl)) rfl
theorem w6_239 : Cond.instanceMethod yX8_litters ∈ gw := gw_in (tb_6 (List.mem_of_getElem? (i := 239) rfl)) rfl
theorem w7_0 : Cond.selects RX8 yX8_litters yX8_litters ∈ gw := gw_in (tb_7 (List.mem_of_getElem? (i := 0) rfl)) rfl
theorem w7_1 : Cond.code yX8_litters cX8_litters 6 (some .int) ∈ gw := gw_in (tb_7 (List.mem_of_getElem? (i := 1) rfl)) rfl
theorem w7_2 : Cond.constantLong RX8 368 (-1) ∈ gw := gw_in (tb_7 (List.mem_of_getElem? (i := 2) rfl)) rfl
theorem w7_3 : Cond.methodLink RX8 370 yJ13_numberOfTrailingZeros_95d88 ∈ gw := gw_in (tb_7 (List.mem_of_getElem? (i := 3) rfl)) rfl
theorem w7_4 : Cond.static yJ13_numberOfTrailingZeros_95d88 ∈ gw := gw_in (tb_7 (List.mem_of_getElem? (i := 4) rfl)) rfl
theorem w7_5 : Cond.code yJ13_numberOfTrailingZeros_95d88 cJ13_numberOfTrailingZeros_95d88 3 (some .int) ∈ gw := gw_in (tb_7 (List.mem_of_getElem? (i := 5) rfl)) rfl
theorem w7_6 : Cond.methodLink RJ13 311 yJ6_numberOfTrailingZeros_0f7a4 ∈ gw := gw_in (tb_7 (List.mem_of_getElem? (i := 6) rfl)) rfl
theorem w7_7 : Cond.static yJ6_numberOfTrailingZeros_0f7a4 ∈ gw := gw_in (tb_7 (List.mem_of_getElem? (i := 7) rfl)) rfl
theorem w7_8 : Cond.code yJ6_numberOfTrailingZeros_0f7a4 cJ6_numberOfTrailingZeros_0f7a4 2 (some .int) ∈ gw := gw_in (tb_7 (List.mem_of_getElem? (i := 8) rfl)) rfl
theorem w7_9 : Cond.constant RJ6 264 65536 ∈ gw := gw_in (tb_7 (List.mem_of_getElem? (i := 9) rfl)) rfl
theorem w7_10 : Cond.methodLink RL 209 yX8_rests ∈ gw := gw_in (tb_7 (List.mem_of_getElem? (i := 10) rfl)) rfl
theorem w7_11 : Cond.instanceMethod yX8_rests ∈ gw := gw_in (tb_7 (List.mem_of_getElem? (i := 11) rfl)) rfl
theorem w7_12 : Cond.selects RX8 yX8_rests yX8_rests ∈ gw := gw_in (tb_7 (List.mem_of_getElem? (i := 12) rfl)) rfl
theorem w7_13 : Cond.code yX8_rests cX8_rests 5 (some .int) ∈ gw := gw_in (tb_7 (List.mem_of_getElem? (i := 13) rfl)) rfl
theorem w7_14 : Cond.methodLink RX8 380 yX8_isBest ∈ gw := gw_in (tb_7 (List.mem_of_getElem? (i := 14) rfl)) rfl
theorem w7_15 : Cond.static yX8_isBest ∈ gw := gw_in (tb_7 (List.mem_of_getElem? (i := 15) rfl)) rfl
theorem w7_16 : Cond.code yX8_isBest cX8_isBest 4 (some .boolean) ∈ gw := gw_in (tb_7 (List.mem_of_getElem? (i := 16) rfl)) rfl
theorem w7_17 : Cond.methodLink RX8 376 yX8_gets ∈ gw := gw_in (tb_7 (List.mem_of_getElem? (i := 17) rfl)) rfl
theorem w7_18 : Cond.static yX8_gets ∈ gw := gw_in (tb_7 (List.mem_of_getElem? (i := 18) rfl)) rfl
theorem w7_19 : Cond.code yX8_gets cX8_gets 3 (some .int) ∈ gw := gw_in (tb_7 (List.mem_of_getElem? (i := 19) rfl)) rfl
theorem w7_20 : Cond.methodLink RL 213 yX8_law ∈ gw := gw_in (tb_7 (List.mem_of_getElem? (i := 20) rfl)) rfl
theorem w7_21 : Cond.instanceMethod yX8_law ∈ gw := gw_in (tb_7 (List.mem_of_getElem? (i := 21) rfl)) rfl
theorem w7_22 : Cond.selects RX8 yX8_law yX8_law ∈ gw := gw_in (tb_7 (List.mem_of_getElem? (i := 22) rfl)) rfl
theorem w7_23 : Cond.code yX8_law cX8_law 7 (some .int) ∈ gw := gw_in (tb_7 (List.mem_of_getElem? (i := 23) rfl)) rfl
theorem w7_24 : Cond.methodLink RL 217 yX8_years ∈ gw := gw_in (tb_7 (List.mem_of_getElem? (i := 24) rfl)) rfl
theorem w7_25 : Cond.instanceMethod yX8_years ∈ gw := gw_in (tb_7 (List.mem_of_getElem? (i := 25) rfl)) rfl
theorem w7_26 : Cond.selects RX8 yX8_years yX8_years ∈ gw := gw_in (tb_7 (List.mem_of_getElem? (i := 26) rfl)) rfl
theorem w7_27 : Cond.code yX8_years cX8_years 7 (some .int) ∈ gw := gw_in (tb_7 (List.mem_of_getElem? (i := 27) rfl)) rfl
theorem w7_28 : Cond.methodLink RX8 387 yX8_draw ∈ gw := gw_in (tb_7 (List.mem_of_getElem? (i := 28) rfl)) rfl
theorem w7_30 : Cond.instanceMethod yX8_draw ∈ gw := gw_in (tb_7 (List.mem_of_getElem? (i := 30) rfl)) rfl
theorem w7_31 : Cond.code yX8_draw cX8_draw 2 (some .int) ∈ gw := gw_in (tb_7 (List.mem_of_getElem? (i := 31) rfl)) rfl
theorem w7_32 : Cond.constant RX8 386 1103515245 ∈ gw := gw_in (tb_7 (List.mem_of_getElem? (i := 32) rfl)) rfl
theorem w7_33 : Cond.methodLink RL 221 yX8_keep ∈ gw := gw_in (tb_7 (List.mem_of_getElem? (i := 33) rfl)) rfl
theorem w7_34 : Cond.instanceMethod yX8_keep ∈ gw := gw_in (tb_7 (List.mem_of_getElem? (i := 34) rfl)) rfl
theorem w7_35 : Cond.selects RX8 yX8_keep yX8_keep ∈ gw := gw_in (tb_7 (List.mem_of_getElem? (i := 35) rfl)) rfl
theorem w7_36 : Cond.code yX8_keep cX8_keep 2 (some .boolean) ∈ gw := gw_in (tb_7 (List.mem_of_getElem? (i := 36) rfl)) rfl
theorem w7_37 : Cond.methodLink RL 225 yX8_again ∈ gw := gw_in (tb_7 (List.mem_of_getElem? (i := 37) rfl)) rfl
theorem w7_38 : Cond.instanceMethod yX8_again ∈ gw := gw_in (tb_7 (List.mem_of_getElem? (i := 38) rfl)) rfl
theorem w7_39 : Cond.selects RX8 yX8_again yX8_again ∈ gw := gw_in (tb_7 (List.mem_of_getElem? (i := 39) rfl)) rfl
theorem w7_40 : Cond.code yX8_again cX8_again 3 (some .boolean) ∈ gw := gw_in (tb_7 (List.mem_of_getElem? (i := 40) rfl)) rfl
theorem w7_41 : Cond.methodLink RL 229 yX8_count ∈ gw := gw_in (tb_7 (List.mem_of_getElem? (i := 41) rfl)) rfl
theorem w7_42 : Cond.instanceMethod yX8_count ∈ gw := gw_in (tb_7 (List.mem_of_getElem? (i := 42) rfl)) rfl
theorem w7_43 : Cond.selects RX8 yX8_count yX8_count ∈ gw := gw_in (tb_7 (List.mem_of_getElem? (i := 43) rfl)) rfl
theorem w7_44 : Cond.code yX8_count cX8_count 2 (some .int) ∈ gw := gw_in (tb_7 (List.mem_of_getElem? (i := 44) rfl)) rfl
theorem w7_45 : Cond.methodLink RL 233 yX8_row ∈ gw := gw_in (tb_7 (List.mem_of_getElem? (i := 45) rfl)) rfl
theorem w7_46 : Cond.instanceMethod yX8_row ∈ gw := gw_in (tb_7 (List.mem_of_getElem? (i := 46) rfl)) rfl
theorem w7_47 : Cond.selects RX8 yX8_row yX8_row ∈ gw := gw_in (tb_7 (List.mem_of_getElem? (i := 47) rfl)) rfl
theorem w7_48 : Cond.code yX8_row cX8_row 2 (some .long) ∈ gw := gw_in (tb_7 (List.mem_of_getElem? (i := 48) rfl)) rfl
theorem ws_0 : Cond.selects RX4 yX4_bePlain yX4_bePlain ∈ gw := gw_sel (List.mem_of_getElem? (i := 0) rfl) rfl
theorem ws_1 : Cond.selects RX4 yX4_addStep yX4_addStep ∈ gw := gw_sel (List.mem_of_getElem? (i := 1) rfl) rfl
theorem ws_2 : Cond.selects RX7 yX7_linesTaken yX7_linesTaken ∈ gw := gw_sel (List.mem_of_getElem? (i := 2) rfl) rfl
theorem ws_3 : Cond.selects RX7 yX7_readSpare yX7_readSpare ∈ gw := gw_sel (List.mem_of_getElem? (i := 3) rfl) rfl
theorem ws_4 : Cond.selects RX4 yX4_start yX4_start ∈ gw := gw_sel (List.mem_of_getElem? (i := 4) rfl) rfl
theorem ws_5 : Cond.selects RX4 yX4_takes yX4_takes ∈ gw := gw_sel (List.mem_of_getElem? (i := 5) rfl) rfl
theorem ws_6 : Cond.selects RX4 yX4_takesDigit yX4_takesDigit ∈ gw := gw_sel (List.mem_of_getElem? (i := 6) rfl) rfl
theorem ws_7 : Cond.selects RX4 yX4_takesThing yX4_takesThing ∈ gw := gw_sel (List.mem_of_getElem? (i := 7) rfl) rfl
theorem ws_8 : Cond.selects RX4 yX4_push yX4_push ∈ gw := gw_sel (List.mem_of_getElem? (i := 8) rfl) rfl
theorem ws_9 : Cond.selects RX4 yX4_takesBehindThing yX4_takesBehindThing ∈ gw := gw_sel (List.mem_of_getElem? (i := 9) rfl) rfl
theorem ws_10 : Cond.selects RX4 yX4_settle yX4_settle ∈ gw := gw_sel (List.mem_of_getElem? (i := 10) rfl) rfl
theorem ws_11 : Cond.selects RX4 yX4_pop yX4_pop ∈ gw := gw_sel (List.mem_of_getElem? (i := 11) rfl) rfl
theorem ws_12 : Cond.selects RX7 yX7_remembered yX7_remembered ∈ gw := gw_sel (List.mem_of_getElem? (i := 12) rfl) rfl
theorem ws_13 : Cond.selects RX7 yX7_act yX7_act ∈ gw := gw_sel (List.mem_of_getElem? (i := 13) rfl) rfl
theorem ws_14 : Cond.selects RX7 yX7_toldIfFound yX7_toldIfFound ∈ gw := gw_sel (List.mem_of_getElem? (i := 14) rfl) rfl
theorem ws_15 : Cond.selects RX7 yX7_findWhoHoldsAlone yX7_findWhoHoldsAlone ∈ gw := gw_sel (List.mem_of_getElem? (i := 15) rfl) rfl
theorem ws_16 : Cond.selects RX7 yX7_mostGuarded yX7_mostGuarded ∈ gw := gw_sel (List.mem_of_getElem? (i := 16) rfl) rfl
theorem ws_17 : Cond.selects RX7 yX7_leastGuard yX7_leastGuard ∈ gw := gw_sel (List.mem_of_getElem? (i := 17) rfl) rfl
theorem ws_18 : Cond.selects RX7 yX7_sagsIn yX7_sagsIn ∈ gw := gw_sel (List.mem_of_getElem? (i := 18) rfl) rfl
theorem ws_19 : Cond.selects RX7 yX7_trainsBorne yX7_trainsBorne ∈ gw := gw_sel (List.mem_of_getElem? (i := 19) rfl) rfl
theorem ws_20 : Cond.selects RX7 yX7_findPurrs yX7_findPurrs ∈ gw := gw_sel (List.mem_of_getElem? (i := 20) rfl) rfl
theorem ws_21 : Cond.selects RX7 yX7_fittingCats yX7_fittingCats ∈ gw := gw_sel (List.mem_of_getElem? (i := 21) rfl) rfl
theorem ws_22 : Cond.selects RX7 yX7_fitsWithout yX7_fitsWithout ∈ gw := gw_sel (List.mem_of_getElem? (i := 22) rfl) rfl
theorem ws_23 : Cond.selects RX7 yX7_holdWithout yX7_holdWithout ∈ gw := gw_sel (List.mem_of_getElem? (i := 23) rfl) rfl
theorem ws_24 : Cond.selects RX7 yX7_mostLeft yX7_mostLeft ∈ gw := gw_sel (List.mem_of_getElem? (i := 24) rfl) rfl
theorem ws_25 : Cond.selects RX7 yX7_suitingCats yX7_suitingCats ∈ gw := gw_sel (List.mem_of_getElem? (i := 25) rfl) rfl
theorem ws_26 : Cond.selects RX7 yX7_catsOfWhom yX7_catsOfWhom ∈ gw := gw_sel (List.mem_of_getElem? (i := 26) rfl) rfl
theorem ws_27 : Cond.selects RX7 yX7_isSo yX7_isSo ∈ gw := gw_sel (List.mem_of_getElem? (i := 27) rfl) rfl
theorem ws_28 : Cond.selects RX7 yX7_waysToHold yX7_waysToHold ∈ gw := gw_sel (List.mem_of_getElem? (i := 28) rfl) rfl
theorem ws_29 : Cond.selects RX7 yX7_addToWays yX7_addToWays ∈ gw := gw_sel (List.mem_of_getElem? (i := 29) rfl) rfl
theorem ws_30 : Cond.selects RX7 yX7_tellFraction yX7_tellFraction ∈ gw := gw_sel (List.mem_of_getElem? (i := 30) rfl) rfl
theorem ws_31 : Cond.selects RX7 yX7_nimberOf yX7_nimberOf ∈ gw := gw_sel (List.mem_of_getElem? (i := 31) rfl) rfl
theorem ws_32 : Cond.selects RX7 yX7_drawnAct yX7_drawnAct ∈ gw := gw_sel (List.mem_of_getElem? (i := 32) rfl) rfl
theorem ws_34 : Cond.selects RX8 yX8_beginText yX8_beginText ∈ gw := gw_sel (List.mem_of_getElem? (i := 34) rfl) rfl
theorem ws_35 : Cond.selects RX8 yX8_begin yX8_begin ∈ gw := gw_sel (List.mem_of_getElem? (i := 35) rfl) rfl
theorem ws_36 : Cond.selects RX8 yX8_fine yX8_fine ∈ gw := gw_sel (List.mem_of_getElem? (i := 36) rfl) rfl
theorem ws_37 : Cond.selects RX8 yX8_fault yX8_fault ∈ gw := gw_sel (List.mem_of_getElem? (i := 37) rfl) rfl
theorem ws_38 : Cond.selects RX8 yX8_oneOf yX8_oneOf ∈ gw := gw_sel (List.mem_of_getElem? (i := 38) rfl) rfl
theorem ws_39 : Cond.selects RX8 yX8_here yX8_here ∈ gw := gw_sel (List.mem_of_getElem? (i := 39) rfl) rfl
theorem ws_40 : Cond.selects RX8 yX8_passes yX8_passes ∈ gw := gw_sel (List.mem_of_getElem? (i := 40) rfl) rfl
theorem ws_41 : Cond.selects RX8 yX8_wasRight yX8_wasRight ∈ gw := gw_sel (List.mem_of_getElem? (i := 41) rfl) rfl
theorem ws_42 : Cond.selects RX8 yX8_toldAnew yX8_toldAnew ∈ gw := gw_sel (List.mem_of_getElem? (i := 42) rfl) rfl
theorem ws_43 : Cond.selects RX8 yX8_readRule yX8_readRule ∈ gw := gw_sel (List.mem_of_getElem? (i := 43) rfl) rfl
theorem ws_44 : Cond.selects RX8 yX8_held yX8_held ∈ gw := gw_sel (List.mem_of_getElem? (i := 44) rfl) rfl
theorem ws_45 : Cond.selects RX8 yX8_sum yX8_sum ∈ gw := gw_sel (List.mem_of_getElem? (i := 45) rfl) rfl
theorem ws_46 : Cond.selects RX8 yX8_product yX8_product ∈ gw := gw_sel (List.mem_of_getElem? (i := 46) rfl) rfl
theorem ws_47 : Cond.selects RX8 yX8_thing yX8_thing ∈ gw := gw_sel (List.mem_of_getElem? (i := 47) rfl) rfl
theorem ws_48 : Cond.selects RX8 yX8_need yX8_need ∈ gw := gw_sel (List.mem_of_getElem? (i := 48) rfl) rfl
theorem ws_49 : Cond.selects RX8 yX8_number yX8_number ∈ gw := gw_sel (List.mem_of_getElem? (i := 49) rfl) rfl
theorem ws_50 : Cond.selects RX8 yX8_isArch yX8_isArch ∈ gw := gw_sel (List.mem_of_getElem? (i := 50) rfl) rfl
theorem ws_51 : Cond.selects RX8 yX8_lost yX8_lost ∈ gw := gw_sel (List.mem_of_getElem? (i := 51) rfl) rfl
theorem ws_52 : Cond.selects RX8 yX8_there yX8_there ∈ gw := gw_sel (List.mem_of_getElem? (i := 52) rfl) rfl
theorem ws_53 : Cond.selects RX8 yX8_holdOf yX8_holdOf ∈ gw := gw_sel (List.mem_of_getElem? (i := 53) rfl) rfl
theorem ws_54 : Cond.selects RX8 yX8_purrOf yX8_purrOf ∈ gw := gw_sel (List.mem_of_getElem? (i := 54) rfl) rfl
theorem ws_55 : Cond.selects RX8 yX8_purrIn yX8_purrIn ∈ gw := gw_sel (List.mem_of_getElem? (i := 55) rfl) rfl
theorem ws_56 : Cond.selects RX8 yX8_isCat yX8_isCat ∈ gw := gw_sel (List.mem_of_getElem? (i := 56) rfl) rfl
theorem ws_57 : Cond.selects RX8 yX8_remember yX8_remember ∈ gw := gw_sel (List.mem_of_getElem? (i := 57) rfl) rfl
theorem ws_58 : Cond.selects RX8 yX8_goHours yX8_goHours ∈ gw := gw_sel (List.mem_of_getElem? (i := 58) rfl) rfl
theorem ws_59 : Cond.selects RX8 yX8_goHour yX8_goHour ∈ gw := gw_sel (List.mem_of_getElem? (i := 59) rfl) rfl
theorem ws_60 : Cond.selects RX8 yX8_tell yX8_tell ∈ gw := gw_sel (List.mem_of_getElem? (i := 60) rfl) rfl
theorem ws_61 : Cond.selects RX8 yX8_sags yX8_sags ∈ gw := gw_sel (List.mem_of_getElem? (i := 61) rfl) rfl
theorem ws_62 : Cond.selects RX8 yX8_refusesFeed yX8_refusesFeed ∈ gw := gw_sel (List.mem_of_getElem? (i := 62) rfl) rfl
theorem ws_63 : Cond.selects RX8 yX8_refusesPet yX8_refusesPet ∈ gw := gw_sel (List.mem_of_getElem? (i := 63) rfl) rfl
theorem ws_64 : Cond.selects RX8 yX8_canGrieve yX8_canGrieve ∈ gw := gw_sel (List.mem_of_getElem? (i := 64) rfl) rfl
theorem ws_65 : Cond.selects RX8 yX8_refusesSet yX8_refusesSet ∈ gw := gw_sel (List.mem_of_getElem? (i := 65) rfl) rfl
theorem ws_66 : Cond.selects RX8 yX8_refusesLoad yX8_refusesLoad ∈ gw := gw_sel (List.mem_of_getElem? (i := 66) rfl) rfl
theorem ws_67 : Cond.selects RX8 yX8_readAct yX8_readAct ∈ gw := gw_sel (List.mem_of_getElem? (i := 67) rfl) rfl
theorem ws_68 : Cond.selects RX8 yX8_act yX8_act ∈ gw := gw_sel (List.mem_of_getElem? (i := 68) rfl) rfl
theorem ws_69 : Cond.selects RX8 yX8_holding yX8_holding ∈ gw := gw_sel (List.mem_of_getElem? (i := 69) rfl) rfl
theorem ws_70 : Cond.selects RX8 yX8_goThen yX8_goThen ∈ gw := gw_sel (List.mem_of_getElem? (i := 70) rfl) rfl
theorem ws_71 : Cond.selects RX8 yX8_lowest yX8_lowest ∈ gw := gw_sel (List.mem_of_getElem? (i := 71) rfl) rfl
theorem ws_72 : Cond.selects RX8 yX8_allHold yX8_allHold ∈ gw := gw_sel (List.mem_of_getElem? (i := 72) rfl) rfl
theorem ws_73 : Cond.selects RX8 yX8_lackOf yX8_lackOf ∈ gw := gw_sel (List.mem_of_getElem? (i := 73) rfl) rfl
theorem ws_74 : Cond.selects RX8 yX8_allCats yX8_allCats ∈ gw := gw_sel (List.mem_of_getElem? (i := 74) rfl) rfl
theorem ws_75 : Cond.selects RX8 yX8_holdBy yX8_holdBy ∈ gw := gw_sel (List.mem_of_getElem? (i := 75) rfl) rfl
theorem ws_76 : Cond.selects RX8 yX8_isHeld yX8_isHeld ∈ gw := gw_sel (List.mem_of_getElem? (i := 76) rfl) rfl
theorem ws_77 : Cond.selects RX8 yX8_sagsBehind yX8_sagsBehind ∈ gw := gw_sel (List.mem_of_getElem? (i := 77) rfl) rfl
theorem ws_78 : Cond.selects RX8 yX8_goTrolley yX8_goTrolley ∈ gw := gw_sel (List.mem_of_getElem? (i := 78) rfl) rfl
theorem ws_79 : Cond.selects RX8 yX8_grieving yX8_grieving ∈ gw := gw_sel (List.mem_of_getElem? (i := 79) rfl) rfl
theorem ws_80 : Cond.selects RX8 yX8_isFelt yX8_isFelt ∈ gw := gw_sel (List.mem_of_getElem? (i := 80) rfl) rfl
theorem ws_81 : Cond.selects RX8 yX8_holdWithout yX8_holdWithout ∈ gw := gw_sel (List.mem_of_getElem? (i := 81) rfl) rfl
theorem ws_82 : Cond.selects RX8 yX8_spread yX8_spread ∈ gw := gw_sel (List.mem_of_getElem? (i := 82) rfl) rfl
theorem ws_83 : Cond.selects RX8 yX8_suiting yX8_suiting ∈ gw := gw_sel (List.mem_of_getElem? (i := 83) rfl) rfl
theorem ws_84 : Cond.selects RX8 yX8_isSo yX8_isSo ∈ gw := gw_sel (List.mem_of_getElem? (i := 84) rfl) rfl
theorem ws_85 : Cond.selects RX8 yX8_partsOf yX8_partsOf ∈ gw := gw_sel (List.mem_of_getElem? (i := 85) rfl) rfl
theorem ws_86 : Cond.selects RX8 yX8_tellPart yX8_tellPart ∈ gw := gw_sel (List.mem_of_getElem? (i := 86) rfl) rfl
theorem ws_87 : Cond.selects RX8 yX8_draw yX8_draw ∈ gw := gw_sel (List.mem_of_getElem? (i := 87) rfl) rfl
