theorem dX8_goTrolley_0 : decode cX8_goTrolley 0 = .ok (.iconst (-1), 1) := by decide +kernel
theorem dX8_goTrolley_1 : decode cX8_goTrolley 1 = .ok (.istore_n 2, 1) := by decide +kernel
theorem dX8_goTrolley_2 : decode cX8_goTrolley 2 = .ok (.iconst (-1), 1) := by decide +kernel
theorem dX8_goTrolley_3 : decode cX8_goTrolley 3 = .ok (.istore_n 3, 1) := by decide +kernel
theorem dX8_goTrolley_4 : decode cX8_goTrolley 4 = .ok (.iconst 0, 1) := by decide +kernel
theorem dX8_goTrolley_5 : decode cX8_goTrolley 5 = .ok (.istore 4, 2) := by decide +kernel
theorem dX8_goTrolley_7 : decode cX8_goTrolley 7 = .ok (.iload 4, 2) := by decide +kernel
theorem dX8_goTrolley_9 : decode cX8_goTrolley 9 = .ok (.aload_n 0, 1) := by decide +kernel
theorem dX8_goTrolley_10 : decode cX8_goTrolley 10 = .ok (.getfield 89, 3) := by decide +kernel
theorem dX8_goTrolley_13 : decode cX8_goTrolley 13 = .ok (.if_icmp .ge 40, 3) := by decide +kernel
theorem dX8_goTrolley_16 : decode cX8_goTrolley 16 = .ok (.aload_n 0, 1) := by decide +kernel
theorem dX8_goTrolley_17 : decode cX8_goTrolley 17 = .ok (.getfield 9, 3) := by decide +kernel
theorem dX8_goTrolley_20 : decode cX8_goTrolley 20 = .ok (.bipush 6, 2) := by decide +kernel
theorem dX8_goTrolley_22 : decode cX8_goTrolley 22 = .ok (.iload 4, 2) := by decide +kernel
theorem dX8_goTrolley_24 : decode cX8_goTrolley 24 = .ok (.iadd, 1) := by decide +kernel
theorem dX8_goTrolley_25 : decode cX8_goTrolley 25 = .ok (.iaload, 1) := by decide +kernel
theorem dX8_goTrolley_26 : decode cX8_goTrolley 26 = .ok (.ifCond .ne 6, 3) := by decide +kernel
theorem dX8_goTrolley_29 : decode cX8_goTrolley 29 = .ok (.goto 18, 3) := by decide +kernel
theorem dX8_goTrolley_32 : decode cX8_goTrolley 32 = .ok (.iload_n 2, 1) := by decide +kernel
theorem dX8_goTrolley_33 : decode cX8_goTrolley 33 = .ok (.iconst (-1), 1) := by decide +kernel
theorem dX8_goTrolley_34 : decode cX8_goTrolley 34 = .ok (.if_icmp .ne 8, 3) := by decide +kernel
theorem dX8_goTrolley_37 : decode cX8_goTrolley 37 = .ok (.iload 4, 2) := by decide +kernel
theorem dX8_goTrolley_39 : decode cX8_goTrolley 39 = .ok (.goto 4, 3) := by decide +kernel
theorem dX8_goTrolley_42 : decode cX8_goTrolley 42 = .ok (.iload_n 2, 1) := by decide +kernel
theorem dX8_goTrolley_43 : decode cX8_goTrolley 43 = .ok (.istore_n 2, 1) := by decide +kernel
theorem dX8_goTrolley_44 : decode cX8_goTrolley 44 = .ok (.iload 4, 2) := by decide +kernel
theorem dX8_goTrolley_46 : decode cX8_goTrolley 46 = .ok (.istore_n 3, 1) := by decide +kernel
theorem dX8_goTrolley_47 : decode cX8_goTrolley 47 = .ok (.iinc 4 1, 3) := by decide +kernel
theorem dX8_goTrolley_50 : decode cX8_goTrolley 50 = .ok (.goto (-43), 3) := by decide +kernel
theorem dX8_goTrolley_53 : decode cX8_goTrolley 53 = .ok (.aload_n 0, 1) := by decide +kernel
theorem dX8_goTrolley_54 : decode cX8_goTrolley 54 = .ok (.iload_n 1, 1) := by decide +kernel
theorem dX8_goTrolley_55 : decode cX8_goTrolley 55 = .ok (.putfield 320, 3) := by decide +kernel
theorem dX8_goTrolley_58 : decode cX8_goTrolley 58 = .ok (.iload_n 2, 1) := by decide +kernel
theorem dX8_goTrolley_59 : decode cX8_goTrolley 59 = .ok (.iconst (-1), 1) := by decide +kernel
theorem dX8_goTrolley_60 : decode cX8_goTrolley 60 = .ok (.if_icmp .ne 5, 3) := by decide +kernel
theorem dX8_goTrolley_63 : decode cX8_goTrolley 63 = .ok (.iconst 0, 1) := by decide +kernel
theorem dX8_goTrolley_64 : decode cX8_goTrolley 64 = .ok (.ireturn, 1) := by decide +kernel
theorem dX8_goTrolley_65 : decode cX8_goTrolley 65 = .ok (.iload_n 1, 1) := by decide +kernel
theorem dX8_goTrolley_66 : decode cX8_goTrolley 66 = .ok (.iload_n 1, 1) := by decide +kernel
theorem dX8_goTrolley_67 : decode cX8_goTrolley 67 = .ok (.iload_n 2, 1) := by decide +kernel
theorem dX8_goTrolley_68 : decode cX8_goTrolley 68 = .ok (.invokestatic 189, 3) := by decide +kernel
theorem dX8_goTrolley_71 : decode cX8_goTrolley 71 = .ok (.isub, 1) := by decide +kernel
theorem dX8_goTrolley_72 : decode cX8_goTrolley 72 = .ok (.invokestatic 277, 3) := by decide +kernel
theorem dX8_goTrolley_75 : decode cX8_goTrolley 75 = .ok (.iload_n 3, 1) := by decide +kernel
theorem dX8_goTrolley_76 : decode cX8_goTrolley 76 = .ok (.iadd, 1) := by decide +kernel
theorem dX8_goTrolley_77 : decode cX8_goTrolley 77 = .ok (.iload_n 1, 1) := by decide +kernel
theorem dX8_goTrolley_78 : decode cX8_goTrolley 78 = .ok (.iload_n 2, 1) := by decide +kernel
theorem dX8_goTrolley_79 : decode cX8_goTrolley 79 = .ok (.invokestatic 189, 3) := by decide +kernel
theorem dX8_goTrolley_82 : decode cX8_goTrolley 82 = .ok (.isub, 1) := by decide +kernel
theorem dX8_goTrolley_83 : decode cX8_goTrolley 83 = .ok (.istore 4, 2) := by decide +kernel
theorem dX8_goTrolley_85 : decode cX8_goTrolley 85 = .ok (.iload_n 1, 1) := by decide +kernel
theorem dX8_goTrolley_86 : decode cX8_goTrolley 86 = .ok (.iload_n 3, 1) := by decide +kernel
theorem dX8_goTrolley_87 : decode cX8_goTrolley 87 = .ok (.invokestatic 195, 3) := by decide +kernel
theorem dX8_goTrolley_90 : decode cX8_goTrolley 90 = .ok (.iload_n 1, 1) := by decide +kernel
theorem dX8_goTrolley_91 : decode cX8_goTrolley 91 = .ok (.isub, 1) := by decide +kernel
theorem dX8_goTrolley_92 : decode cX8_goTrolley 92 = .ok (.invokestatic 277, 3) := by decide +kernel
theorem dX8_goTrolley_95 : decode cX8_goTrolley 95 = .ok (.iload_n 1, 1) := by decide +kernel
theorem dX8_goTrolley_96 : decode cX8_goTrolley 96 = .ok (.iload_n 3, 1) := by decide +kernel
theorem dX8_goTrolley_97 : decode cX8_goTrolley 97 = .ok (.invokestatic 195, 3) := by decide +kernel
theorem dX8_goTrolley_100 : decode cX8_goTrolley 100 = .ok (.iadd, 1) := by decide +kernel
theorem dX8_goTrolley_101 : decode cX8_goTrolley 101 = .ok (.iload_n 2, 1) := by decide +kernel
theorem dX8_goTrolley_102 : decode cX8_goTrolley 102 = .ok (.isub, 1) := by decide +kernel
theorem dX8_goTrolley_103 : decode cX8_goTrolley 103 = .ok (.istore 5, 2) := by decide +kernel
theorem dX8_goTrolley_105 : decode cX8_goTrolley 105 = .ok (.iload_n 1, 1) := by decide +kernel
theorem dX8_goTrolley_106 : decode cX8_goTrolley 106 = .ok (.iload_n 2, 1) := by decide +kernel
theorem dX8_goTrolley_107 : decode cX8_goTrolley 107 = .ok (.if_icmp .gt 9, 3) := by decide +kernel
theorem dX8_goTrolley_110 : decode cX8_goTrolley 110 = .ok (.iload_n 3, 1) := by decide +kernel
theorem dX8_goTrolley_111 : decode cX8_goTrolley 111 = .ok (.iload_n 1, 1) := by decide +kernel
theorem dX8_goTrolley_112 : decode cX8_goTrolley 112 = .ok (.isub, 1) := by decide +kernel
theorem dX8_goTrolley_113 : decode cX8_goTrolley 113 = .ok (.goto 5, 3) := by decide +kernel
theorem dX8_goTrolley_116 : decode cX8_goTrolley 116 = .ok (.iload 4, 2) := by decide +kernel
theorem dX8_goTrolley_118 : decode cX8_goTrolley 118 = .ok (.istore 6, 2) := by decide +kernel
theorem dX8_goTrolley_120 : decode cX8_goTrolley 120 = .ok (.iload_n 1, 1) := by decide +kernel
theorem dX8_goTrolley_121 : decode cX8_goTrolley 121 = .ok (.iload_n 3, 1) := by decide +kernel
theorem dX8_goTrolley_122 : decode cX8_goTrolley 122 = .ok (.if_icmp .lt 9, 3) := by decide +kernel
theorem dX8_goTrolley_125 : decode cX8_goTrolley 125 = .ok (.iload_n 1, 1) := by decide +kernel
theorem dX8_goTrolley_126 : decode cX8_goTrolley 126 = .ok (.iload_n 2, 1) := by decide +kernel
theorem dX8_goTrolley_127 : decode cX8_goTrolley 127 = .ok (.isub, 1) := by decide +kernel
theorem dX8_goTrolley_128 : decode cX8_goTrolley 128 = .ok (.goto 5, 3) := by decide +kernel
theorem dX8_goTrolley_131 : decode cX8_goTrolley 131 = .ok (.iload 5, 2) := by decide +kernel
theorem dX8_goTrolley_133 : decode cX8_goTrolley 133 = .ok (.istore 7, 2) := by decide +kernel
theorem dX8_goTrolley_135 : decode cX8_goTrolley 135 = .ok (.aload_n 0, 1) := by decide +kernel
theorem dX8_goTrolley_136 : decode cX8_goTrolley 136 = .ok (.iload 7, 2) := by decide +kernel
theorem dX8_goTrolley_138 : decode cX8_goTrolley 138 = .ok (.iload 6, 2) := by decide +kernel
theorem dX8_goTrolley_140 : decode cX8_goTrolley 140 = .ok (.if_icmp .gt 7, 3) := by decide +kernel
theorem dX8_goTrolley_143 : decode cX8_goTrolley 143 = .ok (.iload_n 2, 1) := by decide +kernel
theorem dX8_goTrolley_144 : decode cX8_goTrolley 144 = .ok (.goto 4, 3) := by decide +kernel
theorem dX8_goTrolley_147 : decode cX8_goTrolley 147 = .ok (.iload_n 3, 1) := by decide +kernel
theorem dX8_goTrolley_148 : decode cX8_goTrolley 148 = .ok (.putfield 320, 3) := by decide +kernel
theorem dX8_goTrolley_151 : decode cX8_goTrolley 151 = .ok (.iload 7, 2) := by decide +kernel
theorem dX8_goTrolley_153 : decode cX8_goTrolley 153 = .ok (.iload 6, 2) := by decide +kernel
theorem dX8_goTrolley_155 : decode cX8_goTrolley 155 = .ok (.invokestatic 189, 3) := by decide +kernel
theorem dX8_goTrolley_158 : decode cX8_goTrolley 158 = .ok (.ireturn, 1) := by decide +kernel
def p_X8_goTrolley_148 (F : Nat) (s0_118 : Int32) (s0_133 : Int32) (Post : Int32 → Int32 → Prop) (s1_148 : Int32) : Prop := (Post (if s0_118 < s0_133 then s0_118 else s0_133) s1_148)
def p_X8_goTrolley_133 (F : Nat) (s0_118 : Int32) (y3_7 : Int32) (y2_7 : Int32) (Post : Int32 → Int32 → Prop) (s0_133 : Int32) : Prop := ((s0_118 < s0_133 → (p_X8_goTrolley_148 F s0_118 s0_133 Post y3_7)) ∧ (¬ s0_118 < s0_133 → (p_X8_goTrolley_148 F s0_118 s0_133 Post y2_7)))
def p_X8_goTrolley_118 (F : Nat) (p1 : Int32) (y3_7 : Int32) (y2_7 : Int32) (Post : Int32 → Int32 → Prop) (s0_118 : Int32) : Prop := ((p1 < y3_7 → (p_X8_goTrolley_133 F s0_118 y3_7 y2_7 Post (((if 0 ≤ ((if p1 < y3_7 then y3_7 else p1) - p1) then ((if p1 < y3_7 then y3_7 else p1) - p1) else 0 - ((if p1 < y3_7 then y3_7 else p1) - p1)) + (if p1 < y3_7 then y3_7 else p1)) - y2_7))) ∧ (¬ p1 < y3_7 → (p_X8_goTrolley_133 F s0_118 y3_7 y2_7 Post (p1 - y2_7))))
def p_X8_goTrolley_47 (F : Nat) (y4_7 : Int32) (k7 : Int32 → Int32 → Int32 → Prop) (Post : Int32 → Int32 → Prop) (y2_47 : Int32) (y3_47 : Int32) : Prop := (k7 (y4_7 + (1 : Int32)) y3_47 y2_47)
def p_X8_goTrolley_43 (F : Nat) (y4_7 : Int32) (k7 : Int32 → Int32 → Int32 → Prop) (Post : Int32 → Int32 → Prop) (s0_43 : Int32) : Prop := (p_X8_goTrolley_47 F y4_7 k7 Post s0_43 y4_7)
noncomputable def p_X8_goTrolley_7 (F : Nat) (p1 : Int32) (x_arches : Int32) (f_now : Nat → Int32) (Post : Int32 → Int32 → Prop) (n : Nat) : Int32 → Int32 → Int32 → Prop := Nat.rec (motive := fun _ => Int32 → Int32 → Int32 → Prop) (fun _ _ _ => False) (fun _ k7 => fun (y4_7 : Int32) (y3_7 : Int32) (y2_7 : Int32) => ((x_arches ≤ y4_7 → ((¬ y2_7 = (-1 : Int32) → ((y2_7 < p1 → (p_X8_goTrolley_118 F p1 y3_7 y2_7 Post (((if 0 ≤ (p1 - (if y2_7 < p1 then y2_7 else p1)) then (p1 - (if y2_7 < p1 then y2_7 else p1)) else 0 - (p1 - (if y2_7 < p1 then y2_7 else p1))) + y3_7) - (if y2_7 < p1 then y2_7 else p1)))) ∧ (¬ y2_7 < p1 → (p_X8_goTrolley_118 F p1 y3_7 y2_7 Post (y3_7 - p1))))) ∧ (y2_7 = (-1 : Int32) → (Post (0 : Int32) p1)))) ∧ (¬ x_arches ≤ y4_7 → (vp_in ((6 : Int32) + y4_7) 47 ∧ ((¬ (f_now ((6 : Int32) + y4_7).toNatClampNeg) = 0 → ((¬ y2_7 = (-1 : Int32) → (p_X8_goTrolley_43 F y4_7 k7 Post y2_7)) ∧ (y2_7 = (-1 : Int32) → (p_X8_goTrolley_43 F y4_7 k7 Post y4_7)))) ∧ ((f_now ((6 : Int32) + y4_7).toNatClampNeg) = 0 → (p_X8_goTrolley_47 F y4_7 k7 Post y2_7 y3_7))))))) n
theorem p_X8_goTrolley_7_s (F : Nat) (p1 : Int32) (x_arches : Int32) (f_now : Nat → Int32) (Post : Int32 → Int32 → Prop) (n : Nat) (y4_7 : Int32) (y3_7 : Int32) (y2_7 : Int32) : p_X8_goTrolley_7 F p1 x_arches f_now Post (n + 1) y4_7 y3_7 y2_7 = ((x_arches ≤ y4_7 → ((¬ y2_7 = (-1 : Int32) → ((y2_7 < p1 → (p_X8_goTrolley_118 F p1 y3_7 y2_7 Post (((if 0 ≤ (p1 - (if y2_7 < p1 then y2_7 else p1)) then (p1 - (if y2_7 < p1 then y2_7 else p1)) else 0 - (p1 - (if y2_7 < p1 then y2_7 else p1))) + y3_7) - (if y2_7 < p1 then y2_7 else p1)))) ∧ (¬ y2_7 < p1 → (p_X8_goTrolley_118 F p1 y3_7 y2_7 Post (y3_7 - p1))))) ∧ (y2_7 = (-1 : Int32) → (Post (0 : Int32) p1)))) ∧ (¬ x_arches ≤ y4_7 → (vp_in ((6 : Int32) + y4_7) 47 ∧ ((¬ (f_now ((6 : Int32) + y4_7).toNatClampNeg) = 0 → ((¬ y2_7 = (-1 : Int32) → (p_X8_goTrolley_43 F y4_7 (p_X8_goTrolley_7 F p1 x_arches f_now Post n) Post y2_7)) ∧ (y2_7 = (-1 : Int32) → (p_X8_goTrolley_43 F y4_7 (p_X8_goTrolley_7 F p1 x_arches f_now Post n) Post y4_7)))) ∧ ((f_now ((6 : Int32) + y4_7).toNatClampNeg) = 0 → (p_X8_goTrolley_47 F y4_7 (p_X8_goTrolley_7 F p1 x_arches f_now Post n) Post y2_7 y3_7)))))) := rfl
def p_X8_goTrolley (F : Nat) (p1 : Int32) (x_arches : Int32) (f_now : Nat → Int32) (Post : Int32 → Int32 → Prop) : Prop := (p_X8_goTrolley_7 F p1 x_arches f_now Post F (0 : Int32) (-1 : Int32) (-1 : Int32))
set_option maxHeartbeats 4000000 in
set_option maxRecDepth 100000 in
theorem c_X8_goTrolley (l : Launch) (D : va_G) (cT : Nat → ClassId) (F : Nat) (h : Nat) (p1 : Int32) (q_now : Nat) (x_arches : Int32) (x_cats : Int32) (w_text : Value) (x_typed : Int32) (w_row : Value) (x_rowMany : Int32) (x_thrown : Int32) (w_read : Value) (x_length : Int32) (x_top : Int32) (x_at : Int32) (x_wrong : Int32) (w_told : Value) (w_rule : Value) (w_otherRule : Value) (x_ruleSize : Int32) (x_isAsked : Int32) (w_asked : Value) (w_undos : Value) (x_undoMany : Int32) (w_aside : Value) (w_then : Value) (w_hold : Value) (x_dropped : Int32) (w_acts : Value) (w_guarded : Value) (w_train : Value) (x_trolleyEnd : Int32) (w_feltOf : Value) (w_feltBy : Value) (x_feltMany : Int32) (w_many : Value) (w_heardOf : Value) (w_heardBy : Value) (x_heardMany : Int32) (w_worth : Value) (x_drawn : Int32) (x_came : Int32) (w_kept : Value) (w_isKept : Value) (w_keptCame : Value) (f_now : Nat → Int32) (Post : Int32 → Int32 → Prop) (hg : p_X8_goTrolley F p1 x_arches f_now Post) : MWi l D cT yX8_goTrolley cX8_goTrolley 8 (some .int) 1 30 0 0 [.ref h, .int p1] [(h, oX8 (.ref q_now) (.int x_arches) (.int x_cats) w_text (.int x_typed) w_row (.int x_rowMany) (.int x_thrown) w_read (.int x_length) (.int x_top) (.int x_at) (.int x_wrong) w_told w_rule w_otherRule (.int x_ruleSize) (.int x_isAsked) w_asked w_undos (.int x_undoMany) w_aside w_then w_hold (.int x_dropped) w_acts w_guarded w_train (.int x_trolleyEnd) w_feltOf w_feltBy (.int x_feltMany) w_many w_heardOf w_heardBy (.int x_heardMany) w_worth (.int x_drawn) (.int x_came) w_kept w_isKept w_keptCame), (q_now, aI cT 47 f_now)] Post (fun (u : Int32) => [(h, oX8 (.ref q_now) (.int x_arches) (.int x_cats) w_text (.int x_typed) w_row (.int x_rowMany) (.int x_thrown) w_read (.int x_length) (.int x_top) (.int x_at) (.int x_wrong) w_told w_rule w_otherRule (.int x_ruleSize) (.int x_isAsked) w_asked w_undos (.int x_undoMany) w_aside w_then w_hold (.int x_dropped) w_acts w_guarded w_train (.int u) w_feltOf w_feltBy (.int x_feltMany) w_many w_heardOf w_heardBy (.int x_heardMany) w_worth (.int x_drawn) (.int x_came) w_kept w_isKept w_keptCame), (q_now, aI cT 47 f_now)]) := by
  refine MWi.of (by decide) (Nat.le_of_ble_eq_true rfl) ?_
  intro p e s m below meth c A hA C0 hnm hr hP hD ls hl
  have hl : lv_has ls 8 [(0, .ref h), (1, .int p1)] := hl
  have hx := C0.x
  have hb := C0.b
  have hS : va_S A s.heap s.heap [] := va_S.rf
  have hP : va_P D cls9 [(h, oX8 (.ref q_now) (.int x_arches) (.int x_cats) w_text (.int x_typed) w_row (.int x_rowMany) (.int x_thrown) w_read (.int x_length) (.int x_top) (.int x_at) (.int x_wrong) w_told w_rule w_otherRule (.int x_ruleSize) (.int x_isAsked) w_asked w_undos (.int x_undoMany) w_aside w_then w_hold (.int x_dropped) w_acts w_guarded w_train (.int x_trolleyEnd) w_feltOf w_feltBy (.int x_feltMany) w_many w_heardOf w_heardBy (.int x_heardMany) w_worth (.int x_drawn) (.int x_came) w_kept w_isKept w_keptCame), (q_now, aI cT 47 f_now)] s.heap := hP
  have hD : va_D A [(h, oX8 (.ref q_now) (.int x_arches) (.int x_cats) w_text (.int x_typed) w_row (.int x_rowMany) (.int x_thrown) w_read (.int x_length) (.int x_top) (.int x_at) (.int x_wrong) w_told w_rule w_otherRule (.int x_ruleSize) (.int x_isAsked) w_asked w_undos (.int x_undoMany) w_aside w_then w_hold (.int x_dropped) w_acts w_guarded w_train (.int x_trolleyEnd) w_feltOf w_feltBy (.int x_feltMany) w_many w_heardOf w_heardBy (.int x_heardMany) w_worth (.int x_drawn) (.int x_came) w_kept w_isKept w_keptCame), (q_now, aI cT 47 f_now)] := hD
  have L148 : ∀ (s0_118 : Int32) (s0_133 : Int32) (s1_148 : Int32) (H : Heap) (locs : List Loc) (ls : Array Slot), p_X8_goTrolley_148 F s0_118 s0_133 Post s1_148 → va_P D cls9 [(h, oX8 (.ref q_now) (.int x_arches) (.int x_cats) w_text (.int x_typed) w_row (.int x_rowMany) (.int x_thrown) w_read (.int x_length) (.int x_top) (.int x_at) (.int x_wrong) w_told w_rule w_otherRule (.int x_ruleSize) (.int x_isAsked) w_asked w_undos (.int x_undoMany) w_aside w_then w_hold (.int x_dropped) w_acts w_guarded w_train (.int p1) w_feltOf w_feltBy (.int x_feltMany) w_many w_heardOf w_heardBy (.int x_heardMany) w_worth (.int x_drawn) (.int x_came) w_kept w_isKept w_keptCame), (q_now, aI cT 47 f_now)] H → va_D A [(h, oX8 (.ref q_now) (.int x_arches) (.int x_cats) w_text (.int x_typed) w_row (.int x_rowMany) (.int x_thrown) w_read (.int x_length) (.int x_top) (.int x_at) (.int x_wrong) w_told w_rule w_otherRule (.int x_ruleSize) (.int x_isAsked) w_asked w_undos (.int x_undoMany) w_aside w_then w_hold (.int x_dropped) w_acts w_guarded w_train (.int p1) w_feltOf w_feltBy (.int x_feltMany) w_many w_heardOf w_heardBy (.int x_heardMany) w_worth (.int x_drawn) (.int x_came) w_kept w_isKept w_keptCame), (q_now, aI cT 47 f_now)] → va_S A s.heap H locs → lv_has ls 8 [(6, .int s0_118), (7, .int s0_133)] → W p l e (rmO 1 30 0 0) s m ([.ref h, .int p1] : List Value).toArray below meth c H locs 0 0 (MQ below (va_Qi Post (cB D A (fun (u : Int32) => [(h, oX8 (.ref q_now) (.int x_arches) (.int x_cats) w_text (.int x_typed) w_row (.int x_rowMany) (.int x_thrown) w_read (.int x_length) (.int x_top) (.int x_at) (.int x_wrong) w_told w_rule w_otherRule (.int x_ruleSize) (.int x_isAsked) w_asked w_undos (.int x_undoMany) w_aside w_then w_hold (.int x_dropped) w_acts w_guarded w_train (.int u) w_feltOf w_feltBy (.int x_feltMany) w_many w_heardOf w_heardBy (.int x_heardMany) w_worth (.int x_drawn) (.int x_came) w_kept w_isKept w_keptCame), (q_now, aI cT 47 f_now)])) A) ([.ref h, .int p1] : List Value).toArray s 0 0 A) (F0 m 148 ls [.int s1_148, .ref h]) := by
    intro s0_118 s0_133 s1_148 H locs ls hg hP hD hS hl
    unfold p_X8_goTrolley_148 at hg
    refine pf_X8_320 C0 hP hD hS 0 rfl (Nat.le_of_ble_eq_true rfl) (ws2 := [(h, oX8 (.ref q_now) (.int x_arches) (.int x_cats) w_text (.int x_typed) w_row (.int x_rowMany) (.int x_thrown) w_read (.int x_length) (.int x_top) (.int x_at) (.int x_wrong) w_told w_rule w_otherRule (.int x_ruleSize) (.int x_isAsked) w_asked w_undos (.int x_undoMany) w_aside w_then w_hold (.int x_dropped) w_acts w_guarded w_train (.int s1_148) w_feltOf w_feltBy (.int x_feltMany) w_many w_heardOf w_heardBy (.int x_heardMany) w_worth (.int x_drawn) (.int x_came) w_kept w_isKept w_keptCame), (q_now, aI cT 47 f_now)]) rfl dX8_goTrolley_148 (fun H locs hP hD hS => ?_)
    refine lv_iload hx hb dX8_goTrolley_151 (lv_at hl 1 rfl) ?_
    refine lv_iload hx hb dX8_goTrolley_153 (lv_at hl 0 rfl) ?_
    refine k_min C0 w5_184 hl.1 (Nat.le_of_ble_eq_true rfl) (Nat.le_of_ble_eq_true rfl) (Nat.le_of_ble_eq_true rfl) (Nat.le_of_ble_eq_true rfl) dX8_goTrolley_155 ?_
    exact k_iret C0 hr s1_148 hg hP hD hS dX8_goTrolley_158
  have L133 : ∀ (s0_118 : Int32) (y3_7 : Int32) (y2_7 : Int32) (s0_133 : Int32) (H : Heap) (locs : List Loc) (ls : Array Slot), p_X8_goTrolley_133 F s0_118 y3_7 y2_7 Post s0_133 → va_P D cls9 [(h, oX8 (.ref q_now) (.int x_arches) (.int x_cats) w_text (.int x_typed) w_row (.int x_rowMany) (.int x_thrown) w_read (.int x_length) (.int x_top) (.int x_at) (.int x_wrong) w_told w_rule w_otherRule (.int x_ruleSize) (.int x_isAsked) w_asked w_undos (.int x_undoMany) w_aside w_then w_hold (.int x_dropped) w_acts w_guarded w_train (.int p1) w_feltOf w_feltBy (.int x_feltMany) w_many w_heardOf w_heardBy (.int x_heardMany) w_worth (.int x_drawn) (.int x_came) w_kept w_isKept w_keptCame), (q_now, aI cT 47 f_now)] H → va_D A [(h, oX8 (.ref q_now) (.int x_arches) (.int x_cats) w_text (.int x_typed) w_row (.int x_rowMany) (.int x_thrown) w_read (.int x_length) (.int x_top) (.int x_at) (.int x_wrong) w_told w_rule w_otherRule (.int x_ruleSize) (.int x_isAsked) w_asked w_undos (.int x_undoMany) w_aside w_then w_hold (.int x_dropped) w_acts w_guarded w_train (.int p1) w_feltOf w_feltBy (.int x_feltMany) w_many w_heardOf w_heardBy (.int x_heardMany) w_worth (.int x_drawn) (.int x_came) w_kept w_isKept w_keptCame), (q_now, aI cT 47 f_now)] → va_S A s.heap H locs → lv_has ls 8 [(0, .ref h), (2, .int y2_7), (3, .int y3_7), (6, .int s0_118)] → W p l e (rmO 1 30 0 0) s m ([.ref h, .int p1] : List Value).toArray below meth c H locs 0 0 (MQ below (va_Qi Post (cB D A (fun (u : Int32) => [(h, oX8 (.ref q_now) (.int x_arches) (.int x_cats) w_text (.int x_typed) w_row (.int x_rowMany) (.int x_thrown) w_read (.int x_length) (.int x_top) (.int x_at) (.int x_wrong) w_told w_rule w_otherRule (.int x_ruleSize) (.int x_isAsked) w_asked w_undos (.int x_undoMany) w_aside w_then w_hold (.int x_dropped) w_acts w_guarded w_train (.int u) w_feltOf w_feltBy (.int x_feltMany) w_many w_heardOf w_heardBy (.int x_heardMany) w_worth (.int x_drawn) (.int x_came) w_kept w_isKept w_keptCame), (q_now, aI cT 47 f_now)])) A) ([.ref h, .int p1] : List Value).toArray s 0 0 A) (F0 m 133 ls [.int s0_133]) := by
    intro s0_118 y3_7 y2_7 s0_133 H locs ls hg hP hD hS hl
    unfold p_X8_goTrolley_133 at hg
    refine lv_istore (lv' := [(7, .int s0_133), (0, .ref h), (2, .int y2_7), (3, .int y3_7), (6, .int s0_118)]) hx hb dX8_goTrolley_133 hl (by decide) rfl (fun ls hl => ?_)
    refine lv_aload_n hx hb dX8_goTrolley_135 rfl (lv_at hl 1 rfl) ?_
    refine lv_iload hx hb dX8_goTrolley_136 (lv_at hl 0 rfl) ?_
    refine lv_iload hx hb dX8_goTrolley_138 (lv_at hl 4 rfl) ?_
    refine lv_icmp_gt (tgt := 147) hx hb dX8_goTrolley_140 (by decide) (fun c_140 => ?_) (fun c_140 => ?_)
    · have hg := hg.1 c_140
      refine lv_iload_n hx hb dX8_goTrolley_147 rfl (lv_at hl 3 rfl) ?_
      exact L148 s0_118 s0_133 y3_7 _ _ _ hg hP hD hS (lv_sub hl [4, 0] rfl)
    have hg := hg.2 c_140
    refine lv_iload_n hx hb dX8_goTrolley_143 rfl (lv_at hl 2 rfl) ?_
    refine lv_goto (tgt := 148) hx hb dX8_goTrolley_144 (by decide) ?_
    exact L148 s0_118 s0_133 y2_7 _ _ _ hg hP hD hS (lv_sub hl [4, 0] rfl)
  have L118 : ∀ (y3_7 : Int32) (y2_7 : Int32) (s0_118 : Int32) (H : Heap) (locs : List Loc) (ls : Array Slot), p_X8_goTrolley_118 F p1 y3_7 y2_7 Post s0_118 → va_P D cls9 [(h, oX8 (.ref q_now) (.int x_arches) (.int x_cats) w_text (.int x_typed) w_row (.int x_rowMany) (.int x_thrown) w_read (.int x_length) (.int x_top) (.int x_at) (.int x_wrong) w_told w_rule w_otherRule (.int x_ruleSize) (.int x_isAsked) w_asked w_undos (.int x_undoMany) w_aside w_then w_hold (.int x_dropped) w_acts w_guarded w_train (.int p1) w_feltOf w_feltBy (.int x_feltMany) w_many w_heardOf w_heardBy (.int x_heardMany) w_worth (.int x_drawn) (.int x_came) w_kept w_isKept w_keptCame), (q_now, aI cT 47 f_now)] H → va_D A [(h, oX8 (.ref q_now) (.int x_arches) (.int x_cats) w_text (.int x_typed) w_row (.int x_rowMany) (.int x_thrown) w_read (.int x_length) (.int x_top) (.int x_at) (.int x_wrong) w_told w_rule w_otherRule (.int x_ruleSize) (.int x_isAsked) w_asked w_undos (.int x_undoMany) w_aside w_then w_hold (.int x_dropped) w_acts w_guarded w_train (.int p1) w_feltOf w_feltBy (.int x_feltMany) w_many w_heardOf w_heardBy (.int x_heardMany) w_worth (.int x_drawn) (.int x_came) w_kept w_isKept w_keptCame), (q_now, aI cT 47 f_now)] → va_S A s.heap H locs → lv_has ls 8 [(0, .ref h), (1, .int p1), (2, .int y2_7), (3, .int y3_7), (5, .int (((if 0 ≤ ((if p1 < y3_7 then y3_7 else p1) - p1) then ((if p1 < y3_7 then y3_7 else p1) - p1) else 0 - ((if p1 < y3_7 then y3_7 else p1) - p1)) + (if p1 < y3_7 then y3_7 else p1)) - y2_7))] → W p l e (rmO 1 30 0 0) s m ([.ref h, .int p1] : List Value).toArray below meth c H locs 0 0 (MQ below (va_Qi Post (cB D A (fun (u : Int32) => [(h, oX8 (.ref q_now) (.int x_arches) (.int x_cats) w_text (.int x_typed) w_row (.int x_rowMany) (.int x_thrown) w_read (.int x_length) (.int x_top) (.int x_at) (.int x_wrong) w_told w_rule w_otherRule (.int x_ruleSize) (.int x_isAsked) w_asked w_undos (.int x_undoMany) w_aside w_then w_hold (.int x_dropped) w_acts w_guarded w_train (.int u) w_feltOf w_feltBy (.int x_feltMany) w_many w_heardOf w_heardBy (.int x_heardMany) w_worth (.int x_drawn) (.int x_came) w_kept w_isKept w_keptCame), (q_now, aI cT 47 f_now)])) A) ([.ref h, .int p1] : List Value).toArray s 0 0 A) (F0 m 118 ls [.int s0_118]) := by
    intro y3_7 y2_7 s0_118 H locs ls hg hP hD hS hl
    unfold p_X8_goTrolley_118 at hg
    refine lv_istore (lv' := [(6, .int s0_118), (0, .ref h), (1, .int p1), (2, .int y2_7), (3, .int y3_7), (5, .int (((if 0 ≤ ((if p1 < y3_7 then y3_7 else p1) - p1) then ((if p1 < y3_7 then y3_7 else p1) - p1) else 0 - ((if p1 < y3_7 then y3_7 else p1) - p1)) + (if p1 < y3_7 then y3_7 else p1)) - y2_7))]) hx hb dX8_goTrolley_118 hl (by decide) rfl (fun ls hl => ?_)
    refine lv_iload_n hx hb dX8_goTrolley_120 rfl (lv_at hl 2 rfl) ?_
    refine lv_iload_n hx hb dX8_goTrolley_121 rfl (lv_at hl 4 rfl) ?_
    refine lv_icmp_lt (tgt := 131) hx hb dX8_goTrolley_122 (by decide) (fun c_122 => ?_) (fun c_122 => ?_)
    · have hg := hg.1 c_122
      refine lv_iload hx hb dX8_goTrolley_131 (lv_at hl 5 rfl) ?_
      exact L133 s0_118 y3_7 y2_7 (((if 0 ≤ ((if p1 < y3_7 then y3_7 else p1) - p1) then ((if p1 < y3_7 then y3_7 else p1) - p1) else 0 - ((if p1 < y3_7 then y3_7 else p1) - p1)) + (if p1 < y3_7 then y3_7 else p1)) - y2_7) _ _ _ hg hP hD hS (lv_sub hl [1, 3, 4, 0] rfl)
    have hg := hg.2 c_122
    refine lv_iload_n hx hb dX8_goTrolley_125 rfl (lv_at hl 2 rfl) ?_
    refine lv_iload_n hx hb dX8_goTrolley_126 rfl (lv_at hl 3 rfl) ?_
    refine lv_isub hx hb dX8_goTrolley_127 ?_
    refine lv_goto (tgt := 133) hx hb dX8_goTrolley_128 (by decide) ?_
    exact L133 s0_118 y3_7 y2_7 (p1 - y2_7) _ _ _ hg hP hD hS (lv_sub hl [1, 3, 4, 0] rfl)
  have L7 : ∀ (n7 : Nat) (y4_7 : Int32) (y3_7 : Int32) (y2_7 : Int32) (H : Heap) (locs : List Loc) (ls : Array Slot), p_X8_goTrolley_7 F p1 x_arches f_now Post n7 y4_7 y3_7 y2_7 → va_P D cls9 [(h, oX8 (.ref q_now) (.int x_arches) (.int x_cats) w_text (.int x_typed) w_row (.int x_rowMany) (.int x_thrown) w_read (.int x_length) (.int x_top) (.int x_at) (.int x_wrong) w_told w_rule w_otherRule (.int x_ruleSize) (.int x_isAsked) w_asked w_undos (.int x_undoMany) w_aside w_then w_hold (.int x_dropped) w_acts w_guarded w_train (.int x_trolleyEnd) w_feltOf w_feltBy (.int x_feltMany) w_many w_heardOf w_heardBy (.int x_heardMany) w_worth (.int x_drawn) (.int x_came) w_kept w_isKept w_keptCame), (q_now, aI cT 47 f_now)] H → va_D A [(h, oX8 (.ref q_now) (.int x_arches) (.int x_cats) w_text (.int x_typed) w_row (.int x_rowMany) (.int x_thrown) w_read (.int x_length) (.int x_top) (.int x_at) (.int x_wrong) w_told w_rule w_otherRule (.int x_ruleSize) (.int x_isAsked) w_asked w_undos (.int x_undoMany) w_aside w_then w_hold (.int x_dropped) w_acts w_guarded w_train (.int x_trolleyEnd) w_feltOf w_feltBy (.int x_feltMany) w_many w_heardOf w_heardBy (.int x_heardMany) w_worth (.int x_drawn) (.int x_came) w_kept w_isKept w_keptCame), (q_now, aI cT 47 f_now)] → va_S A s.heap H locs → lv_has ls 8 [(0, .ref h), (1, .int p1), (2, .int y2_7), (3, .int y3_7), (4, .int y4_7)] → W p l e (rmO 1 30 0 0) s m ([.ref h, .int p1] : List Value).toArray below meth c H locs 0 0 (MQ below (va_Qi Post (cB D A (fun (u : Int32) => [(h, oX8 (.ref q_now) (.int x_arches) (.int x_cats) w_text (.int x_typed) w_row (.int x_rowMany) (.int x_thrown) w_read (.int x_length) (.int x_top) (.int x_at) (.int x_wrong) w_told w_rule w_otherRule (.int x_ruleSize) (.int x_isAsked) w_asked w_undos (.int x_undoMany) w_aside w_then w_hold (.int x_dropped) w_acts w_guarded w_train (.int u) w_feltOf w_feltBy (.int x_feltMany) w_many w_heardOf w_heardBy (.int x_heardMany) w_worth (.int x_drawn) (.int x_came) w_kept w_isKept w_keptCame), (q_now, aI cT 47 f_now)])) A) ([.ref h, .int p1] : List Value).toArray s 0 0 A) (F0 m 7 ls []) := by
    intro n7
    induction n7 with
    | zero =>
      intro y4_7 y3_7 y2_7 H locs ls hg hP hD hS hl
      exact False.elim hg
    | succ n7 ih7 =>
      have L47 : ∀ (y4_7 : Int32) (y2_47 : Int32) (y3_47 : Int32) (H : Heap) (locs : List Loc) (ls : Array Slot), p_X8_goTrolley_47 F y4_7 (p_X8_goTrolley_7 F p1 x_arches f_now Post n7) Post y2_47 y3_47 → va_P D cls9 [(h, oX8 (.ref q_now) (.int x_arches) (.int x_cats) w_text (.int x_typed) w_row (.int x_rowMany) (.int x_thrown) w_read (.int x_length) (.int x_top) (.int x_at) (.int x_wrong) w_told w_rule w_otherRule (.int x_ruleSize) (.int x_isAsked) w_asked w_undos (.int x_undoMany) w_aside w_then w_hold (.int x_dropped) w_acts w_guarded w_train (.int x_trolleyEnd) w_feltOf w_feltBy (.int x_feltMany) w_many w_heardOf w_heardBy (.int x_heardMany) w_worth (.int x_drawn) (.int x_came) w_kept w_isKept w_keptCame), (q_now, aI cT 47 f_now)] H → va_D A [(h, oX8 (.ref q_now) (.int x_arches) (.int x_cats) w_text (.int x_typed) w_row (.int x_rowMany) (.int x_thrown) w_read (.int x_length) (.int x_top) (.int x_at) (.int x_wrong) w_told w_rule w_otherRule (.int x_ruleSize) (.int x_isAsked) w_asked w_undos (.int x_undoMany) w_aside w_then w_hold (.int x_dropped) w_acts w_guarded w_train (.int x_trolleyEnd) w_feltOf w_feltBy (.int x_feltMany) w_many w_heardOf w_heardBy (.int x_heardMany) w_worth (.int x_drawn) (.int x_came) w_kept w_isKept w_keptCame), (q_now, aI cT 47 f_now)] → va_S A s.heap H locs → lv_has ls 8 [(0, .ref h), (1, .int p1), (2, .int y2_47), (3, .int y3_47), (4, .int y4_7)] → W p l e (rmO 1 30 0 0) s m ([.ref h, .int p1] : List Value).toArray below meth c H locs 0 0 (MQ below (va_Qi Post (cB D A (fun (u : Int32) => [(h, oX8 (.ref q_now) (.int x_arches) (.int x_cats) w_text (.int x_typed) w_row (.int x_rowMany) (.int x_thrown) w_read (.int x_length) (.int x_top) (.int x_at) (.int x_wrong) w_told w_rule w_otherRule (.int x_ruleSize) (.int x_isAsked) w_asked w_undos (.int x_undoMany) w_aside w_then w_hold (.int x_dropped) w_acts w_guarded w_train (.int u) w_feltOf w_feltBy (.int x_feltMany) w_many w_heardOf w_heardBy (.int x_heardMany) w_worth (.int x_drawn) (.int x_came) w_kept w_isKept w_keptCame), (q_now, aI cT 47 f_now)])) A) ([.ref h, .int p1] : List Value).toArray s 0 0 A) (F0 m 47 ls []) := by
        intro y4_7 y2_47 y3_47 H locs ls hg hP hD hS hl
        unfold p_X8_goTrolley_47 at hg
        refine lv_iinc (v := (y4_7 + (1 : Int32))) (lv' := [(4, .int (y4_7 + (1 : Int32))), (0, .ref h), (1, .int p1), (2, .int y2_47), (3, .int y3_47)]) hx hb dX8_goTrolley_47 hl (k := 4) rfl rfl (by decide) rfl (fun ls hl => ?_)
        refine lv_goto (tgt := 7) hx hb dX8_goTrolley_50 (by decide) ?_
        exact ih7 (y4_7 + (1 : Int32)) y3_47 y2_47 _ _ _ hg hP hD hS (lv_sub hl [1, 2, 3, 4, 0] rfl)
      have L43 : ∀ (y4_7 : Int32) (s0_43 : Int32) (H : Heap) (locs : List Loc) (ls : Array Slot), p_X8_goTrolley_43 F y4_7 (p_X8_goTrolley_7 F p1 x_arches f_now Post n7) Post s0_43 → va_P D cls9 [(h, oX8 (.ref q_now) (.int x_arches) (.int x_cats) w_text (.int x_typed) w_row (.int x_rowMany) (.int x_thrown) w_read (.int x_length) (.int x_top) (.int x_at) (.int x_wrong) w_told w_rule w_otherRule (.int x_ruleSize) (.int x_isAsked) w_asked w_undos (.int x_undoMany) w_aside w_then w_hold (.int x_dropped) w_acts w_guarded w_train (.int x_trolleyEnd) w_feltOf w_feltBy (.int x_feltMany) w_many w_heardOf w_heardBy (.int x_heardMany) w_worth (.int x_drawn) (.int x_came) w_kept w_isKept w_keptCame), (q_now, aI cT 47 f_now)] H → va_D A [(h, oX8 (.ref q_now) (.int x_arches) (.int x_cats) w_text (.int x_typed) w_row (.int x_rowMany) (.int x_thrown) w_read (.int x_length) (.int x_top) (.int x_at) (.int x_wrong) w_told w_rule w_otherRule (.int x_ruleSize) (.int x_isAsked) w_asked w_undos (.int x_undoMany) w_aside w_then w_hold (.int x_dropped) w_acts w_guarded w_train (.int x_trolleyEnd) w_feltOf w_feltBy (.int x_feltMany) w_many w_heardOf w_heardBy (.int x_heardMany) w_worth (.int x_drawn) (.int x_came) w_kept w_isKept w_keptCame), (q_now, aI cT 47 f_now)] → va_S A s.heap H locs → lv_has ls 8 [(0, .ref h), (1, .int p1), (4, .int y4_7)] → W p l e (rmO 1 30 0 0) s m ([.ref h, .int p1] : List Value).toArray below meth c H locs 0 0 (MQ below (va_Qi Post (cB D A (fun (u : Int32) => [(h, oX8 (.ref q_now) (.int x_arches) (.int x_cats) w_text (.int x_typed) w_row (.int x_rowMany) (.int x_thrown) w_read (.int x_length) (.int x_top) (.int x_at) (.int x_wrong) w_told w_rule w_otherRule (.int x_ruleSize) (.int x_isAsked) w_asked w_undos (.int x_undoMany) w_aside w_then w_hold (.int x_dropped) w_acts w_guarded w_train (.int u) w_feltOf w_feltBy (.int x_feltMany) w_many w_heardOf w_heardBy (.int x_heardMany) w_worth (.int x_drawn) (.int x_came) w_kept w_isKept w_keptCame), (q_now, aI cT 47 f_now)])) A) ([.ref h, .int p1] : List Value).toArray s 0 0 A) (F0 m 43 ls [.int s0_43]) := by
        intro y4_7 s0_43 H locs ls hg hP hD hS hl
        unfold p_X8_goTrolley_43 at hg
        refine lv_istore_n (lv' := [(2, .int s0_43), (0, .ref h), (1, .int p1), (4, .int y4_7)]) hx hb dX8_goTrolley_43 rfl hl (by decide) rfl (fun ls hl => ?_)
        refine lv_iload hx hb dX8_goTrolley_44 (lv_at hl 3 rfl) ?_
        refine lv_istore_n (lv' := [(3, .int y4_7), (2, .int s0_43), (0, .ref h), (1, .int p1), (4, .int y4_7)]) hx hb dX8_goTrolley_46 rfl hl (by decide) rfl (fun ls hl => ?_)
        exact L47 y4_7 s0_43 y4_7 _ _ _ hg hP hD hS (lv_sub hl [2, 3, 1, 0, 4] rfl)
      intro y4_7 y3_7 y2_7 H locs ls hg hP hD hS hl
      rw [p_X8_goTrolley_7_s] at hg
      refine lv_iload hx hb dX8_goTrolley_7 (lv_at hl 4 rfl) ?_
      refine lv_aload_n hx hb dX8_goTrolley_9 rfl (lv_at hl 0 rfl) ?_
      refine gf_X8_89 C0 hP 0 rfl rfl dX8_goTrolley_10 ?_
      refine lv_icmp_ge (tgt := 53) hx hb dX8_goTrolley_13 (by decide) (fun c_13 => ?_) (fun c_13 => ?_)
      · have hg := hg.1 c_13
        refine lv_aload_n hx hb dX8_goTrolley_53 rfl (lv_at hl 0 rfl) ?_
        refine lv_iload_n hx hb dX8_goTrolley_54 rfl (lv_at hl 1 rfl) ?_
        refine pf_X8_320 C0 hP hD hS 0 rfl (Nat.le_of_ble_eq_true rfl) (ws2 := [(h, oX8 (.ref q_now) (.int x_arches) (.int x_cats) w_text (.int x_typed) w_row (.int x_rowMany) (.int x_thrown) w_read (.int x_length) (.int x_top) (.int x_at) (.int x_wrong) w_told w_rule w_otherRule (.int x_ruleSize) (.int x_isAsked) w_asked w_undos (.int x_undoMany) w_aside w_then w_hold (.int x_dropped) w_acts w_guarded w_train (.int p1) w_feltOf w_feltBy (.int x_feltMany) w_many w_heardOf w_heardBy (.int x_heardMany) w_worth (.int x_drawn) (.int x_came) w_kept w_isKept w_keptCame), (q_now, aI cT 47 f_now)]) rfl dX8_goTrolley_55 (fun H locs hP hD hS => ?_)
        refine lv_iload_n hx hb dX8_goTrolley_58 rfl (lv_at hl 2 rfl) ?_
        refine lv_iconst (v := (-1 : Int32)) hx hb dX8_goTrolley_59 (by decide) ?_
        refine lv_icmp_ne (tgt := 65) hx hb dX8_goTrolley_60 (by decide) (fun c_60 => ?_) (fun c_60 => ?_)
        · have hg := hg.1 c_60
          refine lv_iload_n hx hb dX8_goTrolley_65 rfl (lv_at hl 1 rfl) ?_
          refine lv_iload_n hx hb dX8_goTrolley_66 rfl (lv_at hl 1 rfl) ?_
          refine lv_iload_n hx hb dX8_goTrolley_67 rfl (lv_at hl 2 rfl) ?_
          refine k_min C0 w5_184 hl.1 (Nat.le_of_ble_eq_true rfl) (Nat.le_of_ble_eq_true rfl) (Nat.le_of_ble_eq_true rfl) (Nat.le_of_ble_eq_true rfl) dX8_goTrolley_68 ?_
          refine lv_isub hx hb dX8_goTrolley_71 ?_
          refine k_abs C0 w6_26 hl.1 (Nat.le_of_ble_eq_true rfl) (Nat.le_of_ble_eq_true rfl) (Nat.le_of_ble_eq_true rfl) (Nat.le_of_ble_eq_true rfl) dX8_goTrolley_72 ?_
          refine lv_iload_n hx hb dX8_goTrolley_75 rfl (lv_at hl 3 rfl) ?_
          refine lv_iadd hx hb dX8_goTrolley_76 ?_
          refine lv_iload_n hx hb dX8_goTrolley_77 rfl (lv_at hl 1 rfl) ?_
          refine lv_iload_n hx hb dX8_goTrolley_78 rfl (lv_at hl 2 rfl) ?_
          refine k_min C0 w5_184 hl.1 (Nat.le_of_ble_eq_true rfl) (Nat.le_of_ble_eq_true rfl) (Nat.le_of_ble_eq_true rfl) (Nat.le_of_ble_eq_true rfl) dX8_goTrolley_79 ?_
          refine lv_isub hx hb dX8_goTrolley_82 ?_
          refine lv_istore (lv' := [(4, .int (((if 0 ≤ (p1 - (if y2_7 < p1 then y2_7 else p1)) then (p1 - (if y2_7 < p1 then y2_7 else p1)) else 0 - (p1 - (if y2_7 < p1 then y2_7 else p1))) + y3_7) - (if y2_7 < p1 then y2_7 else p1))), (0, .ref h), (1, .int p1), (2, .int y2_7), (3, .int y3_7)]) hx hb dX8_goTrolley_83 hl (by decide) rfl (fun ls hl => ?_)
          refine lv_iload_n hx hb dX8_goTrolley_85 rfl (lv_at hl 2 rfl) ?_
          refine lv_iload_n hx hb dX8_goTrolley_86 rfl (lv_at hl 4 rfl) ?_
          refine k_max C0 w5_185 hl.1 (Nat.le_of_ble_eq_true rfl) (Nat.le_of_ble_eq_true rfl) (Nat.le_of_ble_eq_true rfl) (Nat.le_of_ble_eq_true rfl) dX8_goTrolley_87 ?_
          refine lv_iload_n hx hb dX8_goTrolley_90 rfl (lv_at hl 2 rfl) ?_
          refine lv_isub hx hb dX8_goTrolley_91 ?_
          refine k_abs C0 w6_26 hl.1 (Nat.le_of_ble_eq_true rfl) (Nat.le_of_ble_eq_true rfl) (Nat.le_of_ble_eq_true rfl) (Nat.le_of_ble_eq_true rfl) dX8_goTrolley_92 ?_
          refine lv_iload_n hx hb dX8_goTrolley_95 rfl (lv_at hl 2 rfl) ?_
          refine lv_iload_n hx hb dX8_goTrolley_96 rfl (lv_at hl 4 rfl) ?_
          refine k_max C0 w5_185 hl.1 (Nat.le_of_ble_eq_true rfl) (Nat.le_of_ble_eq_true rfl) (Nat.le_of_ble_eq_true rfl) (Nat.le_of_ble_eq_true rfl) dX8_goTrolley_97 ?_
          refine lv_iadd hx hb dX8_goTrolley_100 ?_
          refine lv_iload_n hx hb dX8_goTrolley_101 rfl (lv_at hl 3 rfl) ?_
          refine lv_isub hx hb dX8_goTrolley_102 ?_
          refine lv_istore (lv' := [(5, .int (((if 0 ≤ ((if p1 < y3_7 then y3_7 else p1) - p1) then ((if p1 < y3_7 then y3_7 else p1) - p1) else 0 - ((if p1 < y3_7 then y3_7 else p1) - p1)) + (if p1 < y3_7 then y3_7 else p1)) - y2_7)), (4, .int (((if 0 ≤ (p1 - (if y2_7 < p1 then y2_7 else p1)) then (p1 - (if y2_7 < p1 then y2_7 else p1)) else 0 - (p1 - (if y2_7 < p1 then y2_7 else p1))) + y3_7) - (if y2_7 < p1 then y2_7 else p1))), (0, .ref h), (1, .int p1), (2, .int y2_7), (3, .int y3_7)]) hx hb dX8_goTrolley_103 hl (by decide) rfl (fun ls hl => ?_)
          refine lv_iload_n hx hb dX8_goTrolley_105 rfl (lv_at hl 3 rfl) ?_
          refine lv_iload_n hx hb dX8_goTrolley_106 rfl (lv_at hl 4 rfl) ?_
          refine lv_icmp_gt (tgt := 116) hx hb dX8_goTrolley_107 (by decide) (fun c_107 => ?_) (fun c_107 => ?_)
          · have hg := hg.1 c_107
            refine lv_iload hx hb dX8_goTrolley_116 (lv_at hl 1 rfl) ?_
            exact L118 y3_7 y2_7 (((if 0 ≤ (p1 - (if y2_7 < p1 then y2_7 else p1)) then (p1 - (if y2_7 < p1 then y2_7 else p1)) else 0 - (p1 - (if y2_7 < p1 then y2_7 else p1))) + y3_7) - (if y2_7 < p1 then y2_7 else p1)) _ _ _ hg hP hD hS (lv_sub hl [2, 3, 4, 5, 0] rfl)
          have hg := hg.2 c_107
          refine lv_iload_n hx hb dX8_goTrolley_110 rfl (lv_at hl 5 rfl) ?_
          refine lv_iload_n hx hb dX8_goTrolley_111 rfl (lv_at hl 3 rfl) ?_
          refine lv_isub hx hb dX8_goTrolley_112 ?_
          refine lv_goto (tgt := 118) hx hb dX8_goTrolley_113 (by decide) ?_
          exact L118 y3_7 y2_7 (y3_7 - p1) _ _ _ hg hP hD hS (lv_sub hl [2, 3, 4, 5, 0] rfl)
        have hg := hg.2 c_60
        refine lv_iconst (v := (0 : Int32)) hx hb dX8_goTrolley_63 (by decide) ?_
        exact k_iret C0 hr p1 hg hP hD hS dX8_goTrolley_64
      have hg := hg.2 c_13
      refine lv_aload_n hx hb dX8_goTrolley_16 rfl (lv_at hl 0 rfl) ?_
      refine gf_X8_9 C0 hP 0 rfl rfl dX8_goTrolley_17 ?_
      refine lv_bipush (v := (6 : Int32)) hx hb dX8_goTrolley_20 (by decide) ?_
      refine lv_iload hx hb dX8_goTrolley_22 (lv_at hl 4 rfl) ?_
      refine lv_iadd hx hb dX8_goTrolley_24 ?_
      obtain ⟨g_25, hg⟩ := hg
      refine k_iald C0 hP 1 rfl g_25 dX8_goTrolley_25 ?_
      refine lv_if_ne (tgt := 32) hx hb dX8_goTrolley_26 (by decide) (fun c_26 => ?_) (fun c_26 => ?_)
      · have hg := hg.1 c_26
        refine lv_iload_n hx hb dX8_goTrolley_32 rfl (lv_at hl 2 rfl) ?_
        refine lv_iconst (v := (-1 : Int32)) hx hb dX8_goTrolley_33 (by decide) ?_
        refine lv_icmp_ne (tgt := 42) hx hb dX8_goTrolley_34 (by decide) (fun c_34 => ?_) (fun c_34 => ?_)
        · have hg := hg.1 c_34
          refine lv_iload_n hx hb dX8_goTrolley_42 rfl (lv_at hl 2 rfl) ?_
          exact L43 y4_7 y2_7 _ _ _ hg hP hD hS (lv_sub hl [0, 1, 4] rfl)
        have hg := hg.2 c_34
        refine lv_iload hx hb dX8_goTrolley_37 (lv_at hl 4 rfl) ?_
        refine lv_goto (tgt := 43) hx hb dX8_goTrolley_39 (by decide) ?_
        exact L43 y4_7 y4_7 _ _ _ hg hP hD hS (lv_sub hl [0, 1, 4] rfl)
      have hg := hg.2 c_26
      refine lv_goto (tgt := 47) hx hb dX8_goTrolley_29 (by decide) ?_
      exact L47 y4_7 y2_7 y3_7 _ _ _ hg hP hD hS hl
  unfold p_X8_goTrolley at hg
  refine lv_iconst (v := (-1 : Int32)) hx hb dX8_goTrolley_0 (by decide) ?_
  refine lv_istore_n (lv' := [(2, .int (-1 : Int32)), (0, .ref h), (1, .int p1)]) hx hb dX8_goTrolley_1 rfl hl (by decide) rfl (fun ls hl => ?_)
  refine lv_iconst (v := (-1 : Int32)) hx hb dX8_goTrolley_2 (by decide) ?_
  refine lv_istore_n (lv' := [(3, .int (-1 : Int32)), (2, .int (-1 : Int32)), (0, .ref h), (1, .int p1)]) hx hb dX8_goTrolley_3 rfl hl (by decide) rfl (fun ls hl => ?_)
  refine lv_iconst (v := (0 : Int32)) hx hb dX8_goTrolley_4 (by decide) ?_
  refine lv_istore (lv' := [(4, .int (0 : Int32)), (3, .int (-1 : Int32)), (2, .int (-1 : Int32)), (0, .ref h), (1, .int p1)]) hx hb dX8_goTrolley_5 hl (by decide) rfl (fun ls hl => ?_)
  exact L7 F (0 : Int32) (-1 : Int32) (-1 : Int32) _ _ _ hg hP hD hS (lv_sub hl [3, 4, 2, 1, 0] rfl)
theorem dX8_trolley_0 : decode cX8_trolley 0 = .ok (.aload_n 0, 1) := by decide +kernel
theorem dX8_trolley_1 : decode cX8_trolley 1 = .ok (.iconst 0, 1) := by decide +kernel
theorem dX8_trolley_2 : decode cX8_trolley 2 = .ok (.putfield 82, 3) := by decide +kernel
theorem dX8_trolley_5 : decode cX8_trolley 5 = .ok (.aload_n 0, 1) := by decide +kernel
theorem dX8_trolley_6 : decode cX8_trolley 6 = .ok (.iload_n 1, 1) := by decide +kernel
theorem dX8_trolley_7 : decode cX8_trolley 7 = .ok (.invokevirtual 214, 3) := by decide +kernel
theorem dX8_trolley_10 : decode cX8_trolley 10 = .ok (.ifCond .ne 5, 3) := by decide +kernel
theorem dX8_trolley_13 : decode cX8_trolley 13 = .ok (.iconst (-1), 1) := by decide +kernel
theorem dX8_trolley_14 : decode cX8_trolley 14 = .ok (.ireturn, 1) := by decide +kernel
theorem dX8_trolley_15 : decode cX8_trolley 15 = .ok (.aload_n 0, 1) := by decide +kernel
theorem dX8_trolley_16 : decode cX8_trolley 16 = .ok (.iload_n 1, 1) := by decide +kernel
theorem dX8_trolley_17 : decode cX8_trolley 17 = .ok (.invokevirtual 323, 3) := by decide +kernel
theorem dX8_trolley_20 : decode cX8_trolley 20 = .ok (.istore_n 2, 1) := by decide +kernel
theorem dX8_trolley_21 : decode cX8_trolley 21 = .ok (.aload_n 0, 1) := by decide +kernel
theorem dX8_trolley_22 : decode cX8_trolley 22 = .ok (.iconst 0, 1) := by decide +kernel
theorem dX8_trolley_23 : decode cX8_trolley 23 = .ok (.putfield 86, 3) := by decide +kernel
theorem dX8_trolley_26 : decode cX8_trolley 26 = .ok (.aload_n 0, 1) := by decide +kernel
theorem dX8_trolley_27 : decode cX8_trolley 27 = .ok (.aload_n 0, 1) := by decide +kernel
theorem dX8_trolley_28 : decode cX8_trolley 28 = .ok (.getfield 320, 3) := by decide +kernel
theorem dX8_trolley_31 : decode cX8_trolley 31 = .ok (.i2l, 1) := by decide +kernel
theorem dX8_trolley_32 : decode cX8_trolley 32 = .ok (.invokevirtual 249, 3) := by decide +kernel
theorem dX8_trolley_35 : decode cX8_trolley 35 = .ok (.iload_n 2, 1) := by decide +kernel
theorem dX8_trolley_36 : decode cX8_trolley 36 = .ok (.ireturn, 1) := by decide +kernel
def p_X8_trolley (F : Nat) (p1 : Int32) (x_arches : Int32) (x_rowMany : Int32) (x_trolleyEnd : Int32) (f_now : Nat → Int32) (f_row : Nat → Int64) (Post : Int32 → (Int32 × Int32 × Int32 × (Nat → Int64)) → Prop) : Prop := (p_X8_isArch F p1 x_arches (fun (r_7 : Int32) => ((¬ r_7 = 0 → (p_X8_goTrolley F p1 x_arches f_now (fun (r_17 : Int32) (u_17 : Int32) => (p_X8_tell F (u_17.toInt64) (0 : Int32) f_row (fun (u_32 : (Int32 × (Nat → Int64))) => (Post r_17 (u_32.1, (0 : Int32), u_17, u_32.2))))))) ∧ (r_7 = 0 → (Post (-1 : Int32) (x_rowMany, (0 : Int32), x_trolleyEnd, f_row))))))
set_option maxHeartbeats 4000000 in
set_option maxRecDepth 100000 in
theorem c_X8_trolley (l : Launch) (D : va_G) (cT : Nat → ClassId) (F : Nat) (h : Nat) (p1 : Int32) (q_now : Nat) (x_arches : Int32) (x_cats : Int32) (w_text : Value) (x_typed : Int32) (q_row : Nat) (x_rowMany : Int32) (x_thrown : Int32) (w_read : Value) (x_length : Int32) (x_top : Int32) (x_at : Int32) (x_wrong : Int32) (w_told : Value) (w_rule : Value) (w_otherRule : Value) (x_ruleSize : Int32) (x_isAsked : Int32) (w_asked : Value) (w_undos : Value) (x_undoMany : Int32) (w_aside : Value) (w_then : Value) (w_hold : Value) (x_dropped : Int32) (w_acts : Value) (w_guarded : Value) (w_train : Value) (x_trolleyEnd : Int32) (w_feltOf : Value) (w_feltBy : Value) (x_feltMany : Int32) (w_many : Value) (w_heardOf : Value) (w_heardBy : Value) (x_heardMany : Int32) (w_worth : Value) (x_drawn : Int32) (x_came : Int32) (w_kept : Value) (w_isKept : Value) (w_keptCame : Value) (f_now : Nat → Int32) (f_row : Nat → Int64) (Post : Int32 → (Int32 × Int32 × Int32 × (Nat → Int64)) → Prop) (hg : p_X8_trolley F p1 x_arches x_rowMany x_trolleyEnd f_now f_row Post) : MWi l D cT yX8_trolley cX8_trolley 3 (some .int) 2 57 0 0 [.ref h, .int p1] [(h, oX8 (.ref q_now) (.int x_arches) (.int x_cats) w_text (.int x_typed) (.ref q_row) (.int x_rowMany) (.int x_thrown) w_read (.int x_length) (.int x_top) (.int x_at) (.int x_wrong) w_told w_rule w_otherRule (.int x_ruleSize) (.int x_isAsked) w_asked w_undos (.int x_undoMany) w_aside w_then w_hold (.int x_dropped) w_acts w_guarded w_train (.int x_trolleyEnd) w_feltOf w_feltBy (.int x_feltMany) w_many w_heardOf w_heardBy (.int x_heardMany) w_worth (.int x_drawn) (.int x_came) w_kept w_isKept w_keptCame), (q_now, aI cT 47 f_now), (q_row, aJ cT 16 f_row)] Post (fun (u : (Int32 × Int32 × Int32 × (Nat → Int64))) => [(h, oX8 (.ref q_now) (.int x_arches) (.int x_cats) w_text (.int x_typed) (.ref q_row) (.int u.1) (.int u.2.1) w_read (.int x_length) (.int x_top) (.int x_at) (.int x_wrong) w_told w_rule w_otherRule (.int x_ruleSize) (.int x_isAsked) w_asked w_undos (.int x_undoMany) w_aside w_then w_hold (.int x_dropped) w_acts w_guarded w_train (.int u.2.2.1) w_feltOf w_feltBy (.int x_feltMany) w_many w_heardOf w_heardBy (.int x_heardMany) w_worth (.int x_drawn) (.int x_came) w_kept w_isKept w_keptCame), (q_now, aI cT 47 f_now), (q_row, aJ cT 16 u.2.2.2)]) := by
  refine MWi.of (by decide) (Nat.le_of_ble_eq_true rfl) ?_
  intro p e s m below meth c A hA C0 hnm hr hP hD ls hl
  have hl : lv_has ls 3 [(0, .ref h), (1, .int p1)] := hl
  have hx := C0.x
  have hb := C0.b
  have hS : va_S A s.heap s.heap [] := va_S.rf
  have hP : va_P D cls9 [(h, oX8 (.ref q_now) (.int x_arches) (.int x_cats) w_text (.int x_typed) (.ref q_row) (.int x_rowMany) (.int x_thrown) w_read (.int x_length) (.int x_top) (.int x_at) (.int x_wrong) w_told w_rule w_otherRule (.int x_ruleSize) (.int x_isAsked) w_asked w_undos (.int x_undoMany) w_aside w_then w_hold (.int x_dropped) w_acts w_guarded w_train (.int x_trolleyEnd) w_feltOf w_feltBy (.int x_feltMany) w_many w_heardOf w_heardBy (.int x_heardMany) w_worth (.int x_drawn) (.int x_came) w_kept w_isKept w_keptCame), (q_now, aI cT 47 f_now), (q_row, aJ cT 16 f_row)] s.heap := hP
  have hD : va_D A [(h, oX8 (.ref q_now) (.int x_arches) (.int x_cats) w_text (.int x_typed) (.ref q_row) (.int x_rowMany) (.int x_thrown) w_read (.int x_length) (.int x_top) (.int x_at) (.int x_wrong) w_told w_rule w_otherRule (.int x_ruleSize) (.int x_isAsked) w_asked w_undos (.int x_undoMany) w_aside w_then w_hold (.int x_dropped) w_acts w_guarded w_train (.int x_trolleyEnd) w_feltOf w_feltBy (.int x_feltMany) w_many w_heardOf w_heardBy (.int x_heardMany) w_worth (.int x_drawn) (.int x_came) w_kept w_isKept w_keptCame), (q_now, aI cT 47 f_now), (q_row, aJ cT 16 f_row)] := hD
  unfold p_X8_trolley at hg
  refine lv_aload_n hx hb dX8_trolley_0 rfl (lv_at hl 0 rfl) ?_
  refine lv_iconst (v := (0 : Int32)) hx hb dX8_trolley_1 (by decide) ?_
  refine pf_X8_82 C0 hP hD hS 0 rfl (Nat.le_of_ble_eq_true rfl) (ws2 := [(h, oX8 (.ref q_now) (.int x_arches) (.int x_cats) w_text (.int x_typed) (.ref q_row) (.int x_rowMany) (.int (0 : Int32)) w_read (.int x_length) (.int x_top) (.int x_at) (.int x_wrong) w_told w_rule w_otherRule (.int x_ruleSize) (.int x_isAsked) w_asked w_undos (.int x_undoMany) w_aside w_then w_hold (.int x_dropped) w_acts w_guarded w_train (.int x_trolleyEnd) w_feltOf w_feltBy (.int x_feltMany) w_many w_heardOf w_heardBy (.int x_heardMany) w_worth (.int x_drawn) (.int x_came) w_kept w_isKept w_keptCame), (q_now, aI cT 47 f_now), (q_row, aJ cT 16 f_row)]) rfl dX8_trolley_2 (fun H locs hP hD hS => ?_)
  refine lv_aload_n hx hb dX8_trolley_5 rfl (lv_at hl 0 rfl) ?_
  refine lv_iload_n hx hb dX8_trolley_6 rfl (lv_at hl 1 rfl) ?_
  refine k_Vxi (rest := []) C0 lk_X8_214 (c_X8_isArch l D cT F h p1 (.ref q_now) x_arches x_cats w_text x_typed (.ref q_row) x_rowMany (0 : Int32) w_read x_length x_top x_at x_wrong w_told w_rule w_otherRule x_ruleSize x_isAsked w_asked w_undos x_undoMany w_aside w_then w_hold x_dropped w_acts w_guarded w_train x_trolleyEnd w_feltOf w_feltBy x_feltMany w_many w_heardOf w_heardBy x_heardMany w_worth x_drawn x_came w_kept w_isKept w_keptCame _ hg) hP hD hS hA [0] (by decide +kernel) rfl rfl rfl ⟨Nat.le_of_ble_eq_true rfl, Nat.le_of_ble_eq_true rfl⟩ rfl hl.1 rfl (Nat.le_of_ble_eq_true rfl) dX8_trolley_7 ⟨Nat.le_of_ble_eq_true rfl, Nat.le_of_ble_eq_true rfl⟩ (fun r_7 hg => ?_)
  refine lv_if_ne (tgt := 15) hx hb dX8_trolley_10 (by decide) (fun c_10 => ?_) (fun c_10 => ?_)
  · have hg := hg.1 c_10
    refine lv_aload_n hx hb dX8_trolley_15 rfl (lv_at hl 0 rfl) ?_
    refine lv_iload_n hx hb dX8_trolley_16 rfl (lv_at hl 1 rfl) ?_
    refine k_Vi (rest := []) (wr := [(q_row, aJ cT 16 f_row)]) (w2 := fun u_17 => [(q_row, aJ cT 16 f_row), (h, oX8 (.ref q_now) (.int x_arches) (.int x_cats) w_text (.int x_typed) (.ref q_row) (.int x_rowMany) (.int (0 : Int32)) w_read (.int x_length) (.int x_top) (.int x_at) (.int x_wrong) w_told w_rule w_otherRule (.int x_ruleSize) (.int x_isAsked) w_asked w_undos (.int x_undoMany) w_aside w_then w_hold (.int x_dropped) w_acts w_guarded w_train (.int u_17) w_feltOf w_feltBy (.int x_feltMany) w_many w_heardOf w_heardBy (.int x_heardMany) w_worth (.int x_drawn) (.int x_came) w_kept w_isKept w_keptCame), (q_now, aI cT 47 f_now)]) C0 lk_X8_323 (c_X8_goTrolley l D cT F h p1 q_now x_arches x_cats w_text x_typed (.ref q_row) x_rowMany (0 : Int32) w_read x_length x_top x_at x_wrong w_told w_rule w_otherRule x_ruleSize x_isAsked w_asked w_undos x_undoMany w_aside w_then w_hold x_dropped w_acts w_guarded w_train x_trolleyEnd w_feltOf w_feltBy x_feltMany w_many w_heardOf w_heardBy x_heardMany w_worth x_drawn x_came w_kept w_isKept w_keptCame f_now _ hg) hP hD hS hA [0, 1] [2] (by decide +kernel) rfl rfl (fun _ => rfl) rfl rfl ⟨Nat.le_of_ble_eq_true rfl, Nat.le_of_ble_eq_true rfl⟩ rfl hl.1 rfl (Nat.le_of_ble_eq_true rfl) dX8_trolley_17 ⟨Nat.le_of_ble_eq_true rfl, Nat.le_of_ble_eq_true rfl⟩ ?_
    intro r_17 u_17 H locs hg hP hD hS
    refine lv_istore_n (lv' := [(2, .int r_17), (0, .ref h), (1, .int p1)]) hx hb dX8_trolley_20 rfl hl (by decide) rfl (fun ls hl => ?_)
    refine lv_aload_n hx hb dX8_trolley_21 rfl (lv_at hl 1 rfl) ?_
    refine lv_iconst (v := (0 : Int32)) hx hb dX8_trolley_22 (by decide) ?_
    refine pf_X8_86 C0 hP hD hS 1 rfl (Nat.le_of_ble_eq_true rfl) (ws2 := [(q_row, aJ cT 16 f_row), (h, oX8 (.ref q_now) (.int x_arches) (.int x_cats) w_text (.int x_typed) (.ref q_row) (.int (0 : Int32)) (.int (0 : Int32)) w_read (.int x_length) (.int x_top) (.int x_at) (.int x_wrong) w_told w_rule w_otherRule (.int x_ruleSize) (.int x_isAsked) w_asked w_undos (.int x_undoMany) w_aside w_then w_hold (.int x_dropped) w_acts w_guarded w_train (.int u_17) w_feltOf w_feltBy (.int x_feltMany) w_many w_heardOf w_heardBy (.int x_heardMany) w_worth (.int x_drawn) (.int x_came) w_kept w_isKept w_keptCame), (q_now, aI cT 47 f_now)]) rfl dX8_trolley_23 (fun H locs hP hD hS => ?_)
    refine lv_aload_n hx hb dX8_trolley_26 rfl (lv_at hl 1 rfl) ?_
    refine lv_aload_n hx hb dX8_trolley_27 rfl (lv_at hl 1 rfl) ?_
    refine gf_X8_320 C0 hP 1 rfl rfl dX8_trolley_28 ?_
    refine lv_i2l (v := (u_17.toInt64)) hx hb dX8_trolley_31 rfl ?_
    refine k_Vv (rest := []) (wr := [(q_now, aI cT 47 f_now)]) (w2 := fun u_32 => [(q_now, aI cT 47 f_now), (h, oX8 (.ref q_now) (.int x_arches) (.int x_cats) w_text (.int x_typed) (.ref q_row) (.int u_32.1) (.int (0 : Int32)) w_read (.int x_length) (.int x_top) (.int x_at) (.int x_wrong) w_told w_rule w_otherRule (.int x_ruleSize) (.int x_isAsked) w_asked w_undos (.int x_undoMany) w_aside w_then w_hold (.int x_dropped) w_acts w_guarded w_train (.int u_17) w_feltOf w_feltBy (.int x_feltMany) w_many w_heardOf w_heardBy (.int x_heardMany) w_worth (.int x_drawn) (.int x_came) w_kept w_isKept w_keptCame), (q_row, aJ cT 16 u_32.2)]) C0 lk_X8_249 (c_X8_tell l D cT F h (u_17.toInt64) (.ref q_now) x_arches x_cats w_text x_typed q_row (0 : Int32) (0 : Int32) w_read x_length x_top x_at x_wrong w_told w_rule w_otherRule x_ruleSize x_isAsked w_asked w_undos x_undoMany w_aside w_then w_hold x_dropped w_acts w_guarded w_train u_17 w_feltOf w_feltBy x_feltMany w_many w_heardOf w_heardBy x_heardMany w_worth x_drawn x_came w_kept w_isKept w_keptCame f_row _ hg) hP hD hS hA [1, 0] [2] (by decide +kernel) rfl rfl (fun _ => rfl) rfl rfl ⟨Nat.le_of_ble_eq_true rfl, Nat.le_of_ble_eq_true rfl⟩ rfl hl.1 rfl (Nat.le_of_ble_eq_true rfl) dX8_trolley_32 ⟨Nat.le_of_ble_eq_true rfl, Nat.le_of_ble_eq_true rfl⟩ ?_
    intro u_32 H locs hg hP hD hS
    refine lv_iload_n hx hb dX8_trolley_35 rfl (lv_at hl 0 rfl) ?_
    exact k_iret C0 hr (u_32.1, (0 : Int32), u_17, u_32.2) hg (subP hP [1, 0, 2] rfl) (hD.sub [1, 0, 2] (nd2_ok _ (by decide +kernel)) rfl) hS dX8_trolley_36
  have hg := hg.2 c_10
  refine lv_iconst (v := (-1 : Int32)) hx hb dX8_trolley_13 (by decide) ?_
  exact k_iret C0 hr (x_rowMany, (0 : Int32), x_trolleyEnd, f_row) hg hP hD hS dX8_trolley_14
theorem dX8_depot_0 : decode cX8_depot 0 = .ok (.aload_n 0, 1) := by decide +kernel
theorem dX8_depot_1 : decode cX8_depot 1 = .ok (.iconst 0, 1) := by decide +kernel
theorem dX8_depot_2 : decode cX8_depot 2 = .ok (.putfield 82, 3) := by decide +kernel
theorem dX8_depot_5 : decode cX8_depot 5 = .ok (.aload_n 0, 1) := by decide +kernel
theorem dX8_depot_6 : decode cX8_depot 6 = .ok (.getfield 89, 3) := by decide +kernel
theorem dX8_depot_9 : decode cX8_depot 9 = .ok (.ifCond .ne 6, 3) := by decide +kernel
theorem dX8_depot_12 : decode cX8_depot 12 = .ok (.bipush (-2), 2) := by decide +kernel
theorem dX8_depot_14 : decode cX8_depot 14 = .ok (.ireturn, 1) := by decide +kernel
theorem dX8_depot_15 : decode cX8_depot 15 = .ok (.iconst 0, 1) := by decide +kernel
theorem dX8_depot_16 : decode cX8_depot 16 = .ok (.istore_n 1, 1) := by decide +kernel
theorem dX8_depot_17 : decode cX8_depot 17 = .ok (.iconst 1, 1) := by decide +kernel
theorem dX8_depot_18 : decode cX8_depot 18 = .ok (.istore_n 2, 1) := by decide +kernel
theorem dX8_depot_19 : decode cX8_depot 19 = .ok (.iload_n 2, 1) := by decide +kernel
theorem dX8_depot_20 : decode cX8_depot 20 = .ok (.aload_n 0, 1) := by decide +kernel
theorem dX8_depot_21 : decode cX8_depot 21 = .ok (.getfield 89, 3) := by decide +kernel
theorem dX8_depot_24 : decode cX8_depot 24 = .ok (.if_icmp .ge 28, 3) := by decide +kernel
theorem dX8_depot_27 : decode cX8_depot 27 = .ok (.aload_n 0, 1) := by decide +kernel
theorem dX8_depot_28 : decode cX8_depot 28 = .ok (.iload_n 2, 1) := by decide +kernel
theorem dX8_depot_29 : decode cX8_depot 29 = .ok (.invokevirtual 323, 3) := by decide +kernel
theorem dX8_depot_32 : decode cX8_depot 32 = .ok (.aload_n 0, 1) := by decide +kernel
theorem dX8_depot_33 : decode cX8_depot 33 = .ok (.iload_n 1, 1) := by decide +kernel
theorem dX8_depot_34 : decode cX8_depot 34 = .ok (.invokevirtual 323, 3) := by decide +kernel
theorem dX8_depot_37 : decode cX8_depot 37 = .ok (.if_icmp .ge 7, 3) := by decide +kernel
theorem dX8_depot_40 : decode cX8_depot 40 = .ok (.iload_n 2, 1) := by decide +kernel
theorem dX8_depot_41 : decode cX8_depot 41 = .ok (.goto 4, 3) := by decide +kernel
theorem dX8_depot_44 : decode cX8_depot 44 = .ok (.iload_n 1, 1) := by decide +kernel
theorem dX8_depot_45 : decode cX8_depot 45 = .ok (.istore_n 1, 1) := by decide +kernel
theorem dX8_depot_46 : decode cX8_depot 46 = .ok (.iinc 2 1, 3) := by decide +kernel
theorem dX8_depot_49 : decode cX8_depot 49 = .ok (.goto (-30), 3) := by decide +kernel
theorem dX8_depot_52 : decode cX8_depot 52 = .ok (.aload_n 0, 1) := by decide +kernel
theorem dX8_depot_53 : decode cX8_depot 53 = .ok (.iconst 0, 1) := by decide +kernel
theorem dX8_depot_54 : decode cX8_depot 54 = .ok (.putfield 86, 3) := by decide +kernel
theorem dX8_depot_57 : decode cX8_depot 57 = .ok (.aload_n 0, 1) := by decide +kernel
theorem dX8_depot_58 : decode cX8_depot 58 = .ok (.aload_n 0, 1) := by decide +kernel
theorem dX8_depot_59 : decode cX8_depot 59 = .ok (.iload_n 1, 1) := by decide +kernel
theorem dX8_depot_60 : decode cX8_depot 60 = .ok (.invokevirtual 323, 3) := by decide +kernel
theorem dX8_depot_63 : decode cX8_depot 63 = .ok (.i2l, 1) := by decide +kernel
theorem dX8_depot_64 : decode cX8_depot 64 = .ok (.invokevirtual 249, 3) := by decide +kernel
theorem dX8_depot_67 : decode cX8_depot 67 = .ok (.iload_n 1, 1) := by decide +kernel
theorem dX8_depot_68 : decode cX8_depot 68 = .ok (.ireturn, 1) := by decide +kernel
def p_X8_depot_45 (F : Nat) (u_34 : Int32) (y2_19 : Int32) (k19 : Int32 → Int32 → Int32 → Prop) (Post : Int32 → (Int32 × Int32 × Int32 × (Nat → Int64)) → Prop) (s0_45 : Int32) : Prop := (k19 (y2_19 + (1 : Int32)) s0_45 u_34)
noncomputable def p_X8_depot_19 (F : Nat) (x_arches : Int32) (f_now : Nat → Int32) (f_row : Nat → Int64) (Post : Int32 → (Int32 × Int32 × Int32 × (Nat → Int64)) → Prop) (n : Nat) : Int32 → Int32 → Int32 → Prop := Nat.rec (motive := fun _ => Int32 → Int32 → Int32 → Prop) (fun _ _ _ => False) (fun _ k19 => fun (y2_19 : Int32) (y1_19 : Int32) (x_trolleyEnd_19 : Int32) => ((x_arches ≤ y2_19 → (p_X8_goTrolley F y1_19 x_arches f_now (fun (r_60 : Int32) (u_60 : Int32) => (p_X8_tell F (r_60.toInt64) (0 : Int32) f_row (fun (u_64 : (Int32 × (Nat → Int64))) => (Post y1_19 (u_64.1, (0 : Int32), u_60, u_64.2))))))) ∧ (¬ x_arches ≤ y2_19 → (p_X8_goTrolley F y2_19 x_arches f_now (fun (r_29 : Int32) (u_29 : Int32) => (p_X8_goTrolley F y1_19 x_arches f_now (fun (r_34 : Int32) (u_34 : Int32) => ((r_34 ≤ r_29 → (p_X8_depot_45 F u_34 y2_19 k19 Post y1_19)) ∧ (¬ r_34 ≤ r_29 → (p_X8_depot_45 F u_34 y2_19 k19 Post y2_19)))))))))) n
theorem p_X8_depot_19_s (F : Nat) (x_arches : Int32) (f_now : Nat → Int32) (f_row : Nat → Int64) (Post : Int32 → (Int32 × Int32 × Int32 × (Nat → Int64)) → Prop) (n : Nat) (y2_19 : Int32) (y1_19 : Int32) (x_trolleyEnd_19 : Int32) : p_X8_depot_19 F x_arches f_now f_row Post (n + 1) y2_19 y1_19 x_trolleyEnd_19 = ((x_arches ≤ y2_19 → (p_X8_goTrolley F y1_19 x_arches f_now (fun (r_60 : Int32) (u_60 : Int32) => (p_X8_tell F (r_60.toInt64) (0 : Int32) f_row (fun (u_64 : (Int32 × (Nat → Int64))) => (Post y1_19 (u_64.1, (0 : Int32), u_60, u_64.2))))))) ∧ (¬ x_arches ≤ y2_19 → (p_X8_goTrolley F y2_19 x_arches f_now (fun (r_29 : Int32) (u_29 : Int32) => (p_X8_goTrolley F y1_19 x_arches f_now (fun (r_34 : Int32) (u_34 : Int32) => ((r_34 ≤ r_29 → (p_X8_depot_45 F u_34 y2_19 (p_X8_depot_19 F x_arches f_now f_row Post n) Post y1_19)) ∧ (¬ r_34 ≤ r_29 → (p_X8_depot_45 F u_34 y2_19 (p_X8_depot_19 F x_arches f_now f_row Post n) Post y2_19))))))))) := rfl
def p_X8_depot (F : Nat) (x_arches : Int32) (x_rowMany : Int32) (x_trolleyEnd : Int32) (f_now : Nat → Int32) (f_row : Nat → Int64) (Post : Int32 → (Int32 × Int32 × Int32 × (Nat → Int64)) → Prop) : Prop := ((¬ x_arches = 0 → (p_X8_depot_19 F x_arches f_now f_row Post F (1 : Int32) (0 : Int32) x_trolleyEnd)) ∧ (x_arches = 0 → (Post (-2 : Int32) (x_rowMany, (0 : Int32), x_trolleyEnd, f_row))))
set_option maxHeartbeats 4000000 in
set_option maxRecDepth 100000 in
theorem c_X8_depot (l : Launch) (D : va_G) (cT : Nat → ClassId) (F : Nat) (h : Nat) (q_now : Nat) (x_arches : Int32) (x_cats : Int32) (w_text : Value) (x_typed : Int32) (q_row : Nat) (x_rowMany : Int32) (x_thrown : Int32) (w_read : Value) (x_length : Int32) (x_top : Int32) (x_at : Int32) (x_wrong : Int32) (w_told : Value) (w_rule : Value) (w_otherRule : Value) (x_ruleSize : Int32) (x_isAsked : Int32) (w_asked : Value) (w_undos : Value) (x_undoMany : Int32) (w_aside : Value) (w_then : Value) (w_hold : Value) (x_dropped : Int32) (w_acts : Value) (w_guarded : Value) (w_train : Value) (x_trolleyEnd : Int32) (w_feltOf : Value) (w_feltBy : Value) (x_feltMany : Int32) (w_many : Value) (w_heardOf : Value) (w_heardBy : Value) (x_heardMany : Int32) (w_worth : Value) (x_drawn : Int32) (x_came : Int32) (w_kept : Value) (w_isKept : Value) (w_keptCame : Value) (f_now : Nat → Int32) (f_row : Nat → Int64) (Post : Int32 → (Int32 × Int32 × Int32 × (Nat → Int64)) → Prop) (hg : p_X8_depot F x_arches x_rowMany x_trolleyEnd f_now f_row Post) : MWi l D cT yX8_depot cX8_depot 3 (some .int) 2 57 0 0 [.ref h] [(h, oX8 (.ref q_now) (.int x_arches) (.int x_cats) w_text (.int x_typed) (.ref q_row) (.int x_rowMany) (.int x_thrown) w_read (.int x_length) (.int x_top) (.int x_at) (.int x_wrong) w_told w_rule w_otherRule (.int x_ruleSize) (.int x_isAsked) w_asked w_undos (.int x_undoMany) w_aside w_then w_hold (.int x_dropped) w_acts w_guarded w_train (.int x_trolleyEnd) w_feltOf w_feltBy (.int x_feltMany) w_many w_heardOf w_heardBy (.int x_heardMany) w_worth (.int x_drawn) (.int x_came) w_kept w_isKept w_keptCame), (q_now, aI cT 47 f_now), (q_row, aJ cT 16 f_row)] Post (fun (u : (Int32 × Int32 × Int32 × (Nat → Int64))) => [(h, oX8 (.ref q_now) (.int x_arches) (.int x_cats) w_text (.int x_typed) (.ref q_row) (.int u.1) (.int u.2.1) w_read (.int x_length) (.int x_top) (.int x_at) (.int x_wrong) w_told w_rule w_otherRule (.int x_ruleSize) (.int x_isAsked) w_asked w_undos (.int x_undoMany) w_aside w_then w_hold (.int x_dropped) w_acts w_guarded w_train (.int u.2.2.1) w_feltOf w_feltBy (.int x_feltMany) w_many w_heardOf w_heardBy (.int x_heardMany) w_worth (.int x_drawn) (.int x_came) w_kept w_isKept w_keptCame), (q_now, aI cT 47 f_now), (q_row, aJ cT 16 u.2.2.2)]) := by
  refine MWi.of (by decide) (Nat.le_of_ble_eq_true rfl) ?_
  intro p e s m below meth c A hA C0 hnm hr hP hD ls hl
  have hl : lv_has ls 3 [(0, .ref h)] := hl
  have hx := C0.x
  have hb := C0.b
  have hS : va_S A s.heap s.heap [] := va_S.rf
  have hP : va_P D cls9 [(h, oX8 (.ref q_now) (.int x_arches) (.int x_cats) w_text (.int x_typed) (.ref q_row) (.int x_rowMany) (.int x_thrown) w_read (.int x_length) (.int x_top) (.int x_at) (.int x_wrong) w_told w_rule w_otherRule (.int x_ruleSize) (.int x_isAsked) w_asked w_undos (.int x_undoMany) w_aside w_then w_hold (.int x_dropped) w_acts w_guarded w_train (.int x_trolleyEnd) w_feltOf w_feltBy (.int x_feltMany) w_many w_heardOf w_heardBy (.int x_heardMany) w_worth (.int x_drawn) (.int x_came) w_kept w_isKept w_keptCame), (q_now, aI cT 47 f_now), (q_row, aJ cT 16 f_row)] s.heap := hP
  have hD : va_D A [(h, oX8 (.ref q_now) (.int x_arches) (.int x_cats) w_text (.int x_typed) (.ref q_row) (.int x_rowMany) (.int x_thrown) w_read (.int x_length) (.int x_top) (.int x_at) (.int x_wrong) w_told w_rule w_otherRule (.int x_ruleSize) (.int x_isAsked) w_asked w_undos (.int x_undoMany) w_aside w_then w_hold (.int x_dropped) w_acts w_guarded w_train (.int x_trolleyEnd) w_feltOf w_feltBy (.int x_feltMany) w_many w_heardOf w_heardBy (.int x_heardMany) w_worth (.int x_drawn) (.int x_came) w_kept w_isKept w_keptCame), (q_now, aI cT 47 f_now), (q_row, aJ cT 16 f_row)] := hD
  have L19 : ∀ (n19 : Nat) (y2_19 : Int32) (y1_19 : Int32) (x_trolleyEnd_19 : Int32) (H : Heap) (locs : List Loc) (ls : Array Slot), p_X8_depot_19 F x_arches f_now f_row Post n19 y2_19 y1_19 x_trolleyEnd_19 → va_P D cls9 [(h, oX8 (.ref q_now) (.int x_arches) (.int x_cats) w_text (.int x_typed) (.ref q_row) (.int x_rowMany) (.int (0 : Int32)) w_read (.int x_length) (.int x_top) (.int x_at) (.int x_wrong) w_told w_rule w_otherRule (.int x_ruleSize) (.int x_isAsked) w_asked w_undos (.int x_undoMany) w_aside w_then w_hold (.int x_dropped) w_acts w_guarded w_train (.int x_trolleyEnd_19) w_feltOf w_feltBy (.int x_feltMany) w_many w_heardOf w_heardBy (.int x_heardMany) w_worth (.int x_drawn) (.int x_came) w_kept w_isKept w_keptCame), (q_now, aI cT 47 f_now), (q_row, aJ cT 16 f_row)] H → va_D A [(h, oX8 (.ref q_now) (.int x_arches) (.int x_cats) w_text (.int x_typed) (.ref q_row) (.int x_rowMany) (.int (0 : Int32)) w_read (.int x_length) (.int x_top) (.int x_at) (.int x_wrong) w_told w_rule w_otherRule (.int x_ruleSize) (.int x_isAsked) w_asked w_undos (.int x_undoMany) w_aside w_then w_hold (.int x_dropped) w_acts w_guarded w_train (.int x_trolleyEnd_19) w_feltOf w_feltBy (.int x_feltMany) w_many w_heardOf w_heardBy (.int x_heardMany) w_worth (.int x_drawn) (.int x_came) w_kept w_isKept w_keptCame), (q_now, aI cT 47 f_now), (q_row, aJ cT 16 f_row)] → va_S A s.heap H locs → lv_has ls 3 [(0, .ref h), (1, .int y1_19), (2, .int y2_19)] → W p l e (rmO 2 57 0 0) s m ([.ref h] : List Value).toArray below meth c H locs 0 0 (MQ below (va_Qi Post (cB D A (fun (u : (Int32 × Int32 × Int32 × (Nat → Int64))) => [(h, oX8 (.ref q_now) (.int x_arches) (.int x_cats) w_text (.int x_typed) (.ref q_row) (.int u.1) (.int u.2.1) w_read (.int x_length) (.int x_top) (.int x_at) (.int x_wrong) w_told w_rule w_otherRule (.int x_ruleSize) (.int x_isAsked) w_asked w_undos (.int x_undoMany) w_aside w_then w_hold (.int x_dropped) w_acts w_guarded w_train (.int u.2.2.1) w_feltOf w_feltBy (.int x_feltMany) w_many w_heardOf w_heardBy (.int x_heardMany) w_worth (.int x_drawn) (.int x_came) w_kept w_isKept w_keptCame), (q_now, aI cT 47 f_now), (q_row, aJ cT 16 u.2.2.2)])) A) ([.ref h] : List Value).toArray s 0 0 A) (F0 m 19 ls []) := by
    intro n19
    induction n19 with
    | zero =>
      intro y2_19 y1_19 x_trolleyEnd_19 H locs ls hg hP hD hS hl
      exact False.elim hg
    | succ n19 ih19 =>
      have L45 : ∀ (u_34 : Int32) (y2_19 : Int32) (s0_45 : Int32) (H : Heap) (locs : List Loc) (ls : Array Slot), p_X8_depot_45 F u_34 y2_19 (p_X8_depot_19 F x_arches f_now f_row Post n19) Post s0_45 → va_P D cls9 [(h, oX8 (.ref q_now) (.int x_arches) (.int x_cats) w_text (.int x_typed) (.ref q_row) (.int x_rowMany) (.int (0 : Int32)) w_read (.int x_length) (.int x_top) (.int x_at) (.int x_wrong) w_told w_rule w_otherRule (.int x_ruleSize) (.int x_isAsked) w_asked w_undos (.int x_undoMany) w_aside w_then w_hold (.int x_dropped) w_acts w_guarded w_train (.int u_34) w_feltOf w_feltBy (.int x_feltMany) w_many w_heardOf w_heardBy (.int x_heardMany) w_worth (.int x_drawn) (.int x_came) w_kept w_isKept w_keptCame), (q_now, aI cT 47 f_now), (q_row, aJ cT 16 f_row)] H → va_D A [(h, oX8 (.ref q_now) (.int x_arches) (.int x_cats) w_text (.int x_typed) (.ref q_row) (.int x_rowMany) (.int (0 : Int32)) w_read (.int x_length) (.int x_top) (.int x_at) (.int x_wrong) w_told w_rule w_otherRule (.int x_ruleSize) (.int x_isAsked) w_asked w_undos (.int x_undoMany) w_aside w_then w_hold (.int x_dropped) w_acts w_guarded w_train (.int u_34) w_feltOf w_feltBy (.int x_feltMany) w_many w_heardOf w_heardBy (.int x_heardMany) w_worth (.int x_drawn) (.int x_came) w_kept w_isKept w_keptCame), (q_now, aI cT 47 f_now), (q_row, aJ cT 16 f_row)] → va_S A s.heap H locs → lv_has ls 3 [(0, .ref h), (2, .int y2_19)] → W p l e (rmO 2 57 0 0) s m ([.ref h] : List Value).toArray below meth c H locs 0 0 (MQ below (va_Qi Post (cB D A (fun (u : (Int32 × Int32 × Int32 × (Nat → Int64))) => [(h, oX8 (.ref q_now) (.int x_arches) (.int x_cats) w_text (.int x_typed) (.ref q_row) (.int u.1) (.int u.2.1) w_read (.int x_length) (.int x_top) (.int x_at) (.int x_wrong) w_told w_rule w_otherRule (.int x_ruleSize) (.int x_isAsked) w_asked w_undos (.int x_undoMany) w_aside w_then w_hold (.int x_dropped) w_acts w_guarded w_train (.int u.2.2.1) w_feltOf w_feltBy (.int x_feltMany) w_many w_heardOf w_heardBy (.int x_heardMany) w_worth (.int x_drawn) (.int x_came) w_kept w_isKept w_keptCame), (q_now, aI cT 47 f_now), (q_row, aJ cT 16 u.2.2.2)])) A) ([.ref h] : List Value).toArray s 0 0 A) (F0 m 45 ls [.int s0_45]) := by
        intro u_34 y2_19 s0_45 H locs ls hg hP hD hS hl
        unfold p_X8_depot_45 at hg
        refine lv_istore_n (lv' := [(1, .int s0_45), (0, .ref h), (2, .int y2_19)]) hx hb dX8_depot_45 rfl hl (by decide) rfl (fun ls hl => ?_)
        refine lv_iinc (v := (y2_19 + (1 : Int32))) (lv' := [(2, .int (y2_19 + (1 : Int32))), (1, .int s0_45), (0, .ref h)]) hx hb dX8_depot_46 hl (k := 2) rfl rfl (by decide) rfl (fun ls hl => ?_)
        refine lv_goto (tgt := 19) hx hb dX8_depot_49 (by decide) ?_
        exact ih19 (y2_19 + (1 : Int32)) s0_45 u_34 _ _ _ hg hP hD hS (lv_sub hl [2, 1, 0] rfl)
      intro y2_19 y1_19 x_trolleyEnd_19 H locs ls hg hP hD hS hl
      rw [p_X8_depot_19_s] at hg
      refine lv_iload_n hx hb dX8_depot_19 rfl (lv_at hl 2 rfl) ?_
      refine lv_aload_n hx hb dX8_depot_20 rfl (lv_at hl 0 rfl) ?_
      refine gf_X8_89 C0 hP 0 rfl rfl dX8_depot_21 ?_
      refine lv_icmp_ge (tgt := 52) hx hb dX8_depot_24 (by decide) (fun c_24 => ?_) (fun c_24 => ?_)
      · have hg := hg.1 c_24
        refine lv_aload_n hx hb dX8_depot_52 rfl (lv_at hl 0 rfl) ?_
        refine lv_iconst (v := (0 : Int32)) hx hb dX8_depot_53 (by decide) ?_
        refine pf_X8_86 C0 hP hD hS 0 rfl (Nat.le_of_ble_eq_true rfl) (ws2 := [(h, oX8 (.ref q_now) (.int x_arches) (.int x_cats) w_text (.int x_typed) (.ref q_row) (.int (0 : Int32)) (.int (0 : Int32)) w_read (.int x_length) (.int x_top) (.int x_at) (.int x_wrong) w_told w_rule w_otherRule (.int x_ruleSize) (.int x_isAsked) w_asked w_undos (.int x_undoMany) w_aside w_then w_hold (.int x_dropped) w_acts w_guarded w_train (.int x_trolleyEnd_19) w_feltOf w_feltBy (.int x_feltMany) w_many w_heardOf w_heardBy (.int x_heardMany) w_worth (.int x_drawn) (.int x_came) w_kept w_isKept w_keptCame), (q_now, aI cT 47 f_now), (q_row, aJ cT 16 f_row)]) rfl dX8_depot_54 (fun H locs hP hD hS => ?_)
        refine lv_aload_n hx hb dX8_depot_57 rfl (lv_at hl 0 rfl) ?_
        refine lv_aload_n hx hb dX8_depot_58 rfl (lv_at hl 0 rfl) ?_
        refine lv_iload_n hx hb dX8_depot_59 rfl (lv_at hl 1 rfl) ?_
        refine k_Vi (rest := [.ref h]) (wr := [(q_row, aJ cT 16 f_row)]) (w2 := fun u_60 => [(q_row, aJ cT 16 f_row), (h, oX8 (.ref q_now) (.int x_arches) (.int x_cats) w_text (.int x_typed) (.ref q_row) (.int (0 : Int32)) (.int (0 : Int32)) w_read (.int x_length) (.int x_top) (.int x_at) (.int x_wrong) w_told w_rule w_otherRule (.int x_ruleSize) (.int x_isAsked) w_asked w_undos (.int x_undoMany) w_aside w_then w_hold (.int x_dropped) w_acts w_guarded w_train (.int u_60) w_feltOf w_feltBy (.int x_feltMany) w_many w_heardOf w_heardBy (.int x_heardMany) w_worth (.int x_drawn) (.int x_came) w_kept w_isKept w_keptCame), (q_now, aI cT 47 f_now)]) C0 lk_X8_323 (c_X8_goTrolley l D cT F h y1_19 q_now x_arches x_cats w_text x_typed (.ref q_row) (0 : Int32) (0 : Int32) w_read x_length x_top x_at x_wrong w_told w_rule w_otherRule x_ruleSize x_isAsked w_asked w_undos x_undoMany w_aside w_then w_hold x_dropped w_acts w_guarded w_train x_trolleyEnd_19 w_feltOf w_feltBy x_feltMany w_many w_heardOf w_heardBy x_heardMany w_worth x_drawn x_came w_kept w_isKept w_keptCame f_now _ hg) hP hD hS hA [0, 1] [2] (by decide +kernel) rfl rfl (fun _ => rfl) rfl rfl ⟨Nat.le_of_ble_eq_true rfl, Nat.le_of_ble_eq_true rfl⟩ rfl hl.1 rfl (Nat.le_of_ble_eq_true rfl) dX8_depot_60 ⟨Nat.le_of_ble_eq_true rfl, Nat.le_of_ble_eq_true rfl⟩ ?_
        intro r_60 u_60 H locs hg hP hD hS
        refine lv_i2l (v := (r_60.toInt64)) hx hb dX8_depot_63 rfl ?_
        refine k_Vv (rest := []) (wr := [(q_now, aI cT 47 f_now)]) (w2 := fun u_64 => [(q_now, aI cT 47 f_now), (h, oX8 (.ref q_now) (.int x_arches) (.int x_cats) w_text (.int x_typed) (.ref q_row) (.int u_64.1) (.int (0 : Int32)) w_read (.int x_length) (.int x_top) (.int x_at) (.int x_wrong) w_told w_rule w_otherRule (.int x_ruleSize) (.int x_isAsked) w_asked w_undos (.int x_undoMany) w_aside w_then w_hold (.int x_dropped) w_acts w_guarded w_train (.int u_60) w_feltOf w_feltBy (.int x_feltMany) w_many w_heardOf w_heardBy (.int x_heardMany) w_worth (.int x_drawn) (.int x_came) w_kept w_isKept w_keptCame), (q_row, aJ cT 16 u_64.2)]) C0 lk_X8_249 (c_X8_tell l D cT F h (r_60.toInt64) (.ref q_now) x_arches x_cats w_text x_typed q_row (0 : Int32) (0 : Int32) w_read x_length x_top x_at x_wrong w_told w_rule w_otherRule x_ruleSize x_isAsked w_asked w_undos x_undoMany w_aside w_then w_hold x_dropped w_acts w_guarded w_train u_60 w_feltOf w_feltBy x_feltMany w_many w_heardOf w_heardBy x_heardMany w_worth x_drawn x_came w_kept w_isKept w_keptCame f_row _ hg) hP hD hS hA [1, 0] [2] (by decide +kernel) rfl rfl (fun _ => rfl) rfl rfl ⟨Nat.le_of_ble_eq_true rfl, Nat.le_of_ble_eq_true rfl⟩ rfl hl.1 rfl (Nat.le_of_ble_eq_true rfl) dX8_depot_64 ⟨Nat.le_of_ble_eq_true rfl, Nat.le_of_ble_eq_true rfl⟩ ?_
        intro u_64 H locs hg hP hD hS
        refine lv_iload_n hx hb dX8_depot_67 rfl (lv_at hl 1 rfl) ?_
        exact k_iret C0 hr (u_64.1, (0 : Int32), u_60, u_64.2) hg (subP hP [1, 0, 2] rfl) (hD.sub [1, 0, 2] (nd2_ok _ (by decide +kernel)) rfl) hS dX8_depot_68
      have hg := hg.2 c_24
      refine lv_aload_n hx hb dX8_depot_27 rfl (lv_at hl 0 rfl) ?_
      refine lv_iload_n hx hb dX8_depot_28 rfl (lv_at hl 2 rfl) ?_
      refine k_Vi (rest := []) (wr := [(q_row, aJ cT 16 f_row)]) (w2 := fun u_29 => [(q_row, aJ cT 16 f_row), (h, oX8 (.ref q_now) (.int x_arches) (.int x_cats) w_text (.int x_typed) (.ref q_row) (.int x_rowMany) (.int (0 : Int32)) w_read (.int x_length) (.int x_top) (.int x_at) (.int x_wrong) w_told w_rule w_otherRule (.int x_ruleSize) (.int x_isAsked) w_asked w_undos (.int x_undoMany) w_aside w_then w_hold (.int x_dropped) w_acts w_guarded w_train (.int u_29) w_feltOf w_feltBy (.int x_feltMany) w_many w_heardOf w_heardBy (.int x_heardMany) w_worth (.int x_drawn) (.int x_came) w_kept w_isKept w_keptCame), (q_now, aI cT 47 f_now)]) C0 lk_X8_323 (c_X8_goTrolley l D cT F h y2_19 q_now x_arches x_cats w_text x_typed (.ref q_row) x_rowMany (0 : Int32) w_read x_length x_top x_at x_wrong w_told w_rule w_otherRule x_ruleSize x_isAsked w_asked w_undos x_undoMany w_aside w_then w_hold x_dropped w_acts w_guarded w_train x_trolleyEnd_19 w_feltOf w_feltBy x_feltMany w_many w_heardOf w_heardBy x_heardMany w_worth x_drawn x_came w_kept w_isKept w_keptCame f_now _ hg) hP hD hS hA [0, 1] [2] (by decide +kernel) rfl rfl (fun _ => rfl) rfl rfl ⟨Nat.le_of_ble_eq_true rfl, Nat.le_of_ble_eq_true rfl⟩ rfl hl.1 rfl (Nat.le_of_ble_eq_true rfl) dX8_depot_29 ⟨Nat.le_of_ble_eq_true rfl, Nat.le_of_ble_eq_true rfl⟩ ?_
      intro r_29 u_29 H locs hg hP hD hS
      refine lv_aload_n hx hb dX8_depot_32 rfl (lv_at hl 0 rfl) ?_
      refine lv_iload_n hx hb dX8_depot_33 rfl (lv_at hl 1 rfl) ?_
      refine k_Vi (rest := [.int r_29]) (wr := [(q_row, aJ cT 16 f_row)]) (w2 := fun u_34 => [(q_row, aJ cT 16 f_row), (h, oX8 (.ref q_now) (.int x_arches) (.int x_cats) w_text (.int x_typed) (.ref q_row) (.int x_rowMany) (.int (0 : Int32)) w_read (.int x_length) (.int x_top) (.int x_at) (.int x_wrong) w_told w_rule w_otherRule (.int x_ruleSize) (.int x_isAsked) w_asked w_undos (.int x_undoMany) w_aside w_then w_hold (.int x_dropped) w_acts w_guarded w_train (.int u_34) w_feltOf w_feltBy (.int x_feltMany) w_many w_heardOf w_heardBy (.int x_heardMany) w_worth (.int x_drawn) (.int x_came) w_kept w_isKept w_keptCame), (q_now, aI cT 47 f_now)]) C0 lk_X8_323 (c_X8_goTrolley l D cT F h y1_19 q_now x_arches x_cats w_text x_typed (.ref q_row) x_rowMany (0 : Int32) w_read x_length x_top x_at x_wrong w_told w_rule w_otherRule x_ruleSize x_isAsked w_asked w_undos x_undoMany w_aside w_then w_hold x_dropped w_acts w_guarded w_train u_29 w_feltOf w_feltBy x_feltMany w_many w_heardOf w_heardBy x_heardMany w_worth x_drawn x_came w_kept w_isKept w_keptCame f_now _ hg) hP hD hS hA [1, 2] [0] (by decide +kernel) rfl rfl (fun _ => rfl) rfl rfl ⟨Nat.le_of_ble_eq_true rfl, Nat.le_of_ble_eq_true rfl⟩ rfl hl.1 rfl (Nat.le_of_ble_eq_true rfl) dX8_depot_34 ⟨Nat.le_of_ble_eq_true rfl, Nat.le_of_ble_eq_true rfl⟩ ?_
      intro r_34 u_34 H locs hg hP hD hS
      refine lv_icmp_ge (tgt := 44) hx hb dX8_depot_37 (by decide) (fun c_37 => ?_) (fun c_37 => ?_)
      · have hg := hg.1 c_37
        refine lv_iload_n hx hb dX8_depot_44 rfl (lv_at hl 1 rfl) ?_
        exact L45 u_34 y2_19 y1_19 _ _ _ hg (subP hP [1, 2, 0] rfl) (hD.sub [1, 2, 0] (nd2_ok _ (by decide +kernel)) rfl) hS (lv_sub hl [0, 2] rfl)
      have hg := hg.2 c_37
      refine lv_iload_n hx hb dX8_depot_40 rfl (lv_at hl 2 rfl) ?_
      refine lv_goto (tgt := 45) hx hb dX8_depot_41 (by decide) ?_
      exact L45 u_34 y2_19 y2_19 _ _ _ hg (subP hP [1, 2, 0] rfl) (hD.sub [1, 2, 0] (nd2_ok _ (by decide +kernel)) rfl) hS (lv_sub hl [0, 2] rfl)
  unfold p_X8_depot at hg
  refine lv_aload_n hx hb dX8_depot_0 rfl (lv_at hl 0 rfl) ?_
  refine lv_iconst (v := (0 : Int32)) hx hb dX8_depot_1 (by decide) ?_
  refine pf_X8_82 C0 hP hD hS 0 rfl (Nat.le_of_ble_eq_true rfl) (ws2 := [(h, oX8 (.ref q_now) (.int x_arches) (.int x_cats) w_text (.int x_typed) (.ref q_row) (.int x_rowMany) (.int (0 : Int32)) w_read (.int x_length) (.int x_top) (.int x_at) (.int x_wrong) w_told w_rule w_otherRule (.int x_ruleSize) (.int x_isAsked) w_asked w_undos (.int x_undoMany) w_aside w_then w_hold (.int x_dropped) w_acts w_guarded w_train (.int x_trolleyEnd) w_feltOf w_feltBy (.int x_feltMany) w_many w_heardOf w_heardBy (.int x_heardMany) w_worth (.int x_drawn) (.int x_came) w_kept w_isKept w_keptCame), (q_now, aI cT 47 f_now), (q_row, aJ cT 16 f_row)]) rfl dX8_depot_2 (fun H locs hP hD hS => ?_)
  refine lv_aload_n hx hb dX8_depot_5 rfl (lv_at hl 0 rfl) ?_
  refine gf_X8_89 C0 hP 0 rfl rfl dX8_depot_6 ?_
  refine lv_if_ne (tgt := 15) hx hb dX8_depot_9 (by decide) (fun c_9 => ?_) (fun c_9 => ?_)
  · have hg := hg.1 c_9
    refine lv_iconst (v := (0 : Int32)) hx hb dX8_depot_15 (by decide) ?_
    refine lv_istore_n (lv' := [(1, .int (0 : Int32)), (0, .ref h)]) hx hb dX8_depot_16 rfl hl (by decide) rfl (fun ls hl => ?_)
    refine lv_iconst (v := (1 : Int32)) hx hb dX8_depot_17 (by decide) ?_
    refine lv_istore_n (lv' := [(2, .int (1 : Int32)), (1, .int (0 : Int32)), (0, .ref h)]) hx hb dX8_depot_18 rfl hl (by decide) rfl (fun ls hl => ?_)
    exact L19 F (1 : Int32) (0 : Int32) x_trolleyEnd _ _ _ hg hP hD hS (lv_sub hl [2, 1, 0] rfl)
  have hg := hg.2 c_9
  refine lv_bipush (v := (-2 : Int32)) hx hb dX8_depot_12 (by decide) ?_
  exact k_iret C0 hr (x_rowMany, (0 : Int32), x_trolleyEnd, f_row) hg hP hD hS dX8_depot_14
theorem dX8_felt_0 : decode cX8_felt 0 = .ok (.aload_n 0, 1) := by decide +kernel
theorem dX8_felt_1 : decode cX8_felt 1 = .ok (.iconst 0, 1) := by decide +kernel
theorem dX8_felt_2 : decode cX8_felt 2 = .ok (.putfield 82, 3) := by decide +kernel
theorem dX8_felt_5 : decode cX8_felt 5 = .ok (.aload_n 0, 1) := by decide +kernel
theorem dX8_felt_6 : decode cX8_felt 6 = .ok (.iload_n 1, 1) := by decide +kernel
theorem dX8_felt_7 : decode cX8_felt 7 = .ok (.invokevirtual 214, 3) := by decide +kernel
theorem dX8_felt_10 : decode cX8_felt 10 = .ok (.ifCond .eq 22, 3) := by decide +kernel
theorem dX8_felt_13 : decode cX8_felt 13 = .ok (.iload_n 2, 1) := by decide +kernel
theorem dX8_felt_14 : decode cX8_felt 14 = .ok (.iconst 0, 1) := by decide +kernel
theorem dX8_felt_15 : decode cX8_felt 15 = .ok (.bipush 72, 2) := by decide +kernel
theorem dX8_felt_17 : decode cX8_felt 17 = .ok (.invokestatic 92, 3) := by decide +kernel
theorem dX8_felt_20 : decode cX8_felt 20 = .ok (.ifCond .eq 12, 3) := by decide +kernel
theorem dX8_felt_23 : decode cX8_felt 23 = .ok (.aload_n 0, 1) := by decide +kernel
theorem dX8_felt_24 : decode cX8_felt 24 = .ok (.getfield 326, 3) := by decide +kernel
theorem dX8_felt_27 : decode cX8_felt 27 = .ok (.bipush 10, 2) := by decide +kernel
theorem dX8_felt_29 : decode cX8_felt 29 = .ok (.if_icmp .ne 5, 3) := by decide +kernel
theorem dX8_felt_32 : decode cX8_felt 32 = .ok (.iconst (-1), 1) := by decide +kernel
theorem dX8_felt_33 : decode cX8_felt 33 = .ok (.ireturn, 1) := by decide +kernel
theorem dX8_felt_34 : decode cX8_felt 34 = .ok (.aload_n 0, 1) := by decide +kernel
theorem dX8_felt_35 : decode cX8_felt 35 = .ok (.getfield 54, 3) := by decide +kernel
theorem dX8_felt_38 : decode cX8_felt 38 = .ok (.aload_n 0, 1) := by decide +kernel
theorem dX8_felt_39 : decode cX8_felt 39 = .ok (.getfield 326, 3) := by decide +kernel
theorem dX8_felt_42 : decode cX8_felt 42 = .ok (.iload_n 1, 1) := by decide +kernel
theorem dX8_felt_43 : decode cX8_felt 43 = .ok (.iastore, 1) := by decide +kernel
theorem dX8_felt_44 : decode cX8_felt 44 = .ok (.aload_n 0, 1) := by decide +kernel
theorem dX8_felt_45 : decode cX8_felt 45 = .ok (.getfield 57, 3) := by decide +kernel
theorem dX8_felt_48 : decode cX8_felt 48 = .ok (.aload_n 0, 1) := by decide +kernel
theorem dX8_felt_49 : decode cX8_felt 49 = .ok (.getfield 326, 3) := by decide +kernel
theorem dX8_felt_52 : decode cX8_felt 52 = .ok (.iload_n 2, 1) := by decide +kernel
theorem dX8_felt_53 : decode cX8_felt 53 = .ok (.iastore, 1) := by decide +kernel
theorem dX8_felt_54 : decode cX8_felt 54 = .ok (.aload_n 0, 1) := by decide +kernel
theorem dX8_felt_55 : decode cX8_felt 55 = .ok (.dup, 1) := by decide +kernel
theorem dX8_felt_56 : decode cX8_felt 56 = .ok (.getfield 326, 3) := by decide +kernel
theorem dX8_felt_59 : decode cX8_felt 59 = .ok (.iconst 1, 1) := by decide +kernel
theorem dX8_felt_60 : decode cX8_felt 60 = .ok (.iadd, 1) := by decide +kernel
theorem dX8_felt_61 : decode cX8_felt 61 = .ok (.putfield 326, 3) := by decide +kernel
theorem dX8_felt_64 : decode cX8_felt 64 = .ok (.aload_n 0, 1) := by decide +kernel
theorem dX8_felt_65 : decode cX8_felt 65 = .ok (.getfield 326, 3) := by decide +kernel
theorem dX8_felt_68 : decode cX8_felt 68 = .ok (.ireturn, 1) := by decide +kernel
def p_X8_felt (F : Nat) (p1 : Int32) (p2 : Int32) (x_arches : Int32) (x_feltMany : Int32) (f_feltOf : Nat → Int32) (f_feltBy : Nat → Int32) (Post : Int32 → (Int32 × Int32 × (Nat → Int32) × (Nat → Int32)) → Prop) : Prop := (p_X8_isArch F p1 x_arches (fun (r_7 : Int32) => ((r_7 = 0 → (Post (-1 : Int32) ((0 : Int32), x_feltMany, f_feltOf, f_feltBy))) ∧ (¬ r_7 = 0 → (p_X8_in F p2 (0 : Int32) (72 : Int32) (fun (r_17 : Int32) => ((r_17 = 0 → (Post (-1 : Int32) ((0 : Int32), x_feltMany, f_feltOf, f_feltBy))) ∧ (¬ r_17 = 0 → ((¬ x_feltMany = (10 : Int32) → (vp_in x_feltMany 10 ∧ (vp_in x_feltMany 10 ∧ (Post (x_feltMany + (1 : Int32)) ((0 : Int32), (x_feltMany + (1 : Int32)), (upd f_feltOf x_feltMany.toNatClampNeg p1), (upd f_feltBy x_feltMany.toNatClampNeg p2)))))) ∧ (x_feltMany = (10 : Int32) → (Post (-1 : Int32) ((0 : Int32), x_feltMany, f_feltOf, f_feltBy))))))))))))
set_option maxHeartbeats 4000000 in
set_option maxRecDepth 100000 in
theorem c_X8_felt (l : Launch) (D : va_G) (cT : Nat → ClassId) (F : Nat) (h : Nat) (p1 : Int32) (p2 : Int32) (w_now : Value) (x_arches : Int32) (x_cats : Int32) (w_text : Value) (x_typed : Int32) (w_row : Value) (x_rowMany : Int32) (x_thrown : Int32) (w_read : Value) (x_length : Int32) (x_top : Int32) (x_at : Int32) (x_wrong : Int32) (w_told : Value) (w_rule : Value) (w_otherRule : Value) (x_ruleSize : Int32) (x_isAsked : Int32) (w_asked : Value) (w_undos : Value) (x_undoMany : Int32) (w_aside : Value) (w_then : Value) (w_hold : Value) (x_dropped : Int32) (w_acts : Value) (w_guarded : Value) (w_train : Value) (x_trolleyEnd : Int32) (q_feltOf : Nat) (q_feltBy : Nat) (x_feltMany : Int32) (w_many : Value) (w_heardOf : Value) (w_heardBy : Value) (x_heardMany : Int32) (w_worth : Value) (x_drawn : Int32) (x_came : Int32) (w_kept : Value) (w_isKept : Value) (w_keptCame : Value) (f_feltOf : Nat → Int32) (f_feltBy : Nat → Int32) (Post : Int32 → (Int32 × Int32 × (Nat → Int32) × (Nat → Int32)) → Prop) (hg : p_X8_felt F p1 p2 x_arches x_feltMany f_feltOf f_feltBy Post) : MWi l D cT yX8_felt cX8_felt 3 (some .int) 2 43 0 0 [.ref h, .int p1, .int p2] [(h, oX8 w_now (.int x_arches) (.int x_cats) w_text (.int x_typed) w_row (.int x_rowMany) (.int x_thrown) w_read (.int x_length) (.int x_top) (.int x_at) (.int x_wrong) w_told w_rule w_otherRule (.int x_ruleSize) (.int x_isAsked) w_asked w_undos (.int x_undoMany) w_aside w_then w_hold (.int x_dropped) w_acts w_guarded w_train (.int x_trolleyEnd) (.ref q_feltOf) (.ref q_feltBy) (.int x_feltMany) w_many w_heardOf w_heardBy (.int x_heardMany) w_worth (.int x_drawn) (.int x_came) w_kept w_isKept w_keptCame), (q_feltOf, aI cT 10 f_feltOf), (q_feltBy, aI cT 10 f_feltBy)] Post (fun (u : (Int32 × Int32 × (Nat → Int32) × (Nat → Int32))) => [(h, oX8 w_now (.int x_arches) (.int x_cats) w_text (.int x_typed) w_row (.int x_rowMany) (.int u.1) w_read (.int x_length) (.int x_top) (.int x_at) (.int x_wrong) w_told w_rule w_otherRule (.int x_ruleSize) (.int x_isAsked) w_asked w_undos (.int x_undoMany) w_aside w_then w_hold (.int x_dropped) w_acts w_guarded w_train (.int x_trolleyEnd) (.ref q_feltOf) (.ref q_feltBy) (.int u.2.1) w_many w_heardOf w_heardBy (.int x_heardMany) w_worth (.int x_drawn) (.int x_came) w_kept w_isKept w_keptCame), (q_feltOf, aI cT 10 u.2.2.1), (q_feltBy, aI cT 10 u.2.2.2)]) := by
  refine MWi.of (by decide) (Nat.le_of_ble_eq_true rfl) ?_
  intro p e s m below meth c A hA C0 hnm hr hP hD ls hl
  have hl : lv_has ls 3 [(0, .ref h), (1, .int p1), (2, .int p2)] := hl
  have hx := C0.x
  have hb := C0.b
  have hS : va_S A s.heap s.heap [] := va_S.rf
  have hP : va_P D cls9 [(h, oX8 w_now (.int x_arches) (.int x_cats) w_text (.int x_typed) w_row (.int x_rowMany) (.int x_thrown) w_read (.int x_length) (.int x_top) (.int x_at) (.int x_wrong) w_told w_rule w_otherRule (.int x_ruleSize) (.int x_isAsked) w_asked w_undos (.int x_undoMany) w_aside w_then w_hold (.int x_dropped) w_acts w_guarded w_train (.int x_trolleyEnd) (.ref q_feltOf) (.ref q_feltBy) (.int x_feltMany) w_many w_heardOf w_heardBy (.int x_heardMany) w_worth (.int x_drawn) (.int x_came) w_kept w_isKept w_keptCame), (q_feltOf, aI cT 10 f_feltOf), (q_feltBy, aI cT 10 f_feltBy)] s.heap := hP
  have hD : va_D A [(h, oX8 w_now (.int x_arches) (.int x_cats) w_text (.int x_typed) w_row (.int x_rowMany) (.int x_thrown) w_read (.int x_length) (.int x_top) (.int x_at) (.int x_wrong) w_told w_rule w_otherRule (.int x_ruleSize) (.int x_isAsked) w_asked w_undos (.int x_undoMany) w_aside w_then w_hold (.int x_dropped) w_acts w_guarded w_train (.int x_trolleyEnd) (.ref q_feltOf) (.ref q_feltBy) (.int x_feltMany) w_many w_heardOf w_heardBy (.int x_heardMany) w_worth (.int x_drawn) (.int x_came) w_kept w_isKept w_keptCame), (q_feltOf, aI cT 10 f_feltOf), (q_feltBy, aI cT 10 f_feltBy)] := hD
  unfold p_X8_felt at hg
  refine lv_aload_n hx hb dX8_felt_0 rfl (lv_at hl 0 rfl) ?_
  refine lv_iconst (v := (0 : Int32)) hx hb dX8_felt_1 (by decide) ?_
  refine pf_X8_82 C0 hP hD hS 0 rfl (Nat.le_of_ble_eq_true rfl) (ws2 := [(h, oX8 w_now (.int x_arches) (.int x_cats) w_text (.int x_typed) w_row (.int x_rowMany) (.int (0 : Int32)) w_read (.int x_length) (.int x_top) (.int x_at) (.int x_wrong) w_told w_rule w_otherRule (.int x_ruleSize) (.int x_isAsked) w_asked w_undos (.int x_undoMany) w_aside w_then w_hold (.int x_dropped) w_acts w_guarded w_train (.int x_trolleyEnd) (.ref q_feltOf) (.ref q_feltBy) (.int x_feltMany) w_many w_heardOf w_heardBy (.int x_heardMany) w_worth (.int x_drawn) (.int x_came) w_kept w_isKept w_keptCame), (q_feltOf, aI cT 10 f_feltOf), (q_feltBy, aI cT 10 f_feltBy)]) rfl dX8_felt_2 (fun H locs hP hD hS => ?_)
  refine lv_aload_n hx hb dX8_felt_5 rfl (lv_at hl 0 rfl) ?_
  refine lv_iload_n hx hb dX8_felt_6 rfl (lv_at hl 1 rfl) ?_
  refine k_Vxi (rest := []) C0 lk_X8_214 (c_X8_isArch l D cT F h p1 w_now x_arches x_cats w_text x_typed w_row x_rowMany (0 : Int32) w_read x_length x_top x_at x_wrong w_told w_rule w_otherRule x_ruleSize x_isAsked w_asked w_undos x_undoMany w_aside w_then w_hold x_dropped w_acts w_guarded w_train x_trolleyEnd (.ref q_feltOf) (.ref q_feltBy) x_feltMany w_many w_heardOf w_heardBy x_heardMany w_worth x_drawn x_came w_kept w_isKept w_keptCame _ hg) hP hD hS hA [0] (by decide +kernel) rfl rfl rfl ⟨Nat.le_of_ble_eq_true rfl, Nat.le_of_ble_eq_true rfl⟩ rfl hl.1 rfl (Nat.le_of_ble_eq_true rfl) dX8_felt_7 ⟨Nat.le_of_ble_eq_true rfl, Nat.le_of_ble_eq_true rfl⟩ (fun r_7 hg => ?_)
  refine lv_if_eq (tgt := 32) hx hb dX8_felt_10 (by decide) (fun c_10 => ?_) (fun c_10 => ?_)
  · have hg := hg.1 c_10
    refine lv_iconst (v := (-1 : Int32)) hx hb dX8_felt_32 (by decide) ?_
    exact k_iret C0 hr ((0 : Int32), x_feltMany, f_feltOf, f_feltBy) hg hP hD hS dX8_felt_33
  have hg := hg.2 c_10
  refine lv_iload_n hx hb dX8_felt_13 rfl (lv_at hl 2 rfl) ?_
  refine lv_iconst (v := (0 : Int32)) hx hb dX8_felt_14 (by decide) ?_
  refine lv_bipush (v := (72 : Int32)) hx hb dX8_felt_15 (by decide) ?_
  refine k_Sxi (rest := []) C0 lk_X8_92 (c_X8_in l D cT F p2 (0 : Int32) (72 : Int32) _ hg) hP hD hS hA [] (by decide +kernel) rfl ⟨Nat.le_of_ble_eq_true rfl, Nat.le_of_ble_eq_true rfl⟩ rfl hl.1 rfl (Nat.le_of_ble_eq_true rfl) dX8_felt_17 ⟨Nat.le_of_ble_eq_true rfl, Nat.le_of_ble_eq_true rfl⟩ (fun r_17 hg => ?_)
  refine lv_if_eq (tgt := 32) hx hb dX8_felt_20 (by decide) (fun c_20 => ?_) (fun c_20 => ?_)
  · have hg := hg.1 c_20
    refine lv_iconst (v := (-1 : Int32)) hx hb dX8_felt_32 (by decide) ?_
    exact k_iret C0 hr ((0 : Int32), x_feltMany, f_feltOf, f_feltBy) hg hP hD hS dX8_felt_33
  have hg := hg.2 c_20
  refine lv_aload_n hx hb dX8_felt_23 rfl (lv_at hl 0 rfl) ?_
  refine gf_X8_326 C0 hP 0 rfl rfl dX8_felt_24 ?_
  refine lv_bipush (v := (10 : Int32)) hx hb dX8_felt_27 (by decide) ?_
  refine lv_icmp_ne (tgt := 34) hx hb dX8_felt_29 (by decide) (fun c_29 => ?_) (fun c_29 => ?_)
  · have hg := hg.1 c_29
    refine lv_aload_n hx hb dX8_felt_34 rfl (lv_at hl 0 rfl) ?_
    refine gf_X8_54 C0 hP 0 rfl rfl dX8_felt_35 ?_
    refine lv_aload_n hx hb dX8_felt_38 rfl (lv_at hl 0 rfl) ?_
    refine gf_X8_326 C0 hP 0 rfl rfl dX8_felt_39 ?_
    refine lv_iload_n hx hb dX8_felt_42 rfl (lv_at hl 1 rfl) ?_
    obtain ⟨g_43, hg⟩ := hg
    refine k_iast C0 hP hD hS 1 rfl g_43 (ws' := [(h, oX8 w_now (.int x_arches) (.int x_cats) w_text (.int x_typed) w_row (.int x_rowMany) (.int (0 : Int32)) w_read (.int x_length) (.int x_top) (.int x_at) (.int x_wrong) w_told w_rule w_otherRule (.int x_ruleSize) (.int x_isAsked) w_asked w_undos (.int x_undoMany) w_aside w_then w_hold (.int x_dropped) w_acts w_guarded w_train (.int x_trolleyEnd) (.ref q_feltOf) (.ref q_feltBy) (.int x_feltMany) w_many w_heardOf w_heardBy (.int x_heardMany) w_worth (.int x_drawn) (.int x_came) w_kept w_isKept w_keptCame), (q_feltOf, aI cT 10 (upd f_feltOf x_feltMany.toNatClampNeg p1)), (q_feltBy, aI cT 10 f_feltBy)]) rfl dX8_felt_43 (fun H locs hP hD hS => ?_)
    refine lv_aload_n hx hb dX8_felt_44 rfl (lv_at hl 0 rfl) ?_
    refine gf_X8_57 C0 hP 0 rfl rfl dX8_felt_45 ?_
    refine lv_aload_n hx hb dX8_felt_48 rfl (lv_at hl 0 rfl) ?_
    refine gf_X8_326 C0 hP 0 rfl rfl dX8_felt_49 ?_
    refine lv_iload_n hx hb dX8_felt_52 rfl (lv_at hl 2 rfl) ?_
    obtain ⟨g_53, hg⟩ := hg
    refine k_iast C0 hP hD hS 2 rfl g_53 (ws' := [(h, oX8 w_now (.int x_arches) (.int x_cats) w_text (.int x_typed) w_row (.int x_rowMany) (.int (0 : Int32)) w_read (.int x_length) (.int x_top) (.int x_at) (.int x_wrong) w_told w_rule w_otherRule (.int x_ruleSize) (.int x_isAsked) w_asked w_undos (.int x_undoMany) w_aside w_then w_hold (.int x_dropped) w_acts w_guarded w_train (.int x_trolleyEnd) (.ref q_feltOf) (.ref q_feltBy) (.int x_feltMany) w_many w_heardOf w_heardBy (.int x_heardMany) w_worth (.int x_drawn) (.int x_came) w_kept w_isKept w_keptCame), (q_feltOf, aI cT 10 (upd f_feltOf x_feltMany.toNatClampNeg p1)), (q_feltBy, aI cT 10 (upd f_feltBy x_feltMany.toNatClampNeg p2))]) rfl dX8_felt_53 (fun H locs hP hD hS => ?_)
    refine lv_aload_n hx hb dX8_felt_54 rfl (lv_at hl 0 rfl) ?_
    refine lv_dup hx hb dX8_felt_55 rfl ?_
    refine gf_X8_326 C0 hP 0 rfl rfl dX8_felt_56 ?_
    refine lv_iconst (v := (1 : Int32)) hx hb dX8_felt_59 (by decide) ?_
    refine lv_iadd hx hb dX8_felt_60 ?_
    refine pf_X8_326 C0 hP hD hS 0 rfl (Nat.le_of_ble_eq_true rfl) (ws2 := [(h, oX8 w_now (.int x_arches) (.int x_cats) w_text (.int x_typed) w_row (.int x_rowMany) (.int (0 : Int32)) w_read (.int x_length) (.int x_top) (.int x_at) (.int x_wrong) w_told w_rule w_otherRule (.int x_ruleSize) (.int x_isAsked) w_asked w_undos (.int x_undoMany) w_aside w_then w_hold (.int x_dropped) w_acts w_guarded w_train (.int x_trolleyEnd) (.ref q_feltOf) (.ref q_feltBy) (.int (x_feltMany + (1 : Int32))) w_many w_heardOf w_heardBy (.int x_heardMany) w_worth (.int x_drawn) (.int x_came) w_kept w_isKept w_keptCame), (q_feltOf, aI cT 10 (upd f_feltOf x_feltMany.toNatClampNeg p1)), (q_feltBy, aI cT 10 (upd f_feltBy x_feltMany.toNatClampNeg p2))]) rfl dX8_felt_61 (fun H locs hP hD hS => ?_)
    refine lv_aload_n hx hb dX8_felt_64 rfl (lv_at hl 0 rfl) ?_
    refine gf_X8_326 C0 hP 0 rfl rfl dX8_felt_65 ?_
    exact k_iret C0 hr ((0 : Int32), (x_feltMany + (1 : Int32)), (upd f_feltOf x_feltMany.toNatClampNeg p1), (upd f_feltBy x_feltMany.toNatClampNeg p2)) hg hP hD hS dX8_felt_68
  have hg := hg.2 c_29
  refine lv_iconst (v := (-1 : Int32)) hx hb dX8_felt_32 (by decide) ?_
  exact k_iret C0 hr ((0 : Int32), x_feltMany, f_feltOf, f_feltBy) hg hP hD hS dX8_felt_33
theorem dX8_forget_0 : decode cX8_forget 0 = .ok (.aload_n 0, 1) := by decide +kernel
theorem dX8_forget_1 : decode cX8_forget 1 = .ok (.iconst 0, 1) := by decide +kernel
theorem dX8_forget_2 : decode cX8_forget 2 = .ok (.putfield 82, 3) := by decide +kernel
theorem dX8_forget_5 : decode cX8_forget 5 = .ok (.aload_n 0, 1) := by decide +kernel
theorem dX8_forget_6 : decode cX8_forget 6 = .ok (.getfield 326, 3) := by decide +kernel
theorem dX8_forget_9 : decode cX8_forget 9 = .ok (.istore_n 1, 1) := by decide +kernel
theorem dX8_forget_10 : decode cX8_forget 10 = .ok (.aload_n 0, 1) := by decide +kernel
theorem dX8_forget_11 : decode cX8_forget 11 = .ok (.iconst 0, 1) := by decide +kernel
theorem dX8_forget_12 : decode cX8_forget 12 = .ok (.putfield 326, 3) := by decide +kernel
theorem dX8_forget_15 : decode cX8_forget 15 = .ok (.iload_n 1, 1) := by decide +kernel
theorem dX8_forget_16 : decode cX8_forget 16 = .ok (.ireturn, 1) := by decide +kernel
def p_X8_forget (F : Nat) (x_feltMany : Int32) (Post : Int32 → (Int32 × Int32) → Prop) : Prop := (Post x_feltMany ((0 : Int32), (0 : Int32)))
set_option maxHeartbeats 4000000 in
set_option maxRecDepth 100000 in
theorem c_X8_forget (l : Launch) (D : va_G) (cT : Nat → ClassId) (F : Nat) (h : Nat) (w_now : Value) (x_arches : Int32) (x_cats : Int32) (w_text : Value) (x_typed : Int32) (w_row : Value) (x_rowMany : Int32) (x_thrown : Int32) (w_read : Value) (x_length : Int32) (x_top : Int32) (x_at : Int32) (x_wrong : Int32) (w_told : Value) (w_rule : Value) (w_otherRule : Value) (x_ruleSize : Int32) (x_isAsked : Int32) (w_asked : Value) (w_undos : Value) (x_undoMany : Int32) (w_aside : Value) (w_then : Value) (w_hold : Value) (x_dropped : Int32) (w_acts : Value) (w_guarded : Value) (w_train : Value) (x_trolleyEnd : Int32) (w_feltOf : Value) (w_feltBy : Value) (x_feltMany : Int32) (w_many : Value) (w_heardOf : Value) (w_heardBy : Value) (x_heardMany : Int32) (w_worth : Value) (x_drawn : Int32) (x_came : Int32) (w_kept : Value) (w_isKept : Value) (w_keptCame : Value) (Post : Int32 → (Int32 × Int32) → Prop) (hg : p_X8_forget F x_feltMany Post) : MWi l D cT yX8_forget cX8_forget 2 (some .int) 0 0 0 0 [.ref h] [(h, oX8 w_now (.int x_arches) (.int x_cats) w_text (.int x_typed) w_row (.int x_rowMany) (.int x_thrown) w_read (.int x_length) (.int x_top) (.int x_at) (.int x_wrong) w_told w_rule w_otherRule (.int x_ruleSize) (.int x_isAsked) w_asked w_undos (.int x_undoMany) w_aside w_then w_hold (.int x_dropped) w_acts w_guarded w_train (.int x_trolleyEnd) w_feltOf w_feltBy (.int x_feltMany) w_many w_heardOf w_heardBy (.int x_heardMany) w_worth (.int x_drawn) (.int x_came) w_kept w_isKept w_keptCame)] Post (fun (u : (Int32 × Int32)) => [(h, oX8 w_now (.int x_arches) (.int x_cats) w_text (.int x_typed) w_row (.int x_rowMany) (.int u.1) w_read (.int x_length) (.int x_top) (.int x_at) (.int x_wrong) w_told w_rule w_otherRule (.int x_ruleSize) (.int x_isAsked) w_asked w_undos (.int x_undoMany) w_aside w_then w_hold (.int x_dropped) w_acts w_guarded w_train (.int x_trolleyEnd) w_feltOf w_feltBy (.int u.2) w_many w_heardOf w_heardBy (.int x_heardMany) w_worth (.int x_drawn) (.int x_came) w_kept w_isKept w_keptCame)]) := by
  refine MWi.of (by decide) (Nat.le_of_ble_eq_true rfl) ?_
  intro p e s m below meth c A hA C0 hnm hr hP hD ls hl
  have hl : lv_has ls 2 [(0, .ref h)] := hl
  have hx := C0.x
  have hb := C0.b
  have hS : va_S A s.heap s.heap [] := va_S.rf
  have hP : va_P D cls9 [(h, oX8 w_now (.int x_arches) (.int x_cats) w_text (.int x_typed) w_row (.int x_rowMany) (.int x_thrown) w_read (.int x_length) (.int x_top) (.int x_at) (.int x_wrong) w_told w_rule w_otherRule (.int x_ruleSize) (.int x_isAsked) w_asked w_undos (.int x_undoMany) w_aside w_then w_hold (.int x_dropped) w_acts w_guarded w_train (.int x_trolleyEnd) w_feltOf w_feltBy (.int x_feltMany) w_many w_heardOf w_heardBy (.int x_heardMany) w_worth (.int x_drawn) (.int x_came) w_kept w_isKept w_keptCame)] s.heap := hP
  have hD : va_D A [(h, oX8 w_now (.int x_arches) (.int x_cats) w_text (.int x_typed) w_row (.int x_rowMany) (.int x_thrown) w_read (.int x_length) (.int x_top) (.int x_at) (.int x_wrong) w_told w_rule w_otherRule (.int x_ruleSize) (.int x_isAsked) w_asked w_undos (.int x_undoMany) w_aside w_then w_hold (.int x_dropped) w_acts w_guarded w_train (.int x_trolleyEnd) w_feltOf w_feltBy (.int x_feltMany) w_many w_heardOf w_heardBy (.int x_heardMany) w_worth (.int x_drawn) (.int x_came) w_kept w_isKept w_keptCame)] := hD
  unfold p_X8_forget at hg
  refine lv_aload_n hx hb dX8_forget_0 rfl (lv_at hl 0 rfl) ?_
  refine lv_iconst (v := (0 : Int32)) hx hb dX8_forget_1 (by decide) ?_
  refine pf_X8_82 C0 hP hD hS 0 rfl (Nat.le_of_ble_eq_true rfl) (ws2 := [(h, oX8 w_now (.int x_arches) (.int x_cats) w_text (.int x_typed) w_row (.int x_rowMany) (.int (0 : Int32)) w_read (.int x_length) (.int x_top) (.int x_at) (.int x_wrong) w_told w_rule w_otherRule (.int x_ruleSize) (.int x_isAsked) w_asked w_undos (.int x_undoMany) w_aside w_then w_hold (.int x_dropped) w_acts w_guarded w_train (.int x_trolleyEnd) w_feltOf w_feltBy (.int x_feltMany) w_many w_heardOf w_heardBy (.int x_heardMany) w_worth (.int x_drawn) (.int x_came) w_kept w_isKept w_keptCame)]) rfl dX8_forget_2 (fun H locs hP hD hS => ?_)
  refine lv_aload_n hx hb dX8_forget_5 rfl (lv_at hl 0 rfl) ?_
  refine gf_X8_326 C0 hP 0 rfl rfl dX8_forget_6 ?_
  refine lv_istore_n (lv' := [(1, .int x_feltMany), (0, .ref h)]) hx hb dX8_forget_9 rfl hl (by decide) rfl (fun ls hl => ?_)
  refine lv_aload_n hx hb dX8_forget_10 rfl (lv_at hl 1 rfl) ?_
  refine lv_iconst (v := (0 : Int32)) hx hb dX8_forget_11 (by decide) ?_
  refine pf_X8_326 C0 hP hD hS 0 rfl (Nat.le_of_ble_eq_true rfl) (ws2 := [(h, oX8 w_now (.int x_arches) (.int x_cats) w_text (.int x_typed) w_row (.int x_rowMany) (.int (0 : Int32)) w_read (.int x_length) (.int x_top) (.int x_at) (.int x_wrong) w_told w_rule w_otherRule (.int x_ruleSize) (.int x_isAsked) w_asked w_undos (.int x_undoMany) w_aside w_then w_hold (.int x_dropped) w_acts w_guarded w_train (.int x_trolleyEnd) w_feltOf w_feltBy (.int (0 : Int32)) w_many w_heardOf w_heardBy (.int x_heardMany) w_worth (.int x_drawn) (.int x_came) w_kept w_isKept w_keptCame)]) rfl dX8_forget_12 (fun H locs hP hD hS => ?_)
  refine lv_iload_n hx hb dX8_forget_15 rfl (lv_at hl 0 rfl) ?_
  exact k_iret C0 hr ((0 : Int32), (0 : Int32)) hg hP hD hS dX8_forget_16
theorem dX8_holdWithout_0 : decode cX8_holdWithout 0 = .ok (.aload_n 0, 1) := by decide +kernel
theorem dX8_holdWithout_1 : decode cX8_holdWithout 1 = .ok (.aload_n 0, 1) := by decide +kernel
theorem dX8_holdWithout_2 : decode cX8_holdWithout 2 = .ok (.getfield 9, 3) := by decide +kernel
theorem dX8_holdWithout_5 : decode cX8_holdWithout 5 = .ok (.iload_n 1, 1) := by decide +kernel
theorem dX8_holdWithout_6 : decode cX8_holdWithout 6 = .ok (.invokevirtual 221, 3) := by decide +kernel
theorem dX8_holdWithout_9 : decode cX8_holdWithout 9 = .ok (.iload_n 2, 1) := by decide +kernel
theorem dX8_holdWithout_10 : decode cX8_holdWithout 10 = .ok (.iconst (-1), 1) := by decide +kernel
theorem dX8_holdWithout_11 : decode cX8_holdWithout 11 = .ok (.if_icmp .eq 28, 3) := by decide +kernel
theorem dX8_holdWithout_14 : decode cX8_holdWithout 14 = .ok (.aload_n 0, 1) := by decide +kernel
theorem dX8_holdWithout_15 : decode cX8_holdWithout 15 = .ok (.getfield 9, 3) := by decide +kernel
theorem dX8_holdWithout_18 : decode cX8_holdWithout 18 = .ok (.bipush 36, 2) := by decide +kernel
theorem dX8_holdWithout_20 : decode cX8_holdWithout 20 = .ok (.iload_n 2, 1) := by decide +kernel
theorem dX8_holdWithout_21 : decode cX8_holdWithout 21 = .ok (.iadd, 1) := by decide +kernel
theorem dX8_holdWithout_22 : decode cX8_holdWithout 22 = .ok (.iaload, 1) := by decide +kernel
theorem dX8_holdWithout_23 : decode cX8_holdWithout 23 = .ok (.iload_n 1, 1) := by decide +kernel
theorem dX8_holdWithout_24 : decode cX8_holdWithout 24 = .ok (.if_icmp .ne 15, 3) := by decide +kernel
theorem dX8_holdWithout_27 : decode cX8_holdWithout 27 = .ok (.aload_n 0, 1) := by decide +kernel
theorem dX8_holdWithout_28 : decode cX8_holdWithout 28 = .ok (.aload_n 0, 1) := by decide +kernel
theorem dX8_holdWithout_29 : decode cX8_holdWithout 29 = .ok (.getfield 9, 3) := by decide +kernel
theorem dX8_holdWithout_32 : decode cX8_holdWithout 32 = .ok (.iload_n 2, 1) := by decide +kernel
theorem dX8_holdWithout_33 : decode cX8_holdWithout 33 = .ok (.invokevirtual 211, 3) := by decide +kernel
theorem dX8_holdWithout_36 : decode cX8_holdWithout 36 = .ok (.goto 4, 3) := by decide +kernel
theorem dX8_holdWithout_39 : decode cX8_holdWithout 39 = .ok (.iconst 0, 1) := by decide +kernel
theorem dX8_holdWithout_40 : decode cX8_holdWithout 40 = .ok (.isub, 1) := by decide +kernel
theorem dX8_holdWithout_41 : decode cX8_holdWithout 41 = .ok (.ireturn, 1) := by decide +kernel
def p_X8_holdWithout (F : Nat) (p1 : Int32) (p2 : Int32) (x_cats : Int32) (w_read : Value) (x_length : Int32) (x_top : Int32) (x_at : Int32) (x_wrong : Int32) (q_rule : Nat) (x_ruleSize : Int32) (x_isAsked : Int32) (f_now : Nat → Int32) (f_asked : Nat → Int32) (f_rule : Nat → Int32) (Post : Int32 → (Value × Int32 × Int32 × Int32 × Int32 × Int32 × (Nat → Int32)) → Prop) : Prop := (p_X8_holdOf F p1 x_cats w_read x_length x_top x_at x_wrong q_rule x_ruleSize x_isAsked 47 f_now f_asked f_rule (fun (r_6 : Int32) (u_6 : (Value × Int32 × Int32 × Int32 × Int32 × Int32 × (Nat → Int32))) => ((p2 = (-1 : Int32) → (Post (r_6 - (0 : Int32)) (u_6.1, u_6.2.1, u_6.2.2.1, u_6.2.2.2.1, u_6.2.2.2.2.1, u_6.2.2.2.2.2.1, u_6.2.2.2.2.2.2))) ∧ (¬ p2 = (-1 : Int32) → (vp_in ((36 : Int32) + p2) 47 ∧ ((¬ (f_now ((36 : Int32) + p2).toNatClampNeg) = p1 → (Post (r_6 - (0 : Int32)) (u_6.1, u_6.2.1, u_6.2.2.1, u_6.2.2.2.1, u_6.2.2.2.2.1, u_6.2.2.2.2.2.1, u_6.2.2.2.2.2.2))) ∧ ((f_now ((36 : Int32) + p2).toNatClampNeg) = p1 → (p_X8_purrOf F p2 x_cats u_6.1 u_6.2.1 u_6.2.2.1 u_6.2.2.2.1 u_6.2.2.2.2.1 q_rule x_ruleSize u_6.2.2.2.2.2.1 47 f_now u_6.2.2.2.2.2.2 f_rule (fun (r_33 : Int32) (u_33 : (Value × Int32 × Int32 × Int32 × Int32 × Int32 × (Nat → Int32))) => (Post (r_6 - r_33) (u_33.1, u_33.2.1, u_33.2.2.1, u_33.2.2.2.1, u_33.2.2.2.2.1, u_33.2.2.2.2.2.1, u_33.2.2.2.2.2.2)))))))))))
set_option maxHeartbeats 4000000 in
set_option maxRecDepth 100000 in
theorem c_X8_holdWithout (l : Launch) (D : va_G) (cT : Nat → ClassId) (F : Nat) (h : Nat) (p1 : Int32) (p2 : Int32) (q_now : Nat) (x_arches : Int32) (x_cats : Int32) (w_text : Value) (x_typed : Int32) (w_row : Value) (x_rowMany : Int32) (x_thrown : Int32) (w_read : Value) (x_length : Int32) (x_top : Int32) (x_at : Int32) (x_wrong : Int32) (w_told : Value) (q_rule : Nat) (w_otherRule : Value) (x_ruleSize : Int32) (x_isAsked : Int32) (q_asked : Nat) (w_undos : Value) (x_undoMany : Int32) (w_aside : Value) (w_then : Value) (w_hold : Value) (x_dropped : Int32) (w_acts : Value) (w_guarded : Value) (w_train : Value) (x_trolleyEnd : Int32) (w_feltOf : Value) (w_feltBy : Value) (x_feltMany : Int32) (w_many : Value) (w_heardOf : Value) (w_heardBy : Value) (x_heardMany : Int32) (w_worth : Value) (x_drawn : Int32) (x_came : Int32) (w_kept : Value) (w_isKept : Value) (w_keptCame : Value) (f_now : Nat → Int32) (f_asked : Nat → Int32) (f_rule : Nat → Int32) (Post : Int32 → (Value × Int32 × Int32 × Int32 × Int32 × Int32 × (Nat → Int32)) → Prop) (hg : p_X8_holdWithout F p1 p2 x_cats w_read x_length x_top x_at x_wrong q_rule x_ruleSize x_isAsked f_now f_asked f_rule Post) : MWi l D cT yX8_holdWithout cX8_holdWithout 3 (some .int) 325 10174 0 0 [.ref h, .int p1, .int p2] [(h, oX8 (.ref q_now) (.int x_arches) (.int x_cats) w_text (.int x_typed) w_row (.int x_rowMany) (.int x_thrown) w_read (.int x_length) (.int x_top) (.int x_at) (.int x_wrong) w_told (.ref q_rule) w_otherRule (.int x_ruleSize) (.int x_isAsked) (.ref q_asked) w_undos (.int x_undoMany) w_aside w_then w_hold (.int x_dropped) w_acts w_guarded w_train (.int x_trolleyEnd) w_feltOf w_feltBy (.int x_feltMany) w_many w_heardOf w_heardBy (.int x_heardMany) w_worth (.int x_drawn) (.int x_came) w_kept w_isKept w_keptCame), (q_now, aI cT 47 f_now), (q_asked, aI cT 7 f_asked), (q_rule, aB cT 40 f_rule)] Post (fun (u : (Value × Int32 × Int32 × Int32 × Int32 × Int32 × (Nat → Int32))) => [(h, oX8 (.ref q_now) (.int x_arches) (.int x_cats) w_text (.int x_typed) w_row (.int x_rowMany) (.int x_thrown) u.1 (.int u.2.1) (.int u.2.2.1) (.int u.2.2.2.1) (.int u.2.2.2.2.1) w_told (.ref q_rule) w_otherRule (.int x_ruleSize) (.int u.2.2.2.2.2.1) (.ref q_asked) w_undos (.int x_undoMany) w_aside w_then w_hold (.int x_dropped) w_acts w_guarded w_train (.int x_trolleyEnd) w_feltOf w_feltBy (.int x_feltMany) w_many w_heardOf w_heardBy (.int x_heardMany) w_worth (.int x_drawn) (.int x_came) w_kept w_isKept w_keptCame), (q_now, aI cT 47 f_now), (q_asked, aI cT 7 u.2.2.2.2.2.2), (q_rule, aB cT 40 f_rule)]) := by
  refine MWi.of (by decide) (Nat.le_of_ble_eq_true rfl) ?_
  intro p e s m below meth c A hA C0 hnm hr hP hD ls hl
  have hl : lv_has ls 3 [(0, .ref h), (1, .int p1), (2, .int p2)] := hl
  have hx := C0.x
  have hb := C0.b
  have hS : va_S A s.heap s.heap [] := va_S.rf
  have hP : va_P D cls9 [(h, oX8 (.ref q_now) (.int x_arches) (.int x_cats) w_text (.int x_typed) w_row (.int x_rowMany) (.int x_thrown) w_read (.int x_length) (.int x_top) (.int x_at) (.int x_wrong) w_told (.ref q_rule) w_otherRule (.int x_ruleSize) (.int x_isAsked) (.ref q_asked) w_undos (.int x_undoMany) w_aside w_then w_hold (.int x_dropped) w_acts w_guarded w_train (.int x_trolleyEnd) w_feltOf w_feltBy (.int x_feltMany) w_many w_heardOf w_heardBy (.int x_heardMany) w_worth (.int x_drawn) (.int x_came) w_kept w_isKept w_keptCame), (q_now, aI cT 47 f_now), (q_asked, aI cT 7 f_asked), (q_rule, aB cT 40 f_rule)] s.heap := hP
  have hD : va_D A [(h, oX8 (.ref q_now) (.int x_arches) (.int x_cats) w_text (.int x_typed) w_row (.int x_rowMany) (.int x_thrown) w_read (.int x_length) (.int x_top) (.int x_at) (.int x_wrong) w_told (.ref q_rule) w_otherRule (.int x_ruleSize) (.int x_isAsked) (.ref q_asked) w_undos (.int x_undoMany) w_aside w_then w_hold (.int x_dropped) w_acts w_guarded w_train (.int x_trolleyEnd) w_feltOf w_feltBy (.int x_feltMany) w_many w_heardOf w_heardBy (.int x_heardMany) w_worth (.int x_drawn) (.int x_came) w_kept w_isKept w_keptCame), (q_now, aI cT 47 f_now), (q_asked, aI cT 7 f_asked), (q_rule, aB cT 40 f_rule)] := hD
  unfold p_X8_holdWithout at hg
  refine lv_aload_n hx hb dX8_holdWithout_0 rfl (lv_at hl 0 rfl) ?_
  refine lv_aload_n hx hb dX8_holdWithout_1 rfl (lv_at hl 0 rfl) ?_
  refine gf_X8_9 C0 hP 0 rfl rfl dX8_holdWithout_2 ?_
  refine lv_iload_n hx hb dX8_holdWithout_5 rfl (lv_at hl 1 rfl) ?_
  refine k_Vi (rest := []) (wr := []) (w2 := fun u_6 => [(h, oX8 (.ref q_now) (.int x_arches) (.int x_cats) w_text (.int x_typed) w_row (.int x_rowMany) (.int x_thrown) u_6.1 (.int u_6.2.1) (.int u_6.2.2.1) (.int u_6.2.2.2.1) (.int u_6.2.2.2.2.1) w_told (.ref q_rule) w_otherRule (.int x_ruleSize) (.int u_6.2.2.2.2.2.1) (.ref q_asked) w_undos (.int x_undoMany) w_aside w_then w_hold (.int x_dropped) w_acts w_guarded w_train (.int x_trolleyEnd) w_feltOf w_feltBy (.int x_feltMany) w_many w_heardOf w_heardBy (.int x_heardMany) w_worth (.int x_drawn) (.int x_came) w_kept w_isKept w_keptCame), (q_now, aI cT 47 f_now), (q_asked, aI cT 7 u_6.2.2.2.2.2.2), (q_rule, aB cT 40 f_rule)]) C0 lk_X8_221 (c_X8_holdOf l D cT F h q_now p1 (.ref q_now) x_arches x_cats w_text x_typed w_row x_rowMany x_thrown w_read x_length x_top x_at x_wrong w_told q_rule w_otherRule x_ruleSize x_isAsked q_asked w_undos x_undoMany w_aside w_then w_hold x_dropped w_acts w_guarded w_train x_trolleyEnd w_feltOf w_feltBy x_feltMany w_many w_heardOf w_heardBy x_heardMany w_worth x_drawn x_came w_kept w_isKept w_keptCame 47 f_now f_asked f_rule _ hg) hP hD hS hA [0, 1, 2, 3] [] (by decide +kernel) rfl rfl (fun _ => rfl) rfl rfl ⟨Nat.le_of_ble_eq_true rfl, Nat.le_of_ble_eq_true rfl⟩ rfl hl.1 rfl (Nat.le_of_ble_eq_true rfl) dX8_holdWithout_6 ⟨Nat.le_of_ble_eq_true rfl, Nat.le_of_ble_eq_true rfl⟩ ?_
  intro r_6 u_6 H locs hg hP hD hS
  refine lv_iload_n hx hb dX8_holdWithout_9 rfl (lv_at hl 2 rfl) ?_
  refine lv_iconst (v := (-1 : Int32)) hx hb dX8_holdWithout_10 (by decide) ?_
  refine lv_icmp_eq (tgt := 39) hx hb dX8_holdWithout_11 (by decide) (fun c_11 => ?_) (fun c_11 => ?_)
  · have hg := hg.1 c_11
    refine lv_iconst (v := (0 : Int32)) hx hb dX8_holdWithout_39 (by decide) ?_
    refine lv_isub hx hb dX8_holdWithout_40 ?_
    exact k_iret C0 hr (u_6.1, u_6.2.1, u_6.2.2.1, u_6.2.2.2.1, u_6.2.2.2.2.1, u_6.2.2.2.2.2.1, u_6.2.2.2.2.2.2) hg hP hD hS dX8_holdWithout_41
  have hg := hg.2 c_11
  refine lv_aload_n hx hb dX8_holdWithout_14 rfl (lv_at hl 0 rfl) ?_
  refine gf_X8_9 C0 hP 0 rfl rfl dX8_holdWithout_15 ?_
  refine lv_bipush (v := (36 : Int32)) hx hb dX8_holdWithout_18 (by decide) ?_
  refine lv_iload_n hx hb dX8_holdWithout_20 rfl (lv_at hl 2 rfl) ?_
  refine lv_iadd hx hb dX8_holdWithout_21 ?_
  obtain ⟨g_22, hg⟩ := hg
  refine k_iald C0 hP 1 rfl g_22 dX8_holdWithout_22 ?_
  refine lv_iload_n hx hb dX8_holdWithout_23 rfl (lv_at hl 1 rfl) ?_
  refine lv_icmp_ne (tgt := 39) hx hb dX8_holdWithout_24 (by decide) (fun c_24 => ?_) (fun c_24 => ?_)
  · have hg := hg.1 c_24
    refine lv_iconst (v := (0 : Int32)) hx hb dX8_holdWithout_39 (by decide) ?_
    refine lv_isub hx hb dX8_holdWithout_40 ?_
    exact k_iret C0 hr (u_6.1, u_6.2.1, u_6.2.2.1, u_6.2.2.2.1, u_6.2.2.2.2.1, u_6.2.2.2.2.2.1, u_6.2.2.2.2.2.2) hg hP hD hS dX8_holdWithout_41
  have hg := hg.2 c_24
  refine lv_aload_n hx hb dX8_holdWithout_27 rfl (lv_at hl 0 rfl) ?_
  refine lv_aload_n hx hb dX8_holdWithout_28 rfl (lv_at hl 0 rfl) ?_
  refine gf_X8_9 C0 hP 0 rfl rfl dX8_holdWithout_29 ?_
  refine lv_iload_n hx hb dX8_holdWithout_32 rfl (lv_at hl 2 rfl) ?_
  refine k_Vi (rest := [.int r_6]) (wr := []) (w2 := fun u_33 => [(h, oX8 (.ref q_now) (.int x_arches) (.int x_cats) w_text (.int x_typed) w_row (.int x_rowMany) (.int x_thrown) u_33.1 (.int u_33.2.1) (.int u_33.2.2.1) (.int u_33.2.2.2.1) (.int u_33.2.2.2.2.1) w_told (.ref q_rule) w_otherRule (.int x_ruleSize) (.int u_33.2.2.2.2.2.1) (.ref q_asked) w_undos (.int x_undoMany) w_aside w_then w_hold (.int x_dropped) w_acts w_guarded w_train (.int x_trolleyEnd) w_feltOf w_feltBy (.int x_feltMany) w_many w_heardOf w_heardBy (.int x_heardMany) w_worth (.int x_drawn) (.int x_came) w_kept w_isKept w_keptCame), (q_now, aI cT 47 f_now), (q_asked, aI cT 7 u_33.2.2.2.2.2.2), (q_rule, aB cT 40 f_rule)]) C0 lk_X8_211 (c_X8_purrOf l D cT F h q_now p2 (.ref q_now) x_arches x_cats w_text x_typed w_row x_rowMany x_thrown u_6.1 u_6.2.1 u_6.2.2.1 u_6.2.2.2.1 u_6.2.2.2.2.1 w_told q_rule w_otherRule x_ruleSize u_6.2.2.2.2.2.1 q_asked w_undos x_undoMany w_aside w_then w_hold x_dropped w_acts w_guarded w_train x_trolleyEnd w_feltOf w_feltBy x_feltMany w_many w_heardOf w_heardBy x_heardMany w_worth x_drawn x_came w_kept w_isKept w_keptCame 47 f_now u_6.2.2.2.2.2.2 f_rule _ hg) hP hD hS hA [0, 1, 2, 3] [] (by decide +kernel) rfl rfl (fun _ => rfl) rfl rfl ⟨Nat.le_of_ble_eq_true rfl, Nat.le_of_ble_eq_true rfl⟩ rfl hl.1 rfl (Nat.le_of_ble_eq_true rfl) dX8_holdWithout_33 ⟨Nat.le_of_ble_eq_true rfl, Nat.le_of_ble_eq_true rfl⟩ ?_
  intro r_33 u_33 H locs hg hP hD hS
  refine lv_goto (tgt := 40) hx hb dX8_holdWithout_36 (by decide) ?_
  refine lv_isub hx hb dX8_holdWithout_40 ?_
  exact k_iret C0 hr (u_33.1, u_33.2.1, u_33.2.2.1, u_33.2.2.2.1, u_33.2.2.2.2.1, u_33.2.2.2.2.2.1, u_33.2.2.2.2.2.2) hg hP hD hS dX8_holdWithout_41
theorem dX8_isFelt_0 : decode cX8_isFelt 0 = .ok (.iconst 0, 1) := by decide +kernel
theorem dX8_isFelt_1 : decode cX8_isFelt 1 = .ok (.istore_n 2, 1) := by decide +kernel
theorem dX8_isFelt_2 : decode cX8_isFelt 2 = .ok (.iload_n 2, 1) := by decide +kernel
theorem dX8_isFelt_3 : decode cX8_isFelt 3 = .ok (.aload_n 0, 1) := by decide +kernel
theorem dX8_isFelt_4 : decode cX8_isFelt 4 = .ok (.getfield 326, 3) := by decide +kernel
theorem dX8_isFelt_7 : decode cX8_isFelt 7 = .ok (.if_icmp .ge 31, 3) := by decide +kernel
theorem dX8_isFelt_10 : decode cX8_isFelt 10 = .ok (.aload_n 0, 1) := by decide +kernel
theorem dX8_isFelt_11 : decode cX8_isFelt 11 = .ok (.aload_n 0, 1) := by decide +kernel
theorem dX8_isFelt_12 : decode cX8_isFelt 12 = .ok (.getfield 54, 3) := by decide +kernel
theorem dX8_isFelt_15 : decode cX8_isFelt 15 = .ok (.iload_n 2, 1) := by decide +kernel
theorem dX8_isFelt_16 : decode cX8_isFelt 16 = .ok (.iaload, 1) := by decide +kernel
theorem dX8_isFelt_17 : decode cX8_isFelt 17 = .ok (.iload_n 1, 1) := by decide +kernel
theorem dX8_isFelt_18 : decode cX8_isFelt 18 = .ok (.invokevirtual 329, 3) := by decide +kernel
theorem dX8_isFelt_21 : decode cX8_isFelt 21 = .ok (.aload_n 0, 1) := by decide +kernel
theorem dX8_isFelt_22 : decode cX8_isFelt 22 = .ok (.getfield 57, 3) := by decide +kernel
theorem dX8_isFelt_25 : decode cX8_isFelt 25 = .ok (.iload_n 2, 1) := by decide +kernel
theorem dX8_isFelt_26 : decode cX8_isFelt 26 = .ok (.iaload, 1) := by decide +kernel
theorem dX8_isFelt_27 : decode cX8_isFelt 27 = .ok (.if_icmp .eq 5, 3) := by decide +kernel
theorem dX8_isFelt_30 : decode cX8_isFelt 30 = .ok (.iconst 0, 1) := by decide +kernel
theorem dX8_isFelt_31 : decode cX8_isFelt 31 = .ok (.ireturn, 1) := by decide +kernel
theorem dX8_isFelt_32 : decode cX8_isFelt 32 = .ok (.iinc 2 1, 3) := by decide +kernel
theorem dX8_isFelt_35 : decode cX8_isFelt 35 = .ok (.goto (-33), 3) := by decide +kernel
theorem dX8_isFelt_38 : decode cX8_isFelt 38 = .ok (.iconst 1, 1) := by decide +kernel
theorem dX8_isFelt_39 : decode cX8_isFelt 39 = .ok (.ireturn, 1) := by decide +kernel
noncomputable def p_X8_isFelt_2 (F : Nat) (p1 : Int32) (x_cats : Int32) (q_rule : Nat) (x_ruleSize : Int32) (x_feltMany : Int32) (f_feltOf : Nat → Int32) (f_now : Nat → Int32) (f_rule : Nat → Int32) (f_feltBy : Nat → Int32) (Post : Int32 → (Value × Int32 × Int32 × Int32 × Int32 × Int32 × (Nat → Int32)) → Prop) (n : Nat) : Int32 → Value → Int32 → Int32 → Int32 → Int32 → Int32 → (Nat → Int32) → Prop := Nat.rec (motive := fun _ => Int32 → Value → Int32 → Int32 → Int32 → Int32 → Int32 → (Nat → Int32) → Prop) (fun _ _ _ _ _ _ _ _ => False) (fun _ k2 => fun (y2_2 : Int32) (x_read_2 : Value) (x_length_2 : Int32) (x_top_2 : Int32) (x_at_2 : Int32) (x_wrong_2 : Int32) (x_isAsked_2 : Int32) (f_asked_2 : Nat → Int32) => ((x_feltMany ≤ y2_2 → (Post (1 : Int32) (x_read_2, x_length_2, x_top_2, x_at_2, x_wrong_2, x_isAsked_2, f_asked_2))) ∧ (¬ x_feltMany ≤ y2_2 → (vp_in y2_2 10 ∧ (p_X8_holdWithout F (f_feltOf y2_2.toNatClampNeg) p1 x_cats x_read_2 x_length_2 x_top_2 x_at_2 x_wrong_2 q_rule x_ruleSize x_isAsked_2 f_now f_asked_2 f_rule (fun (r_18 : Int32) (u_18 : (Value × Int32 × Int32 × Int32 × Int32 × Int32 × (Nat → Int32))) => (vp_in y2_2 10 ∧ ((r_18 = (f_feltBy y2_2.toNatClampNeg) → (k2 (y2_2 + (1 : Int32)) u_18.1 u_18.2.1 u_18.2.2.1 u_18.2.2.2.1 u_18.2.2.2.2.1 u_18.2.2.2.2.2.1 u_18.2.2.2.2.2.2)) ∧ (¬ r_18 = (f_feltBy y2_2.toNatClampNeg) → (Post (0 : Int32) (u_18.1, u_18.2.1, u_18.2.2.1, u_18.2.2.2.1, u_18.2.2.2.2.1, u_18.2.2.2.2.2.1, u_18.2.2.2.2.2.2))))))))))) n
theorem p_X8_isFelt_2_s (F : Nat) (p1 : Int32) (x_cats : Int32) (q_rule : Nat) (x_ruleSize : Int32) (x_feltMany : Int32) (f_feltOf : Nat → Int32) (f_now : Nat → Int32) (f_rule : Nat → Int32) (f_feltBy : Nat → Int32) (Post : Int32 → (Value × Int32 × Int32 × Int32 × Int32 × Int32 × (Nat → Int32)) → Prop) (n : Nat) (y2_2 : Int32) (x_read_2 : Value) (x_length_2 : Int32) (x_top_2 : Int32) (x_at_2 : Int32) (x_wrong_2 : Int32) (x_isAsked_2 : Int32) (f_asked_2 : Nat → Int32) : p_X8_isFelt_2 F p1 x_cats q_rule x_ruleSize x_feltMany f_feltOf f_now f_rule f_feltBy Post (n + 1) y2_2 x_read_2 x_length_2 x_top_2 x_at_2 x_wrong_2 x_isAsked_2 f_asked_2 = ((x_feltMany ≤ y2_2 → (Post (1 : Int32) (x_read_2, x_length_2, x_top_2, x_at_2, x_wrong_2, x_isAsked_2, f_asked_2))) ∧ (¬ x_feltMany ≤ y2_2 → (vp_in y2_2 10 ∧ (p_X8_holdWithout F (f_feltOf y2_2.toNatClampNeg) p1 x_cats x_read_2 x_length_2 x_top_2 x_at_2 x_wrong_2 q_rule x_ruleSize x_isAsked_2 f_now f_asked_2 f_rule (fun (r_18 : Int32) (u_18 : (Value × Int32 × Int32 × Int32 × Int32 × Int32 × (Nat → Int32))) => (vp_in y2_2 10 ∧ ((r_18 = (f_feltBy y2_2.toNatClampNeg) → ((p_X8_isFelt_2 F p1 x_cats q_rule x_ruleSize x_feltMany f_feltOf f_now f_rule f_feltBy Post n) (y2_2 + (1 : Int32)) u_18.1 u_18.2.1 u_18.2.2.1 u_18.2.2.2.1 u_18.2.2.2.2.1 u_18.2.2.2.2.2.1 u_18.2.2.2.2.2.2)) ∧ (¬ r_18 = (f_feltBy y2_2.toNatClampNeg) → (Post (0 : Int32) (u_18.1, u_18.2.1, u_18.2.2.1, u_18.2.2.2.1, u_18.2.2.2.2.1, u_18.2.2.2.2.2.1, u_18.2.2.2.2.2.2)))))))))) := rfl
def p_X8_isFelt (F : Nat) (p1 : Int32) (x_cats : Int32) (w_read : Value) (x_length : Int32) (x_top : Int32) (x_at : Int32) (x_wrong : Int32) (q_rule : Nat) (x_ruleSize : Int32) (x_isAsked : Int32) (x_feltMany : Int32) (f_feltOf : Nat → Int32) (f_now : Nat → Int32) (f_asked : Nat → Int32) (f_rule : Nat → Int32) (f_feltBy : Nat → Int32) (Post : Int32 → (Value × Int32 × Int32 × Int32 × Int32 × Int32 × (Nat → Int32)) → Prop) : Prop := (p_X8_isFelt_2 F p1 x_cats q_rule x_ruleSize x_feltMany f_feltOf f_now f_rule f_feltBy Post F (0 : Int32) w_read x_length x_top x_at x_wrong x_isAsked f_asked)
set_option maxHeartbeats 4000000 in
set_option maxRecDepth 100000 in
theorem c_X8_isFelt (l : Launch) (D : va_G) (cT : Nat → ClassId) (F : Nat) (h : Nat) (p1 : Int32) (q_now : Nat) (x_arches : Int32) (x_cats : Int32) (w_text : Value) (x_typed : Int32) (w_row : Value) (x_rowMany : Int32) (x_thrown : Int32) (w_read : Value) (x_length : Int32) (x_top : Int32) (x_at : Int32) (x_wrong : Int32) (w_told : Value) (q_rule : Nat) (w_otherRule : Value) (x_ruleSize : Int32) (x_isAsked : Int32) (q_asked : Nat) (w_undos : Value) (x_undoMany : Int32) (w_aside : Value) (w_then : Value) (w_hold : Value) (x_dropped : Int32) (w_acts : Value) (w_guarded : Value) (w_train : Value) (x_trolleyEnd : Int32) (q_feltOf : Nat) (q_feltBy : Nat) (x_feltMany : Int32) (w_many : Value) (w_heardOf : Value) (w_heardBy : Value) (x_heardMany : Int32) (w_worth : Value) (x_drawn : Int32) (x_came : Int32) (w_kept : Value) (w_isKept : Value) (w_keptCame : Value) (f_feltOf : Nat → Int32) (f_now : Nat → Int32) (f_asked : Nat → Int32) (f_rule : Nat → Int32) (f_feltBy : Nat → Int32) (Post : Int32 → (Value × Int32 × Int32 × Int32 × Int32 × Int32 × (Nat → Int32)) → Prop) (hg : p_X8_isFelt F p1 x_cats w_read x_length x_top x_at x_wrong q_rule x_ruleSize x_isAsked x_feltMany f_feltOf f_now f_asked f_rule f_feltBy Post) : MWi l D cT yX8_isFelt cX8_isFelt 3 (some .boolean) 326 10196 0 0 [.ref h, .int p1] [(h, oX8 (.ref q_now) (.int x_arches) (.int x_cats) w_text (.int x_typed) w_row (.int x_rowMany) (.int x_thrown) w_read (.int x_length) (.int x_top) (.int x_at) (.int x_wrong) w_told (.ref q_rule) w_otherRule (.int x_ruleSize) (.int x_isAsked) (.ref q_asked) w_undos (.int x_undoMany) w_aside w_then w_hold (.int x_dropped) w_acts w_guarded w_train (.int x_trolleyEnd) (.ref q_feltOf) (.ref q_feltBy) (.int x_feltMany) w_many w_heardOf w_heardBy (.int x_heardMany) w_worth (.int x_drawn) (.int x_came) w_kept w_isKept w_keptCame), (q_feltOf, aI cT 10 f_feltOf), (q_now, aI cT 47 f_now), (q_asked, aI cT 7 f_asked), (q_rule, aB cT 40 f_rule), (q_feltBy, aI cT 10 f_feltBy)] Post (fun (u : (Value × Int32 × Int32 × Int32 × Int32 × Int32 × (Nat → Int32))) => [(h, oX8 (.ref q_now) (.int x_arches) (.int x_cats) w_text (.int x_typed) w_row (.int x_rowMany) (.int x_thrown) u.1 (.int u.2.1) (.int u.2.2.1) (.int u.2.2.2.1) (.int u.2.2.2.2.1) w_told (.ref q_rule) w_otherRule (.int x_ruleSize) (.int u.2.2.2.2.2.1) (.ref q_asked) w_undos (.int x_undoMany) w_aside w_then w_hold (.int x_dropped) w_acts w_guarded w_train (.int x_trolleyEnd) (.ref q_feltOf) (.ref q_feltBy) (.int x_feltMany) w_many w_heardOf w_heardBy (.int x_heardMany) w_worth (.int x_drawn) (.int x_came) w_kept w_isKept w_keptCame), (q_feltOf, aI cT 10 f_feltOf), (q_now, aI cT 47 f_now), (q_asked, aI cT 7 u.2.2.2.2.2.2), (q_rule, aB cT 40 f_rule), (q_feltBy, aI cT 10 f_feltBy)]) := by
  refine MWi.of (by decide) (Nat.le_of_ble_eq_true rfl) ?_
  intro p e s m below meth c A hA C0 hnm hr hP hD ls hl
  have hl : lv_has ls 3 [(0, .ref h), (1, .int p1)] := hl
  have hx := C0.x
  have hb := C0.b
  have hS : va_S A s.heap s.heap [] := va_S.rf
  have hP : va_P D cls9 [(h, oX8 (.ref q_now) (.int x_arches) (.int x_cats) w_text (.int x_typed) w_row (.int x_rowMany) (.int x_thrown) w_read (.int x_length) (.int x_top) (.int x_at) (.int x_wrong) w_told (.ref q_rule) w_otherRule (.int x_ruleSize) (.int x_isAsked) (.ref q_asked) w_undos (.int x_undoMany) w_aside w_then w_hold (.int x_dropped) w_acts w_guarded w_train (.int x_trolleyEnd) (.ref q_feltOf) (.ref q_feltBy) (.int x_feltMany) w_many w_heardOf w_heardBy (.int x_heardMany) w_worth (.int x_drawn) (.int x_came) w_kept w_isKept w_keptCame), (q_feltOf, aI cT 10 f_feltOf), (q_now, aI cT 47 f_now), (q_asked, aI cT 7 f_asked), (q_rule, aB cT 40 f_rule), (q_feltBy, aI cT 10 f_feltBy)] s.heap := hP
  have hD : va_D A [(h, oX8 (.ref q_now) (.int x_arches) (.int x_cats) w_text (.int x_typed) w_row (.int x_rowMany) (.int x_thrown) w_read (.int x_length) (.int x_top) (.int x_at) (.int x_wrong) w_told (.ref q_rule) w_otherRule (.int x_ruleSize) (.int x_isAsked) (.ref q_asked) w_undos (.int x_undoMany) w_aside w_then w_hold (.int x_dropped) w_acts w_guarded w_train (.int x_trolleyEnd) (.ref q_feltOf) (.ref q_feltBy) (.int x_feltMany) w_many w_heardOf w_heardBy (.int x_heardMany) w_worth (.int x_drawn) (.int x_came) w_kept w_isKept w_keptCame), (q_feltOf, aI cT 10 f_feltOf), (q_now, aI cT 47 f_now), (q_asked, aI cT 7 f_asked), (q_rule, aB cT 40 f_rule), (q_feltBy, aI cT 10 f_feltBy)] := hD
  have L2 : ∀ (n2 : Nat) (y2_2 : Int32) (x_read_2 : Value) (x_length_2 : Int32) (x_top_2 : Int32) (x_at_2 : Int32) (x_wrong_2 : Int32) (x_isAsked_2 : Int32) (f_asked_2 : Nat → Int32) (H : Heap) (locs : List Loc) (ls : Array Slot), p_X8_isFelt_2 F p1 x_cats q_rule x_ruleSize x_feltMany f_feltOf f_now f_rule f_feltBy Post n2 y2_2 x_read_2 x_length_2 x_top_2 x_at_2 x_wrong_2 x_isAsked_2 f_asked_2 → va_P D cls9 [(h, oX8 (.ref q_now) (.int x_arches) (.int x_cats) w_text (.int x_typed) w_row (.int x_rowMany) (.int x_thrown) x_read_2 (.int x_length_2) (.int x_top_2) (.int x_at_2) (.int x_wrong_2) w_told (.ref q_rule) w_otherRule (.int x_ruleSize) (.int x_isAsked_2) (.ref q_asked) w_undos (.int x_undoMany) w_aside w_then w_hold (.int x_dropped) w_acts w_guarded w_train (.int x_trolleyEnd) (.ref q_feltOf) (.ref q_feltBy) (.int x_feltMany) w_many w_heardOf w_heardBy (.int x_heardMany) w_worth (.int x_drawn) (.int x_came) w_kept w_isKept w_keptCame), (q_feltOf, aI cT 10 f_feltOf), (q_now, aI cT 47 f_now), (q_asked, aI cT 7 f_asked_2), (q_rule, aB cT 40 f_rule), (q_feltBy, aI cT 10 f_feltBy)] H → va_D A [(h, oX8 (.ref q_now) (.int x_arches) (.int x_cats) w_text (.int x_typed) w_row (.int x_rowMany) (.int x_thrown) x_read_2 (.int x_length_2) (.int x_top_2) (.int x_at_2) (.int x_wrong_2) w_told (.ref q_rule) w_otherRule (.int x_ruleSize) (.int x_isAsked_2) (.ref q_asked) w_undos (.int x_undoMany) w_aside w_then w_hold (.int x_dropped) w_acts w_guarded w_train (.int x_trolleyEnd) (.ref q_feltOf) (.ref q_feltBy) (.int x_feltMany) w_many w_heardOf w_heardBy (.int x_heardMany) w_worth (.int x_drawn) (.int x_came) w_kept w_isKept w_keptCame), (q_feltOf, aI cT 10 f_feltOf), (q_now, aI cT 47 f_now), (q_asked, aI cT 7 f_asked_2), (q_rule, aB cT 40 f_rule), (q_feltBy, aI cT 10 f_feltBy)] → va_S A s.heap H locs → lv_has ls 3 [(0, .ref h), (1, .int p1), (2, .int y2_2)] → W p l e (rmO 326 10196 0 0) s m ([.ref h, .int p1] : List Value).toArray below meth c H locs 0 0 (MQ below (va_Qi Post (cB D A (fun (u : (Value × Int32 × Int32 × Int32 × Int32 × Int32 × (Nat → Int32))) => [(h, oX8 (.ref q_now) (.int x_arches) (.int x_cats) w_text (.int x_typed) w_row (.int x_rowMany) (.int x_thrown) u.1 (.int u.2.1) (.int u.2.2.1) (.int u.2.2.2.1) (.int u.2.2.2.2.1) w_told (.ref q_rule) w_otherRule (.int x_ruleSize) (.int u.2.2.2.2.2.1) (.ref q_asked) w_undos (.int x_undoMany) w_aside w_then w_hold (.int x_dropped) w_acts w_guarded w_train (.int x_trolleyEnd) (.ref q_feltOf) (.ref q_feltBy) (.int x_feltMany) w_many w_heardOf w_heardBy (.int x_heardMany) w_worth (.int x_drawn) (.int x_came) w_kept w_isKept w_keptCame), (q_feltOf, aI cT 10 f_feltOf), (q_now, aI cT 47 f_now), (q_asked, aI cT 7 u.2.2.2.2.2.2), (q_rule, aB cT 40 f_rule), (q_feltBy, aI cT 10 f_feltBy)])) A) ([.ref h, .int p1] : List Value).toArray s 0 0 A) (F0 m 2 ls []) := by
    intro n2
    induction n2 with
    | zero =>
      intro y2_2 x_read_2 x_length_2 x_top_2 x_at_2 x_wrong_2 x_isAsked_2 f_asked_2 H locs ls hg hP hD hS hl
      exact False.elim hg
    | succ n2 ih2 =>
      intro y2_2 x_read_2 x_length_2 x_top_2 x_at_2 x_wrong_2 x_isAsked_2 f_asked_2 H locs ls hg hP hD hS hl
      rw [p_X8_isFelt_2_s] at hg
      refine lv_iload_n hx hb dX8_isFelt_2 rfl (lv_at hl 2 rfl) ?_
      refine lv_aload_n hx hb dX8_isFelt_3 rfl (lv_at hl 0 rfl) ?_
      refine gf_X8_326 C0 hP 0 rfl rfl dX8_isFelt_4 ?_
      refine lv_icmp_ge (tgt := 38) hx hb dX8_isFelt_7 (by decide) (fun c_7 => ?_) (fun c_7 => ?_)
      · have hg := hg.1 c_7
        refine lv_iconst (v := (1 : Int32)) hx hb dX8_isFelt_38 (by decide) ?_
        exact k_zret C0 hr (Or.inr rfl) (x_read_2, x_length_2, x_top_2, x_at_2, x_wrong_2, x_isAsked_2, f_asked_2) hg hP hD hS dX8_isFelt_39
      have hg := hg.2 c_7
      refine lv_aload_n hx hb dX8_isFelt_10 rfl (lv_at hl 0 rfl) ?_
      refine lv_aload_n hx hb dX8_isFelt_11 rfl (lv_at hl 0 rfl) ?_
      refine gf_X8_54 C0 hP 0 rfl rfl dX8_isFelt_12 ?_
      refine lv_iload_n hx hb dX8_isFelt_15 rfl (lv_at hl 2 rfl) ?_
      obtain ⟨g_16, hg⟩ := hg
      refine k_iald C0 hP 1 rfl g_16 dX8_isFelt_16 ?_
      refine lv_iload_n hx hb dX8_isFelt_17 rfl (lv_at hl 1 rfl) ?_
      refine k_Vi (rest := []) (wr := [(q_feltOf, aI cT 10 f_feltOf), (q_feltBy, aI cT 10 f_feltBy)]) (w2 := fun u_18 => [(q_feltOf, aI cT 10 f_feltOf), (q_feltBy, aI cT 10 f_feltBy), (h, oX8 (.ref q_now) (.int x_arches) (.int x_cats) w_text (.int x_typed) w_row (.int x_rowMany) (.int x_thrown) u_18.1 (.int u_18.2.1) (.int u_18.2.2.1) (.int u_18.2.2.2.1) (.int u_18.2.2.2.2.1) w_told (.ref q_rule) w_otherRule (.int x_ruleSize) (.int u_18.2.2.2.2.2.1) (.ref q_asked) w_undos (.int x_undoMany) w_aside w_then w_hold (.int x_dropped) w_acts w_guarded w_train (.int x_trolleyEnd) (.ref q_feltOf) (.ref q_feltBy) (.int x_feltMany) w_many w_heardOf w_heardBy (.int x_heardMany) w_worth (.int x_drawn) (.int x_came) w_kept w_isKept w_keptCame), (q_now, aI cT 47 f_now), (q_asked, aI cT 7 u_18.2.2.2.2.2.2), (q_rule, aB cT 40 f_rule)]) C0 lk_X8_329 (c_X8_holdWithout l D cT F h (f_feltOf y2_2.toNatClampNeg) p1 q_now x_arches x_cats w_text x_typed w_row x_rowMany x_thrown x_read_2 x_length_2 x_top_2 x_at_2 x_wrong_2 w_told q_rule w_otherRule x_ruleSize x_isAsked_2 q_asked w_undos x_undoMany w_aside w_then w_hold x_dropped w_acts w_guarded w_train x_trolleyEnd (.ref q_feltOf) (.ref q_feltBy) x_feltMany w_many w_heardOf w_heardBy x_heardMany w_worth x_drawn x_came w_kept w_isKept w_keptCame f_now f_asked_2 f_rule _ hg) hP hD hS hA [0, 2, 3, 4] [1, 5] (by decide +kernel) rfl rfl (fun _ => rfl) rfl rfl ⟨Nat.le_of_ble_eq_true rfl, Nat.le_of_ble_eq_true rfl⟩ rfl hl.1 rfl (Nat.le_of_ble_eq_true rfl) dX8_isFelt_18 ⟨Nat.le_of_ble_eq_true rfl, Nat.le_of_ble_eq_true rfl⟩ ?_
      intro r_18 u_18 H locs hg hP hD hS
      refine lv_aload_n hx hb dX8_isFelt_21 rfl (lv_at hl 0 rfl) ?_
      refine gf_X8_57 C0 hP 2 rfl rfl dX8_isFelt_22 ?_
      refine lv_iload_n hx hb dX8_isFelt_25 rfl (lv_at hl 2 rfl) ?_
      obtain ⟨g_26, hg⟩ := hg
      refine k_iald C0 hP 1 rfl g_26 dX8_isFelt_26 ?_
      refine lv_icmp_eq (tgt := 32) hx hb dX8_isFelt_27 (by decide) (fun c_27 => ?_) (fun c_27 => ?_)
      · have hg := hg.1 c_27
        refine lv_iinc (v := (y2_2 + (1 : Int32))) (lv' := [(2, .int (y2_2 + (1 : Int32))), (0, .ref h), (1, .int p1)]) hx hb dX8_isFelt_32 hl (k := 2) rfl rfl (by decide) rfl (fun ls hl => ?_)
        refine lv_goto (tgt := 2) hx hb dX8_isFelt_35 (by decide) ?_
        exact ih2 (y2_2 + (1 : Int32)) u_18.1 u_18.2.1 u_18.2.2.1 u_18.2.2.2.1 u_18.2.2.2.2.1 u_18.2.2.2.2.2.1 u_18.2.2.2.2.2.2 _ _ _ hg (subP hP [2, 0, 3, 4, 5, 1] rfl) (hD.sub [2, 0, 3, 4, 5, 1] (nd2_ok _ (by decide +kernel)) rfl) hS (lv_sub hl [1, 2, 0] rfl)
      have hg := hg.2 c_27
      refine lv_iconst (v := (0 : Int32)) hx hb dX8_isFelt_30 (by decide) ?_
      exact k_zret C0 hr (Or.inl rfl) (u_18.1, u_18.2.1, u_18.2.2.1, u_18.2.2.2.1, u_18.2.2.2.2.1, u_18.2.2.2.2.2.1, u_18.2.2.2.2.2.2) hg (subP hP [2, 0, 3, 4, 5, 1] rfl) (hD.sub [2, 0, 3, 4, 5, 1] (nd2_ok _ (by decide +kernel)) rfl) hS dX8_isFelt_31
  unfold p_X8_isFelt at hg
  refine lv_iconst (v := (0 : Int32)) hx hb dX8_isFelt_0 (by decide) ?_
  refine lv_istore_n (lv' := [(2, .int (0 : Int32)), (0, .ref h), (1, .int p1)]) hx hb dX8_isFelt_1 rfl hl (by decide) rfl (fun ls hl => ?_)
  exact L2 F (0 : Int32) w_read x_length x_top x_at x_wrong x_isAsked f_asked _ _ _ hg hP hD hS (lv_sub hl [1, 2, 0] rfl)
theorem dX8_grieving_0 : decode cX8_grieving 0 = .ok (.iconst 0, 1) := by decide +kernel
theorem dX8_grieving_1 : decode cX8_grieving 1 = .ok (.istore_n 1, 1) := by decide +kernel
theorem dX8_grieving_2 : decode cX8_grieving 2 = .ok (.iconst 0, 1) := by decide +kernel
theorem dX8_grieving_3 : decode cX8_grieving 3 = .ok (.istore_n 2, 1) := by decide +kernel
theorem dX8_grieving_4 : decode cX8_grieving 4 = .ok (.iload_n 2, 1) := by decide +kernel
theorem dX8_grieving_5 : decode cX8_grieving 5 = .ok (.aload_n 0, 1) := by decide +kernel
theorem dX8_grieving_6 : decode cX8_grieving 6 = .ok (.getfield 96, 3) := by decide +kernel
theorem dX8_grieving_9 : decode cX8_grieving 9 = .ok (.if_icmp .ge 27, 3) := by decide +kernel
theorem dX8_grieving_12 : decode cX8_grieving 12 = .ok (.iload_n 1, 1) := by decide +kernel
theorem dX8_grieving_13 : decode cX8_grieving 13 = .ok (.aload_n 0, 1) := by decide +kernel
theorem dX8_grieving_14 : decode cX8_grieving 14 = .ok (.iload_n 2, 1) := by decide +kernel
theorem dX8_grieving_15 : decode cX8_grieving 15 = .ok (.invokevirtual 332, 3) := by decide +kernel
theorem dX8_grieving_18 : decode cX8_grieving 18 = .ok (.ifCond .eq 9, 3) := by decide +kernel
theorem dX8_grieving_21 : decode cX8_grieving 21 = .ok (.iconst 1, 1) := by decide +kernel
theorem dX8_grieving_22 : decode cX8_grieving 22 = .ok (.iload_n 2, 1) := by decide +kernel
theorem dX8_grieving_23 : decode cX8_grieving 23 = .ok (.ishl, 1) := by decide +kernel
theorem dX8_grieving_24 : decode cX8_grieving 24 = .ok (.goto 4, 3) := by decide +kernel
theorem dX8_grieving_27 : decode cX8_grieving 27 = .ok (.iconst 0, 1) := by decide +kernel
theorem dX8_grieving_28 : decode cX8_grieving 28 = .ok (.ior, 1) := by decide +kernel
theorem dX8_grieving_29 : decode cX8_grieving 29 = .ok (.istore_n 1, 1) := by decide +kernel
theorem dX8_grieving_30 : decode cX8_grieving 30 = .ok (.iinc 2 1, 3) := by decide +kernel
theorem dX8_grieving_33 : decode cX8_grieving 33 = .ok (.goto (-29), 3) := by decide +kernel
theorem dX8_grieving_36 : decode cX8_grieving 36 = .ok (.iload_n 1, 1) := by decide +kernel
theorem dX8_grieving_37 : decode cX8_grieving 37 = .ok (.ireturn, 1) := by decide +kernel
def p_X8_grieving_28 (F : Nat) (u_15 : (Value × Int32 × Int32 × Int32 × Int32 × Int32 × (Nat → Int32))) (y2_4 : Int32) (y1_4 : Int32) (k4 : Int32 → Int32 → Value → Int32 → Int32 → Int32 → Int32 → Int32 → (Nat → Int32) → Prop) (Post : Int32 → (Value × Int32 × Int32 × Int32 × Int32 × Int32 × (Nat → Int32)) → Prop) (s1_28 : Int32) : Prop := (k4 (y2_4 + (1 : Int32)) (y1_4 ||| s1_28) u_15.1 u_15.2.1 u_15.2.2.1 u_15.2.2.2.1 u_15.2.2.2.2.1 u_15.2.2.2.2.2.1 u_15.2.2.2.2.2.2)
noncomputable def p_X8_grieving_4 (F : Nat) (x_cats : Int32) (q_rule : Nat) (x_ruleSize : Int32) (x_feltMany : Int32) (f_feltOf : Nat → Int32) (f_now : Nat → Int32) (f_rule : Nat → Int32) (f_feltBy : Nat → Int32) (Post : Int32 → (Value × Int32 × Int32 × Int32 × Int32 × Int32 × (Nat → Int32)) → Prop) (n : Nat) : Int32 → Int32 → Value → Int32 → Int32 → Int32 → Int32 → Int32 → (Nat → Int32) → Prop := Nat.rec (motive := fun _ => Int32 → Int32 → Value → Int32 → Int32 → Int32 → Int32 → Int32 → (Nat → Int32) → Prop) (fun _ _ _ _ _ _ _ _ _ => False) (fun _ k4 => fun (y2_4 : Int32) (y1_4 : Int32) (x_read_4 : Value) (x_length_4 : Int32) (x_top_4 : Int32) (x_at_4 : Int32) (x_wrong_4 : Int32) (x_isAsked_4 : Int32) (f_asked_4 : Nat → Int32) => ((x_cats ≤ y2_4 → (Post y1_4 (x_read_4, x_length_4, x_top_4, x_at_4, x_wrong_4, x_isAsked_4, f_asked_4))) ∧ (¬ x_cats ≤ y2_4 → (p_X8_isFelt F y2_4 x_cats x_read_4 x_length_4 x_top_4 x_at_4 x_wrong_4 q_rule x_ruleSize x_isAsked_4 x_feltMany f_feltOf f_now f_asked_4 f_rule f_feltBy (fun (r_15 : Int32) (u_15 : (Value × Int32 × Int32 × Int32 × Int32 × Int32 × (Nat → Int32))) => ((r_15 = 0 → (p_X8_grieving_28 F u_15 y2_4 y1_4 k4 Post (0 : Int32))) ∧ (¬ r_15 = 0 → (p_X8_grieving_28 F u_15 y2_4 y1_4 k4 Post ((1 : Int32) <<< (y2_4 &&& 31)))))))))) n
theorem p_X8_grieving_4_s (F : Nat) (x_cats : Int32) (q_rule : Nat) (x_ruleSize : Int32) (x_feltMany : Int32) (f_feltOf : Nat → Int32) (f_now : Nat → Int32) (f_rule : Nat → Int32) (f_feltBy : Nat → Int32) (Post : Int32 → (Value × Int32 × Int32 × Int32 × Int32 × Int32 × (Nat → Int32)) → Prop) (n : Nat) (y2_4 : Int32) (y1_4 : Int32) (x_read_4 : Value) (x_length_4 : Int32) (x_top_4 : Int32) (x_at_4 : Int32) (x_wrong_4 : Int32) (x_isAsked_4 : Int32) (f_asked_4 : Nat → Int32) : p_X8_grieving_4 F x_cats q_rule x_ruleSize x_feltMany f_feltOf f_now f_rule f_feltBy Post (n + 1) y2_4 y1_4 x_read_4 x_length_4 x_top_4 x_at_4 x_wrong_4 x_isAsked_4 f_asked_4 = ((x_cats ≤ y2_4 → (Post y1_4 (x_read_4, x_length_4, x_top_4, x_at_4, x_wrong_4, x_isAsked_4, f_asked_4))) ∧ (¬ x_cats ≤ y2_4 → (p_X8_isFelt F y2_4 x_cats x_read_4 x_length_4 x_top_4 x_at_4 x_wrong_4 q_rule x_ruleSize x_isAsked_4 x_feltMany f_feltOf f_now f_asked_4 f_rule f_feltBy (fun (r_15 : Int32) (u_15 : (Value × Int32 × Int32 × Int32 × Int32 × Int32 × (Nat → Int32))) => ((r_15 = 0 → (p_X8_grieving_28 F u_15 y2_4 y1_4 (p_X8_grieving_4 F x_cats q_rule x_ruleSize x_feltMany f_feltOf f_now f_rule f_feltBy Post n) Post (0 : Int32))) ∧ (¬ r_15 = 0 → (p_X8_grieving_28 F u_15 y2_4 y1_4 (p_X8_grieving_4 F x_cats q_rule x_ruleSize x_feltMany f_feltOf f_now f_rule f_feltBy Post n) Post ((1 : Int32) <<< (y2_4 &&& 31))))))))) := rfl
def p_X8_grieving (F : Nat) (x_cats : Int32) (w_read : Value) (x_length : Int32) (x_top : Int32) (x_at : Int32) (x_wrong : Int32) (q_rule : Nat) (x_ruleSize : Int32) (x_isAsked : Int32) (x_feltMany : Int32) (f_feltOf : Nat → Int32) (f_now : Nat → Int32) (f_asked : Nat → Int32) (f_rule : Nat → Int32) (f_feltBy : Nat → Int32) (Post : Int32 → (Value × Int32 × Int32 × Int32 × Int32 × Int32 × (Nat → Int32)) → Prop) : Prop := (p_X8_grieving_4 F x_cats q_rule x_ruleSize x_feltMany f_feltOf f_now f_rule f_feltBy Post F (0 : Int32) (0 : Int32) w_read x_length x_top x_at x_wrong x_isAsked f_asked)
set_option maxHeartbeats 4000000 in
set_option maxRecDepth 100000 in
theorem c_X8_grieving (l : Launch) (D : va_G) (cT : Nat → ClassId) (F : Nat) (h : Nat) (q_now : Nat) (x_arches : Int32) (x_cats : Int32) (w_text : Value) (x_typed : Int32) (w_row : Value) (x_rowMany : Int32) (x_thrown : Int32) (w_read : Value) (x_length : Int32) (x_top : Int32) (x_at : Int32) (x_wrong : Int32) (w_told : Value) (q_rule : Nat) (w_otherRule : Value) (x_ruleSize : Int32) (x_isAsked : Int32) (q_asked : Nat) (w_undos : Value) (x_undoMany : Int32) (w_aside : Value) (w_then : Value) (w_hold : Value) (x_dropped : Int32) (w_acts : Value) (w_guarded : Value) (w_train : Value) (x_trolleyEnd : Int32) (q_feltOf : Nat) (q_feltBy : Nat) (x_feltMany : Int32) (w_many : Value) (w_heardOf : Value) (w_heardBy : Value) (x_heardMany : Int32) (w_worth : Value) (x_drawn : Int32) (x_came : Int32) (w_kept : Value) (w_isKept : Value) (w_keptCame : Value) (f_feltOf : Nat → Int32) (f_now : Nat → Int32) (f_asked : Nat → Int32) (f_rule : Nat → Int32) (f_feltBy : Nat → Int32) (Post : Int32 → (Value × Int32 × Int32 × Int32 × Int32 × Int32 × (Nat → Int32)) → Prop) (hg : p_X8_grieving F x_cats w_read x_length x_top x_at x_wrong q_rule x_ruleSize x_isAsked x_feltMany f_feltOf f_now f_asked f_rule f_feltBy Post) : MWi l D cT yX8_grieving cX8_grieving 3 (some .int) 327 10218 0 0 [.ref h] [(h, oX8 (.ref q_now) (.int x_arches) (.int x_cats) w_text (.int x_typed) w_row (.int x_rowMany) (.int x_thrown) w_read (.int x_length) (.int x_top) (.int x_at) (.int x_wrong) w_told (.ref q_rule) w_otherRule (.int x_ruleSize) (.int x_isAsked) (.ref q_asked) w_undos (.int x_undoMany) w_aside w_then w_hold (.int x_dropped) w_acts w_guarded w_train (.int x_trolleyEnd) (.ref q_feltOf) (.ref q_feltBy) (.int x_feltMany) w_many w_heardOf w_heardBy (.int x_heardMany) w_worth (.int x_drawn) (.int x_came) w_kept w_isKept w_keptCame), (q_feltOf, aI cT 10 f_feltOf), (q_now, aI cT 47 f_now), (q_asked, aI cT 7 f_asked), (q_rule, aB cT 40 f_rule), (q_feltBy, aI cT 10 f_feltBy)] Post (fun (u : (Value × Int32 × Int32 × Int32 × Int32 × Int32 × (Nat → Int32))) => [(h, oX8 (.ref q_now) (.int x_arches) (.int x_cats) w_text (.int x_typed) w_row (.int x_rowMany) (.int x_thrown) u.1 (.int u.2.1) (.int u.2.2.1) (.int u.2.2.2.1) (.int u.2.2.2.2.1) w_told (.ref q_rule) w_otherRule (.int x_ruleSize) (.int u.2.2.2.2.2.1) (.ref q_asked) w_undos (.int x_undoMany) w_aside w_then w_hold (.int x_dropped) w_acts w_guarded w_train (.int x_trolleyEnd) (.ref q_feltOf) (.ref q_feltBy) (.int x_feltMany) w_many w_heardOf w_heardBy (.int x_heardMany) w_worth (.int x_drawn) (.int x_came) w_kept w_isKept w_keptCame), (q_feltOf, aI cT 10 f_feltOf), (q_now, aI cT 47 f_now), (q_asked, aI cT 7 u.2.2.2.2.2.2), (q_rule, aB cT 40 f_rule), (q_feltBy, aI cT 10 f_feltBy)]) := by
  refine MWi.of (by decide) (Nat.le_of_ble_eq_true rfl) ?_
  intro p e s m below meth c A hA C0 hnm hr hP hD ls hl
  have hl : lv_has ls 3 [(0, .ref h)] := hl
  have hx := C0.x
  have hb := C0.b
  have hS : va_S A s.heap s.heap [] := va_S.rf
  have hP : va_P D cls9 [(h, oX8 (.ref q_now) (.int x_arches) (.int x_cats) w_text (.int x_typed) w_row (.int x_rowMany) (.int x_thrown) w_read (.int x_length) (.int x_top) (.int x_at) (.int x_wrong) w_told (.ref q_rule) w_otherRule (.int x_ruleSize) (.int x_isAsked) (.ref q_asked) w_undos (.int x_undoMany) w_aside w_then w_hold (.int x_dropped) w_acts w_guarded w_train (.int x_trolleyEnd) (.ref q_feltOf) (.ref q_feltBy) (.int x_feltMany) w_many w_heardOf w_heardBy (.int x_heardMany) w_worth (.int x_drawn) (.int x_came) w_kept w_isKept w_keptCame), (q_feltOf, aI cT 10 f_feltOf), (q_now, aI cT 47 f_now), (q_asked, aI cT 7 f_asked), (q_rule, aB cT 40 f_rule), (q_feltBy, aI cT 10 f_feltBy)] s.heap := hP
  have hD : va_D A [(h, oX8 (.ref q_now) (.int x_arches) (.int x_cats) w_text (.int x_typed) w_row (.int x_rowMany) (.int x_thrown) w_read (.int x_length) (.int x_top) (.int x_at) (.int x_wrong) w_told (.ref q_rule) w_otherRule (.int x_ruleSize) (.int x_isAsked) (.ref q_asked) w_undos (.int x_undoMany) w_aside w_then w_hold (.int x_dropped) w_acts w_guarded w_train (.int x_trolleyEnd) (.ref q_feltOf) (.ref q_feltBy) (.int x_feltMany) w_many w_heardOf w_heardBy (.int x_heardMany) w_worth (.int x_drawn) (.int x_came) w_kept w_isKept w_keptCame), (q_feltOf, aI cT 10 f_feltOf), (q_now, aI cT 47 f_now), (q_asked, aI cT 7 f_asked), (q_rule, aB cT 40 f_rule), (q_feltBy, aI cT 10 f_feltBy)] := hD
  have L4 : ∀ (n4 : Nat) (y2_4 : Int32) (y1_4 : Int32) (x_read_4 : Value) (x_length_4 : Int32) (x_top_4 : Int32) (x_at_4 : Int32) (x_wrong_4 : Int32) (x_isAsked_4 : Int32) (f_asked_4 : Nat → Int32) (H : Heap) (locs : List Loc) (ls : Array Slot), p_X8_grieving_4 F x_cats q_rule x_ruleSize x_feltMany f_feltOf f_now f_rule f_feltBy Post n4 y2_4 y1_4 x_read_4 x_length_4 x_top_4 x_at_4 x_wrong_4 x_isAsked_4 f_asked_4 → va_P D cls9 [(h, oX8 (.ref q_now) (.int x_arches) (.int x_cats) w_text (.int x_typed) w_row (.int x_rowMany) (.int x_thrown) x_read_4 (.int x_length_4) (.int x_top_4) (.int x_at_4) (.int x_wrong_4) w_told (.ref q_rule) w_otherRule (.int x_ruleSize) (.int x_isAsked_4) (.ref q_asked) w_undos (.int x_undoMany) w_aside w_then w_hold (.int x_dropped) w_acts w_guarded w_train (.int x_trolleyEnd) (.ref q_feltOf) (.ref q_feltBy) (.int x_feltMany) w_many w_heardOf w_heardBy (.int x_heardMany) w_worth (.int x_drawn) (.int x_came) w_kept w_isKept w_keptCame), (q_feltOf, aI cT 10 f_feltOf), (q_now, aI cT 47 f_now), (q_asked, aI cT 7 f_asked_4), (q_rule, aB cT 40 f_rule), (q_feltBy, aI cT 10 f_feltBy)] H → va_D A [(h, oX8 (.ref q_now) (.int x_arches) (.int x_cats) w_text (.int x_typed) w_row (.int x_rowMany) (.int x_thrown) x_read_4 (.int x_length_4) (.int x_top_4) (.int x_at_4) (.int x_wrong_4) w_told (.ref q_rule) w_otherRule (.int x_ruleSize) (.int x_isAsked_4) (.ref q_asked) w_undos (.int x_undoMany) w_aside w_then w_hold (.int x_dropped) w_acts w_guarded w_train (.int x_trolleyEnd) (.ref q_feltOf) (.ref q_feltBy) (.int x_feltMany) w_many w_heardOf w_heardBy (.int x_heardMany) w_worth (.int x_drawn) (.int x_came) w_kept w_isKept w_keptCame), (q_feltOf, aI cT 10 f_feltOf), (q_now, aI cT 47 f_now), (q_asked, aI cT 7 f_asked_4), (q_rule, aB cT 40 f_rule), (q_feltBy, aI cT 10 f_feltBy)] → va_S A s.heap H locs → lv_has ls 3 [(0, .ref h), (1, .int y1_4), (2, .int y2_4)] → W p l e (rmO 327 10218 0 0) s m ([.ref h] : List Value).toArray below meth c H locs 0 0 (MQ below (va_Qi Post (cB D A (fun (u : (Value × Int32 × Int32 × Int32 × Int32 × Int32 × (Nat → Int32))) => [(h, oX8 (.ref q_now) (.int x_arches) (.int x_cats) w_text (.int x_typed) w_row (.int x_rowMany) (.int x_thrown) u.1 (.int u.2.1) (.int u.2.2.1) (.int u.2.2.2.1) (.int u.2.2.2.2.1) w_told (.ref q_rule) w_otherRule (.int x_ruleSize) (.int u.2.2.2.2.2.1) (.ref q_asked) w_undos (.int x_undoMany) w_aside w_then w_hold (.int x_dropped) w_acts w_guarded w_train (.int x_trolleyEnd) (.ref q_feltOf) (.ref q_feltBy) (.int x_feltMany) w_many w_heardOf w_heardBy (.int x_heardMany) w_worth (.int x_drawn) (.int x_came) w_kept w_isKept w_keptCame), (q_feltOf, aI cT 10 f_feltOf), (q_now, aI cT 47 f_now), (q_asked, aI cT 7 u.2.2.2.2.2.2), (q_rule, aB cT 40 f_rule), (q_feltBy, aI cT 10 f_feltBy)])) A) ([.ref h] : List Value).toArray s 0 0 A) (F0 m 4 ls []) := by
    intro n4
    induction n4 with
    | zero =>
      intro y2_4 y1_4 x_read_4 x_length_4 x_top_4 x_at_4 x_wrong_4 x_isAsked_4 f_asked_4 H locs ls hg hP hD hS hl
      exact False.elim hg
    | succ n4 ih4 =>
      have L28 : ∀ (u_15 : (Value × Int32 × Int32 × Int32 × Int32 × Int32 × (Nat → Int32))) (y2_4 : Int32) (y1_4 : Int32) (s1_28 : Int32) (H : Heap) (locs : List Loc) (ls : Array Slot), p_X8_grieving_28 F u_15 y2_4 y1_4 (p_X8_grieving_4 F x_cats q_rule x_ruleSize x_feltMany f_feltOf f_now f_rule f_feltBy Post n4) Post s1_28 → va_P D cls9 [(h, oX8 (.ref q_now) (.int x_arches) (.int x_cats) w_text (.int x_typed) w_row (.int x_rowMany) (.int x_thrown) u_15.1 (.int u_15.2.1) (.int u_15.2.2.1) (.int u_15.2.2.2.1) (.int u_15.2.2.2.2.1) w_told (.ref q_rule) w_otherRule (.int x_ruleSize) (.int u_15.2.2.2.2.2.1) (.ref q_asked) w_undos (.int x_undoMany) w_aside w_then w_hold (.int x_dropped) w_acts w_guarded w_train (.int x_trolleyEnd) (.ref q_feltOf) (.ref q_feltBy) (.int x_feltMany) w_many w_heardOf w_heardBy (.int x_heardMany) w_worth (.int x_drawn) (.int x_came) w_kept w_isKept w_keptCame), (q_feltOf, aI cT 10 f_feltOf), (q_now, aI cT 47 f_now), (q_asked, aI cT 7 u_15.2.2.2.2.2.2), (q_rule, aB cT 40 f_rule), (q_feltBy, aI cT 10 f_feltBy)] H → va_D A [(h, oX8 (.ref q_now) (.int x_arches) (.int x_cats) w_text (.int x_typed) w_row (.int x_rowMany) (.int x_thrown) u_15.1 (.int u_15.2.1) (.int u_15.2.2.1) (.int u_15.2.2.2.1) (.int u_15.2.2.2.2.1) w_told (.ref q_rule) w_otherRule (.int x_ruleSize) (.int u_15.2.2.2.2.2.1) (.ref q_asked) w_undos (.int x_undoMany) w_aside w_then w_hold (.int x_dropped) w_acts w_guarded w_train (.int x_trolleyEnd) (.ref q_feltOf) (.ref q_feltBy) (.int x_feltMany) w_many w_heardOf w_heardBy (.int x_heardMany) w_worth (.int x_drawn) (.int x_came) w_kept w_isKept w_keptCame), (q_feltOf, aI cT 10 f_feltOf), (q_now, aI cT 47 f_now), (q_asked, aI cT 7 u_15.2.2.2.2.2.2), (q_rule, aB cT 40 f_rule), (q_feltBy, aI cT 10 f_feltBy)] → va_S A s.heap H locs → lv_has ls 3 [(0, .ref h), (2, .int y2_4)] → W p l e (rmO 327 10218 0 0) s m ([.ref h] : List Value).toArray below meth c H locs 0 0 (MQ below (va_Qi Post (cB D A (fun (u : (Value × Int32 × Int32 × Int32 × Int32 × Int32 × (Nat → Int32))) => [(h, oX8 (.ref q_now) (.int x_arches) (.int x_cats) w_text (.int x_typed) w_row (.int x_rowMany) (.int x_thrown) u.1 (.int u.2.1) (.int u.2.2.1) (.int u.2.2.2.1) (.int u.2.2.2.2.1) w_told (.ref q_rule) w_otherRule (.int x_ruleSize) (.int u.2.2.2.2.2.1) (.ref q_asked) w_undos (.int x_undoMany) w_aside w_then w_hold (.int x_dropped) w_acts w_guarded w_train (.int x_trolleyEnd) (.ref q_feltOf) (.ref q_feltBy) (.int x_feltMany) w_many w_heardOf w_heardBy (.int x_heardMany) w_worth (.int x_drawn) (.int x_came) w_kept w_isKept w_keptCame), (q_feltOf, aI cT 10 f_feltOf), (q_now, aI cT 47 f_now), (q_asked, aI cT 7 u.2.2.2.2.2.2), (q_rule, aB cT 40 f_rule), (q_feltBy, aI cT 10 f_feltBy)])) A) ([.ref h] : List Value).toArray s 0 0 A) (F0 m 28 ls [.int s1_28, .int y1_4]) := by
        intro u_15 y2_4 y1_4 s1_28 H locs ls hg hP hD hS hl
        unfold p_X8_grieving_28 at hg
        refine lv_ior hx hb dX8_grieving_28 ?_
        refine lv_istore_n (lv' := [(1, .int (y1_4 ||| s1_28)), (0, .ref h), (2, .int y2_4)]) hx hb dX8_grieving_29 rfl hl (by decide) rfl (fun ls hl => ?_)
        refine lv_iinc (v := (y2_4 + (1 : Int32))) (lv' := [(2, .int (y2_4 + (1 : Int32))), (1, .int (y1_4 ||| s1_28)), (0, .ref h)]) hx hb dX8_grieving_30 hl (k := 2) rfl rfl (by decide) rfl (fun ls hl => ?_)
        refine lv_goto (tgt := 4) hx hb dX8_grieving_33 (by decide) ?_
        exact ih4 (y2_4 + (1 : Int32)) (y1_4 ||| s1_28) u_15.1 u_15.2.1 u_15.2.2.1 u_15.2.2.2.1 u_15.2.2.2.2.1 u_15.2.2.2.2.2.1 u_15.2.2.2.2.2.2 _ _ _ hg hP hD hS (lv_sub hl [2, 1, 0] rfl)
      intro y2_4 y1_4 x_read_4 x_length_4 x_top_4 x_at_4 x_wrong_4 x_isAsked_4 f_asked_4 H locs ls hg hP hD hS hl
      rw [p_X8_grieving_4_s] at hg
      refine lv_iload_n hx hb dX8_grieving_4 rfl (lv_at hl 2 rfl) ?_
      refine lv_aload_n hx hb dX8_grieving_5 rfl (lv_at hl 0 rfl) ?_
      refine gf_X8_96 C0 hP 0 rfl rfl dX8_grieving_6 ?_
      refine lv_icmp_ge (tgt := 36) hx hb dX8_grieving_9 (by decide) (fun c_9 => ?_) (fun c_9 => ?_)
      · have hg := hg.1 c_9
        refine lv_iload_n hx hb dX8_grieving_36 rfl (lv_at hl 1 rfl) ?_
        exact k_iret C0 hr (x_read_4, x_length_4, x_top_4, x_at_4, x_wrong_4, x_isAsked_4, f_asked_4) hg hP hD hS dX8_grieving_37
      have hg := hg.2 c_9
      refine lv_iload_n hx hb dX8_grieving_12 rfl (lv_at hl 1 rfl) ?_
      refine lv_aload_n hx hb dX8_grieving_13 rfl (lv_at hl 0 rfl) ?_
      refine lv_iload_n hx hb dX8_grieving_14 rfl (lv_at hl 2 rfl) ?_
      refine k_Vi (rest := [.int y1_4]) (wr := []) (w2 := fun u_15 => [(h, oX8 (.ref q_now) (.int x_arches) (.int x_cats) w_text (.int x_typed) w_row (.int x_rowMany) (.int x_thrown) u_15.1 (.int u_15.2.1) (.int u_15.2.2.1) (.int u_15.2.2.2.1) (.int u_15.2.2.2.2.1) w_told (.ref q_rule) w_otherRule (.int x_ruleSize) (.int u_15.2.2.2.2.2.1) (.ref q_asked) w_undos (.int x_undoMany) w_aside w_then w_hold (.int x_dropped) w_acts w_guarded w_train (.int x_trolleyEnd) (.ref q_feltOf) (.ref q_feltBy) (.int x_feltMany) w_many w_heardOf w_heardBy (.int x_heardMany) w_worth (.int x_drawn) (.int x_came) w_kept w_isKept w_keptCame), (q_feltOf, aI cT 10 f_feltOf), (q_now, aI cT 47 f_now), (q_asked, aI cT 7 u_15.2.2.2.2.2.2), (q_rule, aB cT 40 f_rule), (q_feltBy, aI cT 10 f_feltBy)]) C0 lk_X8_332 (c_X8_isFelt l D cT F h y2_4 q_now x_arches x_cats w_text x_typed w_row x_rowMany x_thrown x_read_4 x_length_4 x_top_4 x_at_4 x_wrong_4 w_told q_rule w_otherRule x_ruleSize x_isAsked_4 q_asked w_undos x_undoMany w_aside w_then w_hold x_dropped w_acts w_guarded w_train x_trolleyEnd q_feltOf q_feltBy x_feltMany w_many w_heardOf w_heardBy x_heardMany w_worth x_drawn x_came w_kept w_isKept w_keptCame f_feltOf f_now f_asked_4 f_rule f_feltBy _ hg) hP hD hS hA [0, 1, 2, 3, 4, 5] [] (by decide +kernel) rfl rfl (fun _ => rfl) rfl rfl ⟨Nat.le_of_ble_eq_true rfl, Nat.le_of_ble_eq_true rfl⟩ rfl hl.1 rfl (Nat.le_of_ble_eq_true rfl) dX8_grieving_15 ⟨Nat.le_of_ble_eq_true rfl, Nat.le_of_ble_eq_true rfl⟩ ?_
      intro r_15 u_15 H locs hg hP hD hS
      refine lv_if_eq (tgt := 27) hx hb dX8_grieving_18 (by decide) (fun c_18 => ?_) (fun c_18 => ?_)
      · have hg := hg.1 c_18
        refine lv_iconst (v := (0 : Int32)) hx hb dX8_grieving_27 (by decide) ?_
        exact L28 u_15 y2_4 y1_4 (0 : Int32) _ _ _ hg hP hD hS (lv_sub hl [0, 2] rfl)
      have hg := hg.2 c_18
      refine lv_iconst (v := (1 : Int32)) hx hb dX8_grieving_21 (by decide) ?_
      refine lv_iload_n hx hb dX8_grieving_22 rfl (lv_at hl 2 rfl) ?_
      refine lv_ishl hx hb dX8_grieving_23 ?_
      refine lv_goto (tgt := 28) hx hb dX8_grieving_24 (by decide) ?_
      exact L28 u_15 y2_4 y1_4 ((1 : Int32) <<< (y2_4 &&& 31)) _ _ _ hg hP hD hS (lv_sub hl [0, 2] rfl)
  unfold p_X8_grieving at hg
  refine lv_iconst (v := (0 : Int32)) hx hb dX8_grieving_0 (by decide) ?_
  refine lv_istore_n (lv' := [(1, .int (0 : Int32)), (0, .ref h)]) hx hb dX8_grieving_1 rfl hl (by decide) rfl (fun ls hl => ?_)
  refine lv_iconst (v := (0 : Int32)) hx hb dX8_grieving_2 (by decide) ?_
  refine lv_istore_n (lv' := [(2, .int (0 : Int32)), (1, .int (0 : Int32)), (0, .ref h)]) hx hb dX8_grieving_3 rfl hl (by decide) rfl (fun ls hl => ?_)
  exact L4 F (0 : Int32) (0 : Int32) w_read x_length x_top x_at x_wrong x_isAsked f_asked _ _ _ hg hP hD hS (lv_sub hl [2, 1, 0] rfl)
theorem dX8_fits_0 : decode cX8_fits 0 = .ok (.aload_n 0, 1) := by decide +kernel
theorem dX8_fits_1 : decode cX8_fits 1 = .ok (.iconst 0, 1) := by decide +kernel
theorem dX8_fits_2 : decode cX8_fits 2 = .ok (.putfield 82, 3) := by decide +kernel
theorem dX8_fits_5 : decode cX8_fits 5 = .ok (.aload_n 0, 1) := by decide +kernel
theorem dX8_fits_6 : decode cX8_fits 6 = .ok (.invokevirtual 335, 3) := by decide +kernel
theorem dX8_fits_9 : decode cX8_fits 9 = .ok (.istore_n 1, 1) := by decide +kernel
theorem dX8_fits_10 : decode cX8_fits 10 = .ok (.aload_n 0, 1) := by decide +kernel
theorem dX8_fits_11 : decode cX8_fits 11 = .ok (.iconst 0, 1) := by decide +kernel
theorem dX8_fits_12 : decode cX8_fits 12 = .ok (.putfield 86, 3) := by decide +kernel
theorem dX8_fits_15 : decode cX8_fits 15 = .ok (.aload_n 0, 1) := by decide +kernel
theorem dX8_fits_16 : decode cX8_fits 16 = .ok (.iload_n 1, 1) := by decide +kernel
theorem dX8_fits_17 : decode cX8_fits 17 = .ok (.invokestatic 202, 3) := by decide +kernel
theorem dX8_fits_20 : decode cX8_fits 20 = .ok (.i2l, 1) := by decide +kernel
theorem dX8_fits_21 : decode cX8_fits 21 = .ok (.invokevirtual 249, 3) := by decide +kernel
theorem dX8_fits_24 : decode cX8_fits 24 = .ok (.aload_n 0, 1) := by decide +kernel
theorem dX8_fits_25 : decode cX8_fits 25 = .ok (.aload_n 0, 1) := by decide +kernel
theorem dX8_fits_26 : decode cX8_fits 26 = .ok (.iconst (-1), 1) := by decide +kernel
theorem dX8_fits_27 : decode cX8_fits 27 = .ok (.invokevirtual 332, 3) := by decide +kernel
theorem dX8_fits_30 : decode cX8_fits 30 = .ok (.ifCond .eq 7, 3) := by decide +kernel
theorem dX8_fits_33 : decode cX8_fits 33 = .ok (.lconst 1, 1) := by decide +kernel
theorem dX8_fits_34 : decode cX8_fits 34 = .ok (.goto 4, 3) := by decide +kernel
theorem dX8_fits_37 : decode cX8_fits 37 = .ok (.lconst 0, 1) := by decide +kernel
theorem dX8_fits_38 : decode cX8_fits 38 = .ok (.invokevirtual 249, 3) := by decide +kernel
theorem dX8_fits_41 : decode cX8_fits 41 = .ok (.iload_n 1, 1) := by decide +kernel
theorem dX8_fits_42 : decode cX8_fits 42 = .ok (.ireturn, 1) := by decide +kernel
def p_X8_fits_38 (F : Nat) (r_6 : Int32) (u_21 : (Int32 × (Nat → Int64))) (u_27 : (Value × Int32 × Int32 × Int32 × Int32 × Int32 × (Nat → Int32))) (Post : Int32 → (Int32 × Int32 × Value × Int32 × Int32 × Int32 × Int32 × Int32 × (Nat → Int32) × (Nat → Int64)) → Prop) (s1_38 : Int64) : Prop := (p_X8_tell F s1_38 u_21.1 u_21.2 (fun (u_38 : (Int32 × (Nat → Int64))) => (Post r_6 (u_38.1, (0 : Int32), u_27.1, u_27.2.1, u_27.2.2.1, u_27.2.2.2.1, u_27.2.2.2.2.1, u_27.2.2.2.2.2.1, u_27.2.2.2.2.2.2, u_38.2))))
def p_X8_fits (F : Nat) (x_cats : Int32) (w_read : Value) (x_length : Int32) (x_top : Int32) (x_at : Int32) (x_wrong : Int32) (q_rule : Nat) (x_ruleSize : Int32) (x_isAsked : Int32) (x_feltMany : Int32) (f_feltOf : Nat → Int32) (f_now : Nat → Int32) (f_asked : Nat → Int32) (f_rule : Nat → Int32) (f_feltBy : Nat → Int32) (f_row : Nat → Int64) (Post : Int32 → (Int32 × Int32 × Value × Int32 × Int32 × Int32 × Int32 × Int32 × (Nat → Int32) × (Nat → Int64)) → Prop) : Prop := (p_X8_grieving F x_cats w_read x_length x_top x_at x_wrong q_rule x_ruleSize x_isAsked x_feltMany f_feltOf f_now f_asked f_rule f_feltBy (fun (r_6 : Int32) (u_6 : (Value × Int32 × Int32 × Int32 × Int32 × Int32 × (Nat → Int32))) => (p_J6_bitCount_0f7a4 F r_6 (fun (r_17 : Int32) => (p_X8_tell F (r_17.toInt64) (0 : Int32) f_row (fun (u_21 : (Int32 × (Nat → Int64))) => (p_X8_isFelt F (-1 : Int32) x_cats u_6.1 u_6.2.1 u_6.2.2.1 u_6.2.2.2.1 u_6.2.2.2.2.1 q_rule x_ruleSize u_6.2.2.2.2.2.1 x_feltMany f_feltOf f_now u_6.2.2.2.2.2.2 f_rule f_feltBy (fun (r_27 : Int32) (u_27 : (Value × Int32 × Int32 × Int32 × Int32 × Int32 × (Nat → Int32))) => ((r_27 = 0 → (p_X8_fits_38 F r_6 u_21 u_27 Post (0 : Int64))) ∧ (¬ r_27 = 0 → (p_X8_fits_38 F r_6 u_21 u_27 Post (1 : Int64))))))))))))
set_option maxHeartbeats 4000000 in
set_option maxRecDepth 100000 in
theorem c_X8_fits (l : Launch) (D : va_G) (cT : Nat → ClassId) (F : Nat) (h : Nat) (q_now : Nat) (x_arches : Int32) (x_cats : Int32) (w_text : Value) (x_typed : Int32) (q_row : Nat) (x_rowMany : Int32) (x_thrown : Int32) (w_read : Value) (x_length : Int32) (x_top : Int32) (x_at : Int32) (x_wrong : Int32) (w_told : Value) (q_rule : Nat) (w_otherRule : Value) (x_ruleSize : Int32) (x_isAsked : Int32) (q_asked : Nat) (w_undos : Value) (x_undoMany : Int32) (w_aside : Value) (w_then : Value) (w_hold : Value) (x_dropped : Int32) (w_acts : Value) (w_guarded : Value) (w_train : Value) (x_trolleyEnd : Int32) (q_feltOf : Nat) (q_feltBy : Nat) (x_feltMany : Int32) (w_many : Value) (w_heardOf : Value) (w_heardBy : Value) (x_heardMany : Int32) (w_worth : Value) (x_drawn : Int32) (x_came : Int32) (w_kept : Value) (w_isKept : Value) (w_keptCame : Value) (f_feltOf : Nat → Int32) (f_now : Nat → Int32) (f_asked : Nat → Int32) (f_rule : Nat → Int32) (f_feltBy : Nat → Int32) (f_row : Nat → Int64) (Post : Int32 → (Int32 × Int32 × Value × Int32 × Int32 × Int32 × Int32 × Int32 × (Nat → Int32) × (Nat → Int64)) → Prop) (hg : p_X8_fits F x_cats w_read x_length x_top x_at x_wrong q_rule x_ruleSize x_isAsked x_feltMany f_feltOf f_now f_asked f_rule f_feltBy f_row Post) : MWi l D cT yX8_fits cX8_fits 2 (some .int) 328 10240 0 0 [.ref h] [(h, oX8 (.ref q_now) (.int x_arches) (.int x_cats) w_text (.int x_typed) (.ref q_row) (.int x_rowMany) (.int x_thrown) w_read (.int x_length) (.int x_top) (.int x_at) (.int x_wrong) w_told (.ref q_rule) w_otherRule (.int x_ruleSize) (.int x_isAsked) (.ref q_asked) w_undos (.int x_undoMany) w_aside w_then w_hold (.int x_dropped) w_acts w_guarded w_train (.int x_trolleyEnd) (.ref q_feltOf) (.ref q_feltBy) (.int x_feltMany) w_many w_heardOf w_heardBy (.int x_heardMany) w_worth (.int x_drawn) (.int x_came) w_kept w_isKept w_keptCame), (q_feltOf, aI cT 10 f_feltOf), (q_now, aI cT 47 f_now), (q_asked, aI cT 7 f_asked), (q_rule, aB cT 40 f_rule), (q_feltBy, aI cT 10 f_feltBy), (q_row, aJ cT 16 f_row)] Post (fun (u : (Int32 × Int32 × Value × Int32 × Int32 × Int32 × Int32 × Int32 × (Nat → Int32) × (Nat → Int64))) => [(h, oX8 (.ref q_now) (.int x_arches) (.int x_cats) w_text (.int x_typed) (.ref q_row) (.int u.1) (.int u.2.1) u.2.2.1 (.int u.2.2.2.1) (.int u.2.2.2.2.1) (.int u.2.2.2.2.2.1) (.int u.2.2.2.2.2.2.1) w_told (.ref q_rule) w_otherRule (.int x_ruleSize) (.int u.2.2.2.2.2.2.2.1) (.ref q_asked) w_undos (.int x_undoMany) w_aside w_then w_hold (.int x_dropped) w_acts w_guarded w_train (.int x_trolleyEnd) (.ref q_feltOf) (.ref q_feltBy) (.int x_feltMany) w_many w_heardOf w_heardBy (.int x_heardMany) w_worth (.int x_drawn) (.int x_came) w_kept w_isKept w_keptCame), (q_feltOf, aI cT 10 f_feltOf), (q_now, aI cT 47 f_now), (q_asked, aI cT 7 u.2.2.2.2.2.2.2.2.1), (q_rule, aB cT 40 f_rule), (q_feltBy, aI cT 10 f_feltBy), (q_row, aJ cT 16 u.2.2.2.2.2.2.2.2.2)]) := by
  refine MWi.of (by decide) (Nat.le_of_ble_eq_true rfl) ?_
  intro p e s m below meth c A hA C0 hnm hr hP hD ls hl
  have hl : lv_has ls 2 [(0, .ref h)] := hl
  have hx := C0.x
  have hb := C0.b
  have hS : va_S A s.heap s.heap [] := va_S.rf
  have hP : va_P D cls9 [(h, oX8 (.ref q_now) (.int x_arches) (.int x_cats) w_text (.int x_typed) (.ref q_row) (.int x_rowMany) (.int x_thrown) w_read (.int x_length) (.int x_top) (.int x_at) (.int x_wrong) w_told (.ref q_rule) w_otherRule (.int x_ruleSize) (.int x_isAsked) (.ref q_asked) w_undos (.int x_undoMany) w_aside w_then w_hold (.int x_dropped) w_acts w_guarded w_train (.int x_trolleyEnd) (.ref q_feltOf) (.ref q_feltBy) (.int x_feltMany) w_many w_heardOf w_heardBy (.int x_heardMany) w_worth (.int x_drawn) (.int x_came) w_kept w_isKept w_keptCame), (q_feltOf, aI cT 10 f_feltOf), (q_now, aI cT 47 f_now), (q_asked, aI cT 7 f_asked), (q_rule, aB cT 40 f_rule), (q_feltBy, aI cT 10 f_feltBy), (q_row, aJ cT 16 f_row)] s.heap := hP
  have hD : va_D A [(h, oX8 (.ref q_now) (.int x_arches) (.int x_cats) w_text (.int x_typed) (.ref q_row) (.int x_rowMany) (.int x_thrown) w_read (.int x_length) (.int x_top) (.int x_at) (.int x_wrong) w_told (.ref q_rule) w_otherRule (.int x_ruleSize) (.int x_isAsked) (.ref q_asked) w_undos (.int x_undoMany) w_aside w_then w_hold (.int x_dropped) w_acts w_guarded w_train (.int x_trolleyEnd) (.ref q_feltOf) (.ref q_feltBy) (.int x_feltMany) w_many w_heardOf w_heardBy (.int x_heardMany) w_worth (.int x_drawn) (.int x_came) w_kept w_isKept w_keptCame), (q_feltOf, aI cT 10 f_feltOf), (q_now, aI cT 47 f_now), (q_asked, aI cT 7 f_asked), (q_rule, aB cT 40 f_rule), (q_feltBy, aI cT 10 f_feltBy), (q_row, aJ cT 16 f_row)] := hD
  have L38 : ∀ (r_6 : Int32) (u_21 : (Int32 × (Nat → Int64))) (u_27 : (Value × Int32 × Int32 × Int32 × Int32 × Int32 × (Nat → Int32))) (s1_38 : Int64) (H : Heap) (locs : List Loc) (ls : Array Slot), p_X8_fits_38 F r_6 u_21 u_27 Post s1_38 → va_P D cls9 [(h, oX8 (.ref q_now) (.int x_arches) (.int x_cats) w_text (.int x_typed) (.ref q_row) (.int u_21.1) (.int (0 : Int32)) u_27.1 (.int u_27.2.1) (.int u_27.2.2.1) (.int u_27.2.2.2.1) (.int u_27.2.2.2.2.1) w_told (.ref q_rule) w_otherRule (.int x_ruleSize) (.int u_27.2.2.2.2.2.1) (.ref q_asked) w_undos (.int x_undoMany) w_aside w_then w_hold (.int x_dropped) w_acts w_guarded w_train (.int x_trolleyEnd) (.ref q_feltOf) (.ref q_feltBy) (.int x_feltMany) w_many w_heardOf w_heardBy (.int x_heardMany) w_worth (.int x_drawn) (.int x_came) w_kept w_isKept w_keptCame), (q_feltOf, aI cT 10 f_feltOf), (q_now, aI cT 47 f_now), (q_asked, aI cT 7 u_27.2.2.2.2.2.2), (q_rule, aB cT 40 f_rule), (q_feltBy, aI cT 10 f_feltBy), (q_row, aJ cT 16 u_21.2)] H → va_D A [(h, oX8 (.ref q_now) (.int x_arches) (.int x_cats) w_text (.int x_typed) (.ref q_row) (.int u_21.1) (.int (0 : Int32)) u_27.1 (.int u_27.2.1) (.int u_27.2.2.1) (.int u_27.2.2.2.1) (.int u_27.2.2.2.2.1) w_told (.ref q_rule) w_otherRule (.int x_ruleSize) (.int u_27.2.2.2.2.2.1) (.ref q_asked) w_undos (.int x_undoMany) w_aside w_then w_hold (.int x_dropped) w_acts w_guarded w_train (.int x_trolleyEnd) (.ref q_feltOf) (.ref q_feltBy) (.int x_feltMany) w_many w_heardOf w_heardBy (.int x_heardMany) w_worth (.int x_drawn) (.int x_came) w_kept w_isKept w_keptCame), (q_feltOf, aI cT 10 f_feltOf), (q_now, aI cT 47 f_now), (q_asked, aI cT 7 u_27.2.2.2.2.2.2), (q_rule, aB cT 40 f_rule), (q_feltBy, aI cT 10 f_feltBy), (q_row, aJ cT 16 u_21.2)] → va_S A s.heap H locs → lv_has ls 2 [(1, .int r_6)] → W p l e (rmO 328 10240 0 0) s m ([.ref h] : List Value).toArray below meth c H locs 0 0 (MQ below (va_Qi Post (cB D A (fun (u : (Int32 × Int32 × Value × Int32 × Int32 × Int32 × Int32 × Int32 × (Nat → Int32) × (Nat → Int64))) => [(h, oX8 (.ref q_now) (.int x_arches) (.int x_cats) w_text (.int x_typed) (.ref q_row) (.int u.1) (.int u.2.1) u.2.2.1 (.int u.2.2.2.1) (.int u.2.2.2.2.1) (.int u.2.2.2.2.2.1) (.int u.2.2.2.2.2.2.1) w_told (.ref q_rule) w_otherRule (.int x_ruleSize) (.int u.2.2.2.2.2.2.2.1) (.ref q_asked) w_undos (.int x_undoMany) w_aside w_then w_hold (.int x_dropped) w_acts w_guarded w_train (.int x_trolleyEnd) (.ref q_feltOf) (.ref q_feltBy) (.int x_feltMany) w_many w_heardOf w_heardBy (.int x_heardMany) w_worth (.int x_drawn) (.int x_came) w_kept w_isKept w_keptCame), (q_feltOf, aI cT 10 f_feltOf), (q_now, aI cT 47 f_now), (q_asked, aI cT 7 u.2.2.2.2.2.2.2.2.1), (q_rule, aB cT 40 f_rule), (q_feltBy, aI cT 10 f_feltBy), (q_row, aJ cT 16 u.2.2.2.2.2.2.2.2.2)])) A) ([.ref h] : List Value).toArray s 0 0 A) (F0 m 38 ls [.long s1_38, .ref h]) := by
    intro r_6 u_21 u_27 s1_38 H locs ls hg hP hD hS hl
    unfold p_X8_fits_38 at hg
    refine k_Vv (rest := []) (wr := [(q_feltOf, aI cT 10 f_feltOf), (q_now, aI cT 47 f_now), (q_asked, aI cT 7 u_27.2.2.2.2.2.2), (q_rule, aB cT 40 f_rule), (q_feltBy, aI cT 10 f_feltBy)]) (w2 := fun u_38 => [(q_feltOf, aI cT 10 f_feltOf), (q_now, aI cT 47 f_now), (q_asked, aI cT 7 u_27.2.2.2.2.2.2), (q_rule, aB cT 40 f_rule), (q_feltBy, aI cT 10 f_feltBy), (h, oX8 (.ref q_now) (.int x_arches) (.int x_cats) w_text (.int x_typed) (.ref q_row) (.int u_38.1) (.int (0 : Int32)) u_27.1 (.int u_27.2.1) (.int u_27.2.2.1) (.int u_27.2.2.2.1) (.int u_27.2.2.2.2.1) w_told (.ref q_rule) w_otherRule (.int x_ruleSize) (.int u_27.2.2.2.2.2.1) (.ref q_asked) w_undos (.int x_undoMany) w_aside w_then w_hold (.int x_dropped) w_acts w_guarded w_train (.int x_trolleyEnd) (.ref q_feltOf) (.ref q_feltBy) (.int x_feltMany) w_many w_heardOf w_heardBy (.int x_heardMany) w_worth (.int x_drawn) (.int x_came) w_kept w_isKept w_keptCame), (q_row, aJ cT 16 u_38.2)]) C0 lk_X8_249 (c_X8_tell l D cT F h s1_38 (.ref q_now) x_arches x_cats w_text x_typed q_row u_21.1 (0 : Int32) u_27.1 u_27.2.1 u_27.2.2.1 u_27.2.2.2.1 u_27.2.2.2.2.1 w_told (.ref q_rule) w_otherRule x_ruleSize u_27.2.2.2.2.2.1 (.ref q_asked) w_undos x_undoMany w_aside w_then w_hold x_dropped w_acts w_guarded w_train x_trolleyEnd (.ref q_feltOf) (.ref q_feltBy) x_feltMany w_many w_heardOf w_heardBy x_heardMany w_worth x_drawn x_came w_kept w_isKept w_keptCame u_21.2 _ hg) hP hD hS hA [0, 6] [1, 2, 3, 4, 5] (by decide +kernel) rfl rfl (fun _ => rfl) rfl rfl ⟨Nat.le_of_ble_eq_true rfl, Nat.le_of_ble_eq_true rfl⟩ rfl hl.1 rfl (Nat.le_of_ble_eq_true rfl) dX8_fits_38 ⟨Nat.le_of_ble_eq_true rfl, Nat.le_of_ble_eq_true rfl⟩ ?_
    intro u_38 H locs hg hP hD hS
    refine lv_iload_n hx hb dX8_fits_41 rfl (lv_at hl 0 rfl) ?_
    exact k_iret C0 hr (u_38.1, (0 : Int32), u_27.1, u_27.2.1, u_27.2.2.1, u_27.2.2.2.1, u_27.2.2.2.2.1, u_27.2.2.2.2.2.1, u_27.2.2.2.2.2.2, u_38.2) hg (subP hP [5, 0, 1, 2, 3, 4, 6] rfl) (hD.sub [5, 0, 1, 2, 3, 4, 6] (nd2_ok _ (by decide +kernel)) rfl) hS dX8_fits_42
  unfold p_X8_fits at hg
  refine lv_aload_n hx hb dX8_fits_0 rfl (lv_at hl 0 rfl) ?_
  refine lv_iconst (v := (0 : Int32)) hx hb dX8_fits_1 (by decide) ?_
  refine pf_X8_82 C0 hP hD hS 0 rfl (Nat.le_of_ble_eq_true rfl) (ws2 := [(h, oX8 (.ref q_now) (.int x_arches) (.int x_cats) w_text (.int x_typed) (.ref q_row) (.int x_rowMany) (.int (0 : Int32)) w_read (.int x_length) (.int x_top) (.int x_at) (.int x_wrong) w_told (.ref q_rule) w_otherRule (.int x_ruleSize) (.int x_isAsked) (.ref q_asked) w_undos (.int x_undoMany) w_aside w_then w_hold (.int x_dropped) w_acts w_guarded w_train (.int x_trolleyEnd) (.ref q_feltOf) (.ref q_feltBy) (.int x_feltMany) w_many w_heardOf w_heardBy (.int x_heardMany) w_worth (.int x_drawn) (.int x_came) w_kept w_isKept w_keptCame), (q_feltOf, aI cT 10 f_feltOf), (q_now, aI cT 47 f_now), (q_asked, aI cT 7 f_asked), (q_rule, aB cT 40 f_rule), (q_feltBy, aI cT 10 f_feltBy), (q_row, aJ cT 16 f_row)]) rfl dX8_fits_2 (fun H locs hP hD hS => ?_)
  refine lv_aload_n hx hb dX8_fits_5 rfl (lv_at hl 0 rfl) ?_
  refine k_Vi (rest := []) (wr := [(q_row, aJ cT 16 f_row)]) (w2 := fun u_6 => [(q_row, aJ cT 16 f_row), (h, oX8 (.ref q_now) (.int x_arches) (.int x_cats) w_text (.int x_typed) (.ref q_row) (.int x_rowMany) (.int (0 : Int32)) u_6.1 (.int u_6.2.1) (.int u_6.2.2.1) (.int u_6.2.2.2.1) (.int u_6.2.2.2.2.1) w_told (.ref q_rule) w_otherRule (.int x_ruleSize) (.int u_6.2.2.2.2.2.1) (.ref q_asked) w_undos (.int x_undoMany) w_aside w_then w_hold (.int x_dropped) w_acts w_guarded w_train (.int x_trolleyEnd) (.ref q_feltOf) (.ref q_feltBy) (.int x_feltMany) w_many w_heardOf w_heardBy (.int x_heardMany) w_worth (.int x_drawn) (.int x_came) w_kept w_isKept w_keptCame), (q_feltOf, aI cT 10 f_feltOf), (q_now, aI cT 47 f_now), (q_asked, aI cT 7 u_6.2.2.2.2.2.2), (q_rule, aB cT 40 f_rule), (q_feltBy, aI cT 10 f_feltBy)]) C0 lk_X8_335 (c_X8_grieving l D cT F h q_now x_arches x_cats w_text x_typed (.ref q_row) x_rowMany (0 : Int32) w_read x_length x_top x_at x_wrong w_told q_rule w_otherRule x_ruleSize x_isAsked q_asked w_undos x_undoMany w_aside w_then w_hold x_dropped w_acts w_guarded w_train x_trolleyEnd q_feltOf q_feltBy x_feltMany w_many w_heardOf w_heardBy x_heardMany w_worth x_drawn x_came w_kept w_isKept w_keptCame f_feltOf f_now f_asked f_rule f_feltBy _ hg) hP hD hS hA [0, 1, 2, 3, 4, 5] [6] (by decide +kernel) rfl rfl (fun _ => rfl) rfl rfl ⟨Nat.le_of_ble_eq_true rfl, Nat.le_of_ble_eq_true rfl⟩ rfl hl.1 rfl (Nat.le_of_ble_eq_true rfl) dX8_fits_6 ⟨Nat.le_of_ble_eq_true rfl, Nat.le_of_ble_eq_true rfl⟩ ?_
  intro r_6 u_6 H locs hg hP hD hS
  refine lv_istore_n (lv' := [(1, .int r_6), (0, .ref h)]) hx hb dX8_fits_9 rfl hl (by decide) rfl (fun ls hl => ?_)
  refine lv_aload_n hx hb dX8_fits_10 rfl (lv_at hl 1 rfl) ?_
  refine lv_iconst (v := (0 : Int32)) hx hb dX8_fits_11 (by decide) ?_
  refine pf_X8_86 C0 hP hD hS 1 rfl (Nat.le_of_ble_eq_true rfl) (ws2 := [(q_row, aJ cT 16 f_row), (h, oX8 (.ref q_now) (.int x_arches) (.int x_cats) w_text (.int x_typed) (.ref q_row) (.int (0 : Int32)) (.int (0 : Int32)) u_6.1 (.int u_6.2.1) (.int u_6.2.2.1) (.int u_6.2.2.2.1) (.int u_6.2.2.2.2.1) w_told (.ref q_rule) w_otherRule (.int x_ruleSize) (.int u_6.2.2.2.2.2.1) (.ref q_asked) w_undos (.int x_undoMany) w_aside w_then w_hold (.int x_dropped) w_acts w_guarded w_train (.int x_trolleyEnd) (.ref q_feltOf) (.ref q_feltBy) (.int x_feltMany) w_many w_heardOf w_heardBy (.int x_heardMany) w_worth (.int x_drawn) (.int x_came) w_kept w_isKept w_keptCame), (q_feltOf, aI cT 10 f_feltOf), (q_now, aI cT 47 f_now), (q_asked, aI cT 7 u_6.2.2.2.2.2.2), (q_rule, aB cT 40 f_rule), (q_feltBy, aI cT 10 f_feltBy)]) rfl dX8_fits_12 (fun H locs hP hD hS => ?_)
  refine lv_aload_n hx hb dX8_fits_15 rfl (lv_at hl 1 rfl) ?_
  refine lv_iload_n hx hb dX8_fits_16 rfl (lv_at hl 0 rfl) ?_
  refine k_Sxi (rest := [.ref h]) C0 lk_X8_202 (c_J6_bitCount_0f7a4 l D cT F r_6 _ hg) hP hD hS hA [] (by decide +kernel) rfl ⟨Nat.le_of_ble_eq_true rfl, Nat.le_of_ble_eq_true rfl⟩ rfl hl.1 rfl (Nat.le_of_ble_eq_true rfl) dX8_fits_17 ⟨Nat.le_of_ble_eq_true rfl, Nat.le_of_ble_eq_true rfl⟩ (fun r_17 hg => ?_)
  refine lv_i2l (v := (r_17.toInt64)) hx hb dX8_fits_20 rfl ?_
  refine k_Vv (rest := []) (wr := [(q_feltOf, aI cT 10 f_feltOf), (q_now, aI cT 47 f_now), (q_asked, aI cT 7 u_6.2.2.2.2.2.2), (q_rule, aB cT 40 f_rule), (q_feltBy, aI cT 10 f_feltBy)]) (w2 := fun u_21 => [(q_feltOf, aI cT 10 f_feltOf), (q_now, aI cT 47 f_now), (q_asked, aI cT 7 u_6.2.2.2.2.2.2), (q_rule, aB cT 40 f_rule), (q_feltBy, aI cT 10 f_feltBy), (h, oX8 (.ref q_now) (.int x_arches) (.int x_cats) w_text (.int x_typed) (.ref q_row) (.int u_21.1) (.int (0 : Int32)) u_6.1 (.int u_6.2.1) (.int u_6.2.2.1) (.int u_6.2.2.2.1) (.int u_6.2.2.2.2.1) w_told (.ref q_rule) w_otherRule (.int x_ruleSize) (.int u_6.2.2.2.2.2.1) (.ref q_asked) w_undos (.int x_undoMany) w_aside w_then w_hold (.int x_dropped) w_acts w_guarded w_train (.int x_trolleyEnd) (.ref q_feltOf) (.ref q_feltBy) (.int x_feltMany) w_many w_heardOf w_heardBy (.int x_heardMany) w_worth (.int x_drawn) (.int x_came) w_kept w_isKept w_keptCame), (q_row, aJ cT 16 u_21.2)]) C0 lk_X8_249 (c_X8_tell l D cT F h (r_17.toInt64) (.ref q_now) x_arches x_cats w_text x_typed q_row (0 : Int32) (0 : Int32) u_6.1 u_6.2.1 u_6.2.2.1 u_6.2.2.2.1 u_6.2.2.2.2.1 w_told (.ref q_rule) w_otherRule x_ruleSize u_6.2.2.2.2.2.1 (.ref q_asked) w_undos x_undoMany w_aside w_then w_hold x_dropped w_acts w_guarded w_train x_trolleyEnd (.ref q_feltOf) (.ref q_feltBy) x_feltMany w_many w_heardOf w_heardBy x_heardMany w_worth x_drawn x_came w_kept w_isKept w_keptCame f_row _ hg) hP hD hS hA [1, 0] [2, 3, 4, 5, 6] (by decide +kernel) rfl rfl (fun _ => rfl) rfl rfl ⟨Nat.le_of_ble_eq_true rfl, Nat.le_of_ble_eq_true rfl⟩ rfl hl.1 rfl (Nat.le_of_ble_eq_true rfl) dX8_fits_21 ⟨Nat.le_of_ble_eq_true rfl, Nat.le_of_ble_eq_true rfl⟩ ?_
  intro u_21 H locs hg hP hD hS
  refine lv_aload_n hx hb dX8_fits_24 rfl (lv_at hl 1 rfl) ?_
  refine lv_aload_n hx hb dX8_fits_25 rfl (lv_at hl 1 rfl) ?_
  refine lv_iconst (v := (-1 : Int32)) hx hb dX8_fits_26 (by decide) ?_
  refine k_Vi (rest := [.ref h]) (wr := [(q_row, aJ cT 16 u_21.2)]) (w2 := fun u_27 => [(q_row, aJ cT 16 u_21.2), (h, oX8 (.ref q_now) (.int x_arches) (.int x_cats) w_text (.int x_typed) (.ref q_row) (.int u_21.1) (.int (0 : Int32)) u_27.1 (.int u_27.2.1) (.int u_27.2.2.1) (.int u_27.2.2.2.1) (.int u_27.2.2.2.2.1) w_told (.ref q_rule) w_otherRule (.int x_ruleSize) (.int u_27.2.2.2.2.2.1) (.ref q_asked) w_undos (.int x_undoMany) w_aside w_then w_hold (.int x_dropped) w_acts w_guarded w_train (.int x_trolleyEnd) (.ref q_feltOf) (.ref q_feltBy) (.int x_feltMany) w_many w_heardOf w_heardBy (.int x_heardMany) w_worth (.int x_drawn) (.int x_came) w_kept w_isKept w_keptCame), (q_feltOf, aI cT 10 f_feltOf), (q_now, aI cT 47 f_now), (q_asked, aI cT 7 u_27.2.2.2.2.2.2), (q_rule, aB cT 40 f_rule), (q_feltBy, aI cT 10 f_feltBy)]) C0 lk_X8_332 (c_X8_isFelt l D cT F h (-1 : Int32) q_now x_arches x_cats w_text x_typed (.ref q_row) u_21.1 (0 : Int32) u_6.1 u_6.2.1 u_6.2.2.1 u_6.2.2.2.1 u_6.2.2.2.2.1 w_told q_rule w_otherRule x_ruleSize u_6.2.2.2.2.2.1 q_asked w_undos x_undoMany w_aside w_then w_hold x_dropped w_acts w_guarded w_train x_trolleyEnd q_feltOf q_feltBy x_feltMany w_many w_heardOf w_heardBy x_heardMany w_worth x_drawn x_came w_kept w_isKept w_keptCame f_feltOf f_now u_6.2.2.2.2.2.2 f_rule f_feltBy _ hg) hP hD hS hA [5, 0, 1, 2, 3, 4] [6] (by decide +kernel) rfl rfl (fun _ => rfl) rfl rfl ⟨Nat.le_of_ble_eq_true rfl, Nat.le_of_ble_eq_true rfl⟩ rfl hl.1 rfl (Nat.le_of_ble_eq_true rfl) dX8_fits_27 ⟨Nat.le_of_ble_eq_true rfl, Nat.le_of_ble_eq_true rfl⟩ ?_
  intro r_27 u_27 H locs hg hP hD hS
  refine lv_if_eq (tgt := 37) hx hb dX8_fits_30 (by decide) (fun c_30 => ?_) (fun c_30 => ?_)
  · have hg := hg.1 c_30
    refine lv_lconst (v := (0 : Int64)) hx hb dX8_fits_37 (by decide) ?_
    exact L38 r_6 u_21 u_27 (0 : Int64) _ _ _ hg (subP hP [1, 2, 3, 4, 5, 6, 0] rfl) (hD.sub [1, 2, 3, 4, 5, 6, 0] (nd2_ok _ (by decide +kernel)) rfl) hS (lv_sub hl [0] rfl)
  have hg := hg.2 c_30
  refine lv_lconst (v := (1 : Int64)) hx hb dX8_fits_33 (by decide) ?_
  refine lv_goto (tgt := 38) hx hb dX8_fits_34 (by decide) ?_
  exact L38 r_6 u_21 u_27 (1 : Int64) _ _ _ hg (subP hP [1, 2, 3, 4, 5, 6, 0] rfl) (hD.sub [1, 2, 3, 4, 5, 6, 0] (nd2_ok _ (by decide +kernel)) rfl) hS (lv_sub hl [0] rfl)
theorem dX8_feels_0 : decode cX8_feels 0 = .ok (.aload_n 0, 1) := by decide +kernel
theorem dX8_feels_1 : decode cX8_feels 1 = .ok (.iconst 0, 1) := by decide +kernel
theorem dX8_feels_2 : decode cX8_feels 2 = .ok (.putfield 82, 3) := by decide +kernel
theorem dX8_feels_5 : decode cX8_feels 5 = .ok (.aload_n 0, 1) := by decide +kernel
theorem dX8_feels_6 : decode cX8_feels 6 = .ok (.invokevirtual 335, 3) := by decide +kernel
theorem dX8_feels_9 : decode cX8_feels 9 = .ok (.istore_n 1, 1) := by decide +kernel
theorem dX8_feels_10 : decode cX8_feels 10 = .ok (.iload_n 1, 1) := by decide +kernel
theorem dX8_feels_11 : decode cX8_feels 11 = .ok (.ifCond .eq 10, 3) := by decide +kernel
theorem dX8_feels_14 : decode cX8_feels 14 = .ok (.aload_n 0, 1) := by decide +kernel
theorem dX8_feels_15 : decode cX8_feels 15 = .ok (.getfield 89, 3) := by decide +kernel
theorem dX8_feels_18 : decode cX8_feels 18 = .ok (.ifCond .ne 6, 3) := by decide +kernel
theorem dX8_feels_21 : decode cX8_feels 21 = .ok (.bipush (-2), 2) := by decide +kernel
theorem dX8_feels_23 : decode cX8_feels 23 = .ok (.ireturn, 1) := by decide +kernel
theorem dX8_feels_24 : decode cX8_feels 24 = .ok (.iconst (-1), 1) := by decide +kernel
theorem dX8_feels_25 : decode cX8_feels 25 = .ok (.istore_n 2, 1) := by decide +kernel
theorem dX8_feels_26 : decode cX8_feels 26 = .ok (.ldc_w 301, 3) := by decide +kernel
theorem dX8_feels_29 : decode cX8_feels 29 = .ok (.istore_n 3, 1) := by decide +kernel
theorem dX8_feels_30 : decode cX8_feels 30 = .ok (.iconst 0, 1) := by decide +kernel
theorem dX8_feels_31 : decode cX8_feels 31 = .ok (.istore 4, 2) := by decide +kernel
theorem dX8_feels_33 : decode cX8_feels 33 = .ok (.iload 4, 2) := by decide +kernel
theorem dX8_feels_35 : decode cX8_feels 35 = .ok (.aload_n 0, 1) := by decide +kernel
theorem dX8_feels_36 : decode cX8_feels 36 = .ok (.getfield 89, 3) := by decide +kernel
theorem dX8_feels_39 : decode cX8_feels 39 = .ok (.if_icmp .ge 116, 3) := by decide +kernel
theorem dX8_feels_42 : decode cX8_feels 42 = .ok (.iconst 0, 1) := by decide +kernel
theorem dX8_feels_43 : decode cX8_feels 43 = .ok (.istore 5, 2) := by decide +kernel
theorem dX8_feels_45 : decode cX8_feels 45 = .ok (.iconst 0, 1) := by decide +kernel
theorem dX8_feels_46 : decode cX8_feels 46 = .ok (.istore 6, 2) := by decide +kernel
theorem dX8_feels_48 : decode cX8_feels 48 = .ok (.iload 6, 2) := by decide +kernel
theorem dX8_feels_50 : decode cX8_feels 50 = .ok (.bipush 72, 2) := by decide +kernel
theorem dX8_feels_52 : decode cX8_feels 52 = .ok (.if_icmp .gt 17, 3) := by decide +kernel
theorem dX8_feels_55 : decode cX8_feels 55 = .ok (.aload_n 0, 1) := by decide +kernel
theorem dX8_feels_56 : decode cX8_feels 56 = .ok (.getfield 60, 3) := by decide +kernel
theorem dX8_feels_59 : decode cX8_feels 59 = .ok (.iload 6, 2) := by decide +kernel
theorem dX8_feels_61 : decode cX8_feels 61 = .ok (.iconst 0, 1) := by decide +kernel
theorem dX8_feels_62 : decode cX8_feels 62 = .ok (.iastore, 1) := by decide +kernel
theorem dX8_feels_63 : decode cX8_feels 63 = .ok (.iinc 6 1, 3) := by decide +kernel
theorem dX8_feels_66 : decode cX8_feels 66 = .ok (.goto (-18), 3) := by decide +kernel
theorem dX8_feels_69 : decode cX8_feels 69 = .ok (.iconst 0, 1) := by decide +kernel
theorem dX8_feels_70 : decode cX8_feels 70 = .ok (.istore 6, 2) := by decide +kernel
theorem dX8_feels_72 : decode cX8_feels 72 = .ok (.iload 6, 2) := by decide +kernel
theorem dX8_feels_74 : decode cX8_feels 74 = .ok (.aload_n 0, 1) := by decide +kernel
theorem dX8_feels_75 : decode cX8_feels 75 = .ok (.getfield 96, 3) := by decide +kernel
theorem dX8_feels_78 : decode cX8_feels 78 = .ok (.if_icmp .ge 56, 3) := by decide +kernel
theorem dX8_feels_81 : decode cX8_feels 81 = .ok (.iload_n 1, 1) := by decide +kernel
theorem dX8_feels_82 : decode cX8_feels 82 = .ok (.iload 6, 2) := by decide +kernel
theorem dX8_feels_84 : decode cX8_feels 84 = .ok (.invokestatic 292, 3) := by decide +kernel
theorem dX8_feels_87 : decode cX8_feels 87 = .ok (.ifCond .ne 6, 3) := by decide +kernel
theorem dX8_feels_90 : decode cX8_feels 90 = .ok (.goto 38, 3) := by decide +kernel
theorem dX8_feels_93 : decode cX8_feels 93 = .ok (.aload_n 0, 1) := by decide +kernel
theorem dX8_feels_94 : decode cX8_feels 94 = .ok (.iload 4, 2) := by decide +kernel
theorem dX8_feels_96 : decode cX8_feels 96 = .ok (.iload 6, 2) := by decide +kernel
theorem dX8_feels_98 : decode cX8_feels 98 = .ok (.invokevirtual 329, 3) := by decide +kernel
theorem dX8_feels_101 : decode cX8_feels 101 = .ok (.istore 7, 2) := by decide +kernel
theorem dX8_feels_103 : decode cX8_feels 103 = .ok (.aload_n 0, 1) := by decide +kernel
theorem dX8_feels_104 : decode cX8_feels 104 = .ok (.getfield 60, 3) := by decide +kernel
theorem dX8_feels_107 : decode cX8_feels 107 = .ok (.iload 7, 2) := by decide +kernel
theorem dX8_feels_109 : decode cX8_feels 109 = .ok (.dup2, 1) := by decide +kernel
theorem dX8_feels_110 : decode cX8_feels 110 = .ok (.iaload, 1) := by decide +kernel
theorem dX8_feels_111 : decode cX8_feels 111 = .ok (.iconst 1, 1) := by decide +kernel
theorem dX8_feels_112 : decode cX8_feels 112 = .ok (.iadd, 1) := by decide +kernel
theorem dX8_feels_113 : decode cX8_feels 113 = .ok (.iastore, 1) := by decide +kernel
theorem dX8_feels_114 : decode cX8_feels 114 = .ok (.iload 5, 2) := by decide +kernel
theorem dX8_feels_116 : decode cX8_feels 116 = .ok (.aload_n 0, 1) := by decide +kernel
theorem dX8_feels_117 : decode cX8_feels 117 = .ok (.getfield 60, 3) := by decide +kernel
theorem dX8_feels_120 : decode cX8_feels 120 = .ok (.iload 7, 2) := by decide +kernel
theorem dX8_feels_122 : decode cX8_feels 122 = .ok (.iaload, 1) := by decide +kernel
theorem dX8_feels_123 : decode cX8_feels 123 = .ok (.invokestatic 195, 3) := by decide +kernel
theorem dX8_feels_126 : decode cX8_feels 126 = .ok (.istore 5, 2) := by decide +kernel
theorem dX8_feels_128 : decode cX8_feels 128 = .ok (.iinc 6 1, 3) := by decide +kernel
theorem dX8_feels_131 : decode cX8_feels 131 = .ok (.goto (-59), 3) := by decide +kernel
theorem dX8_feels_134 : decode cX8_feels 134 = .ok (.iload 5, 2) := by decide +kernel
theorem dX8_feels_136 : decode cX8_feels 136 = .ok (.iload_n 3, 1) := by decide +kernel
theorem dX8_feels_137 : decode cX8_feels 137 = .ok (.if_icmp .lt 6, 3) := by decide +kernel
theorem dX8_feels_140 : decode cX8_feels 140 = .ok (.goto 9, 3) := by decide +kernel
theorem dX8_feels_143 : decode cX8_feels 143 = .ok (.iload 4, 2) := by decide +kernel
theorem dX8_feels_145 : decode cX8_feels 145 = .ok (.istore_n 2, 1) := by decide +kernel
theorem dX8_feels_146 : decode cX8_feels 146 = .ok (.iload 5, 2) := by decide +kernel
theorem dX8_feels_148 : decode cX8_feels 148 = .ok (.istore_n 3, 1) := by decide +kernel
theorem dX8_feels_149 : decode cX8_feels 149 = .ok (.iinc 4 1, 3) := by decide +kernel
theorem dX8_feels_152 : decode cX8_feels 152 = .ok (.goto (-119), 3) := by decide +kernel
theorem dX8_feels_155 : decode cX8_feels 155 = .ok (.aload_n 0, 1) := by decide +kernel
theorem dX8_feels_156 : decode cX8_feels 156 = .ok (.iconst 0, 1) := by decide +kernel
theorem dX8_feels_157 : decode cX8_feels 157 = .ok (.putfield 86, 3) := by decide +kernel
theorem dX8_feels_160 : decode cX8_feels 160 = .ok (.aload_n 0, 1) := by decide +kernel
theorem dX8_feels_161 : decode cX8_feels 161 = .ok (.iload_n 3, 1) := by decide +kernel
theorem dX8_feels_162 : decode cX8_feels 162 = .ok (.i2l, 1) := by decide +kernel
theorem dX8_feels_163 : decode cX8_feels 163 = .ok (.invokevirtual 249, 3) := by decide +kernel
theorem dX8_feels_166 : decode cX8_feels 166 = .ok (.iload_n 2, 1) := by decide +kernel
theorem dX8_feels_167 : decode cX8_feels 167 = .ok (.ireturn, 1) := by decide +kernel
def p_X8_feels_149 (F : Nat) (y4_33 : Int32) (x_read_72 : Value) (x_length_72 : Int32) (x_top_72 : Int32) (x_at_72 : Int32) (x_wrong_72 : Int32) (x_isAsked_72 : Int32) (f_asked_72 : Nat → Int32) (f_many_72 : Nat → Int32) (k33 : Int32 → Int32 → Int32 → Value → Int32 → Int32 → Int32 → Int32 → Int32 → (Nat → Int32) → (Nat → Int32) → Prop) (Post : Int32 → (Int32 × Int32 × Value × Int32 × Int32 × Int32 × Int32 × Int32 × (Nat → Int32) × (Nat → Int32) × (Nat → Int64)) → Prop) (y2_149 : Int32) (y3_149 : Int32) : Prop := (k33 (y4_33 + (1 : Int32)) y3_149 y2_149 x_read_72 x_length_72 x_top_72 x_at_72 x_wrong_72 x_isAsked_72 f_asked_72 f_many_72)
def p_X8_feels_128 (F : Nat) (y6_72 : Int32) (k33 : Int32 → Int32 → Int32 → Value → Int32 → Int32 → Int32 → Int32 → Int32 → (Nat → Int32) → (Nat → Int32) → Prop) (k72 : Int32 → Int32 → Value → Int32 → Int32 → Int32 → Int32 → Int32 → (Nat → Int32) → (Nat → Int32) → Prop) (Post : Int32 → (Int32 × Int32 × Value × Int32 × Int32 × Int32 × Int32 × Int32 × (Nat → Int32) × (Nat → Int32) × (Nat → Int64)) → Prop) (y5_128 : Int32) (x_read_128 : Value) (x_length_128 : Int32) (x_top_128 : Int32) (x_at_128 : Int32) (x_wrong_128 : Int32) (x_isAsked_128 : Int32) (f_asked_128 : Nat → Int32) (f_many_128 : Nat → Int32) : Prop := (k72 (y6_72 + (1 : Int32)) y5_128 x_read_128 x_length_128 x_top_128 x_at_128 x_wrong_128 x_isAsked_128 f_asked_128 f_many_128)
noncomputable def p_X8_feels_72 (F : Nat) (x_cats : Int32) (q_rule : Nat) (x_ruleSize : Int32) (f_now : Nat → Int32) (f_rule : Nat → Int32) (r_6 : Int32) (y4_33 : Int32) (y3_33 : Int32) (y2_33 : Int32) (k33 : Int32 → Int32 → Int32 → Value → Int32 → Int32 → Int32 → Int32 → Int32 → (Nat → Int32) → (Nat → Int32) → Prop) (Post : Int32 → (Int32 × Int32 × Value × Int32 × Int32 × Int32 × Int32 × Int32 × (Nat → Int32) × (Nat → Int32) × (Nat → Int64)) → Prop) (n : Nat) : Int32 → Int32 → Value → Int32 → Int32 → Int32 → Int32 → Int32 → (Nat → Int32) → (Nat → Int32) → Prop := Nat.rec (motive := fun _ => Int32 → Int32 → Value → Int32 → Int32 → Int32 → Int32 → Int32 → (Nat → Int32) → (Nat → Int32) → Prop) (fun _ _ _ _ _ _ _ _ _ _ => False) (fun _ k72 => fun (y6_72 : Int32) (y5_72 : Int32) (x_read_72 : Value) (x_length_72 : Int32) (x_top_72 : Int32) (x_at_72 : Int32) (x_wrong_72 : Int32) (x_isAsked_72 : Int32) (f_asked_72 : Nat → Int32) (f_many_72 : Nat → Int32) => ((x_cats ≤ y6_72 → ((y5_72 < y3_33 → (p_X8_feels_149 F y4_33 x_read_72 x_length_72 x_top_72 x_at_72 x_wrong_72 x_isAsked_72 f_asked_72 f_many_72 k33 Post y4_33 y5_72)) ∧ (¬ y5_72 < y3_33 → (p_X8_feels_149 F y4_33 x_read_72 x_length_72 x_top_72 x_at_72 x_wrong_72 x_isAsked_72 f_asked_72 f_many_72 k33 Post y2_33 y3_33)))) ∧ (¬ x_cats ≤ y6_72 → (p_X8_has F r_6 y6_72 (fun (r_84 : Int32) => ((¬ r_84 = 0 → (p_X8_holdWithout F y4_33 y6_72 x_cats x_read_72 x_length_72 x_top_72 x_at_72 x_wrong_72 q_rule x_ruleSize x_isAsked_72 f_now f_asked_72 f_rule (fun (r_98 : Int32) (u_98 : (Value × Int32 × Int32 × Int32 × Int32 × Int32 × (Nat → Int32))) => (vp_in r_98 73 ∧ (vp_in r_98 73 ∧ (vp_in r_98 73 ∧ (p_X8_feels_128 F y6_72 k33 k72 Post (if y5_72 < ((upd f_many_72 r_98.toNatClampNeg ((f_many_72 r_98.toNatClampNeg) + (1 : Int32))) r_98.toNatClampNeg) then ((upd f_many_72 r_98.toNatClampNeg ((f_many_72 r_98.toNatClampNeg) + (1 : Int32))) r_98.toNatClampNeg) else y5_72) u_98.1 u_98.2.1 u_98.2.2.1 u_98.2.2.2.1 u_98.2.2.2.2.1 u_98.2.2.2.2.2.1 u_98.2.2.2.2.2.2 (upd f_many_72 r_98.toNatClampNeg ((f_many_72 r_98.toNatClampNeg) + (1 : Int32)))))))))) ∧ (r_84 = 0 → (p_X8_feels_128 F y6_72 k33 k72 Post y5_72 x_read_72 x_length_72 x_top_72 x_at_72 x_wrong_72 x_isAsked_72 f_asked_72 f_many_72)))))))) n
theorem p_X8_feels_72_s (F : Nat) (x_cats : Int32) (q_rule : Nat) (x_ruleSize : Int32) (f_now : Nat → Int32) (f_rule : Nat → Int32) (r_6 : Int32) (y4_33 : Int32) (y3_33 : Int32) (y2_33 : Int32) (k33 : Int32 → Int32 → Int32 → Value → Int32 → Int32 → Int32 → Int32 → Int32 → (Nat → Int32) → (Nat → Int32) → Prop) (Post : Int32 → (Int32 × Int32 × Value × Int32 × Int32 × Int32 × Int32 × Int32 × (Nat → Int32) × (Nat → Int32) × (Nat → Int64)) → Prop) (n : Nat) (y6_72 : Int32) (y5_72 : Int32) (x_read_72 : Value) (x_length_72 : Int32) (x_top_72 : Int32) (x_at_72 : Int32) (x_wrong_72 : Int32) (x_isAsked_72 : Int32) (f_asked_72 : Nat → Int32) (f_many_72 : Nat → Int32) : p_X8_feels_72 F x_cats q_rule x_ruleSize f_now f_rule r_6 y4_33 y3_33 y2_33 k33 Post (n + 1) y6_72 y5_72 x_read_72 x_length_72 x_top_72 x_at_72 x_wrong_72 x_isAsked_72 f_asked_72 f_many_72 = ((x_cats ≤ y6_72 → ((y5_72 < y3_33 → (p_X8_feels_149 F y4_33 x_read_72 x_length_72 x_top_72 x_at_72 x_wrong_72 x_isAsked_72 f_asked_72 f_many_72 k33 Post y4_33 y5_72)) ∧ (¬ y5_72 < y3_33 → (p_X8_feels_149 F y4_33 x_read_72 x_length_72 x_top_72 x_at_72 x_wrong_72 x_isAsked_72 f_asked_72 f_many_72 k33 Post y2_33 y3_33)))) ∧ (¬ x_cats ≤ y6_72 → (p_X8_has F r_6 y6_72 (fun (r_84 : Int32) => ((¬ r_84 = 0 → (p_X8_holdWithout F y4_33 y6_72 x_cats x_read_72 x_length_72 x_top_72 x_at_72 x_wrong_72 q_rule x_ruleSize x_isAsked_72 f_now f_asked_72 f_rule (fun (r_98 : Int32) (u_98 : (Value × Int32 × Int32 × Int32 × Int32 × Int32 × (Nat → Int32))) => (vp_in r_98 73 ∧ (vp_in r_98 73 ∧ (vp_in r_98 73 ∧ (p_X8_feels_128 F y6_72 k33 (p_X8_feels_72 F x_cats q_rule x_ruleSize f_now f_rule r_6 y4_33 y3_33 y2_33 k33 Post n) Post (if y5_72 < ((upd f_many_72 r_98.toNatClampNeg ((f_many_72 r_98.toNatClampNeg) + (1 : Int32))) r_98.toNatClampNeg) then ((upd f_many_72 r_98.toNatClampNeg ((f_many_72 r_98.toNatClampNeg) + (1 : Int32))) r_98.toNatClampNeg) else y5_72) u_98.1 u_98.2.1 u_98.2.2.1 u_98.2.2.2.1 u_98.2.2.2.2.1 u_98.2.2.2.2.2.1 u_98.2.2.2.2.2.2 (upd f_many_72 r_98.toNatClampNeg ((f_many_72 r_98.toNatClampNeg) + (1 : Int32)))))))))) ∧ (r_84 = 0 → (p_X8_feels_128 F y6_72 k33 (p_X8_feels_72 F x_cats q_rule x_ruleSize f_now f_rule r_6 y4_33 y3_33 y2_33 k33 Post n) Post y5_72 x_read_72 x_length_72 x_top_72 x_at_72 x_wrong_72 x_isAsked_72 f_asked_72 f_many_72))))))) := rfl
noncomputable def p_X8_feels_48 (F : Nat) (x_cats : Int32) (q_rule : Nat) (x_ruleSize : Int32) (f_now : Nat → Int32) (f_rule : Nat → Int32) (r_6 : Int32) (y4_33 : Int32) (y3_33 : Int32) (y2_33 : Int32) (x_read_33 : Value) (x_length_33 : Int32) (x_top_33 : Int32) (x_at_33 : Int32) (x_wrong_33 : Int32) (x_isAsked_33 : Int32) (f_asked_33 : Nat → Int32) (k33 : Int32 → Int32 → Int32 → Value → Int32 → Int32 → Int32 → Int32 → Int32 → (Nat → Int32) → (Nat → Int32) → Prop) (Post : Int32 → (Int32 × Int32 × Value × Int32 × Int32 × Int32 × Int32 × Int32 × (Nat → Int32) × (Nat → Int32) × (Nat → Int64)) → Prop) (n : Nat) : Int32 → (Nat → Int32) → Prop := Nat.rec (motive := fun _ => Int32 → (Nat → Int32) → Prop) (fun _ _ => False) (fun _ k48 => fun (y6_48 : Int32) (f_many_48 : Nat → Int32) => (((72 : Int32) < y6_48 → (p_X8_feels_72 F x_cats q_rule x_ruleSize f_now f_rule r_6 y4_33 y3_33 y2_33 k33 Post F (0 : Int32) (0 : Int32) x_read_33 x_length_33 x_top_33 x_at_33 x_wrong_33 x_isAsked_33 f_asked_33 f_many_48)) ∧ (¬ (72 : Int32) < y6_48 → (vp_in y6_48 73 ∧ (k48 (y6_48 + (1 : Int32)) (upd f_many_48 y6_48.toNatClampNeg (0 : Int32))))))) n
theorem p_X8_feels_48_s (F : Nat) (x_cats : Int32) (q_rule : Nat) (x_ruleSize : Int32) (f_now : Nat → Int32) (f_rule : Nat → Int32) (r_6 : Int32) (y4_33 : Int32) (y3_33 : Int32) (y2_33 : Int32) (x_read_33 : Value) (x_length_33 : Int32) (x_top_33 : Int32) (x_at_33 : Int32) (x_wrong_33 : Int32) (x_isAsked_33 : Int32) (f_asked_33 : Nat → Int32) (k33 : Int32 → Int32 → Int32 → Value → Int32 → Int32 → Int32 → Int32 → Int32 → (Nat → Int32) → (Nat → Int32) → Prop) (Post : Int32 → (Int32 × Int32 × Value × Int32 × Int32 × Int32 × Int32 × Int32 × (Nat → Int32) × (Nat → Int32) × (Nat → Int64)) → Prop) (n : Nat) (y6_48 : Int32) (f_many_48 : Nat → Int32) : p_X8_feels_48 F x_cats q_rule x_ruleSize f_now f_rule r_6 y4_33 y3_33 y2_33 x_read_33 x_length_33 x_top_33 x_at_33 x_wrong_33 x_isAsked_33 f_asked_33 k33 Post (n + 1) y6_48 f_many_48 = (((72 : Int32) < y6_48 → (p_X8_feels_72 F x_cats q_rule x_ruleSize f_now f_rule r_6 y4_33 y3_33 y2_33 k33 Post F (0 : Int32) (0 : Int32) x_read_33 x_length_33 x_top_33 x_at_33 x_wrong_33 x_isAsked_33 f_asked_33 f_many_48)) ∧ (¬ (72 : Int32) < y6_48 → (vp_in y6_48 73 ∧ ((p_X8_feels_48 F x_cats q_rule x_ruleSize f_now f_rule r_6 y4_33 y3_33 y2_33 x_read_33 x_length_33 x_top_33 x_at_33 x_wrong_33 x_isAsked_33 f_asked_33 k33 Post n) (y6_48 + (1 : Int32)) (upd f_many_48 y6_48.toNatClampNeg (0 : Int32)))))) := rfl
noncomputable def p_X8_feels_33 (F : Nat) (x_arches : Int32) (x_cats : Int32) (q_rule : Nat) (x_ruleSize : Int32) (f_now : Nat → Int32) (f_rule : Nat → Int32) (f_row : Nat → Int64) (r_6 : Int32) (Post : Int32 → (Int32 × Int32 × Value × Int32 × Int32 × Int32 × Int32 × Int32 × (Nat → Int32) × (Nat → Int32) × (Nat → Int64)) → Prop) (n : Nat) : Int32 → Int32 → Int32 → Value → Int32 → Int32 → Int32 → Int32 → Int32 → (Nat → Int32) → (Nat → Int32) → Prop := Nat.rec (motive := fun _ => Int32 → Int32 → Int32 → Value → Int32 → Int32 → Int32 → Int32 → Int32 → (Nat → Int32) → (Nat → Int32) → Prop) (fun _ _ _ _ _ _ _ _ _ _ _ => False) (fun _ k33 => fun (y4_33 : Int32) (y3_33 : Int32) (y2_33 : Int32) (x_read_33 : Value) (x_length_33 : Int32) (x_top_33 : Int32) (x_at_33 : Int32) (x_wrong_33 : Int32) (x_isAsked_33 : Int32) (f_asked_33 : Nat → Int32) (f_many_33 : Nat → Int32) => ((x_arches ≤ y4_33 → (p_X8_tell F (y3_33.toInt64) (0 : Int32) f_row (fun (u_163 : (Int32 × (Nat → Int64))) => (Post y2_33 (u_163.1, (0 : Int32), x_read_33, x_length_33, x_top_33, x_at_33, x_wrong_33, x_isAsked_33, f_asked_33, f_many_33, u_163.2))))) ∧ (¬ x_arches ≤ y4_33 → (p_X8_feels_48 F x_cats q_rule x_ruleSize f_now f_rule r_6 y4_33 y3_33 y2_33 x_read_33 x_length_33 x_top_33 x_at_33 x_wrong_33 x_isAsked_33 f_asked_33 k33 Post F (0 : Int32) f_many_33)))) n
theorem p_X8_feels_33_s (F : Nat) (x_arches : Int32) (x_cats : Int32) (q_rule : Nat) (x_ruleSize : Int32) (f_now : Nat → Int32) (f_rule : Nat → Int32) (f_row : Nat → Int64) (r_6 : Int32) (Post : Int32 → (Int32 × Int32 × Value × Int32 × Int32 × Int32 × Int32 × Int32 × (Nat → Int32) × (Nat → Int32) × (Nat → Int64)) → Prop) (n : Nat) (y4_33 : Int32) (y3_33 : Int32) (y2_33 : Int32) (x_read_33 : Value) (x_length_33 : Int32) (x_top_33 : Int32) (x_at_33 : Int32) (x_wrong_33 : Int32) (x_isAsked_33 : Int32) (f_asked_33 : Nat → Int32) (f_many_33 : Nat → Int32) : p_X8_feels_33 F x_arches x_cats q_rule x_ruleSize f_now f_rule f_row r_6 Post (n + 1) y4_33 y3_33 y2_33 x_read_33 x_length_33 x_top_33 x_at_33 x_wrong_33 x_isAsked_33 f_asked_33 f_many_33 = ((x_arches ≤ y4_33 → (p_X8_tell F (y3_33.toInt64) (0 : Int32) f_row (fun (u_163 : (Int32 × (Nat → Int64))) => (Post y2_33 (u_163.1, (0 : Int32), x_read_33, x_length_33, x_top_33, x_at_33, x_wrong_33, x_isAsked_33, f_asked_33, f_many_33, u_163.2))))) ∧ (¬ x_arches ≤ y4_33 → (p_X8_feels_48 F x_cats q_rule x_ruleSize f_now f_rule r_6 y4_33 y3_33 y2_33 x_read_33 x_length_33 x_top_33 x_at_33 x_wrong_33 x_isAsked_33 f_asked_33 (p_X8_feels_33 F x_arches x_cats q_rule x_ruleSize f_now f_rule f_row r_6 Post n) Post F (0 : Int32) f_many_33))) := rfl
def p_X8_feels (F : Nat) (x_arches : Int32) (x_cats : Int32) (x_rowMany : Int32) (w_read : Value) (x_length : Int32) (x_top : Int32) (x_at : Int32) (x_wrong : Int32) (q_rule : Nat) (x_ruleSize : Int32) (x_isAsked : Int32) (x_feltMany : Int32) (f_feltOf : Nat → Int32) (f_now : Nat → Int32) (f_asked : Nat → Int32) (f_rule : Nat → Int32) (f_feltBy : Nat → Int32) (f_many : Nat → Int32) (f_row : Nat → Int64) (Post : Int32 → (Int32 × Int32 × Value × Int32 × Int32 × Int32 × Int32 × Int32 × (Nat → Int32) × (Nat → Int32) × (Nat → Int64)) → Prop) : Prop := (p_X8_grieving F x_cats w_read x_length x_top x_at x_wrong q_rule x_ruleSize x_isAsked x_feltMany f_feltOf f_now f_asked f_rule f_feltBy (fun (r_6 : Int32) (u_6 : (Value × Int32 × Int32 × Int32 × Int32 × Int32 × (Nat → Int32))) => ((r_6 = 0 → (Post (-2 : Int32) (x_rowMany, (0 : Int32), u_6.1, u_6.2.1, u_6.2.2.1, u_6.2.2.2.1, u_6.2.2.2.2.1, u_6.2.2.2.2.2.1, u_6.2.2.2.2.2.2, f_many, f_row))) ∧ (¬ r_6 = 0 → ((¬ x_arches = 0 → (p_X8_feels_33 F x_arches x_cats q_rule x_ruleSize f_now f_rule f_row r_6 Post F (0 : Int32) (1000000 : Int32) (-1 : Int32) u_6.1 u_6.2.1 u_6.2.2.1 u_6.2.2.2.1 u_6.2.2.2.2.1 u_6.2.2.2.2.2.1 u_6.2.2.2.2.2.2 f_many)) ∧ (x_arches = 0 → (Post (-2 : Int32) (x_rowMany, (0 : Int32), u_6.1, u_6.2.1, u_6.2.2.1, u_6.2.2.2.1, u_6.2.2.2.2.1, u_6.2.2.2.2.2.1, u_6.2.2.2.2.2.2, f_many, f_row))))))))
set_option maxHeartbeats 4000000 in
set_option maxRecDepth 100000 in
theorem c_X8_feels (l : Launch) (D : va_G) (cT : Nat → ClassId) (F : Nat) (h : Nat) (q_now : Nat) (x_arches : Int32) (x_cats : Int32) (w_text : Value) (x_typed : Int32) (q_row : Nat) (x_rowMany : Int32) (x_thrown : Int32) (w_read : Value) (x_length : Int32) (x_top : Int32) (x_at : Int32) (x_wrong : Int32) (w_told : Value) (q_rule : Nat) (w_otherRule : Value) (x_ruleSize : Int32) (x_isAsked : Int32) (q_asked : Nat) (w_undos : Value) (x_undoMany : Int32) (w_aside : Value) (w_then : Value) (w_hold : Value) (x_dropped : Int32) (w_acts : Value) (w_guarded : Value) (w_train : Value) (x_trolleyEnd : Int32) (q_feltOf : Nat) (q_feltBy : Nat) (x_feltMany : Int32) (q_many : Nat) (w_heardOf : Value) (w_heardBy : Value) (x_heardMany : Int32) (w_worth : Value) (x_drawn : Int32) (x_came : Int32) (w_kept : Value) (w_isKept : Value) (w_keptCame : Value) (f_feltOf : Nat → Int32) (f_now : Nat → Int32) (f_asked : Nat → Int32) (f_rule : Nat → Int32) (f_feltBy : Nat → Int32) (f_many : Nat → Int32) (f_row : Nat → Int64) (Post : Int32 → (Int32 × Int32 × Value × Int32 × Int32 × Int32 × Int32 × Int32 × (Nat → Int32) × (Nat → Int32) × (Nat → Int64)) → Prop) (hg : p_X8_feels F x_arches x_cats x_rowMany w_read x_length x_top x_at x_wrong q_rule x_ruleSize x_isAsked x_feltMany f_feltOf f_now f_asked f_rule f_feltBy f_many f_row Post) : MWi l D cT yX8_feels cX8_feels 8 (some .int) 328 10240 0 0 [.ref h] [(h, oX8 (.ref q_now) (.int x_arches) (.int x_cats) w_text (.int x_typed) (.ref q_row) (.int x_rowMany) (.int x_thrown) w_read (.int x_length) (.int x_top) (.int x_at) (.int x_wrong) w_told (.ref q_rule) w_otherRule (.int x_ruleSize) (.int x_isAsked) (.ref q_asked) w_undos (.int x_undoMany) w_aside w_then w_hold (.int x_dropped) w_acts w_guarded w_train (.int x_trolleyEnd) (.ref q_feltOf) (.ref q_feltBy) (.int x_feltMany) (.ref q_many) w_heardOf w_heardBy (.int x_heardMany) w_worth (.int x_drawn) (.int x_came) w_kept w_isKept w_keptCame), (q_feltOf, aI cT 10 f_feltOf), (q_now, aI cT 47 f_now), (q_asked, aI cT 7 f_asked), (q_rule, aB cT 40 f_rule), (q_feltBy, aI cT 10 f_feltBy), (q_many, aI cT 73 f_many), (q_row, aJ cT 16 f_row)] Post (fun (u : (Int32 × Int32 × Value × Int32 × Int32 × Int32 × Int32 × Int32 × (Nat → Int32) × (Nat → Int32) × (Nat → Int64))) => [(h, oX8 (.ref q_now) (.int x_arches) (.int x_cats) w_text (.int x_typed) (.ref q_row) (.int u.1) (.int u.2.1) u.2.2.1 (.int u.2.2.2.1) (.int u.2.2.2.2.1) (.int u.2.2.2.2.2.1) (.int u.2.2.2.2.2.2.1) w_told (.ref q_rule) w_otherRule (.int x_ruleSize) (.int u.2.2.2.2.2.2.2.1) (.ref q_asked) w_undos (.int x_undoMany) w_aside w_then w_hold (.int x_dropped) w_acts w_guarded w_train (.int x_trolleyEnd) (.ref q_feltOf) (.ref q_feltBy) (.int x_feltMany) (.ref q_many) w_heardOf w_heardBy (.int x_heardMany) w_worth (.int x_drawn) (.int x_came) w_kept w_isKept w_keptCame), (q_feltOf, aI cT 10 f_feltOf), (q_now, aI cT 47 f_now), (q_asked, aI cT 7 u.2.2.2.2.2.2.2.2.1), (q_rule, aB cT 40 f_rule), (q_feltBy, aI cT 10 f_feltBy), (q_many, aI cT 73 u.2.2.2.2.2.2.2.2.2.1), (q_row, aJ cT 16 u.2.2.2.2.2.2.2.2.2.2)]) := by
  refine MWi.of (by decide) (Nat.le_of_ble_eq_true rfl) ?_
  intro p e s m below meth c A hA C0 hnm hr hP hD ls hl
  have hl : lv_has ls 8 [(0, .ref h)] := hl
  have hx := C0.x
  have hb := C0.b
  have hS : va_S A s.heap s.heap [] := va_S.rf
  have hP : va_P D cls9 [(h, oX8 (.ref q_now) (.int x_arches) (.int x_cats) w_text (.int x_typed) (.ref q_row) (.int x_rowMany) (.int x_thrown) w_read (.int x_length) (.int x_top) (.int x_at) (.int x_wrong) w_told (.ref q_rule) w_otherRule (.int x_ruleSize) (.int x_isAsked) (.ref q_asked) w_undos (.int x_undoMany) w_aside w_then w_hold (.int x_dropped) w_acts w_guarded w_train (.int x_trolleyEnd) (.ref q_feltOf) (.ref q_feltBy) (.int x_feltMany) (.ref q_many) w_heardOf w_heardBy (.int x_heardMany) w_worth (.int x_drawn) (.int x_came) w_kept w_isKept w_keptCame), (q_feltOf, aI cT 10 f_feltOf), (q_now, aI cT 47 f_now), (q_asked, aI cT 7 f_asked), (q_rule, aB cT 40 f_rule), (q_feltBy, aI cT 10 f_feltBy), (q_many, aI cT 73 f_many), (q_row, aJ cT 16 f_row)] s.heap := hP
  have hD : va_D A [(h, oX8 (.ref q_now) (.int x_arches) (.int x_cats) w_text (.int x_typed) (.ref q_row) (.int x_rowMany) (.int x_thrown) w_read (.int x_length) (.int x_top) (.int x_at) (.int x_wrong) w_told (.ref q_rule) w_otherRule (.int x_ruleSize) (.int x_isAsked) (.ref q_asked) w_undos (.int x_undoMany) w_aside w_then w_hold (.int x_dropped) w_acts w_guarded w_train (.int x_trolleyEnd) (.ref q_feltOf) (.ref q_feltBy) (.int x_feltMany) (.ref q_many) w_heardOf w_heardBy (.int x_heardMany) w_worth (.int x_drawn) (.int x_came) w_kept w_isKept w_keptCame), (q_feltOf, aI cT 10 f_feltOf), (q_now, aI cT 47 f_now), (q_asked, aI cT 7 f_asked), (q_rule, aB cT 40 f_rule), (q_feltBy, aI cT 10 f_feltBy), (q_many, aI cT 73 f_many), (q_row, aJ cT 16 f_row)] := hD
  have L33 : ∀ (r_6 : Int32) (n33 : Nat) (y4_33 : Int32) (y3_33 : Int32) (y2_33 : Int32) (x_read_33 : Value) (x_length_33 : Int32) (x_top_33 : Int32) (x_at_33 : Int32) (x_wrong_33 : Int32) (x_isAsked_33 : Int32) (f_asked_33 : Nat → Int32) (f_many_33 : Nat → Int32) (H : Heap) (locs : List Loc) (ls : Array Slot), p_X8_feels_33 F x_arches x_cats q_rule x_ruleSize f_now f_rule f_row r_6 Post n33 y4_33 y3_33 y2_33 x_read_33 x_length_33 x_top_33 x_at_33 x_wrong_33 x_isAsked_33 f_asked_33 f_many_33 → va_P D cls9 [(h, oX8 (.ref q_now) (.int x_arches) (.int x_cats) w_text (.int x_typed) (.ref q_row) (.int x_rowMany) (.int (0 : Int32)) x_read_33 (.int x_length_33) (.int x_top_33) (.int x_at_33) (.int x_wrong_33) w_told (.ref q_rule) w_otherRule (.int x_ruleSize) (.int x_isAsked_33) (.ref q_asked) w_undos (.int x_undoMany) w_aside w_then w_hold (.int x_dropped) w_acts w_guarded w_train (.int x_trolleyEnd) (.ref q_feltOf) (.ref q_feltBy) (.int x_feltMany) (.ref q_many) w_heardOf w_heardBy (.int x_heardMany) w_worth (.int x_drawn) (.int x_came) w_kept w_isKept w_keptCame), (q_feltOf, aI cT 10 f_feltOf), (q_now, aI cT 47 f_now), (q_asked, aI cT 7 f_asked_33), (q_rule, aB cT 40 f_rule), (q_feltBy, aI cT 10 f_feltBy), (q_many, aI cT 73 f_many_33), (q_row, aJ cT 16 f_row)] H → va_D A [(h, oX8 (.ref q_now) (.int x_arches) (.int x_cats) w_text (.int x_typed) (.ref q_row) (.int x_rowMany) (.int (0 : Int32)) x_read_33 (.int x_length_33) (.int x_top_33) (.int x_at_33) (.int x_wrong_33) w_told (.ref q_rule) w_otherRule (.int x_ruleSize) (.int x_isAsked_33) (.ref q_asked) w_undos (.int x_undoMany) w_aside w_then w_hold (.int x_dropped) w_acts w_guarded w_train (.int x_trolleyEnd) (.ref q_feltOf) (.ref q_feltBy) (.int x_feltMany) (.ref q_many) w_heardOf w_heardBy (.int x_heardMany) w_worth (.int x_drawn) (.int x_came) w_kept w_isKept w_keptCame), (q_feltOf, aI cT 10 f_feltOf), (q_now, aI cT 47 f_now), (q_asked, aI cT 7 f_asked_33), (q_rule, aB cT 40 f_rule), (q_feltBy, aI cT 10 f_feltBy), (q_many, aI cT 73 f_many_33), (q_row, aJ cT 16 f_row)] → va_S A s.heap H locs → lv_has ls 8 [(0, .ref h), (1, .int r_6), (2, .int y2_33), (3, .int y3_33), (4, .int y4_33)] → W p l e (rmO 328 10240 0 0) s m ([.ref h] : List Value).toArray below meth c H locs 0 0 (MQ below (va_Qi Post (cB D A (fun (u : (Int32 × Int32 × Value × Int32 × Int32 × Int32 × Int32 × Int32 × (Nat → Int32) × (Nat → Int32) × (Nat → Int64))) => [(h, oX8 (.ref q_now) (.int x_arches) (.int x_cats) w_text (.int x_typed) (.ref q_row) (.int u.1) (.int u.2.1) u.2.2.1 (.int u.2.2.2.1) (.int u.2.2.2.2.1) (.int u.2.2.2.2.2.1) (.int u.2.2.2.2.2.2.1) w_told (.ref q_rule) w_otherRule (.int x_ruleSize) (.int u.2.2.2.2.2.2.2.1) (.ref q_asked) w_undos (.int x_undoMany) w_aside w_then w_hold (.int x_dropped) w_acts w_guarded w_train (.int x_trolleyEnd) (.ref q_feltOf) (.ref q_feltBy) (.int x_feltMany) (.ref q_many) w_heardOf w_heardBy (.int x_heardMany) w_worth (.int x_drawn) (.int x_came) w_kept w_isKept w_keptCame), (q_feltOf, aI cT 10 f_feltOf), (q_now, aI cT 47 f_now), (q_asked, aI cT 7 u.2.2.2.2.2.2.2.2.1), (q_rule, aB cT 40 f_rule), (q_feltBy, aI cT 10 f_feltBy), (q_many, aI cT 73 u.2.2.2.2.2.2.2.2.2.1), (q_row, aJ cT 16 u.2.2.2.2.2.2.2.2.2.2)])) A) ([.ref h] : List Value).toArray s 0 0 A) (F0 m 33 ls []) := by
    intro r_6 n33
    induction n33 with
    | zero =>
      intro y4_33 y3_33 y2_33 x_read_33 x_length_33 x_top_33 x_at_33 x_wrong_33 x_isAsked_33 f_asked_33 f_many_33 H locs ls hg hP hD hS hl
      exact False.elim hg
    | succ n33 ih33 =>
      have L149 : ∀ (y4_33 : Int32) (x_read_72 : Value) (x_length_72 : Int32) (x_top_72 : Int32) (x_at_72 : Int32) (x_wrong_72 : Int32) (x_isAsked_72 : Int32) (f_asked_72 : Nat → Int32) (f_many_72 : Nat → Int32) (y2_149 : Int32) (y3_149 : Int32) (H : Heap) (locs : List Loc) (ls : Array Slot), p_X8_feels_149 F y4_33 x_read_72 x_length_72 x_top_72 x_at_72 x_wrong_72 x_isAsked_72 f_asked_72 f_many_72 (p_X8_feels_33 F x_arches x_cats q_rule x_ruleSize f_now f_rule f_row r_6 Post n33) Post y2_149 y3_149 → va_P D cls9 [(h, oX8 (.ref q_now) (.int x_arches) (.int x_cats) w_text (.int x_typed) (.ref q_row) (.int x_rowMany) (.int (0 : Int32)) x_read_72 (.int x_length_72) (.int x_top_72) (.int x_at_72) (.int x_wrong_72) w_told (.ref q_rule) w_otherRule (.int x_ruleSize) (.int x_isAsked_72) (.ref q_asked) w_undos (.int x_undoMany) w_aside w_then w_hold (.int x_dropped) w_acts w_guarded w_train (.int x_trolleyEnd) (.ref q_feltOf) (.ref q_feltBy) (.int x_feltMany) (.ref q_many) w_heardOf w_heardBy (.int x_heardMany) w_worth (.int x_drawn) (.int x_came) w_kept w_isKept w_keptCame), (q_feltOf, aI cT 10 f_feltOf), (q_now, aI cT 47 f_now), (q_asked, aI cT 7 f_asked_72), (q_rule, aB cT 40 f_rule), (q_feltBy, aI cT 10 f_feltBy), (q_many, aI cT 73 f_many_72), (q_row, aJ cT 16 f_row)] H → va_D A [(h, oX8 (.ref q_now) (.int x_arches) (.int x_cats) w_text (.int x_typed) (.ref q_row) (.int x_rowMany) (.int (0 : Int32)) x_read_72 (.int x_length_72) (.int x_top_72) (.int x_at_72) (.int x_wrong_72) w_told (.ref q_rule) w_otherRule (.int x_ruleSize) (.int x_isAsked_72) (.ref q_asked) w_undos (.int x_undoMany) w_aside w_then w_hold (.int x_dropped) w_acts w_guarded w_train (.int x_trolleyEnd) (.ref q_feltOf) (.ref q_feltBy) (.int x_feltMany) (.ref q_many) w_heardOf w_heardBy (.int x_heardMany) w_worth (.int x_drawn) (.int x_came) w_kept w_isKept w_keptCame), (q_feltOf, aI cT 10 f_feltOf), (q_now, aI cT 47 f_now), (q_asked, aI cT 7 f_asked_72), (q_rule, aB cT 40 f_rule), (q_feltBy, aI cT 10 f_feltBy), (q_many, aI cT 73 f_many_72), (q_row, aJ cT 16 f_row)] → va_S A s.heap H locs → lv_has ls 8 [(0, .ref h), (1, .int r_6), (2, .int y2_149), (3, .int y3_149), (4, .int y4_33)] → W p l e (rmO 328 10240 0 0) s m ([.ref h] : List Value).toArray below meth c H locs 0 0 (MQ below (va_Qi Post (cB D A (fun (u : (Int32 × Int32 × Value × Int32 × Int32 × Int32 × Int32 × Int32 × (Nat → Int32) × (Nat → Int32) × (Nat → Int64))) => [(h, oX8 (.ref q_now) (.int x_arches) (.int x_cats) w_text (.int x_typed) (.ref q_row) (.int u.1) (.int u.2.1) u.2.2.1 (.int u.2.2.2.1) (.int u.2.2.2.2.1) (.int u.2.2.2.2.2.1) (.int u.2.2.2.2.2.2.1) w_told (.ref q_rule) w_otherRule (.int x_ruleSize) (.int u.2.2.2.2.2.2.2.1) (.ref q_asked) w_undos (.int x_undoMany) w_aside w_then w_hold (.int x_dropped) w_acts w_guarded w_train (.int x_trolleyEnd) (.ref q_feltOf) (.ref q_feltBy) (.int x_feltMany) (.ref q_many) w_heardOf w_heardBy (.int x_heardMany) w_worth (.int x_drawn) (.int x_came) w_kept w_isKept w_keptCame), (q_feltOf, aI cT 10 f_feltOf), (q_now, aI cT 47 f_now), (q_asked, aI cT 7 u.2.2.2.2.2.2.2.2.1), (q_rule, aB cT 40 f_rule), (q_feltBy, aI cT 10 f_feltBy), (q_many, aI cT 73 u.2.2.2.2.2.2.2.2.2.1), (q_row, aJ cT 16 u.2.2.2.2.2.2.2.2.2.2)])) A) ([.ref h] : List Value).toArray s 0 0 A) (F0 m 149 ls []) := by
        intro y4_33 x_read_72 x_length_72 x_top_72 x_at_72 x_wrong_72 x_isAsked_72 f_asked_72 f_many_72 y2_149 y3_149 H locs ls hg hP hD hS hl
        unfold p_X8_feels_149 at hg
        refine lv_iinc (v := (y4_33 + (1 : Int32))) (lv' := [(4, .int (y4_33 + (1 : Int32))), (0, .ref h), (1, .int r_6), (2, .int y2_149), (3, .int y3_149)]) hx hb dX8_feels_149 hl (k := 4) rfl rfl (by decide) rfl (fun ls hl => ?_)
        refine lv_goto (tgt := 33) hx hb dX8_feels_152 (by decide) ?_
        exact ih33 (y4_33 + (1 : Int32)) y3_149 y2_149 x_read_72 x_length_72 x_top_72 x_at_72 x_wrong_72 x_isAsked_72 f_asked_72 f_many_72 _ _ _ hg hP hD hS (lv_sub hl [1, 2, 3, 4, 0] rfl)
      have L72 : ∀ (y4_33 : Int32) (y3_33 : Int32) (y2_33 : Int32) (n72 : Nat) (y6_72 : Int32) (y5_72 : Int32) (x_read_72 : Value) (x_length_72 : Int32) (x_top_72 : Int32) (x_at_72 : Int32) (x_wrong_72 : Int32) (x_isAsked_72 : Int32) (f_asked_72 : Nat → Int32) (f_many_72 : Nat → Int32) (H : Heap) (locs : List Loc) (ls : Array Slot), p_X8_feels_72 F x_cats q_rule x_ruleSize f_now f_rule r_6 y4_33 y3_33 y2_33 (p_X8_feels_33 F x_arches x_cats q_rule x_ruleSize f_now f_rule f_row r_6 Post n33) Post n72 y6_72 y5_72 x_read_72 x_length_72 x_top_72 x_at_72 x_wrong_72 x_isAsked_72 f_asked_72 f_many_72 → va_P D cls9 [(h, oX8 (.ref q_now) (.int x_arches) (.int x_cats) w_text (.int x_typed) (.ref q_row) (.int x_rowMany) (.int (0 : Int32)) x_read_72 (.int x_length_72) (.int x_top_72) (.int x_at_72) (.int x_wrong_72) w_told (.ref q_rule) w_otherRule (.int x_ruleSize) (.int x_isAsked_72) (.ref q_asked) w_undos (.int x_undoMany) w_aside w_then w_hold (.int x_dropped) w_acts w_guarded w_train (.int x_trolleyEnd) (.ref q_feltOf) (.ref q_feltBy) (.int x_feltMany) (.ref q_many) w_heardOf w_heardBy (.int x_heardMany) w_worth (.int x_drawn) (.int x_came) w_kept w_isKept w_keptCame), (q_feltOf, aI cT 10 f_feltOf), (q_now, aI cT 47 f_now), (q_asked, aI cT 7 f_asked_72), (q_rule, aB cT 40 f_rule), (q_feltBy, aI cT 10 f_feltBy), (q_many, aI cT 73 f_many_72), (q_row, aJ cT 16 f_row)] H → va_D A [(h, oX8 (.ref q_now) (.int x_arches) (.int x_cats) w_text (.int x_typed) (.ref q_row) (.int x_rowMany) (.int (0 : Int32)) x_read_72 (.int x_length_72) (.int x_top_72) (.int x_at_72) (.int x_wrong_72) w_told (.ref q_rule) w_otherRule (.int x_ruleSize) (.int x_isAsked_72) (.ref q_asked) w_undos (.int x_undoMany) w_aside w_then w_hold (.int x_dropped) w_acts w_guarded w_train (.int x_trolleyEnd) (.ref q_feltOf) (.ref q_feltBy) (.int x_feltMany) (.ref q_many) w_heardOf w_heardBy (.int x_heardMany) w_worth (.int x_drawn) (.int x_came) w_kept w_isKept w_keptCame), (q_feltOf, aI cT 10 f_feltOf), (q_now, aI cT 47 f_now), (q_asked, aI cT 7 f_asked_72), (q_rule, aB cT 40 f_rule), (q_feltBy, aI cT 10 f_feltBy), (q_many, aI cT 73 f_many_72), (q_row, aJ cT 16 f_row)] → va_S A s.heap H locs → lv_has ls 8 [(0, .ref h), (1, .int r_6), (2, .int y2_33), (3, .int y3_33), (4, .int y4_33), (5, .int y5_72), (6, .int y6_72)] → W p l e (rmO 328 10240 0 0) s m ([.ref h] : List Value).toArray below meth c H locs 0 0 (MQ below (va_Qi Post (cB D A (fun (u : (Int32 × Int32 × Value × Int32 × Int32 × Int32 × Int32 × Int32 × (Nat → Int32) × (Nat → Int32) × (Nat → Int64))) => [(h, oX8 (.ref q_now) (.int x_arches) (.int x_cats) w_text (.int x_typed) (.ref q_row) (.int u.1) (.int u.2.1) u.2.2.1 (.int u.2.2.2.1) (.int u.2.2.2.2.1) (.int u.2.2.2.2.2.1) (.int u.2.2.2.2.2.2.1) w_told (.ref q_rule) w_otherRule (.int x_ruleSize) (.int u.2.2.2.2.2.2.2.1) (.ref q_asked) w_undos (.int x_undoMany) w_aside w_then w_hold (.int x_dropped) w_acts w_guarded w_train (.int x_trolleyEnd) (.ref q_feltOf) (.ref q_feltBy) (.int x_feltMany) (.ref q_many) w_heardOf w_heardBy (.int x_heardMany) w_worth (.int x_drawn) (.int x_came) w_kept w_isKept w_keptCame), (q_feltOf, aI cT 10 f_feltOf), (q_now, aI cT 47 f_now), (q_asked, aI cT 7 u.2.2.2.2.2.2.2.2.1), (q_rule, aB cT 40 f_rule), (q_feltBy, aI cT 10 f_feltBy), (q_many, aI cT 73 u.2.2.2.2.2.2.2.2.2.1), (q_row, aJ cT 16 u.2.2.2.2.2.2.2.2.2.2)])) A) ([.ref h] : List Value).toArray s 0 0 A) (F0 m 72 ls []) := by
        intro y4_33 y3_33 y2_33 n72
        induction n72 with
        | zero =>
          intro y6_72 y5_72 x_read_72 x_length_72 x_top_72 x_at_72 x_wrong_72 x_isAsked_72 f_asked_72 f_many_72 H locs ls hg hP hD hS hl
          exact False.elim hg
        | succ n72 ih72 =>
          have L128 : ∀ (y6_72 : Int32) (y5_128 : Int32) (x_read_128 : Value) (x_length_128 : Int32) (x_top_128 : Int32) (x_at_128 : Int32) (x_wrong_128 : Int32) (x_isAsked_128 : Int32) (f_asked_128 : Nat → Int32) (f_many_128 : Nat → Int32) (H : Heap) (locs : List Loc) (ls : Array Slot), p_X8_feels_128 F y6_72 (p_X8_feels_33 F x_arches x_cats q_rule x_ruleSize f_now f_rule f_row r_6 Post n33) (p_X8_feels_72 F x_cats q_rule x_ruleSize f_now f_rule r_6 y4_33 y3_33 y2_33 (p_X8_feels_33 F x_arches x_cats q_rule x_ruleSize f_now f_rule f_row r_6 Post n33) Post n72) Post y5_128 x_read_128 x_length_128 x_top_128 x_at_128 x_wrong_128 x_isAsked_128 f_asked_128 f_many_128 → va_P D cls9 [(h, oX8 (.ref q_now) (.int x_arches) (.int x_cats) w_text (.int x_typed) (.ref q_row) (.int x_rowMany) (.int (0 : Int32)) x_read_128 (.int x_length_128) (.int x_top_128) (.int x_at_128) (.int x_wrong_128) w_told (.ref q_rule) w_otherRule (.int x_ruleSize) (.int x_isAsked_128) (.ref q_asked) w_undos (.int x_undoMany) w_aside w_then w_hold (.int x_dropped) w_acts w_guarded w_train (.int x_trolleyEnd) (.ref q_feltOf) (.ref q_feltBy) (.int x_feltMany) (.ref q_many) w_heardOf w_heardBy (.int x_heardMany) w_worth (.int x_drawn) (.int x_came) w_kept w_isKept w_keptCame), (q_feltOf, aI cT 10 f_feltOf), (q_now, aI cT 47 f_now), (q_asked, aI cT 7 f_asked_128), (q_rule, aB cT 40 f_rule), (q_feltBy, aI cT 10 f_feltBy), (q_many, aI cT 73 f_many_128), (q_row, aJ cT 16 f_row)] H → va_D A [(h, oX8 (.ref q_now) (.int x_arches) (.int x_cats) w_text (.int x_typed) (.ref q_row) (.int x_rowMany) (.int (0 : Int32)) x_read_128 (.int x_length_128) (.int x_top_128) (.int x_at_128) (.int x_wrong_128) w_told (.ref q_rule) w_otherRule (.int x_ruleSize) (.int x_isAsked_128) (.ref q_asked) w_undos (.int x_undoMany) w_aside w_then w_hold (.int x_dropped) w_acts w_guarded w_train (.int x_trolleyEnd) (.ref q_feltOf) (.ref q_feltBy) (.int x_feltMany) (.ref q_many) w_heardOf w_heardBy (.int x_heardMany) w_worth (.int x_drawn) (.int x_came) w_kept w_isKept w_keptCame), (q_feltOf, aI cT 10 f_feltOf), (q_now, aI cT 47 f_now), (q_asked, aI cT 7 f_asked_128), (q_rule, aB cT 40 f_rule), (q_feltBy, aI cT 10 f_feltBy), (q_many, aI cT 73 f_many_128), (q_row, aJ cT 16 f_row)] → va_S A s.heap H locs → lv_has ls 8 [(0, .ref h), (1, .int r_6), (2, .int y2_33), (3, .int y3_33), (4, .int y4_33), (5, .int y5_128), (6, .int y6_72)] → W p l e (rmO 328 10240 0 0) s m ([.ref h] : List Value).toArray below meth c H locs 0 0 (MQ below (va_Qi Post (cB D A (fun (u : (Int32 × Int32 × Value × Int32 × Int32 × Int32 × Int32 × Int32 × (Nat → Int32) × (Nat → Int32) × (Nat → Int64))) => [(h, oX8 (.ref q_now) (.int x_arches) (.int x_cats) w_text (.int x_typed) (.ref q_row) (.int u.1) (.int u.2.1) u.2.2.1 (.int u.2.2.2.1) (.int u.2.2.2.2.1) (.int u.2.2.2.2.2.1) (.int u.2.2.2.2.2.2.1) w_told (.ref q_rule) w_otherRule (.int x_ruleSize) (.int u.2.2.2.2.2.2.2.1) (.ref q_asked) w_undos (.int x_undoMany) w_aside w_then w_hold (.int x_dropped) w_acts w_guarded w_train (.int x_trolleyEnd) (.ref q_feltOf) (.ref q_feltBy) (.int x_feltMany) (.ref q_many) w_heardOf w_heardBy (.int x_heardMany) w_worth (.int x_drawn) (.int x_came) w_kept w_isKept w_keptCame), (q_feltOf, aI cT 10 f_feltOf), (q_now, aI cT 47 f_now), (q_asked, aI cT 7 u.2.2.2.2.2.2.2.2.1), (q_rule, aB cT 40 f_rule), (q_feltBy, aI cT 10 f_feltBy), (q_many, aI cT 73 u.2.2.2.2.2.2.2.2.2.1), (q_row, aJ cT 16 u.2.2.2.2.2.2.2.2.2.2)])) A) ([.ref h] : List Value).toArray s 0 0 A) (F0 m 128 ls []) := by
            intro y6_72 y5_128 x_read_128 x_length_128 x_top_128 x_at_128 x_wrong_128 x_isAsked_128 f_asked_128 f_many_128 H locs ls hg hP hD hS hl
            unfold p_X8_feels_128 at hg
            refine lv_iinc (v := (y6_72 + (1 : Int32))) (lv' := [(6, .int (y6_72 + (1 : Int32))), (0, .ref h), (1, .int r_6), (2, .int y2_33), (3, .int y3_33), (4, .int y4_33), (5, .int y5_128)]) hx hb dX8_feels_128 hl (k := 6) rfl rfl (by decide) rfl (fun ls hl => ?_)
            refine lv_goto (tgt := 72) hx hb dX8_feels_131 (by decide) ?_
            exact ih72 (y6_72 + (1 : Int32)) y5_128 x_read_128 x_length_128 x_top_128 x_at_128 x_wrong_128 x_isAsked_128 f_asked_128 f_many_128 _ _ _ hg hP hD hS (lv_sub hl [1, 2, 3, 4, 5, 6, 0] rfl)
          intro y6_72 y5_72 x_read_72 x_length_72 x_top_72 x_at_72 x_wrong_72 x_isAsked_72 f_asked_72 f_many_72 H locs ls hg hP hD hS hl
          rw [p_X8_feels_72_s] at hg
          refine lv_iload hx hb dX8_feels_72 (lv_at hl 6 rfl) ?_
          refine lv_aload_n hx hb dX8_feels_74 rfl (lv_at hl 0 rfl) ?_
          refine gf_X8_96 C0 hP 0 rfl rfl dX8_feels_75 ?_
          refine lv_icmp_ge (tgt := 134) hx hb dX8_feels_78 (by decide) (fun c_78 => ?_) (fun c_78 => ?_)
          · have hg := hg.1 c_78
            refine lv_iload hx hb dX8_feels_134 (lv_at hl 5 rfl) ?_
            refine lv_iload_n hx hb dX8_feels_136 rfl (lv_at hl 3 rfl) ?_
            refine lv_icmp_lt (tgt := 143) hx hb dX8_feels_137 (by decide) (fun c_137 => ?_) (fun c_137 => ?_)
            · have hg := hg.1 c_137
              refine lv_iload hx hb dX8_feels_143 (lv_at hl 4 rfl) ?_
              refine lv_istore_n (lv' := [(2, .int y4_33), (0, .ref h), (1, .int r_6), (3, .int y3_33), (4, .int y4_33), (5, .int y5_72), (6, .int y6_72)]) hx hb dX8_feels_145 rfl hl (by decide) rfl (fun ls hl => ?_)
              refine lv_iload hx hb dX8_feels_146 (lv_at hl 5 rfl) ?_
              refine lv_istore_n (lv' := [(3, .int y5_72), (2, .int y4_33), (0, .ref h), (1, .int r_6), (4, .int y4_33), (5, .int y5_72), (6, .int y6_72)]) hx hb dX8_feels_148 rfl hl (by decide) rfl (fun ls hl => ?_)
              exact L149 y4_33 x_read_72 x_length_72 x_top_72 x_at_72 x_wrong_72 x_isAsked_72 f_asked_72 f_many_72 y4_33 y5_72 _ _ _ hg hP hD hS (lv_sub hl [2, 3, 1, 0, 4] rfl)
            have hg := hg.2 c_137
            refine lv_goto (tgt := 149) hx hb dX8_feels_140 (by decide) ?_
            exact L149 y4_33 x_read_72 x_length_72 x_top_72 x_at_72 x_wrong_72 x_isAsked_72 f_asked_72 f_many_72 y2_33 y3_33 _ _ _ hg hP hD hS (lv_sub hl [0, 1, 2, 3, 4] rfl)
          have hg := hg.2 c_78
          refine lv_iload_n hx hb dX8_feels_81 rfl (lv_at hl 1 rfl) ?_
          refine lv_iload hx hb dX8_feels_82 (lv_at hl 6 rfl) ?_
          refine k_Sxi (rest := []) C0 lk_X8_292 (c_X8_has l D cT F r_6 y6_72 _ hg) hP hD hS hA [] (by decide +kernel) rfl ⟨Nat.le_of_ble_eq_true rfl, Nat.le_of_ble_eq_true rfl⟩ rfl hl.1 rfl (Nat.le_of_ble_eq_true rfl) dX8_feels_84 ⟨Nat.le_of_ble_eq_true rfl, Nat.le_of_ble_eq_true rfl⟩ (fun r_84 hg => ?_)
          refine lv_if_ne (tgt := 93) hx hb dX8_feels_87 (by decide) (fun c_87 => ?_) (fun c_87 => ?_)
          · have hg := hg.1 c_87
            refine lv_aload_n hx hb dX8_feels_93 rfl (lv_at hl 0 rfl) ?_
            refine lv_iload hx hb dX8_feels_94 (lv_at hl 4 rfl) ?_
            refine lv_iload hx hb dX8_feels_96 (lv_at hl 6 rfl) ?_
            refine k_Vi (rest := []) (wr := [(q_feltOf, aI cT 10 f_feltOf), (q_feltBy, aI cT 10 f_feltBy), (q_many, aI cT 73 f_many_72), (q_row, aJ cT 16 f_row)]) (w2 := fun u_98 => [(q_feltOf, aI cT 10 f_feltOf), (q_feltBy, aI cT 10 f_feltBy), (q_many, aI cT 73 f_many_72), (q_row, aJ cT 16 f_row), (h, oX8 (.ref q_now) (.int x_arches) (.int x_cats) w_text (.int x_typed) (.ref q_row) (.int x_rowMany) (.int (0 : Int32)) u_98.1 (.int u_98.2.1) (.int u_98.2.2.1) (.int u_98.2.2.2.1) (.int u_98.2.2.2.2.1) w_told (.ref q_rule) w_otherRule (.int x_ruleSize) (.int u_98.2.2.2.2.2.1) (.ref q_asked) w_undos (.int x_undoMany) w_aside w_then w_hold (.int x_dropped) w_acts w_guarded w_train (.int x_trolleyEnd) (.ref q_feltOf) (.ref q_feltBy) (.int x_feltMany) (.ref q_many) w_heardOf w_heardBy (.int x_heardMany) w_worth (.int x_drawn) (.int x_came) w_kept w_isKept w_keptCame), (q_now, aI cT 47 f_now), (q_asked, aI cT 7 u_98.2.2.2.2.2.2), (q_rule, aB cT 40 f_rule)]) C0 lk_X8_329 (c_X8_holdWithout l D cT F h y4_33 y6_72 q_now x_arches x_cats w_text x_typed (.ref q_row) x_rowMany (0 : Int32) x_read_72 x_length_72 x_top_72 x_at_72 x_wrong_72 w_told q_rule w_otherRule x_ruleSize x_isAsked_72 q_asked w_undos x_undoMany w_aside w_then w_hold x_dropped w_acts w_guarded w_train x_trolleyEnd (.ref q_feltOf) (.ref q_feltBy) x_feltMany (.ref q_many) w_heardOf w_heardBy x_heardMany w_worth x_drawn x_came w_kept w_isKept w_keptCame f_now f_asked_72 f_rule _ hg) hP hD hS hA [0, 2, 3, 4] [1, 5, 6, 7] (by decide +kernel) rfl rfl (fun _ => rfl) rfl rfl ⟨Nat.le_of_ble_eq_true rfl, Nat.le_of_ble_eq_true rfl⟩ rfl hl.1 rfl (Nat.le_of_ble_eq_true rfl) dX8_feels_98 ⟨Nat.le_of_ble_eq_true rfl, Nat.le_of_ble_eq_true rfl⟩ ?_
            intro r_98 u_98 H locs hg hP hD hS
            refine lv_istore (lv' := [(7, .int r_98), (0, .ref h), (1, .int r_6), (2, .int y2_33), (3, .int y3_33), (4, .int y4_33), (5, .int y5_72), (6, .int y6_72)]) hx hb dX8_feels_101 hl (by decide) rfl (fun ls hl => ?_)
            refine lv_aload_n hx hb dX8_feels_103 rfl (lv_at hl 1 rfl) ?_
            refine gf_X8_60 C0 hP 4 rfl rfl dX8_feels_104 ?_
            refine lv_iload hx hb dX8_feels_107 (lv_at hl 0 rfl) ?_
            refine lv_dup2_11 hx hb dX8_feels_109 rfl rfl ?_
            obtain ⟨g_110, hg⟩ := hg
            refine k_iald C0 hP 2 rfl g_110 dX8_feels_110 ?_
            refine lv_iconst (v := (1 : Int32)) hx hb dX8_feels_111 (by decide) ?_
            refine lv_iadd hx hb dX8_feels_112 ?_
            obtain ⟨g_113, hg⟩ := hg
            refine k_iast C0 hP hD hS 2 rfl g_113 (ws' := [(q_feltOf, aI cT 10 f_feltOf), (q_feltBy, aI cT 10 f_feltBy), (q_many, aI cT 73 (upd f_many_72 r_98.toNatClampNeg ((f_many_72 r_98.toNatClampNeg) + (1 : Int32)))), (q_row, aJ cT 16 f_row), (h, oX8 (.ref q_now) (.int x_arches) (.int x_cats) w_text (.int x_typed) (.ref q_row) (.int x_rowMany) (.int (0 : Int32)) u_98.1 (.int u_98.2.1) (.int u_98.2.2.1) (.int u_98.2.2.2.1) (.int u_98.2.2.2.2.1) w_told (.ref q_rule) w_otherRule (.int x_ruleSize) (.int u_98.2.2.2.2.2.1) (.ref q_asked) w_undos (.int x_undoMany) w_aside w_then w_hold (.int x_dropped) w_acts w_guarded w_train (.int x_trolleyEnd) (.ref q_feltOf) (.ref q_feltBy) (.int x_feltMany) (.ref q_many) w_heardOf w_heardBy (.int x_heardMany) w_worth (.int x_drawn) (.int x_came) w_kept w_isKept w_keptCame), (q_now, aI cT 47 f_now), (q_asked, aI cT 7 u_98.2.2.2.2.2.2), (q_rule, aB cT 40 f_rule)]) rfl dX8_feels_113 (fun H locs hP hD hS => ?_)
            refine lv_iload hx hb dX8_feels_114 (lv_at hl 6 rfl) ?_
            refine lv_aload_n hx hb dX8_feels_116 rfl (lv_at hl 1 rfl) ?_
            refine gf_X8_60 C0 hP 4 rfl rfl dX8_feels_117 ?_
            refine lv_iload hx hb dX8_feels_120 (lv_at hl 0 rfl) ?_
            obtain ⟨g_122, hg⟩ := hg
            refine k_iald C0 hP 2 rfl g_122 dX8_feels_122 ?_
            refine k_max C0 w5_185 hl.1 (Nat.le_of_ble_eq_true rfl) (Nat.le_of_ble_eq_true rfl) (Nat.le_of_ble_eq_true rfl) (Nat.le_of_ble_eq_true rfl) dX8_feels_123 ?_
            refine lv_istore (lv' := [(5, .int (if y5_72 < ((upd f_many_72 r_98.toNatClampNeg ((f_many_72 r_98.toNatClampNeg) + (1 : Int32))) r_98.toNatClampNeg) then ((upd f_many_72 r_98.toNatClampNeg ((f_many_72 r_98.toNatClampNeg) + (1 : Int32))) r_98.toNatClampNeg) else y5_72)), (7, .int r_98), (0, .ref h), (1, .int r_6), (2, .int y2_33), (3, .int y3_33), (4, .int y4_33), (6, .int y6_72)]) hx hb dX8_feels_126 hl (by decide) rfl (fun ls hl => ?_)
            exact L128 y6_72 (if y5_72 < ((upd f_many_72 r_98.toNatClampNeg ((f_many_72 r_98.toNatClampNeg) + (1 : Int32))) r_98.toNatClampNeg) then ((upd f_many_72 r_98.toNatClampNeg ((f_many_72 r_98.toNatClampNeg) + (1 : Int32))) r_98.toNatClampNeg) else y5_72) u_98.1 u_98.2.1 u_98.2.2.1 u_98.2.2.2.1 u_98.2.2.2.2.1 u_98.2.2.2.2.2.1 u_98.2.2.2.2.2.2 (upd f_many_72 r_98.toNatClampNeg ((f_many_72 r_98.toNatClampNeg) + (1 : Int32))) _ _ _ hg (subP hP [4, 0, 5, 6, 7, 1, 2, 3] rfl) (hD.sub [4, 0, 5, 6, 7, 1, 2, 3] (nd2_ok _ (by decide +kernel)) rfl) hS (lv_sub hl [2, 3, 4, 5, 6, 0, 7] rfl)
          have hg := hg.2 c_87
          refine lv_goto (tgt := 128) hx hb dX8_feels_90 (by decide) ?_
          exact L128 y6_72 y5_72 x_read_72 x_length_72 x_top_72 x_at_72 x_wrong_72 x_isAsked_72 f_asked_72 f_many_72 _ _ _ hg hP hD hS hl
      have L48 : ∀ (y4_33 : Int32) (y3_33 : Int32) (y2_33 : Int32) (x_read_33 : Value) (x_length_33 : Int32) (x_top_33 : Int32) (x_at_33 : Int32) (x_wrong_33 : Int32) (x_isAsked_33 : Int32) (f_asked_33 : Nat → Int32) (n48 : Nat) (y6_48 : Int32) (f_many_48 : Nat → Int32) (H : Heap) (locs : List Loc) (ls : Array Slot), p_X8_feels_48 F x_cats q_rule x_ruleSize f_now f_rule r_6 y4_33 y3_33 y2_33 x_read_33 x_length_33 x_top_33 x_at_33 x_wrong_33 x_isAsked_33 f_asked_33 (p_X8_feels_33 F x_arches x_cats q_rule x_ruleSize f_now f_rule f_row r_6 Post n33) Post n48 y6_48 f_many_48 → va_P D cls9 [(h, oX8 (.ref q_now) (.int x_arches) (.int x_cats) w_text (.int x_typed) (.ref q_row) (.int x_rowMany) (.int (0 : Int32)) x_read_33 (.int x_length_33) (.int x_top_33) (.int x_at_33) (.int x_wrong_33) w_told (.ref q_rule) w_otherRule (.int x_ruleSize) (.int x_isAsked_33) (.ref q_asked) w_undos (.int x_undoMany) w_aside w_then w_hold (.int x_dropped) w_acts w_guarded w_train (.int x_trolleyEnd) (.ref q_feltOf) (.ref q_feltBy) (.int x_feltMany) (.ref q_many) w_heardOf w_heardBy (.int x_heardMany) w_worth (.int x_drawn) (.int x_came) w_kept w_isKept w_keptCame), (q_feltOf, aI cT 10 f_feltOf), (q_now, aI cT 47 f_now), (q_asked, aI cT 7 f_asked_33), (q_rule, aB cT 40 f_rule), (q_feltBy, aI cT 10 f_feltBy), (q_many, aI cT 73 f_many_48), (q_row, aJ cT 16 f_row)] H → va_D A [(h, oX8 (.ref q_now) (.int x_arches) (.int x_cats) w_text (.int x_typed) (.ref q_row) (.int x_rowMany) (.int (0 : Int32)) x_read_33 (.int x_length_33) (.int x_top_33) (.int x_at_33) (.int x_wrong_33) w_told (.ref q_rule) w_otherRule (.int x_ruleSize) (.int x_isAsked_33) (.ref q_asked) w_undos (.int x_undoMany) w_aside w_then w_hold (.int x_dropped) w_acts w_guarded w_train (.int x_trolleyEnd) (.ref q_feltOf) (.ref q_feltBy) (.int x_feltMany) (.ref q_many) w_heardOf w_heardBy (.int x_heardMany) w_worth (.int x_drawn) (.int x_came) w_kept w_isKept w_keptCame), (q_feltOf, aI cT 10 f_feltOf), (q_now, aI cT 47 f_now), (q_asked, aI cT 7 f_asked_33), (q_rule, aB cT 40 f_rule), (q_feltBy, aI cT 10 f_feltBy), (q_many, aI cT 73 f_many_48), (q_row, aJ cT 16 f_row)] → va_S A s.heap H locs → lv_has ls 8 [(0, .ref h), (1, .int r_6), (2, .int y2_33), (3, .int y3_33), (4, .int y4_33), (5, .int (0 : Int32)), (6, .int y6_48)] → W p l e (rmO 328 10240 0 0) s m ([.ref h] : List Value).toArray below meth c H locs 0 0 (MQ below (va_Qi Post (cB D A (fun (u : (Int32 × Int32 × Value × Int32 × Int32 × Int32 × Int32 × Int32 × (Nat → Int32) × (Nat → Int32) × (Nat → Int64))) => [(h, oX8 (.ref q_now) (.int x_arches) (.int x_cats) w_text (.int x_typed) (.ref q_row) (.int u.1) (.int u.2.1) u.2.2.1 (.int u.2.2.2.1) (.int u.2.2.2.2.1) (.int u.2.2.2.2.2.1) (.int u.2.2.2.2.2.2.1) w_told (.ref q_rule) w_otherRule (.int x_ruleSize) (.int u.2.2.2.2.2.2.2.1) (.ref q_asked) w_undos (.int x_undoMany) w_aside w_then w_hold (.int x_dropped) w_acts w_guarded w_train (.int x_trolleyEnd) (.ref q_feltOf) (.ref q_feltBy) (.int x_feltMany) (.ref q_many) w_heardOf w_heardBy (.int x_heardMany) w_worth (.int x_drawn) (.int x_came) w_kept w_isKept w_keptCame), (q_feltOf, aI cT 10 f_feltOf), (q_now, aI cT 47 f_now), (q_asked, aI cT 7 u.2.2.2.2.2.2.2.2.1), (q_rule, aB cT 40 f_rule), (q_feltBy, aI cT 10 f_feltBy), (q_many, aI cT 73 u.2.2.2.2.2.2.2.2.2.1), (q_row, aJ cT 16 u.2.2.2.2.2.2.2.2.2.2)])) A) ([.ref h] : List Value).toArray s 0 0 A) (F0 m 48 ls []) := by
        intro y4_33 y3_33 y2_33 x_read_33 x_length_33 x_top_33 x_at_33 x_wrong_33 x_isAsked_33 f_asked_33 n48
        induction n48 with
        | zero =>
          intro y6_48 f_many_48 H locs ls hg hP hD hS hl
          exact False.elim hg
        | succ n48 ih48 =>
          intro y6_48 f_many_48 H locs ls hg hP hD hS hl
          rw [p_X8_feels_48_s] at hg
          refine lv_iload hx hb dX8_feels_48 (lv_at hl 6 rfl) ?_
          refine lv_bipush (v := (72 : Int32)) hx hb dX8_feels_50 (by decide) ?_
          refine lv_icmp_gt (tgt := 69) hx hb dX8_feels_52 (by decide) (fun c_52 => ?_) (fun c_52 => ?_)
          · have hg := hg.1 c_52
            refine lv_iconst (v := (0 : Int32)) hx hb dX8_feels_69 (by decide) ?_
            refine lv_istore (lv' := [(6, .int (0 : Int32)), (0, .ref h), (1, .int r_6), (2, .int y2_33), (3, .int y3_33), (4, .int y4_33), (5, .int (0 : Int32))]) hx hb dX8_feels_70 hl (by decide) rfl (fun ls hl => ?_)
            exact L72 y4_33 y3_33 y2_33 F (0 : Int32) (0 : Int32) x_read_33 x_length_33 x_top_33 x_at_33 x_wrong_33 x_isAsked_33 f_asked_33 f_many_48 _ _ _ hg hP hD hS (lv_sub hl [1, 2, 3, 4, 5, 6, 0] rfl)
          have hg := hg.2 c_52
          refine lv_aload_n hx hb dX8_feels_55 rfl (lv_at hl 0 rfl) ?_
          refine gf_X8_60 C0 hP 0 rfl rfl dX8_feels_56 ?_
          refine lv_iload hx hb dX8_feels_59 (lv_at hl 6 rfl) ?_
          refine lv_iconst (v := (0 : Int32)) hx hb dX8_feels_61 (by decide) ?_
          obtain ⟨g_62, hg⟩ := hg
          refine k_iast C0 hP hD hS 6 rfl g_62 (ws' := [(h, oX8 (.ref q_now) (.int x_arches) (.int x_cats) w_text (.int x_typed) (.ref q_row) (.int x_rowMany) (.int (0 : Int32)) x_read_33 (.int x_length_33) (.int x_top_33) (.int x_at_33) (.int x_wrong_33) w_told (.ref q_rule) w_otherRule (.int x_ruleSize) (.int x_isAsked_33) (.ref q_asked) w_undos (.int x_undoMany) w_aside w_then w_hold (.int x_dropped) w_acts w_guarded w_train (.int x_trolleyEnd) (.ref q_feltOf) (.ref q_feltBy) (.int x_feltMany) (.ref q_many) w_heardOf w_heardBy (.int x_heardMany) w_worth (.int x_drawn) (.int x_came) w_kept w_isKept w_keptCame), (q_feltOf, aI cT 10 f_feltOf), (q_now, aI cT 47 f_now), (q_asked, aI cT 7 f_asked_33), (q_rule, aB cT 40 f_rule), (q_feltBy, aI cT 10 f_feltBy), (q_many, aI cT 73 (upd f_many_48 y6_48.toNatClampNeg (0 : Int32))), (q_row, aJ cT 16 f_row)]) rfl dX8_feels_62 (fun H locs hP hD hS => ?_)
          refine lv_iinc (v := (y6_48 + (1 : Int32))) (lv' := [(6, .int (y6_48 + (1 : Int32))), (0, .ref h), (1, .int r_6), (2, .int y2_33), (3, .int y3_33), (4, .int y4_33), (5, .int (0 : Int32))]) hx hb dX8_feels_63 hl (k := 6) rfl rfl (by decide) rfl (fun ls hl => ?_)
          refine lv_goto (tgt := 48) hx hb dX8_feels_66 (by decide) ?_
          exact ih48 (y6_48 + (1 : Int32)) (upd f_many_48 y6_48.toNatClampNeg (0 : Int32)) _ _ _ hg hP hD hS (lv_sub hl [1, 2, 3, 4, 5, 6, 0] rfl)
      intro y4_33 y3_33 y2_33 x_read_33 x_length_33 x_top_33 x_at_33 x_wrong_33 x_isAsked_33 f_asked_33 f_many_33 H locs ls hg hP hD hS hl
      rw [p_X8_feels_33_s] at hg
      refine lv_iload hx hb dX8_feels_33 (lv_at hl 4 rfl) ?_
      refine lv_aload_n hx hb dX8_feels_35 rfl (lv_at hl 0 rfl) ?_
      refine gf_X8_89 C0 hP 0 rfl rfl dX8_feels_36 ?_
      refine lv_icmp_ge (tgt := 155) hx hb dX8_feels_39 (by decide) (fun c_39 => ?_) (fun c_39 => ?_)
      · have hg := hg.1 c_39
        refine lv_aload_n hx hb dX8_feels_155 rfl (lv_at hl 0 rfl) ?_
        refine lv_iconst (v := (0 : Int32)) hx hb dX8_feels_156 (by decide) ?_
        refine pf_X8_86 C0 hP hD hS 0 rfl (Nat.le_of_ble_eq_true rfl) (ws2 := [(h, oX8 (.ref q_now) (.int x_arches) (.int x_cats) w_text (.int x_typed) (.ref q_row) (.int (0 : Int32)) (.int (0 : Int32)) x_read_33 (.int x_length_33) (.int x_top_33) (.int x_at_33) (.int x_wrong_33) w_told (.ref q_rule) w_otherRule (.int x_ruleSize) (.int x_isAsked_33) (.ref q_asked) w_undos (.int x_undoMany) w_aside w_then w_hold (.int x_dropped) w_acts w_guarded w_train (.int x_trolleyEnd) (.ref q_feltOf) (.ref q_feltBy) (.int x_feltMany) (.ref q_many) w_heardOf w_heardBy (.int x_heardMany) w_worth (.int x_drawn) (.int x_came) w_kept w_isKept w_keptCame), (q_feltOf, aI cT 10 f_feltOf), (q_now, aI cT 47 f_now), (q_asked, aI cT 7 f_asked_33), (q_rule, aB cT 40 f_rule), (q_feltBy, aI cT 10 f_feltBy), (q_many, aI cT 73 f_many_33), (q_row, aJ cT 16 f_row)]) rfl dX8_feels_157 (fun H locs hP hD hS => ?_)
        refine lv_aload_n hx hb dX8_feels_160 rfl (lv_at hl 0 rfl) ?_
        refine lv_iload_n hx hb dX8_feels_161 rfl (lv_at hl 3 rfl) ?_
        refine lv_i2l (v := (y3_33.toInt64)) hx hb dX8_feels_162 rfl ?_
        refine k_Vv (rest := []) (wr := [(q_feltOf, aI cT 10 f_feltOf), (q_now, aI cT 47 f_now), (q_asked, aI cT 7 f_asked_33), (q_rule, aB cT 40 f_rule), (q_feltBy, aI cT 10 f_feltBy), (q_many, aI cT 73 f_many_33)]) (w2 := fun u_163 => [(q_feltOf, aI cT 10 f_feltOf), (q_now, aI cT 47 f_now), (q_asked, aI cT 7 f_asked_33), (q_rule, aB cT 40 f_rule), (q_feltBy, aI cT 10 f_feltBy), (q_many, aI cT 73 f_many_33), (h, oX8 (.ref q_now) (.int x_arches) (.int x_cats) w_text (.int x_typed) (.ref q_row) (.int u_163.1) (.int (0 : Int32)) x_read_33 (.int x_length_33) (.int x_top_33) (.int x_at_33) (.int x_wrong_33) w_told (.ref q_rule) w_otherRule (.int x_ruleSize) (.int x_isAsked_33) (.ref q_asked) w_undos (.int x_undoMany) w_aside w_then w_hold (.int x_dropped) w_acts w_guarded w_train (.int x_trolleyEnd) (.ref q_feltOf) (.ref q_feltBy) (.int x_feltMany) (.ref q_many) w_heardOf w_heardBy (.int x_heardMany) w_worth (.int x_drawn) (.int x_came) w_kept w_isKept w_keptCame), (q_row, aJ cT 16 u_163.2)]) C0 lk_X8_249 (c_X8_tell l D cT F h (y3_33.toInt64) (.ref q_now) x_arches x_cats w_text x_typed q_row (0 : Int32) (0 : Int32) x_read_33 x_length_33 x_top_33 x_at_33 x_wrong_33 w_told (.ref q_rule) w_otherRule x_ruleSize x_isAsked_33 (.ref q_asked) w_undos x_undoMany w_aside w_then w_hold x_dropped w_acts w_guarded w_train x_trolleyEnd (.ref q_feltOf) (.ref q_feltBy) x_feltMany (.ref q_many) w_heardOf w_heardBy x_heardMany w_worth x_drawn x_came w_kept w_isKept w_keptCame f_row _ hg) hP hD hS hA [0, 7] [1, 2, 3, 4, 5, 6] (by decide +kernel) rfl rfl (fun _ => rfl) rfl rfl ⟨Nat.le_of_ble_eq_true rfl, Nat.le_of_ble_eq_true rfl⟩ rfl hl.1 rfl (Nat.le_of_ble_eq_true rfl) dX8_feels_163 ⟨Nat.le_of_ble_eq_true rfl, Nat.le_of_ble_eq_true rfl⟩ ?_
        intro u_163 H locs hg hP hD hS
        refine lv_iload_n hx hb dX8_feels_166 rfl (lv_at hl 2 rfl) ?_
        exact k_iret C0 hr (u_163.1, (0 : Int32), x_read_33, x_length_33, x_top_33, x_at_33, x_wrong_33, x_isAsked_33, f_asked_33, f_many_33, u_163.2) hg (subP hP [6, 0, 1, 2, 3, 4, 5, 7] rfl) (hD.sub [6, 0, 1, 2, 3, 4, 5, 7] (nd2_ok _ (by decide +kernel)) rfl) hS dX8_feels_167
      have hg := hg.2 c_39
      refine lv_iconst (v := (0 : Int32)) hx hb dX8_feels_42 (by decide) ?_
      refine lv_istore (lv' := [(5, .int (0 : Int32)), (0, .ref h), (1, .int r_6), (2, .int y2_33), (3, .int y3_33), (4, .int y4_33)]) hx hb dX8_feels_43 hl (by decide) rfl (fun ls hl => ?_)
      refine lv_iconst (v := (0 : Int32)) hx hb dX8_feels_45 (by decide) ?_
      refine lv_istore (lv' := [(6, .int (0 : Int32)), (5, .int (0 : Int32)), (0, .ref h), (1, .int r_6), (2, .int y2_33), (3, .int y3_33), (4, .int y4_33)]) hx hb dX8_feels_46 hl (by decide) rfl (fun ls hl => ?_)
      exact L48 y4_33 y3_33 y2_33 x_read_33 x_length_33 x_top_33 x_at_33 x_wrong_33 x_isAsked_33 f_asked_33 F (0 : Int32) f_many_33 _ _ _ hg hP hD hS (lv_sub hl [2, 3, 4, 5, 6, 1, 0] rfl)
  unfold p_X8_feels at hg
  refine lv_aload_n hx hb dX8_feels_0 rfl (lv_at hl 0 rfl) ?_
  refine lv_iconst (v := (0 : Int32)) hx hb dX8_feels_1 (by decide) ?_
  refine pf_X8_82 C0 hP hD hS 0 rfl (Nat.le_of_ble_eq_true rfl) (ws2 := [(h, oX8 (.ref q_now) (.int x_arches) (.int x_cats) w_text (.int x_typed) (.ref q_row) (.int x_rowMany) (.int (0 : Int32)) w_read (.int x_length) (.int x_top) (.int x_at) (.int x_wrong) w_told (.ref q_rule) w_otherRule (.int x_ruleSize) (.int x_isAsked) (.ref q_asked) w_undos (.int x_undoMany) w_aside w_then w_hold (.int x_dropped) w_acts w_guarded w_train (.int x_trolleyEnd) (.ref q_feltOf) (.ref q_feltBy) (.int x_feltMany) (.ref q_many) w_heardOf w_heardBy (.int x_heardMany) w_worth (.int x_drawn) (.int x_came) w_kept w_isKept w_keptCame), (q_feltOf, aI cT 10 f_feltOf), (q_now, aI cT 47 f_now), (q_asked, aI cT 7 f_asked), (q_rule, aB cT 40 f_rule), (q_feltBy, aI cT 10 f_feltBy), (q_many, aI cT 73 f_many), (q_row, aJ cT 16 f_row)]) rfl dX8_feels_2 (fun H locs hP hD hS => ?_)
  refine lv_aload_n hx hb dX8_feels_5 rfl (lv_at hl 0 rfl) ?_
  refine k_Vi (rest := []) (wr := [(q_many, aI cT 73 f_many), (q_row, aJ cT 16 f_row)]) (w2 := fun u_6 => [(q_many, aI cT 73 f_many), (q_row, aJ cT 16 f_row), (h, oX8 (.ref q_now) (.int x_arches) (.int x_cats) w_text (.int x_typed) (.ref q_row) (.int x_rowMany) (.int (0 : Int32)) u_6.1 (.int u_6.2.1) (.int u_6.2.2.1) (.int u_6.2.2.2.1) (.int u_6.2.2.2.2.1) w_told (.ref q_rule) w_otherRule (.int x_ruleSize) (.int u_6.2.2.2.2.2.1) (.ref q_asked) w_undos (.int x_undoMany) w_aside w_then w_hold (.int x_dropped) w_acts w_guarded w_train (.int x_trolleyEnd) (.ref q_feltOf) (.ref q_feltBy) (.int x_feltMany) (.ref q_many) w_heardOf w_heardBy (.int x_heardMany) w_worth (.int x_drawn) (.int x_came) w_kept w_isKept w_keptCame), (q_feltOf, aI cT 10 f_feltOf), (q_now, aI cT 47 f_now), (q_asked, aI cT 7 u_6.2.2.2.2.2.2), (q_rule, aB cT 40 f_rule), (q_feltBy, aI cT 10 f_feltBy)]) C0 lk_X8_335 (c_X8_grieving l D cT F h q_now x_arches x_cats w_text x_typed (.ref q_row) x_rowMany (0 : Int32) w_read x_length x_top x_at x_wrong w_told q_rule w_otherRule x_ruleSize x_isAsked q_asked w_undos x_undoMany w_aside w_then w_hold x_dropped w_acts w_guarded w_train x_trolleyEnd q_feltOf q_feltBy x_feltMany (.ref q_many) w_heardOf w_heardBy x_heardMany w_worth x_drawn x_came w_kept w_isKept w_keptCame f_feltOf f_now f_asked f_rule f_feltBy _ hg) hP hD hS hA [0, 1, 2, 3, 4, 5] [6, 7] (by decide +kernel) rfl rfl (fun _ => rfl) rfl rfl ⟨Nat.le_of_ble_eq_true rfl, Nat.le_of_ble_eq_true rfl⟩ rfl hl.1 rfl (Nat.le_of_ble_eq_true rfl) dX8_feels_6 ⟨Nat.le_of_ble_eq_true rfl, Nat.le_of_ble_eq_true rfl⟩ ?_
  intro r_6 u_6 H locs hg hP hD hS
  refine lv_istore_n (lv' := [(1, .int r_6), (0, .ref h)]) hx hb dX8_feels_9 rfl hl (by decide) rfl (fun ls hl => ?_)
  refine lv_iload_n hx hb dX8_feels_10 rfl (lv_at hl 0 rfl) ?_
  refine lv_if_eq (tgt := 21) hx hb dX8_feels_11 (by decide) (fun c_11 => ?_) (fun c_11 => ?_)
  · have hg := hg.1 c_11
    refine lv_bipush (v := (-2 : Int32)) hx hb dX8_feels_21 (by decide) ?_
    exact k_iret C0 hr (x_rowMany, (0 : Int32), u_6.1, u_6.2.1, u_6.2.2.1, u_6.2.2.2.1, u_6.2.2.2.2.1, u_6.2.2.2.2.2.1, u_6.2.2.2.2.2.2, f_many, f_row) hg (subP hP [2, 3, 4, 5, 6, 7, 0, 1] rfl) (hD.sub [2, 3, 4, 5, 6, 7, 0, 1] (nd2_ok _ (by decide +kernel)) rfl) hS dX8_feels_23
  have hg := hg.2 c_11
  refine lv_aload_n hx hb dX8_feels_14 rfl (lv_at hl 1 rfl) ?_
  refine gf_X8_89 C0 hP 2 rfl rfl dX8_feels_15 ?_
  refine lv_if_ne (tgt := 24) hx hb dX8_feels_18 (by decide) (fun c_18 => ?_) (fun c_18 => ?_)
  · have hg := hg.1 c_18
    refine lv_iconst (v := (-1 : Int32)) hx hb dX8_feels_24 (by decide) ?_
    refine lv_istore_n (lv' := [(2, .int (-1 : Int32)), (1, .int r_6), (0, .ref h)]) hx hb dX8_feels_25 rfl hl (by decide) rfl (fun ls hl => ?_)
    refine lv_ldcw (v := (1000000 : Int32)) hx hb C0.ow (C0.t w6_90) dX8_feels_26 ?_
    refine lv_istore_n (lv' := [(3, .int (1000000 : Int32)), (2, .int (-1 : Int32)), (1, .int r_6), (0, .ref h)]) hx hb dX8_feels_29 rfl hl (by decide) rfl (fun ls hl => ?_)
    refine lv_iconst (v := (0 : Int32)) hx hb dX8_feels_30 (by decide) ?_
    refine lv_istore (lv' := [(4, .int (0 : Int32)), (3, .int (1000000 : Int32)), (2, .int (-1 : Int32)), (1, .int r_6), (0, .ref h)]) hx hb dX8_feels_31 hl (by decide) rfl (fun ls hl => ?_)
    exact L33 r_6 F (0 : Int32) (1000000 : Int32) (-1 : Int32) u_6.1 u_6.2.1 u_6.2.2.1 u_6.2.2.2.1 u_6.2.2.2.2.1 u_6.2.2.2.2.2.1 u_6.2.2.2.2.2.2 f_many _ _ _ hg (subP hP [2, 3, 4, 5, 6, 7, 0, 1] rfl) (hD.sub [2, 3, 4, 5, 6, 7, 0, 1] (nd2_ok _ (by decide +kernel)) rfl) hS (lv_sub hl [4, 3, 2, 1, 0] rfl)
  have hg := hg.2 c_18
  refine lv_bipush (v := (-2 : Int32)) hx hb dX8_feels_21 (by decide) ?_
  exact k_iret C0 hr (x_rowMany, (0 : Int32), u_6.1, u_6.2.1, u_6.2.2.1, u_6.2.2.2.1, u_6.2.2.2.2.1, u_6.2.2.2.2.2.1, u_6.2.2.2.2.2.2, f_many, f_row) hg (subP hP [2, 3, 4, 5, 6, 7, 0, 1] rfl) (hD.sub [2, 3, 4, 5, 6, 7, 0, 1] (nd2_ok _ (by decide +kernel)) rfl) hS dX8_feels_23
theorem dX8_spread_0 : decode cX8_spread 0 = .ok (.iload_n 1, 1) := by decide +kernel
theorem dX8_spread_1 : decode cX8_spread 1 = .ok (.istore_n 2, 1) := by decide +kernel
theorem dX8_spread_2 : decode cX8_spread 2 = .ok (.iconst 0, 1) := by decide +kernel
theorem dX8_spread_3 : decode cX8_spread 3 = .ok (.istore_n 3, 1) := by decide +kernel
theorem dX8_spread_4 : decode cX8_spread 4 = .ok (.iload_n 3, 1) := by decide +kernel
theorem dX8_spread_5 : decode cX8_spread 5 = .ok (.aload_n 0, 1) := by decide +kernel
theorem dX8_spread_6 : decode cX8_spread 6 = .ok (.getfield 96, 3) := by decide +kernel
theorem dX8_spread_9 : decode cX8_spread 9 = .ok (.if_icmp .ge 69, 3) := by decide +kernel
theorem dX8_spread_12 : decode cX8_spread 12 = .ok (.iconst 0, 1) := by decide +kernel
theorem dX8_spread_13 : decode cX8_spread 13 = .ok (.istore 4, 2) := by decide +kernel
theorem dX8_spread_15 : decode cX8_spread 15 = .ok (.iload 4, 2) := by decide +kernel
theorem dX8_spread_17 : decode cX8_spread 17 = .ok (.aload_n 0, 1) := by decide +kernel
theorem dX8_spread_18 : decode cX8_spread 18 = .ok (.getfield 96, 3) := by decide +kernel
theorem dX8_spread_21 : decode cX8_spread 21 = .ok (.if_icmp .ge 51, 3) := by decide +kernel
theorem dX8_spread_24 : decode cX8_spread 24 = .ok (.iload_n 1, 1) := by decide +kernel
theorem dX8_spread_25 : decode cX8_spread 25 = .ok (.iload 4, 2) := by decide +kernel
theorem dX8_spread_27 : decode cX8_spread 27 = .ok (.invokestatic 292, 3) := by decide +kernel
theorem dX8_spread_30 : decode cX8_spread 30 = .ok (.ifCond .eq 36, 3) := by decide +kernel
theorem dX8_spread_33 : decode cX8_spread 33 = .ok (.aload_n 0, 1) := by decide +kernel
theorem dX8_spread_34 : decode cX8_spread 34 = .ok (.getfield 9, 3) := by decide +kernel
theorem dX8_spread_37 : decode cX8_spread 37 = .ok (.bipush 36, 2) := by decide +kernel
theorem dX8_spread_39 : decode cX8_spread 39 = .ok (.iload 4, 2) := by decide +kernel
theorem dX8_spread_41 : decode cX8_spread 41 = .ok (.iadd, 1) := by decide +kernel
theorem dX8_spread_42 : decode cX8_spread 42 = .ok (.iaload, 1) := by decide +kernel
theorem dX8_spread_43 : decode cX8_spread 43 = .ok (.aload_n 0, 1) := by decide +kernel
theorem dX8_spread_44 : decode cX8_spread 44 = .ok (.getfield 9, 3) := by decide +kernel
theorem dX8_spread_47 : decode cX8_spread 47 = .ok (.bipush 36, 2) := by decide +kernel
theorem dX8_spread_49 : decode cX8_spread 49 = .ok (.iload_n 3, 1) := by decide +kernel
theorem dX8_spread_50 : decode cX8_spread 50 = .ok (.iadd, 1) := by decide +kernel
theorem dX8_spread_51 : decode cX8_spread 51 = .ok (.iaload, 1) := by decide +kernel
theorem dX8_spread_52 : decode cX8_spread 52 = .ok (.isub, 1) := by decide +kernel
theorem dX8_spread_53 : decode cX8_spread 53 = .ok (.invokestatic 277, 3) := by decide +kernel
theorem dX8_spread_56 : decode cX8_spread 56 = .ok (.iconst 1, 1) := by decide +kernel
theorem dX8_spread_57 : decode cX8_spread 57 = .ok (.if_icmp .gt 9, 3) := by decide +kernel
theorem dX8_spread_60 : decode cX8_spread 60 = .ok (.iload_n 2, 1) := by decide +kernel
theorem dX8_spread_61 : decode cX8_spread 61 = .ok (.iconst 1, 1) := by decide +kernel
theorem dX8_spread_62 : decode cX8_spread 62 = .ok (.iload_n 3, 1) := by decide +kernel
theorem dX8_spread_63 : decode cX8_spread 63 = .ok (.ishl, 1) := by decide +kernel
theorem dX8_spread_64 : decode cX8_spread 64 = .ok (.ior, 1) := by decide +kernel
theorem dX8_spread_65 : decode cX8_spread 65 = .ok (.istore_n 2, 1) := by decide +kernel
theorem dX8_spread_66 : decode cX8_spread 66 = .ok (.iinc 4 1, 3) := by decide +kernel
theorem dX8_spread_69 : decode cX8_spread 69 = .ok (.goto (-54), 3) := by decide +kernel
theorem dX8_spread_72 : decode cX8_spread 72 = .ok (.iinc 3 1, 3) := by decide +kernel
theorem dX8_spread_75 : decode cX8_spread 75 = .ok (.goto (-71), 3) := by decide +kernel
theorem dX8_spread_78 : decode cX8_spread 78 = .ok (.iload_n 2, 1) := by decide +kernel
theorem dX8_spread_79 : decode cX8_spread 79 = .ok (.ireturn, 1) := by decide +kernel
def p_X8_spread_66 (F : Nat) (y4_15 : Int32) (k4 : Int32 → Int32 → Prop) (k15 : Int32 → Int32 → Prop) (Post : Int32 → Prop) (y2_66 : Int32) : Prop := (k15 (y4_15 + (1 : Int32)) y2_66)
noncomputable def p_X8_spread_15 (F : Nat) (p1 : Int32) (x_cats : Int32) (f_now : Nat → Int32) (y3_4 : Int32) (k4 : Int32 → Int32 → Prop) (Post : Int32 → Prop) (n : Nat) : Int32 → Int32 → Prop := Nat.rec (motive := fun _ => Int32 → Int32 → Prop) (fun _ _ => False) (fun _ k15 => fun (y4_15 : Int32) (y2_15 : Int32) => ((x_cats ≤ y4_15 → (k4 (y3_4 + (1 : Int32)) y2_15)) ∧ (¬ x_cats ≤ y4_15 → (p_X8_has F p1 y4_15 (fun (r_27 : Int32) => ((r_27 = 0 → (p_X8_spread_66 F y4_15 k4 k15 Post y2_15)) ∧ (¬ r_27 = 0 → (vp_in ((36 : Int32) + y4_15) 47 ∧ (vp_in ((36 : Int32) + y3_4) 47 ∧ (((1 : Int32) < (if 0 ≤ ((f_now ((36 : Int32) + y4_15).toNatClampNeg) - (f_now ((36 : Int32) + y3_4).toNatClampNeg)) then ((f_now ((36 : Int32) + y4_15).toNatClampNeg) - (f_now ((36 : Int32) + y3_4).toNatClampNeg)) else 0 - ((f_now ((36 : Int32) + y4_15).toNatClampNeg) - (f_now ((36 : Int32) + y3_4).toNatClampNeg))) → (p_X8_spread_66 F y4_15 k4 k15 Post y2_15)) ∧ (¬ (1 : Int32) < (if 0 ≤ ((f_now ((36 : Int32) + y4_15).toNatClampNeg) - (f_now ((36 : Int32) + y3_4).toNatClampNeg)) then ((f_now ((36 : Int32) + y4_15).toNatClampNeg) - (f_now ((36 : Int32) + y3_4).toNatClampNeg)) else 0 - ((f_now ((36 : Int32) + y4_15).toNatClampNeg) - (f_now ((36 : Int32) + y3_4).toNatClampNeg))) → (p_X8_spread_66 F y4_15 k4 k15 Post (y2_15 ||| ((1 : Int32) <<< (y3_4 &&& 31))))))))))))))) n
theorem p_X8_spread_15_s (F : Nat) (p1 : Int32) (x_cats : Int32) (f_now : Nat → Int32) (y3_4 : Int32) (k4 : Int32 → Int32 → Prop) (Post : Int32 → Prop) (n : Nat) (y4_15 : Int32) (y2_15 : Int32) : p_X8_spread_15 F p1 x_cats f_now y3_4 k4 Post (n + 1) y4_15 y2_15 = ((x_cats ≤ y4_15 → (k4 (y3_4 + (1 : Int32)) y2_15)) ∧ (¬ x_cats ≤ y4_15 → (p_X8_has F p1 y4_15 (fun (r_27 : Int32) => ((r_27 = 0 → (p_X8_spread_66 F y4_15 k4 (p_X8_spread_15 F p1 x_cats f_now y3_4 k4 Post n) Post y2_15)) ∧ (¬ r_27 = 0 → (vp_in ((36 : Int32) + y4_15) 47 ∧ (vp_in ((36 : Int32) + y3_4) 47 ∧ (((1 : Int32) < (if 0 ≤ ((f_now ((36 : Int32) + y4_15).toNatClampNeg) - (f_now ((36 : Int32) + y3_4).toNatClampNeg)) then ((f_now ((36 : Int32) + y4_15).toNatClampNeg) - (f_now ((36 : Int32) + y3_4).toNatClampNeg)) else 0 - ((f_now ((36 : Int32) + y4_15).toNatClampNeg) - (f_now ((36 : Int32) + y3_4).toNatClampNeg))) → (p_X8_spread_66 F y4_15 k4 (p_X8_spread_15 F p1 x_cats f_now y3_4 k4 Post n) Post y2_15)) ∧ (¬ (1 : Int32) < (if 0 ≤ ((f_now ((36 : Int32) + y4_15).toNatClampNeg) - (f_now ((36 : Int32) + y3_4).toNatClampNeg)) then ((f_now ((36 : Int32) + y4_15).toNatClampNeg) - (f_now ((36 : Int32) + y3_4).toNatClampNeg)) else 0 - ((f_now ((36 : Int32) + y4_15).toNatClampNeg) - (f_now ((36 : Int32) + y3_4).toNatClampNeg))) → (p_X8_spread_66 F y4_15 k4 (p_X8_spread_15 F p1 x_cats f_now y3_4 k4 Post n) Post (y2_15 ||| ((1 : Int32) <<< (y3_4 &&& 31)))))))))))))) := rfl
noncomputable def p_X8_spread_4 (F : Nat) (p1 : Int32) (x_cats : Int32) (f_now : Nat → Int32) (Post : Int32 → Prop) (n : Nat) : Int32 → Int32 → Prop := Nat.rec (motive := fun _ => Int32 → Int32 → Prop) (fun _ _ => False) (fun _ k4 => fun (y3_4 : Int32) (y2_4 : Int32) => ((x_cats ≤ y3_4 → (Post y2_4)) ∧ (¬ x_cats ≤ y3_4 → (p_X8_spread_15 F p1 x_cats f_now y3_4 k4 Post F (0 : Int32) y2_4)))) n
theorem p_X8_spread_4_s (F : Nat) (p1 : Int32) (x_cats : Int32) (f_now : Nat → Int32) (Post : Int32 → Prop) (n : Nat) (y3_4 : Int32) (y2_4 : Int32) : p_X8_spread_4 F p1 x_cats f_now Post (n + 1) y3_4 y2_4 = ((x_cats ≤ y3_4 → (Post y2_4)) ∧ (¬ x_cats ≤ y3_4 → (p_X8_spread_15 F p1 x_cats f_now y3_4 (p_X8_spread_4 F p1 x_cats f_now Post n) Post F (0 : Int32) y2_4))) := rfl
def p_X8_spread (F : Nat) (p1 : Int32) (x_cats : Int32) (f_now : Nat → Int32) (Post : Int32 → Prop) : Prop := (p_X8_spread_4 F p1 x_cats f_now Post F (0 : Int32) p1)
set_option maxHeartbeats 4000000 in
set_option maxRecDepth 100000 in
theorem c_X8_spread (l : Launch) (D : va_G) (cT : Nat → ClassId) (F : Nat) (h : Nat) (p1 : Int32) (q_now : Nat) (x_arches : Int32) (x_cats : Int32) (w_text : Value) (x_typed : Int32) (w_row : Value) (x_rowMany : Int32) (x_thrown : Int32) (w_read : Value) (x_length : Int32) (x_top : Int32) (x_at : Int32) (x_wrong : Int32) (w_told : Value) (w_rule : Value) (w_otherRule : Value) (x_ruleSize : Int32) (x_isAsked : Int32) (w_asked : Value) (w_undos : Value) (x_undoMany : Int32) (w_aside : Value) (w_then : Value) (w_hold : Value) (x_dropped : Int32) (w_acts : Value) (w_guarded : Value) (w_train : Value) (x_trolleyEnd : Int32) (w_feltOf : Value) (w_feltBy : Value) (x_feltMany : Int32) (w_many : Value) (w_heardOf : Value) (w_heardBy : Value) (x_heardMany : Int32) (w_worth : Value) (x_drawn : Int32) (x_came : Int32) (w_kept : Value) (w_isKept : Value) (w_keptCame : Value) (f_now : Nat → Int32) (Post : Int32 → Prop) (hg : p_X8_spread F p1 x_cats f_now Post) : MRi l D cT yX8_spread cX8_spread 5 (some .int) 1 30 [.ref h, .int p1] [(h, oX8 (.ref q_now) (.int x_arches) (.int x_cats) w_text (.int x_typed) w_row (.int x_rowMany) (.int x_thrown) w_read (.int x_length) (.int x_top) (.int x_at) (.int x_wrong) w_told w_rule w_otherRule (.int x_ruleSize) (.int x_isAsked) w_asked w_undos (.int x_undoMany) w_aside w_then w_hold (.int x_dropped) w_acts w_guarded w_train (.int x_trolleyEnd) w_feltOf w_feltBy (.int x_feltMany) w_many w_heardOf w_heardBy (.int x_heardMany) w_worth (.int x_drawn) (.int x_came) w_kept w_isKept w_keptCame), (q_now, aI cT 47 f_now)] Post := by
  refine MRi.of (by decide) (Nat.le_of_ble_eq_true rfl) ?_
  intro p e s m below meth c hA C0 hr hP hD hS ls hl
  have hl : lv_has ls 5 [(0, .ref h), (1, .int p1)] := hl
  have hx := C0.x
  have hb := C0.b
  have hP : va_P D cls9 [(h, oX8 (.ref q_now) (.int x_arches) (.int x_cats) w_text (.int x_typed) w_row (.int x_rowMany) (.int x_thrown) w_read (.int x_length) (.int x_top) (.int x_at) (.int x_wrong) w_told w_rule w_otherRule (.int x_ruleSize) (.int x_isAsked) w_asked w_undos (.int x_undoMany) w_aside w_then w_hold (.int x_dropped) w_acts w_guarded w_train (.int x_trolleyEnd) w_feltOf w_feltBy (.int x_feltMany) w_many w_heardOf w_heardBy (.int x_heardMany) w_worth (.int x_drawn) (.int x_came) w_kept w_isKept w_keptCame), (q_now, aI cT 47 f_now)] s.heap := hP
  have hD : va_D (fun q => cT 6 ≤ q) [(h, oX8 (.ref q_now) (.int x_arches) (.int x_cats) w_text (.int x_typed) w_row (.int x_rowMany) (.int x_thrown) w_read (.int x_length) (.int x_top) (.int x_at) (.int x_wrong) w_told w_rule w_otherRule (.int x_ruleSize) (.int x_isAsked) w_asked w_undos (.int x_undoMany) w_aside w_then w_hold (.int x_dropped) w_acts w_guarded w_train (.int x_trolleyEnd) w_feltOf w_feltBy (.int x_feltMany) w_many w_heardOf w_heardBy (.int x_heardMany) w_worth (.int x_drawn) (.int x_came) w_kept w_isKept w_keptCame), (q_now, aI cT 47 f_now)] := hD
  have L4 : ∀ (n4 : Nat) (y3_4 : Int32) (y2_4 : Int32) (ls : Array Slot), p_X8_spread_4 F p1 x_cats f_now Post n4 y3_4 y2_4 → lv_has ls 5 [(0, .ref h), (1, .int p1), (2, .int y2_4), (3, .int y3_4)] → W p l e (rmO 1 30 0 0) s m ([.ref h, .int p1] : List Value).toArray below meth c s.heap [] 0 0 (MQ below (vp_Si Post) ([.ref h, .int p1] : List Value).toArray s 0 0 (fun _ => False)) (F0 m 4 ls []) := by
    intro n4
    induction n4 with
    | zero =>
      intro y3_4 y2_4 ls hg hl
      exact False.elim hg
    | succ n4 ih4 =>
      have L15 : ∀ (y3_4 : Int32) (n15 : Nat) (y4_15 : Int32) (y2_15 : Int32) (ls : Array Slot), p_X8_spread_15 F p1 x_cats f_now y3_4 (p_X8_spread_4 F p1 x_cats f_now Post n4) Post n15 y4_15 y2_15 → lv_has ls 5 [(0, .ref h), (1, .int p1), (2, .int y2_15), (3, .int y3_4), (4, .int y4_15)] → W p l e (rmO 1 30 0 0) s m ([.ref h, .int p1] : List Value).toArray below meth c s.heap [] 0 0 (MQ below (vp_Si Post) ([.ref h, .int p1] : List Value).toArray s 0 0 (fun _ => False)) (F0 m 15 ls []) := by
        intro y3_4 n15
        induction n15 with
        | zero =>
          intro y4_15 y2_15 ls hg hl
          exact False.elim hg
        | succ n15 ih15 =>
          have L66 : ∀ (y4_15 : Int32) (y2_66 : Int32) (ls : Array Slot), p_X8_spread_66 F y4_15 (p_X8_spread_4 F p1 x_cats f_now Post n4) (p_X8_spread_15 F p1 x_cats f_now y3_4 (p_X8_spread_4 F p1 x_cats f_now Post n4) Post n15) Post y2_66 → lv_has ls 5 [(0, .ref h), (1, .int p1), (2, .int y2_66), (3, .int y3_4), (4, .int y4_15)] → W p l e (rmO 1 30 0 0) s m ([.ref h, .int p1] : List Value).toArray below meth c s.heap [] 0 0 (MQ below (vp_Si Post) ([.ref h, .int p1] : List Value).toArray s 0 0 (fun _ => False)) (F0 m 66 ls []) := by
            intro y4_15 y2_66 ls hg hl
            unfold p_X8_spread_66 at hg
            refine lv_iinc (v := (y4_15 + (1 : Int32))) (lv' := [(4, .int (y4_15 + (1 : Int32))), (0, .ref h), (1, .int p1), (2, .int y2_66), (3, .int y3_4)]) hx hb dX8_spread_66 hl (k := 4) rfl rfl (by decide) rfl (fun ls hl => ?_)
            refine lv_goto (tgt := 15) hx hb dX8_spread_69 (by decide) ?_
            exact ih15 (y4_15 + (1 : Int32)) y2_66 _ hg (lv_sub hl [1, 2, 3, 4, 0] rfl)
          intro y4_15 y2_15 ls hg hl
          rw [p_X8_spread_15_s] at hg
          refine lv_iload hx hb dX8_spread_15 (lv_at hl 4 rfl) ?_
          refine lv_aload_n hx hb dX8_spread_17 rfl (lv_at hl 0 rfl) ?_
          refine gf_X8_96 C0 hP 0 rfl rfl dX8_spread_18 ?_
          refine lv_icmp_ge (tgt := 72) hx hb dX8_spread_21 (by decide) (fun c_21 => ?_) (fun c_21 => ?_)
          · have hg := hg.1 c_21
            refine lv_iinc (v := (y3_4 + (1 : Int32))) (lv' := [(3, .int (y3_4 + (1 : Int32))), (0, .ref h), (1, .int p1), (2, .int y2_15), (4, .int y4_15)]) hx hb dX8_spread_72 hl (k := 3) rfl rfl (by decide) rfl (fun ls hl => ?_)
            refine lv_goto (tgt := 4) hx hb dX8_spread_75 (by decide) ?_
            exact ih4 (y3_4 + (1 : Int32)) y2_15 _ hg (lv_sub hl [1, 2, 3, 0] rfl)
          have hg := hg.2 c_21
          refine lv_iload_n hx hb dX8_spread_24 rfl (lv_at hl 1 rfl) ?_
          refine lv_iload hx hb dX8_spread_25 (lv_at hl 4 rfl) ?_
          refine k_Sxi (rest := []) C0 lk_X8_292 (c_X8_has l D cT F p1 y4_15 _ hg) hP hD hS hA [] (by decide +kernel) rfl ⟨Nat.le_of_ble_eq_true rfl, Nat.le_of_ble_eq_true rfl⟩ rfl hl.1 rfl (Nat.le_of_ble_eq_true rfl) dX8_spread_27 ⟨Nat.le_of_ble_eq_true rfl, Nat.le_of_ble_eq_true rfl⟩ (fun r_27 hg => ?_)
          refine lv_if_eq (tgt := 66) hx hb dX8_spread_30 (by decide) (fun c_30 => ?_) (fun c_30 => ?_)
          · have hg := hg.1 c_30
            exact L66 y4_15 y2_15 _ hg hl
          have hg := hg.2 c_30
          refine lv_aload_n hx hb dX8_spread_33 rfl (lv_at hl 0 rfl) ?_
          refine gf_X8_9 C0 hP 0 rfl rfl dX8_spread_34 ?_
          refine lv_bipush (v := (36 : Int32)) hx hb dX8_spread_37 (by decide) ?_
          refine lv_iload hx hb dX8_spread_39 (lv_at hl 4 rfl) ?_
          refine lv_iadd hx hb dX8_spread_41 ?_
          obtain ⟨g_42, hg⟩ := hg
          refine k_iald C0 hP 1 rfl g_42 dX8_spread_42 ?_
          refine lv_aload_n hx hb dX8_spread_43 rfl (lv_at hl 0 rfl) ?_
          refine gf_X8_9 C0 hP 0 rfl rfl dX8_spread_44 ?_
          refine lv_bipush (v := (36 : Int32)) hx hb dX8_spread_47 (by decide) ?_
          refine lv_iload_n hx hb dX8_spread_49 rfl (lv_at hl 3 rfl) ?_
          refine lv_iadd hx hb dX8_spread_50 ?_
          obtain ⟨g_51, hg⟩ := hg
          refine k_iald C0 hP 1 rfl g_51 dX8_spread_51 ?_
          refine lv_isub hx hb dX8_spread_52 ?_
          refine k_abs C0 w6_26 hl.1 (Nat.le_of_ble_eq_true rfl) (Nat.le_of_ble_eq_true rfl) (Nat.le_of_ble_eq_true rfl) (Nat.le_of_ble_eq_true rfl) dX8_spread_53 ?_
          refine lv_iconst (v := (1 : Int32)) hx hb dX8_spread_56 (by decide) ?_
          refine lv_icmp_gt (tgt := 66) hx hb dX8_spread_57 (by decide) (fun c_57 => ?_) (fun c_57 => ?_)
          · have hg := hg.1 c_57
            exact L66 y4_15 y2_15 _ hg hl
          have hg := hg.2 c_57
          refine lv_iload_n hx hb dX8_spread_60 rfl (lv_at hl 2 rfl) ?_
          refine lv_iconst (v := (1 : Int32)) hx hb dX8_spread_61 (by decide) ?_
          refine lv_iload_n hx hb dX8_spread_62 rfl (lv_at hl 3 rfl) ?_
          refine lv_ishl hx hb dX8_spread_63 ?_
          refine lv_ior hx hb dX8_spread_64 ?_
          refine lv_istore_n (lv' := [(2, .int (y2_15 ||| ((1 : Int32) <<< (y3_4 &&& 31)))), (0, .ref h), (1, .int p1), (3, .int y3_4), (4, .int y4_15)]) hx hb dX8_spread_65 rfl hl (by decide) rfl (fun ls hl => ?_)
          exact L66 y4_15 (y2_15 ||| ((1 : Int32) <<< (y3_4 &&& 31))) _ hg (lv_sub hl [1, 2, 0, 3, 4] rfl)
      intro y3_4 y2_4 ls hg hl
      rw [p_X8_spread_4_s] at hg
      refine lv_iload_n hx hb dX8_spread_4 rfl (lv_at hl 3 rfl) ?_
      refine lv_aload_n hx hb dX8_spread_5 rfl (lv_at hl 0 rfl) ?_
      refine gf_X8_96 C0 hP 0 rfl rfl dX8_spread_6 ?_
      refine lv_icmp_ge (tgt := 78) hx hb dX8_spread_9 (by decide) (fun c_9 => ?_) (fun c_9 => ?_)
      · have hg := hg.1 c_9
        refine lv_iload_n hx hb dX8_spread_78 rfl (lv_at hl 2 rfl) ?_
        exact k_xiret C0 hr hg dX8_spread_79
      have hg := hg.2 c_9
      refine lv_iconst (v := (0 : Int32)) hx hb dX8_spread_12 (by decide) ?_
      refine lv_istore (lv' := [(4, .int (0 : Int32)), (0, .ref h), (1, .int p1), (2, .int y2_4), (3, .int y3_4)]) hx hb dX8_spread_13 hl (by decide) rfl (fun ls hl => ?_)
      exact L15 y3_4 F (0 : Int32) y2_4 _ hg (lv_sub hl [1, 2, 3, 4, 0] rfl)
  unfold p_X8_spread at hg
  refine lv_iload_n hx hb dX8_spread_0 rfl (lv_at hl 1 rfl) ?_
  refine lv_istore_n (lv' := [(2, .int p1), (0, .ref h), (1, .int p1)]) hx hb dX8_spread_1 rfl hl (by decide) rfl (fun ls hl => ?_)
  refine lv_iconst (v := (0 : Int32)) hx hb dX8_spread_2 (by decide) ?_
  refine lv_istore_n (lv' := [(3, .int (0 : Int32)), (2, .int p1), (0, .ref h), (1, .int p1)]) hx hb dX8_spread_3 rfl hl (by decide) rfl (fun ls hl => ?_)
  exact L4 F (0 : Int32) p1 _ hg (lv_sub hl [2, 3, 1, 0] rfl)
theorem dX8_spreads_0 : decode cX8_spreads 0 = .ok (.aload_n 0, 1) := by decide +kernel
theorem dX8_spreads_1 : decode cX8_spreads 1 = .ok (.iconst 0, 1) := by decide +kernel
theorem dX8_spreads_2 : decode cX8_spreads 2 = .ok (.putfield 82, 3) := by decide +kernel
theorem dX8_spreads_5 : decode cX8_spreads 5 = .ok (.aload_n 0, 1) := by decide +kernel
theorem dX8_spreads_6 : decode cX8_spreads 6 = .ok (.iload_n 1, 1) := by decide +kernel
theorem dX8_spreads_7 : decode cX8_spreads 7 = .ok (.invokevirtual 224, 3) := by decide +kernel
theorem dX8_spreads_10 : decode cX8_spreads 10 = .ok (.ifCond .eq 13, 3) := by decide +kernel
theorem dX8_spreads_13 : decode cX8_spreads 13 = .ok (.iload_n 2, 1) := by decide +kernel
theorem dX8_spreads_14 : decode cX8_spreads 14 = .ok (.iconst 0, 1) := by decide +kernel
theorem dX8_spreads_15 : decode cX8_spreads 15 = .ok (.bipush 9, 2) := by decide +kernel
theorem dX8_spreads_17 : decode cX8_spreads 17 = .ok (.invokestatic 92, 3) := by decide +kernel
theorem dX8_spreads_20 : decode cX8_spreads 20 = .ok (.ifCond .ne 5, 3) := by decide +kernel
theorem dX8_spreads_23 : decode cX8_spreads 23 = .ok (.iconst (-1), 1) := by decide +kernel
theorem dX8_spreads_24 : decode cX8_spreads 24 = .ok (.ireturn, 1) := by decide +kernel
theorem dX8_spreads_25 : decode cX8_spreads 25 = .ok (.iconst 1, 1) := by decide +kernel
theorem dX8_spreads_26 : decode cX8_spreads 26 = .ok (.iload_n 1, 1) := by decide +kernel
theorem dX8_spreads_27 : decode cX8_spreads 27 = .ok (.ishl, 1) := by decide +kernel
theorem dX8_spreads_28 : decode cX8_spreads 28 = .ok (.istore_n 3, 1) := by decide +kernel
theorem dX8_spreads_29 : decode cX8_spreads 29 = .ok (.iconst 0, 1) := by decide +kernel
theorem dX8_spreads_30 : decode cX8_spreads 30 = .ok (.istore 4, 2) := by decide +kernel
theorem dX8_spreads_32 : decode cX8_spreads 32 = .ok (.iload 4, 2) := by decide +kernel
theorem dX8_spreads_34 : decode cX8_spreads 34 = .ok (.iload_n 2, 1) := by decide +kernel
theorem dX8_spreads_35 : decode cX8_spreads 35 = .ok (.if_icmp .ge 15, 3) := by decide +kernel
theorem dX8_spreads_38 : decode cX8_spreads 38 = .ok (.aload_n 0, 1) := by decide +kernel
theorem dX8_spreads_39 : decode cX8_spreads 39 = .ok (.iload_n 3, 1) := by decide +kernel
theorem dX8_spreads_40 : decode cX8_spreads 40 = .ok (.invokevirtual 338, 3) := by decide +kernel
theorem dX8_spreads_43 : decode cX8_spreads 43 = .ok (.istore_n 3, 1) := by decide +kernel
theorem dX8_spreads_44 : decode cX8_spreads 44 = .ok (.iinc 4 1, 3) := by decide +kernel
theorem dX8_spreads_47 : decode cX8_spreads 47 = .ok (.goto (-15), 3) := by decide +kernel
theorem dX8_spreads_50 : decode cX8_spreads 50 = .ok (.iconst 0, 1) := by decide +kernel
theorem dX8_spreads_51 : decode cX8_spreads 51 = .ok (.istore 4, 2) := by decide +kernel
theorem dX8_spreads_53 : decode cX8_spreads 53 = .ok (.iconst 1, 1) := by decide +kernel
theorem dX8_spreads_54 : decode cX8_spreads 54 = .ok (.iload_n 1, 1) := by decide +kernel
theorem dX8_spreads_55 : decode cX8_spreads 55 = .ok (.ishl, 1) := by decide +kernel
theorem dX8_spreads_56 : decode cX8_spreads 56 = .ok (.istore 5, 2) := by decide +kernel
theorem dX8_spreads_58 : decode cX8_spreads 58 = .ok (.aload_n 0, 1) := by decide +kernel
theorem dX8_spreads_59 : decode cX8_spreads 59 = .ok (.iload 5, 2) := by decide +kernel
theorem dX8_spreads_61 : decode cX8_spreads 61 = .ok (.invokevirtual 338, 3) := by decide +kernel
theorem dX8_spreads_64 : decode cX8_spreads 64 = .ok (.iload 5, 2) := by decide +kernel
theorem dX8_spreads_66 : decode cX8_spreads 66 = .ok (.if_icmp .eq 17, 3) := by decide +kernel
theorem dX8_spreads_69 : decode cX8_spreads 69 = .ok (.iinc 4 1, 3) := by decide +kernel
theorem dX8_spreads_72 : decode cX8_spreads 72 = .ok (.aload_n 0, 1) := by decide +kernel
theorem dX8_spreads_73 : decode cX8_spreads 73 = .ok (.iload 5, 2) := by decide +kernel
theorem dX8_spreads_75 : decode cX8_spreads 75 = .ok (.invokevirtual 338, 3) := by decide +kernel
theorem dX8_spreads_78 : decode cX8_spreads 78 = .ok (.istore 5, 2) := by decide +kernel
theorem dX8_spreads_80 : decode cX8_spreads 80 = .ok (.goto (-22), 3) := by decide +kernel
theorem dX8_spreads_83 : decode cX8_spreads 83 = .ok (.aload_n 0, 1) := by decide +kernel
theorem dX8_spreads_84 : decode cX8_spreads 84 = .ok (.iconst 0, 1) := by decide +kernel
theorem dX8_spreads_85 : decode cX8_spreads 85 = .ok (.putfield 86, 3) := by decide +kernel
theorem dX8_spreads_88 : decode cX8_spreads 88 = .ok (.aload_n 0, 1) := by decide +kernel
theorem dX8_spreads_89 : decode cX8_spreads 89 = .ok (.iload_n 3, 1) := by decide +kernel
theorem dX8_spreads_90 : decode cX8_spreads 90 = .ok (.invokestatic 202, 3) := by decide +kernel
theorem dX8_spreads_93 : decode cX8_spreads 93 = .ok (.i2l, 1) := by decide +kernel
theorem dX8_spreads_94 : decode cX8_spreads 94 = .ok (.invokevirtual 249, 3) := by decide +kernel
theorem dX8_spreads_97 : decode cX8_spreads 97 = .ok (.aload_n 0, 1) := by decide +kernel
theorem dX8_spreads_98 : decode cX8_spreads 98 = .ok (.iload 4, 2) := by decide +kernel
theorem dX8_spreads_100 : decode cX8_spreads 100 = .ok (.i2l, 1) := by decide +kernel
theorem dX8_spreads_101 : decode cX8_spreads 101 = .ok (.invokevirtual 249, 3) := by decide +kernel
theorem dX8_spreads_104 : decode cX8_spreads 104 = .ok (.iload_n 3, 1) := by decide +kernel
theorem dX8_spreads_105 : decode cX8_spreads 105 = .ok (.ireturn, 1) := by decide +kernel
noncomputable def p_X8_spreads_58 (F : Nat) (x_cats : Int32) (f_now : Nat → Int32) (f_row : Nat → Int64) (y3_32 : Int32) (Post : Int32 → (Int32 × Int32 × (Nat → Int64)) → Prop) (n : Nat) : Int32 → Int32 → Prop := Nat.rec (motive := fun _ => Int32 → Int32 → Prop) (fun _ _ => False) (fun _ k58 => fun (y5_58 : Int32) (y4_58 : Int32) => (p_X8_spread F y5_58 x_cats f_now (fun (r_61 : Int32) => ((r_61 = y5_58 → (p_J6_bitCount_0f7a4 F y3_32 (fun (r_90 : Int32) => (p_X8_tell F (r_90.toInt64) (0 : Int32) f_row (fun (u_94 : (Int32 × (Nat → Int64))) => (p_X8_tell F (y4_58.toInt64) u_94.1 u_94.2 (fun (u_101 : (Int32 × (Nat → Int64))) => (Post y3_32 (u_101.1, (0 : Int32), u_101.2))))))))) ∧ (¬ r_61 = y5_58 → (p_X8_spread F y5_58 x_cats f_now (fun (r_75 : Int32) => (k58 r_75 (y4_58 + (1 : Int32)))))))))) n
theorem p_X8_spreads_58_s (F : Nat) (x_cats : Int32) (f_now : Nat → Int32) (f_row : Nat → Int64) (y3_32 : Int32) (Post : Int32 → (Int32 × Int32 × (Nat → Int64)) → Prop) (n : Nat) (y5_58 : Int32) (y4_58 : Int32) : p_X8_spreads_58 F x_cats f_now f_row y3_32 Post (n + 1) y5_58 y4_58 = (p_X8_spread F y5_58 x_cats f_now (fun (r_61 : Int32) => ((r_61 = y5_58 → (p_J6_bitCount_0f7a4 F y3_32 (fun (r_90 : Int32) => (p_X8_tell F (r_90.toInt64) (0 : Int32) f_row (fun (u_94 : (Int32 × (Nat → Int64))) => (p_X8_tell F (y4_58.toInt64) u_94.1 u_94.2 (fun (u_101 : (Int32 × (Nat → Int64))) => (Post y3_32 (u_101.1, (0 : Int32), u_101.2))))))))) ∧ (¬ r_61 = y5_58 → (p_X8_spread F y5_58 x_cats f_now (fun (r_75 : Int32) => ((p_X8_spreads_58 F x_cats f_now f_row y3_32 Post n) r_75 (y4_58 + (1 : Int32))))))))) := rfl
noncomputable def p_X8_spreads_32 (F : Nat) (p1 : Int32) (p2 : Int32) (x_cats : Int32) (f_now : Nat → Int32) (f_row : Nat → Int64) (Post : Int32 → (Int32 × Int32 × (Nat → Int64)) → Prop) (n : Nat) : Int32 → Int32 → Prop := Nat.rec (motive := fun _ => Int32 → Int32 → Prop) (fun _ _ => False) (fun _ k32 => fun (y4_32 : Int32) (y3_32 : Int32) => ((p2 ≤ y4_32 → (p_X8_spreads_58 F x_cats f_now f_row y3_32 Post F ((1 : Int32) <<< (p1 &&& 31)) (0 : Int32))) ∧ (¬ p2 ≤ y4_32 → (p_X8_spread F y3_32 x_cats f_now (fun (r_40 : Int32) => (k32 (y4_32 + (1 : Int32)) r_40)))))) n
theorem p_X8_spreads_32_s (F : Nat) (p1 : Int32) (p2 : Int32) (x_cats : Int32) (f_now : Nat → Int32) (f_row : Nat → Int64) (Post : Int32 → (Int32 × Int32 × (Nat → Int64)) → Prop) (n : Nat) (y4_32 : Int32) (y3_32 : Int32) : p_X8_spreads_32 F p1 p2 x_cats f_now f_row Post (n + 1) y4_32 y3_32 = ((p2 ≤ y4_32 → (p_X8_spreads_58 F x_cats f_now f_row y3_32 Post F ((1 : Int32) <<< (p1 &&& 31)) (0 : Int32))) ∧ (¬ p2 ≤ y4_32 → (p_X8_spread F y3_32 x_cats f_now (fun (r_40 : Int32) => ((p_X8_spreads_32 F p1 p2 x_cats f_now f_row Post n) (y4_32 + (1 : Int32)) r_40))))) := rfl
def p_X8_spreads (F : Nat) (p1 : Int32) (p2 : Int32) (x_cats : Int32) (x_rowMany : Int32) (f_now : Nat → Int32) (f_row : Nat → Int64) (Post : Int32 → (Int32 × Int32 × (Nat → Int64)) → Prop) : Prop := (p_X8_isCat F p1 x_cats (fun (r_7 : Int32) => ((r_7 = 0 → (Post (-1 : Int32) (x_rowMany, (0 : Int32), f_row))) ∧ (¬ r_7 = 0 → (p_X8_in F p2 (0 : Int32) (9 : Int32) (fun (r_17 : Int32) => ((¬ r_17 = 0 → (p_X8_spreads_32 F p1 p2 x_cats f_now f_row Post F (0 : Int32) ((1 : Int32) <<< (p1 &&& 31)))) ∧ (r_17 = 0 → (Post (-1 : Int32) (x_rowMany, (0 : Int32), f_row))))))))))
set_option maxHeartbeats 4000000 in
set_option maxRecDepth 100000 in
theorem c_X8_spreads (l : Launch) (D : va_G) (cT : Nat → ClassId) (F : Nat) (h : Nat) (p1 : Int32) (p2 : Int32) (q_now : Nat) (x_arches : Int32) (x_cats : Int32) (w_text : Value) (x_typed : Int32) (q_row : Nat) (x_rowMany : Int32) (x_thrown : Int32) (w_read : Value) (x_length : Int32) (x_top : Int32) (x_at : Int32) (x_wrong : Int32) (w_told : Value) (w_rule : Value) (w_otherRule : Value) (x_ruleSize : Int32) (x_isAsked : Int32) (w_asked : Value) (w_undos : Value) (x_undoMany : Int32) (w_aside : Value) (w_then : Value) (w_hold : Value) (x_dropped : Int32) (w_acts : Value) (w_guarded : Value) (w_train : Value) (x_trolleyEnd : Int32) (w_feltOf : Value) (w_feltBy : Value) (x_feltMany : Int32) (w_many : Value) (w_heardOf : Value) (w_heardBy : Value) (x_heardMany : Int32) (w_worth : Value) (x_drawn : Int32) (x_came : Int32) (w_kept : Value) (w_isKept : Value) (w_keptCame : Value) (f_now : Nat → Int32) (f_row : Nat → Int64) (Post : Int32 → (Int32 × Int32 × (Nat → Int64)) → Prop) (hg : p_X8_spreads F p1 p2 x_cats x_rowMany f_now f_row Post) : MWi l D cT yX8_spreads cX8_spreads 6 (some .int) 2 54 0 0 [.ref h, .int p1, .int p2] [(h, oX8 (.ref q_now) (.int x_arches) (.int x_cats) w_text (.int x_typed) (.ref q_row) (.int x_rowMany) (.int x_thrown) w_read (.int x_length) (.int x_top) (.int x_at) (.int x_wrong) w_told w_rule w_otherRule (.int x_ruleSize) (.int x_isAsked) w_asked w_undos (.int x_undoMany) w_aside w_then w_hold (.int x_dropped) w_acts w_guarded w_train (.int x_trolleyEnd) w_feltOf w_feltBy (.int x_feltMany) w_many w_heardOf w_heardBy (.int x_heardMany) w_worth (.int x_drawn) (.int x_came) w_kept w_isKept w_keptCame), (q_now, aI cT 47 f_now), (q_row, aJ cT 16 f_row)] Post (fun (u : (Int32 × Int32 × (Nat → Int64))) => [(h, oX8 (.ref q_now) (.int x_arches) (.int x_cats) w_text (.int x_typed) (.ref q_row) (.int u.1) (.int u.2.1) w_read (.int x_length) (.int x_top) (.int x_at) (.int x_wrong) w_told w_rule w_otherRule (.int x_ruleSize) (.int x_isAsked) w_asked w_undos (.int x_undoMany) w_aside w_then w_hold (.int x_dropped) w_acts w_guarded w_train (.int x_trolleyEnd) w_feltOf w_feltBy (.int x_feltMany) w_many w_heardOf w_heardBy (.int x_heardMany) w_worth (.int x_drawn) (.int x_came) w_kept w_isKept w_keptCame), (q_now, aI cT 47 f_now), (q_row, aJ cT 16 u.2.2)]) := by
  refine MWi.of (by decide) (Nat.le_of_ble_eq_true rfl) ?_
  intro p e s m below meth c A hA C0 hnm hr hP hD ls hl
  have hl : lv_has ls 6 [(0, .ref h), (1, .int p1), (2, .int p2)] := hl
  have hx := C0.x
  have hb := C0.b
  have hS : va_S A s.heap s.heap [] := va_S.rf
  have hP : va_P D cls9 [(h, oX8 (.ref q_now) (.int x_arches) (.int x_cats) w_text (.int x_typed) (.ref q_row) (.int x_rowMany) (.int x_thrown) w_read (.int x_length) (.int x_top) (.int x_at) (.int x_wrong) w_told w_rule w_otherRule (.int x_ruleSize) (.int x_isAsked) w_asked w_undos (.int x_undoMany) w_aside w_then w_hold (.int x_dropped) w_acts w_guarded w_train (.int x_trolleyEnd) w_feltOf w_feltBy (.int x_feltMany) w_many w_heardOf w_heardBy (.int x_heardMany) w_worth (.int x_drawn) (.int x_came) w_kept w_isKept w_keptCame), (q_now, aI cT 47 f_now), (q_row, aJ cT 16 f_row)] s.heap := hP
  have hD : va_D A [(h, oX8 (.ref q_now) (.int x_arches) (.int x_cats) w_text (.int x_typed) (.ref q_row) (.int x_rowMany) (.int x_thrown) w_read (.int x_length) (.int x_top) (.int x_at) (.int x_wrong) w_told w_rule w_otherRule (.int x_ruleSize) (.int x_isAsked) w_asked w_undos (.int x_undoMany) w_aside w_then w_hold (.int x_dropped) w_acts w_guarded w_train (.int x_trolleyEnd) w_feltOf w_feltBy (.int x_feltMany) w_many w_heardOf w_heardBy (.int x_heardMany) w_worth (.int x_drawn) (.int x_came) w_kept w_isKept w_keptCame), (q_now, aI cT 47 f_now), (q_row, aJ cT 16 f_row)] := hD
  have L58 : ∀ (y3_32 : Int32) (n58 : Nat) (y5_58 : Int32) (y4_58 : Int32) (H : Heap) (locs : List Loc) (ls : Array Slot), p_X8_spreads_58 F x_cats f_now f_row y3_32 Post n58 y5_58 y4_58 → va_P D cls9 [(h, oX8 (.ref q_now) (.int x_arches) (.int x_cats) w_text (.int x_typed) (.ref q_row) (.int x_rowMany) (.int (0 : Int32)) w_read (.int x_length) (.int x_top) (.int x_at) (.int x_wrong) w_told w_rule w_otherRule (.int x_ruleSize) (.int x_isAsked) w_asked w_undos (.int x_undoMany) w_aside w_then w_hold (.int x_dropped) w_acts w_guarded w_train (.int x_trolleyEnd) w_feltOf w_feltBy (.int x_feltMany) w_many w_heardOf w_heardBy (.int x_heardMany) w_worth (.int x_drawn) (.int x_came) w_kept w_isKept w_keptCame), (q_now, aI cT 47 f_now), (q_row, aJ cT 16 f_row)] H → va_D A [(h, oX8 (.ref q_now) (.int x_arches) (.int x_cats) w_text (.int x_typed) (.ref q_row) (.int x_rowMany) (.int (0 : Int32)) w_read (.int x_length) (.int x_top) (.int x_at) (.int x_wrong) w_told w_rule w_otherRule (.int x_ruleSize) (.int x_isAsked) w_asked w_undos (.int x_undoMany) w_aside w_then w_hold (.int x_dropped) w_acts w_guarded w_train (.int x_trolleyEnd) w_feltOf w_feltBy (.int x_feltMany) w_many w_heardOf w_heardBy (.int x_heardMany) w_worth (.int x_drawn) (.int x_came) w_kept w_isKept w_keptCame), (q_now, aI cT 47 f_now), (q_row, aJ cT 16 f_row)] → va_S A s.heap H locs → lv_has ls 6 [(0, .ref h), (3, .int y3_32), (4, .int y4_58), (5, .int y5_58)] → W p l e (rmO 2 54 0 0) s m ([.ref h, .int p1, .int p2] : List Value).toArray below meth c H locs 0 0 (MQ below (va_Qi Post (cB D A (fun (u : (Int32 × Int32 × (Nat → Int64))) => [(h, oX8 (.ref q_now) (.int x_arches) (.int x_cats) w_text (.int x_typed) (.ref q_row) (.int u.1) (.int u.2.1) w_read (.int x_length) (.int x_top) (.int x_at) (.int x_wrong) w_told w_rule w_otherRule (.int x_ruleSize) (.int x_isAsked) w_asked w_undos (.int x_undoMany) w_aside w_then w_hold (.int x_dropped) w_acts w_guarded w_train (.int x_trolleyEnd) w_feltOf w_feltBy (.int x_feltMany) w_many w_heardOf w_heardBy (.int x_heardMany) w_worth (.int x_drawn) (.int x_came) w_kept w_isKept w_keptCame), (q_now, aI cT 47 f_now), (q_row, aJ cT 16 u.2.2)])) A) ([.ref h, .int p1, .int p2] : List Value).toArray s 0 0 A) (F0 m 58 ls []) := by
    intro y3_32 n58
    induction n58 with
    | zero =>
      intro y5_58 y4_58 H locs ls hg hP hD hS hl
      exact False.elim hg
    | succ n58 ih58 =>
      intro y5_58 y4_58 H locs ls hg hP hD hS hl
      rw [p_X8_spreads_58_s] at hg
      refine lv_aload_n hx hb dX8_spreads_58 rfl (lv_at hl 0 rfl) ?_
      refine lv_iload hx hb dX8_spreads_59 (lv_at hl 3 rfl) ?_
      refine k_Vxi (rest := []) C0 lk_X8_338 (c_X8_spread l D cT F h y5_58 q_now x_arches x_cats w_text x_typed (.ref q_row) x_rowMany (0 : Int32) w_read x_length x_top x_at x_wrong w_told w_rule w_otherRule x_ruleSize x_isAsked w_asked w_undos x_undoMany w_aside w_then w_hold x_dropped w_acts w_guarded w_train x_trolleyEnd w_feltOf w_feltBy x_feltMany w_many w_heardOf w_heardBy x_heardMany w_worth x_drawn x_came w_kept w_isKept w_keptCame f_now _ hg) hP hD hS hA [0, 1] (by decide +kernel) rfl rfl rfl ⟨Nat.le_of_ble_eq_true rfl, Nat.le_of_ble_eq_true rfl⟩ rfl hl.1 rfl (Nat.le_of_ble_eq_true rfl) dX8_spreads_61 ⟨Nat.le_of_ble_eq_true rfl, Nat.le_of_ble_eq_true rfl⟩ (fun r_61 hg => ?_)
      refine lv_iload hx hb dX8_spreads_64 (lv_at hl 3 rfl) ?_
      refine lv_icmp_eq (tgt := 83) hx hb dX8_spreads_66 (by decide) (fun c_66 => ?_) (fun c_66 => ?_)
      · have hg := hg.1 c_66
        refine lv_aload_n hx hb dX8_spreads_83 rfl (lv_at hl 0 rfl) ?_
        refine lv_iconst (v := (0 : Int32)) hx hb dX8_spreads_84 (by decide) ?_
        refine pf_X8_86 C0 hP hD hS 0 rfl (Nat.le_of_ble_eq_true rfl) (ws2 := [(h, oX8 (.ref q_now) (.int x_arches) (.int x_cats) w_text (.int x_typed) (.ref q_row) (.int (0 : Int32)) (.int (0 : Int32)) w_read (.int x_length) (.int x_top) (.int x_at) (.int x_wrong) w_told w_rule w_otherRule (.int x_ruleSize) (.int x_isAsked) w_asked w_undos (.int x_undoMany) w_aside w_then w_hold (.int x_dropped) w_acts w_guarded w_train (.int x_trolleyEnd) w_feltOf w_feltBy (.int x_feltMany) w_many w_heardOf w_heardBy (.int x_heardMany) w_worth (.int x_drawn) (.int x_came) w_kept w_isKept w_keptCame), (q_now, aI cT 47 f_now), (q_row, aJ cT 16 f_row)]) rfl dX8_spreads_85 (fun H locs hP hD hS => ?_)
        refine lv_aload_n hx hb dX8_spreads_88 rfl (lv_at hl 0 rfl) ?_
        refine lv_iload_n hx hb dX8_spreads_89 rfl (lv_at hl 1 rfl) ?_
        refine k_Sxi (rest := [.ref h]) C0 lk_X8_202 (c_J6_bitCount_0f7a4 l D cT F y3_32 _ hg) hP hD hS hA [] (by decide +kernel) rfl ⟨Nat.le_of_ble_eq_true rfl, Nat.le_of_ble_eq_true rfl⟩ rfl hl.1 rfl (Nat.le_of_ble_eq_true rfl) dX8_spreads_90 ⟨Nat.le_of_ble_eq_true rfl, Nat.le_of_ble_eq_true rfl⟩ (fun r_90 hg => ?_)
        refine lv_i2l (v := (r_90.toInt64)) hx hb dX8_spreads_93 rfl ?_
        refine k_Vv (rest := []) (wr := [(q_now, aI cT 47 f_now)]) (w2 := fun u_94 => [(q_now, aI cT 47 f_now), (h, oX8 (.ref q_now) (.int x_arches) (.int x_cats) w_text (.int x_typed) (.ref q_row) (.int u_94.1) (.int (0 : Int32)) w_read (.int x_length) (.int x_top) (.int x_at) (.int x_wrong) w_told w_rule w_otherRule (.int x_ruleSize) (.int x_isAsked) w_asked w_undos (.int x_undoMany) w_aside w_then w_hold (.int x_dropped) w_acts w_guarded w_train (.int x_trolleyEnd) w_feltOf w_feltBy (.int x_feltMany) w_many w_heardOf w_heardBy (.int x_heardMany) w_worth (.int x_drawn) (.int x_came) w_kept w_isKept w_keptCame), (q_row, aJ cT 16 u_94.2)]) C0 lk_X8_249 (c_X8_tell l D cT F h (r_90.toInt64) (.ref q_now) x_arches x_cats w_text x_typed q_row (0 : Int32) (0 : Int32) w_read x_length x_top x_at x_wrong w_told w_rule w_otherRule x_ruleSize x_isAsked w_asked w_undos x_undoMany w_aside w_then w_hold x_dropped w_acts w_guarded w_train x_trolleyEnd w_feltOf w_feltBy x_feltMany w_many w_heardOf w_heardBy x_heardMany w_worth x_drawn x_came w_kept w_isKept w_keptCame f_row _ hg) hP hD hS hA [0, 2] [1] (by decide +kernel) rfl rfl (fun _ => rfl) rfl rfl ⟨Nat.le_of_ble_eq_true rfl, Nat.le_of_ble_eq_true rfl⟩ rfl hl.1 rfl (Nat.le_of_ble_eq_true rfl) dX8_spreads_94 ⟨Nat.le_of_ble_eq_true rfl, Nat.le_of_ble_eq_true rfl⟩ ?_
        intro u_94 H locs hg hP hD hS
        refine lv_aload_n hx hb dX8_spreads_97 rfl (lv_at hl 0 rfl) ?_
        refine lv_iload hx hb dX8_spreads_98 (lv_at hl 2 rfl) ?_
        refine lv_i2l (v := (y4_58.toInt64)) hx hb dX8_spreads_100 rfl ?_
        refine k_Vv (rest := []) (wr := [(q_now, aI cT 47 f_now)]) (w2 := fun u_101 => [(q_now, aI cT 47 f_now), (h, oX8 (.ref q_now) (.int x_arches) (.int x_cats) w_text (.int x_typed) (.ref q_row) (.int u_101.1) (.int (0 : Int32)) w_read (.int x_length) (.int x_top) (.int x_at) (.int x_wrong) w_told w_rule w_otherRule (.int x_ruleSize) (.int x_isAsked) w_asked w_undos (.int x_undoMany) w_aside w_then w_hold (.int x_dropped) w_acts w_guarded w_train (.int x_trolleyEnd) w_feltOf w_feltBy (.int x_feltMany) w_many w_heardOf w_heardBy (.int x_heardMany) w_worth (.int x_drawn) (.int x_came) w_kept w_isKept w_keptCame), (q_row, aJ cT 16 u_101.2)]) C0 lk_X8_249 (c_X8_tell l D cT F h (y4_58.toInt64) (.ref q_now) x_arches x_cats w_text x_typed q_row u_94.1 (0 : Int32) w_read x_length x_top x_at x_wrong w_told w_rule w_otherRule x_ruleSize x_isAsked w_asked w_undos x_undoMany w_aside w_then w_hold x_dropped w_acts w_guarded w_train x_trolleyEnd w_feltOf w_feltBy x_feltMany w_many w_heardOf w_heardBy x_heardMany w_worth x_drawn x_came w_kept w_isKept w_keptCame u_94.2 _ hg) hP hD hS hA [1, 2] [0] (by decide +kernel) rfl rfl (fun _ => rfl) rfl rfl ⟨Nat.le_of_ble_eq_true rfl, Nat.le_of_ble_eq_true rfl⟩ rfl hl.1 rfl (Nat.le_of_ble_eq_true rfl) dX8_spreads_101 ⟨Nat.le_of_ble_eq_true rfl, Nat.le_of_ble_eq_true rfl⟩ ?_
        intro u_101 H locs hg hP hD hS
        refine lv_iload_n hx hb dX8_spreads_104 rfl (lv_at hl 1 rfl) ?_
        exact k_iret C0 hr (u_101.1, (0 : Int32), u_101.2) hg (subP hP [1, 0, 2] rfl) (hD.sub [1, 0, 2] (nd2_ok _ (by decide +kernel)) rfl) hS dX8_spreads_105
      have hg := hg.2 c_66
      refine lv_iinc (v := (y4_58 + (1 : Int32))) (lv' := [(4, .int (y4_58 + (1 : Int32))), (0, .ref h), (3, .int y3_32), (5, .int y5_58)]) hx hb dX8_spreads_69 hl (k := 2) rfl rfl (by decide) rfl (fun ls hl => ?_)
      refine lv_aload_n hx hb dX8_spreads_72 rfl (lv_at hl 1 rfl) ?_
      refine lv_iload hx hb dX8_spreads_73 (lv_at hl 3 rfl) ?_
      refine k_Vxi (rest := []) C0 lk_X8_338 (c_X8_spread l D cT F h y5_58 q_now x_arches x_cats w_text x_typed (.ref q_row) x_rowMany (0 : Int32) w_read x_length x_top x_at x_wrong w_told w_rule w_otherRule x_ruleSize x_isAsked w_asked w_undos x_undoMany w_aside w_then w_hold x_dropped w_acts w_guarded w_train x_trolleyEnd w_feltOf w_feltBy x_feltMany w_many w_heardOf w_heardBy x_heardMany w_worth x_drawn x_came w_kept w_isKept w_keptCame f_now _ hg) hP hD hS hA [0, 1] (by decide +kernel) rfl rfl rfl ⟨Nat.le_of_ble_eq_true rfl, Nat.le_of_ble_eq_true rfl⟩ rfl hl.1 rfl (Nat.le_of_ble_eq_true rfl) dX8_spreads_75 ⟨Nat.le_of_ble_eq_true rfl, Nat.le_of_ble_eq_true rfl⟩ (fun r_75 hg => ?_)
      refine lv_istore (lv' := [(5, .int r_75), (4, .int (y4_58 + (1 : Int32))), (0, .ref h), (3, .int y3_32)]) hx hb dX8_spreads_78 hl (by decide) rfl (fun ls hl => ?_)
      refine lv_goto (tgt := 58) hx hb dX8_spreads_80 (by decide) ?_
      exact ih58 r_75 (y4_58 + (1 : Int32)) _ _ _ hg hP hD hS (lv_sub hl [2, 3, 1, 0] rfl)
  have L32 : ∀ (n32 : Nat) (y4_32 : Int32) (y3_32 : Int32) (H : Heap) (locs : List Loc) (ls : Array Slot), p_X8_spreads_32 F p1 p2 x_cats f_now f_row Post n32 y4_32 y3_32 → va_P D cls9 [(h, oX8 (.ref q_now) (.int x_arches) (.int x_cats) w_text (.int x_typed) (.ref q_row) (.int x_rowMany) (.int (0 : Int32)) w_read (.int x_length) (.int x_top) (.int x_at) (.int x_wrong) w_told w_rule w_otherRule (.int x_ruleSize) (.int x_isAsked) w_asked w_undos (.int x_undoMany) w_aside w_then w_hold (.int x_dropped) w_acts w_guarded w_train (.int x_trolleyEnd) w_feltOf w_feltBy (.int x_feltMany) w_many w_heardOf w_heardBy (.int x_heardMany) w_worth (.int x_drawn) (.int x_came) w_kept w_isKept w_keptCame), (q_now, aI cT 47 f_now), (q_row, aJ cT 16 f_row)] H → va_D A [(h, oX8 (.ref q_now) (.int x_arches) (.int x_cats) w_text (.int x_typed) (.ref q_row) (.int x_rowMany) (.int (0 : Int32)) w_read (.int x_length) (.int x_top) (.int x_at) (.int x_wrong) w_told w_rule w_otherRule (.int x_ruleSize) (.int x_isAsked) w_asked w_undos (.int x_undoMany) w_aside w_then w_hold (.int x_dropped) w_acts w_guarded w_train (.int x_trolleyEnd) w_feltOf w_feltBy (.int x_feltMany) w_many w_heardOf w_heardBy (.int x_heardMany) w_worth (.int x_drawn) (.int x_came) w_kept w_isKept w_keptCame), (q_now, aI cT 47 f_now), (q_row, aJ cT 16 f_row)] → va_S A s.heap H locs → lv_has ls 6 [(0, .ref h), (1, .int p1), (2, .int p2), (3, .int y3_32), (4, .int y4_32)] → W p l e (rmO 2 54 0 0) s m ([.ref h, .int p1, .int p2] : List Value).toArray below meth c H locs 0 0 (MQ below (va_Qi Post (cB D A (fun (u : (Int32 × Int32 × (Nat → Int64))) => [(h, oX8 (.ref q_now) (.int x_arches) (.int x_cats) w_text (.int x_typed) (.ref q_row) (.int u.1) (.int u.2.1) w_read (.int x_length) (.int x_top) (.int x_at) (.int x_wrong) w_told w_rule w_otherRule (.int x_ruleSize) (.int x_isAsked) w_asked w_undos (.int x_undoMany) w_aside w_then w_hold (.int x_dropped) w_acts w_guarded w_train (.int x_trolleyEnd) w_feltOf w_feltBy (.int x_feltMany) w_many w_heardOf w_heardBy (.int x_heardMany) w_worth (.int x_drawn) (.int x_came) w_kept w_isKept w_keptCame), (q_now, aI cT 47 f_now), (q_row, aJ cT 16 u.2.2)])) A) ([.ref h, .int p1, .int p2] : List Value).toArray s 0 0 A) (F0 m 32 ls []) := by
    intro n32
    induction n32 with
    | zero =>
      intro y4_32 y3_32 H locs ls hg hP hD hS hl
      exact False.elim hg
    | succ n32 ih32 =>
      intro y4_32 y3_32 H locs ls hg hP hD hS hl
      rw [p_X8_spreads_32_s] at hg
      refine lv_iload hx hb dX8_spreads_32 (lv_at hl 4 rfl) ?_
      refine lv_iload_n hx hb dX8_spreads_34 rfl (lv_at hl 2 rfl) ?_
      refine lv_icmp_ge (tgt := 50) hx hb dX8_spreads_35 (by decide) (fun c_35 => ?_) (fun c_35 => ?_)
      · have hg := hg.1 c_35
        refine lv_iconst (v := (0 : Int32)) hx hb dX8_spreads_50 (by decide) ?_
        refine lv_istore (lv' := [(4, .int (0 : Int32)), (0, .ref h), (1, .int p1), (2, .int p2), (3, .int y3_32)]) hx hb dX8_spreads_51 hl (by decide) rfl (fun ls hl => ?_)
        refine lv_iconst (v := (1 : Int32)) hx hb dX8_spreads_53 (by decide) ?_
        refine lv_iload_n hx hb dX8_spreads_54 rfl (lv_at hl 2 rfl) ?_
        refine lv_ishl hx hb dX8_spreads_55 ?_
        refine lv_istore (lv' := [(5, .int ((1 : Int32) <<< (p1 &&& 31))), (4, .int (0 : Int32)), (0, .ref h), (1, .int p1), (2, .int p2), (3, .int y3_32)]) hx hb dX8_spreads_56 hl (by decide) rfl (fun ls hl => ?_)
        exact L58 y3_32 F ((1 : Int32) <<< (p1 &&& 31)) (0 : Int32) _ _ _ hg hP hD hS (lv_sub hl [2, 5, 1, 0] rfl)
      have hg := hg.2 c_35
      refine lv_aload_n hx hb dX8_spreads_38 rfl (lv_at hl 0 rfl) ?_
      refine lv_iload_n hx hb dX8_spreads_39 rfl (lv_at hl 3 rfl) ?_
      refine k_Vxi (rest := []) C0 lk_X8_338 (c_X8_spread l D cT F h y3_32 q_now x_arches x_cats w_text x_typed (.ref q_row) x_rowMany (0 : Int32) w_read x_length x_top x_at x_wrong w_told w_rule w_otherRule x_ruleSize x_isAsked w_asked w_undos x_undoMany w_aside w_then w_hold x_dropped w_acts w_guarded w_train x_trolleyEnd w_feltOf w_feltBy x_feltMany w_many w_heardOf w_heardBy x_heardMany w_worth x_drawn x_came w_kept w_isKept w_keptCame f_now _ hg) hP hD hS hA [0, 1] (by decide +kernel) rfl rfl rfl ⟨Nat.le_of_ble_eq_true rfl, Nat.le_of_ble_eq_true rfl⟩ rfl hl.1 rfl (Nat.le_of_ble_eq_true rfl) dX8_spreads_40 ⟨Nat.le_of_ble_eq_true rfl, Nat.le_of_ble_eq_true rfl⟩ (fun r_40 hg => ?_)
      refine lv_istore_n (lv' := [(3, .int r_40), (0, .ref h), (1, .int p1), (2, .int p2), (4, .int y4_32)]) hx hb dX8_spreads_43 rfl hl (by decide) rfl (fun ls hl => ?_)
      refine lv_iinc (v := (y4_32 + (1 : Int32))) (lv' := [(4, .int (y4_32 + (1 : Int32))), (3, .int r_40), (0, .ref h), (1, .int p1), (2, .int p2)]) hx hb dX8_spreads_44 hl (k := 4) rfl rfl (by decide) rfl (fun ls hl => ?_)
      refine lv_goto (tgt := 32) hx hb dX8_spreads_47 (by decide) ?_
      exact ih32 (y4_32 + (1 : Int32)) r_40 _ _ _ hg hP hD hS (lv_sub hl [2, 3, 4, 1, 0] rfl)
  unfold p_X8_spreads at hg
  refine lv_aload_n hx hb dX8_spreads_0 rfl (lv_at hl 0 rfl) ?_
  refine lv_iconst (v := (0 : Int32)) hx hb dX8_spreads_1 (by decide) ?_
  refine pf_X8_82 C0 hP hD hS 0 rfl (Nat.le_of_ble_eq_true rfl) (ws2 := [(h, oX8 (.ref q_now) (.int x_arches) (.int x_cats) w_text (.int x_typed) (.ref q_row) (.int x_rowMany) (.int (0 : Int32)) w_read (.int x_length) (.int x_top) (.int x_at) (.int x_wrong) w_told w_rule w_otherRule (.int x_ruleSize) (.int x_isAsked) w_asked w_undos (.int x_undoMany) w_aside w_then w_hold (.int x_dropped) w_acts w_guarded w_train (.int x_trolleyEnd) w_feltOf w_feltBy (.int x_feltMany) w_many w_heardOf w_heardBy (.int x_heardMany) w_worth (.int x_drawn) (.int x_came) w_kept w_isKept w_keptCame), (q_now, aI cT 47 f_now), (q_row, aJ cT 16 f_row)]) rfl dX8_spreads_2 (fun H locs hP hD hS => ?_)
  refine lv_aload_n hx hb dX8_spreads_5 rfl (lv_at hl 0 rfl) ?_
  refine lv_iload_n hx hb dX8_spreads_6 rfl (lv_at hl 1 rfl) ?_
  refine k_Vxi (rest := []) C0 lk_X8_224 (c_X8_isCat l D cT F h p1 (.ref q_now) x_arches x_cats w_text x_typed (.ref q_row) x_rowMany (0 : Int32) w_read x_length x_top x_at x_wrong w_told w_rule w_otherRule x_ruleSize x_isAsked w_asked w_undos x_undoMany w_aside w_then w_hold x_dropped w_acts w_guarded w_train x_trolleyEnd w_feltOf w_feltBy x_feltMany w_many w_heardOf w_heardBy x_heardMany w_worth x_drawn x_came w_kept w_isKept w_keptCame _ hg) hP hD hS hA [0] (by decide +kernel) rfl rfl rfl ⟨Nat.le_of_ble_eq_true rfl, Nat.le_of_ble_eq_true rfl⟩ rfl hl.1 rfl (Nat.le_of_ble_eq_true rfl) dX8_spreads_7 ⟨Nat.le_of_ble_eq_true rfl, Nat.le_of_ble_eq_true rfl⟩ (fun r_7 hg => ?_)
  refine lv_if_eq (tgt := 23) hx hb dX8_spreads_10 (by decide) (fun c_10 => ?_) (fun c_10 => ?_)
  · have hg := hg.1 c_10
    refine lv_iconst (v := (-1 : Int32)) hx hb dX8_spreads_23 (by decide) ?_
    exact k_iret C0 hr (x_rowMany, (0 : Int32), f_row) hg hP hD hS dX8_spreads_24
  have hg := hg.2 c_10
  refine lv_iload_n hx hb dX8_spreads_13 rfl (lv_at hl 2 rfl) ?_
  refine lv_iconst (v := (0 : Int32)) hx hb dX8_spreads_14 (by decide) ?_
  refine lv_bipush (v := (9 : Int32)) hx hb dX8_spreads_15 (by decide) ?_
  refine k_Sxi (rest := []) C0 lk_X8_92 (c_X8_in l D cT F p2 (0 : Int32) (9 : Int32) _ hg) hP hD hS hA [] (by decide +kernel) rfl ⟨Nat.le_of_ble_eq_true rfl, Nat.le_of_ble_eq_true rfl⟩ rfl hl.1 rfl (Nat.le_of_ble_eq_true rfl) dX8_spreads_17 ⟨Nat.le_of_ble_eq_true rfl, Nat.le_of_ble_eq_true rfl⟩ (fun r_17 hg => ?_)
  refine lv_if_ne (tgt := 25) hx hb dX8_spreads_20 (by decide) (fun c_20 => ?_) (fun c_20 => ?_)
  · have hg := hg.1 c_20
    refine lv_iconst (v := (1 : Int32)) hx hb dX8_spreads_25 (by decide) ?_
    refine lv_iload_n hx hb dX8_spreads_26 rfl (lv_at hl 1 rfl) ?_
    refine lv_ishl hx hb dX8_spreads_27 ?_
    refine lv_istore_n (lv' := [(3, .int ((1 : Int32) <<< (p1 &&& 31))), (0, .ref h), (1, .int p1), (2, .int p2)]) hx hb dX8_spreads_28 rfl hl (by decide) rfl (fun ls hl => ?_)
    refine lv_iconst (v := (0 : Int32)) hx hb dX8_spreads_29 (by decide) ?_
    refine lv_istore (lv' := [(4, .int (0 : Int32)), (3, .int ((1 : Int32) <<< (p1 &&& 31))), (0, .ref h), (1, .int p1), (2, .int p2)]) hx hb dX8_spreads_30 hl (by decide) rfl (fun ls hl => ?_)
    exact L32 F (0 : Int32) ((1 : Int32) <<< (p1 &&& 31)) _ _ _ hg hP hD hS (lv_sub hl [2, 3, 4, 1, 0] rfl)
  have hg := hg.2 c_20
  refine lv_iconst (v := (-1 : Int32)) hx hb dX8_spreads_23 (by decide) ?_
  exact k_iret C0 hr (x_rowMany, (0 : Int32), f_row) hg hP hD hS dX8_spreads_24
theorem dX8_heard_0 : decode cX8_heard 0 = .ok (.aload_n 0, 1) := by decide +kernel
theorem dX8_heard_1 : decode cX8_heard 1 = .ok (.iconst 0, 1) := by decide +kernel
theorem dX8_heard_2 : decode cX8_heard 2 = .ok (.putfield 82, 3) := by decide +kernel
theorem dX8_heard_5 : decode cX8_heard 5 = .ok (.iload_n 1, 1) := by decide +kernel
theorem dX8_heard_6 : decode cX8_heard 6 = .ok (.iconst 2, 1) := by decide +kernel
theorem dX8_heard_7 : decode cX8_heard 7 = .ok (.if_icmp .ne 7, 3) := by decide +kernel
theorem dX8_heard_10 : decode cX8_heard 10 = .ok (.iconst 5, 1) := by decide +kernel
theorem dX8_heard_11 : decode cX8_heard 11 = .ok (.goto 14, 3) := by decide +kernel
theorem dX8_heard_14 : decode cX8_heard 14 = .ok (.iload_n 1, 1) := by decide +kernel
theorem dX8_heard_15 : decode cX8_heard 15 = .ok (.iconst 4, 1) := by decide +kernel
theorem dX8_heard_16 : decode cX8_heard 16 = .ok (.if_icmp .ne 7, 3) := by decide +kernel
theorem dX8_heard_19 : decode cX8_heard 19 = .ok (.iconst 1, 1) := by decide +kernel
theorem dX8_heard_20 : decode cX8_heard 20 = .ok (.goto 5, 3) := by decide +kernel
theorem dX8_heard_23 : decode cX8_heard 23 = .ok (.bipush 9, 2) := by decide +kernel
theorem dX8_heard_25 : decode cX8_heard 25 = .ok (.istore_n 3, 1) := by decide +kernel
theorem dX8_heard_26 : decode cX8_heard 26 = .ok (.iload_n 1, 1) := by decide +kernel
theorem dX8_heard_27 : decode cX8_heard 27 = .ok (.iconst 0, 1) := by decide +kernel
theorem dX8_heard_28 : decode cX8_heard 28 = .ok (.iconst 4, 1) := by decide +kernel
theorem dX8_heard_29 : decode cX8_heard 29 = .ok (.invokestatic 92, 3) := by decide +kernel
theorem dX8_heard_32 : decode cX8_heard 32 = .ok (.ifCond .eq 21, 3) := by decide +kernel
theorem dX8_heard_35 : decode cX8_heard 35 = .ok (.iload_n 2, 1) := by decide +kernel
theorem dX8_heard_36 : decode cX8_heard 36 = .ok (.iconst 0, 1) := by decide +kernel
theorem dX8_heard_37 : decode cX8_heard 37 = .ok (.iload_n 3, 1) := by decide +kernel
theorem dX8_heard_38 : decode cX8_heard 38 = .ok (.invokestatic 92, 3) := by decide +kernel
theorem dX8_heard_41 : decode cX8_heard 41 = .ok (.ifCond .eq 12, 3) := by decide +kernel
theorem dX8_heard_44 : decode cX8_heard 44 = .ok (.aload_n 0, 1) := by decide +kernel
theorem dX8_heard_45 : decode cX8_heard 45 = .ok (.getfield 341, 3) := by decide +kernel
theorem dX8_heard_48 : decode cX8_heard 48 = .ok (.bipush 12, 2) := by decide +kernel
theorem dX8_heard_50 : decode cX8_heard 50 = .ok (.if_icmp .ne 5, 3) := by decide +kernel
theorem dX8_heard_53 : decode cX8_heard 53 = .ok (.iconst (-1), 1) := by decide +kernel
theorem dX8_heard_54 : decode cX8_heard 54 = .ok (.ireturn, 1) := by decide +kernel
theorem dX8_heard_55 : decode cX8_heard 55 = .ok (.aload_n 0, 1) := by decide +kernel
theorem dX8_heard_56 : decode cX8_heard 56 = .ok (.getfield 63, 3) := by decide +kernel
theorem dX8_heard_59 : decode cX8_heard 59 = .ok (.aload_n 0, 1) := by decide +kernel
theorem dX8_heard_60 : decode cX8_heard 60 = .ok (.getfield 341, 3) := by decide +kernel
theorem dX8_heard_63 : decode cX8_heard 63 = .ok (.iload_n 1, 1) := by decide +kernel
theorem dX8_heard_64 : decode cX8_heard 64 = .ok (.iastore, 1) := by decide +kernel
theorem dX8_heard_65 : decode cX8_heard 65 = .ok (.aload_n 0, 1) := by decide +kernel
theorem dX8_heard_66 : decode cX8_heard 66 = .ok (.getfield 66, 3) := by decide +kernel
theorem dX8_heard_69 : decode cX8_heard 69 = .ok (.aload_n 0, 1) := by decide +kernel
theorem dX8_heard_70 : decode cX8_heard 70 = .ok (.getfield 341, 3) := by decide +kernel
theorem dX8_heard_73 : decode cX8_heard 73 = .ok (.iload_n 2, 1) := by decide +kernel
theorem dX8_heard_74 : decode cX8_heard 74 = .ok (.iastore, 1) := by decide +kernel
theorem dX8_heard_75 : decode cX8_heard 75 = .ok (.aload_n 0, 1) := by decide +kernel
theorem dX8_heard_76 : decode cX8_heard 76 = .ok (.dup, 1) := by decide +kernel
theorem dX8_heard_77 : decode cX8_heard 77 = .ok (.getfield 341, 3) := by decide +kernel
theorem dX8_heard_80 : decode cX8_heard 80 = .ok (.iconst 1, 1) := by decide +kernel
theorem dX8_heard_81 : decode cX8_heard 81 = .ok (.iadd, 1) := by decide +kernel
theorem dX8_heard_82 : decode cX8_heard 82 = .ok (.putfield 341, 3) := by decide +kernel
theorem dX8_heard_85 : decode cX8_heard 85 = .ok (.aload_n 0, 1) := by decide +kernel
theorem dX8_heard_86 : decode cX8_heard 86 = .ok (.getfield 341, 3) := by decide +kernel
theorem dX8_heard_89 : decode cX8_heard 89 = .ok (.ireturn, 1) := by decide +kernel
def p_X8_heard_25 (F : Nat) (p1 : Int32) (p2 : Int32) (x_heardMany : Int32) (f_heardOf : Nat → Int32) (f_heardBy : Nat → Int32) (Post : Int32 → (Int32 × Int32 × (Nat → Int32) × (Nat → Int32)) → Prop) (s0_25 : Int32) : Prop := (p_X8_in F p1 (0 : Int32) (4 : Int32) (fun (r_29 : Int32) => ((r_29 = 0 → (Post (-1 : Int32) ((0 : Int32), x_heardMany, f_heardOf, f_heardBy))) ∧ (¬ r_29 = 0 → (p_X8_in F p2 (0 : Int32) s0_25 (fun (r_38 : Int32) => ((r_38 = 0 → (Post (-1 : Int32) ((0 : Int32), x_heardMany, f_heardOf, f_heardBy))) ∧ (¬ r_38 = 0 → ((¬ x_heardMany = (12 : Int32) → (vp_in x_heardMany 12 ∧ (vp_in x_heardMany 12 ∧ (Post (x_heardMany + (1 : Int32)) ((0 : Int32), (x_heardMany + (1 : Int32)), (upd f_heardOf x_heardMany.toNatClampNeg p1), (upd f_heardBy x_heardMany.toNatClampNeg p2)))))) ∧ (x_heardMany = (12 : Int32) → (Post (-1 : Int32) ((0 : Int32), x_heardMany, f_heardOf, f_heardBy))))))))))))
def p_X8_heard (F : Nat) (p1 : Int32) (p2 : Int32) (x_heardMany : Int32) (f_heardOf : Nat → Int32) (f_heardBy : Nat → Int32) (Post : Int32 → (Int32 × Int32 × (Nat → Int32) × (Nat → Int32)) → Prop) : Prop := ((¬ p1 = (2 : Int32) → ((¬ p1 = (4 : Int32) → (p_X8_heard_25 F p1 p2 x_heardMany f_heardOf f_heardBy Post (9 : Int32))) ∧ (p1 = (4 : Int32) → (p_X8_heard_25 F p1 p2 x_heardMany f_heardOf f_heardBy Post (1 : Int32))))) ∧ (p1 = (2 : Int32) → (p_X8_heard_25 F p1 p2 x_heardMany f_heardOf f_heardBy Post (5 : Int32))))
set_option maxHeartbeats 4000000 in
set_option maxRecDepth 100000 in
theorem c_X8_heard (l : Launch) (D : va_G) (cT : Nat → ClassId) (F : Nat) (h : Nat) (p1 : Int32) (p2 : Int32) (w_now : Value) (x_arches : Int32) (x_cats : Int32) (w_text : Value) (x_typed : Int32) (w_row : Value) (x_rowMany : Int32) (x_thrown : Int32) (w_read : Value) (x_length : Int32) (x_top : Int32) (x_at : Int32) (x_wrong : Int32) (w_told : Value) (w_rule : Value) (w_otherRule : Value) (x_ruleSize : Int32) (x_isAsked : Int32) (w_asked : Value) (w_undos : Value) (x_undoMany : Int32) (w_aside : Value) (w_then : Value) (w_hold : Value) (x_dropped : Int32) (w_acts : Value) (w_guarded : Value) (w_train : Value) (x_trolleyEnd : Int32) (w_feltOf : Value) (w_feltBy : Value) (x_feltMany : Int32) (w_many : Value) (q_heardOf : Nat) (q_heardBy : Nat) (x_heardMany : Int32) (w_worth : Value) (x_drawn : Int32) (x_came : Int32) (w_kept : Value) (w_isKept : Value) (w_keptCame : Value) (f_heardOf : Nat → Int32) (f_heardBy : Nat → Int32) (Post : Int32 → (Int32 × Int32 × (Nat → Int32) × (Nat → Int32)) → Prop) (hg : p_X8_heard F p1 p2 x_heardMany f_heardOf f_heardBy Post) : MWi l D cT yX8_heard cX8_heard 4 (some .int) 1 22 0 0 [.ref h, .int p1, .int p2] [(h, oX8 w_now (.int x_arches) (.int x_cats) w_text (.int x_typed) w_row (.int x_rowMany) (.int x_thrown) w_read (.int x_length) (.int x_top) (.int x_at) (.int x_wrong) w_told w_rule w_otherRule (.int x_ruleSize) (.int x_isAsked) w_asked w_undos (.int x_undoMany) w_aside w_then w_hold (.int x_dropped) w_acts w_guarded w_train (.int x_trolleyEnd) w_feltOf w_feltBy (.int x_feltMany) w_many (.ref q_heardOf) (.ref q_heardBy) (.int x_heardMany) w_worth (.int x_drawn) (.int x_came) w_kept w_isKept w_keptCame), (q_heardOf, aI cT 12 f_heardOf), (q_heardBy, aI cT 12 f_heardBy)] Post (fun (u : (Int32 × Int32 × (Nat → Int32) × (Nat → Int32))) => [(h, oX8 w_now (.int x_arches) (.int x_cats) w_text (.int x_typed) w_row (.int x_rowMany) (.int u.1) w_read (.int x_length) (.int x_top) (.int x_at) (.int x_wrong) w_told w_rule w_otherRule (.int x_ruleSize) (.int x_isAsked) w_asked w_undos (.int x_undoMany) w_aside w_then w_hold (.int x_dropped) w_acts w_guarded w_train (.int x_trolleyEnd) w_feltOf w_feltBy (.int x_feltMany) w_many (.ref q_heardOf) (.ref q_heardBy) (.int u.2.1) w_worth (.int x_drawn) (.int x_came) w_kept w_isKept w_keptCame), (q_heardOf, aI cT 12 u.2.2.1), (q_heardBy, aI cT 12 u.2.2.2)]) := by
  refine MWi.of (by decide) (Nat.le_of_ble_eq_true rfl) ?_
  intro p e s m below meth c A hA C0 hnm hr hP hD ls hl
  have hl : lv_has ls 4 [(0, .ref h), (1, .int p1), (2, .int p2)] := hl
  have hx := C0.x
  have hb := C0.b
  have hS : va_S A s.heap s.heap [] := va_S.rf
  have hP : va_P D cls9 [(h, oX8 w_now (.int x_arches) (.int x_cats) w_text (.int x_typed) w_row (.int x_rowMany) (.int x_thrown) w_read (.int x_length) (.int x_top) (.int x_at) (.int x_wrong) w_told w_rule w_otherRule (.int x_ruleSize) (.int x_isAsked) w_asked w_undos (.int x_undoMany) w_aside w_then w_hold (.int x_dropped) w_acts w_guarded w_train (.int x_trolleyEnd) w_feltOf w_feltBy (.int x_feltMany) w_many (.ref q_heardOf) (.ref q_heardBy) (.int x_heardMany) w_worth (.int x_drawn) (.int x_came) w_kept w_isKept w_keptCame), (q_heardOf, aI cT 12 f_heardOf), (q_heardBy, aI cT 12 f_heardBy)] s.heap := hP
  have hD : va_D A [(h, oX8 w_now (.int x_arches) (.int x_cats) w_text (.int x_typed) w_row (.int x_rowMany) (.int x_thrown) w_read (.int x_length) (.int x_top) (.int x_at) (.int x_wrong) w_told w_rule w_otherRule (.int x_ruleSize) (.int x_isAsked) w_asked w_undos (.int x_undoMany) w_aside w_then w_hold (.int x_dropped) w_acts w_guarded w_train (.int x_trolleyEnd) w_feltOf w_feltBy (.int x_feltMany) w_many (.ref q_heardOf) (.ref q_heardBy) (.int x_heardMany) w_worth (.int x_drawn) (.int x_came) w_kept w_isKept w_keptCame), (q_heardOf, aI cT 12 f_heardOf), (q_heardBy, aI cT 12 f_heardBy)] := hD
  have L25 : ∀ (s0_25 : Int32) (H : Heap) (locs : List Loc) (ls : Array Slot), p_X8_heard_25 F p1 p2 x_heardMany f_heardOf f_heardBy Post s0_25 → va_P D cls9 [(h, oX8 w_now (.int x_arches) (.int x_cats) w_text (.int x_typed) w_row (.int x_rowMany) (.int (0 : Int32)) w_read (.int x_length) (.int x_top) (.int x_at) (.int x_wrong) w_told w_rule w_otherRule (.int x_ruleSize) (.int x_isAsked) w_asked w_undos (.int x_undoMany) w_aside w_then w_hold (.int x_dropped) w_acts w_guarded w_train (.int x_trolleyEnd) w_feltOf w_feltBy (.int x_feltMany) w_many (.ref q_heardOf) (.ref q_heardBy) (.int x_heardMany) w_worth (.int x_drawn) (.int x_came) w_kept w_isKept w_keptCame), (q_heardOf, aI cT 12 f_heardOf), (q_heardBy, aI cT 12 f_heardBy)] H → va_D A [(h, oX8 w_now (.int x_arches) (.int x_cats) w_text (.int x_typed) w_row (.int x_rowMany) (.int (0 : Int32)) w_read (.int x_length) (.int x_top) (.int x_at) (.int x_wrong) w_told w_rule w_otherRule (.int x_ruleSize) (.int x_isAsked) w_asked w_undos (.int x_undoMany) w_aside w_then w_hold (.int x_dropped) w_acts w_guarded w_train (.int x_trolleyEnd) w_feltOf w_feltBy (.int x_feltMany) w_many (.ref q_heardOf) (.ref q_heardBy) (.int x_heardMany) w_worth (.int x_drawn) (.int x_came) w_kept w_isKept w_keptCame), (q_heardOf, aI cT 12 f_heardOf), (q_heardBy, aI cT 12 f_heardBy)] → va_S A s.heap H locs → lv_has ls 4 [(0, .ref h), (1, .int p1), (2, .int p2)] → W p l e (rmO 1 22 0 0) s m ([.ref h, .int p1, .int p2] : List Value).toArray below meth c H locs 0 0 (MQ below (va_Qi Post (cB D A (fun (u : (Int32 × Int32 × (Nat → Int32) × (Nat → Int32))) => [(h, oX8 w_now (.int x_arches) (.int x_cats) w_text (.int x_typed) w_row (.int x_rowMany) (.int u.1) w_read (.int x_length) (.int x_top) (.int x_at) (.int x_wrong) w_told w_rule w_otherRule (.int x_ruleSize) (.int x_isAsked) w_asked w_undos (.int x_undoMany) w_aside w_then w_hold (.int x_dropped) w_acts w_guarded w_train (.int x_trolleyEnd) w_feltOf w_feltBy (.int x_feltMany) w_many (.ref q_heardOf) (.ref q_heardBy) (.int u.2.1) w_worth (.int x_drawn) (.int x_came) w_kept w_isKept w_keptCame), (q_heardOf, aI cT 12 u.2.2.1), (q_heardBy, aI cT 12 u.2.2.2)])) A) ([.ref h, .int p1, .int p2] : List Value).toArray s 0 0 A) (F0 m 25 ls [.int s0_25]) := by
    intro s0_25 H locs ls hg hP hD hS hl
    unfold p_X8_heard_25 at hg
    refine lv_istore_n (lv' := [(3, .int s0_25), (0, .ref h), (1, .int p1), (2, .int p2)]) hx hb dX8_heard_25 rfl hl (by decide) rfl (fun ls hl => ?_)
    refine lv_iload_n hx hb dX8_heard_26 rfl (lv_at hl 2 rfl) ?_
    refine lv_iconst (v := (0 : Int32)) hx hb dX8_heard_27 (by decide) ?_
    refine lv_iconst (v := (4 : Int32)) hx hb dX8_heard_28 (by decide) ?_
    refine k_Sxi (rest := []) C0 lk_X8_92 (c_X8_in l D cT F p1 (0 : Int32) (4 : Int32) _ hg) hP hD hS hA [] (by decide +kernel) rfl ⟨Nat.le_of_ble_eq_true rfl, Nat.le_of_ble_eq_true rfl⟩ rfl hl.1 rfl (Nat.le_of_ble_eq_true rfl) dX8_heard_29 ⟨Nat.le_of_ble_eq_true rfl, Nat.le_of_ble_eq_true rfl⟩ (fun r_29 hg => ?_)
    refine lv_if_eq (tgt := 53) hx hb dX8_heard_32 (by decide) (fun c_32 => ?_) (fun c_32 => ?_)
    · have hg := hg.1 c_32
      refine lv_iconst (v := (-1 : Int32)) hx hb dX8_heard_53 (by decide) ?_
      exact k_iret C0 hr ((0 : Int32), x_heardMany, f_heardOf, f_heardBy) hg hP hD hS dX8_heard_54
    have hg := hg.2 c_32
    refine lv_iload_n hx hb dX8_heard_35 rfl (lv_at hl 3 rfl) ?_
    refine lv_iconst (v := (0 : Int32)) hx hb dX8_heard_36 (by decide) ?_
    refine lv_iload_n hx hb dX8_heard_37 rfl (lv_at hl 0 rfl) ?_
    refine k_Sxi (rest := []) C0 lk_X8_92 (c_X8_in l D cT F p2 (0 : Int32) s0_25 _ hg) hP hD hS hA [] (by decide +kernel) rfl ⟨Nat.le_of_ble_eq_true rfl, Nat.le_of_ble_eq_true rfl⟩ rfl hl.1 rfl (Nat.le_of_ble_eq_true rfl) dX8_heard_38 ⟨Nat.le_of_ble_eq_true rfl, Nat.le_of_ble_eq_true rfl⟩ (fun r_38 hg => ?_)
    refine lv_if_eq (tgt := 53) hx hb dX8_heard_41 (by decide) (fun c_41 => ?_) (fun c_41 => ?_)
    · have hg := hg.1 c_41
      refine lv_iconst (v := (-1 : Int32)) hx hb dX8_heard_53 (by decide) ?_
      exact k_iret C0 hr ((0 : Int32), x_heardMany, f_heardOf, f_heardBy) hg hP hD hS dX8_heard_54
    have hg := hg.2 c_41
    refine lv_aload_n hx hb dX8_heard_44 rfl (lv_at hl 1 rfl) ?_
    refine gf_X8_341 C0 hP 0 rfl rfl dX8_heard_45 ?_
    refine lv_bipush (v := (12 : Int32)) hx hb dX8_heard_48 (by decide) ?_
    refine lv_icmp_ne (tgt := 55) hx hb dX8_heard_50 (by decide) (fun c_50 => ?_) (fun c_50 => ?_)
    · have hg := hg.1 c_50
      refine lv_aload_n hx hb dX8_heard_55 rfl (lv_at hl 1 rfl) ?_
      refine gf_X8_63 C0 hP 0 rfl rfl dX8_heard_56 ?_
      refine lv_aload_n hx hb dX8_heard_59 rfl (lv_at hl 1 rfl) ?_
      refine gf_X8_341 C0 hP 0 rfl rfl dX8_heard_60 ?_
      refine lv_iload_n hx hb dX8_heard_63 rfl (lv_at hl 2 rfl) ?_
      obtain ⟨g_64, hg⟩ := hg
      refine k_iast C0 hP hD hS 1 rfl g_64 (ws' := [(h, oX8 w_now (.int x_arches) (.int x_cats) w_text (.int x_typed) w_row (.int x_rowMany) (.int (0 : Int32)) w_read (.int x_length) (.int x_top) (.int x_at) (.int x_wrong) w_told w_rule w_otherRule (.int x_ruleSize) (.int x_isAsked) w_asked w_undos (.int x_undoMany) w_aside w_then w_hold (.int x_dropped) w_acts w_guarded w_train (.int x_trolleyEnd) w_feltOf w_feltBy (.int x_feltMany) w_many (.ref q_heardOf) (.ref q_heardBy) (.int x_heardMany) w_worth (.int x_drawn) (.int x_came) w_kept w_isKept w_keptCame), (q_heardOf, aI cT 12 (upd f_heardOf x_heardMany.toNatClampNeg p1)), (q_heardBy, aI cT 12 f_heardBy)]) rfl dX8_heard_64 (fun H locs hP hD hS => ?_)
      refine lv_aload_n hx hb dX8_heard_65 rfl (lv_at hl 1 rfl) ?_
      refine gf_X8_66 C0 hP 0 rfl rfl dX8_heard_66 ?_
      refine lv_aload_n hx hb dX8_heard_69 rfl (lv_at hl 1 rfl) ?_
      refine gf_X8_341 C0 hP 0 rfl rfl dX8_heard_70 ?_
      refine lv_iload_n hx hb dX8_heard_73 rfl (lv_at hl 3 rfl) ?_
      obtain ⟨g_74, hg⟩ := hg
      refine k_iast C0 hP hD hS 2 rfl g_74 (ws' := [(h, oX8 w_now (.int x_arches) (.int x_cats) w_text (.int x_typed) w_row (.int x_rowMany) (.int (0 : Int32)) w_read (.int x_length) (.int x_top) (.int x_at) (.int x_wrong) w_told w_rule w_otherRule (.int x_ruleSize) (.int x_isAsked) w_asked w_undos (.int x_undoMany) w_aside w_then w_hold (.int x_dropped) w_acts w_guarded w_train (.int x_trolleyEnd) w_feltOf w_feltBy (.int x_feltMany) w_many (.ref q_heardOf) (.ref q_heardBy) (.int x_heardMany) w_worth (.int x_drawn) (.int x_came) w_kept w_isKept w_keptCame), (q_heardOf, aI cT 12 (upd f_heardOf x_heardMany.toNatClampNeg p1)), (q_heardBy, aI cT 12 (upd f_heardBy x_heardMany.toNatClampNeg p2))]) rfl dX8_heard_74 (fun H locs hP hD hS => ?_)
      refine lv_aload_n hx hb dX8_heard_75 rfl (lv_at hl 1 rfl) ?_
      refine lv_dup hx hb dX8_heard_76 rfl ?_
      refine gf_X8_341 C0 hP 0 rfl rfl dX8_heard_77 ?_
      refine lv_iconst (v := (1 : Int32)) hx hb dX8_heard_80 (by decide) ?_
      refine lv_iadd hx hb dX8_heard_81 ?_
      refine pf_X8_341 C0 hP hD hS 0 rfl (Nat.le_of_ble_eq_true rfl) (ws2 := [(h, oX8 w_now (.int x_arches) (.int x_cats) w_text (.int x_typed) w_row (.int x_rowMany) (.int (0 : Int32)) w_read (.int x_length) (.int x_top) (.int x_at) (.int x_wrong) w_told w_rule w_otherRule (.int x_ruleSize) (.int x_isAsked) w_asked w_undos (.int x_undoMany) w_aside w_then w_hold (.int x_dropped) w_acts w_guarded w_train (.int x_trolleyEnd) w_feltOf w_feltBy (.int x_feltMany) w_many (.ref q_heardOf) (.ref q_heardBy) (.int (x_heardMany + (1 : Int32))) w_worth (.int x_drawn) (.int x_came) w_kept w_isKept w_keptCame), (q_heardOf, aI cT 12 (upd f_heardOf x_heardMany.toNatClampNeg p1)), (q_heardBy, aI cT 12 (upd f_heardBy x_heardMany.toNatClampNeg p2))]) rfl dX8_heard_82 (fun H locs hP hD hS => ?_)
      refine lv_aload_n hx hb dX8_heard_85 rfl (lv_at hl 1 rfl) ?_
      refine gf_X8_341 C0 hP 0 rfl rfl dX8_heard_86 ?_
      exact k_iret C0 hr ((0 : Int32), (x_heardMany + (1 : Int32)), (upd f_heardOf x_heardMany.toNatClampNeg p1), (upd f_heardBy x_heardMany.toNatClampNeg p2)) hg hP hD hS dX8_heard_89
    have hg := hg.2 c_50
    refine lv_iconst (v := (-1 : Int32)) hx hb dX8_heard_53 (by decide) ?_
    exact k_iret C0 hr ((0 : Int32), x_heardMany, f_heardOf, f_heardBy) hg hP hD hS dX8_heard_54
  unfold p_X8_heard at hg
  refine lv_aload_n hx hb dX8_heard_0 rfl (lv_at hl 0 rfl) ?_
  refine lv_iconst (v := (0 : Int32)) hx hb dX8_heard_1 (by decide) ?_
  refine pf_X8_82 C0 hP hD hS 0 rfl (Nat.le_of_ble_eq_true rfl) (ws2 := [(h, oX8 w_now (.int x_arches) (.int x_cats) w_text (.int x_typed) w_row (.int x_rowMany) (.int (0 : Int32)) w_read (.int x_length) (.int x_top) (.int x_at) (.int x_wrong) w_told w_rule w_otherRule (.int x_ruleSize) (.int x_isAsked) w_asked w_undos (.int x_undoMany) w_aside w_then w_hold (.int x_dropped) w_acts w_guarded w_train (.int x_trolleyEnd) w_feltOf w_feltBy (.int x_feltMany) w_many (.ref q_heardOf) (.ref q_heardBy) (.int x_heardMany) w_worth (.int x_drawn) (.int x_came) w_kept w_isKept w_keptCame), (q_heardOf, aI cT 12 f_heardOf), (q_heardBy, aI cT 12 f_heardBy)]) rfl dX8_heard_2 (fun H locs hP hD hS => ?_)
  refine lv_iload_n hx hb dX8_heard_5 rfl (lv_at hl 1 rfl) ?_
  refine lv_iconst (v := (2 : Int32)) hx hb dX8_heard_6 (by decide) ?_
  refine lv_icmp_ne (tgt := 14) hx hb dX8_heard_7 (by decide) (fun c_7 => ?_) (fun c_7 => ?_)
  · have hg := hg.1 c_7
    refine lv_iload_n hx hb dX8_heard_14 rfl (lv_at hl 1 rfl) ?_
    refine lv_iconst (v := (4 : Int32)) hx hb dX8_heard_15 (by decide) ?_
    refine lv_icmp_ne (tgt := 23) hx hb dX8_heard_16 (by decide) (fun c_16 => ?_) (fun c_16 => ?_)
    · have hg := hg.1 c_16
      refine lv_bipush (v := (9 : Int32)) hx hb dX8_heard_23 (by decide) ?_
      exact L25 (9 : Int32) _ _ _ hg hP hD hS hl
    have hg := hg.2 c_16
    refine lv_iconst (v := (1 : Int32)) hx hb dX8_heard_19 (by decide) ?_
    refine lv_goto (tgt := 25) hx hb dX8_heard_20 (by decide) ?_
    exact L25 (1 : Int32) _ _ _ hg hP hD hS hl
  have hg := hg.2 c_7
  refine lv_iconst (v := (5 : Int32)) hx hb dX8_heard_10 (by decide) ?_
  refine lv_goto (tgt := 25) hx hb dX8_heard_11 (by decide) ?_
  exact L25 (5 : Int32) _ _ _ hg hP hD hS hl
