theorem dX8_denies_0 : decode cX8_denies 0 = .ok (.aload_n 0, 1) := by decide +kernel
theorem dX8_denies_1 : decode cX8_denies 1 = .ok (.iconst 0, 1) := by decide +kernel
theorem dX8_denies_2 : decode cX8_denies 2 = .ok (.putfield 82, 3) := by decide +kernel
theorem dX8_denies_5 : decode cX8_denies 5 = .ok (.aload_n 0, 1) := by decide +kernel
theorem dX8_denies_6 : decode cX8_denies 6 = .ok (.getfield 341, 3) := by decide +kernel
theorem dX8_denies_9 : decode cX8_denies 9 = .ok (.istore_n 1, 1) := by decide +kernel
theorem dX8_denies_10 : decode cX8_denies 10 = .ok (.aload_n 0, 1) := by decide +kernel
theorem dX8_denies_11 : decode cX8_denies 11 = .ok (.iconst 0, 1) := by decide +kernel
theorem dX8_denies_12 : decode cX8_denies 12 = .ok (.putfield 341, 3) := by decide +kernel
theorem dX8_denies_15 : decode cX8_denies 15 = .ok (.iload_n 1, 1) := by decide +kernel
theorem dX8_denies_16 : decode cX8_denies 16 = .ok (.ireturn, 1) := by decide +kernel
def p_X8_denies (F : Nat) (x_heardMany : Int32) (Post : Int32 → (Int32 × Int32) → Prop) : Prop := (Post x_heardMany ((0 : Int32), (0 : Int32)))
set_option maxHeartbeats 4000000 in
set_option maxRecDepth 100000 in
theorem c_X8_denies (l : Launch) (D : va_G) (cT : Nat → ClassId) (F : Nat) (h : Nat) (w_now : Value) (x_arches : Int32) (x_cats : Int32) (w_text : Value) (x_typed : Int32) (w_row : Value) (x_rowMany : Int32) (x_thrown : Int32) (w_read : Value) (x_length : Int32) (x_top : Int32) (x_at : Int32) (x_wrong : Int32) (w_told : Value) (w_rule : Value) (w_otherRule : Value) (x_ruleSize : Int32) (x_isAsked : Int32) (w_asked : Value) (w_undos : Value) (x_undoMany : Int32) (w_aside : Value) (w_then : Value) (w_hold : Value) (x_dropped : Int32) (w_acts : Value) (w_guarded : Value) (w_train : Value) (x_trolleyEnd : Int32) (w_feltOf : Value) (w_feltBy : Value) (x_feltMany : Int32) (w_many : Value) (w_heardOf : Value) (w_heardBy : Value) (x_heardMany : Int32) (w_worth : Value) (x_drawn : Int32) (x_came : Int32) (w_kept : Value) (w_isKept : Value) (w_keptCame : Value) (Post : Int32 → (Int32 × Int32) → Prop) (hg : p_X8_denies F x_heardMany Post) : MWi l D cT yX8_denies cX8_denies 2 (some .int) 0 0 0 0 [.ref h] [(h, oX8 w_now (.int x_arches) (.int x_cats) w_text (.int x_typed) w_row (.int x_rowMany) (.int x_thrown) w_read (.int x_length) (.int x_top) (.int x_at) (.int x_wrong) w_told w_rule w_otherRule (.int x_ruleSize) (.int x_isAsked) w_asked w_undos (.int x_undoMany) w_aside w_then w_hold (.int x_dropped) w_acts w_guarded w_train (.int x_trolleyEnd) w_feltOf w_feltBy (.int x_feltMany) w_many w_heardOf w_heardBy (.int x_heardMany) w_worth (.int x_drawn) (.int x_came) w_kept w_isKept w_keptCame)] Post (fun (u : (Int32 × Int32)) => [(h, oX8 w_now (.int x_arches) (.int x_cats) w_text (.int x_typed) w_row (.int x_rowMany) (.int u.1) w_read (.int x_length) (.int x_top) (.int x_at) (.int x_wrong) w_told w_rule w_otherRule (.int x_ruleSize) (.int x_isAsked) w_asked w_undos (.int x_undoMany) w_aside w_then w_hold (.int x_dropped) w_acts w_guarded w_train (.int x_trolleyEnd) w_feltOf w_feltBy (.int x_feltMany) w_many w_heardOf w_heardBy (.int u.2) w_worth (.int x_drawn) (.int x_came) w_kept w_isKept w_keptCame)]) := by
  refine MWi.of (by decide) (Nat.le_of_ble_eq_true rfl) ?_
  intro p e s m below meth c A hA C0 hnm hr hP hD ls hl
  have hl : lv_has ls 2 [(0, .ref h)] := hl
  have hx := C0.x
  have hb := C0.b
  have hS : va_S A s.heap s.heap [] := va_S.rf
  have hP : va_P D cls9 [(h, oX8 w_now (.int x_arches) (.int x_cats) w_text (.int x_typed) w_row (.int x_rowMany) (.int x_thrown) w_read (.int x_length) (.int x_top) (.int x_at) (.int x_wrong) w_told w_rule w_otherRule (.int x_ruleSize) (.int x_isAsked) w_asked w_undos (.int x_undoMany) w_aside w_then w_hold (.int x_dropped) w_acts w_guarded w_train (.int x_trolleyEnd) w_feltOf w_feltBy (.int x_feltMany) w_many w_heardOf w_heardBy (.int x_heardMany) w_worth (.int x_drawn) (.int x_came) w_kept w_isKept w_keptCame)] s.heap := hP
  have hD : va_D A [(h, oX8 w_now (.int x_arches) (.int x_cats) w_text (.int x_typed) w_row (.int x_rowMany) (.int x_thrown) w_read (.int x_length) (.int x_top) (.int x_at) (.int x_wrong) w_told w_rule w_otherRule (.int x_ruleSize) (.int x_isAsked) w_asked w_undos (.int x_undoMany) w_aside w_then w_hold (.int x_dropped) w_acts w_guarded w_train (.int x_trolleyEnd) w_feltOf w_feltBy (.int x_feltMany) w_many w_heardOf w_heardBy (.int x_heardMany) w_worth (.int x_drawn) (.int x_came) w_kept w_isKept w_keptCame)] := hD
  unfold p_X8_denies at hg
  refine lv_aload_n hx hb dX8_denies_0 rfl (lv_at hl 0 rfl) ?_
  refine lv_iconst (v := (0 : Int32)) hx hb dX8_denies_1 (by decide) ?_
  refine pf_X8_82 C0 hP hD hS 0 rfl (Nat.le_of_ble_eq_true rfl) (ws2 := [(h, oX8 w_now (.int x_arches) (.int x_cats) w_text (.int x_typed) w_row (.int x_rowMany) (.int (0 : Int32)) w_read (.int x_length) (.int x_top) (.int x_at) (.int x_wrong) w_told w_rule w_otherRule (.int x_ruleSize) (.int x_isAsked) w_asked w_undos (.int x_undoMany) w_aside w_then w_hold (.int x_dropped) w_acts w_guarded w_train (.int x_trolleyEnd) w_feltOf w_feltBy (.int x_feltMany) w_many w_heardOf w_heardBy (.int x_heardMany) w_worth (.int x_drawn) (.int x_came) w_kept w_isKept w_keptCame)]) rfl dX8_denies_2 (fun H locs hP hD hS => ?_)
  refine lv_aload_n hx hb dX8_denies_5 rfl (lv_at hl 0 rfl) ?_
  refine gf_X8_341 C0 hP 0 rfl rfl dX8_denies_6 ?_
  refine lv_istore_n (lv' := [(1, .int x_heardMany), (0, .ref h)]) hx hb dX8_denies_9 rfl hl (by decide) rfl (fun ls hl => ?_)
  refine lv_aload_n hx hb dX8_denies_10 rfl (lv_at hl 1 rfl) ?_
  refine lv_iconst (v := (0 : Int32)) hx hb dX8_denies_11 (by decide) ?_
  refine pf_X8_341 C0 hP hD hS 0 rfl (Nat.le_of_ble_eq_true rfl) (ws2 := [(h, oX8 w_now (.int x_arches) (.int x_cats) w_text (.int x_typed) w_row (.int x_rowMany) (.int (0 : Int32)) w_read (.int x_length) (.int x_top) (.int x_at) (.int x_wrong) w_told w_rule w_otherRule (.int x_ruleSize) (.int x_isAsked) w_asked w_undos (.int x_undoMany) w_aside w_then w_hold (.int x_dropped) w_acts w_guarded w_train (.int x_trolleyEnd) w_feltOf w_feltBy (.int x_feltMany) w_many w_heardOf w_heardBy (.int (0 : Int32)) w_worth (.int x_drawn) (.int x_came) w_kept w_isKept w_keptCame)]) rfl dX8_denies_12 (fun H locs hP hD hS => ?_)
  refine lv_iload_n hx hb dX8_denies_15 rfl (lv_at hl 0 rfl) ?_
  exact k_iret C0 hr ((0 : Int32), (0 : Int32)) hg hP hD hS dX8_denies_16
theorem dX8_isSo_0 : decode cX8_isSo 0 = .ok (.iload_n 2, 1) := by decide +kernel
theorem dX8_isSo_1 : decode cX8_isSo 1 = .ok (.tableswitch 107 0 3 #[31, 50, 69, 88], 31) := by decide +kernel
theorem dX8_isSo_32 : decode cX8_isSo 32 = .ok (.aload_n 0, 1) := by decide +kernel
theorem dX8_isSo_33 : decode cX8_isSo 33 = .ok (.getfield 9, 3) := by decide +kernel
theorem dX8_isSo_36 : decode cX8_isSo 36 = .ok (.bipush 12, 2) := by decide +kernel
theorem dX8_isSo_38 : decode cX8_isSo 38 = .ok (.iload_n 1, 1) := by decide +kernel
theorem dX8_isSo_39 : decode cX8_isSo 39 = .ok (.iadd, 1) := by decide +kernel
theorem dX8_isSo_40 : decode cX8_isSo 40 = .ok (.iaload, 1) := by decide +kernel
theorem dX8_isSo_41 : decode cX8_isSo 41 = .ok (.iload_n 3, 1) := by decide +kernel
theorem dX8_isSo_42 : decode cX8_isSo 42 = .ok (.if_icmp .lt 7, 3) := by decide +kernel
theorem dX8_isSo_45 : decode cX8_isSo 45 = .ok (.iconst 1, 1) := by decide +kernel
theorem dX8_isSo_46 : decode cX8_isSo 46 = .ok (.goto 4, 3) := by decide +kernel
theorem dX8_isSo_49 : decode cX8_isSo 49 = .ok (.iconst 0, 1) := by decide +kernel
theorem dX8_isSo_50 : decode cX8_isSo 50 = .ok (.ireturn, 1) := by decide +kernel
theorem dX8_isSo_51 : decode cX8_isSo 51 = .ok (.aload_n 0, 1) := by decide +kernel
theorem dX8_isSo_52 : decode cX8_isSo 52 = .ok (.getfield 9, 3) := by decide +kernel
theorem dX8_isSo_55 : decode cX8_isSo 55 = .ok (.bipush 20, 2) := by decide +kernel
theorem dX8_isSo_57 : decode cX8_isSo 57 = .ok (.iload_n 1, 1) := by decide +kernel
theorem dX8_isSo_58 : decode cX8_isSo 58 = .ok (.iadd, 1) := by decide +kernel
theorem dX8_isSo_59 : decode cX8_isSo 59 = .ok (.iaload, 1) := by decide +kernel
theorem dX8_isSo_60 : decode cX8_isSo 60 = .ok (.iload_n 3, 1) := by decide +kernel
theorem dX8_isSo_61 : decode cX8_isSo 61 = .ok (.if_icmp .lt 7, 3) := by decide +kernel
theorem dX8_isSo_64 : decode cX8_isSo 64 = .ok (.iconst 1, 1) := by decide +kernel
theorem dX8_isSo_65 : decode cX8_isSo 65 = .ok (.goto 4, 3) := by decide +kernel
theorem dX8_isSo_68 : decode cX8_isSo 68 = .ok (.iconst 0, 1) := by decide +kernel
theorem dX8_isSo_69 : decode cX8_isSo 69 = .ok (.ireturn, 1) := by decide +kernel
theorem dX8_isSo_70 : decode cX8_isSo 70 = .ok (.aload_n 0, 1) := by decide +kernel
theorem dX8_isSo_71 : decode cX8_isSo 71 = .ok (.getfield 9, 3) := by decide +kernel
theorem dX8_isSo_74 : decode cX8_isSo 74 = .ok (.bipush 36, 2) := by decide +kernel
theorem dX8_isSo_76 : decode cX8_isSo 76 = .ok (.iload_n 1, 1) := by decide +kernel
theorem dX8_isSo_77 : decode cX8_isSo 77 = .ok (.iadd, 1) := by decide +kernel
theorem dX8_isSo_78 : decode cX8_isSo 78 = .ok (.iaload, 1) := by decide +kernel
theorem dX8_isSo_79 : decode cX8_isSo 79 = .ok (.iload_n 3, 1) := by decide +kernel
theorem dX8_isSo_80 : decode cX8_isSo 80 = .ok (.if_icmp .ne 7, 3) := by decide +kernel
theorem dX8_isSo_83 : decode cX8_isSo 83 = .ok (.iconst 1, 1) := by decide +kernel
theorem dX8_isSo_84 : decode cX8_isSo 84 = .ok (.goto 4, 3) := by decide +kernel
theorem dX8_isSo_87 : decode cX8_isSo 87 = .ok (.iconst 0, 1) := by decide +kernel
theorem dX8_isSo_88 : decode cX8_isSo 88 = .ok (.ireturn, 1) := by decide +kernel
theorem dX8_isSo_89 : decode cX8_isSo 89 = .ok (.aload_n 0, 1) := by decide +kernel
theorem dX8_isSo_90 : decode cX8_isSo 90 = .ok (.aload_n 0, 1) := by decide +kernel
theorem dX8_isSo_91 : decode cX8_isSo 91 = .ok (.getfield 9, 3) := by decide +kernel
theorem dX8_isSo_94 : decode cX8_isSo 94 = .ok (.iload_n 1, 1) := by decide +kernel
theorem dX8_isSo_95 : decode cX8_isSo 95 = .ok (.invokevirtual 211, 3) := by decide +kernel
theorem dX8_isSo_98 : decode cX8_isSo 98 = .ok (.iload_n 3, 1) := by decide +kernel
theorem dX8_isSo_99 : decode cX8_isSo 99 = .ok (.if_icmp .lt 7, 3) := by decide +kernel
theorem dX8_isSo_102 : decode cX8_isSo 102 = .ok (.iconst 1, 1) := by decide +kernel
theorem dX8_isSo_103 : decode cX8_isSo 103 = .ok (.goto 4, 3) := by decide +kernel
theorem dX8_isSo_106 : decode cX8_isSo 106 = .ok (.iconst 0, 1) := by decide +kernel
theorem dX8_isSo_107 : decode cX8_isSo 107 = .ok (.ireturn, 1) := by decide +kernel
theorem dX8_isSo_108 : decode cX8_isSo 108 = .ok (.aload_n 0, 1) := by decide +kernel
theorem dX8_isSo_109 : decode cX8_isSo 109 = .ok (.getfield 9, 3) := by decide +kernel
theorem dX8_isSo_112 : decode cX8_isSo 112 = .ok (.bipush 28, 2) := by decide +kernel
theorem dX8_isSo_114 : decode cX8_isSo 114 = .ok (.iload_n 1, 1) := by decide +kernel
theorem dX8_isSo_115 : decode cX8_isSo 115 = .ok (.iadd, 1) := by decide +kernel
theorem dX8_isSo_116 : decode cX8_isSo 116 = .ok (.iaload, 1) := by decide +kernel
theorem dX8_isSo_117 : decode cX8_isSo 117 = .ok (.ifCond .le 7, 3) := by decide +kernel
theorem dX8_isSo_120 : decode cX8_isSo 120 = .ok (.iconst 1, 1) := by decide +kernel
theorem dX8_isSo_121 : decode cX8_isSo 121 = .ok (.goto 4, 3) := by decide +kernel
theorem dX8_isSo_124 : decode cX8_isSo 124 = .ok (.iconst 0, 1) := by decide +kernel
theorem dX8_isSo_125 : decode cX8_isSo 125 = .ok (.iload_n 3, 1) := by decide +kernel
theorem dX8_isSo_126 : decode cX8_isSo 126 = .ok (.iconst 1, 1) := by decide +kernel
theorem dX8_isSo_127 : decode cX8_isSo 127 = .ok (.if_icmp .ne 7, 3) := by decide +kernel
theorem dX8_isSo_130 : decode cX8_isSo 130 = .ok (.iconst 1, 1) := by decide +kernel
theorem dX8_isSo_131 : decode cX8_isSo 131 = .ok (.goto 4, 3) := by decide +kernel
theorem dX8_isSo_134 : decode cX8_isSo 134 = .ok (.iconst 0, 1) := by decide +kernel
theorem dX8_isSo_135 : decode cX8_isSo 135 = .ok (.if_icmp .ne 7, 3) := by decide +kernel
theorem dX8_isSo_138 : decode cX8_isSo 138 = .ok (.iconst 1, 1) := by decide +kernel
theorem dX8_isSo_139 : decode cX8_isSo 139 = .ok (.goto 4, 3) := by decide +kernel
theorem dX8_isSo_142 : decode cX8_isSo 142 = .ok (.iconst 0, 1) := by decide +kernel
theorem dX8_isSo_143 : decode cX8_isSo 143 = .ok (.ireturn, 1) := by decide +kernel
def p_X8_isSo_135 (F : Nat) (w_read : Value) (x_length : Int32) (x_top : Int32) (x_at : Int32) (x_wrong : Int32) (x_isAsked : Int32) (f_asked : Nat → Int32) (s0_125 : Int32) (Post : Int32 → (Value × Int32 × Int32 × Int32 × Int32 × Int32 × (Nat → Int32)) → Prop) (s1_135 : Int32) : Prop := ((¬ s0_125 = s1_135 → (Post (0 : Int32) (w_read, x_length, x_top, x_at, x_wrong, x_isAsked, f_asked))) ∧ (s0_125 = s1_135 → (Post (1 : Int32) (w_read, x_length, x_top, x_at, x_wrong, x_isAsked, f_asked))))
def p_X8_isSo_125 (F : Nat) (p3 : Int32) (w_read : Value) (x_length : Int32) (x_top : Int32) (x_at : Int32) (x_wrong : Int32) (x_isAsked : Int32) (f_asked : Nat → Int32) (Post : Int32 → (Value × Int32 × Int32 × Int32 × Int32 × Int32 × (Nat → Int32)) → Prop) (s0_125 : Int32) : Prop := ((¬ p3 = (1 : Int32) → (p_X8_isSo_135 F w_read x_length x_top x_at x_wrong x_isAsked f_asked s0_125 Post (0 : Int32))) ∧ (p3 = (1 : Int32) → (p_X8_isSo_135 F w_read x_length x_top x_at x_wrong x_isAsked f_asked s0_125 Post (1 : Int32))))
def p_X8_isSo (F : Nat) (p1 : Int32) (p2 : Int32) (p3 : Int32) (x_cats : Int32) (w_read : Value) (x_length : Int32) (x_top : Int32) (x_at : Int32) (x_wrong : Int32) (q_rule : Nat) (x_ruleSize : Int32) (x_isAsked : Int32) (f_now : Nat → Int32) (f_asked : Nat → Int32) (f_rule : Nat → Int32) (Post : Int32 → (Value × Int32 × Int32 × Int32 × Int32 × Int32 × (Nat → Int32)) → Prop) : Prop := ((p2 = (0 : Int32) → (vp_in ((12 : Int32) + p1) 47 ∧ (((f_now ((12 : Int32) + p1).toNatClampNeg) < p3 → (Post (0 : Int32) (w_read, x_length, x_top, x_at, x_wrong, x_isAsked, f_asked))) ∧ (¬ (f_now ((12 : Int32) + p1).toNatClampNeg) < p3 → (Post (1 : Int32) (w_read, x_length, x_top, x_at, x_wrong, x_isAsked, f_asked)))))) ∧ (¬ p2 = (0 : Int32) → ((p2 = (1 : Int32) → (vp_in ((20 : Int32) + p1) 47 ∧ (((f_now ((20 : Int32) + p1).toNatClampNeg) < p3 → (Post (0 : Int32) (w_read, x_length, x_top, x_at, x_wrong, x_isAsked, f_asked))) ∧ (¬ (f_now ((20 : Int32) + p1).toNatClampNeg) < p3 → (Post (1 : Int32) (w_read, x_length, x_top, x_at, x_wrong, x_isAsked, f_asked)))))) ∧ (¬ p2 = (1 : Int32) → ((p2 = (2 : Int32) → (vp_in ((36 : Int32) + p1) 47 ∧ ((¬ (f_now ((36 : Int32) + p1).toNatClampNeg) = p3 → (Post (0 : Int32) (w_read, x_length, x_top, x_at, x_wrong, x_isAsked, f_asked))) ∧ ((f_now ((36 : Int32) + p1).toNatClampNeg) = p3 → (Post (1 : Int32) (w_read, x_length, x_top, x_at, x_wrong, x_isAsked, f_asked)))))) ∧ (¬ p2 = (2 : Int32) → ((p2 = (3 : Int32) → (p_X8_purrOf F p1 x_cats w_read x_length x_top x_at x_wrong q_rule x_ruleSize x_isAsked 47 f_now f_asked f_rule (fun (r_95 : Int32) (u_95 : (Value × Int32 × Int32 × Int32 × Int32 × Int32 × (Nat → Int32))) => ((r_95 < p3 → (Post (0 : Int32) (u_95.1, u_95.2.1, u_95.2.2.1, u_95.2.2.2.1, u_95.2.2.2.2.1, u_95.2.2.2.2.2.1, u_95.2.2.2.2.2.2))) ∧ (¬ r_95 < p3 → (Post (1 : Int32) (u_95.1, u_95.2.1, u_95.2.2.1, u_95.2.2.2.1, u_95.2.2.2.2.1, u_95.2.2.2.2.2.1, u_95.2.2.2.2.2.2))))))) ∧ (¬ p2 = (3 : Int32) → (vp_in ((28 : Int32) + p1) 47 ∧ (((f_now ((28 : Int32) + p1).toNatClampNeg) ≤ 0 → (p_X8_isSo_125 F p3 w_read x_length x_top x_at x_wrong x_isAsked f_asked Post (0 : Int32))) ∧ (¬ (f_now ((28 : Int32) + p1).toNatClampNeg) ≤ 0 → (p_X8_isSo_125 F p3 w_read x_length x_top x_at x_wrong x_isAsked f_asked Post (1 : Int32)))))))))))))
set_option maxHeartbeats 4000000 in
set_option maxRecDepth 100000 in
theorem c_X8_isSo (l : Launch) (D : va_G) (cT : Nat → ClassId) (F : Nat) (h : Nat) (p1 : Int32) (p2 : Int32) (p3 : Int32) (q_now : Nat) (x_arches : Int32) (x_cats : Int32) (w_text : Value) (x_typed : Int32) (w_row : Value) (x_rowMany : Int32) (x_thrown : Int32) (w_read : Value) (x_length : Int32) (x_top : Int32) (x_at : Int32) (x_wrong : Int32) (w_told : Value) (q_rule : Nat) (w_otherRule : Value) (x_ruleSize : Int32) (x_isAsked : Int32) (q_asked : Nat) (w_undos : Value) (x_undoMany : Int32) (w_aside : Value) (w_then : Value) (w_hold : Value) (x_dropped : Int32) (w_acts : Value) (w_guarded : Value) (w_train : Value) (x_trolleyEnd : Int32) (w_feltOf : Value) (w_feltBy : Value) (x_feltMany : Int32) (w_many : Value) (w_heardOf : Value) (w_heardBy : Value) (x_heardMany : Int32) (w_worth : Value) (x_drawn : Int32) (x_came : Int32) (w_kept : Value) (w_isKept : Value) (w_keptCame : Value) (f_now : Nat → Int32) (f_asked : Nat → Int32) (f_rule : Nat → Int32) (Post : Int32 → (Value × Int32 × Int32 × Int32 × Int32 × Int32 × (Nat → Int32)) → Prop) (hg : p_X8_isSo F p1 p2 p3 x_cats w_read x_length x_top x_at x_wrong q_rule x_ruleSize x_isAsked f_now f_asked f_rule Post) : MWi l D cT yX8_isSo cX8_isSo 4 (some .boolean) 324 10150 0 0 [.ref h, .int p1, .int p2, .int p3] [(h, oX8 (.ref q_now) (.int x_arches) (.int x_cats) w_text (.int x_typed) w_row (.int x_rowMany) (.int x_thrown) w_read (.int x_length) (.int x_top) (.int x_at) (.int x_wrong) w_told (.ref q_rule) w_otherRule (.int x_ruleSize) (.int x_isAsked) (.ref q_asked) w_undos (.int x_undoMany) w_aside w_then w_hold (.int x_dropped) w_acts w_guarded w_train (.int x_trolleyEnd) w_feltOf w_feltBy (.int x_feltMany) w_many w_heardOf w_heardBy (.int x_heardMany) w_worth (.int x_drawn) (.int x_came) w_kept w_isKept w_keptCame), (q_now, aI cT 47 f_now), (q_asked, aI cT 7 f_asked), (q_rule, aB cT 40 f_rule)] Post (fun (u : (Value × Int32 × Int32 × Int32 × Int32 × Int32 × (Nat → Int32))) => [(h, oX8 (.ref q_now) (.int x_arches) (.int x_cats) w_text (.int x_typed) w_row (.int x_rowMany) (.int x_thrown) u.1 (.int u.2.1) (.int u.2.2.1) (.int u.2.2.2.1) (.int u.2.2.2.2.1) w_told (.ref q_rule) w_otherRule (.int x_ruleSize) (.int u.2.2.2.2.2.1) (.ref q_asked) w_undos (.int x_undoMany) w_aside w_then w_hold (.int x_dropped) w_acts w_guarded w_train (.int x_trolleyEnd) w_feltOf w_feltBy (.int x_feltMany) w_many w_heardOf w_heardBy (.int x_heardMany) w_worth (.int x_drawn) (.int x_came) w_kept w_isKept w_keptCame), (q_now, aI cT 47 f_now), (q_asked, aI cT 7 u.2.2.2.2.2.2), (q_rule, aB cT 40 f_rule)]) := by
  refine MWi.of (by decide) (Nat.le_of_ble_eq_true rfl) ?_
  intro p e s m below meth c A hA C0 hnm hr hP hD ls hl
  have hl : lv_has ls 4 [(0, .ref h), (1, .int p1), (2, .int p2), (3, .int p3)] := hl
  have hx := C0.x
  have hb := C0.b
  have hS : va_S A s.heap s.heap [] := va_S.rf
  have hP : va_P D cls9 [(h, oX8 (.ref q_now) (.int x_arches) (.int x_cats) w_text (.int x_typed) w_row (.int x_rowMany) (.int x_thrown) w_read (.int x_length) (.int x_top) (.int x_at) (.int x_wrong) w_told (.ref q_rule) w_otherRule (.int x_ruleSize) (.int x_isAsked) (.ref q_asked) w_undos (.int x_undoMany) w_aside w_then w_hold (.int x_dropped) w_acts w_guarded w_train (.int x_trolleyEnd) w_feltOf w_feltBy (.int x_feltMany) w_many w_heardOf w_heardBy (.int x_heardMany) w_worth (.int x_drawn) (.int x_came) w_kept w_isKept w_keptCame), (q_now, aI cT 47 f_now), (q_asked, aI cT 7 f_asked), (q_rule, aB cT 40 f_rule)] s.heap := hP
  have hD : va_D A [(h, oX8 (.ref q_now) (.int x_arches) (.int x_cats) w_text (.int x_typed) w_row (.int x_rowMany) (.int x_thrown) w_read (.int x_length) (.int x_top) (.int x_at) (.int x_wrong) w_told (.ref q_rule) w_otherRule (.int x_ruleSize) (.int x_isAsked) (.ref q_asked) w_undos (.int x_undoMany) w_aside w_then w_hold (.int x_dropped) w_acts w_guarded w_train (.int x_trolleyEnd) w_feltOf w_feltBy (.int x_feltMany) w_many w_heardOf w_heardBy (.int x_heardMany) w_worth (.int x_drawn) (.int x_came) w_kept w_isKept w_keptCame), (q_now, aI cT 47 f_now), (q_asked, aI cT 7 f_asked), (q_rule, aB cT 40 f_rule)] := hD
  have L135 : ∀ (s0_125 : Int32) (s1_135 : Int32) (H : Heap) (locs : List Loc) (ls : Array Slot), p_X8_isSo_135 F w_read x_length x_top x_at x_wrong x_isAsked f_asked s0_125 Post s1_135 → va_P D cls9 [(h, oX8 (.ref q_now) (.int x_arches) (.int x_cats) w_text (.int x_typed) w_row (.int x_rowMany) (.int x_thrown) w_read (.int x_length) (.int x_top) (.int x_at) (.int x_wrong) w_told (.ref q_rule) w_otherRule (.int x_ruleSize) (.int x_isAsked) (.ref q_asked) w_undos (.int x_undoMany) w_aside w_then w_hold (.int x_dropped) w_acts w_guarded w_train (.int x_trolleyEnd) w_feltOf w_feltBy (.int x_feltMany) w_many w_heardOf w_heardBy (.int x_heardMany) w_worth (.int x_drawn) (.int x_came) w_kept w_isKept w_keptCame), (q_now, aI cT 47 f_now), (q_asked, aI cT 7 f_asked), (q_rule, aB cT 40 f_rule)] H → va_D A [(h, oX8 (.ref q_now) (.int x_arches) (.int x_cats) w_text (.int x_typed) w_row (.int x_rowMany) (.int x_thrown) w_read (.int x_length) (.int x_top) (.int x_at) (.int x_wrong) w_told (.ref q_rule) w_otherRule (.int x_ruleSize) (.int x_isAsked) (.ref q_asked) w_undos (.int x_undoMany) w_aside w_then w_hold (.int x_dropped) w_acts w_guarded w_train (.int x_trolleyEnd) w_feltOf w_feltBy (.int x_feltMany) w_many w_heardOf w_heardBy (.int x_heardMany) w_worth (.int x_drawn) (.int x_came) w_kept w_isKept w_keptCame), (q_now, aI cT 47 f_now), (q_asked, aI cT 7 f_asked), (q_rule, aB cT 40 f_rule)] → va_S A s.heap H locs → lv_has ls 4 [] → W p l e (rmO 324 10150 0 0) s m ([.ref h, .int p1, .int p2, .int p3] : List Value).toArray below meth c H locs 0 0 (MQ below (va_Qi Post (cB D A (fun (u : (Value × Int32 × Int32 × Int32 × Int32 × Int32 × (Nat → Int32))) => [(h, oX8 (.ref q_now) (.int x_arches) (.int x_cats) w_text (.int x_typed) w_row (.int x_rowMany) (.int x_thrown) u.1 (.int u.2.1) (.int u.2.2.1) (.int u.2.2.2.1) (.int u.2.2.2.2.1) w_told (.ref q_rule) w_otherRule (.int x_ruleSize) (.int u.2.2.2.2.2.1) (.ref q_asked) w_undos (.int x_undoMany) w_aside w_then w_hold (.int x_dropped) w_acts w_guarded w_train (.int x_trolleyEnd) w_feltOf w_feltBy (.int x_feltMany) w_many w_heardOf w_heardBy (.int x_heardMany) w_worth (.int x_drawn) (.int x_came) w_kept w_isKept w_keptCame), (q_now, aI cT 47 f_now), (q_asked, aI cT 7 u.2.2.2.2.2.2), (q_rule, aB cT 40 f_rule)])) A) ([.ref h, .int p1, .int p2, .int p3] : List Value).toArray s 0 0 A) (F0 m 135 ls [.int s1_135, .int s0_125]) := by
    intro s0_125 s1_135 H locs ls hg hP hD hS hl
    unfold p_X8_isSo_135 at hg
    refine lv_icmp_ne (tgt := 142) hx hb dX8_isSo_135 (by decide) (fun c_135 => ?_) (fun c_135 => ?_)
    · have hg := hg.1 c_135
      refine lv_iconst (v := (0 : Int32)) hx hb dX8_isSo_142 (by decide) ?_
      exact k_zret C0 hr (Or.inl rfl) (w_read, x_length, x_top, x_at, x_wrong, x_isAsked, f_asked) hg hP hD hS dX8_isSo_143
    have hg := hg.2 c_135
    refine lv_iconst (v := (1 : Int32)) hx hb dX8_isSo_138 (by decide) ?_
    refine lv_goto (tgt := 143) hx hb dX8_isSo_139 (by decide) ?_
    exact k_zret C0 hr (Or.inr rfl) (w_read, x_length, x_top, x_at, x_wrong, x_isAsked, f_asked) hg hP hD hS dX8_isSo_143
  have L125 : ∀ (s0_125 : Int32) (H : Heap) (locs : List Loc) (ls : Array Slot), p_X8_isSo_125 F p3 w_read x_length x_top x_at x_wrong x_isAsked f_asked Post s0_125 → va_P D cls9 [(h, oX8 (.ref q_now) (.int x_arches) (.int x_cats) w_text (.int x_typed) w_row (.int x_rowMany) (.int x_thrown) w_read (.int x_length) (.int x_top) (.int x_at) (.int x_wrong) w_told (.ref q_rule) w_otherRule (.int x_ruleSize) (.int x_isAsked) (.ref q_asked) w_undos (.int x_undoMany) w_aside w_then w_hold (.int x_dropped) w_acts w_guarded w_train (.int x_trolleyEnd) w_feltOf w_feltBy (.int x_feltMany) w_many w_heardOf w_heardBy (.int x_heardMany) w_worth (.int x_drawn) (.int x_came) w_kept w_isKept w_keptCame), (q_now, aI cT 47 f_now), (q_asked, aI cT 7 f_asked), (q_rule, aB cT 40 f_rule)] H → va_D A [(h, oX8 (.ref q_now) (.int x_arches) (.int x_cats) w_text (.int x_typed) w_row (.int x_rowMany) (.int x_thrown) w_read (.int x_length) (.int x_top) (.int x_at) (.int x_wrong) w_told (.ref q_rule) w_otherRule (.int x_ruleSize) (.int x_isAsked) (.ref q_asked) w_undos (.int x_undoMany) w_aside w_then w_hold (.int x_dropped) w_acts w_guarded w_train (.int x_trolleyEnd) w_feltOf w_feltBy (.int x_feltMany) w_many w_heardOf w_heardBy (.int x_heardMany) w_worth (.int x_drawn) (.int x_came) w_kept w_isKept w_keptCame), (q_now, aI cT 47 f_now), (q_asked, aI cT 7 f_asked), (q_rule, aB cT 40 f_rule)] → va_S A s.heap H locs → lv_has ls 4 [(3, .int p3)] → W p l e (rmO 324 10150 0 0) s m ([.ref h, .int p1, .int p2, .int p3] : List Value).toArray below meth c H locs 0 0 (MQ below (va_Qi Post (cB D A (fun (u : (Value × Int32 × Int32 × Int32 × Int32 × Int32 × (Nat → Int32))) => [(h, oX8 (.ref q_now) (.int x_arches) (.int x_cats) w_text (.int x_typed) w_row (.int x_rowMany) (.int x_thrown) u.1 (.int u.2.1) (.int u.2.2.1) (.int u.2.2.2.1) (.int u.2.2.2.2.1) w_told (.ref q_rule) w_otherRule (.int x_ruleSize) (.int u.2.2.2.2.2.1) (.ref q_asked) w_undos (.int x_undoMany) w_aside w_then w_hold (.int x_dropped) w_acts w_guarded w_train (.int x_trolleyEnd) w_feltOf w_feltBy (.int x_feltMany) w_many w_heardOf w_heardBy (.int x_heardMany) w_worth (.int x_drawn) (.int x_came) w_kept w_isKept w_keptCame), (q_now, aI cT 47 f_now), (q_asked, aI cT 7 u.2.2.2.2.2.2), (q_rule, aB cT 40 f_rule)])) A) ([.ref h, .int p1, .int p2, .int p3] : List Value).toArray s 0 0 A) (F0 m 125 ls [.int s0_125]) := by
    intro s0_125 H locs ls hg hP hD hS hl
    unfold p_X8_isSo_125 at hg
    refine lv_iload_n hx hb dX8_isSo_125 rfl (lv_at hl 0 rfl) ?_
    refine lv_iconst (v := (1 : Int32)) hx hb dX8_isSo_126 (by decide) ?_
    refine lv_icmp_ne (tgt := 134) hx hb dX8_isSo_127 (by decide) (fun c_127 => ?_) (fun c_127 => ?_)
    · have hg := hg.1 c_127
      refine lv_iconst (v := (0 : Int32)) hx hb dX8_isSo_134 (by decide) ?_
      exact L135 s0_125 (0 : Int32) _ _ _ hg hP hD hS (lv_sub hl [] rfl)
    have hg := hg.2 c_127
    refine lv_iconst (v := (1 : Int32)) hx hb dX8_isSo_130 (by decide) ?_
    refine lv_goto (tgt := 135) hx hb dX8_isSo_131 (by decide) ?_
    exact L135 s0_125 (1 : Int32) _ _ _ hg hP hD hS (lv_sub hl [] rfl)
  unfold p_X8_isSo at hg
  refine lv_iload_n hx hb dX8_isSo_0 rfl (lv_at hl 2 rfl) ?_
  rcases Classical.em (p2 = (0 : Int32)) with c_1_0 | c_1_0
  · have hg := hg.1 c_1_0
    refine lv_tableIn (tgt := 32) hx hb dX8_isSo_1 (by rw [c_1_0]; decide) (by rw [c_1_0]; decide) (by rw [c_1_0]; rfl) (by decide) ?_
    refine lv_aload_n hx hb dX8_isSo_32 rfl (lv_at hl 0 rfl) ?_
    refine gf_X8_9 C0 hP 0 rfl rfl dX8_isSo_33 ?_
    refine lv_bipush (v := (12 : Int32)) hx hb dX8_isSo_36 (by decide) ?_
    refine lv_iload_n hx hb dX8_isSo_38 rfl (lv_at hl 1 rfl) ?_
    refine lv_iadd hx hb dX8_isSo_39 ?_
    obtain ⟨g_40, hg⟩ := hg
    refine k_iald C0 hP 1 rfl g_40 dX8_isSo_40 ?_
    refine lv_iload_n hx hb dX8_isSo_41 rfl (lv_at hl 3 rfl) ?_
    refine lv_icmp_lt (tgt := 49) hx hb dX8_isSo_42 (by decide) (fun c_42 => ?_) (fun c_42 => ?_)
    · have hg := hg.1 c_42
      refine lv_iconst (v := (0 : Int32)) hx hb dX8_isSo_49 (by decide) ?_
      exact k_zret C0 hr (Or.inl rfl) (w_read, x_length, x_top, x_at, x_wrong, x_isAsked, f_asked) hg hP hD hS dX8_isSo_50
    have hg := hg.2 c_42
    refine lv_iconst (v := (1 : Int32)) hx hb dX8_isSo_45 (by decide) ?_
    refine lv_goto (tgt := 50) hx hb dX8_isSo_46 (by decide) ?_
    exact k_zret C0 hr (Or.inr rfl) (w_read, x_length, x_top, x_at, x_wrong, x_isAsked, f_asked) hg hP hD hS dX8_isSo_50
  have hg := hg.2 c_1_0
  rcases Classical.em (p2 = (1 : Int32)) with c_1_1 | c_1_1
  · have hg := hg.1 c_1_1
    refine lv_tableIn (tgt := 51) hx hb dX8_isSo_1 (by rw [c_1_1]; decide) (by rw [c_1_1]; decide) (by rw [c_1_1]; rfl) (by decide) ?_
    refine lv_aload_n hx hb dX8_isSo_51 rfl (lv_at hl 0 rfl) ?_
    refine gf_X8_9 C0 hP 0 rfl rfl dX8_isSo_52 ?_
    refine lv_bipush (v := (20 : Int32)) hx hb dX8_isSo_55 (by decide) ?_
    refine lv_iload_n hx hb dX8_isSo_57 rfl (lv_at hl 1 rfl) ?_
    refine lv_iadd hx hb dX8_isSo_58 ?_
    obtain ⟨g_59, hg⟩ := hg
    refine k_iald C0 hP 1 rfl g_59 dX8_isSo_59 ?_
    refine lv_iload_n hx hb dX8_isSo_60 rfl (lv_at hl 3 rfl) ?_
    refine lv_icmp_lt (tgt := 68) hx hb dX8_isSo_61 (by decide) (fun c_61 => ?_) (fun c_61 => ?_)
    · have hg := hg.1 c_61
      refine lv_iconst (v := (0 : Int32)) hx hb dX8_isSo_68 (by decide) ?_
      exact k_zret C0 hr (Or.inl rfl) (w_read, x_length, x_top, x_at, x_wrong, x_isAsked, f_asked) hg hP hD hS dX8_isSo_69
    have hg := hg.2 c_61
    refine lv_iconst (v := (1 : Int32)) hx hb dX8_isSo_64 (by decide) ?_
    refine lv_goto (tgt := 69) hx hb dX8_isSo_65 (by decide) ?_
    exact k_zret C0 hr (Or.inr rfl) (w_read, x_length, x_top, x_at, x_wrong, x_isAsked, f_asked) hg hP hD hS dX8_isSo_69
  have hg := hg.2 c_1_1
  rcases Classical.em (p2 = (2 : Int32)) with c_1_2 | c_1_2
  · have hg := hg.1 c_1_2
    refine lv_tableIn (tgt := 70) hx hb dX8_isSo_1 (by rw [c_1_2]; decide) (by rw [c_1_2]; decide) (by rw [c_1_2]; rfl) (by decide) ?_
    refine lv_aload_n hx hb dX8_isSo_70 rfl (lv_at hl 0 rfl) ?_
    refine gf_X8_9 C0 hP 0 rfl rfl dX8_isSo_71 ?_
    refine lv_bipush (v := (36 : Int32)) hx hb dX8_isSo_74 (by decide) ?_
    refine lv_iload_n hx hb dX8_isSo_76 rfl (lv_at hl 1 rfl) ?_
    refine lv_iadd hx hb dX8_isSo_77 ?_
    obtain ⟨g_78, hg⟩ := hg
    refine k_iald C0 hP 1 rfl g_78 dX8_isSo_78 ?_
    refine lv_iload_n hx hb dX8_isSo_79 rfl (lv_at hl 3 rfl) ?_
    refine lv_icmp_ne (tgt := 87) hx hb dX8_isSo_80 (by decide) (fun c_80 => ?_) (fun c_80 => ?_)
    · have hg := hg.1 c_80
      refine lv_iconst (v := (0 : Int32)) hx hb dX8_isSo_87 (by decide) ?_
      exact k_zret C0 hr (Or.inl rfl) (w_read, x_length, x_top, x_at, x_wrong, x_isAsked, f_asked) hg hP hD hS dX8_isSo_88
    have hg := hg.2 c_80
    refine lv_iconst (v := (1 : Int32)) hx hb dX8_isSo_83 (by decide) ?_
    refine lv_goto (tgt := 88) hx hb dX8_isSo_84 (by decide) ?_
    exact k_zret C0 hr (Or.inr rfl) (w_read, x_length, x_top, x_at, x_wrong, x_isAsked, f_asked) hg hP hD hS dX8_isSo_88
  have hg := hg.2 c_1_2
  rcases Classical.em (p2 = (3 : Int32)) with c_1_3 | c_1_3
  · have hg := hg.1 c_1_3
    refine lv_tableIn (tgt := 89) hx hb dX8_isSo_1 (by rw [c_1_3]; decide) (by rw [c_1_3]; decide) (by rw [c_1_3]; rfl) (by decide) ?_
    refine lv_aload_n hx hb dX8_isSo_89 rfl (lv_at hl 0 rfl) ?_
    refine lv_aload_n hx hb dX8_isSo_90 rfl (lv_at hl 0 rfl) ?_
    refine gf_X8_9 C0 hP 0 rfl rfl dX8_isSo_91 ?_
    refine lv_iload_n hx hb dX8_isSo_94 rfl (lv_at hl 1 rfl) ?_
    refine k_Vi (rest := []) (wr := []) (w2 := fun u_95 => [(h, oX8 (.ref q_now) (.int x_arches) (.int x_cats) w_text (.int x_typed) w_row (.int x_rowMany) (.int x_thrown) u_95.1 (.int u_95.2.1) (.int u_95.2.2.1) (.int u_95.2.2.2.1) (.int u_95.2.2.2.2.1) w_told (.ref q_rule) w_otherRule (.int x_ruleSize) (.int u_95.2.2.2.2.2.1) (.ref q_asked) w_undos (.int x_undoMany) w_aside w_then w_hold (.int x_dropped) w_acts w_guarded w_train (.int x_trolleyEnd) w_feltOf w_feltBy (.int x_feltMany) w_many w_heardOf w_heardBy (.int x_heardMany) w_worth (.int x_drawn) (.int x_came) w_kept w_isKept w_keptCame), (q_now, aI cT 47 f_now), (q_asked, aI cT 7 u_95.2.2.2.2.2.2), (q_rule, aB cT 40 f_rule)]) C0 lk_X8_211 (c_X8_purrOf l D cT F h q_now p1 (.ref q_now) x_arches x_cats w_text x_typed w_row x_rowMany x_thrown w_read x_length x_top x_at x_wrong w_told q_rule w_otherRule x_ruleSize x_isAsked q_asked w_undos x_undoMany w_aside w_then w_hold x_dropped w_acts w_guarded w_train x_trolleyEnd w_feltOf w_feltBy x_feltMany w_many w_heardOf w_heardBy x_heardMany w_worth x_drawn x_came w_kept w_isKept w_keptCame 47 f_now f_asked f_rule _ hg) hP hD hS hA [0, 1, 2, 3] [] (by decide +kernel) rfl rfl (fun _ => rfl) rfl rfl ⟨Nat.le_of_ble_eq_true rfl, Nat.le_of_ble_eq_true rfl⟩ rfl hl.1 rfl (Nat.le_of_ble_eq_true rfl) dX8_isSo_95 ⟨Nat.le_of_ble_eq_true rfl, Nat.le_of_ble_eq_true rfl⟩ ?_
    intro r_95 u_95 H locs hg hP hD hS
    refine lv_iload_n hx hb dX8_isSo_98 rfl (lv_at hl 3 rfl) ?_
    refine lv_icmp_lt (tgt := 106) hx hb dX8_isSo_99 (by decide) (fun c_99 => ?_) (fun c_99 => ?_)
    · have hg := hg.1 c_99
      refine lv_iconst (v := (0 : Int32)) hx hb dX8_isSo_106 (by decide) ?_
      exact k_zret C0 hr (Or.inl rfl) (u_95.1, u_95.2.1, u_95.2.2.1, u_95.2.2.2.1, u_95.2.2.2.2.1, u_95.2.2.2.2.2.1, u_95.2.2.2.2.2.2) hg hP hD hS dX8_isSo_107
    have hg := hg.2 c_99
    refine lv_iconst (v := (1 : Int32)) hx hb dX8_isSo_102 (by decide) ?_
    refine lv_goto (tgt := 107) hx hb dX8_isSo_103 (by decide) ?_
    exact k_zret C0 hr (Or.inr rfl) (u_95.1, u_95.2.1, u_95.2.2.1, u_95.2.2.2.1, u_95.2.2.2.2.1, u_95.2.2.2.2.2.1, u_95.2.2.2.2.2.2) hg hP hD hS dX8_isSo_107
  have hg := hg.2 c_1_3
  refine sw_def (x := p2) (lo := 0) (dflt := 107) (tgt := 108) hx hb dX8_isSo_1 (by decide) (by decide) ?_ ?_
  · intro k hk hx2
    have n_1_0 := ne_toInt (k := 0) (by decide) c_1_0
    have n_1_1 := ne_toInt (k := 1) (by decide) c_1_1
    have n_1_2 := ne_toInt (k := 2) (by decide) c_1_2
    have n_1_3 := ne_toInt (k := 3) (by decide) c_1_3
    have hk3 : k < 4 := hk
    match k, hk3 with
    | 0, _ => exact absurd hx2 (by omega)
    | 1, _ => exact absurd hx2 (by omega)
    | 2, _ => exact absurd hx2 (by omega)
    | 3, _ => exact absurd hx2 (by omega)
    | k + 4, h => exact absurd h (by omega)
  refine lv_aload_n hx hb dX8_isSo_108 rfl (lv_at hl 0 rfl) ?_
  refine gf_X8_9 C0 hP 0 rfl rfl dX8_isSo_109 ?_
  refine lv_bipush (v := (28 : Int32)) hx hb dX8_isSo_112 (by decide) ?_
  refine lv_iload_n hx hb dX8_isSo_114 rfl (lv_at hl 1 rfl) ?_
  refine lv_iadd hx hb dX8_isSo_115 ?_
  obtain ⟨g_116, hg⟩ := hg
  refine k_iald C0 hP 1 rfl g_116 dX8_isSo_116 ?_
  refine lv_if_le (tgt := 124) hx hb dX8_isSo_117 (by decide) (fun c_117 => ?_) (fun c_117 => ?_)
  · have hg := hg.1 c_117
    refine lv_iconst (v := (0 : Int32)) hx hb dX8_isSo_124 (by decide) ?_
    exact L125 (0 : Int32) _ _ _ hg hP hD hS (lv_sub hl [3] rfl)
  have hg := hg.2 c_117
  refine lv_iconst (v := (1 : Int32)) hx hb dX8_isSo_120 (by decide) ?_
  refine lv_goto (tgt := 125) hx hb dX8_isSo_121 (by decide) ?_
  exact L125 (1 : Int32) _ _ _ hg hP hD hS (lv_sub hl [3] rfl)
theorem dX8_suiting_0 : decode cX8_suiting 0 = .ok (.iconst 0, 1) := by decide +kernel
theorem dX8_suiting_1 : decode cX8_suiting 1 = .ok (.istore_n 1, 1) := by decide +kernel
theorem dX8_suiting_2 : decode cX8_suiting 2 = .ok (.iconst 0, 1) := by decide +kernel
theorem dX8_suiting_3 : decode cX8_suiting 3 = .ok (.istore_n 2, 1) := by decide +kernel
theorem dX8_suiting_4 : decode cX8_suiting 4 = .ok (.iload_n 2, 1) := by decide +kernel
theorem dX8_suiting_5 : decode cX8_suiting 5 = .ok (.aload_n 0, 1) := by decide +kernel
theorem dX8_suiting_6 : decode cX8_suiting 6 = .ok (.getfield 96, 3) := by decide +kernel
theorem dX8_suiting_9 : decode cX8_suiting 9 = .ok (.if_icmp .ge 75, 3) := by decide +kernel
theorem dX8_suiting_12 : decode cX8_suiting 12 = .ok (.iconst 1, 1) := by decide +kernel
theorem dX8_suiting_13 : decode cX8_suiting 13 = .ok (.istore_n 3, 1) := by decide +kernel
theorem dX8_suiting_14 : decode cX8_suiting 14 = .ok (.iconst 0, 1) := by decide +kernel
theorem dX8_suiting_15 : decode cX8_suiting 15 = .ok (.istore 4, 2) := by decide +kernel
theorem dX8_suiting_17 : decode cX8_suiting 17 = .ok (.iload 4, 2) := by decide +kernel
theorem dX8_suiting_19 : decode cX8_suiting 19 = .ok (.aload_n 0, 1) := by decide +kernel
theorem dX8_suiting_20 : decode cX8_suiting 20 = .ok (.getfield 341, 3) := by decide +kernel
theorem dX8_suiting_23 : decode cX8_suiting 23 = .ok (.if_icmp .ge 41, 3) := by decide +kernel
theorem dX8_suiting_26 : decode cX8_suiting 26 = .ok (.iload_n 3, 1) := by decide +kernel
theorem dX8_suiting_27 : decode cX8_suiting 27 = .ok (.ifCond .eq 29, 3) := by decide +kernel
theorem dX8_suiting_30 : decode cX8_suiting 30 = .ok (.aload_n 0, 1) := by decide +kernel
theorem dX8_suiting_31 : decode cX8_suiting 31 = .ok (.iload_n 2, 1) := by decide +kernel
theorem dX8_suiting_32 : decode cX8_suiting 32 = .ok (.aload_n 0, 1) := by decide +kernel
theorem dX8_suiting_33 : decode cX8_suiting 33 = .ok (.getfield 63, 3) := by decide +kernel
theorem dX8_suiting_36 : decode cX8_suiting 36 = .ok (.iload 4, 2) := by decide +kernel
theorem dX8_suiting_38 : decode cX8_suiting 38 = .ok (.iaload, 1) := by decide +kernel
theorem dX8_suiting_39 : decode cX8_suiting 39 = .ok (.aload_n 0, 1) := by decide +kernel
theorem dX8_suiting_40 : decode cX8_suiting 40 = .ok (.getfield 66, 3) := by decide +kernel
theorem dX8_suiting_43 : decode cX8_suiting 43 = .ok (.iload 4, 2) := by decide +kernel
theorem dX8_suiting_45 : decode cX8_suiting 45 = .ok (.iaload, 1) := by decide +kernel
theorem dX8_suiting_46 : decode cX8_suiting 46 = .ok (.invokevirtual 344, 3) := by decide +kernel
theorem dX8_suiting_49 : decode cX8_suiting 49 = .ok (.ifCond .eq 7, 3) := by decide +kernel
theorem dX8_suiting_52 : decode cX8_suiting 52 = .ok (.iconst 1, 1) := by decide +kernel
theorem dX8_suiting_53 : decode cX8_suiting 53 = .ok (.goto 4, 3) := by decide +kernel
theorem dX8_suiting_56 : decode cX8_suiting 56 = .ok (.iconst 0, 1) := by decide +kernel
theorem dX8_suiting_57 : decode cX8_suiting 57 = .ok (.istore_n 3, 1) := by decide +kernel
theorem dX8_suiting_58 : decode cX8_suiting 58 = .ok (.iinc 4 1, 3) := by decide +kernel
theorem dX8_suiting_61 : decode cX8_suiting 61 = .ok (.goto (-44), 3) := by decide +kernel
theorem dX8_suiting_64 : decode cX8_suiting 64 = .ok (.iload_n 1, 1) := by decide +kernel
theorem dX8_suiting_65 : decode cX8_suiting 65 = .ok (.iload_n 3, 1) := by decide +kernel
theorem dX8_suiting_66 : decode cX8_suiting 66 = .ok (.ifCond .eq 9, 3) := by decide +kernel
theorem dX8_suiting_69 : decode cX8_suiting 69 = .ok (.iconst 1, 1) := by decide +kernel
theorem dX8_suiting_70 : decode cX8_suiting 70 = .ok (.iload_n 2, 1) := by decide +kernel
theorem dX8_suiting_71 : decode cX8_suiting 71 = .ok (.ishl, 1) := by decide +kernel
theorem dX8_suiting_72 : decode cX8_suiting 72 = .ok (.goto 4, 3) := by decide +kernel
theorem dX8_suiting_75 : decode cX8_suiting 75 = .ok (.iconst 0, 1) := by decide +kernel
theorem dX8_suiting_76 : decode cX8_suiting 76 = .ok (.ior, 1) := by decide +kernel
theorem dX8_suiting_77 : decode cX8_suiting 77 = .ok (.istore_n 1, 1) := by decide +kernel
theorem dX8_suiting_78 : decode cX8_suiting 78 = .ok (.iinc 2 1, 3) := by decide +kernel
theorem dX8_suiting_81 : decode cX8_suiting 81 = .ok (.goto (-77), 3) := by decide +kernel
theorem dX8_suiting_84 : decode cX8_suiting 84 = .ok (.iload_n 1, 1) := by decide +kernel
theorem dX8_suiting_85 : decode cX8_suiting 85 = .ok (.ireturn, 1) := by decide +kernel
def p_X8_suiting_76 (F : Nat) (y2_4 : Int32) (y1_4 : Int32) (x_read_17 : Value) (x_length_17 : Int32) (x_top_17 : Int32) (x_at_17 : Int32) (x_wrong_17 : Int32) (x_isAsked_17 : Int32) (f_asked_17 : Nat → Int32) (k4 : Int32 → Int32 → Value → Int32 → Int32 → Int32 → Int32 → Int32 → (Nat → Int32) → Prop) (Post : Int32 → (Value × Int32 × Int32 × Int32 × Int32 × Int32 × (Nat → Int32)) → Prop) (s1_76 : Int32) : Prop := (k4 (y2_4 + (1 : Int32)) (y1_4 ||| s1_76) x_read_17 x_length_17 x_top_17 x_at_17 x_wrong_17 x_isAsked_17 f_asked_17)
def p_X8_suiting_57 (F : Nat) (y4_17 : Int32) (k4 : Int32 → Int32 → Value → Int32 → Int32 → Int32 → Int32 → Int32 → (Nat → Int32) → Prop) (k17 : Int32 → Int32 → Value → Int32 → Int32 → Int32 → Int32 → Int32 → (Nat → Int32) → Prop) (Post : Int32 → (Value × Int32 × Int32 × Int32 × Int32 × Int32 × (Nat → Int32)) → Prop) (s0_57 : Int32) (x_read_57 : Value) (x_length_57 : Int32) (x_top_57 : Int32) (x_at_57 : Int32) (x_wrong_57 : Int32) (x_isAsked_57 : Int32) (f_asked_57 : Nat → Int32) : Prop := (k17 (y4_17 + (1 : Int32)) s0_57 x_read_57 x_length_57 x_top_57 x_at_57 x_wrong_57 x_isAsked_57 f_asked_57)
def p_X8_suiting_56 (F : Nat) (y4_17 : Int32) (k4 : Int32 → Int32 → Value → Int32 → Int32 → Int32 → Int32 → Int32 → (Nat → Int32) → Prop) (k17 : Int32 → Int32 → Value → Int32 → Int32 → Int32 → Int32 → Int32 → (Nat → Int32) → Prop) (Post : Int32 → (Value × Int32 × Int32 × Int32 × Int32 × Int32 × (Nat → Int32)) → Prop) (x_read_56 : Value) (x_length_56 : Int32) (x_top_56 : Int32) (x_at_56 : Int32) (x_wrong_56 : Int32) (x_isAsked_56 : Int32) (f_asked_56 : Nat → Int32) : Prop := (p_X8_suiting_57 F y4_17 k4 k17 Post (0 : Int32) x_read_56 x_length_56 x_top_56 x_at_56 x_wrong_56 x_isAsked_56 f_asked_56)
noncomputable def p_X8_suiting_17 (F : Nat) (x_cats : Int32) (q_rule : Nat) (x_ruleSize : Int32) (x_heardMany : Int32) (f_heardOf : Nat → Int32) (f_heardBy : Nat → Int32) (f_now : Nat → Int32) (f_rule : Nat → Int32) (y2_4 : Int32) (y1_4 : Int32) (k4 : Int32 → Int32 → Value → Int32 → Int32 → Int32 → Int32 → Int32 → (Nat → Int32) → Prop) (Post : Int32 → (Value × Int32 × Int32 × Int32 × Int32 × Int32 × (Nat → Int32)) → Prop) (n : Nat) : Int32 → Int32 → Value → Int32 → Int32 → Int32 → Int32 → Int32 → (Nat → Int32) → Prop := Nat.rec (motive := fun _ => Int32 → Int32 → Value → Int32 → Int32 → Int32 → Int32 → Int32 → (Nat → Int32) → Prop) (fun _ _ _ _ _ _ _ _ _ => False) (fun _ k17 => fun (y4_17 : Int32) (y3_17 : Int32) (x_read_17 : Value) (x_length_17 : Int32) (x_top_17 : Int32) (x_at_17 : Int32) (x_wrong_17 : Int32) (x_isAsked_17 : Int32) (f_asked_17 : Nat → Int32) => ((x_heardMany ≤ y4_17 → ((y3_17 = 0 → (p_X8_suiting_76 F y2_4 y1_4 x_read_17 x_length_17 x_top_17 x_at_17 x_wrong_17 x_isAsked_17 f_asked_17 k4 Post (0 : Int32))) ∧ (¬ y3_17 = 0 → (p_X8_suiting_76 F y2_4 y1_4 x_read_17 x_length_17 x_top_17 x_at_17 x_wrong_17 x_isAsked_17 f_asked_17 k4 Post ((1 : Int32) <<< (y2_4 &&& 31)))))) ∧ (¬ x_heardMany ≤ y4_17 → ((y3_17 = 0 → (p_X8_suiting_56 F y4_17 k4 k17 Post x_read_17 x_length_17 x_top_17 x_at_17 x_wrong_17 x_isAsked_17 f_asked_17)) ∧ (¬ y3_17 = 0 → (vp_in y4_17 12 ∧ (vp_in y4_17 12 ∧ (p_X8_isSo F y2_4 (f_heardOf y4_17.toNatClampNeg) (f_heardBy y4_17.toNatClampNeg) x_cats x_read_17 x_length_17 x_top_17 x_at_17 x_wrong_17 q_rule x_ruleSize x_isAsked_17 f_now f_asked_17 f_rule (fun (r_46 : Int32) (u_46 : (Value × Int32 × Int32 × Int32 × Int32 × Int32 × (Nat → Int32))) => ((r_46 = 0 → (p_X8_suiting_56 F y4_17 k4 k17 Post u_46.1 u_46.2.1 u_46.2.2.1 u_46.2.2.2.1 u_46.2.2.2.2.1 u_46.2.2.2.2.2.1 u_46.2.2.2.2.2.2)) ∧ (¬ r_46 = 0 → (p_X8_suiting_57 F y4_17 k4 k17 Post (1 : Int32) u_46.1 u_46.2.1 u_46.2.2.1 u_46.2.2.2.1 u_46.2.2.2.2.1 u_46.2.2.2.2.2.1 u_46.2.2.2.2.2.2)))))))))))) n
theorem p_X8_suiting_17_s (F : Nat) (x_cats : Int32) (q_rule : Nat) (x_ruleSize : Int32) (x_heardMany : Int32) (f_heardOf : Nat → Int32) (f_heardBy : Nat → Int32) (f_now : Nat → Int32) (f_rule : Nat → Int32) (y2_4 : Int32) (y1_4 : Int32) (k4 : Int32 → Int32 → Value → Int32 → Int32 → Int32 → Int32 → Int32 → (Nat → Int32) → Prop) (Post : Int32 → (Value × Int32 × Int32 × Int32 × Int32 × Int32 × (Nat → Int32)) → Prop) (n : Nat) (y4_17 : Int32) (y3_17 : Int32) (x_read_17 : Value) (x_length_17 : Int32) (x_top_17 : Int32) (x_at_17 : Int32) (x_wrong_17 : Int32) (x_isAsked_17 : Int32) (f_asked_17 : Nat → Int32) : p_X8_suiting_17 F x_cats q_rule x_ruleSize x_heardMany f_heardOf f_heardBy f_now f_rule y2_4 y1_4 k4 Post (n + 1) y4_17 y3_17 x_read_17 x_length_17 x_top_17 x_at_17 x_wrong_17 x_isAsked_17 f_asked_17 = ((x_heardMany ≤ y4_17 → ((y3_17 = 0 → (p_X8_suiting_76 F y2_4 y1_4 x_read_17 x_length_17 x_top_17 x_at_17 x_wrong_17 x_isAsked_17 f_asked_17 k4 Post (0 : Int32))) ∧ (¬ y3_17 = 0 → (p_X8_suiting_76 F y2_4 y1_4 x_read_17 x_length_17 x_top_17 x_at_17 x_wrong_17 x_isAsked_17 f_asked_17 k4 Post ((1 : Int32) <<< (y2_4 &&& 31)))))) ∧ (¬ x_heardMany ≤ y4_17 → ((y3_17 = 0 → (p_X8_suiting_56 F y4_17 k4 (p_X8_suiting_17 F x_cats q_rule x_ruleSize x_heardMany f_heardOf f_heardBy f_now f_rule y2_4 y1_4 k4 Post n) Post x_read_17 x_length_17 x_top_17 x_at_17 x_wrong_17 x_isAsked_17 f_asked_17)) ∧ (¬ y3_17 = 0 → (vp_in y4_17 12 ∧ (vp_in y4_17 12 ∧ (p_X8_isSo F y2_4 (f_heardOf y4_17.toNatClampNeg) (f_heardBy y4_17.toNatClampNeg) x_cats x_read_17 x_length_17 x_top_17 x_at_17 x_wrong_17 q_rule x_ruleSize x_isAsked_17 f_now f_asked_17 f_rule (fun (r_46 : Int32) (u_46 : (Value × Int32 × Int32 × Int32 × Int32 × Int32 × (Nat → Int32))) => ((r_46 = 0 → (p_X8_suiting_56 F y4_17 k4 (p_X8_suiting_17 F x_cats q_rule x_ruleSize x_heardMany f_heardOf f_heardBy f_now f_rule y2_4 y1_4 k4 Post n) Post u_46.1 u_46.2.1 u_46.2.2.1 u_46.2.2.2.1 u_46.2.2.2.2.1 u_46.2.2.2.2.2.1 u_46.2.2.2.2.2.2)) ∧ (¬ r_46 = 0 → (p_X8_suiting_57 F y4_17 k4 (p_X8_suiting_17 F x_cats q_rule x_ruleSize x_heardMany f_heardOf f_heardBy f_now f_rule y2_4 y1_4 k4 Post n) Post (1 : Int32) u_46.1 u_46.2.1 u_46.2.2.1 u_46.2.2.2.1 u_46.2.2.2.2.1 u_46.2.2.2.2.2.1 u_46.2.2.2.2.2.2))))))))))) := rfl
noncomputable def p_X8_suiting_4 (F : Nat) (x_cats : Int32) (q_rule : Nat) (x_ruleSize : Int32) (x_heardMany : Int32) (f_heardOf : Nat → Int32) (f_heardBy : Nat → Int32) (f_now : Nat → Int32) (f_rule : Nat → Int32) (Post : Int32 → (Value × Int32 × Int32 × Int32 × Int32 × Int32 × (Nat → Int32)) → Prop) (n : Nat) : Int32 → Int32 → Value → Int32 → Int32 → Int32 → Int32 → Int32 → (Nat → Int32) → Prop := Nat.rec (motive := fun _ => Int32 → Int32 → Value → Int32 → Int32 → Int32 → Int32 → Int32 → (Nat → Int32) → Prop) (fun _ _ _ _ _ _ _ _ _ => False) (fun _ k4 => fun (y2_4 : Int32) (y1_4 : Int32) (x_read_4 : Value) (x_length_4 : Int32) (x_top_4 : Int32) (x_at_4 : Int32) (x_wrong_4 : Int32) (x_isAsked_4 : Int32) (f_asked_4 : Nat → Int32) => ((x_cats ≤ y2_4 → (Post y1_4 (x_read_4, x_length_4, x_top_4, x_at_4, x_wrong_4, x_isAsked_4, f_asked_4))) ∧ (¬ x_cats ≤ y2_4 → (p_X8_suiting_17 F x_cats q_rule x_ruleSize x_heardMany f_heardOf f_heardBy f_now f_rule y2_4 y1_4 k4 Post F (0 : Int32) (1 : Int32) x_read_4 x_length_4 x_top_4 x_at_4 x_wrong_4 x_isAsked_4 f_asked_4)))) n
theorem p_X8_suiting_4_s (F : Nat) (x_cats : Int32) (q_rule : Nat) (x_ruleSize : Int32) (x_heardMany : Int32) (f_heardOf : Nat → Int32) (f_heardBy : Nat → Int32) (f_now : Nat → Int32) (f_rule : Nat → Int32) (Post : Int32 → (Value × Int32 × Int32 × Int32 × Int32 × Int32 × (Nat → Int32)) → Prop) (n : Nat) (y2_4 : Int32) (y1_4 : Int32) (x_read_4 : Value) (x_length_4 : Int32) (x_top_4 : Int32) (x_at_4 : Int32) (x_wrong_4 : Int32) (x_isAsked_4 : Int32) (f_asked_4 : Nat → Int32) : p_X8_suiting_4 F x_cats q_rule x_ruleSize x_heardMany f_heardOf f_heardBy f_now f_rule Post (n + 1) y2_4 y1_4 x_read_4 x_length_4 x_top_4 x_at_4 x_wrong_4 x_isAsked_4 f_asked_4 = ((x_cats ≤ y2_4 → (Post y1_4 (x_read_4, x_length_4, x_top_4, x_at_4, x_wrong_4, x_isAsked_4, f_asked_4))) ∧ (¬ x_cats ≤ y2_4 → (p_X8_suiting_17 F x_cats q_rule x_ruleSize x_heardMany f_heardOf f_heardBy f_now f_rule y2_4 y1_4 (p_X8_suiting_4 F x_cats q_rule x_ruleSize x_heardMany f_heardOf f_heardBy f_now f_rule Post n) Post F (0 : Int32) (1 : Int32) x_read_4 x_length_4 x_top_4 x_at_4 x_wrong_4 x_isAsked_4 f_asked_4))) := rfl
def p_X8_suiting (F : Nat) (x_cats : Int32) (w_read : Value) (x_length : Int32) (x_top : Int32) (x_at : Int32) (x_wrong : Int32) (q_rule : Nat) (x_ruleSize : Int32) (x_isAsked : Int32) (x_heardMany : Int32) (f_heardOf : Nat → Int32) (f_heardBy : Nat → Int32) (f_now : Nat → Int32) (f_asked : Nat → Int32) (f_rule : Nat → Int32) (Post : Int32 → (Value × Int32 × Int32 × Int32 × Int32 × Int32 × (Nat → Int32)) → Prop) : Prop := (p_X8_suiting_4 F x_cats q_rule x_ruleSize x_heardMany f_heardOf f_heardBy f_now f_rule Post F (0 : Int32) (0 : Int32) w_read x_length x_top x_at x_wrong x_isAsked f_asked)
set_option maxHeartbeats 4000000 in
set_option maxRecDepth 100000 in
theorem c_X8_suiting (l : Launch) (D : va_G) (cT : Nat → ClassId) (F : Nat) (h : Nat) (q_now : Nat) (x_arches : Int32) (x_cats : Int32) (w_text : Value) (x_typed : Int32) (w_row : Value) (x_rowMany : Int32) (x_thrown : Int32) (w_read : Value) (x_length : Int32) (x_top : Int32) (x_at : Int32) (x_wrong : Int32) (w_told : Value) (q_rule : Nat) (w_otherRule : Value) (x_ruleSize : Int32) (x_isAsked : Int32) (q_asked : Nat) (w_undos : Value) (x_undoMany : Int32) (w_aside : Value) (w_then : Value) (w_hold : Value) (x_dropped : Int32) (w_acts : Value) (w_guarded : Value) (w_train : Value) (x_trolleyEnd : Int32) (w_feltOf : Value) (w_feltBy : Value) (x_feltMany : Int32) (w_many : Value) (q_heardOf : Nat) (q_heardBy : Nat) (x_heardMany : Int32) (w_worth : Value) (x_drawn : Int32) (x_came : Int32) (w_kept : Value) (w_isKept : Value) (w_keptCame : Value) (f_heardOf : Nat → Int32) (f_heardBy : Nat → Int32) (f_now : Nat → Int32) (f_asked : Nat → Int32) (f_rule : Nat → Int32) (Post : Int32 → (Value × Int32 × Int32 × Int32 × Int32 × Int32 × (Nat → Int32)) → Prop) (hg : p_X8_suiting F x_cats w_read x_length x_top x_at x_wrong q_rule x_ruleSize x_isAsked x_heardMany f_heardOf f_heardBy f_now f_asked f_rule Post) : MWi l D cT yX8_suiting cX8_suiting 5 (some .int) 325 10173 0 0 [.ref h] [(h, oX8 (.ref q_now) (.int x_arches) (.int x_cats) w_text (.int x_typed) w_row (.int x_rowMany) (.int x_thrown) w_read (.int x_length) (.int x_top) (.int x_at) (.int x_wrong) w_told (.ref q_rule) w_otherRule (.int x_ruleSize) (.int x_isAsked) (.ref q_asked) w_undos (.int x_undoMany) w_aside w_then w_hold (.int x_dropped) w_acts w_guarded w_train (.int x_trolleyEnd) w_feltOf w_feltBy (.int x_feltMany) w_many (.ref q_heardOf) (.ref q_heardBy) (.int x_heardMany) w_worth (.int x_drawn) (.int x_came) w_kept w_isKept w_keptCame), (q_heardOf, aI cT 12 f_heardOf), (q_heardBy, aI cT 12 f_heardBy), (q_now, aI cT 47 f_now), (q_asked, aI cT 7 f_asked), (q_rule, aB cT 40 f_rule)] Post (fun (u : (Value × Int32 × Int32 × Int32 × Int32 × Int32 × (Nat → Int32))) => [(h, oX8 (.ref q_now) (.int x_arches) (.int x_cats) w_text (.int x_typed) w_row (.int x_rowMany) (.int x_thrown) u.1 (.int u.2.1) (.int u.2.2.1) (.int u.2.2.2.1) (.int u.2.2.2.2.1) w_told (.ref q_rule) w_otherRule (.int x_ruleSize) (.int u.2.2.2.2.2.1) (.ref q_asked) w_undos (.int x_undoMany) w_aside w_then w_hold (.int x_dropped) w_acts w_guarded w_train (.int x_trolleyEnd) w_feltOf w_feltBy (.int x_feltMany) w_many (.ref q_heardOf) (.ref q_heardBy) (.int x_heardMany) w_worth (.int x_drawn) (.int x_came) w_kept w_isKept w_keptCame), (q_heardOf, aI cT 12 f_heardOf), (q_heardBy, aI cT 12 f_heardBy), (q_now, aI cT 47 f_now), (q_asked, aI cT 7 u.2.2.2.2.2.2), (q_rule, aB cT 40 f_rule)]) := by
  refine MWi.of (by decide) (Nat.le_of_ble_eq_true rfl) ?_
  intro p e s m below meth c A hA C0 hnm hr hP hD ls hl
  have hl : lv_has ls 5 [(0, .ref h)] := hl
  have hx := C0.x
  have hb := C0.b
  have hS : va_S A s.heap s.heap [] := va_S.rf
  have hP : va_P D cls9 [(h, oX8 (.ref q_now) (.int x_arches) (.int x_cats) w_text (.int x_typed) w_row (.int x_rowMany) (.int x_thrown) w_read (.int x_length) (.int x_top) (.int x_at) (.int x_wrong) w_told (.ref q_rule) w_otherRule (.int x_ruleSize) (.int x_isAsked) (.ref q_asked) w_undos (.int x_undoMany) w_aside w_then w_hold (.int x_dropped) w_acts w_guarded w_train (.int x_trolleyEnd) w_feltOf w_feltBy (.int x_feltMany) w_many (.ref q_heardOf) (.ref q_heardBy) (.int x_heardMany) w_worth (.int x_drawn) (.int x_came) w_kept w_isKept w_keptCame), (q_heardOf, aI cT 12 f_heardOf), (q_heardBy, aI cT 12 f_heardBy), (q_now, aI cT 47 f_now), (q_asked, aI cT 7 f_asked), (q_rule, aB cT 40 f_rule)] s.heap := hP
  have hD : va_D A [(h, oX8 (.ref q_now) (.int x_arches) (.int x_cats) w_text (.int x_typed) w_row (.int x_rowMany) (.int x_thrown) w_read (.int x_length) (.int x_top) (.int x_at) (.int x_wrong) w_told (.ref q_rule) w_otherRule (.int x_ruleSize) (.int x_isAsked) (.ref q_asked) w_undos (.int x_undoMany) w_aside w_then w_hold (.int x_dropped) w_acts w_guarded w_train (.int x_trolleyEnd) w_feltOf w_feltBy (.int x_feltMany) w_many (.ref q_heardOf) (.ref q_heardBy) (.int x_heardMany) w_worth (.int x_drawn) (.int x_came) w_kept w_isKept w_keptCame), (q_heardOf, aI cT 12 f_heardOf), (q_heardBy, aI cT 12 f_heardBy), (q_now, aI cT 47 f_now), (q_asked, aI cT 7 f_asked), (q_rule, aB cT 40 f_rule)] := hD
  have L4 : ∀ (n4 : Nat) (y2_4 : Int32) (y1_4 : Int32) (x_read_4 : Value) (x_length_4 : Int32) (x_top_4 : Int32) (x_at_4 : Int32) (x_wrong_4 : Int32) (x_isAsked_4 : Int32) (f_asked_4 : Nat → Int32) (H : Heap) (locs : List Loc) (ls : Array Slot), p_X8_suiting_4 F x_cats q_rule x_ruleSize x_heardMany f_heardOf f_heardBy f_now f_rule Post n4 y2_4 y1_4 x_read_4 x_length_4 x_top_4 x_at_4 x_wrong_4 x_isAsked_4 f_asked_4 → va_P D cls9 [(h, oX8 (.ref q_now) (.int x_arches) (.int x_cats) w_text (.int x_typed) w_row (.int x_rowMany) (.int x_thrown) x_read_4 (.int x_length_4) (.int x_top_4) (.int x_at_4) (.int x_wrong_4) w_told (.ref q_rule) w_otherRule (.int x_ruleSize) (.int x_isAsked_4) (.ref q_asked) w_undos (.int x_undoMany) w_aside w_then w_hold (.int x_dropped) w_acts w_guarded w_train (.int x_trolleyEnd) w_feltOf w_feltBy (.int x_feltMany) w_many (.ref q_heardOf) (.ref q_heardBy) (.int x_heardMany) w_worth (.int x_drawn) (.int x_came) w_kept w_isKept w_keptCame), (q_heardOf, aI cT 12 f_heardOf), (q_heardBy, aI cT 12 f_heardBy), (q_now, aI cT 47 f_now), (q_asked, aI cT 7 f_asked_4), (q_rule, aB cT 40 f_rule)] H → va_D A [(h, oX8 (.ref q_now) (.int x_arches) (.int x_cats) w_text (.int x_typed) w_row (.int x_rowMany) (.int x_thrown) x_read_4 (.int x_length_4) (.int x_top_4) (.int x_at_4) (.int x_wrong_4) w_told (.ref q_rule) w_otherRule (.int x_ruleSize) (.int x_isAsked_4) (.ref q_asked) w_undos (.int x_undoMany) w_aside w_then w_hold (.int x_dropped) w_acts w_guarded w_train (.int x_trolleyEnd) w_feltOf w_feltBy (.int x_feltMany) w_many (.ref q_heardOf) (.ref q_heardBy) (.int x_heardMany) w_worth (.int x_drawn) (.int x_came) w_kept w_isKept w_keptCame), (q_heardOf, aI cT 12 f_heardOf), (q_heardBy, aI cT 12 f_heardBy), (q_now, aI cT 47 f_now), (q_asked, aI cT 7 f_asked_4), (q_rule, aB cT 40 f_rule)] → va_S A s.heap H locs → lv_has ls 5 [(0, .ref h), (1, .int y1_4), (2, .int y2_4)] → W p l e (rmO 325 10173 0 0) s m ([.ref h] : List Value).toArray below meth c H locs 0 0 (MQ below (va_Qi Post (cB D A (fun (u : (Value × Int32 × Int32 × Int32 × Int32 × Int32 × (Nat → Int32))) => [(h, oX8 (.ref q_now) (.int x_arches) (.int x_cats) w_text (.int x_typed) w_row (.int x_rowMany) (.int x_thrown) u.1 (.int u.2.1) (.int u.2.2.1) (.int u.2.2.2.1) (.int u.2.2.2.2.1) w_told (.ref q_rule) w_otherRule (.int x_ruleSize) (.int u.2.2.2.2.2.1) (.ref q_asked) w_undos (.int x_undoMany) w_aside w_then w_hold (.int x_dropped) w_acts w_guarded w_train (.int x_trolleyEnd) w_feltOf w_feltBy (.int x_feltMany) w_many (.ref q_heardOf) (.ref q_heardBy) (.int x_heardMany) w_worth (.int x_drawn) (.int x_came) w_kept w_isKept w_keptCame), (q_heardOf, aI cT 12 f_heardOf), (q_heardBy, aI cT 12 f_heardBy), (q_now, aI cT 47 f_now), (q_asked, aI cT 7 u.2.2.2.2.2.2), (q_rule, aB cT 40 f_rule)])) A) ([.ref h] : List Value).toArray s 0 0 A) (F0 m 4 ls []) := by
    intro n4
    induction n4 with
    | zero =>
      intro y2_4 y1_4 x_read_4 x_length_4 x_top_4 x_at_4 x_wrong_4 x_isAsked_4 f_asked_4 H locs ls hg hP hD hS hl
      exact False.elim hg
    | succ n4 ih4 =>
      have L76 : ∀ (y2_4 : Int32) (y1_4 : Int32) (x_read_17 : Value) (x_length_17 : Int32) (x_top_17 : Int32) (x_at_17 : Int32) (x_wrong_17 : Int32) (x_isAsked_17 : Int32) (f_asked_17 : Nat → Int32) (s1_76 : Int32) (H : Heap) (locs : List Loc) (ls : Array Slot), p_X8_suiting_76 F y2_4 y1_4 x_read_17 x_length_17 x_top_17 x_at_17 x_wrong_17 x_isAsked_17 f_asked_17 (p_X8_suiting_4 F x_cats q_rule x_ruleSize x_heardMany f_heardOf f_heardBy f_now f_rule Post n4) Post s1_76 → va_P D cls9 [(h, oX8 (.ref q_now) (.int x_arches) (.int x_cats) w_text (.int x_typed) w_row (.int x_rowMany) (.int x_thrown) x_read_17 (.int x_length_17) (.int x_top_17) (.int x_at_17) (.int x_wrong_17) w_told (.ref q_rule) w_otherRule (.int x_ruleSize) (.int x_isAsked_17) (.ref q_asked) w_undos (.int x_undoMany) w_aside w_then w_hold (.int x_dropped) w_acts w_guarded w_train (.int x_trolleyEnd) w_feltOf w_feltBy (.int x_feltMany) w_many (.ref q_heardOf) (.ref q_heardBy) (.int x_heardMany) w_worth (.int x_drawn) (.int x_came) w_kept w_isKept w_keptCame), (q_heardOf, aI cT 12 f_heardOf), (q_heardBy, aI cT 12 f_heardBy), (q_now, aI cT 47 f_now), (q_asked, aI cT 7 f_asked_17), (q_rule, aB cT 40 f_rule)] H → va_D A [(h, oX8 (.ref q_now) (.int x_arches) (.int x_cats) w_text (.int x_typed) w_row (.int x_rowMany) (.int x_thrown) x_read_17 (.int x_length_17) (.int x_top_17) (.int x_at_17) (.int x_wrong_17) w_told (.ref q_rule) w_otherRule (.int x_ruleSize) (.int x_isAsked_17) (.ref q_asked) w_undos (.int x_undoMany) w_aside w_then w_hold (.int x_dropped) w_acts w_guarded w_train (.int x_trolleyEnd) w_feltOf w_feltBy (.int x_feltMany) w_many (.ref q_heardOf) (.ref q_heardBy) (.int x_heardMany) w_worth (.int x_drawn) (.int x_came) w_kept w_isKept w_keptCame), (q_heardOf, aI cT 12 f_heardOf), (q_heardBy, aI cT 12 f_heardBy), (q_now, aI cT 47 f_now), (q_asked, aI cT 7 f_asked_17), (q_rule, aB cT 40 f_rule)] → va_S A s.heap H locs → lv_has ls 5 [(0, .ref h), (2, .int y2_4)] → W p l e (rmO 325 10173 0 0) s m ([.ref h] : List Value).toArray below meth c H locs 0 0 (MQ below (va_Qi Post (cB D A (fun (u : (Value × Int32 × Int32 × Int32 × Int32 × Int32 × (Nat → Int32))) => [(h, oX8 (.ref q_now) (.int x_arches) (.int x_cats) w_text (.int x_typed) w_row (.int x_rowMany) (.int x_thrown) u.1 (.int u.2.1) (.int u.2.2.1) (.int u.2.2.2.1) (.int u.2.2.2.2.1) w_told (.ref q_rule) w_otherRule (.int x_ruleSize) (.int u.2.2.2.2.2.1) (.ref q_asked) w_undos (.int x_undoMany) w_aside w_then w_hold (.int x_dropped) w_acts w_guarded w_train (.int x_trolleyEnd) w_feltOf w_feltBy (.int x_feltMany) w_many (.ref q_heardOf) (.ref q_heardBy) (.int x_heardMany) w_worth (.int x_drawn) (.int x_came) w_kept w_isKept w_keptCame), (q_heardOf, aI cT 12 f_heardOf), (q_heardBy, aI cT 12 f_heardBy), (q_now, aI cT 47 f_now), (q_asked, aI cT 7 u.2.2.2.2.2.2), (q_rule, aB cT 40 f_rule)])) A) ([.ref h] : List Value).toArray s 0 0 A) (F0 m 76 ls [.int s1_76, .int y1_4]) := by
        intro y2_4 y1_4 x_read_17 x_length_17 x_top_17 x_at_17 x_wrong_17 x_isAsked_17 f_asked_17 s1_76 H locs ls hg hP hD hS hl
        unfold p_X8_suiting_76 at hg
        refine lv_ior hx hb dX8_suiting_76 ?_
        refine lv_istore_n (lv' := [(1, .int (y1_4 ||| s1_76)), (0, .ref h), (2, .int y2_4)]) hx hb dX8_suiting_77 rfl hl (by decide) rfl (fun ls hl => ?_)
        refine lv_iinc (v := (y2_4 + (1 : Int32))) (lv' := [(2, .int (y2_4 + (1 : Int32))), (1, .int (y1_4 ||| s1_76)), (0, .ref h)]) hx hb dX8_suiting_78 hl (k := 2) rfl rfl (by decide) rfl (fun ls hl => ?_)
        refine lv_goto (tgt := 4) hx hb dX8_suiting_81 (by decide) ?_
        exact ih4 (y2_4 + (1 : Int32)) (y1_4 ||| s1_76) x_read_17 x_length_17 x_top_17 x_at_17 x_wrong_17 x_isAsked_17 f_asked_17 _ _ _ hg hP hD hS (lv_sub hl [2, 1, 0] rfl)
      have L17 : ∀ (y2_4 : Int32) (y1_4 : Int32) (n17 : Nat) (y4_17 : Int32) (y3_17 : Int32) (x_read_17 : Value) (x_length_17 : Int32) (x_top_17 : Int32) (x_at_17 : Int32) (x_wrong_17 : Int32) (x_isAsked_17 : Int32) (f_asked_17 : Nat → Int32) (H : Heap) (locs : List Loc) (ls : Array Slot), p_X8_suiting_17 F x_cats q_rule x_ruleSize x_heardMany f_heardOf f_heardBy f_now f_rule y2_4 y1_4 (p_X8_suiting_4 F x_cats q_rule x_ruleSize x_heardMany f_heardOf f_heardBy f_now f_rule Post n4) Post n17 y4_17 y3_17 x_read_17 x_length_17 x_top_17 x_at_17 x_wrong_17 x_isAsked_17 f_asked_17 → va_P D cls9 [(h, oX8 (.ref q_now) (.int x_arches) (.int x_cats) w_text (.int x_typed) w_row (.int x_rowMany) (.int x_thrown) x_read_17 (.int x_length_17) (.int x_top_17) (.int x_at_17) (.int x_wrong_17) w_told (.ref q_rule) w_otherRule (.int x_ruleSize) (.int x_isAsked_17) (.ref q_asked) w_undos (.int x_undoMany) w_aside w_then w_hold (.int x_dropped) w_acts w_guarded w_train (.int x_trolleyEnd) w_feltOf w_feltBy (.int x_feltMany) w_many (.ref q_heardOf) (.ref q_heardBy) (.int x_heardMany) w_worth (.int x_drawn) (.int x_came) w_kept w_isKept w_keptCame), (q_heardOf, aI cT 12 f_heardOf), (q_heardBy, aI cT 12 f_heardBy), (q_now, aI cT 47 f_now), (q_asked, aI cT 7 f_asked_17), (q_rule, aB cT 40 f_rule)] H → va_D A [(h, oX8 (.ref q_now) (.int x_arches) (.int x_cats) w_text (.int x_typed) w_row (.int x_rowMany) (.int x_thrown) x_read_17 (.int x_length_17) (.int x_top_17) (.int x_at_17) (.int x_wrong_17) w_told (.ref q_rule) w_otherRule (.int x_ruleSize) (.int x_isAsked_17) (.ref q_asked) w_undos (.int x_undoMany) w_aside w_then w_hold (.int x_dropped) w_acts w_guarded w_train (.int x_trolleyEnd) w_feltOf w_feltBy (.int x_feltMany) w_many (.ref q_heardOf) (.ref q_heardBy) (.int x_heardMany) w_worth (.int x_drawn) (.int x_came) w_kept w_isKept w_keptCame), (q_heardOf, aI cT 12 f_heardOf), (q_heardBy, aI cT 12 f_heardBy), (q_now, aI cT 47 f_now), (q_asked, aI cT 7 f_asked_17), (q_rule, aB cT 40 f_rule)] → va_S A s.heap H locs → lv_has ls 5 [(0, .ref h), (1, .int y1_4), (2, .int y2_4), (3, .int y3_17), (4, .int y4_17)] → W p l e (rmO 325 10173 0 0) s m ([.ref h] : List Value).toArray below meth c H locs 0 0 (MQ below (va_Qi Post (cB D A (fun (u : (Value × Int32 × Int32 × Int32 × Int32 × Int32 × (Nat → Int32))) => [(h, oX8 (.ref q_now) (.int x_arches) (.int x_cats) w_text (.int x_typed) w_row (.int x_rowMany) (.int x_thrown) u.1 (.int u.2.1) (.int u.2.2.1) (.int u.2.2.2.1) (.int u.2.2.2.2.1) w_told (.ref q_rule) w_otherRule (.int x_ruleSize) (.int u.2.2.2.2.2.1) (.ref q_asked) w_undos (.int x_undoMany) w_aside w_then w_hold (.int x_dropped) w_acts w_guarded w_train (.int x_trolleyEnd) w_feltOf w_feltBy (.int x_feltMany) w_many (.ref q_heardOf) (.ref q_heardBy) (.int x_heardMany) w_worth (.int x_drawn) (.int x_came) w_kept w_isKept w_keptCame), (q_heardOf, aI cT 12 f_heardOf), (q_heardBy, aI cT 12 f_heardBy), (q_now, aI cT 47 f_now), (q_asked, aI cT 7 u.2.2.2.2.2.2), (q_rule, aB cT 40 f_rule)])) A) ([.ref h] : List Value).toArray s 0 0 A) (F0 m 17 ls []) := by
        intro y2_4 y1_4 n17
        induction n17 with
        | zero =>
          intro y4_17 y3_17 x_read_17 x_length_17 x_top_17 x_at_17 x_wrong_17 x_isAsked_17 f_asked_17 H locs ls hg hP hD hS hl
          exact False.elim hg
        | succ n17 ih17 =>
          have L57 : ∀ (y4_17 : Int32) (s0_57 : Int32) (x_read_57 : Value) (x_length_57 : Int32) (x_top_57 : Int32) (x_at_57 : Int32) (x_wrong_57 : Int32) (x_isAsked_57 : Int32) (f_asked_57 : Nat → Int32) (H : Heap) (locs : List Loc) (ls : Array Slot), p_X8_suiting_57 F y4_17 (p_X8_suiting_4 F x_cats q_rule x_ruleSize x_heardMany f_heardOf f_heardBy f_now f_rule Post n4) (p_X8_suiting_17 F x_cats q_rule x_ruleSize x_heardMany f_heardOf f_heardBy f_now f_rule y2_4 y1_4 (p_X8_suiting_4 F x_cats q_rule x_ruleSize x_heardMany f_heardOf f_heardBy f_now f_rule Post n4) Post n17) Post s0_57 x_read_57 x_length_57 x_top_57 x_at_57 x_wrong_57 x_isAsked_57 f_asked_57 → va_P D cls9 [(h, oX8 (.ref q_now) (.int x_arches) (.int x_cats) w_text (.int x_typed) w_row (.int x_rowMany) (.int x_thrown) x_read_57 (.int x_length_57) (.int x_top_57) (.int x_at_57) (.int x_wrong_57) w_told (.ref q_rule) w_otherRule (.int x_ruleSize) (.int x_isAsked_57) (.ref q_asked) w_undos (.int x_undoMany) w_aside w_then w_hold (.int x_dropped) w_acts w_guarded w_train (.int x_trolleyEnd) w_feltOf w_feltBy (.int x_feltMany) w_many (.ref q_heardOf) (.ref q_heardBy) (.int x_heardMany) w_worth (.int x_drawn) (.int x_came) w_kept w_isKept w_keptCame), (q_heardOf, aI cT 12 f_heardOf), (q_heardBy, aI cT 12 f_heardBy), (q_now, aI cT 47 f_now), (q_asked, aI cT 7 f_asked_57), (q_rule, aB cT 40 f_rule)] H → va_D A [(h, oX8 (.ref q_now) (.int x_arches) (.int x_cats) w_text (.int x_typed) w_row (.int x_rowMany) (.int x_thrown) x_read_57 (.int x_length_57) (.int x_top_57) (.int x_at_57) (.int x_wrong_57) w_told (.ref q_rule) w_otherRule (.int x_ruleSize) (.int x_isAsked_57) (.ref q_asked) w_undos (.int x_undoMany) w_aside w_then w_hold (.int x_dropped) w_acts w_guarded w_train (.int x_trolleyEnd) w_feltOf w_feltBy (.int x_feltMany) w_many (.ref q_heardOf) (.ref q_heardBy) (.int x_heardMany) w_worth (.int x_drawn) (.int x_came) w_kept w_isKept w_keptCame), (q_heardOf, aI cT 12 f_heardOf), (q_heardBy, aI cT 12 f_heardBy), (q_now, aI cT 47 f_now), (q_asked, aI cT 7 f_asked_57), (q_rule, aB cT 40 f_rule)] → va_S A s.heap H locs → lv_has ls 5 [(0, .ref h), (1, .int y1_4), (2, .int y2_4), (4, .int y4_17)] → W p l e (rmO 325 10173 0 0) s m ([.ref h] : List Value).toArray below meth c H locs 0 0 (MQ below (va_Qi Post (cB D A (fun (u : (Value × Int32 × Int32 × Int32 × Int32 × Int32 × (Nat → Int32))) => [(h, oX8 (.ref q_now) (.int x_arches) (.int x_cats) w_text (.int x_typed) w_row (.int x_rowMany) (.int x_thrown) u.1 (.int u.2.1) (.int u.2.2.1) (.int u.2.2.2.1) (.int u.2.2.2.2.1) w_told (.ref q_rule) w_otherRule (.int x_ruleSize) (.int u.2.2.2.2.2.1) (.ref q_asked) w_undos (.int x_undoMany) w_aside w_then w_hold (.int x_dropped) w_acts w_guarded w_train (.int x_trolleyEnd) w_feltOf w_feltBy (.int x_feltMany) w_many (.ref q_heardOf) (.ref q_heardBy) (.int x_heardMany) w_worth (.int x_drawn) (.int x_came) w_kept w_isKept w_keptCame), (q_heardOf, aI cT 12 f_heardOf), (q_heardBy, aI cT 12 f_heardBy), (q_now, aI cT 47 f_now), (q_asked, aI cT 7 u.2.2.2.2.2.2), (q_rule, aB cT 40 f_rule)])) A) ([.ref h] : List Value).toArray s 0 0 A) (F0 m 57 ls [.int s0_57]) := by
            intro y4_17 s0_57 x_read_57 x_length_57 x_top_57 x_at_57 x_wrong_57 x_isAsked_57 f_asked_57 H locs ls hg hP hD hS hl
            unfold p_X8_suiting_57 at hg
            refine lv_istore_n (lv' := [(3, .int s0_57), (0, .ref h), (1, .int y1_4), (2, .int y2_4), (4, .int y4_17)]) hx hb dX8_suiting_57 rfl hl (by decide) rfl (fun ls hl => ?_)
            refine lv_iinc (v := (y4_17 + (1 : Int32))) (lv' := [(4, .int (y4_17 + (1 : Int32))), (3, .int s0_57), (0, .ref h), (1, .int y1_4), (2, .int y2_4)]) hx hb dX8_suiting_58 hl (k := 4) rfl rfl (by decide) rfl (fun ls hl => ?_)
            refine lv_goto (tgt := 17) hx hb dX8_suiting_61 (by decide) ?_
            exact ih17 (y4_17 + (1 : Int32)) s0_57 x_read_57 x_length_57 x_top_57 x_at_57 x_wrong_57 x_isAsked_57 f_asked_57 _ _ _ hg hP hD hS (lv_sub hl [2, 3, 4, 1, 0] rfl)
          have L56 : ∀ (y4_17 : Int32) (x_read_56 : Value) (x_length_56 : Int32) (x_top_56 : Int32) (x_at_56 : Int32) (x_wrong_56 : Int32) (x_isAsked_56 : Int32) (f_asked_56 : Nat → Int32) (H : Heap) (locs : List Loc) (ls : Array Slot), p_X8_suiting_56 F y4_17 (p_X8_suiting_4 F x_cats q_rule x_ruleSize x_heardMany f_heardOf f_heardBy f_now f_rule Post n4) (p_X8_suiting_17 F x_cats q_rule x_ruleSize x_heardMany f_heardOf f_heardBy f_now f_rule y2_4 y1_4 (p_X8_suiting_4 F x_cats q_rule x_ruleSize x_heardMany f_heardOf f_heardBy f_now f_rule Post n4) Post n17) Post x_read_56 x_length_56 x_top_56 x_at_56 x_wrong_56 x_isAsked_56 f_asked_56 → va_P D cls9 [(h, oX8 (.ref q_now) (.int x_arches) (.int x_cats) w_text (.int x_typed) w_row (.int x_rowMany) (.int x_thrown) x_read_56 (.int x_length_56) (.int x_top_56) (.int x_at_56) (.int x_wrong_56) w_told (.ref q_rule) w_otherRule (.int x_ruleSize) (.int x_isAsked_56) (.ref q_asked) w_undos (.int x_undoMany) w_aside w_then w_hold (.int x_dropped) w_acts w_guarded w_train (.int x_trolleyEnd) w_feltOf w_feltBy (.int x_feltMany) w_many (.ref q_heardOf) (.ref q_heardBy) (.int x_heardMany) w_worth (.int x_drawn) (.int x_came) w_kept w_isKept w_keptCame), (q_heardOf, aI cT 12 f_heardOf), (q_heardBy, aI cT 12 f_heardBy), (q_now, aI cT 47 f_now), (q_asked, aI cT 7 f_asked_56), (q_rule, aB cT 40 f_rule)] H → va_D A [(h, oX8 (.ref q_now) (.int x_arches) (.int x_cats) w_text (.int x_typed) w_row (.int x_rowMany) (.int x_thrown) x_read_56 (.int x_length_56) (.int x_top_56) (.int x_at_56) (.int x_wrong_56) w_told (.ref q_rule) w_otherRule (.int x_ruleSize) (.int x_isAsked_56) (.ref q_asked) w_undos (.int x_undoMany) w_aside w_then w_hold (.int x_dropped) w_acts w_guarded w_train (.int x_trolleyEnd) w_feltOf w_feltBy (.int x_feltMany) w_many (.ref q_heardOf) (.ref q_heardBy) (.int x_heardMany) w_worth (.int x_drawn) (.int x_came) w_kept w_isKept w_keptCame), (q_heardOf, aI cT 12 f_heardOf), (q_heardBy, aI cT 12 f_heardBy), (q_now, aI cT 47 f_now), (q_asked, aI cT 7 f_asked_56), (q_rule, aB cT 40 f_rule)] → va_S A s.heap H locs → lv_has ls 5 [(0, .ref h), (1, .int y1_4), (2, .int y2_4), (4, .int y4_17)] → W p l e (rmO 325 10173 0 0) s m ([.ref h] : List Value).toArray below meth c H locs 0 0 (MQ below (va_Qi Post (cB D A (fun (u : (Value × Int32 × Int32 × Int32 × Int32 × Int32 × (Nat → Int32))) => [(h, oX8 (.ref q_now) (.int x_arches) (.int x_cats) w_text (.int x_typed) w_row (.int x_rowMany) (.int x_thrown) u.1 (.int u.2.1) (.int u.2.2.1) (.int u.2.2.2.1) (.int u.2.2.2.2.1) w_told (.ref q_rule) w_otherRule (.int x_ruleSize) (.int u.2.2.2.2.2.1) (.ref q_asked) w_undos (.int x_undoMany) w_aside w_then w_hold (.int x_dropped) w_acts w_guarded w_train (.int x_trolleyEnd) w_feltOf w_feltBy (.int x_feltMany) w_many (.ref q_heardOf) (.ref q_heardBy) (.int x_heardMany) w_worth (.int x_drawn) (.int x_came) w_kept w_isKept w_keptCame), (q_heardOf, aI cT 12 f_heardOf), (q_heardBy, aI cT 12 f_heardBy), (q_now, aI cT 47 f_now), (q_asked, aI cT 7 u.2.2.2.2.2.2), (q_rule, aB cT 40 f_rule)])) A) ([.ref h] : List Value).toArray s 0 0 A) (F0 m 56 ls []) := by
            intro y4_17 x_read_56 x_length_56 x_top_56 x_at_56 x_wrong_56 x_isAsked_56 f_asked_56 H locs ls hg hP hD hS hl
            unfold p_X8_suiting_56 at hg
            refine lv_iconst (v := (0 : Int32)) hx hb dX8_suiting_56 (by decide) ?_
            exact L57 y4_17 (0 : Int32) x_read_56 x_length_56 x_top_56 x_at_56 x_wrong_56 x_isAsked_56 f_asked_56 _ _ _ hg hP hD hS hl
          intro y4_17 y3_17 x_read_17 x_length_17 x_top_17 x_at_17 x_wrong_17 x_isAsked_17 f_asked_17 H locs ls hg hP hD hS hl
          rw [p_X8_suiting_17_s] at hg
          refine lv_iload hx hb dX8_suiting_17 (lv_at hl 4 rfl) ?_
          refine lv_aload_n hx hb dX8_suiting_19 rfl (lv_at hl 0 rfl) ?_
          refine gf_X8_341 C0 hP 0 rfl rfl dX8_suiting_20 ?_
          refine lv_icmp_ge (tgt := 64) hx hb dX8_suiting_23 (by decide) (fun c_23 => ?_) (fun c_23 => ?_)
          · have hg := hg.1 c_23
            refine lv_iload_n hx hb dX8_suiting_64 rfl (lv_at hl 1 rfl) ?_
            refine lv_iload_n hx hb dX8_suiting_65 rfl (lv_at hl 3 rfl) ?_
            refine lv_if_eq (tgt := 75) hx hb dX8_suiting_66 (by decide) (fun c_66 => ?_) (fun c_66 => ?_)
            · have hg := hg.1 c_66
              refine lv_iconst (v := (0 : Int32)) hx hb dX8_suiting_75 (by decide) ?_
              exact L76 y2_4 y1_4 x_read_17 x_length_17 x_top_17 x_at_17 x_wrong_17 x_isAsked_17 f_asked_17 (0 : Int32) _ _ _ hg hP hD hS (lv_sub hl [0, 2] rfl)
            have hg := hg.2 c_66
            refine lv_iconst (v := (1 : Int32)) hx hb dX8_suiting_69 (by decide) ?_
            refine lv_iload_n hx hb dX8_suiting_70 rfl (lv_at hl 2 rfl) ?_
            refine lv_ishl hx hb dX8_suiting_71 ?_
            refine lv_goto (tgt := 76) hx hb dX8_suiting_72 (by decide) ?_
            exact L76 y2_4 y1_4 x_read_17 x_length_17 x_top_17 x_at_17 x_wrong_17 x_isAsked_17 f_asked_17 ((1 : Int32) <<< (y2_4 &&& 31)) _ _ _ hg hP hD hS (lv_sub hl [0, 2] rfl)
          have hg := hg.2 c_23
          refine lv_iload_n hx hb dX8_suiting_26 rfl (lv_at hl 3 rfl) ?_
          refine lv_if_eq (tgt := 56) hx hb dX8_suiting_27 (by decide) (fun c_27 => ?_) (fun c_27 => ?_)
          · have hg := hg.1 c_27
            exact L56 y4_17 x_read_17 x_length_17 x_top_17 x_at_17 x_wrong_17 x_isAsked_17 f_asked_17 _ _ _ hg hP hD hS (lv_sub hl [0, 1, 2, 4] rfl)
          have hg := hg.2 c_27
          refine lv_aload_n hx hb dX8_suiting_30 rfl (lv_at hl 0 rfl) ?_
          refine lv_iload_n hx hb dX8_suiting_31 rfl (lv_at hl 2 rfl) ?_
          refine lv_aload_n hx hb dX8_suiting_32 rfl (lv_at hl 0 rfl) ?_
          refine gf_X8_63 C0 hP 0 rfl rfl dX8_suiting_33 ?_
          refine lv_iload hx hb dX8_suiting_36 (lv_at hl 4 rfl) ?_
          obtain ⟨g_38, hg⟩ := hg
          refine k_iald C0 hP 1 rfl g_38 dX8_suiting_38 ?_
          refine lv_aload_n hx hb dX8_suiting_39 rfl (lv_at hl 0 rfl) ?_
          refine gf_X8_66 C0 hP 0 rfl rfl dX8_suiting_40 ?_
          refine lv_iload hx hb dX8_suiting_43 (lv_at hl 4 rfl) ?_
          obtain ⟨g_45, hg⟩ := hg
          refine k_iald C0 hP 2 rfl g_45 dX8_suiting_45 ?_
          refine k_Vi (rest := []) (wr := [(q_heardOf, aI cT 12 f_heardOf), (q_heardBy, aI cT 12 f_heardBy)]) (w2 := fun u_46 => [(q_heardOf, aI cT 12 f_heardOf), (q_heardBy, aI cT 12 f_heardBy), (h, oX8 (.ref q_now) (.int x_arches) (.int x_cats) w_text (.int x_typed) w_row (.int x_rowMany) (.int x_thrown) u_46.1 (.int u_46.2.1) (.int u_46.2.2.1) (.int u_46.2.2.2.1) (.int u_46.2.2.2.2.1) w_told (.ref q_rule) w_otherRule (.int x_ruleSize) (.int u_46.2.2.2.2.2.1) (.ref q_asked) w_undos (.int x_undoMany) w_aside w_then w_hold (.int x_dropped) w_acts w_guarded w_train (.int x_trolleyEnd) w_feltOf w_feltBy (.int x_feltMany) w_many (.ref q_heardOf) (.ref q_heardBy) (.int x_heardMany) w_worth (.int x_drawn) (.int x_came) w_kept w_isKept w_keptCame), (q_now, aI cT 47 f_now), (q_asked, aI cT 7 u_46.2.2.2.2.2.2), (q_rule, aB cT 40 f_rule)]) C0 lk_X8_344 (c_X8_isSo l D cT F h y2_4 (f_heardOf y4_17.toNatClampNeg) (f_heardBy y4_17.toNatClampNeg) q_now x_arches x_cats w_text x_typed w_row x_rowMany x_thrown x_read_17 x_length_17 x_top_17 x_at_17 x_wrong_17 w_told q_rule w_otherRule x_ruleSize x_isAsked_17 q_asked w_undos x_undoMany w_aside w_then w_hold x_dropped w_acts w_guarded w_train x_trolleyEnd w_feltOf w_feltBy x_feltMany w_many (.ref q_heardOf) (.ref q_heardBy) x_heardMany w_worth x_drawn x_came w_kept w_isKept w_keptCame f_now f_asked_17 f_rule _ hg) hP hD hS hA [0, 3, 4, 5] [1, 2] (by decide +kernel) rfl rfl (fun _ => rfl) rfl rfl ⟨Nat.le_of_ble_eq_true rfl, Nat.le_of_ble_eq_true rfl⟩ rfl hl.1 rfl (Nat.le_of_ble_eq_true rfl) dX8_suiting_46 ⟨Nat.le_of_ble_eq_true rfl, Nat.le_of_ble_eq_true rfl⟩ ?_
          intro r_46 u_46 H locs hg hP hD hS
          refine lv_if_eq (tgt := 56) hx hb dX8_suiting_49 (by decide) (fun c_49 => ?_) (fun c_49 => ?_)
          · have hg := hg.1 c_49
            exact L56 y4_17 u_46.1 u_46.2.1 u_46.2.2.1 u_46.2.2.2.1 u_46.2.2.2.2.1 u_46.2.2.2.2.2.1 u_46.2.2.2.2.2.2 _ _ _ hg (subP hP [2, 0, 1, 3, 4, 5] rfl) (hD.sub [2, 0, 1, 3, 4, 5] (nd2_ok _ (by decide +kernel)) rfl) hS (lv_sub hl [0, 1, 2, 4] rfl)
          have hg := hg.2 c_49
          refine lv_iconst (v := (1 : Int32)) hx hb dX8_suiting_52 (by decide) ?_
          refine lv_goto (tgt := 57) hx hb dX8_suiting_53 (by decide) ?_
          exact L57 y4_17 (1 : Int32) u_46.1 u_46.2.1 u_46.2.2.1 u_46.2.2.2.1 u_46.2.2.2.2.1 u_46.2.2.2.2.2.1 u_46.2.2.2.2.2.2 _ _ _ hg (subP hP [2, 0, 1, 3, 4, 5] rfl) (hD.sub [2, 0, 1, 3, 4, 5] (nd2_ok _ (by decide +kernel)) rfl) hS (lv_sub hl [0, 1, 2, 4] rfl)
      intro y2_4 y1_4 x_read_4 x_length_4 x_top_4 x_at_4 x_wrong_4 x_isAsked_4 f_asked_4 H locs ls hg hP hD hS hl
      rw [p_X8_suiting_4_s] at hg
      refine lv_iload_n hx hb dX8_suiting_4 rfl (lv_at hl 2 rfl) ?_
      refine lv_aload_n hx hb dX8_suiting_5 rfl (lv_at hl 0 rfl) ?_
      refine gf_X8_96 C0 hP 0 rfl rfl dX8_suiting_6 ?_
      refine lv_icmp_ge (tgt := 84) hx hb dX8_suiting_9 (by decide) (fun c_9 => ?_) (fun c_9 => ?_)
      · have hg := hg.1 c_9
        refine lv_iload_n hx hb dX8_suiting_84 rfl (lv_at hl 1 rfl) ?_
        exact k_iret C0 hr (x_read_4, x_length_4, x_top_4, x_at_4, x_wrong_4, x_isAsked_4, f_asked_4) hg hP hD hS dX8_suiting_85
      have hg := hg.2 c_9
      refine lv_iconst (v := (1 : Int32)) hx hb dX8_suiting_12 (by decide) ?_
      refine lv_istore_n (lv' := [(3, .int (1 : Int32)), (0, .ref h), (1, .int y1_4), (2, .int y2_4)]) hx hb dX8_suiting_13 rfl hl (by decide) rfl (fun ls hl => ?_)
      refine lv_iconst (v := (0 : Int32)) hx hb dX8_suiting_14 (by decide) ?_
      refine lv_istore (lv' := [(4, .int (0 : Int32)), (3, .int (1 : Int32)), (0, .ref h), (1, .int y1_4), (2, .int y2_4)]) hx hb dX8_suiting_15 hl (by decide) rfl (fun ls hl => ?_)
      exact L17 y2_4 y1_4 F (0 : Int32) (1 : Int32) x_read_4 x_length_4 x_top_4 x_at_4 x_wrong_4 x_isAsked_4 f_asked_4 _ _ _ hg hP hD hS (lv_sub hl [2, 3, 4, 1, 0] rfl)
  unfold p_X8_suiting at hg
  refine lv_iconst (v := (0 : Int32)) hx hb dX8_suiting_0 (by decide) ?_
  refine lv_istore_n (lv' := [(1, .int (0 : Int32)), (0, .ref h)]) hx hb dX8_suiting_1 rfl hl (by decide) rfl (fun ls hl => ?_)
  refine lv_iconst (v := (0 : Int32)) hx hb dX8_suiting_2 (by decide) ?_
  refine lv_istore_n (lv' := [(2, .int (0 : Int32)), (1, .int (0 : Int32)), (0, .ref h)]) hx hb dX8_suiting_3 rfl hl (by decide) rfl (fun ls hl => ?_)
  exact L4 F (0 : Int32) (0 : Int32) w_read x_length x_top x_at x_wrong x_isAsked f_asked _ _ _ hg hP hD hS (lv_sub hl [2, 1, 0] rfl)
theorem dX8_suits_0 : decode cX8_suits 0 = .ok (.aload_n 0, 1) := by decide +kernel
theorem dX8_suits_1 : decode cX8_suits 1 = .ok (.iconst 0, 1) := by decide +kernel
theorem dX8_suits_2 : decode cX8_suits 2 = .ok (.putfield 82, 3) := by decide +kernel
theorem dX8_suits_5 : decode cX8_suits 5 = .ok (.aload_n 0, 1) := by decide +kernel
theorem dX8_suits_6 : decode cX8_suits 6 = .ok (.invokevirtual 347, 3) := by decide +kernel
theorem dX8_suits_9 : decode cX8_suits 9 = .ok (.istore_n 1, 1) := by decide +kernel
theorem dX8_suits_10 : decode cX8_suits 10 = .ok (.aload_n 0, 1) := by decide +kernel
theorem dX8_suits_11 : decode cX8_suits 11 = .ok (.iconst 0, 1) := by decide +kernel
theorem dX8_suits_12 : decode cX8_suits 12 = .ok (.putfield 86, 3) := by decide +kernel
theorem dX8_suits_15 : decode cX8_suits 15 = .ok (.aload_n 0, 1) := by decide +kernel
theorem dX8_suits_16 : decode cX8_suits 16 = .ok (.iload_n 1, 1) := by decide +kernel
theorem dX8_suits_17 : decode cX8_suits 17 = .ok (.invokestatic 202, 3) := by decide +kernel
theorem dX8_suits_20 : decode cX8_suits 20 = .ok (.i2l, 1) := by decide +kernel
theorem dX8_suits_21 : decode cX8_suits 21 = .ok (.invokevirtual 249, 3) := by decide +kernel
theorem dX8_suits_24 : decode cX8_suits 24 = .ok (.iload_n 1, 1) := by decide +kernel
theorem dX8_suits_25 : decode cX8_suits 25 = .ok (.ireturn, 1) := by decide +kernel
def p_X8_suits (F : Nat) (x_cats : Int32) (w_read : Value) (x_length : Int32) (x_top : Int32) (x_at : Int32) (x_wrong : Int32) (q_rule : Nat) (x_ruleSize : Int32) (x_isAsked : Int32) (x_heardMany : Int32) (f_heardOf : Nat → Int32) (f_heardBy : Nat → Int32) (f_now : Nat → Int32) (f_asked : Nat → Int32) (f_rule : Nat → Int32) (f_row : Nat → Int64) (Post : Int32 → (Int32 × Int32 × Value × Int32 × Int32 × Int32 × Int32 × Int32 × (Nat → Int32) × (Nat → Int64)) → Prop) : Prop := (p_X8_suiting F x_cats w_read x_length x_top x_at x_wrong q_rule x_ruleSize x_isAsked x_heardMany f_heardOf f_heardBy f_now f_asked f_rule (fun (r_6 : Int32) (u_6 : (Value × Int32 × Int32 × Int32 × Int32 × Int32 × (Nat → Int32))) => (p_J6_bitCount_0f7a4 F r_6 (fun (r_17 : Int32) => (p_X8_tell F (r_17.toInt64) (0 : Int32) f_row (fun (u_21 : (Int32 × (Nat → Int64))) => (Post r_6 (u_21.1, (0 : Int32), u_6.1, u_6.2.1, u_6.2.2.1, u_6.2.2.2.1, u_6.2.2.2.2.1, u_6.2.2.2.2.2.1, u_6.2.2.2.2.2.2, u_21.2))))))))
set_option maxHeartbeats 4000000 in
set_option maxRecDepth 100000 in
theorem c_X8_suits (l : Launch) (D : va_G) (cT : Nat → ClassId) (F : Nat) (h : Nat) (q_now : Nat) (x_arches : Int32) (x_cats : Int32) (w_text : Value) (x_typed : Int32) (q_row : Nat) (x_rowMany : Int32) (x_thrown : Int32) (w_read : Value) (x_length : Int32) (x_top : Int32) (x_at : Int32) (x_wrong : Int32) (w_told : Value) (q_rule : Nat) (w_otherRule : Value) (x_ruleSize : Int32) (x_isAsked : Int32) (q_asked : Nat) (w_undos : Value) (x_undoMany : Int32) (w_aside : Value) (w_then : Value) (w_hold : Value) (x_dropped : Int32) (w_acts : Value) (w_guarded : Value) (w_train : Value) (x_trolleyEnd : Int32) (w_feltOf : Value) (w_feltBy : Value) (x_feltMany : Int32) (w_many : Value) (q_heardOf : Nat) (q_heardBy : Nat) (x_heardMany : Int32) (w_worth : Value) (x_drawn : Int32) (x_came : Int32) (w_kept : Value) (w_isKept : Value) (w_keptCame : Value) (f_heardOf : Nat → Int32) (f_heardBy : Nat → Int32) (f_now : Nat → Int32) (f_asked : Nat → Int32) (f_rule : Nat → Int32) (f_row : Nat → Int64) (Post : Int32 → (Int32 × Int32 × Value × Int32 × Int32 × Int32 × Int32 × Int32 × (Nat → Int32) × (Nat → Int64)) → Prop) (hg : p_X8_suits F x_cats w_read x_length x_top x_at x_wrong q_rule x_ruleSize x_isAsked x_heardMany f_heardOf f_heardBy f_now f_asked f_rule f_row Post) : MWi l D cT yX8_suits cX8_suits 2 (some .int) 326 10197 0 0 [.ref h] [(h, oX8 (.ref q_now) (.int x_arches) (.int x_cats) w_text (.int x_typed) (.ref q_row) (.int x_rowMany) (.int x_thrown) w_read (.int x_length) (.int x_top) (.int x_at) (.int x_wrong) w_told (.ref q_rule) w_otherRule (.int x_ruleSize) (.int x_isAsked) (.ref q_asked) w_undos (.int x_undoMany) w_aside w_then w_hold (.int x_dropped) w_acts w_guarded w_train (.int x_trolleyEnd) w_feltOf w_feltBy (.int x_feltMany) w_many (.ref q_heardOf) (.ref q_heardBy) (.int x_heardMany) w_worth (.int x_drawn) (.int x_came) w_kept w_isKept w_keptCame), (q_heardOf, aI cT 12 f_heardOf), (q_heardBy, aI cT 12 f_heardBy), (q_now, aI cT 47 f_now), (q_asked, aI cT 7 f_asked), (q_rule, aB cT 40 f_rule), (q_row, aJ cT 16 f_row)] Post (fun (u : (Int32 × Int32 × Value × Int32 × Int32 × Int32 × Int32 × Int32 × (Nat → Int32) × (Nat → Int64))) => [(h, oX8 (.ref q_now) (.int x_arches) (.int x_cats) w_text (.int x_typed) (.ref q_row) (.int u.1) (.int u.2.1) u.2.2.1 (.int u.2.2.2.1) (.int u.2.2.2.2.1) (.int u.2.2.2.2.2.1) (.int u.2.2.2.2.2.2.1) w_told (.ref q_rule) w_otherRule (.int x_ruleSize) (.int u.2.2.2.2.2.2.2.1) (.ref q_asked) w_undos (.int x_undoMany) w_aside w_then w_hold (.int x_dropped) w_acts w_guarded w_train (.int x_trolleyEnd) w_feltOf w_feltBy (.int x_feltMany) w_many (.ref q_heardOf) (.ref q_heardBy) (.int x_heardMany) w_worth (.int x_drawn) (.int x_came) w_kept w_isKept w_keptCame), (q_heardOf, aI cT 12 f_heardOf), (q_heardBy, aI cT 12 f_heardBy), (q_now, aI cT 47 f_now), (q_asked, aI cT 7 u.2.2.2.2.2.2.2.2.1), (q_rule, aB cT 40 f_rule), (q_row, aJ cT 16 u.2.2.2.2.2.2.2.2.2)]) := by
  refine MWi.of (by decide) (Nat.le_of_ble_eq_true rfl) ?_
  intro p e s m below meth c A hA C0 hnm hr hP hD ls hl
  have hl : lv_has ls 2 [(0, .ref h)] := hl
  have hx := C0.x
  have hb := C0.b
  have hS : va_S A s.heap s.heap [] := va_S.rf
  have hP : va_P D cls9 [(h, oX8 (.ref q_now) (.int x_arches) (.int x_cats) w_text (.int x_typed) (.ref q_row) (.int x_rowMany) (.int x_thrown) w_read (.int x_length) (.int x_top) (.int x_at) (.int x_wrong) w_told (.ref q_rule) w_otherRule (.int x_ruleSize) (.int x_isAsked) (.ref q_asked) w_undos (.int x_undoMany) w_aside w_then w_hold (.int x_dropped) w_acts w_guarded w_train (.int x_trolleyEnd) w_feltOf w_feltBy (.int x_feltMany) w_many (.ref q_heardOf) (.ref q_heardBy) (.int x_heardMany) w_worth (.int x_drawn) (.int x_came) w_kept w_isKept w_keptCame), (q_heardOf, aI cT 12 f_heardOf), (q_heardBy, aI cT 12 f_heardBy), (q_now, aI cT 47 f_now), (q_asked, aI cT 7 f_asked), (q_rule, aB cT 40 f_rule), (q_row, aJ cT 16 f_row)] s.heap := hP
  have hD : va_D A [(h, oX8 (.ref q_now) (.int x_arches) (.int x_cats) w_text (.int x_typed) (.ref q_row) (.int x_rowMany) (.int x_thrown) w_read (.int x_length) (.int x_top) (.int x_at) (.int x_wrong) w_told (.ref q_rule) w_otherRule (.int x_ruleSize) (.int x_isAsked) (.ref q_asked) w_undos (.int x_undoMany) w_aside w_then w_hold (.int x_dropped) w_acts w_guarded w_train (.int x_trolleyEnd) w_feltOf w_feltBy (.int x_feltMany) w_many (.ref q_heardOf) (.ref q_heardBy) (.int x_heardMany) w_worth (.int x_drawn) (.int x_came) w_kept w_isKept w_keptCame), (q_heardOf, aI cT 12 f_heardOf), (q_heardBy, aI cT 12 f_heardBy), (q_now, aI cT 47 f_now), (q_asked, aI cT 7 f_asked), (q_rule, aB cT 40 f_rule), (q_row, aJ cT 16 f_row)] := hD
  unfold p_X8_suits at hg
  refine lv_aload_n hx hb dX8_suits_0 rfl (lv_at hl 0 rfl) ?_
  refine lv_iconst (v := (0 : Int32)) hx hb dX8_suits_1 (by decide) ?_
  refine pf_X8_82 C0 hP hD hS 0 rfl (Nat.le_of_ble_eq_true rfl) (ws2 := [(h, oX8 (.ref q_now) (.int x_arches) (.int x_cats) w_text (.int x_typed) (.ref q_row) (.int x_rowMany) (.int (0 : Int32)) w_read (.int x_length) (.int x_top) (.int x_at) (.int x_wrong) w_told (.ref q_rule) w_otherRule (.int x_ruleSize) (.int x_isAsked) (.ref q_asked) w_undos (.int x_undoMany) w_aside w_then w_hold (.int x_dropped) w_acts w_guarded w_train (.int x_trolleyEnd) w_feltOf w_feltBy (.int x_feltMany) w_many (.ref q_heardOf) (.ref q_heardBy) (.int x_heardMany) w_worth (.int x_drawn) (.int x_came) w_kept w_isKept w_keptCame), (q_heardOf, aI cT 12 f_heardOf), (q_heardBy, aI cT 12 f_heardBy), (q_now, aI cT 47 f_now), (q_asked, aI cT 7 f_asked), (q_rule, aB cT 40 f_rule), (q_row, aJ cT 16 f_row)]) rfl dX8_suits_2 (fun H locs hP hD hS => ?_)
  refine lv_aload_n hx hb dX8_suits_5 rfl (lv_at hl 0 rfl) ?_
  refine k_Vi (rest := []) (wr := [(q_row, aJ cT 16 f_row)]) (w2 := fun u_6 => [(q_row, aJ cT 16 f_row), (h, oX8 (.ref q_now) (.int x_arches) (.int x_cats) w_text (.int x_typed) (.ref q_row) (.int x_rowMany) (.int (0 : Int32)) u_6.1 (.int u_6.2.1) (.int u_6.2.2.1) (.int u_6.2.2.2.1) (.int u_6.2.2.2.2.1) w_told (.ref q_rule) w_otherRule (.int x_ruleSize) (.int u_6.2.2.2.2.2.1) (.ref q_asked) w_undos (.int x_undoMany) w_aside w_then w_hold (.int x_dropped) w_acts w_guarded w_train (.int x_trolleyEnd) w_feltOf w_feltBy (.int x_feltMany) w_many (.ref q_heardOf) (.ref q_heardBy) (.int x_heardMany) w_worth (.int x_drawn) (.int x_came) w_kept w_isKept w_keptCame), (q_heardOf, aI cT 12 f_heardOf), (q_heardBy, aI cT 12 f_heardBy), (q_now, aI cT 47 f_now), (q_asked, aI cT 7 u_6.2.2.2.2.2.2), (q_rule, aB cT 40 f_rule)]) C0 lk_X8_347 (c_X8_suiting l D cT F h q_now x_arches x_cats w_text x_typed (.ref q_row) x_rowMany (0 : Int32) w_read x_length x_top x_at x_wrong w_told q_rule w_otherRule x_ruleSize x_isAsked q_asked w_undos x_undoMany w_aside w_then w_hold x_dropped w_acts w_guarded w_train x_trolleyEnd w_feltOf w_feltBy x_feltMany w_many q_heardOf q_heardBy x_heardMany w_worth x_drawn x_came w_kept w_isKept w_keptCame f_heardOf f_heardBy f_now f_asked f_rule _ hg) hP hD hS hA [0, 1, 2, 3, 4, 5] [6] (by decide +kernel) rfl rfl (fun _ => rfl) rfl rfl ⟨Nat.le_of_ble_eq_true rfl, Nat.le_of_ble_eq_true rfl⟩ rfl hl.1 rfl (Nat.le_of_ble_eq_true rfl) dX8_suits_6 ⟨Nat.le_of_ble_eq_true rfl, Nat.le_of_ble_eq_true rfl⟩ ?_
  intro r_6 u_6 H locs hg hP hD hS
  refine lv_istore_n (lv' := [(1, .int r_6), (0, .ref h)]) hx hb dX8_suits_9 rfl hl (by decide) rfl (fun ls hl => ?_)
  refine lv_aload_n hx hb dX8_suits_10 rfl (lv_at hl 1 rfl) ?_
  refine lv_iconst (v := (0 : Int32)) hx hb dX8_suits_11 (by decide) ?_
  refine pf_X8_86 C0 hP hD hS 1 rfl (Nat.le_of_ble_eq_true rfl) (ws2 := [(q_row, aJ cT 16 f_row), (h, oX8 (.ref q_now) (.int x_arches) (.int x_cats) w_text (.int x_typed) (.ref q_row) (.int (0 : Int32)) (.int (0 : Int32)) u_6.1 (.int u_6.2.1) (.int u_6.2.2.1) (.int u_6.2.2.2.1) (.int u_6.2.2.2.2.1) w_told (.ref q_rule) w_otherRule (.int x_ruleSize) (.int u_6.2.2.2.2.2.1) (.ref q_asked) w_undos (.int x_undoMany) w_aside w_then w_hold (.int x_dropped) w_acts w_guarded w_train (.int x_trolleyEnd) w_feltOf w_feltBy (.int x_feltMany) w_many (.ref q_heardOf) (.ref q_heardBy) (.int x_heardMany) w_worth (.int x_drawn) (.int x_came) w_kept w_isKept w_keptCame), (q_heardOf, aI cT 12 f_heardOf), (q_heardBy, aI cT 12 f_heardBy), (q_now, aI cT 47 f_now), (q_asked, aI cT 7 u_6.2.2.2.2.2.2), (q_rule, aB cT 40 f_rule)]) rfl dX8_suits_12 (fun H locs hP hD hS => ?_)
  refine lv_aload_n hx hb dX8_suits_15 rfl (lv_at hl 1 rfl) ?_
  refine lv_iload_n hx hb dX8_suits_16 rfl (lv_at hl 0 rfl) ?_
  refine k_Sxi (rest := [.ref h]) C0 lk_X8_202 (c_J6_bitCount_0f7a4 l D cT F r_6 _ hg) hP hD hS hA [] (by decide +kernel) rfl ⟨Nat.le_of_ble_eq_true rfl, Nat.le_of_ble_eq_true rfl⟩ rfl hl.1 rfl (Nat.le_of_ble_eq_true rfl) dX8_suits_17 ⟨Nat.le_of_ble_eq_true rfl, Nat.le_of_ble_eq_true rfl⟩ (fun r_17 hg => ?_)
  refine lv_i2l (v := (r_17.toInt64)) hx hb dX8_suits_20 rfl ?_
  refine k_Vv (rest := []) (wr := [(q_heardOf, aI cT 12 f_heardOf), (q_heardBy, aI cT 12 f_heardBy), (q_now, aI cT 47 f_now), (q_asked, aI cT 7 u_6.2.2.2.2.2.2), (q_rule, aB cT 40 f_rule)]) (w2 := fun u_21 => [(q_heardOf, aI cT 12 f_heardOf), (q_heardBy, aI cT 12 f_heardBy), (q_now, aI cT 47 f_now), (q_asked, aI cT 7 u_6.2.2.2.2.2.2), (q_rule, aB cT 40 f_rule), (h, oX8 (.ref q_now) (.int x_arches) (.int x_cats) w_text (.int x_typed) (.ref q_row) (.int u_21.1) (.int (0 : Int32)) u_6.1 (.int u_6.2.1) (.int u_6.2.2.1) (.int u_6.2.2.2.1) (.int u_6.2.2.2.2.1) w_told (.ref q_rule) w_otherRule (.int x_ruleSize) (.int u_6.2.2.2.2.2.1) (.ref q_asked) w_undos (.int x_undoMany) w_aside w_then w_hold (.int x_dropped) w_acts w_guarded w_train (.int x_trolleyEnd) w_feltOf w_feltBy (.int x_feltMany) w_many (.ref q_heardOf) (.ref q_heardBy) (.int x_heardMany) w_worth (.int x_drawn) (.int x_came) w_kept w_isKept w_keptCame), (q_row, aJ cT 16 u_21.2)]) C0 lk_X8_249 (c_X8_tell l D cT F h (r_17.toInt64) (.ref q_now) x_arches x_cats w_text x_typed q_row (0 : Int32) (0 : Int32) u_6.1 u_6.2.1 u_6.2.2.1 u_6.2.2.2.1 u_6.2.2.2.2.1 w_told (.ref q_rule) w_otherRule x_ruleSize u_6.2.2.2.2.2.1 (.ref q_asked) w_undos x_undoMany w_aside w_then w_hold x_dropped w_acts w_guarded w_train x_trolleyEnd w_feltOf w_feltBy x_feltMany w_many (.ref q_heardOf) (.ref q_heardBy) x_heardMany w_worth x_drawn x_came w_kept w_isKept w_keptCame f_row _ hg) hP hD hS hA [1, 0] [2, 3, 4, 5, 6] (by decide +kernel) rfl rfl (fun _ => rfl) rfl rfl ⟨Nat.le_of_ble_eq_true rfl, Nat.le_of_ble_eq_true rfl⟩ rfl hl.1 rfl (Nat.le_of_ble_eq_true rfl) dX8_suits_21 ⟨Nat.le_of_ble_eq_true rfl, Nat.le_of_ble_eq_true rfl⟩ ?_
  intro u_21 H locs hg hP hD hS
  refine lv_iload_n hx hb dX8_suits_24 rfl (lv_at hl 0 rfl) ?_
  exact k_iret C0 hr (u_21.1, (0 : Int32), u_6.1, u_6.2.1, u_6.2.2.1, u_6.2.2.2.1, u_6.2.2.2.2.1, u_6.2.2.2.2.2.1, u_6.2.2.2.2.2.2, u_21.2) hg (subP hP [5, 0, 1, 2, 3, 4, 6] rfl) (hD.sub [5, 0, 1, 2, 3, 4, 6] (nd2_ok _ (by decide +kernel)) rfl) hS dX8_suits_25
theorem dX8_asks_0 : decode cX8_asks 0 = .ok (.aload_n 0, 1) := by decide +kernel
theorem dX8_asks_1 : decode cX8_asks 1 = .ok (.iconst 0, 1) := by decide +kernel
theorem dX8_asks_2 : decode cX8_asks 2 = .ok (.putfield 82, 3) := by decide +kernel
theorem dX8_asks_5 : decode cX8_asks 5 = .ok (.aload_n 0, 1) := by decide +kernel
theorem dX8_asks_6 : decode cX8_asks 6 = .ok (.invokevirtual 347, 3) := by decide +kernel
theorem dX8_asks_9 : decode cX8_asks 9 = .ok (.istore_n 1, 1) := by decide +kernel
theorem dX8_asks_10 : decode cX8_asks 10 = .ok (.iload_n 1, 1) := by decide +kernel
theorem dX8_asks_11 : decode cX8_asks 11 = .ok (.ifCond .ne 6, 3) := by decide +kernel
theorem dX8_asks_14 : decode cX8_asks 14 = .ok (.bipush (-2), 2) := by decide +kernel
theorem dX8_asks_16 : decode cX8_asks 16 = .ok (.ireturn, 1) := by decide +kernel
theorem dX8_asks_17 : decode cX8_asks 17 = .ok (.iconst (-1), 1) := by decide +kernel
theorem dX8_asks_18 : decode cX8_asks 18 = .ok (.istore_n 2, 1) := by decide +kernel
theorem dX8_asks_19 : decode cX8_asks 19 = .ok (.ldc_w 301, 3) := by decide +kernel
theorem dX8_asks_22 : decode cX8_asks 22 = .ok (.istore_n 3, 1) := by decide +kernel
theorem dX8_asks_23 : decode cX8_asks 23 = .ok (.iconst 0, 1) := by decide +kernel
theorem dX8_asks_24 : decode cX8_asks 24 = .ok (.istore 4, 2) := by decide +kernel
theorem dX8_asks_26 : decode cX8_asks 26 = .ok (.iload 4, 2) := by decide +kernel
theorem dX8_asks_28 : decode cX8_asks 28 = .ok (.bipush 42, 2) := by decide +kernel
theorem dX8_asks_30 : decode cX8_asks 30 = .ok (.if_icmp .ge 112, 3) := by decide +kernel
theorem dX8_asks_33 : decode cX8_asks 33 = .ok (.iload 4, 2) := by decide +kernel
theorem dX8_asks_35 : decode cX8_asks 35 = .ok (.bipush 26, 2) := by decide +kernel
theorem dX8_asks_37 : decode cX8_asks 37 = .ok (.bipush 29, 2) := by decide +kernel
theorem dX8_asks_39 : decode cX8_asks 39 = .ok (.invokestatic 92, 3) := by decide +kernel
theorem dX8_asks_42 : decode cX8_asks 42 = .ok (.ifCond .eq 6, 3) := by decide +kernel
theorem dX8_asks_45 : decode cX8_asks 45 = .ok (.goto 91, 3) := by decide +kernel
theorem dX8_asks_48 : decode cX8_asks 48 = .ok (.iconst 0, 1) := by decide +kernel
theorem dX8_asks_49 : decode cX8_asks 49 = .ok (.istore 5, 2) := by decide +kernel
theorem dX8_asks_51 : decode cX8_asks 51 = .ok (.iconst 0, 1) := by decide +kernel
theorem dX8_asks_52 : decode cX8_asks 52 = .ok (.istore 6, 2) := by decide +kernel
theorem dX8_asks_54 : decode cX8_asks 54 = .ok (.iload 6, 2) := by decide +kernel
theorem dX8_asks_56 : decode cX8_asks 56 = .ok (.aload_n 0, 1) := by decide +kernel
theorem dX8_asks_57 : decode cX8_asks 57 = .ok (.getfield 96, 3) := by decide +kernel
theorem dX8_asks_60 : decode cX8_asks 60 = .ok (.if_icmp .ge 47, 3) := by decide +kernel
theorem dX8_asks_63 : decode cX8_asks 63 = .ok (.iload 5, 2) := by decide +kernel
theorem dX8_asks_65 : decode cX8_asks 65 = .ok (.iload_n 1, 1) := by decide +kernel
theorem dX8_asks_66 : decode cX8_asks 66 = .ok (.iload 6, 2) := by decide +kernel
theorem dX8_asks_68 : decode cX8_asks 68 = .ok (.invokestatic 292, 3) := by decide +kernel
theorem dX8_asks_71 : decode cX8_asks 71 = .ok (.ifCond .eq 26, 3) := by decide +kernel
theorem dX8_asks_74 : decode cX8_asks 74 = .ok (.aload_n 0, 1) := by decide +kernel
theorem dX8_asks_75 : decode cX8_asks 75 = .ok (.iload 6, 2) := by decide +kernel
theorem dX8_asks_77 : decode cX8_asks 77 = .ok (.iload 4, 2) := by decide +kernel
theorem dX8_asks_79 : decode cX8_asks 79 = .ok (.bipush 10, 2) := by decide +kernel
theorem dX8_asks_81 : decode cX8_asks 81 = .ok (.idiv, 1) := by decide +kernel
theorem dX8_asks_82 : decode cX8_asks 82 = .ok (.iload 4, 2) := by decide +kernel
theorem dX8_asks_84 : decode cX8_asks 84 = .ok (.bipush 10, 2) := by decide +kernel
theorem dX8_asks_86 : decode cX8_asks 86 = .ok (.irem, 1) := by decide +kernel
theorem dX8_asks_87 : decode cX8_asks 87 = .ok (.invokevirtual 344, 3) := by decide +kernel
theorem dX8_asks_90 : decode cX8_asks 90 = .ok (.ifCond .eq 7, 3) := by decide +kernel
theorem dX8_asks_93 : decode cX8_asks 93 = .ok (.iconst 1, 1) := by decide +kernel
theorem dX8_asks_94 : decode cX8_asks 94 = .ok (.goto 4, 3) := by decide +kernel
theorem dX8_asks_97 : decode cX8_asks 97 = .ok (.iconst 0, 1) := by decide +kernel
theorem dX8_asks_98 : decode cX8_asks 98 = .ok (.iadd, 1) := by decide +kernel
theorem dX8_asks_99 : decode cX8_asks 99 = .ok (.istore 5, 2) := by decide +kernel
theorem dX8_asks_101 : decode cX8_asks 101 = .ok (.iinc 6 1, 3) := by decide +kernel
theorem dX8_asks_104 : decode cX8_asks 104 = .ok (.goto (-50), 3) := by decide +kernel
theorem dX8_asks_107 : decode cX8_asks 107 = .ok (.iload 5, 2) := by decide +kernel
theorem dX8_asks_109 : decode cX8_asks 109 = .ok (.iload_n 1, 1) := by decide +kernel
theorem dX8_asks_110 : decode cX8_asks 110 = .ok (.invokestatic 202, 3) := by decide +kernel
theorem dX8_asks_113 : decode cX8_asks 113 = .ok (.iload 5, 2) := by decide +kernel
theorem dX8_asks_115 : decode cX8_asks 115 = .ok (.isub, 1) := by decide +kernel
theorem dX8_asks_116 : decode cX8_asks 116 = .ok (.invokestatic 195, 3) := by decide +kernel
theorem dX8_asks_119 : decode cX8_asks 119 = .ok (.istore 6, 2) := by decide +kernel
theorem dX8_asks_121 : decode cX8_asks 121 = .ok (.iload 6, 2) := by decide +kernel
theorem dX8_asks_123 : decode cX8_asks 123 = .ok (.iload_n 3, 1) := by decide +kernel
theorem dX8_asks_124 : decode cX8_asks 124 = .ok (.if_icmp .lt 6, 3) := by decide +kernel
theorem dX8_asks_127 : decode cX8_asks 127 = .ok (.goto 9, 3) := by decide +kernel
theorem dX8_asks_130 : decode cX8_asks 130 = .ok (.iload 4, 2) := by decide +kernel
theorem dX8_asks_132 : decode cX8_asks 132 = .ok (.istore_n 2, 1) := by decide +kernel
theorem dX8_asks_133 : decode cX8_asks 133 = .ok (.iload 6, 2) := by decide +kernel
theorem dX8_asks_135 : decode cX8_asks 135 = .ok (.istore_n 3, 1) := by decide +kernel
theorem dX8_asks_136 : decode cX8_asks 136 = .ok (.iinc 4 1, 3) := by decide +kernel
theorem dX8_asks_139 : decode cX8_asks 139 = .ok (.goto (-113), 3) := by decide +kernel
theorem dX8_asks_142 : decode cX8_asks 142 = .ok (.aload_n 0, 1) := by decide +kernel
theorem dX8_asks_143 : decode cX8_asks 143 = .ok (.iconst 0, 1) := by decide +kernel
theorem dX8_asks_144 : decode cX8_asks 144 = .ok (.putfield 86, 3) := by decide +kernel
theorem dX8_asks_147 : decode cX8_asks 147 = .ok (.aload_n 0, 1) := by decide +kernel
theorem dX8_asks_148 : decode cX8_asks 148 = .ok (.iload_n 3, 1) := by decide +kernel
theorem dX8_asks_149 : decode cX8_asks 149 = .ok (.i2l, 1) := by decide +kernel
theorem dX8_asks_150 : decode cX8_asks 150 = .ok (.invokevirtual 249, 3) := by decide +kernel
theorem dX8_asks_153 : decode cX8_asks 153 = .ok (.iload_n 2, 1) := by decide +kernel
theorem dX8_asks_154 : decode cX8_asks 154 = .ok (.ireturn, 1) := by decide +kernel
def p_X8_asks_136 (F : Nat) (y4_26 : Int32) (k26 : Int32 → Int32 → Int32 → Value → Int32 → Int32 → Int32 → Int32 → Int32 → (Nat → Int32) → Prop) (Post : Int32 → (Int32 × Int32 × Value × Int32 × Int32 × Int32 × Int32 × Int32 × (Nat → Int32) × (Nat → Int64)) → Prop) (y2_136 : Int32) (y3_136 : Int32) (x_read_136 : Value) (x_length_136 : Int32) (x_top_136 : Int32) (x_at_136 : Int32) (x_wrong_136 : Int32) (x_isAsked_136 : Int32) (f_asked_136 : Nat → Int32) : Prop := (k26 (y4_26 + (1 : Int32)) y3_136 y2_136 x_read_136 x_length_136 x_top_136 x_at_136 x_wrong_136 x_isAsked_136 f_asked_136)
def p_X8_asks_98 (F : Nat) (y6_54 : Int32) (y5_54 : Int32) (k26 : Int32 → Int32 → Int32 → Value → Int32 → Int32 → Int32 → Int32 → Int32 → (Nat → Int32) → Prop) (k54 : Int32 → Int32 → Value → Int32 → Int32 → Int32 → Int32 → Int32 → (Nat → Int32) → Prop) (Post : Int32 → (Int32 × Int32 × Value × Int32 × Int32 × Int32 × Int32 × Int32 × (Nat → Int32) × (Nat → Int64)) → Prop) (s1_98 : Int32) (x_read_98 : Value) (x_length_98 : Int32) (x_top_98 : Int32) (x_at_98 : Int32) (x_wrong_98 : Int32) (x_isAsked_98 : Int32) (f_asked_98 : Nat → Int32) : Prop := (k54 (y6_54 + (1 : Int32)) (y5_54 + s1_98) x_read_98 x_length_98 x_top_98 x_at_98 x_wrong_98 x_isAsked_98 f_asked_98)
def p_X8_asks_97 (F : Nat) (y6_54 : Int32) (y5_54 : Int32) (k26 : Int32 → Int32 → Int32 → Value → Int32 → Int32 → Int32 → Int32 → Int32 → (Nat → Int32) → Prop) (k54 : Int32 → Int32 → Value → Int32 → Int32 → Int32 → Int32 → Int32 → (Nat → Int32) → Prop) (Post : Int32 → (Int32 × Int32 × Value × Int32 × Int32 × Int32 × Int32 × Int32 × (Nat → Int32) × (Nat → Int64)) → Prop) (x_read_97 : Value) (x_length_97 : Int32) (x_top_97 : Int32) (x_at_97 : Int32) (x_wrong_97 : Int32) (x_isAsked_97 : Int32) (f_asked_97 : Nat → Int32) : Prop := (p_X8_asks_98 F y6_54 y5_54 k26 k54 Post (0 : Int32) x_read_97 x_length_97 x_top_97 x_at_97 x_wrong_97 x_isAsked_97 f_asked_97)
noncomputable def p_X8_asks_54 (F : Nat) (x_cats : Int32) (q_rule : Nat) (x_ruleSize : Int32) (f_now : Nat → Int32) (f_rule : Nat → Int32) (r_6 : Int32) (y4_26 : Int32) (y3_26 : Int32) (y2_26 : Int32) (k26 : Int32 → Int32 → Int32 → Value → Int32 → Int32 → Int32 → Int32 → Int32 → (Nat → Int32) → Prop) (Post : Int32 → (Int32 × Int32 × Value × Int32 × Int32 × Int32 × Int32 × Int32 × (Nat → Int32) × (Nat → Int64)) → Prop) (n : Nat) : Int32 → Int32 → Value → Int32 → Int32 → Int32 → Int32 → Int32 → (Nat → Int32) → Prop := Nat.rec (motive := fun _ => Int32 → Int32 → Value → Int32 → Int32 → Int32 → Int32 → Int32 → (Nat → Int32) → Prop) (fun _ _ _ _ _ _ _ _ _ => False) (fun _ k54 => fun (y6_54 : Int32) (y5_54 : Int32) (x_read_54 : Value) (x_length_54 : Int32) (x_top_54 : Int32) (x_at_54 : Int32) (x_wrong_54 : Int32) (x_isAsked_54 : Int32) (f_asked_54 : Nat → Int32) => ((x_cats ≤ y6_54 → (p_J6_bitCount_0f7a4 F r_6 (fun (r_110 : Int32) => (((if y5_54 < (r_110 - y5_54) then (r_110 - y5_54) else y5_54) < y3_26 → (p_X8_asks_136 F y4_26 k26 Post y4_26 (if y5_54 < (r_110 - y5_54) then (r_110 - y5_54) else y5_54) x_read_54 x_length_54 x_top_54 x_at_54 x_wrong_54 x_isAsked_54 f_asked_54)) ∧ (¬ (if y5_54 < (r_110 - y5_54) then (r_110 - y5_54) else y5_54) < y3_26 → (p_X8_asks_136 F y4_26 k26 Post y2_26 y3_26 x_read_54 x_length_54 x_top_54 x_at_54 x_wrong_54 x_isAsked_54 f_asked_54)))))) ∧ (¬ x_cats ≤ y6_54 → (p_X8_has F r_6 y6_54 (fun (r_68 : Int32) => ((r_68 = 0 → (p_X8_asks_97 F y6_54 y5_54 k26 k54 Post x_read_54 x_length_54 x_top_54 x_at_54 x_wrong_54 x_isAsked_54 f_asked_54)) ∧ (¬ r_68 = 0 → (¬ (10 : Int32) = 0 ∧ (¬ (10 : Int32) = 0 ∧ (p_X8_isSo F y6_54 (y4_26 / (10 : Int32)) (y4_26 - y4_26 / (10 : Int32) * (10 : Int32)) x_cats x_read_54 x_length_54 x_top_54 x_at_54 x_wrong_54 q_rule x_ruleSize x_isAsked_54 f_now f_asked_54 f_rule (fun (r_87 : Int32) (u_87 : (Value × Int32 × Int32 × Int32 × Int32 × Int32 × (Nat → Int32))) => ((r_87 = 0 → (p_X8_asks_97 F y6_54 y5_54 k26 k54 Post u_87.1 u_87.2.1 u_87.2.2.1 u_87.2.2.2.1 u_87.2.2.2.2.1 u_87.2.2.2.2.2.1 u_87.2.2.2.2.2.2)) ∧ (¬ r_87 = 0 → (p_X8_asks_98 F y6_54 y5_54 k26 k54 Post (1 : Int32) u_87.1 u_87.2.1 u_87.2.2.1 u_87.2.2.2.1 u_87.2.2.2.2.1 u_87.2.2.2.2.2.1 u_87.2.2.2.2.2.2)))))))))))))) n
theorem p_X8_asks_54_s (F : Nat) (x_cats : Int32) (q_rule : Nat) (x_ruleSize : Int32) (f_now : Nat → Int32) (f_rule : Nat → Int32) (r_6 : Int32) (y4_26 : Int32) (y3_26 : Int32) (y2_26 : Int32) (k26 : Int32 → Int32 → Int32 → Value → Int32 → Int32 → Int32 → Int32 → Int32 → (Nat → Int32) → Prop) (Post : Int32 → (Int32 × Int32 × Value × Int32 × Int32 × Int32 × Int32 × Int32 × (Nat → Int32) × (Nat → Int64)) → Prop) (n : Nat) (y6_54 : Int32) (y5_54 : Int32) (x_read_54 : Value) (x_length_54 : Int32) (x_top_54 : Int32) (x_at_54 : Int32) (x_wrong_54 : Int32) (x_isAsked_54 : Int32) (f_asked_54 : Nat → Int32) : p_X8_asks_54 F x_cats q_rule x_ruleSize f_now f_rule r_6 y4_26 y3_26 y2_26 k26 Post (n + 1) y6_54 y5_54 x_read_54 x_length_54 x_top_54 x_at_54 x_wrong_54 x_isAsked_54 f_asked_54 = ((x_cats ≤ y6_54 → (p_J6_bitCount_0f7a4 F r_6 (fun (r_110 : Int32) => (((if y5_54 < (r_110 - y5_54) then (r_110 - y5_54) else y5_54) < y3_26 → (p_X8_asks_136 F y4_26 k26 Post y4_26 (if y5_54 < (r_110 - y5_54) then (r_110 - y5_54) else y5_54) x_read_54 x_length_54 x_top_54 x_at_54 x_wrong_54 x_isAsked_54 f_asked_54)) ∧ (¬ (if y5_54 < (r_110 - y5_54) then (r_110 - y5_54) else y5_54) < y3_26 → (p_X8_asks_136 F y4_26 k26 Post y2_26 y3_26 x_read_54 x_length_54 x_top_54 x_at_54 x_wrong_54 x_isAsked_54 f_asked_54)))))) ∧ (¬ x_cats ≤ y6_54 → (p_X8_has F r_6 y6_54 (fun (r_68 : Int32) => ((r_68 = 0 → (p_X8_asks_97 F y6_54 y5_54 k26 (p_X8_asks_54 F x_cats q_rule x_ruleSize f_now f_rule r_6 y4_26 y3_26 y2_26 k26 Post n) Post x_read_54 x_length_54 x_top_54 x_at_54 x_wrong_54 x_isAsked_54 f_asked_54)) ∧ (¬ r_68 = 0 → (¬ (10 : Int32) = 0 ∧ (¬ (10 : Int32) = 0 ∧ (p_X8_isSo F y6_54 (y4_26 / (10 : Int32)) (y4_26 - y4_26 / (10 : Int32) * (10 : Int32)) x_cats x_read_54 x_length_54 x_top_54 x_at_54 x_wrong_54 q_rule x_ruleSize x_isAsked_54 f_now f_asked_54 f_rule (fun (r_87 : Int32) (u_87 : (Value × Int32 × Int32 × Int32 × Int32 × Int32 × (Nat → Int32))) => ((r_87 = 0 → (p_X8_asks_97 F y6_54 y5_54 k26 (p_X8_asks_54 F x_cats q_rule x_ruleSize f_now f_rule r_6 y4_26 y3_26 y2_26 k26 Post n) Post u_87.1 u_87.2.1 u_87.2.2.1 u_87.2.2.2.1 u_87.2.2.2.2.1 u_87.2.2.2.2.2.1 u_87.2.2.2.2.2.2)) ∧ (¬ r_87 = 0 → (p_X8_asks_98 F y6_54 y5_54 k26 (p_X8_asks_54 F x_cats q_rule x_ruleSize f_now f_rule r_6 y4_26 y3_26 y2_26 k26 Post n) Post (1 : Int32) u_87.1 u_87.2.1 u_87.2.2.1 u_87.2.2.2.1 u_87.2.2.2.2.1 u_87.2.2.2.2.2.1 u_87.2.2.2.2.2.2))))))))))))) := rfl
noncomputable def p_X8_asks_26 (F : Nat) (x_cats : Int32) (q_rule : Nat) (x_ruleSize : Int32) (f_now : Nat → Int32) (f_rule : Nat → Int32) (f_row : Nat → Int64) (r_6 : Int32) (Post : Int32 → (Int32 × Int32 × Value × Int32 × Int32 × Int32 × Int32 × Int32 × (Nat → Int32) × (Nat → Int64)) → Prop) (n : Nat) : Int32 → Int32 → Int32 → Value → Int32 → Int32 → Int32 → Int32 → Int32 → (Nat → Int32) → Prop := Nat.rec (motive := fun _ => Int32 → Int32 → Int32 → Value → Int32 → Int32 → Int32 → Int32 → Int32 → (Nat → Int32) → Prop) (fun _ _ _ _ _ _ _ _ _ _ => False) (fun _ k26 => fun (y4_26 : Int32) (y3_26 : Int32) (y2_26 : Int32) (x_read_26 : Value) (x_length_26 : Int32) (x_top_26 : Int32) (x_at_26 : Int32) (x_wrong_26 : Int32) (x_isAsked_26 : Int32) (f_asked_26 : Nat → Int32) => (((42 : Int32) ≤ y4_26 → (p_X8_tell F (y3_26.toInt64) (0 : Int32) f_row (fun (u_150 : (Int32 × (Nat → Int64))) => (Post y2_26 (u_150.1, (0 : Int32), x_read_26, x_length_26, x_top_26, x_at_26, x_wrong_26, x_isAsked_26, f_asked_26, u_150.2))))) ∧ (¬ (42 : Int32) ≤ y4_26 → (p_X8_in F y4_26 (26 : Int32) (29 : Int32) (fun (r_39 : Int32) => ((r_39 = 0 → (p_X8_asks_54 F x_cats q_rule x_ruleSize f_now f_rule r_6 y4_26 y3_26 y2_26 k26 Post F (0 : Int32) (0 : Int32) x_read_26 x_length_26 x_top_26 x_at_26 x_wrong_26 x_isAsked_26 f_asked_26)) ∧ (¬ r_39 = 0 → (p_X8_asks_136 F y4_26 k26 Post y2_26 y3_26 x_read_26 x_length_26 x_top_26 x_at_26 x_wrong_26 x_isAsked_26 f_asked_26)))))))) n
theorem p_X8_asks_26_s (F : Nat) (x_cats : Int32) (q_rule : Nat) (x_ruleSize : Int32) (f_now : Nat → Int32) (f_rule : Nat → Int32) (f_row : Nat → Int64) (r_6 : Int32) (Post : Int32 → (Int32 × Int32 × Value × Int32 × Int32 × Int32 × Int32 × Int32 × (Nat → Int32) × (Nat → Int64)) → Prop) (n : Nat) (y4_26 : Int32) (y3_26 : Int32) (y2_26 : Int32) (x_read_26 : Value) (x_length_26 : Int32) (x_top_26 : Int32) (x_at_26 : Int32) (x_wrong_26 : Int32) (x_isAsked_26 : Int32) (f_asked_26 : Nat → Int32) : p_X8_asks_26 F x_cats q_rule x_ruleSize f_now f_rule f_row r_6 Post (n + 1) y4_26 y3_26 y2_26 x_read_26 x_length_26 x_top_26 x_at_26 x_wrong_26 x_isAsked_26 f_asked_26 = (((42 : Int32) ≤ y4_26 → (p_X8_tell F (y3_26.toInt64) (0 : Int32) f_row (fun (u_150 : (Int32 × (Nat → Int64))) => (Post y2_26 (u_150.1, (0 : Int32), x_read_26, x_length_26, x_top_26, x_at_26, x_wrong_26, x_isAsked_26, f_asked_26, u_150.2))))) ∧ (¬ (42 : Int32) ≤ y4_26 → (p_X8_in F y4_26 (26 : Int32) (29 : Int32) (fun (r_39 : Int32) => ((r_39 = 0 → (p_X8_asks_54 F x_cats q_rule x_ruleSize f_now f_rule r_6 y4_26 y3_26 y2_26 (p_X8_asks_26 F x_cats q_rule x_ruleSize f_now f_rule f_row r_6 Post n) Post F (0 : Int32) (0 : Int32) x_read_26 x_length_26 x_top_26 x_at_26 x_wrong_26 x_isAsked_26 f_asked_26)) ∧ (¬ r_39 = 0 → (p_X8_asks_136 F y4_26 (p_X8_asks_26 F x_cats q_rule x_ruleSize f_now f_rule f_row r_6 Post n) Post y2_26 y3_26 x_read_26 x_length_26 x_top_26 x_at_26 x_wrong_26 x_isAsked_26 f_asked_26))))))) := rfl
def p_X8_asks (F : Nat) (x_cats : Int32) (x_rowMany : Int32) (w_read : Value) (x_length : Int32) (x_top : Int32) (x_at : Int32) (x_wrong : Int32) (q_rule : Nat) (x_ruleSize : Int32) (x_isAsked : Int32) (x_heardMany : Int32) (f_heardOf : Nat → Int32) (f_heardBy : Nat → Int32) (f_now : Nat → Int32) (f_asked : Nat → Int32) (f_rule : Nat → Int32) (f_row : Nat → Int64) (Post : Int32 → (Int32 × Int32 × Value × Int32 × Int32 × Int32 × Int32 × Int32 × (Nat → Int32) × (Nat → Int64)) → Prop) : Prop := (p_X8_suiting F x_cats w_read x_length x_top x_at x_wrong q_rule x_ruleSize x_isAsked x_heardMany f_heardOf f_heardBy f_now f_asked f_rule (fun (r_6 : Int32) (u_6 : (Value × Int32 × Int32 × Int32 × Int32 × Int32 × (Nat → Int32))) => ((¬ r_6 = 0 → (p_X8_asks_26 F x_cats q_rule x_ruleSize f_now f_rule f_row r_6 Post F (0 : Int32) (1000000 : Int32) (-1 : Int32) u_6.1 u_6.2.1 u_6.2.2.1 u_6.2.2.2.1 u_6.2.2.2.2.1 u_6.2.2.2.2.2.1 u_6.2.2.2.2.2.2)) ∧ (r_6 = 0 → (Post (-2 : Int32) (x_rowMany, (0 : Int32), u_6.1, u_6.2.1, u_6.2.2.1, u_6.2.2.2.1, u_6.2.2.2.2.1, u_6.2.2.2.2.2.1, u_6.2.2.2.2.2.2, f_row))))))
set_option maxHeartbeats 4000000 in
set_option maxRecDepth 100000 in
theorem c_X8_asks (l : Launch) (D : va_G) (cT : Nat → ClassId) (F : Nat) (h : Nat) (q_now : Nat) (x_arches : Int32) (x_cats : Int32) (w_text : Value) (x_typed : Int32) (q_row : Nat) (x_rowMany : Int32) (x_thrown : Int32) (w_read : Value) (x_length : Int32) (x_top : Int32) (x_at : Int32) (x_wrong : Int32) (w_told : Value) (q_rule : Nat) (w_otherRule : Value) (x_ruleSize : Int32) (x_isAsked : Int32) (q_asked : Nat) (w_undos : Value) (x_undoMany : Int32) (w_aside : Value) (w_then : Value) (w_hold : Value) (x_dropped : Int32) (w_acts : Value) (w_guarded : Value) (w_train : Value) (x_trolleyEnd : Int32) (w_feltOf : Value) (w_feltBy : Value) (x_feltMany : Int32) (w_many : Value) (q_heardOf : Nat) (q_heardBy : Nat) (x_heardMany : Int32) (w_worth : Value) (x_drawn : Int32) (x_came : Int32) (w_kept : Value) (w_isKept : Value) (w_keptCame : Value) (f_heardOf : Nat → Int32) (f_heardBy : Nat → Int32) (f_now : Nat → Int32) (f_asked : Nat → Int32) (f_rule : Nat → Int32) (f_row : Nat → Int64) (Post : Int32 → (Int32 × Int32 × Value × Int32 × Int32 × Int32 × Int32 × Int32 × (Nat → Int32) × (Nat → Int64)) → Prop) (hg : p_X8_asks F x_cats x_rowMany w_read x_length x_top x_at x_wrong q_rule x_ruleSize x_isAsked x_heardMany f_heardOf f_heardBy f_now f_asked f_rule f_row Post) : MWi l D cT yX8_asks cX8_asks 7 (some .int) 326 10197 0 0 [.ref h] [(h, oX8 (.ref q_now) (.int x_arches) (.int x_cats) w_text (.int x_typed) (.ref q_row) (.int x_rowMany) (.int x_thrown) w_read (.int x_length) (.int x_top) (.int x_at) (.int x_wrong) w_told (.ref q_rule) w_otherRule (.int x_ruleSize) (.int x_isAsked) (.ref q_asked) w_undos (.int x_undoMany) w_aside w_then w_hold (.int x_dropped) w_acts w_guarded w_train (.int x_trolleyEnd) w_feltOf w_feltBy (.int x_feltMany) w_many (.ref q_heardOf) (.ref q_heardBy) (.int x_heardMany) w_worth (.int x_drawn) (.int x_came) w_kept w_isKept w_keptCame), (q_heardOf, aI cT 12 f_heardOf), (q_heardBy, aI cT 12 f_heardBy), (q_now, aI cT 47 f_now), (q_asked, aI cT 7 f_asked), (q_rule, aB cT 40 f_rule), (q_row, aJ cT 16 f_row)] Post (fun (u : (Int32 × Int32 × Value × Int32 × Int32 × Int32 × Int32 × Int32 × (Nat → Int32) × (Nat → Int64))) => [(h, oX8 (.ref q_now) (.int x_arches) (.int x_cats) w_text (.int x_typed) (.ref q_row) (.int u.1) (.int u.2.1) u.2.2.1 (.int u.2.2.2.1) (.int u.2.2.2.2.1) (.int u.2.2.2.2.2.1) (.int u.2.2.2.2.2.2.1) w_told (.ref q_rule) w_otherRule (.int x_ruleSize) (.int u.2.2.2.2.2.2.2.1) (.ref q_asked) w_undos (.int x_undoMany) w_aside w_then w_hold (.int x_dropped) w_acts w_guarded w_train (.int x_trolleyEnd) w_feltOf w_feltBy (.int x_feltMany) w_many (.ref q_heardOf) (.ref q_heardBy) (.int x_heardMany) w_worth (.int x_drawn) (.int x_came) w_kept w_isKept w_keptCame), (q_heardOf, aI cT 12 f_heardOf), (q_heardBy, aI cT 12 f_heardBy), (q_now, aI cT 47 f_now), (q_asked, aI cT 7 u.2.2.2.2.2.2.2.2.1), (q_rule, aB cT 40 f_rule), (q_row, aJ cT 16 u.2.2.2.2.2.2.2.2.2)]) := by
  refine MWi.of (by decide) (Nat.le_of_ble_eq_true rfl) ?_
  intro p e s m below meth c A hA C0 hnm hr hP hD ls hl
  have hl : lv_has ls 7 [(0, .ref h)] := hl
  have hx := C0.x
  have hb := C0.b
  have hS : va_S A s.heap s.heap [] := va_S.rf
  have hP : va_P D cls9 [(h, oX8 (.ref q_now) (.int x_arches) (.int x_cats) w_text (.int x_typed) (.ref q_row) (.int x_rowMany) (.int x_thrown) w_read (.int x_length) (.int x_top) (.int x_at) (.int x_wrong) w_told (.ref q_rule) w_otherRule (.int x_ruleSize) (.int x_isAsked) (.ref q_asked) w_undos (.int x_undoMany) w_aside w_then w_hold (.int x_dropped) w_acts w_guarded w_train (.int x_trolleyEnd) w_feltOf w_feltBy (.int x_feltMany) w_many (.ref q_heardOf) (.ref q_heardBy) (.int x_heardMany) w_worth (.int x_drawn) (.int x_came) w_kept w_isKept w_keptCame), (q_heardOf, aI cT 12 f_heardOf), (q_heardBy, aI cT 12 f_heardBy), (q_now, aI cT 47 f_now), (q_asked, aI cT 7 f_asked), (q_rule, aB cT 40 f_rule), (q_row, aJ cT 16 f_row)] s.heap := hP
  have hD : va_D A [(h, oX8 (.ref q_now) (.int x_arches) (.int x_cats) w_text (.int x_typed) (.ref q_row) (.int x_rowMany) (.int x_thrown) w_read (.int x_length) (.int x_top) (.int x_at) (.int x_wrong) w_told (.ref q_rule) w_otherRule (.int x_ruleSize) (.int x_isAsked) (.ref q_asked) w_undos (.int x_undoMany) w_aside w_then w_hold (.int x_dropped) w_acts w_guarded w_train (.int x_trolleyEnd) w_feltOf w_feltBy (.int x_feltMany) w_many (.ref q_heardOf) (.ref q_heardBy) (.int x_heardMany) w_worth (.int x_drawn) (.int x_came) w_kept w_isKept w_keptCame), (q_heardOf, aI cT 12 f_heardOf), (q_heardBy, aI cT 12 f_heardBy), (q_now, aI cT 47 f_now), (q_asked, aI cT 7 f_asked), (q_rule, aB cT 40 f_rule), (q_row, aJ cT 16 f_row)] := hD
  have L26 : ∀ (r_6 : Int32) (n26 : Nat) (y4_26 : Int32) (y3_26 : Int32) (y2_26 : Int32) (x_read_26 : Value) (x_length_26 : Int32) (x_top_26 : Int32) (x_at_26 : Int32) (x_wrong_26 : Int32) (x_isAsked_26 : Int32) (f_asked_26 : Nat → Int32) (H : Heap) (locs : List Loc) (ls : Array Slot), p_X8_asks_26 F x_cats q_rule x_ruleSize f_now f_rule f_row r_6 Post n26 y4_26 y3_26 y2_26 x_read_26 x_length_26 x_top_26 x_at_26 x_wrong_26 x_isAsked_26 f_asked_26 → va_P D cls9 [(h, oX8 (.ref q_now) (.int x_arches) (.int x_cats) w_text (.int x_typed) (.ref q_row) (.int x_rowMany) (.int (0 : Int32)) x_read_26 (.int x_length_26) (.int x_top_26) (.int x_at_26) (.int x_wrong_26) w_told (.ref q_rule) w_otherRule (.int x_ruleSize) (.int x_isAsked_26) (.ref q_asked) w_undos (.int x_undoMany) w_aside w_then w_hold (.int x_dropped) w_acts w_guarded w_train (.int x_trolleyEnd) w_feltOf w_feltBy (.int x_feltMany) w_many (.ref q_heardOf) (.ref q_heardBy) (.int x_heardMany) w_worth (.int x_drawn) (.int x_came) w_kept w_isKept w_keptCame), (q_heardOf, aI cT 12 f_heardOf), (q_heardBy, aI cT 12 f_heardBy), (q_now, aI cT 47 f_now), (q_asked, aI cT 7 f_asked_26), (q_rule, aB cT 40 f_rule), (q_row, aJ cT 16 f_row)] H → va_D A [(h, oX8 (.ref q_now) (.int x_arches) (.int x_cats) w_text (.int x_typed) (.ref q_row) (.int x_rowMany) (.int (0 : Int32)) x_read_26 (.int x_length_26) (.int x_top_26) (.int x_at_26) (.int x_wrong_26) w_told (.ref q_rule) w_otherRule (.int x_ruleSize) (.int x_isAsked_26) (.ref q_asked) w_undos (.int x_undoMany) w_aside w_then w_hold (.int x_dropped) w_acts w_guarded w_train (.int x_trolleyEnd) w_feltOf w_feltBy (.int x_feltMany) w_many (.ref q_heardOf) (.ref q_heardBy) (.int x_heardMany) w_worth (.int x_drawn) (.int x_came) w_kept w_isKept w_keptCame), (q_heardOf, aI cT 12 f_heardOf), (q_heardBy, aI cT 12 f_heardBy), (q_now, aI cT 47 f_now), (q_asked, aI cT 7 f_asked_26), (q_rule, aB cT 40 f_rule), (q_row, aJ cT 16 f_row)] → va_S A s.heap H locs → lv_has ls 7 [(0, .ref h), (1, .int r_6), (2, .int y2_26), (3, .int y3_26), (4, .int y4_26)] → W p l e (rmO 326 10197 0 0) s m ([.ref h] : List Value).toArray below meth c H locs 0 0 (MQ below (va_Qi Post (cB D A (fun (u : (Int32 × Int32 × Value × Int32 × Int32 × Int32 × Int32 × Int32 × (Nat → Int32) × (Nat → Int64))) => [(h, oX8 (.ref q_now) (.int x_arches) (.int x_cats) w_text (.int x_typed) (.ref q_row) (.int u.1) (.int u.2.1) u.2.2.1 (.int u.2.2.2.1) (.int u.2.2.2.2.1) (.int u.2.2.2.2.2.1) (.int u.2.2.2.2.2.2.1) w_told (.ref q_rule) w_otherRule (.int x_ruleSize) (.int u.2.2.2.2.2.2.2.1) (.ref q_asked) w_undos (.int x_undoMany) w_aside w_then w_hold (.int x_dropped) w_acts w_guarded w_train (.int x_trolleyEnd) w_feltOf w_feltBy (.int x_feltMany) w_many (.ref q_heardOf) (.ref q_heardBy) (.int x_heardMany) w_worth (.int x_drawn) (.int x_came) w_kept w_isKept w_keptCame), (q_heardOf, aI cT 12 f_heardOf), (q_heardBy, aI cT 12 f_heardBy), (q_now, aI cT 47 f_now), (q_asked, aI cT 7 u.2.2.2.2.2.2.2.2.1), (q_rule, aB cT 40 f_rule), (q_row, aJ cT 16 u.2.2.2.2.2.2.2.2.2)])) A) ([.ref h] : List Value).toArray s 0 0 A) (F0 m 26 ls []) := by
    intro r_6 n26
    induction n26 with
    | zero =>
      intro y4_26 y3_26 y2_26 x_read_26 x_length_26 x_top_26 x_at_26 x_wrong_26 x_isAsked_26 f_asked_26 H locs ls hg hP hD hS hl
      exact False.elim hg
    | succ n26 ih26 =>
      have L136 : ∀ (y4_26 : Int32) (y2_136 : Int32) (y3_136 : Int32) (x_read_136 : Value) (x_length_136 : Int32) (x_top_136 : Int32) (x_at_136 : Int32) (x_wrong_136 : Int32) (x_isAsked_136 : Int32) (f_asked_136 : Nat → Int32) (H : Heap) (locs : List Loc) (ls : Array Slot), p_X8_asks_136 F y4_26 (p_X8_asks_26 F x_cats q_rule x_ruleSize f_now f_rule f_row r_6 Post n26) Post y2_136 y3_136 x_read_136 x_length_136 x_top_136 x_at_136 x_wrong_136 x_isAsked_136 f_asked_136 → va_P D cls9 [(h, oX8 (.ref q_now) (.int x_arches) (.int x_cats) w_text (.int x_typed) (.ref q_row) (.int x_rowMany) (.int (0 : Int32)) x_read_136 (.int x_length_136) (.int x_top_136) (.int x_at_136) (.int x_wrong_136) w_told (.ref q_rule) w_otherRule (.int x_ruleSize) (.int x_isAsked_136) (.ref q_asked) w_undos (.int x_undoMany) w_aside w_then w_hold (.int x_dropped) w_acts w_guarded w_train (.int x_trolleyEnd) w_feltOf w_feltBy (.int x_feltMany) w_many (.ref q_heardOf) (.ref q_heardBy) (.int x_heardMany) w_worth (.int x_drawn) (.int x_came) w_kept w_isKept w_keptCame), (q_heardOf, aI cT 12 f_heardOf), (q_heardBy, aI cT 12 f_heardBy), (q_now, aI cT 47 f_now), (q_asked, aI cT 7 f_asked_136), (q_rule, aB cT 40 f_rule), (q_row, aJ cT 16 f_row)] H → va_D A [(h, oX8 (.ref q_now) (.int x_arches) (.int x_cats) w_text (.int x_typed) (.ref q_row) (.int x_rowMany) (.int (0 : Int32)) x_read_136 (.int x_length_136) (.int x_top_136) (.int x_at_136) (.int x_wrong_136) w_told (.ref q_rule) w_otherRule (.int x_ruleSize) (.int x_isAsked_136) (.ref q_asked) w_undos (.int x_undoMany) w_aside w_then w_hold (.int x_dropped) w_acts w_guarded w_train (.int x_trolleyEnd) w_feltOf w_feltBy (.int x_feltMany) w_many (.ref q_heardOf) (.ref q_heardBy) (.int x_heardMany) w_worth (.int x_drawn) (.int x_came) w_kept w_isKept w_keptCame), (q_heardOf, aI cT 12 f_heardOf), (q_heardBy, aI cT 12 f_heardBy), (q_now, aI cT 47 f_now), (q_asked, aI cT 7 f_asked_136), (q_rule, aB cT 40 f_rule), (q_row, aJ cT 16 f_row)] → va_S A s.heap H locs → lv_has ls 7 [(0, .ref h), (1, .int r_6), (2, .int y2_136), (3, .int y3_136), (4, .int y4_26)] → W p l e (rmO 326 10197 0 0) s m ([.ref h] : List Value).toArray below meth c H locs 0 0 (MQ below (va_Qi Post (cB D A (fun (u : (Int32 × Int32 × Value × Int32 × Int32 × Int32 × Int32 × Int32 × (Nat → Int32) × (Nat → Int64))) => [(h, oX8 (.ref q_now) (.int x_arches) (.int x_cats) w_text (.int x_typed) (.ref q_row) (.int u.1) (.int u.2.1) u.2.2.1 (.int u.2.2.2.1) (.int u.2.2.2.2.1) (.int u.2.2.2.2.2.1) (.int u.2.2.2.2.2.2.1) w_told (.ref q_rule) w_otherRule (.int x_ruleSize) (.int u.2.2.2.2.2.2.2.1) (.ref q_asked) w_undos (.int x_undoMany) w_aside w_then w_hold (.int x_dropped) w_acts w_guarded w_train (.int x_trolleyEnd) w_feltOf w_feltBy (.int x_feltMany) w_many (.ref q_heardOf) (.ref q_heardBy) (.int x_heardMany) w_worth (.int x_drawn) (.int x_came) w_kept w_isKept w_keptCame), (q_heardOf, aI cT 12 f_heardOf), (q_heardBy, aI cT 12 f_heardBy), (q_now, aI cT 47 f_now), (q_asked, aI cT 7 u.2.2.2.2.2.2.2.2.1), (q_rule, aB cT 40 f_rule), (q_row, aJ cT 16 u.2.2.2.2.2.2.2.2.2)])) A) ([.ref h] : List Value).toArray s 0 0 A) (F0 m 136 ls []) := by
        intro y4_26 y2_136 y3_136 x_read_136 x_length_136 x_top_136 x_at_136 x_wrong_136 x_isAsked_136 f_asked_136 H locs ls hg hP hD hS hl
        unfold p_X8_asks_136 at hg
        refine lv_iinc (v := (y4_26 + (1 : Int32))) (lv' := [(4, .int (y4_26 + (1 : Int32))), (0, .ref h), (1, .int r_6), (2, .int y2_136), (3, .int y3_136)]) hx hb dX8_asks_136 hl (k := 4) rfl rfl (by decide) rfl (fun ls hl => ?_)
        refine lv_goto (tgt := 26) hx hb dX8_asks_139 (by decide) ?_
        exact ih26 (y4_26 + (1 : Int32)) y3_136 y2_136 x_read_136 x_length_136 x_top_136 x_at_136 x_wrong_136 x_isAsked_136 f_asked_136 _ _ _ hg hP hD hS (lv_sub hl [1, 2, 3, 4, 0] rfl)
      have L54 : ∀ (y4_26 : Int32) (y3_26 : Int32) (y2_26 : Int32) (n54 : Nat) (y6_54 : Int32) (y5_54 : Int32) (x_read_54 : Value) (x_length_54 : Int32) (x_top_54 : Int32) (x_at_54 : Int32) (x_wrong_54 : Int32) (x_isAsked_54 : Int32) (f_asked_54 : Nat → Int32) (H : Heap) (locs : List Loc) (ls : Array Slot), p_X8_asks_54 F x_cats q_rule x_ruleSize f_now f_rule r_6 y4_26 y3_26 y2_26 (p_X8_asks_26 F x_cats q_rule x_ruleSize f_now f_rule f_row r_6 Post n26) Post n54 y6_54 y5_54 x_read_54 x_length_54 x_top_54 x_at_54 x_wrong_54 x_isAsked_54 f_asked_54 → va_P D cls9 [(h, oX8 (.ref q_now) (.int x_arches) (.int x_cats) w_text (.int x_typed) (.ref q_row) (.int x_rowMany) (.int (0 : Int32)) x_read_54 (.int x_length_54) (.int x_top_54) (.int x_at_54) (.int x_wrong_54) w_told (.ref q_rule) w_otherRule (.int x_ruleSize) (.int x_isAsked_54) (.ref q_asked) w_undos (.int x_undoMany) w_aside w_then w_hold (.int x_dropped) w_acts w_guarded w_train (.int x_trolleyEnd) w_feltOf w_feltBy (.int x_feltMany) w_many (.ref q_heardOf) (.ref q_heardBy) (.int x_heardMany) w_worth (.int x_drawn) (.int x_came) w_kept w_isKept w_keptCame), (q_heardOf, aI cT 12 f_heardOf), (q_heardBy, aI cT 12 f_heardBy), (q_now, aI cT 47 f_now), (q_asked, aI cT 7 f_asked_54), (q_rule, aB cT 40 f_rule), (q_row, aJ cT 16 f_row)] H → va_D A [(h, oX8 (.ref q_now) (.int x_arches) (.int x_cats) w_text (.int x_typed) (.ref q_row) (.int x_rowMany) (.int (0 : Int32)) x_read_54 (.int x_length_54) (.int x_top_54) (.int x_at_54) (.int x_wrong_54) w_told (.ref q_rule) w_otherRule (.int x_ruleSize) (.int x_isAsked_54) (.ref q_asked) w_undos (.int x_undoMany) w_aside w_then w_hold (.int x_dropped) w_acts w_guarded w_train (.int x_trolleyEnd) w_feltOf w_feltBy (.int x_feltMany) w_many (.ref q_heardOf) (.ref q_heardBy) (.int x_heardMany) w_worth (.int x_drawn) (.int x_came) w_kept w_isKept w_keptCame), (q_heardOf, aI cT 12 f_heardOf), (q_heardBy, aI cT 12 f_heardBy), (q_now, aI cT 47 f_now), (q_asked, aI cT 7 f_asked_54), (q_rule, aB cT 40 f_rule), (q_row, aJ cT 16 f_row)] → va_S A s.heap H locs → lv_has ls 7 [(0, .ref h), (1, .int r_6), (2, .int y2_26), (3, .int y3_26), (4, .int y4_26), (5, .int y5_54), (6, .int y6_54)] → W p l e (rmO 326 10197 0 0) s m ([.ref h] : List Value).toArray below meth c H locs 0 0 (MQ below (va_Qi Post (cB D A (fun (u : (Int32 × Int32 × Value × Int32 × Int32 × Int32 × Int32 × Int32 × (Nat → Int32) × (Nat → Int64))) => [(h, oX8 (.ref q_now) (.int x_arches) (.int x_cats) w_text (.int x_typed) (.ref q_row) (.int u.1) (.int u.2.1) u.2.2.1 (.int u.2.2.2.1) (.int u.2.2.2.2.1) (.int u.2.2.2.2.2.1) (.int u.2.2.2.2.2.2.1) w_told (.ref q_rule) w_otherRule (.int x_ruleSize) (.int u.2.2.2.2.2.2.2.1) (.ref q_asked) w_undos (.int x_undoMany) w_aside w_then w_hold (.int x_dropped) w_acts w_guarded w_train (.int x_trolleyEnd) w_feltOf w_feltBy (.int x_feltMany) w_many (.ref q_heardOf) (.ref q_heardBy) (.int x_heardMany) w_worth (.int x_drawn) (.int x_came) w_kept w_isKept w_keptCame), (q_heardOf, aI cT 12 f_heardOf), (q_heardBy, aI cT 12 f_heardBy), (q_now, aI cT 47 f_now), (q_asked, aI cT 7 u.2.2.2.2.2.2.2.2.1), (q_rule, aB cT 40 f_rule), (q_row, aJ cT 16 u.2.2.2.2.2.2.2.2.2)])) A) ([.ref h] : List Value).toArray s 0 0 A) (F0 m 54 ls []) := by
        intro y4_26 y3_26 y2_26 n54
        induction n54 with
        | zero =>
          intro y6_54 y5_54 x_read_54 x_length_54 x_top_54 x_at_54 x_wrong_54 x_isAsked_54 f_asked_54 H locs ls hg hP hD hS hl
          exact False.elim hg
        | succ n54 ih54 =>
          have L98 : ∀ (y6_54 : Int32) (y5_54 : Int32) (s1_98 : Int32) (x_read_98 : Value) (x_length_98 : Int32) (x_top_98 : Int32) (x_at_98 : Int32) (x_wrong_98 : Int32) (x_isAsked_98 : Int32) (f_asked_98 : Nat → Int32) (H : Heap) (locs : List Loc) (ls : Array Slot), p_X8_asks_98 F y6_54 y5_54 (p_X8_asks_26 F x_cats q_rule x_ruleSize f_now f_rule f_row r_6 Post n26) (p_X8_asks_54 F x_cats q_rule x_ruleSize f_now f_rule r_6 y4_26 y3_26 y2_26 (p_X8_asks_26 F x_cats q_rule x_ruleSize f_now f_rule f_row r_6 Post n26) Post n54) Post s1_98 x_read_98 x_length_98 x_top_98 x_at_98 x_wrong_98 x_isAsked_98 f_asked_98 → va_P D cls9 [(h, oX8 (.ref q_now) (.int x_arches) (.int x_cats) w_text (.int x_typed) (.ref q_row) (.int x_rowMany) (.int (0 : Int32)) x_read_98 (.int x_length_98) (.int x_top_98) (.int x_at_98) (.int x_wrong_98) w_told (.ref q_rule) w_otherRule (.int x_ruleSize) (.int x_isAsked_98) (.ref q_asked) w_undos (.int x_undoMany) w_aside w_then w_hold (.int x_dropped) w_acts w_guarded w_train (.int x_trolleyEnd) w_feltOf w_feltBy (.int x_feltMany) w_many (.ref q_heardOf) (.ref q_heardBy) (.int x_heardMany) w_worth (.int x_drawn) (.int x_came) w_kept w_isKept w_keptCame), (q_heardOf, aI cT 12 f_heardOf), (q_heardBy, aI cT 12 f_heardBy), (q_now, aI cT 47 f_now), (q_asked, aI cT 7 f_asked_98), (q_rule, aB cT 40 f_rule), (q_row, aJ cT 16 f_row)] H → va_D A [(h, oX8 (.ref q_now) (.int x_arches) (.int x_cats) w_text (.int x_typed) (.ref q_row) (.int x_rowMany) (.int (0 : Int32)) x_read_98 (.int x_length_98) (.int x_top_98) (.int x_at_98) (.int x_wrong_98) w_told (.ref q_rule) w_otherRule (.int x_ruleSize) (.int x_isAsked_98) (.ref q_asked) w_undos (.int x_undoMany) w_aside w_then w_hold (.int x_dropped) w_acts w_guarded w_train (.int x_trolleyEnd) w_feltOf w_feltBy (.int x_feltMany) w_many (.ref q_heardOf) (.ref q_heardBy) (.int x_heardMany) w_worth (.int x_drawn) (.int x_came) w_kept w_isKept w_keptCame), (q_heardOf, aI cT 12 f_heardOf), (q_heardBy, aI cT 12 f_heardBy), (q_now, aI cT 47 f_now), (q_asked, aI cT 7 f_asked_98), (q_rule, aB cT 40 f_rule), (q_row, aJ cT 16 f_row)] → va_S A s.heap H locs → lv_has ls 7 [(0, .ref h), (1, .int r_6), (2, .int y2_26), (3, .int y3_26), (4, .int y4_26), (6, .int y6_54)] → W p l e (rmO 326 10197 0 0) s m ([.ref h] : List Value).toArray below meth c H locs 0 0 (MQ below (va_Qi Post (cB D A (fun (u : (Int32 × Int32 × Value × Int32 × Int32 × Int32 × Int32 × Int32 × (Nat → Int32) × (Nat → Int64))) => [(h, oX8 (.ref q_now) (.int x_arches) (.int x_cats) w_text (.int x_typed) (.ref q_row) (.int u.1) (.int u.2.1) u.2.2.1 (.int u.2.2.2.1) (.int u.2.2.2.2.1) (.int u.2.2.2.2.2.1) (.int u.2.2.2.2.2.2.1) w_told (.ref q_rule) w_otherRule (.int x_ruleSize) (.int u.2.2.2.2.2.2.2.1) (.ref q_asked) w_undos (.int x_undoMany) w_aside w_then w_hold (.int x_dropped) w_acts w_guarded w_train (.int x_trolleyEnd) w_feltOf w_feltBy (.int x_feltMany) w_many (.ref q_heardOf) (.ref q_heardBy) (.int x_heardMany) w_worth (.int x_drawn) (.int x_came) w_kept w_isKept w_keptCame), (q_heardOf, aI cT 12 f_heardOf), (q_heardBy, aI cT 12 f_heardBy), (q_now, aI cT 47 f_now), (q_asked, aI cT 7 u.2.2.2.2.2.2.2.2.1), (q_rule, aB cT 40 f_rule), (q_row, aJ cT 16 u.2.2.2.2.2.2.2.2.2)])) A) ([.ref h] : List Value).toArray s 0 0 A) (F0 m 98 ls [.int s1_98, .int y5_54]) := by
            intro y6_54 y5_54 s1_98 x_read_98 x_length_98 x_top_98 x_at_98 x_wrong_98 x_isAsked_98 f_asked_98 H locs ls hg hP hD hS hl
            unfold p_X8_asks_98 at hg
            refine lv_iadd hx hb dX8_asks_98 ?_
            refine lv_istore (lv' := [(5, .int (y5_54 + s1_98)), (0, .ref h), (1, .int r_6), (2, .int y2_26), (3, .int y3_26), (4, .int y4_26), (6, .int y6_54)]) hx hb dX8_asks_99 hl (by decide) rfl (fun ls hl => ?_)
            refine lv_iinc (v := (y6_54 + (1 : Int32))) (lv' := [(6, .int (y6_54 + (1 : Int32))), (5, .int (y5_54 + s1_98)), (0, .ref h), (1, .int r_6), (2, .int y2_26), (3, .int y3_26), (4, .int y4_26)]) hx hb dX8_asks_101 hl (k := 6) rfl rfl (by decide) rfl (fun ls hl => ?_)
            refine lv_goto (tgt := 54) hx hb dX8_asks_104 (by decide) ?_
            exact ih54 (y6_54 + (1 : Int32)) (y5_54 + s1_98) x_read_98 x_length_98 x_top_98 x_at_98 x_wrong_98 x_isAsked_98 f_asked_98 _ _ _ hg hP hD hS (lv_sub hl [2, 3, 4, 5, 6, 1, 0] rfl)
          have L97 : ∀ (y6_54 : Int32) (y5_54 : Int32) (x_read_97 : Value) (x_length_97 : Int32) (x_top_97 : Int32) (x_at_97 : Int32) (x_wrong_97 : Int32) (x_isAsked_97 : Int32) (f_asked_97 : Nat → Int32) (H : Heap) (locs : List Loc) (ls : Array Slot), p_X8_asks_97 F y6_54 y5_54 (p_X8_asks_26 F x_cats q_rule x_ruleSize f_now f_rule f_row r_6 Post n26) (p_X8_asks_54 F x_cats q_rule x_ruleSize f_now f_rule r_6 y4_26 y3_26 y2_26 (p_X8_asks_26 F x_cats q_rule x_ruleSize f_now f_rule f_row r_6 Post n26) Post n54) Post x_read_97 x_length_97 x_top_97 x_at_97 x_wrong_97 x_isAsked_97 f_asked_97 → va_P D cls9 [(h, oX8 (.ref q_now) (.int x_arches) (.int x_cats) w_text (.int x_typed) (.ref q_row) (.int x_rowMany) (.int (0 : Int32)) x_read_97 (.int x_length_97) (.int x_top_97) (.int x_at_97) (.int x_wrong_97) w_told (.ref q_rule) w_otherRule (.int x_ruleSize) (.int x_isAsked_97) (.ref q_asked) w_undos (.int x_undoMany) w_aside w_then w_hold (.int x_dropped) w_acts w_guarded w_train (.int x_trolleyEnd) w_feltOf w_feltBy (.int x_feltMany) w_many (.ref q_heardOf) (.ref q_heardBy) (.int x_heardMany) w_worth (.int x_drawn) (.int x_came) w_kept w_isKept w_keptCame), (q_heardOf, aI cT 12 f_heardOf), (q_heardBy, aI cT 12 f_heardBy), (q_now, aI cT 47 f_now), (q_asked, aI cT 7 f_asked_97), (q_rule, aB cT 40 f_rule), (q_row, aJ cT 16 f_row)] H → va_D A [(h, oX8 (.ref q_now) (.int x_arches) (.int x_cats) w_text (.int x_typed) (.ref q_row) (.int x_rowMany) (.int (0 : Int32)) x_read_97 (.int x_length_97) (.int x_top_97) (.int x_at_97) (.int x_wrong_97) w_told (.ref q_rule) w_otherRule (.int x_ruleSize) (.int x_isAsked_97) (.ref q_asked) w_undos (.int x_undoMany) w_aside w_then w_hold (.int x_dropped) w_acts w_guarded w_train (.int x_trolleyEnd) w_feltOf w_feltBy (.int x_feltMany) w_many (.ref q_heardOf) (.ref q_heardBy) (.int x_heardMany) w_worth (.int x_drawn) (.int x_came) w_kept w_isKept w_keptCame), (q_heardOf, aI cT 12 f_heardOf), (q_heardBy, aI cT 12 f_heardBy), (q_now, aI cT 47 f_now), (q_asked, aI cT 7 f_asked_97), (q_rule, aB cT 40 f_rule), (q_row, aJ cT 16 f_row)] → va_S A s.heap H locs → lv_has ls 7 [(0, .ref h), (1, .int r_6), (2, .int y2_26), (3, .int y3_26), (4, .int y4_26), (6, .int y6_54)] → W p l e (rmO 326 10197 0 0) s m ([.ref h] : List Value).toArray below meth c H locs 0 0 (MQ below (va_Qi Post (cB D A (fun (u : (Int32 × Int32 × Value × Int32 × Int32 × Int32 × Int32 × Int32 × (Nat → Int32) × (Nat → Int64))) => [(h, oX8 (.ref q_now) (.int x_arches) (.int x_cats) w_text (.int x_typed) (.ref q_row) (.int u.1) (.int u.2.1) u.2.2.1 (.int u.2.2.2.1) (.int u.2.2.2.2.1) (.int u.2.2.2.2.2.1) (.int u.2.2.2.2.2.2.1) w_told (.ref q_rule) w_otherRule (.int x_ruleSize) (.int u.2.2.2.2.2.2.2.1) (.ref q_asked) w_undos (.int x_undoMany) w_aside w_then w_hold (.int x_dropped) w_acts w_guarded w_train (.int x_trolleyEnd) w_feltOf w_feltBy (.int x_feltMany) w_many (.ref q_heardOf) (.ref q_heardBy) (.int x_heardMany) w_worth (.int x_drawn) (.int x_came) w_kept w_isKept w_keptCame), (q_heardOf, aI cT 12 f_heardOf), (q_heardBy, aI cT 12 f_heardBy), (q_now, aI cT 47 f_now), (q_asked, aI cT 7 u.2.2.2.2.2.2.2.2.1), (q_rule, aB cT 40 f_rule), (q_row, aJ cT 16 u.2.2.2.2.2.2.2.2.2)])) A) ([.ref h] : List Value).toArray s 0 0 A) (F0 m 97 ls [.int y5_54]) := by
            intro y6_54 y5_54 x_read_97 x_length_97 x_top_97 x_at_97 x_wrong_97 x_isAsked_97 f_asked_97 H locs ls hg hP hD hS hl
            unfold p_X8_asks_97 at hg
            refine lv_iconst (v := (0 : Int32)) hx hb dX8_asks_97 (by decide) ?_
            exact L98 y6_54 y5_54 (0 : Int32) x_read_97 x_length_97 x_top_97 x_at_97 x_wrong_97 x_isAsked_97 f_asked_97 _ _ _ hg hP hD hS hl
          intro y6_54 y5_54 x_read_54 x_length_54 x_top_54 x_at_54 x_wrong_54 x_isAsked_54 f_asked_54 H locs ls hg hP hD hS hl
          rw [p_X8_asks_54_s] at hg
          refine lv_iload hx hb dX8_asks_54 (lv_at hl 6 rfl) ?_
          refine lv_aload_n hx hb dX8_asks_56 rfl (lv_at hl 0 rfl) ?_
          refine gf_X8_96 C0 hP 0 rfl rfl dX8_asks_57 ?_
          refine lv_icmp_ge (tgt := 107) hx hb dX8_asks_60 (by decide) (fun c_60 => ?_) (fun c_60 => ?_)
          · have hg := hg.1 c_60
            refine lv_iload hx hb dX8_asks_107 (lv_at hl 5 rfl) ?_
            refine lv_iload_n hx hb dX8_asks_109 rfl (lv_at hl 1 rfl) ?_
            refine k_Sxi (rest := [.int y5_54]) C0 lk_X8_202 (c_J6_bitCount_0f7a4 l D cT F r_6 _ hg) hP hD hS hA [] (by decide +kernel) rfl ⟨Nat.le_of_ble_eq_true rfl, Nat.le_of_ble_eq_true rfl⟩ rfl hl.1 rfl (Nat.le_of_ble_eq_true rfl) dX8_asks_110 ⟨Nat.le_of_ble_eq_true rfl, Nat.le_of_ble_eq_true rfl⟩ (fun r_110 hg => ?_)
            refine lv_iload hx hb dX8_asks_113 (lv_at hl 5 rfl) ?_
            refine lv_isub hx hb dX8_asks_115 ?_
            refine k_max C0 w5_185 hl.1 (Nat.le_of_ble_eq_true rfl) (Nat.le_of_ble_eq_true rfl) (Nat.le_of_ble_eq_true rfl) (Nat.le_of_ble_eq_true rfl) dX8_asks_116 ?_
            refine lv_istore (lv' := [(6, .int (if y5_54 < (r_110 - y5_54) then (r_110 - y5_54) else y5_54)), (0, .ref h), (1, .int r_6), (2, .int y2_26), (3, .int y3_26), (4, .int y4_26), (5, .int y5_54)]) hx hb dX8_asks_119 hl (by decide) rfl (fun ls hl => ?_)
            refine lv_iload hx hb dX8_asks_121 (lv_at hl 0 rfl) ?_
            refine lv_iload_n hx hb dX8_asks_123 rfl (lv_at hl 4 rfl) ?_
            refine lv_icmp_lt (tgt := 130) hx hb dX8_asks_124 (by decide) (fun c_124 => ?_) (fun c_124 => ?_)
            · have hg := hg.1 c_124
              refine lv_iload hx hb dX8_asks_130 (lv_at hl 5 rfl) ?_
              refine lv_istore_n (lv' := [(2, .int y4_26), (6, .int (if y5_54 < (r_110 - y5_54) then (r_110 - y5_54) else y5_54)), (0, .ref h), (1, .int r_6), (3, .int y3_26), (4, .int y4_26), (5, .int y5_54)]) hx hb dX8_asks_132 rfl hl (by decide) rfl (fun ls hl => ?_)
              refine lv_iload hx hb dX8_asks_133 (lv_at hl 1 rfl) ?_
              refine lv_istore_n (lv' := [(3, .int (if y5_54 < (r_110 - y5_54) then (r_110 - y5_54) else y5_54)), (2, .int y4_26), (6, .int (if y5_54 < (r_110 - y5_54) then (r_110 - y5_54) else y5_54)), (0, .ref h), (1, .int r_6), (4, .int y4_26), (5, .int y5_54)]) hx hb dX8_asks_135 rfl hl (by decide) rfl (fun ls hl => ?_)
              exact L136 y4_26 y4_26 (if y5_54 < (r_110 - y5_54) then (r_110 - y5_54) else y5_54) x_read_54 x_length_54 x_top_54 x_at_54 x_wrong_54 x_isAsked_54 f_asked_54 _ _ _ hg hP hD hS (lv_sub hl [3, 4, 1, 0, 5] rfl)
            have hg := hg.2 c_124
            refine lv_goto (tgt := 136) hx hb dX8_asks_127 (by decide) ?_
            exact L136 y4_26 y2_26 y3_26 x_read_54 x_length_54 x_top_54 x_at_54 x_wrong_54 x_isAsked_54 f_asked_54 _ _ _ hg hP hD hS (lv_sub hl [1, 2, 3, 4, 5] rfl)
          have hg := hg.2 c_60
          refine lv_iload hx hb dX8_asks_63 (lv_at hl 5 rfl) ?_
          refine lv_iload_n hx hb dX8_asks_65 rfl (lv_at hl 1 rfl) ?_
          refine lv_iload hx hb dX8_asks_66 (lv_at hl 6 rfl) ?_
          refine k_Sxi (rest := [.int y5_54]) C0 lk_X8_292 (c_X8_has l D cT F r_6 y6_54 _ hg) hP hD hS hA [] (by decide +kernel) rfl ⟨Nat.le_of_ble_eq_true rfl, Nat.le_of_ble_eq_true rfl⟩ rfl hl.1 rfl (Nat.le_of_ble_eq_true rfl) dX8_asks_68 ⟨Nat.le_of_ble_eq_true rfl, Nat.le_of_ble_eq_true rfl⟩ (fun r_68 hg => ?_)
          refine lv_if_eq (tgt := 97) hx hb dX8_asks_71 (by decide) (fun c_71 => ?_) (fun c_71 => ?_)
          · have hg := hg.1 c_71
            exact L97 y6_54 y5_54 x_read_54 x_length_54 x_top_54 x_at_54 x_wrong_54 x_isAsked_54 f_asked_54 _ _ _ hg hP hD hS (lv_sub hl [0, 1, 2, 3, 4, 6] rfl)
          have hg := hg.2 c_71
          refine lv_aload_n hx hb dX8_asks_74 rfl (lv_at hl 0 rfl) ?_
          refine lv_iload hx hb dX8_asks_75 (lv_at hl 6 rfl) ?_
          refine lv_iload hx hb dX8_asks_77 (lv_at hl 4 rfl) ?_
          refine lv_bipush (v := (10 : Int32)) hx hb dX8_asks_79 (by decide) ?_
          obtain ⟨g_81, hg⟩ := hg
          refine lv_idiv hx hb dX8_asks_81 g_81 ?_
          refine lv_iload hx hb dX8_asks_82 (lv_at hl 4 rfl) ?_
          refine lv_bipush (v := (10 : Int32)) hx hb dX8_asks_84 (by decide) ?_
          obtain ⟨g_86, hg⟩ := hg
          refine lv_irem hx hb dX8_asks_86 g_86 ?_
          refine k_Vi (rest := [.int y5_54]) (wr := [(q_heardOf, aI cT 12 f_heardOf), (q_heardBy, aI cT 12 f_heardBy), (q_row, aJ cT 16 f_row)]) (w2 := fun u_87 => [(q_heardOf, aI cT 12 f_heardOf), (q_heardBy, aI cT 12 f_heardBy), (q_row, aJ cT 16 f_row), (h, oX8 (.ref q_now) (.int x_arches) (.int x_cats) w_text (.int x_typed) (.ref q_row) (.int x_rowMany) (.int (0 : Int32)) u_87.1 (.int u_87.2.1) (.int u_87.2.2.1) (.int u_87.2.2.2.1) (.int u_87.2.2.2.2.1) w_told (.ref q_rule) w_otherRule (.int x_ruleSize) (.int u_87.2.2.2.2.2.1) (.ref q_asked) w_undos (.int x_undoMany) w_aside w_then w_hold (.int x_dropped) w_acts w_guarded w_train (.int x_trolleyEnd) w_feltOf w_feltBy (.int x_feltMany) w_many (.ref q_heardOf) (.ref q_heardBy) (.int x_heardMany) w_worth (.int x_drawn) (.int x_came) w_kept w_isKept w_keptCame), (q_now, aI cT 47 f_now), (q_asked, aI cT 7 u_87.2.2.2.2.2.2), (q_rule, aB cT 40 f_rule)]) C0 lk_X8_344 (c_X8_isSo l D cT F h y6_54 (y4_26 / (10 : Int32)) (y4_26 - y4_26 / (10 : Int32) * (10 : Int32)) q_now x_arches x_cats w_text x_typed (.ref q_row) x_rowMany (0 : Int32) x_read_54 x_length_54 x_top_54 x_at_54 x_wrong_54 w_told q_rule w_otherRule x_ruleSize x_isAsked_54 q_asked w_undos x_undoMany w_aside w_then w_hold x_dropped w_acts w_guarded w_train x_trolleyEnd w_feltOf w_feltBy x_feltMany w_many (.ref q_heardOf) (.ref q_heardBy) x_heardMany w_worth x_drawn x_came w_kept w_isKept w_keptCame f_now f_asked_54 f_rule _ hg) hP hD hS hA [0, 3, 4, 5] [1, 2, 6] (by decide +kernel) rfl rfl (fun _ => rfl) rfl rfl ⟨Nat.le_of_ble_eq_true rfl, Nat.le_of_ble_eq_true rfl⟩ rfl hl.1 rfl (Nat.le_of_ble_eq_true rfl) dX8_asks_87 ⟨Nat.le_of_ble_eq_true rfl, Nat.le_of_ble_eq_true rfl⟩ ?_
          intro r_87 u_87 H locs hg hP hD hS
          refine lv_if_eq (tgt := 97) hx hb dX8_asks_90 (by decide) (fun c_90 => ?_) (fun c_90 => ?_)
          · have hg := hg.1 c_90
            exact L97 y6_54 y5_54 u_87.1 u_87.2.1 u_87.2.2.1 u_87.2.2.2.1 u_87.2.2.2.2.1 u_87.2.2.2.2.2.1 u_87.2.2.2.2.2.2 _ _ _ hg (subP hP [3, 0, 1, 4, 5, 6, 2] rfl) (hD.sub [3, 0, 1, 4, 5, 6, 2] (nd2_ok _ (by decide +kernel)) rfl) hS (lv_sub hl [0, 1, 2, 3, 4, 6] rfl)
          have hg := hg.2 c_90
          refine lv_iconst (v := (1 : Int32)) hx hb dX8_asks_93 (by decide) ?_
          refine lv_goto (tgt := 98) hx hb dX8_asks_94 (by decide) ?_
          exact L98 y6_54 y5_54 (1 : Int32) u_87.1 u_87.2.1 u_87.2.2.1 u_87.2.2.2.1 u_87.2.2.2.2.1 u_87.2.2.2.2.2.1 u_87.2.2.2.2.2.2 _ _ _ hg (subP hP [3, 0, 1, 4, 5, 6, 2] rfl) (hD.sub [3, 0, 1, 4, 5, 6, 2] (nd2_ok _ (by decide +kernel)) rfl) hS (lv_sub hl [0, 1, 2, 3, 4, 6] rfl)
      intro y4_26 y3_26 y2_26 x_read_26 x_length_26 x_top_26 x_at_26 x_wrong_26 x_isAsked_26 f_asked_26 H locs ls hg hP hD hS hl
      rw [p_X8_asks_26_s] at hg
      refine lv_iload hx hb dX8_asks_26 (lv_at hl 4 rfl) ?_
      refine lv_bipush (v := (42 : Int32)) hx hb dX8_asks_28 (by decide) ?_
      refine lv_icmp_ge (tgt := 142) hx hb dX8_asks_30 (by decide) (fun c_30 => ?_) (fun c_30 => ?_)
      · have hg := hg.1 c_30
        refine lv_aload_n hx hb dX8_asks_142 rfl (lv_at hl 0 rfl) ?_
        refine lv_iconst (v := (0 : Int32)) hx hb dX8_asks_143 (by decide) ?_
        refine pf_X8_86 C0 hP hD hS 0 rfl (Nat.le_of_ble_eq_true rfl) (ws2 := [(h, oX8 (.ref q_now) (.int x_arches) (.int x_cats) w_text (.int x_typed) (.ref q_row) (.int (0 : Int32)) (.int (0 : Int32)) x_read_26 (.int x_length_26) (.int x_top_26) (.int x_at_26) (.int x_wrong_26) w_told (.ref q_rule) w_otherRule (.int x_ruleSize) (.int x_isAsked_26) (.ref q_asked) w_undos (.int x_undoMany) w_aside w_then w_hold (.int x_dropped) w_acts w_guarded w_train (.int x_trolleyEnd) w_feltOf w_feltBy (.int x_feltMany) w_many (.ref q_heardOf) (.ref q_heardBy) (.int x_heardMany) w_worth (.int x_drawn) (.int x_came) w_kept w_isKept w_keptCame), (q_heardOf, aI cT 12 f_heardOf), (q_heardBy, aI cT 12 f_heardBy), (q_now, aI cT 47 f_now), (q_asked, aI cT 7 f_asked_26), (q_rule, aB cT 40 f_rule), (q_row, aJ cT 16 f_row)]) rfl dX8_asks_144 (fun H locs hP hD hS => ?_)
        refine lv_aload_n hx hb dX8_asks_147 rfl (lv_at hl 0 rfl) ?_
        refine lv_iload_n hx hb dX8_asks_148 rfl (lv_at hl 3 rfl) ?_
        refine lv_i2l (v := (y3_26.toInt64)) hx hb dX8_asks_149 rfl ?_
        refine k_Vv (rest := []) (wr := [(q_heardOf, aI cT 12 f_heardOf), (q_heardBy, aI cT 12 f_heardBy), (q_now, aI cT 47 f_now), (q_asked, aI cT 7 f_asked_26), (q_rule, aB cT 40 f_rule)]) (w2 := fun u_150 => [(q_heardOf, aI cT 12 f_heardOf), (q_heardBy, aI cT 12 f_heardBy), (q_now, aI cT 47 f_now), (q_asked, aI cT 7 f_asked_26), (q_rule, aB cT 40 f_rule), (h, oX8 (.ref q_now) (.int x_arches) (.int x_cats) w_text (.int x_typed) (.ref q_row) (.int u_150.1) (.int (0 : Int32)) x_read_26 (.int x_length_26) (.int x_top_26) (.int x_at_26) (.int x_wrong_26) w_told (.ref q_rule) w_otherRule (.int x_ruleSize) (.int x_isAsked_26) (.ref q_asked) w_undos (.int x_undoMany) w_aside w_then w_hold (.int x_dropped) w_acts w_guarded w_train (.int x_trolleyEnd) w_feltOf w_feltBy (.int x_feltMany) w_many (.ref q_heardOf) (.ref q_heardBy) (.int x_heardMany) w_worth (.int x_drawn) (.int x_came) w_kept w_isKept w_keptCame), (q_row, aJ cT 16 u_150.2)]) C0 lk_X8_249 (c_X8_tell l D cT F h (y3_26.toInt64) (.ref q_now) x_arches x_cats w_text x_typed q_row (0 : Int32) (0 : Int32) x_read_26 x_length_26 x_top_26 x_at_26 x_wrong_26 w_told (.ref q_rule) w_otherRule x_ruleSize x_isAsked_26 (.ref q_asked) w_undos x_undoMany w_aside w_then w_hold x_dropped w_acts w_guarded w_train x_trolleyEnd w_feltOf w_feltBy x_feltMany w_many (.ref q_heardOf) (.ref q_heardBy) x_heardMany w_worth x_drawn x_came w_kept w_isKept w_keptCame f_row _ hg) hP hD hS hA [0, 6] [1, 2, 3, 4, 5] (by decide +kernel) rfl rfl (fun _ => rfl) rfl rfl ⟨Nat.le_of_ble_eq_true rfl, Nat.le_of_ble_eq_true rfl⟩ rfl hl.1 rfl (Nat.le_of_ble_eq_true rfl) dX8_asks_150 ⟨Nat.le_of_ble_eq_true rfl, Nat.le_of_ble_eq_true rfl⟩ ?_
        intro u_150 H locs hg hP hD hS
        refine lv_iload_n hx hb dX8_asks_153 rfl (lv_at hl 2 rfl) ?_
        exact k_iret C0 hr (u_150.1, (0 : Int32), x_read_26, x_length_26, x_top_26, x_at_26, x_wrong_26, x_isAsked_26, f_asked_26, u_150.2) hg (subP hP [5, 0, 1, 2, 3, 4, 6] rfl) (hD.sub [5, 0, 1, 2, 3, 4, 6] (nd2_ok _ (by decide +kernel)) rfl) hS dX8_asks_154
      have hg := hg.2 c_30
      refine lv_iload hx hb dX8_asks_33 (lv_at hl 4 rfl) ?_
      refine lv_bipush (v := (26 : Int32)) hx hb dX8_asks_35 (by decide) ?_
      refine lv_bipush (v := (29 : Int32)) hx hb dX8_asks_37 (by decide) ?_
      refine k_Sxi (rest := []) C0 lk_X8_92 (c_X8_in l D cT F y4_26 (26 : Int32) (29 : Int32) _ hg) hP hD hS hA [] (by decide +kernel) rfl ⟨Nat.le_of_ble_eq_true rfl, Nat.le_of_ble_eq_true rfl⟩ rfl hl.1 rfl (Nat.le_of_ble_eq_true rfl) dX8_asks_39 ⟨Nat.le_of_ble_eq_true rfl, Nat.le_of_ble_eq_true rfl⟩ (fun r_39 hg => ?_)
      refine lv_if_eq (tgt := 48) hx hb dX8_asks_42 (by decide) (fun c_42 => ?_) (fun c_42 => ?_)
      · have hg := hg.1 c_42
        refine lv_iconst (v := (0 : Int32)) hx hb dX8_asks_48 (by decide) ?_
        refine lv_istore (lv' := [(5, .int (0 : Int32)), (0, .ref h), (1, .int r_6), (2, .int y2_26), (3, .int y3_26), (4, .int y4_26)]) hx hb dX8_asks_49 hl (by decide) rfl (fun ls hl => ?_)
        refine lv_iconst (v := (0 : Int32)) hx hb dX8_asks_51 (by decide) ?_
        refine lv_istore (lv' := [(6, .int (0 : Int32)), (5, .int (0 : Int32)), (0, .ref h), (1, .int r_6), (2, .int y2_26), (3, .int y3_26), (4, .int y4_26)]) hx hb dX8_asks_52 hl (by decide) rfl (fun ls hl => ?_)
        exact L54 y4_26 y3_26 y2_26 F (0 : Int32) (0 : Int32) x_read_26 x_length_26 x_top_26 x_at_26 x_wrong_26 x_isAsked_26 f_asked_26 _ _ _ hg hP hD hS (lv_sub hl [2, 3, 4, 5, 6, 1, 0] rfl)
      have hg := hg.2 c_42
      refine lv_goto (tgt := 136) hx hb dX8_asks_45 (by decide) ?_
      exact L136 y4_26 y2_26 y3_26 x_read_26 x_length_26 x_top_26 x_at_26 x_wrong_26 x_isAsked_26 f_asked_26 _ _ _ hg hP hD hS hl
  unfold p_X8_asks at hg
  refine lv_aload_n hx hb dX8_asks_0 rfl (lv_at hl 0 rfl) ?_
  refine lv_iconst (v := (0 : Int32)) hx hb dX8_asks_1 (by decide) ?_
  refine pf_X8_82 C0 hP hD hS 0 rfl (Nat.le_of_ble_eq_true rfl) (ws2 := [(h, oX8 (.ref q_now) (.int x_arches) (.int x_cats) w_text (.int x_typed) (.ref q_row) (.int x_rowMany) (.int (0 : Int32)) w_read (.int x_length) (.int x_top) (.int x_at) (.int x_wrong) w_told (.ref q_rule) w_otherRule (.int x_ruleSize) (.int x_isAsked) (.ref q_asked) w_undos (.int x_undoMany) w_aside w_then w_hold (.int x_dropped) w_acts w_guarded w_train (.int x_trolleyEnd) w_feltOf w_feltBy (.int x_feltMany) w_many (.ref q_heardOf) (.ref q_heardBy) (.int x_heardMany) w_worth (.int x_drawn) (.int x_came) w_kept w_isKept w_keptCame), (q_heardOf, aI cT 12 f_heardOf), (q_heardBy, aI cT 12 f_heardBy), (q_now, aI cT 47 f_now), (q_asked, aI cT 7 f_asked), (q_rule, aB cT 40 f_rule), (q_row, aJ cT 16 f_row)]) rfl dX8_asks_2 (fun H locs hP hD hS => ?_)
  refine lv_aload_n hx hb dX8_asks_5 rfl (lv_at hl 0 rfl) ?_
  refine k_Vi (rest := []) (wr := [(q_row, aJ cT 16 f_row)]) (w2 := fun u_6 => [(q_row, aJ cT 16 f_row), (h, oX8 (.ref q_now) (.int x_arches) (.int x_cats) w_text (.int x_typed) (.ref q_row) (.int x_rowMany) (.int (0 : Int32)) u_6.1 (.int u_6.2.1) (.int u_6.2.2.1) (.int u_6.2.2.2.1) (.int u_6.2.2.2.2.1) w_told (.ref q_rule) w_otherRule (.int x_ruleSize) (.int u_6.2.2.2.2.2.1) (.ref q_asked) w_undos (.int x_undoMany) w_aside w_then w_hold (.int x_dropped) w_acts w_guarded w_train (.int x_trolleyEnd) w_feltOf w_feltBy (.int x_feltMany) w_many (.ref q_heardOf) (.ref q_heardBy) (.int x_heardMany) w_worth (.int x_drawn) (.int x_came) w_kept w_isKept w_keptCame), (q_heardOf, aI cT 12 f_heardOf), (q_heardBy, aI cT 12 f_heardBy), (q_now, aI cT 47 f_now), (q_asked, aI cT 7 u_6.2.2.2.2.2.2), (q_rule, aB cT 40 f_rule)]) C0 lk_X8_347 (c_X8_suiting l D cT F h q_now x_arches x_cats w_text x_typed (.ref q_row) x_rowMany (0 : Int32) w_read x_length x_top x_at x_wrong w_told q_rule w_otherRule x_ruleSize x_isAsked q_asked w_undos x_undoMany w_aside w_then w_hold x_dropped w_acts w_guarded w_train x_trolleyEnd w_feltOf w_feltBy x_feltMany w_many q_heardOf q_heardBy x_heardMany w_worth x_drawn x_came w_kept w_isKept w_keptCame f_heardOf f_heardBy f_now f_asked f_rule _ hg) hP hD hS hA [0, 1, 2, 3, 4, 5] [6] (by decide +kernel) rfl rfl (fun _ => rfl) rfl rfl ⟨Nat.le_of_ble_eq_true rfl, Nat.le_of_ble_eq_true rfl⟩ rfl hl.1 rfl (Nat.le_of_ble_eq_true rfl) dX8_asks_6 ⟨Nat.le_of_ble_eq_true rfl, Nat.le_of_ble_eq_true rfl⟩ ?_
  intro r_6 u_6 H locs hg hP hD hS
  refine lv_istore_n (lv' := [(1, .int r_6), (0, .ref h)]) hx hb dX8_asks_9 rfl hl (by decide) rfl (fun ls hl => ?_)
  refine lv_iload_n hx hb dX8_asks_10 rfl (lv_at hl 0 rfl) ?_
  refine lv_if_ne (tgt := 17) hx hb dX8_asks_11 (by decide) (fun c_11 => ?_) (fun c_11 => ?_)
  · have hg := hg.1 c_11
    refine lv_iconst (v := (-1 : Int32)) hx hb dX8_asks_17 (by decide) ?_
    refine lv_istore_n (lv' := [(2, .int (-1 : Int32)), (1, .int r_6), (0, .ref h)]) hx hb dX8_asks_18 rfl hl (by decide) rfl (fun ls hl => ?_)
    refine lv_ldcw (v := (1000000 : Int32)) hx hb C0.ow (C0.t w6_90) dX8_asks_19 ?_
    refine lv_istore_n (lv' := [(3, .int (1000000 : Int32)), (2, .int (-1 : Int32)), (1, .int r_6), (0, .ref h)]) hx hb dX8_asks_22 rfl hl (by decide) rfl (fun ls hl => ?_)
    refine lv_iconst (v := (0 : Int32)) hx hb dX8_asks_23 (by decide) ?_
    refine lv_istore (lv' := [(4, .int (0 : Int32)), (3, .int (1000000 : Int32)), (2, .int (-1 : Int32)), (1, .int r_6), (0, .ref h)]) hx hb dX8_asks_24 hl (by decide) rfl (fun ls hl => ?_)
    exact L26 r_6 F (0 : Int32) (1000000 : Int32) (-1 : Int32) u_6.1 u_6.2.1 u_6.2.2.1 u_6.2.2.2.1 u_6.2.2.2.2.1 u_6.2.2.2.2.2.1 u_6.2.2.2.2.2.2 _ _ _ hg (subP hP [1, 2, 3, 4, 5, 6, 0] rfl) (hD.sub [1, 2, 3, 4, 5, 6, 0] (nd2_ok _ (by decide +kernel)) rfl) hS (lv_sub hl [4, 3, 2, 1, 0] rfl)
  have hg := hg.2 c_11
  refine lv_bipush (v := (-2 : Int32)) hx hb dX8_asks_14 (by decide) ?_
  exact k_iret C0 hr (x_rowMany, (0 : Int32), u_6.1, u_6.2.1, u_6.2.2.1, u_6.2.2.2.1, u_6.2.2.2.2.1, u_6.2.2.2.2.2.1, u_6.2.2.2.2.2.2, f_row) hg (subP hP [1, 2, 3, 4, 5, 6, 0] rfl) (hD.sub [1, 2, 3, 4, 5, 6, 0] (nd2_ok _ (by decide +kernel)) rfl) hS dX8_asks_16
theorem dX8_common_0 : decode cX8_common 0 = .ok (.lload_n 2, 1) := by decide +kernel
theorem dX8_common_1 : decode cX8_common 1 = .ok (.lconst 0, 1) := by decide +kernel
theorem dX8_common_2 : decode cX8_common 2 = .ok (.lcmp, 1) := by decide +kernel
theorem dX8_common_3 : decode cX8_common 3 = .ok (.ifCond .ne 7, 3) := by decide +kernel
theorem dX8_common_6 : decode cX8_common 6 = .ok (.lload_n 0, 1) := by decide +kernel
theorem dX8_common_7 : decode cX8_common 7 = .ok (.goto 10, 3) := by decide +kernel
theorem dX8_common_10 : decode cX8_common 10 = .ok (.lload_n 2, 1) := by decide +kernel
theorem dX8_common_11 : decode cX8_common 11 = .ok (.lload_n 0, 1) := by decide +kernel
theorem dX8_common_12 : decode cX8_common 12 = .ok (.lload_n 2, 1) := by decide +kernel
theorem dX8_common_13 : decode cX8_common 13 = .ok (.lrem, 1) := by decide +kernel
theorem dX8_common_14 : decode cX8_common 14 = .ok (.invokestatic 350, 3) := by decide +kernel
theorem dX8_common_17 : decode cX8_common 17 = .ok (.lreturn, 1) := by decide +kernel
def p_X8_commonB (F : Nat) (T : Int64 → Int64 → (Int64 → Prop) → Prop) (p0 : Int64) (p2 : Int64) (Post : Int64 → Prop) : Prop := ((¬ (lg_cmp p2 (0 : Int64)) = 0 → (¬ p2 = 0 ∧ (T p2 (p0 - p0 / p2 * p2) (fun (r_14 : Int64) => (Post r_14))))) ∧ ((lg_cmp p2 (0 : Int64)) = 0 → (Post p0)))
set_option maxHeartbeats 4000000 in
set_option maxRecDepth 100000 in
theorem c_X8_commonB (l : Launch) (D : va_G) (cT : Nat → ClassId) (F : Nat) (T : Int64 → Int64 → (Int64 → Prop) → Prop) (fT lT : Nat) (hT : ∀ (p0 p2 : Int64) (Post : Int64 → Prop) (hg : T p0 p2 Post), MRl l D cT yX8_common cX8_common 4 (some .long) fT lT [.long p0, .long p2] [] Post) (p0 : Int64) (p2 : Int64) (Post : Int64 → Prop) (hg : p_X8_commonB F T p0 p2 Post) : MRl l D cT yX8_common cX8_common 4 (some .long) (fT + 1) (lT + 30) [.long p0, .long p2] [] Post := by
  refine MRl.of (by decide) (Nat.le_of_ble_eq_true rfl) ?_
  intro p e s m below meth c hA C0 hr hP hD hS ls hl
  have hl : lv_has ls 4 [(0, .long p0), (2, .long p2)] := hl
  have hx := C0.x
  have hb := C0.b
  have hP : va_P D cls9 [] s.heap := hP
  have hD : va_D (fun q => cT 6 ≤ q) [] := hD
  unfold p_X8_commonB at hg
  refine lv_lload_n hx hb dX8_common_0 rfl (lv_at hl 1 rfl) ?_
  refine lv_lconst (v := (0 : Int64)) hx hb dX8_common_1 (by decide) ?_
  refine W.lcmp hx hb dX8_common_2 ?_
  refine lv_if_ne (tgt := 10) hx hb dX8_common_3 (by decide) (fun c_3 => ?_) (fun c_3 => ?_)
  · have hg := hg.1 c_3
    refine lv_lload_n hx hb dX8_common_10 rfl (lv_at hl 1 rfl) ?_
    refine lv_lload_n hx hb dX8_common_11 rfl (lv_at hl 0 rfl) ?_
    refine lv_lload_n hx hb dX8_common_12 rfl (lv_at hl 1 rfl) ?_
    obtain ⟨g_13, hg⟩ := hg
    refine lv_lrem hx hb dX8_common_13 g_13 ?_
    refine k_Sxl (rest := []) C0 lk_X8_350 (hT p2 (p0 - p0 / p2 * p2) _ hg) hP hD hS hA [] (by decide +kernel) rfl ⟨rm_f (by omega), rm_l (by omega)⟩ rfl hl.1 rfl (Nat.le_of_ble_eq_true rfl) dX8_common_14 ⟨Nat.le_of_ble_eq_true rfl, Nat.le_of_ble_eq_true rfl⟩ (fun r_14 hg => ?_)
    exact k_xlret C0 hr hg dX8_common_17
  have hg := hg.2 c_3
  refine lv_lload_n hx hb dX8_common_6 rfl (lv_at hl 0 rfl) ?_
  refine lv_goto (tgt := 17) hx hb dX8_common_7 (by decide) ?_
  exact k_xlret C0 hr hg dX8_common_17
noncomputable def p_X8_commonD (F d : Nat) : Int64 → Int64 → (Int64 → Prop) → Prop := Nat.rec (motive := fun _ => Int64 → Int64 → (Int64 → Prop) → Prop) (fun _ _ _ => False) (fun _ T => p_X8_commonB F T) d
theorem p_X8_commonD_s (F d : Nat) (p0 p2 : Int64) (Post : Int64 → Prop) : p_X8_commonD F (d + 1) p0 p2 Post = p_X8_commonB F (p_X8_commonD F d) p0 p2 Post := rfl
theorem c_X8_commonD (l : Launch) (D : va_G) (cT : Nat → ClassId) (F : Nat) : ∀ (d : Nat) (p0 p2 : Int64) (Post : Int64 → Prop) (hg : p_X8_commonD F d p0 p2 Post), MRl l D cT yX8_common cX8_common 4 (some .long) (1 * d) (30 * d) [.long p0, .long p2] [] Post := by
  intro d
  induction d with
  | zero =>
    intro p0 p2 Post hg
    exact False.elim hg
  | succ d ih =>
    intro p0 p2 Post hg
    exact c_X8_commonB l D cT F (p_X8_commonD F d) (1 * d) (30 * d) ih p0 p2 Post hg
def p_X8_common (F : Nat) (p0 p2 : Int64) (Post : Int64 → Prop) : Prop := p_X8_commonD F 100 p0 p2 Post
theorem c_X8_common (l : Launch) (D : va_G) (cT : Nat → ClassId) (F : Nat) (p0 p2 : Int64) (Post : Int64 → Prop) (hg : p_X8_common F p0 p2 Post) : MRl l D cT yX8_common cX8_common 4 (some .long) 100 3000 [.long p0, .long p2] [] Post := c_X8_commonD l D cT F 100 p0 p2 Post hg
theorem dX8_tellPart_0 : decode cX8_tellPart 0 = .ok (.lload_n 1, 1) := by decide +kernel
theorem dX8_tellPart_1 : decode cX8_tellPart 1 = .ok (.lload_n 3, 1) := by decide +kernel
theorem dX8_tellPart_2 : decode cX8_tellPart 2 = .ok (.invokestatic 350, 3) := by decide +kernel
theorem dX8_tellPart_5 : decode cX8_tellPart 5 = .ok (.lstore 5, 2) := by decide +kernel
theorem dX8_tellPart_7 : decode cX8_tellPart 7 = .ok (.aload_n 0, 1) := by decide +kernel
theorem dX8_tellPart_8 : decode cX8_tellPart 8 = .ok (.iconst 0, 1) := by decide +kernel
theorem dX8_tellPart_9 : decode cX8_tellPart 9 = .ok (.putfield 86, 3) := by decide +kernel
theorem dX8_tellPart_12 : decode cX8_tellPart 12 = .ok (.aload_n 0, 1) := by decide +kernel
theorem dX8_tellPart_13 : decode cX8_tellPart 13 = .ok (.lload_n 1, 1) := by decide +kernel
theorem dX8_tellPart_14 : decode cX8_tellPart 14 = .ok (.lload 5, 2) := by decide +kernel
theorem dX8_tellPart_16 : decode cX8_tellPart 16 = .ok (.ldiv, 1) := by decide +kernel
theorem dX8_tellPart_17 : decode cX8_tellPart 17 = .ok (.invokevirtual 249, 3) := by decide +kernel
theorem dX8_tellPart_20 : decode cX8_tellPart 20 = .ok (.aload_n 0, 1) := by decide +kernel
theorem dX8_tellPart_21 : decode cX8_tellPart 21 = .ok (.lload_n 3, 1) := by decide +kernel
theorem dX8_tellPart_22 : decode cX8_tellPart 22 = .ok (.lload 5, 2) := by decide +kernel
theorem dX8_tellPart_24 : decode cX8_tellPart 24 = .ok (.ldiv, 1) := by decide +kernel
theorem dX8_tellPart_25 : decode cX8_tellPart 25 = .ok (.invokevirtual 249, 3) := by decide +kernel
theorem dX8_tellPart_28 : decode cX8_tellPart 28 = .ok (.iconst 0, 1) := by decide +kernel
theorem dX8_tellPart_29 : decode cX8_tellPart 29 = .ok (.ireturn, 1) := by decide +kernel
def p_X8_tellPart (F : Nat) (p1 : Int64) (p3 : Int64) (f_row : Nat → Int64) (Post : Int32 → (Int32 × (Nat → Int64)) → Prop) : Prop := (p_X8_common F p1 p3 (fun (r_2 : Int64) => (¬ r_2 = 0 ∧ (p_X8_tell F (p1 / r_2) (0 : Int32) f_row (fun (u_17 : (Int32 × (Nat → Int64))) => (¬ r_2 = 0 ∧ (p_X8_tell F (p3 / r_2) u_17.1 u_17.2 (fun (u_25 : (Int32 × (Nat → Int64))) => (Post (0 : Int32) (u_25.1, u_25.2))))))))))
set_option maxHeartbeats 4000000 in
set_option maxRecDepth 100000 in
theorem c_X8_tellPart (l : Launch) (D : va_G) (cT : Nat → ClassId) (F : Nat) (h : Nat) (p1 : Int64) (p3 : Int64) (w_now : Value) (x_arches : Int32) (x_cats : Int32) (w_text : Value) (x_typed : Int32) (q_row : Nat) (x_rowMany : Int32) (x_thrown : Int32) (w_read : Value) (x_length : Int32) (x_top : Int32) (x_at : Int32) (x_wrong : Int32) (w_told : Value) (w_rule : Value) (w_otherRule : Value) (x_ruleSize : Int32) (x_isAsked : Int32) (w_asked : Value) (w_undos : Value) (x_undoMany : Int32) (w_aside : Value) (w_then : Value) (w_hold : Value) (x_dropped : Int32) (w_acts : Value) (w_guarded : Value) (w_train : Value) (x_trolleyEnd : Int32) (w_feltOf : Value) (w_feltBy : Value) (x_feltMany : Int32) (w_many : Value) (w_heardOf : Value) (w_heardBy : Value) (x_heardMany : Int32) (w_worth : Value) (x_drawn : Int32) (x_came : Int32) (w_kept : Value) (w_isKept : Value) (w_keptCame : Value) (f_row : Nat → Int64) (Post : Int32 → (Int32 × (Nat → Int64)) → Prop) (hg : p_X8_tellPart F p1 p3 f_row Post) : MWi l D cT yX8_tellPart cX8_tellPart 7 (some .int) 101 3023 0 0 [.ref h, .long p1, .long p3] [(h, oX8 w_now (.int x_arches) (.int x_cats) w_text (.int x_typed) (.ref q_row) (.int x_rowMany) (.int x_thrown) w_read (.int x_length) (.int x_top) (.int x_at) (.int x_wrong) w_told w_rule w_otherRule (.int x_ruleSize) (.int x_isAsked) w_asked w_undos (.int x_undoMany) w_aside w_then w_hold (.int x_dropped) w_acts w_guarded w_train (.int x_trolleyEnd) w_feltOf w_feltBy (.int x_feltMany) w_many w_heardOf w_heardBy (.int x_heardMany) w_worth (.int x_drawn) (.int x_came) w_kept w_isKept w_keptCame), (q_row, aJ cT 16 f_row)] Post (fun (u : (Int32 × (Nat → Int64))) => [(h, oX8 w_now (.int x_arches) (.int x_cats) w_text (.int x_typed) (.ref q_row) (.int u.1) (.int x_thrown) w_read (.int x_length) (.int x_top) (.int x_at) (.int x_wrong) w_told w_rule w_otherRule (.int x_ruleSize) (.int x_isAsked) w_asked w_undos (.int x_undoMany) w_aside w_then w_hold (.int x_dropped) w_acts w_guarded w_train (.int x_trolleyEnd) w_feltOf w_feltBy (.int x_feltMany) w_many w_heardOf w_heardBy (.int x_heardMany) w_worth (.int x_drawn) (.int x_came) w_kept w_isKept w_keptCame), (q_row, aJ cT 16 u.2)]) := by
  refine MWi.of (by decide) (Nat.le_of_ble_eq_true rfl) ?_
  intro p e s m below meth c A hA C0 hnm hr hP hD ls hl
  have hl : lv_has ls 7 [(0, .ref h), (1, .long p1), (3, .long p3)] := hl
  have hx := C0.x
  have hb := C0.b
  have hS : va_S A s.heap s.heap [] := va_S.rf
  have hP : va_P D cls9 [(h, oX8 w_now (.int x_arches) (.int x_cats) w_text (.int x_typed) (.ref q_row) (.int x_rowMany) (.int x_thrown) w_read (.int x_length) (.int x_top) (.int x_at) (.int x_wrong) w_told w_rule w_otherRule (.int x_ruleSize) (.int x_isAsked) w_asked w_undos (.int x_undoMany) w_aside w_then w_hold (.int x_dropped) w_acts w_guarded w_train (.int x_trolleyEnd) w_feltOf w_feltBy (.int x_feltMany) w_many w_heardOf w_heardBy (.int x_heardMany) w_worth (.int x_drawn) (.int x_came) w_kept w_isKept w_keptCame), (q_row, aJ cT 16 f_row)] s.heap := hP
  have hD : va_D A [(h, oX8 w_now (.int x_arches) (.int x_cats) w_text (.int x_typed) (.ref q_row) (.int x_rowMany) (.int x_thrown) w_read (.int x_length) (.int x_top) (.int x_at) (.int x_wrong) w_told w_rule w_otherRule (.int x_ruleSize) (.int x_isAsked) w_asked w_undos (.int x_undoMany) w_aside w_then w_hold (.int x_dropped) w_acts w_guarded w_train (.int x_trolleyEnd) w_feltOf w_feltBy (.int x_feltMany) w_many w_heardOf w_heardBy (.int x_heardMany) w_worth (.int x_drawn) (.int x_came) w_kept w_isKept w_keptCame), (q_row, aJ cT 16 f_row)] := hD
  unfold p_X8_tellPart at hg
  refine lv_lload_n hx hb dX8_tellPart_0 rfl (lv_at hl 1 rfl) ?_
  refine lv_lload_n hx hb dX8_tellPart_1 rfl (lv_at hl 2 rfl) ?_
  refine k_Sxl (rest := []) C0 lk_X8_350 (c_X8_common l D cT F p1 p3 _ hg) hP hD hS hA [] (by decide +kernel) rfl ⟨Nat.le_of_ble_eq_true rfl, Nat.le_of_ble_eq_true rfl⟩ rfl hl.1 rfl (Nat.le_of_ble_eq_true rfl) dX8_tellPart_2 ⟨Nat.le_of_ble_eq_true rfl, Nat.le_of_ble_eq_true rfl⟩ (fun r_2 hg => ?_)
  refine lv_lstore (lv' := [(5, .long r_2), (0, .ref h), (1, .long p1), (3, .long p3)]) hx hb dX8_tellPart_5 hl (by decide) rfl (fun ls hl => ?_)
  refine lv_aload_n hx hb dX8_tellPart_7 rfl (lv_at hl 1 rfl) ?_
  refine lv_iconst (v := (0 : Int32)) hx hb dX8_tellPart_8 (by decide) ?_
  refine pf_X8_86 C0 hP hD hS 0 rfl (Nat.le_of_ble_eq_true rfl) (ws2 := [(h, oX8 w_now (.int x_arches) (.int x_cats) w_text (.int x_typed) (.ref q_row) (.int (0 : Int32)) (.int x_thrown) w_read (.int x_length) (.int x_top) (.int x_at) (.int x_wrong) w_told w_rule w_otherRule (.int x_ruleSize) (.int x_isAsked) w_asked w_undos (.int x_undoMany) w_aside w_then w_hold (.int x_dropped) w_acts w_guarded w_train (.int x_trolleyEnd) w_feltOf w_feltBy (.int x_feltMany) w_many w_heardOf w_heardBy (.int x_heardMany) w_worth (.int x_drawn) (.int x_came) w_kept w_isKept w_keptCame), (q_row, aJ cT 16 f_row)]) rfl dX8_tellPart_9 (fun H locs hP hD hS => ?_)
  refine lv_aload_n hx hb dX8_tellPart_12 rfl (lv_at hl 1 rfl) ?_
  refine lv_lload_n hx hb dX8_tellPart_13 rfl (lv_at hl 2 rfl) ?_
  refine lv_lload hx hb dX8_tellPart_14 (lv_at hl 0 rfl) ?_
  obtain ⟨g_16, hg⟩ := hg
  refine lv_ldiv hx hb dX8_tellPart_16 g_16 ?_
  refine k_Vv (rest := []) (wr := []) (w2 := fun u_17 => [(h, oX8 w_now (.int x_arches) (.int x_cats) w_text (.int x_typed) (.ref q_row) (.int u_17.1) (.int x_thrown) w_read (.int x_length) (.int x_top) (.int x_at) (.int x_wrong) w_told w_rule w_otherRule (.int x_ruleSize) (.int x_isAsked) w_asked w_undos (.int x_undoMany) w_aside w_then w_hold (.int x_dropped) w_acts w_guarded w_train (.int x_trolleyEnd) w_feltOf w_feltBy (.int x_feltMany) w_many w_heardOf w_heardBy (.int x_heardMany) w_worth (.int x_drawn) (.int x_came) w_kept w_isKept w_keptCame), (q_row, aJ cT 16 u_17.2)]) C0 lk_X8_249 (c_X8_tell l D cT F h (p1 / r_2) w_now x_arches x_cats w_text x_typed q_row (0 : Int32) x_thrown w_read x_length x_top x_at x_wrong w_told w_rule w_otherRule x_ruleSize x_isAsked w_asked w_undos x_undoMany w_aside w_then w_hold x_dropped w_acts w_guarded w_train x_trolleyEnd w_feltOf w_feltBy x_feltMany w_many w_heardOf w_heardBy x_heardMany w_worth x_drawn x_came w_kept w_isKept w_keptCame f_row _ hg) hP hD hS hA [0, 1] [] (by decide +kernel) rfl rfl (fun _ => rfl) rfl rfl ⟨Nat.le_of_ble_eq_true rfl, Nat.le_of_ble_eq_true rfl⟩ rfl hl.1 rfl (Nat.le_of_ble_eq_true rfl) dX8_tellPart_17 ⟨Nat.le_of_ble_eq_true rfl, Nat.le_of_ble_eq_true rfl⟩ ?_
  intro u_17 H locs hg hP hD hS
  refine lv_aload_n hx hb dX8_tellPart_20 rfl (lv_at hl 1 rfl) ?_
  refine lv_lload_n hx hb dX8_tellPart_21 rfl (lv_at hl 3 rfl) ?_
  refine lv_lload hx hb dX8_tellPart_22 (lv_at hl 0 rfl) ?_
  obtain ⟨g_24, hg⟩ := hg
  refine lv_ldiv hx hb dX8_tellPart_24 g_24 ?_
  refine k_Vv (rest := []) (wr := []) (w2 := fun u_25 => [(h, oX8 w_now (.int x_arches) (.int x_cats) w_text (.int x_typed) (.ref q_row) (.int u_25.1) (.int x_thrown) w_read (.int x_length) (.int x_top) (.int x_at) (.int x_wrong) w_told w_rule w_otherRule (.int x_ruleSize) (.int x_isAsked) w_asked w_undos (.int x_undoMany) w_aside w_then w_hold (.int x_dropped) w_acts w_guarded w_train (.int x_trolleyEnd) w_feltOf w_feltBy (.int x_feltMany) w_many w_heardOf w_heardBy (.int x_heardMany) w_worth (.int x_drawn) (.int x_came) w_kept w_isKept w_keptCame), (q_row, aJ cT 16 u_25.2)]) C0 lk_X8_249 (c_X8_tell l D cT F h (p3 / r_2) w_now x_arches x_cats w_text x_typed q_row u_17.1 x_thrown w_read x_length x_top x_at x_wrong w_told w_rule w_otherRule x_ruleSize x_isAsked w_asked w_undos x_undoMany w_aside w_then w_hold x_dropped w_acts w_guarded w_train x_trolleyEnd w_feltOf w_feltBy x_feltMany w_many w_heardOf w_heardBy x_heardMany w_worth x_drawn x_came w_kept w_isKept w_keptCame u_17.2 _ hg) hP hD hS hA [0, 1] [] (by decide +kernel) rfl rfl (fun _ => rfl) rfl rfl ⟨Nat.le_of_ble_eq_true rfl, Nat.le_of_ble_eq_true rfl⟩ rfl hl.1 rfl (Nat.le_of_ble_eq_true rfl) dX8_tellPart_25 ⟨Nat.le_of_ble_eq_true rfl, Nat.le_of_ble_eq_true rfl⟩ ?_
  intro u_25 H locs hg hP hD hS
  refine lv_iconst (v := (0 : Int32)) hx hb dX8_tellPart_28 (by decide) ?_
  exact k_iret C0 hr (u_25.1, u_25.2) hg hP hD hS dX8_tellPart_29
theorem dX8_partsOf_0 : decode cX8_partsOf 0 = .ok (.aload_n 0, 1) := by decide +kernel
theorem dX8_partsOf_1 : decode cX8_partsOf 1 = .ok (.aload_n 0, 1) := by decide +kernel
theorem dX8_partsOf_2 : decode cX8_partsOf 2 = .ok (.getfield 9, 3) := by decide +kernel
theorem dX8_partsOf_5 : decode cX8_partsOf 5 = .ok (.iload_n 1, 1) := by decide +kernel
theorem dX8_partsOf_6 : decode cX8_partsOf 6 = .ok (.invokevirtual 198, 3) := by decide +kernel
theorem dX8_partsOf_9 : decode cX8_partsOf 9 = .ok (.istore_n 3, 1) := by decide +kernel
theorem dX8_partsOf_10 : decode cX8_partsOf 10 = .ok (.lconst 0, 1) := by decide +kernel
theorem dX8_partsOf_11 : decode cX8_partsOf 11 = .ok (.lstore 4, 2) := by decide +kernel
theorem dX8_partsOf_13 : decode cX8_partsOf 13 = .ok (.iconst 0, 1) := by decide +kernel
theorem dX8_partsOf_14 : decode cX8_partsOf 14 = .ok (.istore 6, 2) := by decide +kernel
theorem dX8_partsOf_16 : decode cX8_partsOf 16 = .ok (.iload 6, 2) := by decide +kernel
theorem dX8_partsOf_18 : decode cX8_partsOf 18 = .ok (.iload_n 3, 1) := by decide +kernel
theorem dX8_partsOf_19 : decode cX8_partsOf 19 = .ok (.if_icmp .gt 133, 3) := by decide +kernel
theorem dX8_partsOf_22 : decode cX8_partsOf 22 = .ok (.iload 6, 2) := by decide +kernel
theorem dX8_partsOf_24 : decode cX8_partsOf 24 = .ok (.iload_n 3, 1) := by decide +kernel
theorem dX8_partsOf_25 : decode cX8_partsOf 25 = .ok (.iconst (-1), 1) := by decide +kernel
theorem dX8_partsOf_26 : decode cX8_partsOf 26 = .ok (.ixor, 1) := by decide +kernel
theorem dX8_partsOf_27 : decode cX8_partsOf 27 = .ok (.iand, 1) := by decide +kernel
theorem dX8_partsOf_28 : decode cX8_partsOf 28 = .ok (.ifCond .eq 6, 3) := by decide +kernel
theorem dX8_partsOf_31 : decode cX8_partsOf 31 = .ok (.goto 115, 3) := by decide +kernel
theorem dX8_partsOf_34 : decode cX8_partsOf 34 = .ok (.lconst 1, 1) := by decide +kernel
theorem dX8_partsOf_35 : decode cX8_partsOf 35 = .ok (.lstore 7, 2) := by decide +kernel
theorem dX8_partsOf_37 : decode cX8_partsOf 37 = .ok (.iconst 0, 1) := by decide +kernel
theorem dX8_partsOf_38 : decode cX8_partsOf 38 = .ok (.istore 9, 2) := by decide +kernel
theorem dX8_partsOf_40 : decode cX8_partsOf 40 = .ok (.iconst 0, 1) := by decide +kernel
theorem dX8_partsOf_41 : decode cX8_partsOf 41 = .ok (.istore 10, 2) := by decide +kernel
theorem dX8_partsOf_43 : decode cX8_partsOf 43 = .ok (.iload 10, 2) := by decide +kernel
theorem dX8_partsOf_45 : decode cX8_partsOf 45 = .ok (.aload_n 0, 1) := by decide +kernel
theorem dX8_partsOf_46 : decode cX8_partsOf 46 = .ok (.getfield 96, 3) := by decide +kernel
theorem dX8_partsOf_49 : decode cX8_partsOf 49 = .ok (.if_icmp .ge 75, 3) := by decide +kernel
theorem dX8_partsOf_52 : decode cX8_partsOf 52 = .ok (.iload_n 3, 1) := by decide +kernel
theorem dX8_partsOf_53 : decode cX8_partsOf 53 = .ok (.iload 10, 2) := by decide +kernel
theorem dX8_partsOf_55 : decode cX8_partsOf 55 = .ok (.invokestatic 292, 3) := by decide +kernel
theorem dX8_partsOf_58 : decode cX8_partsOf 58 = .ok (.ifCond .ne 6, 3) := by decide +kernel
theorem dX8_partsOf_61 : decode cX8_partsOf 61 = .ok (.goto 57, 3) := by decide +kernel
theorem dX8_partsOf_64 : decode cX8_partsOf 64 = .ok (.lload 7, 2) := by decide +kernel
theorem dX8_partsOf_66 : decode cX8_partsOf 66 = .ok (.iload 6, 2) := by decide +kernel
theorem dX8_partsOf_68 : decode cX8_partsOf 68 = .ok (.iload 10, 2) := by decide +kernel
theorem dX8_partsOf_70 : decode cX8_partsOf 70 = .ok (.invokestatic 292, 3) := by decide +kernel
theorem dX8_partsOf_73 : decode cX8_partsOf 73 = .ok (.ifCond .eq 11, 3) := by decide +kernel
theorem dX8_partsOf_76 : decode cX8_partsOf 76 = .ok (.bipush 10, 2) := by decide +kernel
theorem dX8_partsOf_78 : decode cX8_partsOf 78 = .ok (.iload_n 2, 1) := by decide +kernel
theorem dX8_partsOf_79 : decode cX8_partsOf 79 = .ok (.isub, 1) := by decide +kernel
theorem dX8_partsOf_80 : decode cX8_partsOf 80 = .ok (.i2l, 1) := by decide +kernel
theorem dX8_partsOf_81 : decode cX8_partsOf 81 = .ok (.goto 5, 3) := by decide +kernel
theorem dX8_partsOf_84 : decode cX8_partsOf 84 = .ok (.iload_n 2, 1) := by decide +kernel
theorem dX8_partsOf_85 : decode cX8_partsOf 85 = .ok (.i2l, 1) := by decide +kernel
theorem dX8_partsOf_86 : decode cX8_partsOf 86 = .ok (.lmul, 1) := by decide +kernel
theorem dX8_partsOf_87 : decode cX8_partsOf 87 = .ok (.lstore 7, 2) := by decide +kernel
theorem dX8_partsOf_89 : decode cX8_partsOf 89 = .ok (.iload 9, 2) := by decide +kernel
theorem dX8_partsOf_91 : decode cX8_partsOf 91 = .ok (.iload 6, 2) := by decide +kernel
theorem dX8_partsOf_93 : decode cX8_partsOf 93 = .ok (.iload 10, 2) := by decide +kernel
theorem dX8_partsOf_95 : decode cX8_partsOf 95 = .ok (.invokestatic 292, 3) := by decide +kernel
theorem dX8_partsOf_98 : decode cX8_partsOf 98 = .ok (.ifCond .eq 16, 3) := by decide +kernel
theorem dX8_partsOf_101 : decode cX8_partsOf 101 = .ok (.aload_n 0, 1) := by decide +kernel
theorem dX8_partsOf_102 : decode cX8_partsOf 102 = .ok (.aload_n 0, 1) := by decide +kernel
theorem dX8_partsOf_103 : decode cX8_partsOf 103 = .ok (.getfield 9, 3) := by decide +kernel
theorem dX8_partsOf_106 : decode cX8_partsOf 106 = .ok (.iload 10, 2) := by decide +kernel
theorem dX8_partsOf_108 : decode cX8_partsOf 108 = .ok (.invokevirtual 211, 3) := by decide +kernel
theorem dX8_partsOf_111 : decode cX8_partsOf 111 = .ok (.goto 4, 3) := by decide +kernel
theorem dX8_partsOf_114 : decode cX8_partsOf 114 = .ok (.iconst 0, 1) := by decide +kernel
theorem dX8_partsOf_115 : decode cX8_partsOf 115 = .ok (.iadd, 1) := by decide +kernel
theorem dX8_partsOf_116 : decode cX8_partsOf 116 = .ok (.istore 9, 2) := by decide +kernel
theorem dX8_partsOf_118 : decode cX8_partsOf 118 = .ok (.iinc 10 1, 3) := by decide +kernel
theorem dX8_partsOf_121 : decode cX8_partsOf 121 = .ok (.goto (-78), 3) := by decide +kernel
theorem dX8_partsOf_124 : decode cX8_partsOf 124 = .ok (.lload 4, 2) := by decide +kernel
theorem dX8_partsOf_126 : decode cX8_partsOf 126 = .ok (.iload 9, 2) := by decide +kernel
theorem dX8_partsOf_128 : decode cX8_partsOf 128 = .ok (.aload_n 0, 1) := by decide +kernel
theorem dX8_partsOf_129 : decode cX8_partsOf 129 = .ok (.getfield 9, 3) := by decide +kernel
theorem dX8_partsOf_132 : decode cX8_partsOf 132 = .ok (.iload_n 1, 1) := by decide +kernel
theorem dX8_partsOf_133 : decode cX8_partsOf 133 = .ok (.iaload, 1) := by decide +kernel
theorem dX8_partsOf_134 : decode cX8_partsOf 134 = .ok (.if_icmp .lt 8, 3) := by decide +kernel
theorem dX8_partsOf_137 : decode cX8_partsOf 137 = .ok (.lload 7, 2) := by decide +kernel
theorem dX8_partsOf_139 : decode cX8_partsOf 139 = .ok (.goto 4, 3) := by decide +kernel
theorem dX8_partsOf_142 : decode cX8_partsOf 142 = .ok (.lconst 0, 1) := by decide +kernel
theorem dX8_partsOf_143 : decode cX8_partsOf 143 = .ok (.ladd, 1) := by decide +kernel
theorem dX8_partsOf_144 : decode cX8_partsOf 144 = .ok (.lstore 4, 2) := by decide +kernel
theorem dX8_partsOf_146 : decode cX8_partsOf 146 = .ok (.iinc 6 1, 3) := by decide +kernel
theorem dX8_partsOf_149 : decode cX8_partsOf 149 = .ok (.goto (-133), 3) := by decide +kernel
theorem dX8_partsOf_152 : decode cX8_partsOf 152 = .ok (.lload 4, 2) := by decide +kernel
theorem dX8_partsOf_154 : decode cX8_partsOf 154 = .ok (.lreturn, 1) := by decide +kernel
def p_X8_partsOf_146 (F : Nat) (y6_16 : Int32) (k16 : Int32 → Int64 → Value → Int32 → Int32 → Int32 → Int32 → Int32 → (Nat → Int32) → Prop) (Post : Int64 → (Value × Int32 × Int32 × Int32 × Int32 × Int32 × (Nat → Int32)) → Prop) (y4_146 : Int64) (x_read_146 : Value) (x_length_146 : Int32) (x_top_146 : Int32) (x_at_146 : Int32) (x_wrong_146 : Int32) (x_isAsked_146 : Int32) (f_asked_146 : Nat → Int32) : Prop := (k16 (y6_16 + (1 : Int32)) y4_146 x_read_146 x_length_146 x_top_146 x_at_146 x_wrong_146 x_isAsked_146 f_asked_146)
def p_X8_partsOf_143 (F : Nat) (y6_16 : Int32) (y4_16 : Int64) (x_read_43 : Value) (x_length_43 : Int32) (x_top_43 : Int32) (x_at_43 : Int32) (x_wrong_43 : Int32) (x_isAsked_43 : Int32) (f_asked_43 : Nat → Int32) (k16 : Int32 → Int64 → Value → Int32 → Int32 → Int32 → Int32 → Int32 → (Nat → Int32) → Prop) (Post : Int64 → (Value × Int32 × Int32 × Int32 × Int32 × Int32 × (Nat → Int32)) → Prop) (s1_143 : Int64) : Prop := (p_X8_partsOf_146 F y6_16 k16 Post (y4_16 + s1_143) x_read_43 x_length_43 x_top_43 x_at_43 x_wrong_43 x_isAsked_43 f_asked_43)
def p_X8_partsOf_118 (F : Nat) (y10_43 : Int32) (k16 : Int32 → Int64 → Value → Int32 → Int32 → Int32 → Int32 → Int32 → (Nat → Int32) → Prop) (k43 : Int32 → Int32 → Int64 → Value → Int32 → Int32 → Int32 → Int32 → Int32 → (Nat → Int32) → Prop) (Post : Int64 → (Value × Int32 × Int32 × Int32 × Int32 × Int32 × (Nat → Int32)) → Prop) (y7_118 : Int64) (y9_118 : Int32) (x_read_118 : Value) (x_length_118 : Int32) (x_top_118 : Int32) (x_at_118 : Int32) (x_wrong_118 : Int32) (x_isAsked_118 : Int32) (f_asked_118 : Nat → Int32) : Prop := (k43 (y10_43 + (1 : Int32)) y9_118 y7_118 x_read_118 x_length_118 x_top_118 x_at_118 x_wrong_118 x_isAsked_118 f_asked_118)
def p_X8_partsOf_115 (F : Nat) (s1_86 : Int64) (y10_43 : Int32) (y9_43 : Int32) (y7_43 : Int64) (k16 : Int32 → Int64 → Value → Int32 → Int32 → Int32 → Int32 → Int32 → (Nat → Int32) → Prop) (k43 : Int32 → Int32 → Int64 → Value → Int32 → Int32 → Int32 → Int32 → Int32 → (Nat → Int32) → Prop) (Post : Int64 → (Value × Int32 × Int32 × Int32 × Int32 × Int32 × (Nat → Int32)) → Prop) (s1_115 : Int32) (x_read_115 : Value) (x_length_115 : Int32) (x_top_115 : Int32) (x_at_115 : Int32) (x_wrong_115 : Int32) (x_isAsked_115 : Int32) (f_asked_115 : Nat → Int32) : Prop := (p_X8_partsOf_118 F y10_43 k16 k43 Post (y7_43 * s1_86) (y9_43 + s1_115) x_read_115 x_length_115 x_top_115 x_at_115 x_wrong_115 x_isAsked_115 f_asked_115)
def p_X8_partsOf_86 (F : Nat) (x_cats : Int32) (q_rule : Nat) (x_ruleSize : Int32) (f_now : Nat → Int32) (f_rule : Nat → Int32) (y6_16 : Int32) (y10_43 : Int32) (y9_43 : Int32) (y7_43 : Int64) (x_read_43 : Value) (x_length_43 : Int32) (x_top_43 : Int32) (x_at_43 : Int32) (x_wrong_43 : Int32) (x_isAsked_43 : Int32) (f_asked_43 : Nat → Int32) (k16 : Int32 → Int64 → Value → Int32 → Int32 → Int32 → Int32 → Int32 → (Nat → Int32) → Prop) (k43 : Int32 → Int32 → Int64 → Value → Int32 → Int32 → Int32 → Int32 → Int32 → (Nat → Int32) → Prop) (Post : Int64 → (Value × Int32 × Int32 × Int32 × Int32 × Int32 × (Nat → Int32)) → Prop) (s1_86 : Int64) : Prop := (p_X8_has F y6_16 y10_43 (fun (r_95 : Int32) => ((r_95 = 0 → (p_X8_partsOf_115 F s1_86 y10_43 y9_43 y7_43 k16 k43 Post (0 : Int32) x_read_43 x_length_43 x_top_43 x_at_43 x_wrong_43 x_isAsked_43 f_asked_43)) ∧ (¬ r_95 = 0 → (p_X8_purrOf F y10_43 x_cats x_read_43 x_length_43 x_top_43 x_at_43 x_wrong_43 q_rule x_ruleSize x_isAsked_43 47 f_now f_asked_43 f_rule (fun (r_108 : Int32) (u_108 : (Value × Int32 × Int32 × Int32 × Int32 × Int32 × (Nat → Int32))) => (p_X8_partsOf_115 F s1_86 y10_43 y9_43 y7_43 k16 k43 Post r_108 u_108.1 u_108.2.1 u_108.2.2.1 u_108.2.2.2.1 u_108.2.2.2.2.1 u_108.2.2.2.2.2.1 u_108.2.2.2.2.2.2)))))))
noncomputable def p_X8_partsOf_43 (F : Nat) (p1 : Int32) (p2 : Int32) (x_cats : Int32) (q_rule : Nat) (x_ruleSize : Int32) (f_now : Nat → Int32) (f_rule : Nat → Int32) (r_6 : Int32) (y6_16 : Int32) (y4_16 : Int64) (k16 : Int32 → Int64 → Value → Int32 → Int32 → Int32 → Int32 → Int32 → (Nat → Int32) → Prop) (Post : Int64 → (Value × Int32 × Int32 × Int32 × Int32 × Int32 × (Nat → Int32)) → Prop) (n : Nat) : Int32 → Int32 → Int64 → Value → Int32 → Int32 → Int32 → Int32 → Int32 → (Nat → Int32) → Prop := Nat.rec (motive := fun _ => Int32 → Int32 → Int64 → Value → Int32 → Int32 → Int32 → Int32 → Int32 → (Nat → Int32) → Prop) (fun _ _ _ _ _ _ _ _ _ _ => False) (fun _ k43 => fun (y10_43 : Int32) (y9_43 : Int32) (y7_43 : Int64) (x_read_43 : Value) (x_length_43 : Int32) (x_top_43 : Int32) (x_at_43 : Int32) (x_wrong_43 : Int32) (x_isAsked_43 : Int32) (f_asked_43 : Nat → Int32) => ((x_cats ≤ y10_43 → (vp_in p1 47 ∧ ((y9_43 < (f_now p1.toNatClampNeg) → (p_X8_partsOf_143 F y6_16 y4_16 x_read_43 x_length_43 x_top_43 x_at_43 x_wrong_43 x_isAsked_43 f_asked_43 k16 Post (0 : Int64))) ∧ (¬ y9_43 < (f_now p1.toNatClampNeg) → (p_X8_partsOf_143 F y6_16 y4_16 x_read_43 x_length_43 x_top_43 x_at_43 x_wrong_43 x_isAsked_43 f_asked_43 k16 Post y7_43))))) ∧ (¬ x_cats ≤ y10_43 → (p_X8_has F r_6 y10_43 (fun (r_55 : Int32) => ((¬ r_55 = 0 → (p_X8_has F y6_16 y10_43 (fun (r_70 : Int32) => ((r_70 = 0 → (p_X8_partsOf_86 F x_cats q_rule x_ruleSize f_now f_rule y6_16 y10_43 y9_43 y7_43 x_read_43 x_length_43 x_top_43 x_at_43 x_wrong_43 x_isAsked_43 f_asked_43 k16 k43 Post (p2.toInt64))) ∧ (¬ r_70 = 0 → (p_X8_partsOf_86 F x_cats q_rule x_ruleSize f_now f_rule y6_16 y10_43 y9_43 y7_43 x_read_43 x_length_43 x_top_43 x_at_43 x_wrong_43 x_isAsked_43 f_asked_43 k16 k43 Post (((10 : Int32) - p2).toInt64))))))) ∧ (r_55 = 0 → (p_X8_partsOf_118 F y10_43 k16 k43 Post y7_43 y9_43 x_read_43 x_length_43 x_top_43 x_at_43 x_wrong_43 x_isAsked_43 f_asked_43)))))))) n
theorem p_X8_partsOf_43_s (F : Nat) (p1 : Int32) (p2 : Int32) (x_cats : Int32) (q_rule : Nat) (x_ruleSize : Int32) (f_now : Nat → Int32) (f_rule : Nat → Int32) (r_6 : Int32) (y6_16 : Int32) (y4_16 : Int64) (k16 : Int32 → Int64 → Value → Int32 → Int32 → Int32 → Int32 → Int32 → (Nat → Int32) → Prop) (Post : Int64 → (Value × Int32 × Int32 × Int32 × Int32 × Int32 × (Nat → Int32)) → Prop) (n : Nat) (y10_43 : Int32) (y9_43 : Int32) (y7_43 : Int64) (x_read_43 : Value) (x_length_43 : Int32) (x_top_43 : Int32) (x_at_43 : Int32) (x_wrong_43 : Int32) (x_isAsked_43 : Int32) (f_asked_43 : Nat → Int32) : p_X8_partsOf_43 F p1 p2 x_cats q_rule x_ruleSize f_now f_rule r_6 y6_16 y4_16 k16 Post (n + 1) y10_43 y9_43 y7_43 x_read_43 x_length_43 x_top_43 x_at_43 x_wrong_43 x_isAsked_43 f_asked_43 = ((x_cats ≤ y10_43 → (vp_in p1 47 ∧ ((y9_43 < (f_now p1.toNatClampNeg) → (p_X8_partsOf_143 F y6_16 y4_16 x_read_43 x_length_43 x_top_43 x_at_43 x_wrong_43 x_isAsked_43 f_asked_43 k16 Post (0 : Int64))) ∧ (¬ y9_43 < (f_now p1.toNatClampNeg) → (p_X8_partsOf_143 F y6_16 y4_16 x_read_43 x_length_43 x_top_43 x_at_43 x_wrong_43 x_isAsked_43 f_asked_43 k16 Post y7_43))))) ∧ (¬ x_cats ≤ y10_43 → (p_X8_has F r_6 y10_43 (fun (r_55 : Int32) => ((¬ r_55 = 0 → (p_X8_has F y6_16 y10_43 (fun (r_70 : Int32) => ((r_70 = 0 → (p_X8_partsOf_86 F x_cats q_rule x_ruleSize f_now f_rule y6_16 y10_43 y9_43 y7_43 x_read_43 x_length_43 x_top_43 x_at_43 x_wrong_43 x_isAsked_43 f_asked_43 k16 (p_X8_partsOf_43 F p1 p2 x_cats q_rule x_ruleSize f_now f_rule r_6 y6_16 y4_16 k16 Post n) Post (p2.toInt64))) ∧ (¬ r_70 = 0 → (p_X8_partsOf_86 F x_cats q_rule x_ruleSize f_now f_rule y6_16 y10_43 y9_43 y7_43 x_read_43 x_length_43 x_top_43 x_at_43 x_wrong_43 x_isAsked_43 f_asked_43 k16 (p_X8_partsOf_43 F p1 p2 x_cats q_rule x_ruleSize f_now f_rule r_6 y6_16 y4_16 k16 Post n) Post (((10 : Int32) - p2).toInt64))))))) ∧ (r_55 = 0 → (p_X8_partsOf_118 F y10_43 k16 (p_X8_partsOf_43 F p1 p2 x_cats q_rule x_ruleSize f_now f_rule r_6 y6_16 y4_16 k16 Post n) Post y7_43 y9_43 x_read_43 x_length_43 x_top_43 x_at_43 x_wrong_43 x_isAsked_43 f_asked_43))))))) := rfl
noncomputable def p_X8_partsOf_16 (F : Nat) (p1 : Int32) (p2 : Int32) (x_cats : Int32) (q_rule : Nat) (x_ruleSize : Int32) (f_now : Nat → Int32) (f_rule : Nat → Int32) (r_6 : Int32) (Post : Int64 → (Value × Int32 × Int32 × Int32 × Int32 × Int32 × (Nat → Int32)) → Prop) (n : Nat) : Int32 → Int64 → Value → Int32 → Int32 → Int32 → Int32 → Int32 → (Nat → Int32) → Prop := Nat.rec (motive := fun _ => Int32 → Int64 → Value → Int32 → Int32 → Int32 → Int32 → Int32 → (Nat → Int32) → Prop) (fun _ _ _ _ _ _ _ _ _ => False) (fun _ k16 => fun (y6_16 : Int32) (y4_16 : Int64) (x_read_16 : Value) (x_length_16 : Int32) (x_top_16 : Int32) (x_at_16 : Int32) (x_wrong_16 : Int32) (x_isAsked_16 : Int32) (f_asked_16 : Nat → Int32) => ((r_6 < y6_16 → (Post y4_16 (x_read_16, x_length_16, x_top_16, x_at_16, x_wrong_16, x_isAsked_16, f_asked_16))) ∧ (¬ r_6 < y6_16 → (((y6_16 &&& (r_6 ^^^ (-1 : Int32))) = 0 → (p_X8_partsOf_43 F p1 p2 x_cats q_rule x_ruleSize f_now f_rule r_6 y6_16 y4_16 k16 Post F (0 : Int32) (0 : Int32) (1 : Int64) x_read_16 x_length_16 x_top_16 x_at_16 x_wrong_16 x_isAsked_16 f_asked_16)) ∧ (¬ (y6_16 &&& (r_6 ^^^ (-1 : Int32))) = 0 → (p_X8_partsOf_146 F y6_16 k16 Post y4_16 x_read_16 x_length_16 x_top_16 x_at_16 x_wrong_16 x_isAsked_16 f_asked_16)))))) n
theorem p_X8_partsOf_16_s (F : Nat) (p1 : Int32) (p2 : Int32) (x_cats : Int32) (q_rule : Nat) (x_ruleSize : Int32) (f_now : Nat → Int32) (f_rule : Nat → Int32) (r_6 : Int32) (Post : Int64 → (Value × Int32 × Int32 × Int32 × Int32 × Int32 × (Nat → Int32)) → Prop) (n : Nat) (y6_16 : Int32) (y4_16 : Int64) (x_read_16 : Value) (x_length_16 : Int32) (x_top_16 : Int32) (x_at_16 : Int32) (x_wrong_16 : Int32) (x_isAsked_16 : Int32) (f_asked_16 : Nat → Int32) : p_X8_partsOf_16 F p1 p2 x_cats q_rule x_ruleSize f_now f_rule r_6 Post (n + 1) y6_16 y4_16 x_read_16 x_length_16 x_top_16 x_at_16 x_wrong_16 x_isAsked_16 f_asked_16 = ((r_6 < y6_16 → (Post y4_16 (x_read_16, x_length_16, x_top_16, x_at_16, x_wrong_16, x_isAsked_16, f_asked_16))) ∧ (¬ r_6 < y6_16 → (((y6_16 &&& (r_6 ^^^ (-1 : Int32))) = 0 → (p_X8_partsOf_43 F p1 p2 x_cats q_rule x_ruleSize f_now f_rule r_6 y6_16 y4_16 (p_X8_partsOf_16 F p1 p2 x_cats q_rule x_ruleSize f_now f_rule r_6 Post n) Post F (0 : Int32) (0 : Int32) (1 : Int64) x_read_16 x_length_16 x_top_16 x_at_16 x_wrong_16 x_isAsked_16 f_asked_16)) ∧ (¬ (y6_16 &&& (r_6 ^^^ (-1 : Int32))) = 0 → (p_X8_partsOf_146 F y6_16 (p_X8_partsOf_16 F p1 p2 x_cats q_rule x_ruleSize f_now f_rule r_6 Post n) Post y4_16 x_read_16 x_length_16 x_top_16 x_at_16 x_wrong_16 x_isAsked_16 f_asked_16))))) := rfl
def p_X8_partsOf (F : Nat) (p1 : Int32) (p2 : Int32) (x_cats : Int32) (w_read : Value) (x_length : Int32) (x_top : Int32) (x_at : Int32) (x_wrong : Int32) (q_rule : Nat) (x_ruleSize : Int32) (x_isAsked : Int32) (f_now : Nat → Int32) (f_asked : Nat → Int32) (f_rule : Nat → Int32) (Post : Int64 → (Value × Int32 × Int32 × Int32 × Int32 × Int32 × (Nat → Int32)) → Prop) : Prop := (p_X8_there F p1 x_cats 47 f_now (fun (r_6 : Int32) => (p_X8_partsOf_16 F p1 p2 x_cats q_rule x_ruleSize f_now f_rule r_6 Post F (0 : Int32) (0 : Int64) w_read x_length x_top x_at x_wrong x_isAsked f_asked)))
set_option maxHeartbeats 4000000 in
set_option maxRecDepth 100000 in
theorem c_X8_partsOf (l : Launch) (D : va_G) (cT : Nat → ClassId) (F : Nat) (h : Nat) (p1 : Int32) (p2 : Int32) (q_now : Nat) (x_arches : Int32) (x_cats : Int32) (w_text : Value) (x_typed : Int32) (w_row : Value) (x_rowMany : Int32) (x_thrown : Int32) (w_read : Value) (x_length : Int32) (x_top : Int32) (x_at : Int32) (x_wrong : Int32) (w_told : Value) (q_rule : Nat) (w_otherRule : Value) (x_ruleSize : Int32) (x_isAsked : Int32) (q_asked : Nat) (w_undos : Value) (x_undoMany : Int32) (w_aside : Value) (w_then : Value) (w_hold : Value) (x_dropped : Int32) (w_acts : Value) (w_guarded : Value) (w_train : Value) (x_trolleyEnd : Int32) (w_feltOf : Value) (w_feltBy : Value) (x_feltMany : Int32) (w_many : Value) (w_heardOf : Value) (w_heardBy : Value) (x_heardMany : Int32) (w_worth : Value) (x_drawn : Int32) (x_came : Int32) (w_kept : Value) (w_isKept : Value) (w_keptCame : Value) (f_now : Nat → Int32) (f_asked : Nat → Int32) (f_rule : Nat → Int32) (Post : Int64 → (Value × Int32 × Int32 × Int32 × Int32 × Int32 × (Nat → Int32)) → Prop) (hg : p_X8_partsOf F p1 p2 x_cats w_read x_length x_top x_at x_wrong q_rule x_ruleSize x_isAsked f_now f_asked f_rule Post) : MWl l D cT yX8_partsOf cX8_partsOf 11 (some .long) 324 10150 0 0 [.ref h, .int p1, .int p2] [(h, oX8 (.ref q_now) (.int x_arches) (.int x_cats) w_text (.int x_typed) w_row (.int x_rowMany) (.int x_thrown) w_read (.int x_length) (.int x_top) (.int x_at) (.int x_wrong) w_told (.ref q_rule) w_otherRule (.int x_ruleSize) (.int x_isAsked) (.ref q_asked) w_undos (.int x_undoMany) w_aside w_then w_hold (.int x_dropped) w_acts w_guarded w_train (.int x_trolleyEnd) w_feltOf w_feltBy (.int x_feltMany) w_many w_heardOf w_heardBy (.int x_heardMany) w_worth (.int x_drawn) (.int x_came) w_kept w_isKept w_keptCame), (q_now, aI cT 47 f_now), (q_asked, aI cT 7 f_asked), (q_rule, aB cT 40 f_rule)] Post (fun (u : (Value × Int32 × Int32 × Int32 × Int32 × Int32 × (Nat → Int32))) => [(h, oX8 (.ref q_now) (.int x_arches) (.int x_cats) w_text (.int x_typed) w_row (.int x_rowMany) (.int x_thrown) u.1 (.int u.2.1) (.int u.2.2.1) (.int u.2.2.2.1) (.int u.2.2.2.2.1) w_told (.ref q_rule) w_otherRule (.int x_ruleSize) (.int u.2.2.2.2.2.1) (.ref q_asked) w_undos (.int x_undoMany) w_aside w_then w_hold (.int x_dropped) w_acts w_guarded w_train (.int x_trolleyEnd) w_feltOf w_feltBy (.int x_feltMany) w_many w_heardOf w_heardBy (.int x_heardMany) w_worth (.int x_drawn) (.int x_came) w_kept w_isKept w_keptCame), (q_now, aI cT 47 f_now), (q_asked, aI cT 7 u.2.2.2.2.2.2), (q_rule, aB cT 40 f_rule)]) := by
  refine MWl.of (by decide) (Nat.le_of_ble_eq_true rfl) ?_
  intro p e s m below meth c A hA C0 hnm hr hP hD ls hl
  have hl : lv_has ls 11 [(0, .ref h), (1, .int p1), (2, .int p2)] := hl
  have hx := C0.x
  have hb := C0.b
  have hS : va_S A s.heap s.heap [] := va_S.rf
  have hP : va_P D cls9 [(h, oX8 (.ref q_now) (.int x_arches) (.int x_cats) w_text (.int x_typed) w_row (.int x_rowMany) (.int x_thrown) w_read (.int x_length) (.int x_top) (.int x_at) (.int x_wrong) w_told (.ref q_rule) w_otherRule (.int x_ruleSize) (.int x_isAsked) (.ref q_asked) w_undos (.int x_undoMany) w_aside w_then w_hold (.int x_dropped) w_acts w_guarded w_train (.int x_trolleyEnd) w_feltOf w_feltBy (.int x_feltMany) w_many w_heardOf w_heardBy (.int x_heardMany) w_worth (.int x_drawn) (.int x_came) w_kept w_isKept w_keptCame), (q_now, aI cT 47 f_now), (q_asked, aI cT 7 f_asked), (q_rule, aB cT 40 f_rule)] s.heap := hP
  have hD : va_D A [(h, oX8 (.ref q_now) (.int x_arches) (.int x_cats) w_text (.int x_typed) w_row (.int x_rowMany) (.int x_thrown) w_read (.int x_length) (.int x_top) (.int x_at) (.int x_wrong) w_told (.ref q_rule) w_otherRule (.int x_ruleSize) (.int x_isAsked) (.ref q_asked) w_undos (.int x_undoMany) w_aside w_then w_hold (.int x_dropped) w_acts w_guarded w_train (.int x_trolleyEnd) w_feltOf w_feltBy (.int x_feltMany) w_many w_heardOf w_heardBy (.int x_heardMany) w_worth (.int x_drawn) (.int x_came) w_kept w_isKept w_keptCame), (q_now, aI cT 47 f_now), (q_asked, aI cT 7 f_asked), (q_rule, aB cT 40 f_rule)] := hD
  have L16 : ∀ (r_6 : Int32) (n16 : Nat) (y6_16 : Int32) (y4_16 : Int64) (x_read_16 : Value) (x_length_16 : Int32) (x_top_16 : Int32) (x_at_16 : Int32) (x_wrong_16 : Int32) (x_isAsked_16 : Int32) (f_asked_16 : Nat → Int32) (H : Heap) (locs : List Loc) (ls : Array Slot), p_X8_partsOf_16 F p1 p2 x_cats q_rule x_ruleSize f_now f_rule r_6 Post n16 y6_16 y4_16 x_read_16 x_length_16 x_top_16 x_at_16 x_wrong_16 x_isAsked_16 f_asked_16 → va_P D cls9 [(h, oX8 (.ref q_now) (.int x_arches) (.int x_cats) w_text (.int x_typed) w_row (.int x_rowMany) (.int x_thrown) x_read_16 (.int x_length_16) (.int x_top_16) (.int x_at_16) (.int x_wrong_16) w_told (.ref q_rule) w_otherRule (.int x_ruleSize) (.int x_isAsked_16) (.ref q_asked) w_undos (.int x_undoMany) w_aside w_then w_hold (.int x_dropped) w_acts w_guarded w_train (.int x_trolleyEnd) w_feltOf w_feltBy (.int x_feltMany) w_many w_heardOf w_heardBy (.int x_heardMany) w_worth (.int x_drawn) (.int x_came) w_kept w_isKept w_keptCame), (q_now, aI cT 47 f_now), (q_asked, aI cT 7 f_asked_16), (q_rule, aB cT 40 f_rule)] H → va_D A [(h, oX8 (.ref q_now) (.int x_arches) (.int x_cats) w_text (.int x_typed) w_row (.int x_rowMany) (.int x_thrown) x_read_16 (.int x_length_16) (.int x_top_16) (.int x_at_16) (.int x_wrong_16) w_told (.ref q_rule) w_otherRule (.int x_ruleSize) (.int x_isAsked_16) (.ref q_asked) w_undos (.int x_undoMany) w_aside w_then w_hold (.int x_dropped) w_acts w_guarded w_train (.int x_trolleyEnd) w_feltOf w_feltBy (.int x_feltMany) w_many w_heardOf w_heardBy (.int x_heardMany) w_worth (.int x_drawn) (.int x_came) w_kept w_isKept w_keptCame), (q_now, aI cT 47 f_now), (q_asked, aI cT 7 f_asked_16), (q_rule, aB cT 40 f_rule)] → va_S A s.heap H locs → lv_has ls 11 [(0, .ref h), (1, .int p1), (2, .int p2), (3, .int r_6), (4, .long y4_16), (6, .int y6_16)] → W p l e (rmO 324 10150 0 0) s m ([.ref h, .int p1, .int p2] : List Value).toArray below meth c H locs 0 0 (MQ below (va_Ql Post (cB D A (fun (u : (Value × Int32 × Int32 × Int32 × Int32 × Int32 × (Nat → Int32))) => [(h, oX8 (.ref q_now) (.int x_arches) (.int x_cats) w_text (.int x_typed) w_row (.int x_rowMany) (.int x_thrown) u.1 (.int u.2.1) (.int u.2.2.1) (.int u.2.2.2.1) (.int u.2.2.2.2.1) w_told (.ref q_rule) w_otherRule (.int x_ruleSize) (.int u.2.2.2.2.2.1) (.ref q_asked) w_undos (.int x_undoMany) w_aside w_then w_hold (.int x_dropped) w_acts w_guarded w_train (.int x_trolleyEnd) w_feltOf w_feltBy (.int x_feltMany) w_many w_heardOf w_heardBy (.int x_heardMany) w_worth (.int x_drawn) (.int x_came) w_kept w_isKept w_keptCame), (q_now, aI cT 47 f_now), (q_asked, aI cT 7 u.2.2.2.2.2.2), (q_rule, aB cT 40 f_rule)])) A) ([.ref h, .int p1, .int p2] : List Value).toArray s 0 0 A) (F0 m 16 ls []) := by
    intro r_6 n16
    induction n16 with
    | zero =>
      intro y6_16 y4_16 x_read_16 x_length_16 x_top_16 x_at_16 x_wrong_16 x_isAsked_16 f_asked_16 H locs ls hg hP hD hS hl
      exact False.elim hg
    | succ n16 ih16 =>
      have L146 : ∀ (y6_16 : Int32) (y4_146 : Int64) (x_read_146 : Value) (x_length_146 : Int32) (x_top_146 : Int32) (x_at_146 : Int32) (x_wrong_146 : Int32) (x_isAsked_146 : Int32) (f_asked_146 : Nat → Int32) (H : Heap) (locs : List Loc) (ls : Array Slot), p_X8_partsOf_146 F y6_16 (p_X8_partsOf_16 F p1 p2 x_cats q_rule x_ruleSize f_now f_rule r_6 Post n16) Post y4_146 x_read_146 x_length_146 x_top_146 x_at_146 x_wrong_146 x_isAsked_146 f_asked_146 → va_P D cls9 [(h, oX8 (.ref q_now) (.int x_arches) (.int x_cats) w_text (.int x_typed) w_row (.int x_rowMany) (.int x_thrown) x_read_146 (.int x_length_146) (.int x_top_146) (.int x_at_146) (.int x_wrong_146) w_told (.ref q_rule) w_otherRule (.int x_ruleSize) (.int x_isAsked_146) (.ref q_asked) w_undos (.int x_undoMany) w_aside w_then w_hold (.int x_dropped) w_acts w_guarded w_train (.int x_trolleyEnd) w_feltOf w_feltBy (.int x_feltMany) w_many w_heardOf w_heardBy (.int x_heardMany) w_worth (.int x_drawn) (.int x_came) w_kept w_isKept w_keptCame), (q_now, aI cT 47 f_now), (q_asked, aI cT 7 f_asked_146), (q_rule, aB cT 40 f_rule)] H → va_D A [(h, oX8 (.ref q_now) (.int x_arches) (.int x_cats) w_text (.int x_typed) w_row (.int x_rowMany) (.int x_thrown) x_read_146 (.int x_length_146) (.int x_top_146) (.int x_at_146) (.int x_wrong_146) w_told (.ref q_rule) w_otherRule (.int x_ruleSize) (.int x_isAsked_146) (.ref q_asked) w_undos (.int x_undoMany) w_aside w_then w_hold (.int x_dropped) w_acts w_guarded w_train (.int x_trolleyEnd) w_feltOf w_feltBy (.int x_feltMany) w_many w_heardOf w_heardBy (.int x_heardMany) w_worth (.int x_drawn) (.int x_came) w_kept w_isKept w_keptCame), (q_now, aI cT 47 f_now), (q_asked, aI cT 7 f_asked_146), (q_rule, aB cT 40 f_rule)] → va_S A s.heap H locs → lv_has ls 11 [(0, .ref h), (1, .int p1), (2, .int p2), (3, .int r_6), (4, .long y4_146), (6, .int y6_16)] → W p l e (rmO 324 10150 0 0) s m ([.ref h, .int p1, .int p2] : List Value).toArray below meth c H locs 0 0 (MQ below (va_Ql Post (cB D A (fun (u : (Value × Int32 × Int32 × Int32 × Int32 × Int32 × (Nat → Int32))) => [(h, oX8 (.ref q_now) (.int x_arches) (.int x_cats) w_text (.int x_typed) w_row (.int x_rowMany) (.int x_thrown) u.1 (.int u.2.1) (.int u.2.2.1) (.int u.2.2.2.1) (.int u.2.2.2.2.1) w_told (.ref q_rule) w_otherRule (.int x_ruleSize) (.int u.2.2.2.2.2.1) (.ref q_asked) w_undos (.int x_undoMany) w_aside w_then w_hold (.int x_dropped) w_acts w_guarded w_train (.int x_trolleyEnd) w_feltOf w_feltBy (.int x_feltMany) w_many w_heardOf w_heardBy (.int x_heardMany) w_worth (.int x_drawn) (.int x_came) w_kept w_isKept w_keptCame), (q_now, aI cT 47 f_now), (q_asked, aI cT 7 u.2.2.2.2.2.2), (q_rule, aB cT 40 f_rule)])) A) ([.ref h, .int p1, .int p2] : List Value).toArray s 0 0 A) (F0 m 146 ls []) := by
        intro y6_16 y4_146 x_read_146 x_length_146 x_top_146 x_at_146 x_wrong_146 x_isAsked_146 f_asked_146 H locs ls hg hP hD hS hl
        unfold p_X8_partsOf_146 at hg
        refine lv_iinc (v := (y6_16 + (1 : Int32))) (lv' := [(6, .int (y6_16 + (1 : Int32))), (0, .ref h), (1, .int p1), (2, .int p2), (3, .int r_6), (4, .long y4_146)]) hx hb dX8_partsOf_146 hl (k := 5) rfl rfl (by decide) rfl (fun ls hl => ?_)
        refine lv_goto (tgt := 16) hx hb dX8_partsOf_149 (by decide) ?_
        exact ih16 (y6_16 + (1 : Int32)) y4_146 x_read_146 x_length_146 x_top_146 x_at_146 x_wrong_146 x_isAsked_146 f_asked_146 _ _ _ hg hP hD hS (lv_sub hl [1, 2, 3, 4, 5, 0] rfl)
      have L143 : ∀ (y6_16 : Int32) (y4_16 : Int64) (x_read_43 : Value) (x_length_43 : Int32) (x_top_43 : Int32) (x_at_43 : Int32) (x_wrong_43 : Int32) (x_isAsked_43 : Int32) (f_asked_43 : Nat → Int32) (s1_143 : Int64) (H : Heap) (locs : List Loc) (ls : Array Slot), p_X8_partsOf_143 F y6_16 y4_16 x_read_43 x_length_43 x_top_43 x_at_43 x_wrong_43 x_isAsked_43 f_asked_43 (p_X8_partsOf_16 F p1 p2 x_cats q_rule x_ruleSize f_now f_rule r_6 Post n16) Post s1_143 → va_P D cls9 [(h, oX8 (.ref q_now) (.int x_arches) (.int x_cats) w_text (.int x_typed) w_row (.int x_rowMany) (.int x_thrown) x_read_43 (.int x_length_43) (.int x_top_43) (.int x_at_43) (.int x_wrong_43) w_told (.ref q_rule) w_otherRule (.int x_ruleSize) (.int x_isAsked_43) (.ref q_asked) w_undos (.int x_undoMany) w_aside w_then w_hold (.int x_dropped) w_acts w_guarded w_train (.int x_trolleyEnd) w_feltOf w_feltBy (.int x_feltMany) w_many w_heardOf w_heardBy (.int x_heardMany) w_worth (.int x_drawn) (.int x_came) w_kept w_isKept w_keptCame), (q_now, aI cT 47 f_now), (q_asked, aI cT 7 f_asked_43), (q_rule, aB cT 40 f_rule)] H → va_D A [(h, oX8 (.ref q_now) (.int x_arches) (.int x_cats) w_text (.int x_typed) w_row (.int x_rowMany) (.int x_thrown) x_read_43 (.int x_length_43) (.int x_top_43) (.int x_at_43) (.int x_wrong_43) w_told (.ref q_rule) w_otherRule (.int x_ruleSize) (.int x_isAsked_43) (.ref q_asked) w_undos (.int x_undoMany) w_aside w_then w_hold (.int x_dropped) w_acts w_guarded w_train (.int x_trolleyEnd) w_feltOf w_feltBy (.int x_feltMany) w_many w_heardOf w_heardBy (.int x_heardMany) w_worth (.int x_drawn) (.int x_came) w_kept w_isKept w_keptCame), (q_now, aI cT 47 f_now), (q_asked, aI cT 7 f_asked_43), (q_rule, aB cT 40 f_rule)] → va_S A s.heap H locs → lv_has ls 11 [(0, .ref h), (1, .int p1), (2, .int p2), (3, .int r_6), (6, .int y6_16)] → W p l e (rmO 324 10150 0 0) s m ([.ref h, .int p1, .int p2] : List Value).toArray below meth c H locs 0 0 (MQ below (va_Ql Post (cB D A (fun (u : (Value × Int32 × Int32 × Int32 × Int32 × Int32 × (Nat → Int32))) => [(h, oX8 (.ref q_now) (.int x_arches) (.int x_cats) w_text (.int x_typed) w_row (.int x_rowMany) (.int x_thrown) u.1 (.int u.2.1) (.int u.2.2.1) (.int u.2.2.2.1) (.int u.2.2.2.2.1) w_told (.ref q_rule) w_otherRule (.int x_ruleSize) (.int u.2.2.2.2.2.1) (.ref q_asked) w_undos (.int x_undoMany) w_aside w_then w_hold (.int x_dropped) w_acts w_guarded w_train (.int x_trolleyEnd) w_feltOf w_feltBy (.int x_feltMany) w_many w_heardOf w_heardBy (.int x_heardMany) w_worth (.int x_drawn) (.int x_came) w_kept w_isKept w_keptCame), (q_now, aI cT 47 f_now), (q_asked, aI cT 7 u.2.2.2.2.2.2), (q_rule, aB cT 40 f_rule)])) A) ([.ref h, .int p1, .int p2] : List Value).toArray s 0 0 A) (F0 m 143 ls [.long s1_143, .long y4_16]) := by
        intro y6_16 y4_16 x_read_43 x_length_43 x_top_43 x_at_43 x_wrong_43 x_isAsked_43 f_asked_43 s1_143 H locs ls hg hP hD hS hl
        unfold p_X8_partsOf_143 at hg
        refine lv_ladd hx hb dX8_partsOf_143 ?_
        refine lv_lstore (lv' := [(4, .long (y4_16 + s1_143)), (0, .ref h), (1, .int p1), (2, .int p2), (3, .int r_6), (6, .int y6_16)]) hx hb dX8_partsOf_144 hl (by decide) rfl (fun ls hl => ?_)
        exact L146 y6_16 (y4_16 + s1_143) x_read_43 x_length_43 x_top_43 x_at_43 x_wrong_43 x_isAsked_43 f_asked_43 _ _ _ hg hP hD hS (lv_sub hl [1, 2, 3, 4, 0, 5] rfl)
      have L43 : ∀ (y6_16 : Int32) (y4_16 : Int64) (n43 : Nat) (y10_43 : Int32) (y9_43 : Int32) (y7_43 : Int64) (x_read_43 : Value) (x_length_43 : Int32) (x_top_43 : Int32) (x_at_43 : Int32) (x_wrong_43 : Int32) (x_isAsked_43 : Int32) (f_asked_43 : Nat → Int32) (H : Heap) (locs : List Loc) (ls : Array Slot), p_X8_partsOf_43 F p1 p2 x_cats q_rule x_ruleSize f_now f_rule r_6 y6_16 y4_16 (p_X8_partsOf_16 F p1 p2 x_cats q_rule x_ruleSize f_now f_rule r_6 Post n16) Post n43 y10_43 y9_43 y7_43 x_read_43 x_length_43 x_top_43 x_at_43 x_wrong_43 x_isAsked_43 f_asked_43 → va_P D cls9 [(h, oX8 (.ref q_now) (.int x_arches) (.int x_cats) w_text (.int x_typed) w_row (.int x_rowMany) (.int x_thrown) x_read_43 (.int x_length_43) (.int x_top_43) (.int x_at_43) (.int x_wrong_43) w_told (.ref q_rule) w_otherRule (.int x_ruleSize) (.int x_isAsked_43) (.ref q_asked) w_undos (.int x_undoMany) w_aside w_then w_hold (.int x_dropped) w_acts w_guarded w_train (.int x_trolleyEnd) w_feltOf w_feltBy (.int x_feltMany) w_many w_heardOf w_heardBy (.int x_heardMany) w_worth (.int x_drawn) (.int x_came) w_kept w_isKept w_keptCame), (q_now, aI cT 47 f_now), (q_asked, aI cT 7 f_asked_43), (q_rule, aB cT 40 f_rule)] H → va_D A [(h, oX8 (.ref q_now) (.int x_arches) (.int x_cats) w_text (.int x_typed) w_row (.int x_rowMany) (.int x_thrown) x_read_43 (.int x_length_43) (.int x_top_43) (.int x_at_43) (.int x_wrong_43) w_told (.ref q_rule) w_otherRule (.int x_ruleSize) (.int x_isAsked_43) (.ref q_asked) w_undos (.int x_undoMany) w_aside w_then w_hold (.int x_dropped) w_acts w_guarded w_train (.int x_trolleyEnd) w_feltOf w_feltBy (.int x_feltMany) w_many w_heardOf w_heardBy (.int x_heardMany) w_worth (.int x_drawn) (.int x_came) w_kept w_isKept w_keptCame), (q_now, aI cT 47 f_now), (q_asked, aI cT 7 f_asked_43), (q_rule, aB cT 40 f_rule)] → va_S A s.heap H locs → lv_has ls 11 [(0, .ref h), (1, .int p1), (2, .int p2), (3, .int r_6), (4, .long y4_16), (6, .int y6_16), (7, .long y7_43), (9, .int y9_43), (10, .int y10_43)] → W p l e (rmO 324 10150 0 0) s m ([.ref h, .int p1, .int p2] : List Value).toArray below meth c H locs 0 0 (MQ below (va_Ql Post (cB D A (fun (u : (Value × Int32 × Int32 × Int32 × Int32 × Int32 × (Nat → Int32))) => [(h, oX8 (.ref q_now) (.int x_arches) (.int x_cats) w_text (.int x_typed) w_row (.int x_rowMany) (.int x_thrown) u.1 (.int u.2.1) (.int u.2.2.1) (.int u.2.2.2.1) (.int u.2.2.2.2.1) w_told (.ref q_rule) w_otherRule (.int x_ruleSize) (.int u.2.2.2.2.2.1) (.ref q_asked) w_undos (.int x_undoMany) w_aside w_then w_hold (.int x_dropped) w_acts w_guarded w_train (.int x_trolleyEnd) w_feltOf w_feltBy (.int x_feltMany) w_many w_heardOf w_heardBy (.int x_heardMany) w_worth (.int x_drawn) (.int x_came) w_kept w_isKept w_keptCame), (q_now, aI cT 47 f_now), (q_asked, aI cT 7 u.2.2.2.2.2.2), (q_rule, aB cT 40 f_rule)])) A) ([.ref h, .int p1, .int p2] : List Value).toArray s 0 0 A) (F0 m 43 ls []) := by
        intro y6_16 y4_16 n43
        induction n43 with
        | zero =>
          intro y10_43 y9_43 y7_43 x_read_43 x_length_43 x_top_43 x_at_43 x_wrong_43 x_isAsked_43 f_asked_43 H locs ls hg hP hD hS hl
          exact False.elim hg
        | succ n43 ih43 =>
          have L118 : ∀ (y10_43 : Int32) (y7_118 : Int64) (y9_118 : Int32) (x_read_118 : Value) (x_length_118 : Int32) (x_top_118 : Int32) (x_at_118 : Int32) (x_wrong_118 : Int32) (x_isAsked_118 : Int32) (f_asked_118 : Nat → Int32) (H : Heap) (locs : List Loc) (ls : Array Slot), p_X8_partsOf_118 F y10_43 (p_X8_partsOf_16 F p1 p2 x_cats q_rule x_ruleSize f_now f_rule r_6 Post n16) (p_X8_partsOf_43 F p1 p2 x_cats q_rule x_ruleSize f_now f_rule r_6 y6_16 y4_16 (p_X8_partsOf_16 F p1 p2 x_cats q_rule x_ruleSize f_now f_rule r_6 Post n16) Post n43) Post y7_118 y9_118 x_read_118 x_length_118 x_top_118 x_at_118 x_wrong_118 x_isAsked_118 f_asked_118 → va_P D cls9 [(h, oX8 (.ref q_now) (.int x_arches) (.int x_cats) w_text (.int x_typed) w_row (.int x_rowMany) (.int x_thrown) x_read_118 (.int x_length_118) (.int x_top_118) (.int x_at_118) (.int x_wrong_118) w_told (.ref q_rule) w_otherRule (.int x_ruleSize) (.int x_isAsked_118) (.ref q_asked) w_undos (.int x_undoMany) w_aside w_then w_hold (.int x_dropped) w_acts w_guarded w_train (.int x_trolleyEnd) w_feltOf w_feltBy (.int x_feltMany) w_many w_heardOf w_heardBy (.int x_heardMany) w_worth (.int x_drawn) (.int x_came) w_kept w_isKept w_keptCame), (q_now, aI cT 47 f_now), (q_asked, aI cT 7 f_asked_118), (q_rule, aB cT 40 f_rule)] H → va_D A [(h, oX8 (.ref q_now) (.int x_arches) (.int x_cats) w_text (.int x_typed) w_row (.int x_rowMany) (.int x_thrown) x_read_118 (.int x_length_118) (.int x_top_118) (.int x_at_118) (.int x_wrong_118) w_told (.ref q_rule) w_otherRule (.int x_ruleSize) (.int x_isAsked_118) (.ref q_asked) w_undos (.int x_undoMany) w_aside w_then w_hold (.int x_dropped) w_acts w_guarded w_train (.int x_trolleyEnd) w_feltOf w_feltBy (.int x_feltMany) w_many w_heardOf w_heardBy (.int x_heardMany) w_worth (.int x_drawn) (.int x_came) w_kept w_isKept w_keptCame), (q_now, aI cT 47 f_now), (q_asked, aI cT 7 f_asked_118), (q_rule, aB cT 40 f_rule)] → va_S A s.heap H locs → lv_has ls 11 [(0, .ref h), (1, .int p1), (2, .int p2), (3, .int r_6), (4, .long y4_16), (6, .int y6_16), (7, .long y7_118), (9, .int y9_118), (10, .int y10_43)] → W p l e (rmO 324 10150 0 0) s m ([.ref h, .int p1, .int p2] : List Value).toArray below meth c H locs 0 0 (MQ below (va_Ql Post (cB D A (fun (u : (Value × Int32 × Int32 × Int32 × Int32 × Int32 × (Nat → Int32))) => [(h, oX8 (.ref q_now) (.int x_arches) (.int x_cats) w_text (.int x_typed) w_row (.int x_rowMany) (.int x_thrown) u.1 (.int u.2.1) (.int u.2.2.1) (.int u.2.2.2.1) (.int u.2.2.2.2.1) w_told (.ref q_rule) w_otherRule (.int x_ruleSize) (.int u.2.2.2.2.2.1) (.ref q_asked) w_undos (.int x_undoMany) w_aside w_then w_hold (.int x_dropped) w_acts w_guarded w_train (.int x_trolleyEnd) w_feltOf w_feltBy (.int x_feltMany) w_many w_heardOf w_heardBy (.int x_heardMany) w_worth (.int x_drawn) (.int x_came) w_kept w_isKept w_keptCame), (q_now, aI cT 47 f_now), (q_asked, aI cT 7 u.2.2.2.2.2.2), (q_rule, aB cT 40 f_rule)])) A) ([.ref h, .int p1, .int p2] : List Value).toArray s 0 0 A) (F0 m 118 ls []) := by
            intro y10_43 y7_118 y9_118 x_read_118 x_length_118 x_top_118 x_at_118 x_wrong_118 x_isAsked_118 f_asked_118 H locs ls hg hP hD hS hl
            unfold p_X8_partsOf_118 at hg
            refine lv_iinc (v := (y10_43 + (1 : Int32))) (lv' := [(10, .int (y10_43 + (1 : Int32))), (0, .ref h), (1, .int p1), (2, .int p2), (3, .int r_6), (4, .long y4_16), (6, .int y6_16), (7, .long y7_118), (9, .int y9_118)]) hx hb dX8_partsOf_118 hl (k := 8) rfl rfl (by decide) rfl (fun ls hl => ?_)
            refine lv_goto (tgt := 43) hx hb dX8_partsOf_121 (by decide) ?_
            exact ih43 (y10_43 + (1 : Int32)) y9_118 y7_118 x_read_118 x_length_118 x_top_118 x_at_118 x_wrong_118 x_isAsked_118 f_asked_118 _ _ _ hg hP hD hS (lv_sub hl [1, 2, 3, 4, 5, 6, 7, 8, 0] rfl)
          have L115 : ∀ (s1_86 : Int64) (y10_43 : Int32) (y9_43 : Int32) (y7_43 : Int64) (s1_115 : Int32) (x_read_115 : Value) (x_length_115 : Int32) (x_top_115 : Int32) (x_at_115 : Int32) (x_wrong_115 : Int32) (x_isAsked_115 : Int32) (f_asked_115 : Nat → Int32) (H : Heap) (locs : List Loc) (ls : Array Slot), p_X8_partsOf_115 F s1_86 y10_43 y9_43 y7_43 (p_X8_partsOf_16 F p1 p2 x_cats q_rule x_ruleSize f_now f_rule r_6 Post n16) (p_X8_partsOf_43 F p1 p2 x_cats q_rule x_ruleSize f_now f_rule r_6 y6_16 y4_16 (p_X8_partsOf_16 F p1 p2 x_cats q_rule x_ruleSize f_now f_rule r_6 Post n16) Post n43) Post s1_115 x_read_115 x_length_115 x_top_115 x_at_115 x_wrong_115 x_isAsked_115 f_asked_115 → va_P D cls9 [(h, oX8 (.ref q_now) (.int x_arches) (.int x_cats) w_text (.int x_typed) w_row (.int x_rowMany) (.int x_thrown) x_read_115 (.int x_length_115) (.int x_top_115) (.int x_at_115) (.int x_wrong_115) w_told (.ref q_rule) w_otherRule (.int x_ruleSize) (.int x_isAsked_115) (.ref q_asked) w_undos (.int x_undoMany) w_aside w_then w_hold (.int x_dropped) w_acts w_guarded w_train (.int x_trolleyEnd) w_feltOf w_feltBy (.int x_feltMany) w_many w_heardOf w_heardBy (.int x_heardMany) w_worth (.int x_drawn) (.int x_came) w_kept w_isKept w_keptCame), (q_now, aI cT 47 f_now), (q_asked, aI cT 7 f_asked_115), (q_rule, aB cT 40 f_rule)] H → va_D A [(h, oX8 (.ref q_now) (.int x_arches) (.int x_cats) w_text (.int x_typed) w_row (.int x_rowMany) (.int x_thrown) x_read_115 (.int x_length_115) (.int x_top_115) (.int x_at_115) (.int x_wrong_115) w_told (.ref q_rule) w_otherRule (.int x_ruleSize) (.int x_isAsked_115) (.ref q_asked) w_undos (.int x_undoMany) w_aside w_then w_hold (.int x_dropped) w_acts w_guarded w_train (.int x_trolleyEnd) w_feltOf w_feltBy (.int x_feltMany) w_many w_heardOf w_heardBy (.int x_heardMany) w_worth (.int x_drawn) (.int x_came) w_kept w_isKept w_keptCame), (q_now, aI cT 47 f_now), (q_asked, aI cT 7 f_asked_115), (q_rule, aB cT 40 f_rule)] → va_S A s.heap H locs → lv_has ls 11 [(0, .ref h), (1, .int p1), (2, .int p2), (3, .int r_6), (4, .long y4_16), (6, .int y6_16), (7, .long (y7_43 * s1_86)), (10, .int y10_43)] → W p l e (rmO 324 10150 0 0) s m ([.ref h, .int p1, .int p2] : List Value).toArray below meth c H locs 0 0 (MQ below (va_Ql Post (cB D A (fun (u : (Value × Int32 × Int32 × Int32 × Int32 × Int32 × (Nat → Int32))) => [(h, oX8 (.ref q_now) (.int x_arches) (.int x_cats) w_text (.int x_typed) w_row (.int x_rowMany) (.int x_thrown) u.1 (.int u.2.1) (.int u.2.2.1) (.int u.2.2.2.1) (.int u.2.2.2.2.1) w_told (.ref q_rule) w_otherRule (.int x_ruleSize) (.int u.2.2.2.2.2.1) (.ref q_asked) w_undos (.int x_undoMany) w_aside w_then w_hold (.int x_dropped) w_acts w_guarded w_train (.int x_trolleyEnd) w_feltOf w_feltBy (.int x_feltMany) w_many w_heardOf w_heardBy (.int x_heardMany) w_worth (.int x_drawn) (.int x_came) w_kept w_isKept w_keptCame), (q_now, aI cT 47 f_now), (q_asked, aI cT 7 u.2.2.2.2.2.2), (q_rule, aB cT 40 f_rule)])) A) ([.ref h, .int p1, .int p2] : List Value).toArray s 0 0 A) (F0 m 115 ls [.int s1_115, .int y9_43]) := by
            intro s1_86 y10_43 y9_43 y7_43 s1_115 x_read_115 x_length_115 x_top_115 x_at_115 x_wrong_115 x_isAsked_115 f_asked_115 H locs ls hg hP hD hS hl
            unfold p_X8_partsOf_115 at hg
            refine lv_iadd hx hb dX8_partsOf_115 ?_
            refine lv_istore (lv' := [(9, .int (y9_43 + s1_115)), (0, .ref h), (1, .int p1), (2, .int p2), (3, .int r_6), (4, .long y4_16), (6, .int y6_16), (7, .long (y7_43 * s1_86)), (10, .int y10_43)]) hx hb dX8_partsOf_116 hl (by decide) rfl (fun ls hl => ?_)
            exact L118 y10_43 (y7_43 * s1_86) (y9_43 + s1_115) x_read_115 x_length_115 x_top_115 x_at_115 x_wrong_115 x_isAsked_115 f_asked_115 _ _ _ hg hP hD hS (lv_sub hl [1, 2, 3, 4, 5, 6, 7, 0, 8] rfl)
          have L86 : ∀ (y10_43 : Int32) (y9_43 : Int32) (y7_43 : Int64) (x_read_43 : Value) (x_length_43 : Int32) (x_top_43 : Int32) (x_at_43 : Int32) (x_wrong_43 : Int32) (x_isAsked_43 : Int32) (f_asked_43 : Nat → Int32) (s1_86 : Int64) (H : Heap) (locs : List Loc) (ls : Array Slot), p_X8_partsOf_86 F x_cats q_rule x_ruleSize f_now f_rule y6_16 y10_43 y9_43 y7_43 x_read_43 x_length_43 x_top_43 x_at_43 x_wrong_43 x_isAsked_43 f_asked_43 (p_X8_partsOf_16 F p1 p2 x_cats q_rule x_ruleSize f_now f_rule r_6 Post n16) (p_X8_partsOf_43 F p1 p2 x_cats q_rule x_ruleSize f_now f_rule r_6 y6_16 y4_16 (p_X8_partsOf_16 F p1 p2 x_cats q_rule x_ruleSize f_now f_rule r_6 Post n16) Post n43) Post s1_86 → va_P D cls9 [(h, oX8 (.ref q_now) (.int x_arches) (.int x_cats) w_text (.int x_typed) w_row (.int x_rowMany) (.int x_thrown) x_read_43 (.int x_length_43) (.int x_top_43) (.int x_at_43) (.int x_wrong_43) w_told (.ref q_rule) w_otherRule (.int x_ruleSize) (.int x_isAsked_43) (.ref q_asked) w_undos (.int x_undoMany) w_aside w_then w_hold (.int x_dropped) w_acts w_guarded w_train (.int x_trolleyEnd) w_feltOf w_feltBy (.int x_feltMany) w_many w_heardOf w_heardBy (.int x_heardMany) w_worth (.int x_drawn) (.int x_came) w_kept w_isKept w_keptCame), (q_now, aI cT 47 f_now), (q_asked, aI cT 7 f_asked_43), (q_rule, aB cT 40 f_rule)] H → va_D A [(h, oX8 (.ref q_now) (.int x_arches) (.int x_cats) w_text (.int x_typed) w_row (.int x_rowMany) (.int x_thrown) x_read_43 (.int x_length_43) (.int x_top_43) (.int x_at_43) (.int x_wrong_43) w_told (.ref q_rule) w_otherRule (.int x_ruleSize) (.int x_isAsked_43) (.ref q_asked) w_undos (.int x_undoMany) w_aside w_then w_hold (.int x_dropped) w_acts w_guarded w_train (.int x_trolleyEnd) w_feltOf w_feltBy (.int x_feltMany) w_many w_heardOf w_heardBy (.int x_heardMany) w_worth (.int x_drawn) (.int x_came) w_kept w_isKept w_keptCame), (q_now, aI cT 47 f_now), (q_asked, aI cT 7 f_asked_43), (q_rule, aB cT 40 f_rule)] → va_S A s.heap H locs → lv_has ls 11 [(0, .ref h), (1, .int p1), (2, .int p2), (3, .int r_6), (4, .long y4_16), (6, .int y6_16), (9, .int y9_43), (10, .int y10_43)] → W p l e (rmO 324 10150 0 0) s m ([.ref h, .int p1, .int p2] : List Value).toArray below meth c H locs 0 0 (MQ below (va_Ql Post (cB D A (fun (u : (Value × Int32 × Int32 × Int32 × Int32 × Int32 × (Nat → Int32))) => [(h, oX8 (.ref q_now) (.int x_arches) (.int x_cats) w_text (.int x_typed) w_row (.int x_rowMany) (.int x_thrown) u.1 (.int u.2.1) (.int u.2.2.1) (.int u.2.2.2.1) (.int u.2.2.2.2.1) w_told (.ref q_rule) w_otherRule (.int x_ruleSize) (.int u.2.2.2.2.2.1) (.ref q_asked) w_undos (.int x_undoMany) w_aside w_then w_hold (.int x_dropped) w_acts w_guarded w_train (.int x_trolleyEnd) w_feltOf w_feltBy (.int x_feltMany) w_many w_heardOf w_heardBy (.int x_heardMany) w_worth (.int x_drawn) (.int x_came) w_kept w_isKept w_keptCame), (q_now, aI cT 47 f_now), (q_asked, aI cT 7 u.2.2.2.2.2.2), (q_rule, aB cT 40 f_rule)])) A) ([.ref h, .int p1, .int p2] : List Value).toArray s 0 0 A) (F0 m 86 ls [.long s1_86, .long y7_43]) := by
            intro y10_43 y9_43 y7_43 x_read_43 x_length_43 x_top_43 x_at_43 x_wrong_43 x_isAsked_43 f_asked_43 s1_86 H locs ls hg hP hD hS hl
            unfold p_X8_partsOf_86 at hg
            refine lv_lmul hx hb dX8_partsOf_86 ?_
            refine lv_lstore (lv' := [(7, .long (y7_43 * s1_86)), (0, .ref h), (1, .int p1), (2, .int p2), (3, .int r_6), (4, .long y4_16), (6, .int y6_16), (9, .int y9_43), (10, .int y10_43)]) hx hb dX8_partsOf_87 hl (by decide) rfl (fun ls hl => ?_)
            refine lv_iload hx hb dX8_partsOf_89 (lv_at hl 7 rfl) ?_
            refine lv_iload hx hb dX8_partsOf_91 (lv_at hl 6 rfl) ?_
            refine lv_iload hx hb dX8_partsOf_93 (lv_at hl 8 rfl) ?_
            refine k_Sxi (rest := [.int y9_43]) C0 lk_X8_292 (c_X8_has l D cT F y6_16 y10_43 _ hg) hP hD hS hA [] (by decide +kernel) rfl ⟨Nat.le_of_ble_eq_true rfl, Nat.le_of_ble_eq_true rfl⟩ rfl hl.1 rfl (Nat.le_of_ble_eq_true rfl) dX8_partsOf_95 ⟨Nat.le_of_ble_eq_true rfl, Nat.le_of_ble_eq_true rfl⟩ (fun r_95 hg => ?_)
            refine lv_if_eq (tgt := 114) hx hb dX8_partsOf_98 (by decide) (fun c_98 => ?_) (fun c_98 => ?_)
            · have hg := hg.1 c_98
              refine lv_iconst (v := (0 : Int32)) hx hb dX8_partsOf_114 (by decide) ?_
              exact L115 s1_86 y10_43 y9_43 y7_43 (0 : Int32) x_read_43 x_length_43 x_top_43 x_at_43 x_wrong_43 x_isAsked_43 f_asked_43 _ _ _ hg hP hD hS (lv_sub hl [1, 2, 3, 4, 5, 6, 0, 8] rfl)
            have hg := hg.2 c_98
            refine lv_aload_n hx hb dX8_partsOf_101 rfl (lv_at hl 1 rfl) ?_
            refine lv_aload_n hx hb dX8_partsOf_102 rfl (lv_at hl 1 rfl) ?_
            refine gf_X8_9 C0 hP 0 rfl rfl dX8_partsOf_103 ?_
            refine lv_iload hx hb dX8_partsOf_106 (lv_at hl 8 rfl) ?_
            refine k_Vi (rest := [.int y9_43]) (wr := []) (w2 := fun u_108 => [(h, oX8 (.ref q_now) (.int x_arches) (.int x_cats) w_text (.int x_typed) w_row (.int x_rowMany) (.int x_thrown) u_108.1 (.int u_108.2.1) (.int u_108.2.2.1) (.int u_108.2.2.2.1) (.int u_108.2.2.2.2.1) w_told (.ref q_rule) w_otherRule (.int x_ruleSize) (.int u_108.2.2.2.2.2.1) (.ref q_asked) w_undos (.int x_undoMany) w_aside w_then w_hold (.int x_dropped) w_acts w_guarded w_train (.int x_trolleyEnd) w_feltOf w_feltBy (.int x_feltMany) w_many w_heardOf w_heardBy (.int x_heardMany) w_worth (.int x_drawn) (.int x_came) w_kept w_isKept w_keptCame), (q_now, aI cT 47 f_now), (q_asked, aI cT 7 u_108.2.2.2.2.2.2), (q_rule, aB cT 40 f_rule)]) C0 lk_X8_211 (c_X8_purrOf l D cT F h q_now y10_43 (.ref q_now) x_arches x_cats w_text x_typed w_row x_rowMany x_thrown x_read_43 x_length_43 x_top_43 x_at_43 x_wrong_43 w_told q_rule w_otherRule x_ruleSize x_isAsked_43 q_asked w_undos x_undoMany w_aside w_then w_hold x_dropped w_acts w_guarded w_train x_trolleyEnd w_feltOf w_feltBy x_feltMany w_many w_heardOf w_heardBy x_heardMany w_worth x_drawn x_came w_kept w_isKept w_keptCame 47 f_now f_asked_43 f_rule _ hg) hP hD hS hA [0, 1, 2, 3] [] (by decide +kernel) rfl rfl (fun _ => rfl) rfl rfl ⟨Nat.le_of_ble_eq_true rfl, Nat.le_of_ble_eq_true rfl⟩ rfl hl.1 rfl (Nat.le_of_ble_eq_true rfl) dX8_partsOf_108 ⟨Nat.le_of_ble_eq_true rfl, Nat.le_of_ble_eq_true rfl⟩ ?_
            intro r_108 u_108 H locs hg hP hD hS
            refine lv_goto (tgt := 115) hx hb dX8_partsOf_111 (by decide) ?_
            exact L115 s1_86 y10_43 y9_43 y7_43 r_108 u_108.1 u_108.2.1 u_108.2.2.1 u_108.2.2.2.1 u_108.2.2.2.2.1 u_108.2.2.2.2.2.1 u_108.2.2.2.2.2.2 _ _ _ hg hP hD hS (lv_sub hl [1, 2, 3, 4, 5, 6, 0, 8] rfl)
          intro y10_43 y9_43 y7_43 x_read_43 x_length_43 x_top_43 x_at_43 x_wrong_43 x_isAsked_43 f_asked_43 H locs ls hg hP hD hS hl
          rw [p_X8_partsOf_43_s] at hg
          refine lv_iload hx hb dX8_partsOf_43 (lv_at hl 8 rfl) ?_
          refine lv_aload_n hx hb dX8_partsOf_45 rfl (lv_at hl 0 rfl) ?_
          refine gf_X8_96 C0 hP 0 rfl rfl dX8_partsOf_46 ?_
          refine lv_icmp_ge (tgt := 124) hx hb dX8_partsOf_49 (by decide) (fun c_49 => ?_) (fun c_49 => ?_)
          · have hg := hg.1 c_49
            refine lv_lload hx hb dX8_partsOf_124 (lv_at hl 4 rfl) ?_
            refine lv_iload hx hb dX8_partsOf_126 (lv_at hl 7 rfl) ?_
            refine lv_aload_n hx hb dX8_partsOf_128 rfl (lv_at hl 0 rfl) ?_
            refine gf_X8_9 C0 hP 0 rfl rfl dX8_partsOf_129 ?_
            refine lv_iload_n hx hb dX8_partsOf_132 rfl (lv_at hl 1 rfl) ?_
            obtain ⟨g_133, hg⟩ := hg
            refine k_iald C0 hP 1 rfl g_133 dX8_partsOf_133 ?_
            refine lv_icmp_lt (tgt := 142) hx hb dX8_partsOf_134 (by decide) (fun c_134 => ?_) (fun c_134 => ?_)
            · have hg := hg.1 c_134
              refine lv_lconst (v := (0 : Int64)) hx hb dX8_partsOf_142 (by decide) ?_
              exact L143 y6_16 y4_16 x_read_43 x_length_43 x_top_43 x_at_43 x_wrong_43 x_isAsked_43 f_asked_43 (0 : Int64) _ _ _ hg hP hD hS (lv_sub hl [0, 1, 2, 3, 5] rfl)
            have hg := hg.2 c_134
            refine lv_lload hx hb dX8_partsOf_137 (lv_at hl 6 rfl) ?_
            refine lv_goto (tgt := 143) hx hb dX8_partsOf_139 (by decide) ?_
            exact L143 y6_16 y4_16 x_read_43 x_length_43 x_top_43 x_at_43 x_wrong_43 x_isAsked_43 f_asked_43 y7_43 _ _ _ hg hP hD hS (lv_sub hl [0, 1, 2, 3, 5] rfl)
          have hg := hg.2 c_49
          refine lv_iload_n hx hb dX8_partsOf_52 rfl (lv_at hl 3 rfl) ?_
          refine lv_iload hx hb dX8_partsOf_53 (lv_at hl 8 rfl) ?_
          refine k_Sxi (rest := []) C0 lk_X8_292 (c_X8_has l D cT F r_6 y10_43 _ hg) hP hD hS hA [] (by decide +kernel) rfl ⟨Nat.le_of_ble_eq_true rfl, Nat.le_of_ble_eq_true rfl⟩ rfl hl.1 rfl (Nat.le_of_ble_eq_true rfl) dX8_partsOf_55 ⟨Nat.le_of_ble_eq_true rfl, Nat.le_of_ble_eq_true rfl⟩ (fun r_55 hg => ?_)
          refine lv_if_ne (tgt := 64) hx hb dX8_partsOf_58 (by decide) (fun c_58 => ?_) (fun c_58 => ?_)
          · have hg := hg.1 c_58
            refine lv_lload hx hb dX8_partsOf_64 (lv_at hl 6 rfl) ?_
            refine lv_iload hx hb dX8_partsOf_66 (lv_at hl 5 rfl) ?_
            refine lv_iload hx hb dX8_partsOf_68 (lv_at hl 8 rfl) ?_
            refine k_Sxi (rest := [.long y7_43]) C0 lk_X8_292 (c_X8_has l D cT F y6_16 y10_43 _ hg) hP hD hS hA [] (by decide +kernel) rfl ⟨Nat.le_of_ble_eq_true rfl, Nat.le_of_ble_eq_true rfl⟩ rfl hl.1 rfl (Nat.le_of_ble_eq_true rfl) dX8_partsOf_70 ⟨Nat.le_of_ble_eq_true rfl, Nat.le_of_ble_eq_true rfl⟩ (fun r_70 hg => ?_)
            refine lv_if_eq (tgt := 84) hx hb dX8_partsOf_73 (by decide) (fun c_73 => ?_) (fun c_73 => ?_)
            · have hg := hg.1 c_73
              refine lv_iload_n hx hb dX8_partsOf_84 rfl (lv_at hl 2 rfl) ?_
              refine lv_i2l (v := (p2.toInt64)) hx hb dX8_partsOf_85 rfl ?_
              exact L86 y10_43 y9_43 y7_43 x_read_43 x_length_43 x_top_43 x_at_43 x_wrong_43 x_isAsked_43 f_asked_43 (p2.toInt64) _ _ _ hg hP hD hS (lv_sub hl [0, 1, 2, 3, 4, 5, 7, 8] rfl)
            have hg := hg.2 c_73
            refine lv_bipush (v := (10 : Int32)) hx hb dX8_partsOf_76 (by decide) ?_
            refine lv_iload_n hx hb dX8_partsOf_78 rfl (lv_at hl 2 rfl) ?_
            refine lv_isub hx hb dX8_partsOf_79 ?_
            refine lv_i2l (v := (((10 : Int32) - p2).toInt64)) hx hb dX8_partsOf_80 rfl ?_
            refine lv_goto (tgt := 86) hx hb dX8_partsOf_81 (by decide) ?_
            exact L86 y10_43 y9_43 y7_43 x_read_43 x_length_43 x_top_43 x_at_43 x_wrong_43 x_isAsked_43 f_asked_43 (((10 : Int32) - p2).toInt64) _ _ _ hg hP hD hS (lv_sub hl [0, 1, 2, 3, 4, 5, 7, 8] rfl)
          have hg := hg.2 c_58
          refine lv_goto (tgt := 118) hx hb dX8_partsOf_61 (by decide) ?_
          exact L118 y10_43 y7_43 y9_43 x_read_43 x_length_43 x_top_43 x_at_43 x_wrong_43 x_isAsked_43 f_asked_43 _ _ _ hg hP hD hS hl
      intro y6_16 y4_16 x_read_16 x_length_16 x_top_16 x_at_16 x_wrong_16 x_isAsked_16 f_asked_16 H locs ls hg hP hD hS hl
      rw [p_X8_partsOf_16_s] at hg
      refine lv_iload hx hb dX8_partsOf_16 (lv_at hl 5 rfl) ?_
      refine lv_iload_n hx hb dX8_partsOf_18 rfl (lv_at hl 3 rfl) ?_
      refine lv_icmp_gt (tgt := 152) hx hb dX8_partsOf_19 (by decide) (fun c_19 => ?_) (fun c_19 => ?_)
      · have hg := hg.1 c_19
        refine lv_lload hx hb dX8_partsOf_152 (lv_at hl 4 rfl) ?_
        exact k_lret C0 hr (x_read_16, x_length_16, x_top_16, x_at_16, x_wrong_16, x_isAsked_16, f_asked_16) hg hP hD hS dX8_partsOf_154
      have hg := hg.2 c_19
      refine lv_iload hx hb dX8_partsOf_22 (lv_at hl 5 rfl) ?_
      refine lv_iload_n hx hb dX8_partsOf_24 rfl (lv_at hl 3 rfl) ?_
      refine lv_iconst (v := (-1 : Int32)) hx hb dX8_partsOf_25 (by decide) ?_
      refine lv_ixor hx hb dX8_partsOf_26 ?_
      refine lv_iand hx hb dX8_partsOf_27 ?_
      refine lv_if_eq (tgt := 34) hx hb dX8_partsOf_28 (by decide) (fun c_28 => ?_) (fun c_28 => ?_)
      · have hg := hg.1 c_28
        refine lv_lconst (v := (1 : Int64)) hx hb dX8_partsOf_34 (by decide) ?_
        refine lv_lstore (lv' := [(7, .long (1 : Int64)), (0, .ref h), (1, .int p1), (2, .int p2), (3, .int r_6), (4, .long y4_16), (6, .int y6_16)]) hx hb dX8_partsOf_35 hl (by decide) rfl (fun ls hl => ?_)
        refine lv_iconst (v := (0 : Int32)) hx hb dX8_partsOf_37 (by decide) ?_
        refine lv_istore (lv' := [(9, .int (0 : Int32)), (7, .long (1 : Int64)), (0, .ref h), (1, .int p1), (2, .int p2), (3, .int r_6), (4, .long y4_16), (6, .int y6_16)]) hx hb dX8_partsOf_38 hl (by decide) rfl (fun ls hl => ?_)
        refine lv_iconst (v := (0 : Int32)) hx hb dX8_partsOf_40 (by decide) ?_
        refine lv_istore (lv' := [(10, .int (0 : Int32)), (9, .int (0 : Int32)), (7, .long (1 : Int64)), (0, .ref h), (1, .int p1), (2, .int p2), (3, .int r_6), (4, .long y4_16), (6, .int y6_16)]) hx hb dX8_partsOf_41 hl (by decide) rfl (fun ls hl => ?_)
        exact L43 y6_16 y4_16 F (0 : Int32) (0 : Int32) (1 : Int64) x_read_16 x_length_16 x_top_16 x_at_16 x_wrong_16 x_isAsked_16 f_asked_16 _ _ _ hg hP hD hS (lv_sub hl [3, 4, 5, 6, 7, 8, 2, 1, 0] rfl)
      have hg := hg.2 c_28
      refine lv_goto (tgt := 146) hx hb dX8_partsOf_31 (by decide) ?_
      exact L146 y6_16 y4_16 x_read_16 x_length_16 x_top_16 x_at_16 x_wrong_16 x_isAsked_16 f_asked_16 _ _ _ hg hP hD hS hl
  unfold p_X8_partsOf at hg
  refine lv_aload_n hx hb dX8_partsOf_0 rfl (lv_at hl 0 rfl) ?_
  refine lv_aload_n hx hb dX8_partsOf_1 rfl (lv_at hl 0 rfl) ?_
  refine gf_X8_9 C0 hP 0 rfl rfl dX8_partsOf_2 ?_
  refine lv_iload_n hx hb dX8_partsOf_5 rfl (lv_at hl 1 rfl) ?_
  refine k_Vxi (rest := []) C0 lk_X8_198 (c_X8_there l D cT F h q_now p1 (.ref q_now) x_arches x_cats w_text x_typed w_row x_rowMany x_thrown w_read x_length x_top x_at x_wrong w_told (.ref q_rule) w_otherRule x_ruleSize x_isAsked (.ref q_asked) w_undos x_undoMany w_aside w_then w_hold x_dropped w_acts w_guarded w_train x_trolleyEnd w_feltOf w_feltBy x_feltMany w_many w_heardOf w_heardBy x_heardMany w_worth x_drawn x_came w_kept w_isKept w_keptCame 47 f_now _ hg) hP hD hS hA [0, 1] (by decide +kernel) rfl rfl rfl ⟨Nat.le_of_ble_eq_true rfl, Nat.le_of_ble_eq_true rfl⟩ rfl hl.1 rfl (Nat.le_of_ble_eq_true rfl) dX8_partsOf_6 ⟨Nat.le_of_ble_eq_true rfl, Nat.le_of_ble_eq_true rfl⟩ (fun r_6 hg => ?_)
  refine lv_istore_n (lv' := [(3, .int r_6), (0, .ref h), (1, .int p1), (2, .int p2)]) hx hb dX8_partsOf_9 rfl hl (by decide) rfl (fun ls hl => ?_)
  refine lv_lconst (v := (0 : Int64)) hx hb dX8_partsOf_10 (by decide) ?_
  refine lv_lstore (lv' := [(4, .long (0 : Int64)), (3, .int r_6), (0, .ref h), (1, .int p1), (2, .int p2)]) hx hb dX8_partsOf_11 hl (by decide) rfl (fun ls hl => ?_)
  refine lv_iconst (v := (0 : Int32)) hx hb dX8_partsOf_13 (by decide) ?_
  refine lv_istore (lv' := [(6, .int (0 : Int32)), (4, .long (0 : Int64)), (3, .int r_6), (0, .ref h), (1, .int p1), (2, .int p2)]) hx hb dX8_partsOf_14 hl (by decide) rfl (fun ls hl => ?_)
  exact L16 r_6 F (0 : Int32) (0 : Int64) w_read x_length x_top x_at x_wrong x_isAsked f_asked _ _ _ hg hP hD hS (lv_sub hl [3, 4, 5, 2, 1, 0] rfl)
theorem dX8_tens_0 : decode cX8_tens 0 = .ok (.lconst 1, 1) := by decide +kernel
theorem dX8_tens_1 : decode cX8_tens 1 = .ok (.lstore_n 1, 1) := by decide +kernel
theorem dX8_tens_2 : decode cX8_tens 2 = .ok (.iconst 0, 1) := by decide +kernel
theorem dX8_tens_3 : decode cX8_tens 3 = .ok (.istore_n 3, 1) := by decide +kernel
theorem dX8_tens_4 : decode cX8_tens 4 = .ok (.iload_n 3, 1) := by decide +kernel
theorem dX8_tens_5 : decode cX8_tens 5 = .ok (.iload_n 0, 1) := by decide +kernel
theorem dX8_tens_6 : decode cX8_tens 6 = .ok (.if_icmp .ge 15, 3) := by decide +kernel
theorem dX8_tens_9 : decode cX8_tens 9 = .ok (.lload_n 1, 1) := by decide +kernel
theorem dX8_tens_10 : decode cX8_tens 10 = .ok (.ldc2_w 354, 3) := by decide +kernel
theorem dX8_tens_13 : decode cX8_tens 13 = .ok (.lmul, 1) := by decide +kernel
theorem dX8_tens_14 : decode cX8_tens 14 = .ok (.lstore_n 1, 1) := by decide +kernel
theorem dX8_tens_15 : decode cX8_tens 15 = .ok (.iinc 3 1, 3) := by decide +kernel
theorem dX8_tens_18 : decode cX8_tens 18 = .ok (.goto (-14), 3) := by decide +kernel
theorem dX8_tens_21 : decode cX8_tens 21 = .ok (.lload_n 1, 1) := by decide +kernel
theorem dX8_tens_22 : decode cX8_tens 22 = .ok (.lreturn, 1) := by decide +kernel
noncomputable def p_X8_tens_4 (F : Nat) (p0 : Int32) (Post : Int64 → Prop) (n : Nat) : Int32 → Int64 → Prop := Nat.rec (motive := fun _ => Int32 → Int64 → Prop) (fun _ _ => False) (fun _ k4 => fun (y3_4 : Int32) (y1_4 : Int64) => ((p0 ≤ y3_4 → (Post y1_4)) ∧ (¬ p0 ≤ y3_4 → (k4 (y3_4 + (1 : Int32)) (y1_4 * (10 : Int64)))))) n
theorem p_X8_tens_4_s (F : Nat) (p0 : Int32) (Post : Int64 → Prop) (n : Nat) (y3_4 : Int32) (y1_4 : Int64) : p_X8_tens_4 F p0 Post (n + 1) y3_4 y1_4 = ((p0 ≤ y3_4 → (Post y1_4)) ∧ (¬ p0 ≤ y3_4 → ((p_X8_tens_4 F p0 Post n) (y3_4 + (1 : Int32)) (y1_4 * (10 : Int64))))) := rfl
def p_X8_tens (F : Nat) (p0 : Int32) (Post : Int64 → Prop) : Prop := (p_X8_tens_4 F p0 Post F (0 : Int32) (1 : Int64))
set_option maxHeartbeats 4000000 in
set_option maxRecDepth 100000 in
theorem c_X8_tens (l : Launch) (D : va_G) (cT : Nat → ClassId) (F : Nat) (p0 : Int32) (Post : Int64 → Prop) (hg : p_X8_tens F p0 Post) : MRl l D cT yX8_tens cX8_tens 4 (some .long) 0 0 [.int p0] [] Post := by
  refine MRl.of (by decide) (Nat.le_of_ble_eq_true rfl) ?_
  intro p e s m below meth c hA C0 hr hP hD hS ls hl
  have hl : lv_has ls 4 [(0, .int p0)] := hl
  have hx := C0.x
  have hb := C0.b
  have hP : va_P D cls9 [] s.heap := hP
  have hD : va_D (fun q => cT 6 ≤ q) [] := hD
  have L4 : ∀ (n4 : Nat) (y3_4 : Int32) (y1_4 : Int64) (ls : Array Slot), p_X8_tens_4 F p0 Post n4 y3_4 y1_4 → lv_has ls 4 [(0, .int p0), (1, .long y1_4), (3, .int y3_4)] → W p l e (rmO 0 0 0 0) s m ([.int p0] : List Value).toArray below meth c s.heap [] 0 0 (MQ below (vp_Sl Post) ([.int p0] : List Value).toArray s 0 0 (fun _ => False)) (F0 m 4 ls []) := by
    intro n4
    induction n4 with
    | zero =>
      intro y3_4 y1_4 ls hg hl
      exact False.elim hg
    | succ n4 ih4 =>
      intro y3_4 y1_4 ls hg hl
      rw [p_X8_tens_4_s] at hg
      refine lv_iload_n hx hb dX8_tens_4 rfl (lv_at hl 2 rfl) ?_
      refine lv_iload_n hx hb dX8_tens_5 rfl (lv_at hl 0 rfl) ?_
      refine lv_icmp_ge (tgt := 21) hx hb dX8_tens_6 (by decide) (fun c_6 => ?_) (fun c_6 => ?_)
      · have hg := hg.1 c_6
        refine lv_lload_n hx hb dX8_tens_21 rfl (lv_at hl 1 rfl) ?_
        exact k_xlret C0 hr hg dX8_tens_22
      have hg := hg.2 c_6
      refine lv_lload_n hx hb dX8_tens_9 rfl (lv_at hl 1 rfl) ?_
      refine lv_ldc2 (v := (10 : Int64)) hx hb C0.ow (C0.t w6_226) dX8_tens_10 ?_
      refine lv_lmul hx hb dX8_tens_13 ?_
      refine lv_lstore_n (lv' := [(1, .long (y1_4 * (10 : Int64))), (0, .int p0), (3, .int y3_4)]) hx hb dX8_tens_14 rfl hl (by decide) rfl (fun ls hl => ?_)
      refine lv_iinc (v := (y3_4 + (1 : Int32))) (lv' := [(3, .int (y3_4 + (1 : Int32))), (1, .long (y1_4 * (10 : Int64))), (0, .int p0)]) hx hb dX8_tens_15 hl (k := 2) rfl rfl (by decide) rfl (fun ls hl => ?_)
      refine lv_goto (tgt := 4) hx hb dX8_tens_18 (by decide) ?_
      exact ih4 (y3_4 + (1 : Int32)) (y1_4 * (10 : Int64)) _ hg (lv_sub hl [2, 1, 0] rfl)
  unfold p_X8_tens at hg
  refine lv_lconst (v := (1 : Int64)) hx hb dX8_tens_0 (by decide) ?_
  refine lv_lstore_n (lv' := [(1, .long (1 : Int64)), (0, .int p0)]) hx hb dX8_tens_1 rfl hl (by decide) rfl (fun ls hl => ?_)
  refine lv_iconst (v := (0 : Int32)) hx hb dX8_tens_2 (by decide) ?_
  refine lv_istore_n (lv' := [(3, .int (0 : Int32)), (1, .long (1 : Int64)), (0, .int p0)]) hx hb dX8_tens_3 rfl hl (by decide) rfl (fun ls hl => ?_)
  exact L4 F (0 : Int32) (1 : Int64) _ hg (lv_sub hl [2, 1, 0] rfl)
theorem dX8_odds_0 : decode cX8_odds 0 = .ok (.aload_n 0, 1) := by decide +kernel
theorem dX8_odds_1 : decode cX8_odds 1 = .ok (.iconst 0, 1) := by decide +kernel
theorem dX8_odds_2 : decode cX8_odds 2 = .ok (.putfield 82, 3) := by decide +kernel
theorem dX8_odds_5 : decode cX8_odds 5 = .ok (.aload_n 0, 1) := by decide +kernel
theorem dX8_odds_6 : decode cX8_odds 6 = .ok (.iload_n 1, 1) := by decide +kernel
theorem dX8_odds_7 : decode cX8_odds 7 = .ok (.invokevirtual 214, 3) := by decide +kernel
theorem dX8_odds_10 : decode cX8_odds 10 = .ok (.ifCond .eq 13, 3) := by decide +kernel
theorem dX8_odds_13 : decode cX8_odds 13 = .ok (.iload_n 2, 1) := by decide +kernel
theorem dX8_odds_14 : decode cX8_odds 14 = .ok (.iconst 0, 1) := by decide +kernel
theorem dX8_odds_15 : decode cX8_odds 15 = .ok (.bipush 10, 2) := by decide +kernel
theorem dX8_odds_17 : decode cX8_odds 17 = .ok (.invokestatic 92, 3) := by decide +kernel
theorem dX8_odds_20 : decode cX8_odds 20 = .ok (.ifCond .ne 5, 3) := by decide +kernel
theorem dX8_odds_23 : decode cX8_odds 23 = .ok (.iconst (-1), 1) := by decide +kernel
theorem dX8_odds_24 : decode cX8_odds 24 = .ok (.ireturn, 1) := by decide +kernel
theorem dX8_odds_25 : decode cX8_odds 25 = .ok (.aload_n 0, 1) := by decide +kernel
theorem dX8_odds_26 : decode cX8_odds 26 = .ok (.aload_n 0, 1) := by decide +kernel
theorem dX8_odds_27 : decode cX8_odds 27 = .ok (.iload_n 1, 1) := by decide +kernel
theorem dX8_odds_28 : decode cX8_odds 28 = .ok (.iload_n 2, 1) := by decide +kernel
theorem dX8_odds_29 : decode cX8_odds 29 = .ok (.invokevirtual 356, 3) := by decide +kernel
theorem dX8_odds_32 : decode cX8_odds 32 = .ok (.aload_n 0, 1) := by decide +kernel
theorem dX8_odds_33 : decode cX8_odds 33 = .ok (.aload_n 0, 1) := by decide +kernel
theorem dX8_odds_34 : decode cX8_odds 34 = .ok (.getfield 9, 3) := by decide +kernel
theorem dX8_odds_37 : decode cX8_odds 37 = .ok (.iload_n 1, 1) := by decide +kernel
theorem dX8_odds_38 : decode cX8_odds 38 = .ok (.invokevirtual 198, 3) := by decide +kernel
theorem dX8_odds_41 : decode cX8_odds 41 = .ok (.invokestatic 202, 3) := by decide +kernel
theorem dX8_odds_44 : decode cX8_odds 44 = .ok (.invokestatic 360, 3) := by decide +kernel
theorem dX8_odds_47 : decode cX8_odds 47 = .ok (.invokevirtual 364, 3) := by decide +kernel
theorem dX8_odds_50 : decode cX8_odds 50 = .ok (.ireturn, 1) := by decide +kernel
def p_X8_odds (F : Nat) (p1 : Int32) (p2 : Int32) (x_arches : Int32) (x_cats : Int32) (x_rowMany : Int32) (w_read : Value) (x_length : Int32) (x_top : Int32) (x_at : Int32) (x_wrong : Int32) (q_rule : Nat) (x_ruleSize : Int32) (x_isAsked : Int32) (f_now : Nat → Int32) (f_asked : Nat → Int32) (f_rule : Nat → Int32) (f_row : Nat → Int64) (Post : Int32 → (Int32 × Int32 × Value × Int32 × Int32 × Int32 × Int32 × Int32 × (Nat → Int32) × (Nat → Int64)) → Prop) : Prop := (p_X8_isArch F p1 x_arches (fun (r_7 : Int32) => ((r_7 = 0 → (Post (-1 : Int32) (x_rowMany, (0 : Int32), w_read, x_length, x_top, x_at, x_wrong, x_isAsked, f_asked, f_row))) ∧ (¬ r_7 = 0 → (p_X8_in F p2 (0 : Int32) (10 : Int32) (fun (r_17 : Int32) => ((¬ r_17 = 0 → (p_X8_partsOf F p1 p2 x_cats w_read x_length x_top x_at x_wrong q_rule x_ruleSize x_isAsked f_now f_asked f_rule (fun (r_29 : Int64) (u_29 : (Value × Int32 × Int32 × Int32 × Int32 × Int32 × (Nat → Int32))) => (p_X8_there F p1 x_cats 47 f_now (fun (r_38 : Int32) => (p_J6_bitCount_0f7a4 F r_38 (fun (r_41 : Int32) => (p_X8_tens F r_41 (fun (r_44 : Int64) => (p_X8_tellPart F r_29 r_44 f_row (fun (r_47 : Int32) (u_47 : (Int32 × (Nat → Int64))) => (Post r_47 (u_47.1, (0 : Int32), u_29.1, u_29.2.1, u_29.2.2.1, u_29.2.2.2.1, u_29.2.2.2.2.1, u_29.2.2.2.2.2.1, u_29.2.2.2.2.2.2, u_47.2))))))))))))) ∧ (r_17 = 0 → (Post (-1 : Int32) (x_rowMany, (0 : Int32), w_read, x_length, x_top, x_at, x_wrong, x_isAsked, f_asked, f_row))))))))))
set_option maxHeartbeats 4000000 in
set_option maxRecDepth 100000 in
theorem c_X8_odds (l : Launch) (D : va_G) (cT : Nat → ClassId) (F : Nat) (h : Nat) (p1 : Int32) (p2 : Int32) (q_now : Nat) (x_arches : Int32) (x_cats : Int32) (w_text : Value) (x_typed : Int32) (q_row : Nat) (x_rowMany : Int32) (x_thrown : Int32) (w_read : Value) (x_length : Int32) (x_top : Int32) (x_at : Int32) (x_wrong : Int32) (w_told : Value) (q_rule : Nat) (w_otherRule : Value) (x_ruleSize : Int32) (x_isAsked : Int32) (q_asked : Nat) (w_undos : Value) (x_undoMany : Int32) (w_aside : Value) (w_then : Value) (w_hold : Value) (x_dropped : Int32) (w_acts : Value) (w_guarded : Value) (w_train : Value) (x_trolleyEnd : Int32) (w_feltOf : Value) (w_feltBy : Value) (x_feltMany : Int32) (w_many : Value) (w_heardOf : Value) (w_heardBy : Value) (x_heardMany : Int32) (w_worth : Value) (x_drawn : Int32) (x_came : Int32) (w_kept : Value) (w_isKept : Value) (w_keptCame : Value) (f_now : Nat → Int32) (f_asked : Nat → Int32) (f_rule : Nat → Int32) (f_row : Nat → Int64) (Post : Int32 → (Int32 × Int32 × Value × Int32 × Int32 × Int32 × Int32 × Int32 × (Nat → Int32) × (Nat → Int64)) → Prop) (hg : p_X8_odds F p1 p2 x_arches x_cats x_rowMany w_read x_length x_top x_at x_wrong q_rule x_ruleSize x_isAsked f_now f_asked f_rule f_row Post) : MWi l D cT yX8_odds cX8_odds 3 (some .int) 325 10180 0 0 [.ref h, .int p1, .int p2] [(h, oX8 (.ref q_now) (.int x_arches) (.int x_cats) w_text (.int x_typed) (.ref q_row) (.int x_rowMany) (.int x_thrown) w_read (.int x_length) (.int x_top) (.int x_at) (.int x_wrong) w_told (.ref q_rule) w_otherRule (.int x_ruleSize) (.int x_isAsked) (.ref q_asked) w_undos (.int x_undoMany) w_aside w_then w_hold (.int x_dropped) w_acts w_guarded w_train (.int x_trolleyEnd) w_feltOf w_feltBy (.int x_feltMany) w_many w_heardOf w_heardBy (.int x_heardMany) w_worth (.int x_drawn) (.int x_came) w_kept w_isKept w_keptCame), (q_now, aI cT 47 f_now), (q_asked, aI cT 7 f_asked), (q_rule, aB cT 40 f_rule), (q_row, aJ cT 16 f_row)] Post (fun (u : (Int32 × Int32 × Value × Int32 × Int32 × Int32 × Int32 × Int32 × (Nat → Int32) × (Nat → Int64))) => [(h, oX8 (.ref q_now) (.int x_arches) (.int x_cats) w_text (.int x_typed) (.ref q_row) (.int u.1) (.int u.2.1) u.2.2.1 (.int u.2.2.2.1) (.int u.2.2.2.2.1) (.int u.2.2.2.2.2.1) (.int u.2.2.2.2.2.2.1) w_told (.ref q_rule) w_otherRule (.int x_ruleSize) (.int u.2.2.2.2.2.2.2.1) (.ref q_asked) w_undos (.int x_undoMany) w_aside w_then w_hold (.int x_dropped) w_acts w_guarded w_train (.int x_trolleyEnd) w_feltOf w_feltBy (.int x_feltMany) w_many w_heardOf w_heardBy (.int x_heardMany) w_worth (.int x_drawn) (.int x_came) w_kept w_isKept w_keptCame), (q_now, aI cT 47 f_now), (q_asked, aI cT 7 u.2.2.2.2.2.2.2.2.1), (q_rule, aB cT 40 f_rule), (q_row, aJ cT 16 u.2.2.2.2.2.2.2.2.2)]) := by
  refine MWi.of (by decide) (Nat.le_of_ble_eq_true rfl) ?_
  intro p e s m below meth c A hA C0 hnm hr hP hD ls hl
  have hl : lv_has ls 3 [(0, .ref h), (1, .int p1), (2, .int p2)] := hl
  have hx := C0.x
  have hb := C0.b
  have hS : va_S A s.heap s.heap [] := va_S.rf
  have hP : va_P D cls9 [(h, oX8 (.ref q_now) (.int x_arches) (.int x_cats) w_text (.int x_typed) (.ref q_row) (.int x_rowMany) (.int x_thrown) w_read (.int x_length) (.int x_top) (.int x_at) (.int x_wrong) w_told (.ref q_rule) w_otherRule (.int x_ruleSize) (.int x_isAsked) (.ref q_asked) w_undos (.int x_undoMany) w_aside w_then w_hold (.int x_dropped) w_acts w_guarded w_train (.int x_trolleyEnd) w_feltOf w_feltBy (.int x_feltMany) w_many w_heardOf w_heardBy (.int x_heardMany) w_worth (.int x_drawn) (.int x_came) w_kept w_isKept w_keptCame), (q_now, aI cT 47 f_now), (q_asked, aI cT 7 f_asked), (q_rule, aB cT 40 f_rule), (q_row, aJ cT 16 f_row)] s.heap := hP
  have hD : va_D A [(h, oX8 (.ref q_now) (.int x_arches) (.int x_cats) w_text (.int x_typed) (.ref q_row) (.int x_rowMany) (.int x_thrown) w_read (.int x_length) (.int x_top) (.int x_at) (.int x_wrong) w_told (.ref q_rule) w_otherRule (.int x_ruleSize) (.int x_isAsked) (.ref q_asked) w_undos (.int x_undoMany) w_aside w_then w_hold (.int x_dropped) w_acts w_guarded w_train (.int x_trolleyEnd) w_feltOf w_feltBy (.int x_feltMany) w_many w_heardOf w_heardBy (.int x_heardMany) w_worth (.int x_drawn) (.int x_came) w_kept w_isKept w_keptCame), (q_now, aI cT 47 f_now), (q_asked, aI cT 7 f_asked), (q_rule, aB cT 40 f_rule), (q_row, aJ cT 16 f_row)] := hD
  unfold p_X8_odds at hg
  refine lv_aload_n hx hb dX8_odds_0 rfl (lv_at hl 0 rfl) ?_
  refine lv_iconst (v := (0 : Int32)) hx hb dX8_odds_1 (by decide) ?_
  refine pf_X8_82 C0 hP hD hS 0 rfl (Nat.le_of_ble_eq_true rfl) (ws2 := [(h, oX8 (.ref q_now) (.int x_arches) (.int x_cats) w_text (.int x_typed) (.ref q_row) (.int x_rowMany) (.int (0 : Int32)) w_read (.int x_length) (.int x_top) (.int x_at) (.int x_wrong) w_told (.ref q_rule) w_otherRule (.int x_ruleSize) (.int x_isAsked) (.ref q_asked) w_undos (.int x_undoMany) w_aside w_then w_hold (.int x_dropped) w_acts w_guarded w_train (.int x_trolleyEnd) w_feltOf w_feltBy (.int x_feltMany) w_many w_heardOf w_heardBy (.int x_heardMany) w_worth (.int x_drawn) (.int x_came) w_kept w_isKept w_keptCame), (q_now, aI cT 47 f_now), (q_asked, aI cT 7 f_asked), (q_rule, aB cT 40 f_rule), (q_row, aJ cT 16 f_row)]) rfl dX8_odds_2 (fun H locs hP hD hS => ?_)
  refine lv_aload_n hx hb dX8_odds_5 rfl (lv_at hl 0 rfl) ?_
  refine lv_iload_n hx hb dX8_odds_6 rfl (lv_at hl 1 rfl) ?_
  refine k_Vxi (rest := []) C0 lk_X8_214 (c_X8_isArch l D cT F h p1 (.ref q_now) x_arches x_cats w_text x_typed (.ref q_row) x_rowMany (0 : Int32) w_read x_length x_top x_at x_wrong w_told (.ref q_rule) w_otherRule x_ruleSize x_isAsked (.ref q_asked) w_undos x_undoMany w_aside w_then w_hold x_dropped w_acts w_guarded w_train x_trolleyEnd w_feltOf w_feltBy x_feltMany w_many w_heardOf w_heardBy x_heardMany w_worth x_drawn x_came w_kept w_isKept w_keptCame _ hg) hP hD hS hA [0] (by decide +kernel) rfl rfl rfl ⟨Nat.le_of_ble_eq_true rfl, Nat.le_of_ble_eq_true rfl⟩ rfl hl.1 rfl (Nat.le_of_ble_eq_true rfl) dX8_odds_7 ⟨Nat.le_of_ble_eq_true rfl, Nat.le_of_ble_eq_true rfl⟩ (fun r_7 hg => ?_)
  refine lv_if_eq (tgt := 23) hx hb dX8_odds_10 (by decide) (fun c_10 => ?_) (fun c_10 => ?_)
  · have hg := hg.1 c_10
    refine lv_iconst (v := (-1 : Int32)) hx hb dX8_odds_23 (by decide) ?_
    exact k_iret C0 hr (x_rowMany, (0 : Int32), w_read, x_length, x_top, x_at, x_wrong, x_isAsked, f_asked, f_row) hg hP hD hS dX8_odds_24
  have hg := hg.2 c_10
  refine lv_iload_n hx hb dX8_odds_13 rfl (lv_at hl 2 rfl) ?_
  refine lv_iconst (v := (0 : Int32)) hx hb dX8_odds_14 (by decide) ?_
  refine lv_bipush (v := (10 : Int32)) hx hb dX8_odds_15 (by decide) ?_
  refine k_Sxi (rest := []) C0 lk_X8_92 (c_X8_in l D cT F p2 (0 : Int32) (10 : Int32) _ hg) hP hD hS hA [] (by decide +kernel) rfl ⟨Nat.le_of_ble_eq_true rfl, Nat.le_of_ble_eq_true rfl⟩ rfl hl.1 rfl (Nat.le_of_ble_eq_true rfl) dX8_odds_17 ⟨Nat.le_of_ble_eq_true rfl, Nat.le_of_ble_eq_true rfl⟩ (fun r_17 hg => ?_)
  refine lv_if_ne (tgt := 25) hx hb dX8_odds_20 (by decide) (fun c_20 => ?_) (fun c_20 => ?_)
  · have hg := hg.1 c_20
    refine lv_aload_n hx hb dX8_odds_25 rfl (lv_at hl 0 rfl) ?_
    refine lv_aload_n hx hb dX8_odds_26 rfl (lv_at hl 0 rfl) ?_
    refine lv_iload_n hx hb dX8_odds_27 rfl (lv_at hl 1 rfl) ?_
    refine lv_iload_n hx hb dX8_odds_28 rfl (lv_at hl 2 rfl) ?_
    refine k_Vl (rest := [.ref h]) (wr := [(q_row, aJ cT 16 f_row)]) (w2 := fun u_29 => [(q_row, aJ cT 16 f_row), (h, oX8 (.ref q_now) (.int x_arches) (.int x_cats) w_text (.int x_typed) (.ref q_row) (.int x_rowMany) (.int (0 : Int32)) u_29.1 (.int u_29.2.1) (.int u_29.2.2.1) (.int u_29.2.2.2.1) (.int u_29.2.2.2.2.1) w_told (.ref q_rule) w_otherRule (.int x_ruleSize) (.int u_29.2.2.2.2.2.1) (.ref q_asked) w_undos (.int x_undoMany) w_aside w_then w_hold (.int x_dropped) w_acts w_guarded w_train (.int x_trolleyEnd) w_feltOf w_feltBy (.int x_feltMany) w_many w_heardOf w_heardBy (.int x_heardMany) w_worth (.int x_drawn) (.int x_came) w_kept w_isKept w_keptCame), (q_now, aI cT 47 f_now), (q_asked, aI cT 7 u_29.2.2.2.2.2.2), (q_rule, aB cT 40 f_rule)]) C0 lk_X8_356 (c_X8_partsOf l D cT F h p1 p2 q_now x_arches x_cats w_text x_typed (.ref q_row) x_rowMany (0 : Int32) w_read x_length x_top x_at x_wrong w_told q_rule w_otherRule x_ruleSize x_isAsked q_asked w_undos x_undoMany w_aside w_then w_hold x_dropped w_acts w_guarded w_train x_trolleyEnd w_feltOf w_feltBy x_feltMany w_many w_heardOf w_heardBy x_heardMany w_worth x_drawn x_came w_kept w_isKept w_keptCame f_now f_asked f_rule _ hg) hP hD hS hA [0, 1, 2, 3] [4] (by decide +kernel) rfl rfl (fun _ => rfl) rfl rfl ⟨Nat.le_of_ble_eq_true rfl, Nat.le_of_ble_eq_true rfl⟩ rfl hl.1 rfl (Nat.le_of_ble_eq_true rfl) dX8_odds_29 ⟨Nat.le_of_ble_eq_true rfl, Nat.le_of_ble_eq_true rfl⟩ ?_
    intro r_29 u_29 H locs hg hP hD hS
    refine lv_aload_n hx hb dX8_odds_32 rfl (lv_at hl 0 rfl) ?_
    refine lv_aload_n hx hb dX8_odds_33 rfl (lv_at hl 0 rfl) ?_
    refine gf_X8_9 C0 hP 1 rfl rfl dX8_odds_34 ?_
    refine lv_iload_n hx hb dX8_odds_37 rfl (lv_at hl 1 rfl) ?_
    refine k_Vxi (rest := [.long r_29, .ref h]) C0 lk_X8_198 (c_X8_there l D cT F h q_now p1 (.ref q_now) x_arches x_cats w_text x_typed (.ref q_row) x_rowMany (0 : Int32) u_29.1 u_29.2.1 u_29.2.2.1 u_29.2.2.2.1 u_29.2.2.2.2.1 w_told (.ref q_rule) w_otherRule x_ruleSize u_29.2.2.2.2.2.1 (.ref q_asked) w_undos x_undoMany w_aside w_then w_hold x_dropped w_acts w_guarded w_train x_trolleyEnd w_feltOf w_feltBy x_feltMany w_many w_heardOf w_heardBy x_heardMany w_worth x_drawn x_came w_kept w_isKept w_keptCame 47 f_now _ hg) hP hD hS hA [1, 2] (by decide +kernel) rfl rfl rfl ⟨Nat.le_of_ble_eq_true rfl, Nat.le_of_ble_eq_true rfl⟩ rfl hl.1 rfl (Nat.le_of_ble_eq_true rfl) dX8_odds_38 ⟨Nat.le_of_ble_eq_true rfl, Nat.le_of_ble_eq_true rfl⟩ (fun r_38 hg => ?_)
    refine k_Sxi (rest := [.long r_29, .ref h]) C0 lk_X8_202 (c_J6_bitCount_0f7a4 l D cT F r_38 _ hg) hP hD hS hA [] (by decide +kernel) rfl ⟨Nat.le_of_ble_eq_true rfl, Nat.le_of_ble_eq_true rfl⟩ rfl hl.1 rfl (Nat.le_of_ble_eq_true rfl) dX8_odds_41 ⟨Nat.le_of_ble_eq_true rfl, Nat.le_of_ble_eq_true rfl⟩ (fun r_41 hg => ?_)
    refine k_Sxl (rest := [.long r_29, .ref h]) C0 lk_X8_360 (c_X8_tens l D cT F r_41 _ hg) hP hD hS hA [] (by decide +kernel) rfl ⟨Nat.le_of_ble_eq_true rfl, Nat.le_of_ble_eq_true rfl⟩ rfl hl.1 rfl (Nat.le_of_ble_eq_true rfl) dX8_odds_44 ⟨Nat.le_of_ble_eq_true rfl, Nat.le_of_ble_eq_true rfl⟩ (fun r_44 hg => ?_)
    refine k_Vi (rest := []) (wr := [(q_now, aI cT 47 f_now), (q_asked, aI cT 7 u_29.2.2.2.2.2.2), (q_rule, aB cT 40 f_rule)]) (w2 := fun u_47 => [(q_now, aI cT 47 f_now), (q_asked, aI cT 7 u_29.2.2.2.2.2.2), (q_rule, aB cT 40 f_rule), (h, oX8 (.ref q_now) (.int x_arches) (.int x_cats) w_text (.int x_typed) (.ref q_row) (.int u_47.1) (.int (0 : Int32)) u_29.1 (.int u_29.2.1) (.int u_29.2.2.1) (.int u_29.2.2.2.1) (.int u_29.2.2.2.2.1) w_told (.ref q_rule) w_otherRule (.int x_ruleSize) (.int u_29.2.2.2.2.2.1) (.ref q_asked) w_undos (.int x_undoMany) w_aside w_then w_hold (.int x_dropped) w_acts w_guarded w_train (.int x_trolleyEnd) w_feltOf w_feltBy (.int x_feltMany) w_many w_heardOf w_heardBy (.int x_heardMany) w_worth (.int x_drawn) (.int x_came) w_kept w_isKept w_keptCame), (q_row, aJ cT 16 u_47.2)]) C0 lk_X8_364 (c_X8_tellPart l D cT F h r_29 r_44 (.ref q_now) x_arches x_cats w_text x_typed q_row x_rowMany (0 : Int32) u_29.1 u_29.2.1 u_29.2.2.1 u_29.2.2.2.1 u_29.2.2.2.2.1 w_told (.ref q_rule) w_otherRule x_ruleSize u_29.2.2.2.2.2.1 (.ref q_asked) w_undos x_undoMany w_aside w_then w_hold x_dropped w_acts w_guarded w_train x_trolleyEnd w_feltOf w_feltBy x_feltMany w_many w_heardOf w_heardBy x_heardMany w_worth x_drawn x_came w_kept w_isKept w_keptCame f_row _ hg) hP hD hS hA [1, 0] [2, 3, 4] (by decide +kernel) rfl rfl (fun _ => rfl) rfl rfl ⟨Nat.le_of_ble_eq_true rfl, Nat.le_of_ble_eq_true rfl⟩ rfl hl.1 rfl (Nat.le_of_ble_eq_true rfl) dX8_odds_47 ⟨Nat.le_of_ble_eq_true rfl, Nat.le_of_ble_eq_true rfl⟩ ?_
    intro r_47 u_47 H locs hg hP hD hS
    exact k_iret C0 hr (u_47.1, (0 : Int32), u_29.1, u_29.2.1, u_29.2.2.1, u_29.2.2.2.1, u_29.2.2.2.2.1, u_29.2.2.2.2.2.1, u_29.2.2.2.2.2.2, u_47.2) hg (subP hP [3, 0, 1, 2, 4] rfl) (hD.sub [3, 0, 1, 2, 4] (nd2_ok _ (by decide +kernel)) rfl) hS dX8_odds_50
  have hg := hg.2 c_20
  refine lv_iconst (v := (-1 : Int32)) hx hb dX8_odds_23 (by decide) ?_
  exact k_iret C0 hr (x_rowMany, (0 : Int32), w_read, x_length, x_top, x_at, x_wrong, x_isAsked, f_asked, f_row) hg hP hD hS dX8_odds_24
theorem dX8_stands_0 : decode cX8_stands 0 = .ok (.aload_n 0, 1) := by decide +kernel
theorem dX8_stands_1 : decode cX8_stands 1 = .ok (.iconst 0, 1) := by decide +kernel
theorem dX8_stands_2 : decode cX8_stands 2 = .ok (.putfield 82, 3) := by decide +kernel
theorem dX8_stands_5 : decode cX8_stands 5 = .ok (.iload_n 1, 1) := by decide +kernel
theorem dX8_stands_6 : decode cX8_stands 6 = .ok (.iconst 0, 1) := by decide +kernel
theorem dX8_stands_7 : decode cX8_stands 7 = .ok (.bipush 10, 2) := by decide +kernel
theorem dX8_stands_9 : decode cX8_stands 9 = .ok (.invokestatic 92, 3) := by decide +kernel
theorem dX8_stands_12 : decode cX8_stands 12 = .ok (.ifCond .ne 5, 3) := by decide +kernel
theorem dX8_stands_15 : decode cX8_stands 15 = .ok (.iconst (-1), 1) := by decide +kernel
theorem dX8_stands_16 : decode cX8_stands 16 = .ok (.ireturn, 1) := by decide +kernel
theorem dX8_stands_17 : decode cX8_stands 17 = .ok (.lconst 1, 1) := by decide +kernel
theorem dX8_stands_18 : decode cX8_stands 18 = .ok (.lstore_n 2, 1) := by decide +kernel
theorem dX8_stands_19 : decode cX8_stands 19 = .ok (.iconst 0, 1) := by decide +kernel
theorem dX8_stands_20 : decode cX8_stands 20 = .ok (.istore 4, 2) := by decide +kernel
theorem dX8_stands_22 : decode cX8_stands 22 = .ok (.iload 4, 2) := by decide +kernel
theorem dX8_stands_24 : decode cX8_stands 24 = .ok (.aload_n 0, 1) := by decide +kernel
theorem dX8_stands_25 : decode cX8_stands 25 = .ok (.getfield 89, 3) := by decide +kernel
theorem dX8_stands_28 : decode cX8_stands 28 = .ok (.if_icmp .ge 19, 3) := by decide +kernel
theorem dX8_stands_31 : decode cX8_stands 31 = .ok (.lload_n 2, 1) := by decide +kernel
theorem dX8_stands_32 : decode cX8_stands 32 = .ok (.aload_n 0, 1) := by decide +kernel
theorem dX8_stands_33 : decode cX8_stands 33 = .ok (.iload 4, 2) := by decide +kernel
theorem dX8_stands_35 : decode cX8_stands 35 = .ok (.iload_n 1, 1) := by decide +kernel
theorem dX8_stands_36 : decode cX8_stands 36 = .ok (.invokevirtual 356, 3) := by decide +kernel
theorem dX8_stands_39 : decode cX8_stands 39 = .ok (.lmul, 1) := by decide +kernel
theorem dX8_stands_40 : decode cX8_stands 40 = .ok (.lstore_n 2, 1) := by decide +kernel
theorem dX8_stands_41 : decode cX8_stands 41 = .ok (.iinc 4 1, 3) := by decide +kernel
theorem dX8_stands_44 : decode cX8_stands 44 = .ok (.goto (-22), 3) := by decide +kernel
theorem dX8_stands_47 : decode cX8_stands 47 = .ok (.aload_n 0, 1) := by decide +kernel
theorem dX8_stands_48 : decode cX8_stands 48 = .ok (.lload_n 2, 1) := by decide +kernel
theorem dX8_stands_49 : decode cX8_stands 49 = .ok (.aload_n 0, 1) := by decide +kernel
theorem dX8_stands_50 : decode cX8_stands 50 = .ok (.getfield 96, 3) := by decide +kernel
theorem dX8_stands_53 : decode cX8_stands 53 = .ok (.invokestatic 360, 3) := by decide +kernel
theorem dX8_stands_56 : decode cX8_stands 56 = .ok (.invokevirtual 364, 3) := by decide +kernel
theorem dX8_stands_59 : decode cX8_stands 59 = .ok (.ireturn, 1) := by decide +kernel
noncomputable def p_X8_stands_22 (F : Nat) (p1 : Int32) (x_arches : Int32) (x_cats : Int32) (q_rule : Nat) (x_ruleSize : Int32) (f_now : Nat → Int32) (f_rule : Nat → Int32) (f_row : Nat → Int64) (Post : Int32 → (Int32 × Int32 × Value × Int32 × Int32 × Int32 × Int32 × Int32 × (Nat → Int32) × (Nat → Int64)) → Prop) (n : Nat) : Int32 → Int64 → Value → Int32 → Int32 → Int32 → Int32 → Int32 → (Nat → Int32) → Prop := Nat.rec (motive := fun _ => Int32 → Int64 → Value → Int32 → Int32 → Int32 → Int32 → Int32 → (Nat → Int32) → Prop) (fun _ _ _ _ _ _ _ _ _ => False) (fun _ k22 => fun (y4_22 : Int32) (y2_22 : Int64) (x_read_22 : Value) (x_length_22 : Int32) (x_top_22 : Int32) (x_at_22 : Int32) (x_wrong_22 : Int32) (x_isAsked_22 : Int32) (f_asked_22 : Nat → Int32) => ((x_arches ≤ y4_22 → (p_X8_tens F x_cats (fun (r_53 : Int64) => (p_X8_tellPart F y2_22 r_53 f_row (fun (r_56 : Int32) (u_56 : (Int32 × (Nat → Int64))) => (Post r_56 (u_56.1, (0 : Int32), x_read_22, x_length_22, x_top_22, x_at_22, x_wrong_22, x_isAsked_22, f_asked_22, u_56.2))))))) ∧ (¬ x_arches ≤ y4_22 → (p_X8_partsOf F y4_22 p1 x_cats x_read_22 x_length_22 x_top_22 x_at_22 x_wrong_22 q_rule x_ruleSize x_isAsked_22 f_now f_asked_22 f_rule (fun (r_36 : Int64) (u_36 : (Value × Int32 × Int32 × Int32 × Int32 × Int32 × (Nat → Int32))) => (k22 (y4_22 + (1 : Int32)) (y2_22 * r_36) u_36.1 u_36.2.1 u_36.2.2.1 u_36.2.2.2.1 u_36.2.2.2.2.1 u_36.2.2.2.2.2.1 u_36.2.2.2.2.2.2)))))) n
theorem p_X8_stands_22_s (F : Nat) (p1 : Int32) (x_arches : Int32) (x_cats : Int32) (q_rule : Nat) (x_ruleSize : Int32) (f_now : Nat → Int32) (f_rule : Nat → Int32) (f_row : Nat → Int64) (Post : Int32 → (Int32 × Int32 × Value × Int32 × Int32 × Int32 × Int32 × Int32 × (Nat → Int32) × (Nat → Int64)) → Prop) (n : Nat) (y4_22 : Int32) (y2_22 : Int64) (x_read_22 : Value) (x_length_22 : Int32) (x_top_22 : Int32) (x_at_22 : Int32) (x_wrong_22 : Int32) (x_isAsked_22 : Int32) (f_asked_22 : Nat → Int32) : p_X8_stands_22 F p1 x_arches x_cats q_rule x_ruleSize f_now f_rule f_row Post (n + 1) y4_22 y2_22 x_read_22 x_length_22 x_top_22 x_at_22 x_wrong_22 x_isAsked_22 f_asked_22 = ((x_arches ≤ y4_22 → (p_X8_tens F x_cats (fun (r_53 : Int64) => (p_X8_tellPart F y2_22 r_53 f_row (fun (r_56 : Int32) (u_56 : (Int32 × (Nat → Int64))) => (Post r_56 (u_56.1, (0 : Int32), x_read_22, x_length_22, x_top_22, x_at_22, x_wrong_22, x_isAsked_22, f_asked_22, u_56.2))))))) ∧ (¬ x_arches ≤ y4_22 → (p_X8_partsOf F y4_22 p1 x_cats x_read_22 x_length_22 x_top_22 x_at_22 x_wrong_22 q_rule x_ruleSize x_isAsked_22 f_now f_asked_22 f_rule (fun (r_36 : Int64) (u_36 : (Value × Int32 × Int32 × Int32 × Int32 × Int32 × (Nat → Int32))) => ((p_X8_stands_22 F p1 x_arches x_cats q_rule x_ruleSize f_now f_rule f_row Post n) (y4_22 + (1 : Int32)) (y2_22 * r_36) u_36.1 u_36.2.1 u_36.2.2.1 u_36.2.2.2.1 u_36.2.2.2.2.1 u_36.2.2.2.2.2.1 u_36.2.2.2.2.2.2))))) := rfl
def p_X8_stands (F : Nat) (p1 : Int32) (x_arches : Int32) (x_cats : Int32) (x_rowMany : Int32) (w_read : Value) (x_length : Int32) (x_top : Int32) (x_at : Int32) (x_wrong : Int32) (q_rule : Nat) (x_ruleSize : Int32) (x_isAsked : Int32) (f_now : Nat → Int32) (f_asked : Nat → Int32) (f_rule : Nat → Int32) (f_row : Nat → Int64) (Post : Int32 → (Int32 × Int32 × Value × Int32 × Int32 × Int32 × Int32 × Int32 × (Nat → Int32) × (Nat → Int64)) → Prop) : Prop := (p_X8_in F p1 (0 : Int32) (10 : Int32) (fun (r_9 : Int32) => ((¬ r_9 = 0 → (p_X8_stands_22 F p1 x_arches x_cats q_rule x_ruleSize f_now f_rule f_row Post F (0 : Int32) (1 : Int64) w_read x_length x_top x_at x_wrong x_isAsked f_asked)) ∧ (r_9 = 0 → (Post (-1 : Int32) (x_rowMany, (0 : Int32), w_read, x_length, x_top, x_at, x_wrong, x_isAsked, f_asked, f_row))))))
set_option maxHeartbeats 4000000 in
set_option maxRecDepth 100000 in
theorem c_X8_stands (l : Launch) (D : va_G) (cT : Nat → ClassId) (F : Nat) (h : Nat) (p1 : Int32) (q_now : Nat) (x_arches : Int32) (x_cats : Int32) (w_text : Value) (x_typed : Int32) (q_row : Nat) (x_rowMany : Int32) (x_thrown : Int32) (w_read : Value) (x_length : Int32) (x_top : Int32) (x_at : Int32) (x_wrong : Int32) (w_told : Value) (q_rule : Nat) (w_otherRule : Value) (x_ruleSize : Int32) (x_isAsked : Int32) (q_asked : Nat) (w_undos : Value) (x_undoMany : Int32) (w_aside : Value) (w_then : Value) (w_hold : Value) (x_dropped : Int32) (w_acts : Value) (w_guarded : Value) (w_train : Value) (x_trolleyEnd : Int32) (w_feltOf : Value) (w_feltBy : Value) (x_feltMany : Int32) (w_many : Value) (w_heardOf : Value) (w_heardBy : Value) (x_heardMany : Int32) (w_worth : Value) (x_drawn : Int32) (x_came : Int32) (w_kept : Value) (w_isKept : Value) (w_keptCame : Value) (f_now : Nat → Int32) (f_asked : Nat → Int32) (f_rule : Nat → Int32) (f_row : Nat → Int64) (Post : Int32 → (Int32 × Int32 × Value × Int32 × Int32 × Int32 × Int32 × Int32 × (Nat → Int32) × (Nat → Int64)) → Prop) (hg : p_X8_stands F p1 x_arches x_cats x_rowMany w_read x_length x_top x_at x_wrong q_rule x_ruleSize x_isAsked f_now f_asked f_rule f_row Post) : MWi l D cT yX8_stands cX8_stands 5 (some .int) 325 10180 0 0 [.ref h, .int p1] [(h, oX8 (.ref q_now) (.int x_arches) (.int x_cats) w_text (.int x_typed) (.ref q_row) (.int x_rowMany) (.int x_thrown) w_read (.int x_length) (.int x_top) (.int x_at) (.int x_wrong) w_told (.ref q_rule) w_otherRule (.int x_ruleSize) (.int x_isAsked) (.ref q_asked) w_undos (.int x_undoMany) w_aside w_then w_hold (.int x_dropped) w_acts w_guarded w_train (.int x_trolleyEnd) w_feltOf w_feltBy (.int x_feltMany) w_many w_heardOf w_heardBy (.int x_heardMany) w_worth (.int x_drawn) (.int x_came) w_kept w_isKept w_keptCame), (q_now, aI cT 47 f_now), (q_asked, aI cT 7 f_asked), (q_rule, aB cT 40 f_rule), (q_row, aJ cT 16 f_row)] Post (fun (u : (Int32 × Int32 × Value × Int32 × Int32 × Int32 × Int32 × Int32 × (Nat → Int32) × (Nat → Int64))) => [(h, oX8 (.ref q_now) (.int x_arches) (.int x_cats) w_text (.int x_typed) (.ref q_row) (.int u.1) (.int u.2.1) u.2.2.1 (.int u.2.2.2.1) (.int u.2.2.2.2.1) (.int u.2.2.2.2.2.1) (.int u.2.2.2.2.2.2.1) w_told (.ref q_rule) w_otherRule (.int x_ruleSize) (.int u.2.2.2.2.2.2.2.1) (.ref q_asked) w_undos (.int x_undoMany) w_aside w_then w_hold (.int x_dropped) w_acts w_guarded w_train (.int x_trolleyEnd) w_feltOf w_feltBy (.int x_feltMany) w_many w_heardOf w_heardBy (.int x_heardMany) w_worth (.int x_drawn) (.int x_came) w_kept w_isKept w_keptCame), (q_now, aI cT 47 f_now), (q_asked, aI cT 7 u.2.2.2.2.2.2.2.2.1), (q_rule, aB cT 40 f_rule), (q_row, aJ cT 16 u.2.2.2.2.2.2.2.2.2)]) := by
  refine MWi.of (by decide) (Nat.le_of_ble_eq_true rfl) ?_
  intro p e s m below meth c A hA C0 hnm hr hP hD ls hl
  have hl : lv_has ls 5 [(0, .ref h), (1, .int p1)] := hl
  have hx := C0.x
  have hb := C0.b
  have hS : va_S A s.heap s.heap [] := va_S.rf
  have hP : va_P D cls9 [(h, oX8 (.ref q_now) (.int x_arches) (.int x_cats) w_text (.int x_typed) (.ref q_row) (.int x_rowMany) (.int x_thrown) w_read (.int x_length) (.int x_top) (.int x_at) (.int x_wrong) w_told (.ref q_rule) w_otherRule (.int x_ruleSize) (.int x_isAsked) (.ref q_asked) w_undos (.int x_undoMany) w_aside w_then w_hold (.int x_dropped) w_acts w_guarded w_train (.int x_trolleyEnd) w_feltOf w_feltBy (.int x_feltMany) w_many w_heardOf w_heardBy (.int x_heardMany) w_worth (.int x_drawn) (.int x_came) w_kept w_isKept w_keptCame), (q_now, aI cT 47 f_now), (q_asked, aI cT 7 f_asked), (q_rule, aB cT 40 f_rule), (q_row, aJ cT 16 f_row)] s.heap := hP
  have hD : va_D A [(h, oX8 (.ref q_now) (.int x_arches) (.int x_cats) w_text (.int x_typed) (.ref q_row) (.int x_rowMany) (.int x_thrown) w_read (.int x_length) (.int x_top) (.int x_at) (.int x_wrong) w_told (.ref q_rule) w_otherRule (.int x_ruleSize) (.int x_isAsked) (.ref q_asked) w_undos (.int x_undoMany) w_aside w_then w_hold (.int x_dropped) w_acts w_guarded w_train (.int x_trolleyEnd) w_feltOf w_feltBy (.int x_feltMany) w_many w_heardOf w_heardBy (.int x_heardMany) w_worth (.int x_drawn) (.int x_came) w_kept w_isKept w_keptCame), (q_now, aI cT 47 f_now), (q_asked, aI cT 7 f_asked), (q_rule, aB cT 40 f_rule), (q_row, aJ cT 16 f_row)] := hD
  have L22 : ∀ (n22 : Nat) (y4_22 : Int32) (y2_22 : Int64) (x_read_22 : Value) (x_length_22 : Int32) (x_top_22 : Int32) (x_at_22 : Int32) (x_wrong_22 : Int32) (x_isAsked_22 : Int32) (f_asked_22 : Nat → Int32) (H : Heap) (locs : List Loc) (ls : Array Slot), p_X8_stands_22 F p1 x_arches x_cats q_rule x_ruleSize f_now f_rule f_row Post n22 y4_22 y2_22 x_read_22 x_length_22 x_top_22 x_at_22 x_wrong_22 x_isAsked_22 f_asked_22 → va_P D cls9 [(h, oX8 (.ref q_now) (.int x_arches) (.int x_cats) w_text (.int x_typed) (.ref q_row) (.int x_rowMany) (.int (0 : Int32)) x_read_22 (.int x_length_22) (.int x_top_22) (.int x_at_22) (.int x_wrong_22) w_told (.ref q_rule) w_otherRule (.int x_ruleSize) (.int x_isAsked_22) (.ref q_asked) w_undos (.int x_undoMany) w_aside w_then w_hold (.int x_dropped) w_acts w_guarded w_train (.int x_trolleyEnd) w_feltOf w_feltBy (.int x_feltMany) w_many w_heardOf w_heardBy (.int x_heardMany) w_worth (.int x_drawn) (.int x_came) w_kept w_isKept w_keptCame), (q_now, aI cT 47 f_now), (q_asked, aI cT 7 f_asked_22), (q_rule, aB cT 40 f_rule), (q_row, aJ cT 16 f_row)] H → va_D A [(h, oX8 (.ref q_now) (.int x_arches) (.int x_cats) w_text (.int x_typed) (.ref q_row) (.int x_rowMany) (.int (0 : Int32)) x_read_22 (.int x_length_22) (.int x_top_22) (.int x_at_22) (.int x_wrong_22) w_told (.ref q_rule) w_otherRule (.int x_ruleSize) (.int x_isAsked_22) (.ref q_asked) w_undos (.int x_undoMany) w_aside w_then w_hold (.int x_dropped) w_acts w_guarded w_train (.int x_trolleyEnd) w_feltOf w_feltBy (.int x_feltMany) w_many w_heardOf w_heardBy (.int x_heardMany) w_worth (.int x_drawn) (.int x_came) w_kept w_isKept w_keptCame), (q_now, aI cT 47 f_now), (q_asked, aI cT 7 f_asked_22), (q_rule, aB cT 40 f_rule), (q_row, aJ cT 16 f_row)] → va_S A s.heap H locs → lv_has ls 5 [(0, .ref h), (1, .int p1), (2, .long y2_22), (4, .int y4_22)] → W p l e (rmO 325 10180 0 0) s m ([.ref h, .int p1] : List Value).toArray below meth c H locs 0 0 (MQ below (va_Qi Post (cB D A (fun (u : (Int32 × Int32 × Value × Int32 × Int32 × Int32 × Int32 × Int32 × (Nat → Int32) × (Nat → Int64))) => [(h, oX8 (.ref q_now) (.int x_arches) (.int x_cats) w_text (.int x_typed) (.ref q_row) (.int u.1) (.int u.2.1) u.2.2.1 (.int u.2.2.2.1) (.int u.2.2.2.2.1) (.int u.2.2.2.2.2.1) (.int u.2.2.2.2.2.2.1) w_told (.ref q_rule) w_otherRule (.int x_ruleSize) (.int u.2.2.2.2.2.2.2.1) (.ref q_asked) w_undos (.int x_undoMany) w_aside w_then w_hold (.int x_dropped) w_acts w_guarded w_train (.int x_trolleyEnd) w_feltOf w_feltBy (.int x_feltMany) w_many w_heardOf w_heardBy (.int x_heardMany) w_worth (.int x_drawn) (.int x_came) w_kept w_isKept w_keptCame), (q_now, aI cT 47 f_now), (q_asked, aI cT 7 u.2.2.2.2.2.2.2.2.1), (q_rule, aB cT 40 f_rule), (q_row, aJ cT 16 u.2.2.2.2.2.2.2.2.2)])) A) ([.ref h, .int p1] : List Value).toArray s 0 0 A) (F0 m 22 ls []) := by
    intro n22
    induction n22 with
    | zero =>
      intro y4_22 y2_22 x_read_22 x_length_22 x_top_22 x_at_22 x_wrong_22 x_isAsked_22 f_asked_22 H locs ls hg hP hD hS hl
      exact False.elim hg
    | succ n22 ih22 =>
      intro y4_22 y2_22 x_read_22 x_length_22 x_top_22 x_at_22 x_wrong_22 x_isAsked_22 f_asked_22 H locs ls hg hP hD hS hl
      rw [p_X8_stands_22_s] at hg
      refine lv_iload hx hb dX8_stands_22 (lv_at hl 3 rfl) ?_
      refine lv_aload_n hx hb dX8_stands_24 rfl (lv_at hl 0 rfl) ?_
      refine gf_X8_89 C0 hP 0 rfl rfl dX8_stands_25 ?_
      refine lv_icmp_ge (tgt := 47) hx hb dX8_stands_28 (by decide) (fun c_28 => ?_) (fun c_28 => ?_)
      · have hg := hg.1 c_28
        refine lv_aload_n hx hb dX8_stands_47 rfl (lv_at hl 0 rfl) ?_
        refine lv_lload_n hx hb dX8_stands_48 rfl (lv_at hl 2 rfl) ?_
        refine lv_aload_n hx hb dX8_stands_49 rfl (lv_at hl 0 rfl) ?_
        refine gf_X8_96 C0 hP 0 rfl rfl dX8_stands_50 ?_
        refine k_Sxl (rest := [.long y2_22, .ref h]) C0 lk_X8_360 (c_X8_tens l D cT F x_cats _ hg) hP hD hS hA [] (by decide +kernel) rfl ⟨Nat.le_of_ble_eq_true rfl, Nat.le_of_ble_eq_true rfl⟩ rfl hl.1 rfl (Nat.le_of_ble_eq_true rfl) dX8_stands_53 ⟨Nat.le_of_ble_eq_true rfl, Nat.le_of_ble_eq_true rfl⟩ (fun r_53 hg => ?_)
        refine k_Vi (rest := []) (wr := [(q_now, aI cT 47 f_now), (q_asked, aI cT 7 f_asked_22), (q_rule, aB cT 40 f_rule)]) (w2 := fun u_56 => [(q_now, aI cT 47 f_now), (q_asked, aI cT 7 f_asked_22), (q_rule, aB cT 40 f_rule), (h, oX8 (.ref q_now) (.int x_arches) (.int x_cats) w_text (.int x_typed) (.ref q_row) (.int u_56.1) (.int (0 : Int32)) x_read_22 (.int x_length_22) (.int x_top_22) (.int x_at_22) (.int x_wrong_22) w_told (.ref q_rule) w_otherRule (.int x_ruleSize) (.int x_isAsked_22) (.ref q_asked) w_undos (.int x_undoMany) w_aside w_then w_hold (.int x_dropped) w_acts w_guarded w_train (.int x_trolleyEnd) w_feltOf w_feltBy (.int x_feltMany) w_many w_heardOf w_heardBy (.int x_heardMany) w_worth (.int x_drawn) (.int x_came) w_kept w_isKept w_keptCame), (q_row, aJ cT 16 u_56.2)]) C0 lk_X8_364 (c_X8_tellPart l D cT F h y2_22 r_53 (.ref q_now) x_arches x_cats w_text x_typed q_row x_rowMany (0 : Int32) x_read_22 x_length_22 x_top_22 x_at_22 x_wrong_22 w_told (.ref q_rule) w_otherRule x_ruleSize x_isAsked_22 (.ref q_asked) w_undos x_undoMany w_aside w_then w_hold x_dropped w_acts w_guarded w_train x_trolleyEnd w_feltOf w_feltBy x_feltMany w_many w_heardOf w_heardBy x_heardMany w_worth x_drawn x_came w_kept w_isKept w_keptCame f_row _ hg) hP hD hS hA [0, 4] [1, 2, 3] (by decide +kernel) rfl rfl (fun _ => rfl) rfl rfl ⟨Nat.le_of_ble_eq_true rfl, Nat.le_of_ble_eq_true rfl⟩ rfl hl.1 rfl (Nat.le_of_ble_eq_true rfl) dX8_stands_56 ⟨Nat.le_of_ble_eq_true rfl, Nat.le_of_ble_eq_true rfl⟩ ?_
        intro r_56 u_56 H locs hg hP hD hS
        exact k_iret C0 hr (u_56.1, (0 : Int32), x_read_22, x_length_22, x_top_22, x_at_22, x_wrong_22, x_isAsked_22, f_asked_22, u_56.2) hg (subP hP [3, 0, 1, 2, 4] rfl) (hD.sub [3, 0, 1, 2, 4] (nd2_ok _ (by decide +kernel)) rfl) hS dX8_stands_59
      have hg := hg.2 c_28
      refine lv_lload_n hx hb dX8_stands_31 rfl (lv_at hl 2 rfl) ?_
      refine lv_aload_n hx hb dX8_stands_32 rfl (lv_at hl 0 rfl) ?_
      refine lv_iload hx hb dX8_stands_33 (lv_at hl 3 rfl) ?_
      refine lv_iload_n hx hb dX8_stands_35 rfl (lv_at hl 1 rfl) ?_
      refine k_Vl (rest := [.long y2_22]) (wr := [(q_row, aJ cT 16 f_row)]) (w2 := fun u_36 => [(q_row, aJ cT 16 f_row), (h, oX8 (.ref q_now) (.int x_arches) (.int x_cats) w_text (.int x_typed) (.ref q_row) (.int x_rowMany) (.int (0 : Int32)) u_36.1 (.int u_36.2.1) (.int u_36.2.2.1) (.int u_36.2.2.2.1) (.int u_36.2.2.2.2.1) w_told (.ref q_rule) w_otherRule (.int x_ruleSize) (.int u_36.2.2.2.2.2.1) (.ref q_asked) w_undos (.int x_undoMany) w_aside w_then w_hold (.int x_dropped) w_acts w_guarded w_train (.int x_trolleyEnd) w_feltOf w_feltBy (.int x_feltMany) w_many w_heardOf w_heardBy (.int x_heardMany) w_worth (.int x_drawn) (.int x_came) w_kept w_isKept w_keptCame), (q_now, aI cT 47 f_now), (q_asked, aI cT 7 u_36.2.2.2.2.2.2), (q_rule, aB cT 40 f_rule)]) C0 lk_X8_356 (c_X8_partsOf l D cT F h y4_22 p1 q_now x_arches x_cats w_text x_typed (.ref q_row) x_rowMany (0 : Int32) x_read_22 x_length_22 x_top_22 x_at_22 x_wrong_22 w_told q_rule w_otherRule x_ruleSize x_isAsked_22 q_asked w_undos x_undoMany w_aside w_then w_hold x_dropped w_acts w_guarded w_train x_trolleyEnd w_feltOf w_feltBy x_feltMany w_many w_heardOf w_heardBy x_heardMany w_worth x_drawn x_came w_kept w_isKept w_keptCame f_now f_asked_22 f_rule _ hg) hP hD hS hA [0, 1, 2, 3] [4] (by decide +kernel) rfl rfl (fun _ => rfl) rfl rfl ⟨Nat.le_of_ble_eq_true rfl, Nat.le_of_ble_eq_true rfl⟩ rfl hl.1 rfl (Nat.le_of_ble_eq_true rfl) dX8_stands_36 ⟨Nat.le_of_ble_eq_true rfl, Nat.le_of_ble_eq_true rfl⟩ ?_
      intro r_36 u_36 H locs hg hP hD hS
      refine lv_lmul hx hb dX8_stands_39 ?_
      refine lv_lstore_n (lv' := [(2, .long (y2_22 * r_36)), (0, .ref h), (1, .int p1), (4, .int y4_22)]) hx hb dX8_stands_40 rfl hl (by decide) rfl (fun ls hl => ?_)
      refine lv_iinc (v := (y4_22 + (1 : Int32))) (lv' := [(4, .int (y4_22 + (1 : Int32))), (2, .long (y2_22 * r_36)), (0, .ref h), (1, .int p1)]) hx hb dX8_stands_41 hl (k := 3) rfl rfl (by decide) rfl (fun ls hl => ?_)
      refine lv_goto (tgt := 22) hx hb dX8_stands_44 (by decide) ?_
      exact ih22 (y4_22 + (1 : Int32)) (y2_22 * r_36) u_36.1 u_36.2.1 u_36.2.2.1 u_36.2.2.2.1 u_36.2.2.2.2.1 u_36.2.2.2.2.2.1 u_36.2.2.2.2.2.2 _ _ _ hg (subP hP [1, 2, 3, 4, 0] rfl) (hD.sub [1, 2, 3, 4, 0] (nd2_ok _ (by decide +kernel)) rfl) hS (lv_sub hl [2, 3, 1, 0] rfl)
  unfold p_X8_stands at hg
  refine lv_aload_n hx hb dX8_stands_0 rfl (lv_at hl 0 rfl) ?_
  refine lv_iconst (v := (0 : Int32)) hx hb dX8_stands_1 (by decide) ?_
  refine pf_X8_82 C0 hP hD hS 0 rfl (Nat.le_of_ble_eq_true rfl) (ws2 := [(h, oX8 (.ref q_now) (.int x_arches) (.int x_cats) w_text (.int x_typed) (.ref q_row) (.int x_rowMany) (.int (0 : Int32)) w_read (.int x_length) (.int x_top) (.int x_at) (.int x_wrong) w_told (.ref q_rule) w_otherRule (.int x_ruleSize) (.int x_isAsked) (.ref q_asked) w_undos (.int x_undoMany) w_aside w_then w_hold (.int x_dropped) w_acts w_guarded w_train (.int x_trolleyEnd) w_feltOf w_feltBy (.int x_feltMany) w_many w_heardOf w_heardBy (.int x_heardMany) w_worth (.int x_drawn) (.int x_came) w_kept w_isKept w_keptCame), (q_now, aI cT 47 f_now), (q_asked, aI cT 7 f_asked), (q_rule, aB cT 40 f_rule), (q_row, aJ cT 16 f_row)]) rfl dX8_stands_2 (fun H locs hP hD hS => ?_)
  refine lv_iload_n hx hb dX8_stands_5 rfl (lv_at hl 1 rfl) ?_
  refine lv_iconst (v := (0 : Int32)) hx hb dX8_stands_6 (by decide) ?_
  refine lv_bipush (v := (10 : Int32)) hx hb dX8_stands_7 (by decide) ?_
  refine k_Sxi (rest := []) C0 lk_X8_92 (c_X8_in l D cT F p1 (0 : Int32) (10 : Int32) _ hg) hP hD hS hA [] (by decide +kernel) rfl ⟨Nat.le_of_ble_eq_true rfl, Nat.le_of_ble_eq_true rfl⟩ rfl hl.1 rfl (Nat.le_of_ble_eq_true rfl) dX8_stands_9 ⟨Nat.le_of_ble_eq_true rfl, Nat.le_of_ble_eq_true rfl⟩ (fun r_9 hg => ?_)
  refine lv_if_ne (tgt := 17) hx hb dX8_stands_12 (by decide) (fun c_12 => ?_) (fun c_12 => ?_)
  · have hg := hg.1 c_12
    refine lv_lconst (v := (1 : Int64)) hx hb dX8_stands_17 (by decide) ?_
    refine lv_lstore_n (lv' := [(2, .long (1 : Int64)), (0, .ref h), (1, .int p1)]) hx hb dX8_stands_18 rfl hl (by decide) rfl (fun ls hl => ?_)
    refine lv_iconst (v := (0 : Int32)) hx hb dX8_stands_19 (by decide) ?_
    refine lv_istore (lv' := [(4, .int (0 : Int32)), (2, .long (1 : Int64)), (0, .ref h), (1, .int p1)]) hx hb dX8_stands_20 hl (by decide) rfl (fun ls hl => ?_)
    exact L22 F (0 : Int32) (1 : Int64) w_read x_length x_top x_at x_wrong x_isAsked f_asked _ _ _ hg hP hD hS (lv_sub hl [2, 3, 1, 0] rfl)
  have hg := hg.2 c_12
  refine lv_iconst (v := (-1 : Int32)) hx hb dX8_stands_15 (by decide) ?_
  exact k_iret C0 hr (x_rowMany, (0 : Int32), w_read, x_length, x_top, x_at, x_wrong, x_isAsked, f_asked, f_row) hg hP hD hS dX8_stands_16
theorem dJ6_numberOfTrailingZeros_0f7a4_0 : decode cJ6_numberOfTrailingZeros_0f7a4 0 = .ok (.iload_n 0, 1) := by decide +kernel
theorem dJ6_numberOfTrailingZeros_0f7a4_1 : decode cJ6_numberOfTrailingZeros_0f7a4 1 = .ok (.iconst (-1), 1) := by decide +kernel
theorem dJ6_numberOfTrailingZeros_0f7a4_2 : decode cJ6_numberOfTrailingZeros_0f7a4 2 = .ok (.ixor, 1) := by decide +kernel
theorem dJ6_numberOfTrailingZeros_0f7a4_3 : decode cJ6_numberOfTrailingZeros_0f7a4 3 = .ok (.iload_n 0, 1) := by decide +kernel
theorem dJ6_numberOfTrailingZeros_0f7a4_4 : decode cJ6_numberOfTrailingZeros_0f7a4 4 = .ok (.iconst 1, 1) := by decide +kernel
theorem dJ6_numberOfTrailingZeros_0f7a4_5 : decode cJ6_numberOfTrailingZeros_0f7a4 5 = .ok (.isub, 1) := by decide +kernel
theorem dJ6_numberOfTrailingZeros_0f7a4_6 : decode cJ6_numberOfTrailingZeros_0f7a4 6 = .ok (.iand, 1) := by decide +kernel
theorem dJ6_numberOfTrailingZeros_0f7a4_7 : decode cJ6_numberOfTrailingZeros_0f7a4 7 = .ok (.istore_n 0, 1) := by decide +kernel
theorem dJ6_numberOfTrailingZeros_0f7a4_8 : decode cJ6_numberOfTrailingZeros_0f7a4 8 = .ok (.iload_n 0, 1) := by decide +kernel
theorem dJ6_numberOfTrailingZeros_0f7a4_9 : decode cJ6_numberOfTrailingZeros_0f7a4 9 = .ok (.ifCond .gt 8, 3) := by decide +kernel
theorem dJ6_numberOfTrailingZeros_0f7a4_12 : decode cJ6_numberOfTrailingZeros_0f7a4 12 = .ok (.iload_n 0, 1) := by decide +kernel
theorem dJ6_numberOfTrailingZeros_0f7a4_13 : decode cJ6_numberOfTrailingZeros_0f7a4 13 = .ok (.bipush 32, 2) := by decide +kernel
theorem dJ6_numberOfTrailingZeros_0f7a4_15 : decode cJ6_numberOfTrailingZeros_0f7a4 15 = .ok (.iand, 1) := by decide +kernel
theorem dJ6_numberOfTrailingZeros_0f7a4_16 : decode cJ6_numberOfTrailingZeros_0f7a4 16 = .ok (.ireturn, 1) := by decide +kernel
theorem dJ6_numberOfTrailingZeros_0f7a4_17 : decode cJ6_numberOfTrailingZeros_0f7a4 17 = .ok (.iconst 1, 1) := by decide +kernel
theorem dJ6_numberOfTrailingZeros_0f7a4_18 : decode cJ6_numberOfTrailingZeros_0f7a4 18 = .ok (.istore_n 1, 1) := by decide +kernel
theorem dJ6_numberOfTrailingZeros_0f7a4_19 : decode cJ6_numberOfTrailingZeros_0f7a4 19 = .ok (.iload_n 0, 1) := by decide +kernel
theorem dJ6_numberOfTrailingZeros_0f7a4_20 : decode cJ6_numberOfTrailingZeros_0f7a4 20 = .ok (.ldc_w 264, 3) := by decide +kernel
theorem dJ6_numberOfTrailingZeros_0f7a4_23 : decode cJ6_numberOfTrailingZeros_0f7a4 23 = .ok (.if_icmp .le 11, 3) := by decide +kernel
theorem dJ6_numberOfTrailingZeros_0f7a4_26 : decode cJ6_numberOfTrailingZeros_0f7a4 26 = .ok (.iinc 1 16, 3) := by decide +kernel
theorem dJ6_numberOfTrailingZeros_0f7a4_29 : decode cJ6_numberOfTrailingZeros_0f7a4 29 = .ok (.iload_n 0, 1) := by decide +kernel
theorem dJ6_numberOfTrailingZeros_0f7a4_30 : decode cJ6_numberOfTrailingZeros_0f7a4 30 = .ok (.bipush 16, 2) := by decide +kernel
theorem dJ6_numberOfTrailingZeros_0f7a4_32 : decode cJ6_numberOfTrailingZeros_0f7a4 32 = .ok (.iushr, 1) := by decide +kernel
theorem dJ6_numberOfTrailingZeros_0f7a4_33 : decode cJ6_numberOfTrailingZeros_0f7a4 33 = .ok (.istore_n 0, 1) := by decide +kernel
theorem dJ6_numberOfTrailingZeros_0f7a4_34 : decode cJ6_numberOfTrailingZeros_0f7a4 34 = .ok (.iload_n 0, 1) := by decide +kernel
theorem dJ6_numberOfTrailingZeros_0f7a4_35 : decode cJ6_numberOfTrailingZeros_0f7a4 35 = .ok (.sipush 256, 3) := by decide +kernel
theorem dJ6_numberOfTrailingZeros_0f7a4_38 : decode cJ6_numberOfTrailingZeros_0f7a4 38 = .ok (.if_icmp .le 11, 3) := by decide +kernel
theorem dJ6_numberOfTrailingZeros_0f7a4_41 : decode cJ6_numberOfTrailingZeros_0f7a4 41 = .ok (.iinc 1 8, 3) := by decide +kernel
theorem dJ6_numberOfTrailingZeros_0f7a4_44 : decode cJ6_numberOfTrailingZeros_0f7a4 44 = .ok (.iload_n 0, 1) := by decide +kernel
theorem dJ6_numberOfTrailingZeros_0f7a4_45 : decode cJ6_numberOfTrailingZeros_0f7a4 45 = .ok (.bipush 8, 2) := by decide +kernel
theorem dJ6_numberOfTrailingZeros_0f7a4_47 : decode cJ6_numberOfTrailingZeros_0f7a4 47 = .ok (.iushr, 1) := by decide +kernel
theorem dJ6_numberOfTrailingZeros_0f7a4_48 : decode cJ6_numberOfTrailingZeros_0f7a4 48 = .ok (.istore_n 0, 1) := by decide +kernel
theorem dJ6_numberOfTrailingZeros_0f7a4_49 : decode cJ6_numberOfTrailingZeros_0f7a4 49 = .ok (.iload_n 0, 1) := by decide +kernel
theorem dJ6_numberOfTrailingZeros_0f7a4_50 : decode cJ6_numberOfTrailingZeros_0f7a4 50 = .ok (.bipush 16, 2) := by decide +kernel
theorem dJ6_numberOfTrailingZeros_0f7a4_52 : decode cJ6_numberOfTrailingZeros_0f7a4 52 = .ok (.if_icmp .le 10, 3) := by decide +kernel
theorem dJ6_numberOfTrailingZeros_0f7a4_55 : decode cJ6_numberOfTrailingZeros_0f7a4 55 = .ok (.iinc 1 4, 3) := by decide +kernel
theorem dJ6_numberOfTrailingZeros_0f7a4_58 : decode cJ6_numberOfTrailingZeros_0f7a4 58 = .ok (.iload_n 0, 1) := by decide +kernel
theorem dJ6_numberOfTrailingZeros_0f7a4_59 : decode cJ6_numberOfTrailingZeros_0f7a4 59 = .ok (.iconst 4, 1) := by decide +kernel
theorem dJ6_numberOfTrailingZeros_0f7a4_60 : decode cJ6_numberOfTrailingZeros_0f7a4 60 = .ok (.iushr, 1) := by decide +kernel
theorem dJ6_numberOfTrailingZeros_0f7a4_61 : decode cJ6_numberOfTrailingZeros_0f7a4 61 = .ok (.istore_n 0, 1) := by decide +kernel
theorem dJ6_numberOfTrailingZeros_0f7a4_62 : decode cJ6_numberOfTrailingZeros_0f7a4 62 = .ok (.iload_n 0, 1) := by decide +kernel
theorem dJ6_numberOfTrailingZeros_0f7a4_63 : decode cJ6_numberOfTrailingZeros_0f7a4 63 = .ok (.iconst 4, 1) := by decide +kernel
theorem dJ6_numberOfTrailingZeros_0f7a4_64 : decode cJ6_numberOfTrailingZeros_0f7a4 64 = .ok (.if_icmp .le 10, 3) := by decide +kernel
theorem dJ6_numberOfTrailingZeros_0f7a4_67 : decode cJ6_numberOfTrailingZeros_0f7a4 67 = .ok (.iinc 1 2, 3) := by decide +kernel
theorem dJ6_numberOfTrailingZeros_0f7a4_70 : decode cJ6_numberOfTrailingZeros_0f7a4 70 = .ok (.iload_n 0, 1) := by decide +kernel
theorem dJ6_numberOfTrailingZeros_0f7a4_71 : decode cJ6_numberOfTrailingZeros_0f7a4 71 = .ok (.iconst 2, 1) := by decide +kernel
theorem dJ6_numberOfTrailingZeros_0f7a4_72 : decode cJ6_numberOfTrailingZeros_0f7a4 72 = .ok (.iushr, 1) := by decide +kernel
theorem dJ6_numberOfTrailingZeros_0f7a4_73 : decode cJ6_numberOfTrailingZeros_0f7a4 73 = .ok (.istore_n 0, 1) := by decide +kernel
theorem dJ6_numberOfTrailingZeros_0f7a4_74 : decode cJ6_numberOfTrailingZeros_0f7a4 74 = .ok (.iload_n 1, 1) := by decide +kernel
theorem dJ6_numberOfTrailingZeros_0f7a4_75 : decode cJ6_numberOfTrailingZeros_0f7a4 75 = .ok (.iload_n 0, 1) := by decide +kernel
theorem dJ6_numberOfTrailingZeros_0f7a4_76 : decode cJ6_numberOfTrailingZeros_0f7a4 76 = .ok (.iconst 1, 1) := by decide +kernel
theorem dJ6_numberOfTrailingZeros_0f7a4_77 : decode cJ6_numberOfTrailingZeros_0f7a4 77 = .ok (.iushr, 1) := by decide +kernel
theorem dJ6_numberOfTrailingZeros_0f7a4_78 : decode cJ6_numberOfTrailingZeros_0f7a4 78 = .ok (.iadd, 1) := by decide +kernel
theorem dJ6_numberOfTrailingZeros_0f7a4_79 : decode cJ6_numberOfTrailingZeros_0f7a4 79 = .ok (.ireturn, 1) := by decide +kernel
def p_J6_numberOfTrailingZeros_0f7a4_74 (F : Nat) (Post : Int32 → Prop) (y0_74 : Int32) (y1_74 : Int32) : Prop := (Post (y1_74 + ((y0_74.toUInt32 >>> ((1 : Int32).toUInt32 &&& Int32.toUInt32 31)).toInt32)))
def p_J6_numberOfTrailingZeros_0f7a4_62 (F : Nat) (Post : Int32 → Prop) (y0_62 : Int32) (y1_62 : Int32) : Prop := ((y0_62 ≤ (4 : Int32) → (p_J6_numberOfTrailingZeros_0f7a4_74 F Post y0_62 y1_62)) ∧ (¬ y0_62 ≤ (4 : Int32) → (p_J6_numberOfTrailingZeros_0f7a4_74 F Post ((y0_62.toUInt32 >>> ((2 : Int32).toUInt32 &&& Int32.toUInt32 31)).toInt32) (y1_62 + (2 : Int32)))))
def p_J6_numberOfTrailingZeros_0f7a4_49 (F : Nat) (Post : Int32 → Prop) (y0_49 : Int32) (y1_49 : Int32) : Prop := ((y0_49 ≤ (16 : Int32) → (p_J6_numberOfTrailingZeros_0f7a4_62 F Post y0_49 y1_49)) ∧ (¬ y0_49 ≤ (16 : Int32) → (p_J6_numberOfTrailingZeros_0f7a4_62 F Post ((y0_49.toUInt32 >>> ((4 : Int32).toUInt32 &&& Int32.toUInt32 31)).toInt32) (y1_49 + (4 : Int32)))))
def p_J6_numberOfTrailingZeros_0f7a4_34 (F : Nat) (Post : Int32 → Prop) (y1_34 : Int32) (y0_34 : Int32) : Prop := ((y0_34 ≤ (256 : Int32) → (p_J6_numberOfTrailingZeros_0f7a4_49 F Post y0_34 y1_34)) ∧ (¬ y0_34 ≤ (256 : Int32) → (p_J6_numberOfTrailingZeros_0f7a4_49 F Post ((y0_34.toUInt32 >>> ((8 : Int32).toUInt32 &&& Int32.toUInt32 31)).toInt32) (y1_34 + (8 : Int32)))))
def p_J6_numberOfTrailingZeros_0f7a4 (F : Nat) (p0 : Int32) (Post : Int32 → Prop) : Prop := ((0 < ((p0 ^^^ (-1 : Int32)) &&& (p0 - (1 : Int32))) → ((((p0 ^^^ (-1 : Int32)) &&& (p0 - (1 : Int32))) ≤ (65536 : Int32) → (p_J6_numberOfTrailingZeros_0f7a4_34 F Post (1 : Int32) ((p0 ^^^ (-1 : Int32)) &&& (p0 - (1 : Int32))))) ∧ (¬ ((p0 ^^^ (-1 : Int32)) &&& (p0 - (1 : Int32))) ≤ (65536 : Int32) → (p_J6_numberOfTrailingZeros_0f7a4_34 F Post ((1 : Int32) + (16 : Int32)) ((((p0 ^^^ (-1 : Int32)) &&& (p0 - (1 : Int32))).toUInt32 >>> ((16 : Int32).toUInt32 &&& Int32.toUInt32 31)).toInt32))))) ∧ (¬ 0 < ((p0 ^^^ (-1 : Int32)) &&& (p0 - (1 : Int32))) → (Post (((p0 ^^^ (-1 : Int32)) &&& (p0 - (1 : Int32))) &&& (32 : Int32)))))
set_option maxHeartbeats 4000000 in
set_option maxRecDepth 100000 in
theorem c_J6_numberOfTrailingZeros_0f7a4 (l : Launch) (D : va_G) (cT : Nat → ClassId) (F : Nat) (p0 : Int32) (Post : Int32 → Prop) (hg : p_J6_numberOfTrailingZeros_0f7a4 F p0 Post) : MRi l D cT yJ6_numberOfTrailingZeros_0f7a4 cJ6_numberOfTrailingZeros_0f7a4 2 (some .int) 0 0 [.int p0] [] Post := by
  refine MRi.of (by decide) (Nat.le_of_ble_eq_true rfl) ?_
  intro p e s m below meth c hA C0 hr hP hD hS ls hl
  have hl : lv_has ls 2 [(0, .int p0)] := hl
  have hx := C0.x
  have hb := C0.b
  have hP : va_P D cls9 [] s.heap := hP
  have hD : va_D (fun q => cT 6 ≤ q) [] := hD
  have L74 : ∀ (y0_74 : Int32) (y1_74 : Int32) (ls : Array Slot), p_J6_numberOfTrailingZeros_0f7a4_74 F Post y0_74 y1_74 → lv_has ls 2 [(0, .int y0_74), (1, .int y1_74)] → W p l e (rmO 0 0 0 0) s m ([.int p0] : List Value).toArray below meth c s.heap [] 0 0 (MQ below (vp_Si Post) ([.int p0] : List Value).toArray s 0 0 (fun _ => False)) (F0 m 74 ls []) := by
    intro y0_74 y1_74 ls hg hl
    unfold p_J6_numberOfTrailingZeros_0f7a4_74 at hg
    refine lv_iload_n hx hb dJ6_numberOfTrailingZeros_0f7a4_74 rfl (lv_at hl 1 rfl) ?_
    refine lv_iload_n hx hb dJ6_numberOfTrailingZeros_0f7a4_75 rfl (lv_at hl 0 rfl) ?_
    refine lv_iconst (v := (1 : Int32)) hx hb dJ6_numberOfTrailingZeros_0f7a4_76 (by decide) ?_
    refine lv_iushr (v := (y0_74.toUInt32 >>> ((1 : Int32).toUInt32 &&& Int32.toUInt32 31)).toInt32) hx hb dJ6_numberOfTrailingZeros_0f7a4_77 rfl ?_
    refine lv_iadd hx hb dJ6_numberOfTrailingZeros_0f7a4_78 ?_
    exact k_xiret C0 hr hg dJ6_numberOfTrailingZeros_0f7a4_79
  have L62 : ∀ (y0_62 : Int32) (y1_62 : Int32) (ls : Array Slot), p_J6_numberOfTrailingZeros_0f7a4_62 F Post y0_62 y1_62 → lv_has ls 2 [(0, .int y0_62), (1, .int y1_62)] → W p l e (rmO 0 0 0 0) s m ([.int p0] : List Value).toArray below meth c s.heap [] 0 0 (MQ below (vp_Si Post) ([.int p0] : List Value).toArray s 0 0 (fun _ => False)) (F0 m 62 ls []) := by
    intro y0_62 y1_62 ls hg hl
    unfold p_J6_numberOfTrailingZeros_0f7a4_62 at hg
    refine lv_iload_n hx hb dJ6_numberOfTrailingZeros_0f7a4_62 rfl (lv_at hl 0 rfl) ?_
    refine lv_iconst (v := (4 : Int32)) hx hb dJ6_numberOfTrailingZeros_0f7a4_63 (by decide) ?_
    refine lv_icmp_le (tgt := 74) hx hb dJ6_numberOfTrailingZeros_0f7a4_64 (by decide) (fun c_64 => ?_) (fun c_64 => ?_)
    · have hg := hg.1 c_64
      exact L74 y0_62 y1_62 _ hg hl
    have hg := hg.2 c_64
    refine lv_iinc (v := (y1_62 + (2 : Int32))) (lv' := [(1, .int (y1_62 + (2 : Int32))), (0, .int y0_62)]) hx hb dJ6_numberOfTrailingZeros_0f7a4_67 hl (k := 1) rfl rfl (by decide) rfl (fun ls hl => ?_)
    refine lv_iload_n hx hb dJ6_numberOfTrailingZeros_0f7a4_70 rfl (lv_at hl 1 rfl) ?_
    refine lv_iconst (v := (2 : Int32)) hx hb dJ6_numberOfTrailingZeros_0f7a4_71 (by decide) ?_
    refine lv_iushr (v := (y0_62.toUInt32 >>> ((2 : Int32).toUInt32 &&& Int32.toUInt32 31)).toInt32) hx hb dJ6_numberOfTrailingZeros_0f7a4_72 rfl ?_
    refine lv_istore_n (lv' := [(0, .int ((y0_62.toUInt32 >>> ((2 : Int32).toUInt32 &&& Int32.toUInt32 31)).toInt32)), (1, .int (y1_62 + (2 : Int32)))]) hx hb dJ6_numberOfTrailingZeros_0f7a4_73 rfl hl (by decide) rfl (fun ls hl => ?_)
    exact L74 ((y0_62.toUInt32 >>> ((2 : Int32).toUInt32 &&& Int32.toUInt32 31)).toInt32) (y1_62 + (2 : Int32)) _ hg hl
  have L49 : ∀ (y0_49 : Int32) (y1_49 : Int32) (ls : Array Slot), p_J6_numberOfTrailingZeros_0f7a4_49 F Post y0_49 y1_49 → lv_has ls 2 [(0, .int y0_49), (1, .int y1_49)] → W p l e (rmO 0 0 0 0) s m ([.int p0] : List Value).toArray below meth c s.heap [] 0 0 (MQ below (vp_Si Post) ([.int p0] : List Value).toArray s 0 0 (fun _ => False)) (F0 m 49 ls []) := by
    intro y0_49 y1_49 ls hg hl
    unfold p_J6_numberOfTrailingZeros_0f7a4_49 at hg
    refine lv_iload_n hx hb dJ6_numberOfTrailingZeros_0f7a4_49 rfl (lv_at hl 0 rfl) ?_
    refine lv_bipush (v := (16 : Int32)) hx hb dJ6_numberOfTrailingZeros_0f7a4_50 (by decide) ?_
    refine lv_icmp_le (tgt := 62) hx hb dJ6_numberOfTrailingZeros_0f7a4_52 (by decide) (fun c_52 => ?_) (fun c_52 => ?_)
    · have hg := hg.1 c_52
      exact L62 y0_49 y1_49 _ hg hl
    have hg := hg.2 c_52
    refine lv_iinc (v := (y1_49 + (4 : Int32))) (lv' := [(1, .int (y1_49 + (4 : Int32))), (0, .int y0_49)]) hx hb dJ6_numberOfTrailingZeros_0f7a4_55 hl (k := 1) rfl rfl (by decide) rfl (fun ls hl => ?_)
    refine lv_iload_n hx hb dJ6_numberOfTrailingZeros_0f7a4_58 rfl (lv_at hl 1 rfl) ?_
    refine lv_iconst (v := (4 : Int32)) hx hb dJ6_numberOfTrailingZeros_0f7a4_59 (by decide) ?_
    refine lv_iushr (v := (y0_49.toUInt32 >>> ((4 : Int32).toUInt32 &&& Int32.toUInt32 31)).toInt32) hx hb dJ6_numberOfTrailingZeros_0f7a4_60 rfl ?_
    refine lv_istore_n (lv' := [(0, .int ((y0_49.toUInt32 >>> ((4 : Int32).toUInt32 &&& Int32.toUInt32 31)).toInt32)), (1, .int (y1_49 + (4 : Int32)))]) hx hb dJ6_numberOfTrailingZeros_0f7a4_61 rfl hl (by decide) rfl (fun ls hl => ?_)
    exact L62 ((y0_49.toUInt32 >>> ((4 : Int32).toUInt32 &&& Int32.toUInt32 31)).toInt32) (y1_49 + (4 : Int32)) _ hg hl
  have L34 : ∀ (y1_34 : Int32) (y0_34 : Int32) (ls : Array Slot), p_J6_numberOfTrailingZeros_0f7a4_34 F Post y1_34 y0_34 → lv_has ls 2 [(0, .int y0_34), (1, .int y1_34)] → W p l e (rmO 0 0 0 0) s m ([.int p0] : List Value).toArray below meth c s.heap [] 0 0 (MQ below (vp_Si Post) ([.int p0] : List Value).toArray s 0 0 (fun _ => False)) (F0 m 34 ls []) := by
    intro y1_34 y0_34 ls hg hl
    unfold p_J6_numberOfTrailingZeros_0f7a4_34 at hg
    refine lv_iload_n hx hb dJ6_numberOfTrailingZeros_0f7a4_34 rfl (lv_at hl 0 rfl) ?_
    refine lv_sipush (v := (256 : Int32)) hx hb dJ6_numberOfTrailingZeros_0f7a4_35 (by decide) ?_
    refine lv_icmp_le (tgt := 49) hx hb dJ6_numberOfTrailingZeros_0f7a4_38 (by decide) (fun c_38 => ?_) (fun c_38 => ?_)
    · have hg := hg.1 c_38
      exact L49 y0_34 y1_34 _ hg hl
    have hg := hg.2 c_38
    refine lv_iinc (v := (y1_34 + (8 : Int32))) (lv' := [(1, .int (y1_34 + (8 : Int32))), (0, .int y0_34)]) hx hb dJ6_numberOfTrailingZeros_0f7a4_41 hl (k := 1) rfl rfl (by decide) rfl (fun ls hl => ?_)
    refine lv_iload_n hx hb dJ6_numberOfTrailingZeros_0f7a4_44 rfl (lv_at hl 1 rfl) ?_
    refine lv_bipush (v := (8 : Int32)) hx hb dJ6_numberOfTrailingZeros_0f7a4_45 (by decide) ?_
    refine lv_iushr (v := (y0_34.toUInt32 >>> ((8 : Int32).toUInt32 &&& Int32.toUInt32 31)).toInt32) hx hb dJ6_numberOfTrailingZeros_0f7a4_47 rfl ?_
    refine lv_istore_n (lv' := [(0, .int ((y0_34.toUInt32 >>> ((8 : Int32).toUInt32 &&& Int32.toUInt32 31)).toInt32)), (1, .int (y1_34 + (8 : Int32)))]) hx hb dJ6_numberOfTrailingZeros_0f7a4_48 rfl hl (by decide) rfl (fun ls hl => ?_)
    exact L49 ((y0_34.toUInt32 >>> ((8 : Int32).toUInt32 &&& Int32.toUInt32 31)).toInt32) (y1_34 + (8 : Int32)) _ hg hl
  unfold p_J6_numberOfTrailingZeros_0f7a4 at hg
  refine lv_iload_n hx hb dJ6_numberOfTrailingZeros_0f7a4_0 rfl (lv_at hl 0 rfl) ?_
  refine lv_iconst (v := (-1 : Int32)) hx hb dJ6_numberOfTrailingZeros_0f7a4_1 (by decide) ?_
  refine lv_ixor hx hb dJ6_numberOfTrailingZeros_0f7a4_2 ?_
  refine lv_iload_n hx hb dJ6_numberOfTrailingZeros_0f7a4_3 rfl (lv_at hl 0 rfl) ?_
  refine lv_iconst (v := (1 : Int32)) hx hb dJ6_numberOfTrailingZeros_0f7a4_4 (by decide) ?_
  refine lv_isub hx hb dJ6_numberOfTrailingZeros_0f7a4_5 ?_
  refine lv_iand hx hb dJ6_numberOfTrailingZeros_0f7a4_6 ?_
  refine lv_istore_n (lv' := [(0, .int ((p0 ^^^ (-1 : Int32)) &&& (p0 - (1 : Int32))))]) hx hb dJ6_numberOfTrailingZeros_0f7a4_7 rfl hl (by decide) rfl (fun ls hl => ?_)
  refine lv_iload_n hx hb dJ6_numberOfTrailingZeros_0f7a4_8 rfl (lv_at hl 0 rfl) ?_
  refine lv_if_gt (tgt := 17) hx hb dJ6_numberOfTrailingZeros_0f7a4_9 (by decide) (fun c_9 => ?_) (fun c_9 => ?_)
  · have hg := hg.1 c_9
    refine lv_iconst (v := (1 : Int32)) hx hb dJ6_numberOfTrailingZeros_0f7a4_17 (by decide) ?_
    refine lv_istore_n (lv' := [(1, .int (1 : Int32)), (0, .int ((p0 ^^^ (-1 : Int32)) &&& (p0 - (1 : Int32))))]) hx hb dJ6_numberOfTrailingZeros_0f7a4_18 rfl hl (by decide) rfl (fun ls hl => ?_)
    refine lv_iload_n hx hb dJ6_numberOfTrailingZeros_0f7a4_19 rfl (lv_at hl 1 rfl) ?_
    refine lv_ldcw (v := (65536 : Int32)) hx hb C0.ow (C0.t w7_9) dJ6_numberOfTrailingZeros_0f7a4_20 ?_
    refine lv_icmp_le (tgt := 34) hx hb dJ6_numberOfTrailingZeros_0f7a4_23 (by decide) (fun c_23 => ?_) (fun c_23 => ?_)
    · have hg := hg.1 c_23
      exact L34 (1 : Int32) ((p0 ^^^ (-1 : Int32)) &&& (p0 - (1 : Int32))) _ hg (lv_sub hl [1, 0] rfl)
    have hg := hg.2 c_23
    refine lv_iinc (v := ((1 : Int32) + (16 : Int32))) (lv' := [(1, .int ((1 : Int32) + (16 : Int32))), (0, .int ((p0 ^^^ (-1 : Int32)) &&& (p0 - (1 : Int32))))]) hx hb dJ6_numberOfTrailingZeros_0f7a4_26 hl (k := 0) rfl rfl (by decide) rfl (fun ls hl => ?_)
    refine lv_iload_n hx hb dJ6_numberOfTrailingZeros_0f7a4_29 rfl (lv_at hl 1 rfl) ?_
    refine lv_bipush (v := (16 : Int32)) hx hb dJ6_numberOfTrailingZeros_0f7a4_30 (by decide) ?_
    refine lv_iushr (v := (((p0 ^^^ (-1 : Int32)) &&& (p0 - (1 : Int32))).toUInt32 >>> ((16 : Int32).toUInt32 &&& Int32.toUInt32 31)).toInt32) hx hb dJ6_numberOfTrailingZeros_0f7a4_32 rfl ?_
    refine lv_istore_n (lv' := [(0, .int ((((p0 ^^^ (-1 : Int32)) &&& (p0 - (1 : Int32))).toUInt32 >>> ((16 : Int32).toUInt32 &&& Int32.toUInt32 31)).toInt32)), (1, .int ((1 : Int32) + (16 : Int32)))]) hx hb dJ6_numberOfTrailingZeros_0f7a4_33 rfl hl (by decide) rfl (fun ls hl => ?_)
    exact L34 ((1 : Int32) + (16 : Int32)) ((((p0 ^^^ (-1 : Int32)) &&& (p0 - (1 : Int32))).toUInt32 >>> ((16 : Int32).toUInt32 &&& Int32.toUInt32 31)).toInt32) _ hg hl
  have hg := hg.2 c_9
  refine lv_iload_n hx hb dJ6_numberOfTrailingZeros_0f7a4_12 rfl (lv_at hl 0 rfl) ?_
  refine lv_bipush (v := (32 : Int32)) hx hb dJ6_numberOfTrailingZeros_0f7a4_13 (by decide) ?_
  refine lv_iand hx hb dJ6_numberOfTrailingZeros_0f7a4_15 ?_
  exact k_xiret C0 hr hg dJ6_numberOfTrailingZeros_0f7a4_16
theorem dJ13_numberOfTrailingZeros_95d88_0 : decode cJ13_numberOfTrailingZeros_95d88 0 = .ok (.lload_n 0, 1) := by decide +kernel
theorem dJ13_numberOfTrailingZeros_95d88_1 : decode cJ13_numberOfTrailingZeros_95d88 1 = .ok (.l2i, 1) := by decide +kernel
theorem dJ13_numberOfTrailingZeros_95d88_2 : decode cJ13_numberOfTrailingZeros_95d88 2 = .ok (.istore_n 2, 1) := by decide +kernel
theorem dJ13_numberOfTrailingZeros_95d88_3 : decode cJ13_numberOfTrailingZeros_95d88 3 = .ok (.iload_n 2, 1) := by decide +kernel
theorem dJ13_numberOfTrailingZeros_95d88_4 : decode cJ13_numberOfTrailingZeros_95d88 4 = .ok (.ifCond .ne 17, 3) := by decide +kernel
theorem dJ13_numberOfTrailingZeros_95d88_7 : decode cJ13_numberOfTrailingZeros_95d88 7 = .ok (.bipush 32, 2) := by decide +kernel
theorem dJ13_numberOfTrailingZeros_95d88_9 : decode cJ13_numberOfTrailingZeros_95d88 9 = .ok (.lload_n 0, 1) := by decide +kernel
theorem dJ13_numberOfTrailingZeros_95d88_10 : decode cJ13_numberOfTrailingZeros_95d88 10 = .ok (.bipush 32, 2) := by decide +kernel
theorem dJ13_numberOfTrailingZeros_95d88_12 : decode cJ13_numberOfTrailingZeros_95d88 12 = .ok (.lushr, 1) := by decide +kernel
theorem dJ13_numberOfTrailingZeros_95d88_13 : decode cJ13_numberOfTrailingZeros_95d88 13 = .ok (.l2i, 1) := by decide +kernel
theorem dJ13_numberOfTrailingZeros_95d88_14 : decode cJ13_numberOfTrailingZeros_95d88 14 = .ok (.invokestatic 311, 3) := by decide +kernel
theorem dJ13_numberOfTrailingZeros_95d88_17 : decode cJ13_numberOfTrailingZeros_95d88 17 = .ok (.iadd, 1) := by decide +kernel
theorem dJ13_numberOfTrailingZeros_95d88_18 : decode cJ13_numberOfTrailingZeros_95d88 18 = .ok (.goto 7, 3) := by decide +kernel
theorem dJ13_numberOfTrailingZeros_95d88_21 : decode cJ13_numberOfTrailingZeros_95d88 21 = .ok (.iload_n 2, 1) := by decide +kernel
theorem dJ13_numberOfTrailingZeros_95d88_22 : decode cJ13_numberOfTrailingZeros_95d88 22 = .ok (.invokestatic 311, 3) := by decide +kernel
theorem dJ13_numberOfTrailingZeros_95d88_25 : decode cJ13_numberOfTrailingZeros_95d88 25 = .ok (.ireturn, 1) := by decide +kernel
def p_J13_numberOfTrailingZeros_95d88 (F : Nat) (p0 : Int64) (Post : Int32 → Prop) : Prop := ((¬ (p0.toInt32) = 0 → (p_J6_numberOfTrailingZeros_0f7a4 F (p0.toInt32) (fun (r_22 : Int32) => (Post r_22)))) ∧ ((p0.toInt32) = 0 → (p_J6_numberOfTrailingZeros_0f7a4 F (((p0.toUInt64 >>> ((32 : Int32).toInt64.toUInt64 &&& Int64.toUInt64 63)).toInt64).toInt32) (fun (r_14 : Int32) => (Post ((32 : Int32) + r_14))))))
set_option maxHeartbeats 4000000 in
set_option maxRecDepth 100000 in
theorem c_J13_numberOfTrailingZeros_95d88 (l : Launch) (D : va_G) (cT : Nat → ClassId) (F : Nat) (p0 : Int64) (Post : Int32 → Prop) (hg : p_J13_numberOfTrailingZeros_95d88 F p0 Post) : MRi l D cT yJ13_numberOfTrailingZeros_95d88 cJ13_numberOfTrailingZeros_95d88 3 (some .int) 1 21 [.long p0] [] Post := by
  refine MRi.of (by decide) (Nat.le_of_ble_eq_true rfl) ?_
  intro p e s m below meth c hA C0 hr hP hD hS ls hl
  have hl : lv_has ls 3 [(0, .long p0)] := hl
  have hx := C0.x
  have hb := C0.b
  have hP : va_P D cls9 [] s.heap := hP
  have hD : va_D (fun q => cT 6 ≤ q) [] := hD
  unfold p_J13_numberOfTrailingZeros_95d88 at hg
  refine lv_lload_n hx hb dJ13_numberOfTrailingZeros_95d88_0 rfl (lv_at hl 0 rfl) ?_
  refine lv_l2i (v := (p0.toInt32)) hx hb dJ13_numberOfTrailingZeros_95d88_1 rfl ?_
  refine lv_istore_n (lv' := [(2, .int (p0.toInt32)), (0, .long p0)]) hx hb dJ13_numberOfTrailingZeros_95d88_2 rfl hl (by decide) rfl (fun ls hl => ?_)
  refine lv_iload_n hx hb dJ13_numberOfTrailingZeros_95d88_3 rfl (lv_at hl 0 rfl) ?_
  refine lv_if_ne (tgt := 21) hx hb dJ13_numberOfTrailingZeros_95d88_4 (by decide) (fun c_4 => ?_) (fun c_4 => ?_)
  · have hg := hg.1 c_4
    refine lv_iload_n hx hb dJ13_numberOfTrailingZeros_95d88_21 rfl (lv_at hl 0 rfl) ?_
    refine k_Sxi (rest := []) C0 lk_J13_311 (c_J6_numberOfTrailingZeros_0f7a4 l D cT F (p0.toInt32) _ hg) hP hD hS hA [] (by decide +kernel) rfl ⟨Nat.le_of_ble_eq_true rfl, Nat.le_of_ble_eq_true rfl⟩ rfl hl.1 rfl (Nat.le_of_ble_eq_true rfl) dJ13_numberOfTrailingZeros_95d88_22 ⟨Nat.le_of_ble_eq_true rfl, Nat.le_of_ble_eq_true rfl⟩ (fun r_22 hg => ?_)
    exact k_xiret C0 hr hg dJ13_numberOfTrailingZeros_95d88_25
  have hg := hg.2 c_4
  refine lv_bipush (v := (32 : Int32)) hx hb dJ13_numberOfTrailingZeros_95d88_7 (by decide) ?_
  refine lv_lload_n hx hb dJ13_numberOfTrailingZeros_95d88_9 rfl (lv_at hl 1 rfl) ?_
  refine lv_bipush (v := (32 : Int32)) hx hb dJ13_numberOfTrailingZeros_95d88_10 (by decide) ?_
  refine lv_lushr (v := ((p0.toUInt64 >>> ((32 : Int32).toInt64.toUInt64 &&& Int64.toUInt64 63)).toInt64)) hx hb dJ13_numberOfTrailingZeros_95d88_12 rfl ?_
  refine lv_l2i (v := (((p0.toUInt64 >>> ((32 : Int32).toInt64.toUInt64 &&& Int64.toUInt64 63)).toInt64).toInt32)) hx hb dJ13_numberOfTrailingZeros_95d88_13 rfl ?_
  refine k_Sxi (rest := [.int (32 : Int32)]) C0 lk_J13_311 (c_J6_numberOfTrailingZeros_0f7a4 l D cT F (((p0.toUInt64 >>> ((32 : Int32).toInt64.toUInt64 &&& Int64.toUInt64 63)).toInt64).toInt32) _ hg) hP hD hS hA [] (by decide +kernel) rfl ⟨Nat.le_of_ble_eq_true rfl, Nat.le_of_ble_eq_true rfl⟩ rfl hl.1 rfl (Nat.le_of_ble_eq_true rfl) dJ13_numberOfTrailingZeros_95d88_14 ⟨Nat.le_of_ble_eq_true rfl, Nat.le_of_ble_eq_true rfl⟩ (fun r_14 hg => ?_)
  refine lv_iadd hx hb dJ13_numberOfTrailingZeros_95d88_17 ?_
  refine lv_goto (tgt := 25) hx hb dJ13_numberOfTrailingZeros_95d88_18 (by decide) ?_
  exact k_xiret C0 hr hg dJ13_numberOfTrailingZeros_95d88_25
theorem dX8_litters_0 : decode cX8_litters 0 = .ok (.aload_n 0, 1) := by decide +kernel
theorem dX8_litters_1 : decode cX8_litters 1 = .ok (.iconst 0, 1) := by decide +kernel
theorem dX8_litters_2 : decode cX8_litters 2 = .ok (.putfield 82, 3) := by decide +kernel
theorem dX8_litters_5 : decode cX8_litters 5 = .ok (.iload_n 1, 1) := by decide +kernel
theorem dX8_litters_6 : decode cX8_litters 6 = .ok (.iconst 0, 1) := by decide +kernel
theorem dX8_litters_7 : decode cX8_litters 7 = .ok (.bipush 40, 2) := by decide +kernel
theorem dX8_litters_9 : decode cX8_litters 9 = .ok (.invokestatic 92, 3) := by decide +kernel
theorem dX8_litters_12 : decode cX8_litters 12 = .ok (.ifCond .ne 5, 3) := by decide +kernel
theorem dX8_litters_15 : decode cX8_litters 15 = .ok (.iconst (-1), 1) := by decide +kernel
theorem dX8_litters_16 : decode cX8_litters 16 = .ok (.ireturn, 1) := by decide +kernel
theorem dX8_litters_17 : decode cX8_litters 17 = .ok (.iconst 0, 1) := by decide +kernel
theorem dX8_litters_18 : decode cX8_litters 18 = .ok (.istore_n 2, 1) := by decide +kernel
theorem dX8_litters_19 : decode cX8_litters 19 = .ok (.iload_n 2, 1) := by decide +kernel
theorem dX8_litters_20 : decode cX8_litters 20 = .ok (.iload_n 1, 1) := by decide +kernel
theorem dX8_litters_21 : decode cX8_litters 21 = .ok (.if_icmp .gt 64, 3) := by decide +kernel
theorem dX8_litters_24 : decode cX8_litters 24 = .ok (.lconst 0, 1) := by decide +kernel
theorem dX8_litters_25 : decode cX8_litters 25 = .ok (.lstore_n 3, 1) := by decide +kernel
theorem dX8_litters_26 : decode cX8_litters 26 = .ok (.iconst 1, 1) := by decide +kernel
theorem dX8_litters_27 : decode cX8_litters 27 = .ok (.istore 5, 2) := by decide +kernel
theorem dX8_litters_29 : decode cX8_litters 29 = .ok (.iconst 2, 1) := by decide +kernel
theorem dX8_litters_30 : decode cX8_litters 30 = .ok (.iload 5, 2) := by decide +kernel
theorem dX8_litters_32 : decode cX8_litters 32 = .ok (.imul, 1) := by decide +kernel
theorem dX8_litters_33 : decode cX8_litters 33 = .ok (.iload_n 2, 1) := by decide +kernel
theorem dX8_litters_34 : decode cX8_litters 34 = .ok (.if_icmp .ge 31, 3) := by decide +kernel
theorem dX8_litters_37 : decode cX8_litters 37 = .ok (.lload_n 3, 1) := by decide +kernel
theorem dX8_litters_38 : decode cX8_litters 38 = .ok (.lconst 1, 1) := by decide +kernel
theorem dX8_litters_39 : decode cX8_litters 39 = .ok (.aload_n 0, 1) := by decide +kernel
theorem dX8_litters_40 : decode cX8_litters 40 = .ok (.getfield 69, 3) := by decide +kernel
theorem dX8_litters_43 : decode cX8_litters 43 = .ok (.iload 5, 2) := by decide +kernel
theorem dX8_litters_45 : decode cX8_litters 45 = .ok (.iaload, 1) := by decide +kernel
theorem dX8_litters_46 : decode cX8_litters 46 = .ok (.aload_n 0, 1) := by decide +kernel
theorem dX8_litters_47 : decode cX8_litters 47 = .ok (.getfield 69, 3) := by decide +kernel
theorem dX8_litters_50 : decode cX8_litters 50 = .ok (.iload_n 2, 1) := by decide +kernel
theorem dX8_litters_51 : decode cX8_litters 51 = .ok (.iload 5, 2) := by decide +kernel
theorem dX8_litters_53 : decode cX8_litters 53 = .ok (.isub, 1) := by decide +kernel
theorem dX8_litters_54 : decode cX8_litters 54 = .ok (.iaload, 1) := by decide +kernel
theorem dX8_litters_55 : decode cX8_litters 55 = .ok (.ixor, 1) := by decide +kernel
theorem dX8_litters_56 : decode cX8_litters 56 = .ok (.lshl, 1) := by decide +kernel
theorem dX8_litters_57 : decode cX8_litters 57 = .ok (.lor, 1) := by decide +kernel
theorem dX8_litters_58 : decode cX8_litters 58 = .ok (.lstore_n 3, 1) := by decide +kernel
theorem dX8_litters_59 : decode cX8_litters 59 = .ok (.iinc 5 1, 3) := by decide +kernel
theorem dX8_litters_62 : decode cX8_litters 62 = .ok (.goto (-33), 3) := by decide +kernel
theorem dX8_litters_65 : decode cX8_litters 65 = .ok (.aload_n 0, 1) := by decide +kernel
theorem dX8_litters_66 : decode cX8_litters 66 = .ok (.getfield 69, 3) := by decide +kernel
theorem dX8_litters_69 : decode cX8_litters 69 = .ok (.iload_n 2, 1) := by decide +kernel
theorem dX8_litters_70 : decode cX8_litters 70 = .ok (.lload_n 3, 1) := by decide +kernel
theorem dX8_litters_71 : decode cX8_litters 71 = .ok (.ldc2_w 368, 3) := by decide +kernel
theorem dX8_litters_74 : decode cX8_litters 74 = .ok (.lxor, 1) := by decide +kernel
theorem dX8_litters_75 : decode cX8_litters 75 = .ok (.invokestatic 370, 3) := by decide +kernel
theorem dX8_litters_78 : decode cX8_litters 78 = .ok (.iastore, 1) := by decide +kernel
theorem dX8_litters_79 : decode cX8_litters 79 = .ok (.iinc 2 1, 3) := by decide +kernel
theorem dX8_litters_82 : decode cX8_litters 82 = .ok (.goto (-63), 3) := by decide +kernel
theorem dX8_litters_85 : decode cX8_litters 85 = .ok (.aload_n 0, 1) := by decide +kernel
theorem dX8_litters_86 : decode cX8_litters 86 = .ok (.iconst 0, 1) := by decide +kernel
theorem dX8_litters_87 : decode cX8_litters 87 = .ok (.putfield 86, 3) := by decide +kernel
theorem dX8_litters_90 : decode cX8_litters 90 = .ok (.aload_n 0, 1) := by decide +kernel
theorem dX8_litters_91 : decode cX8_litters 91 = .ok (.getfield 69, 3) := by decide +kernel
theorem dX8_litters_94 : decode cX8_litters 94 = .ok (.iload_n 1, 1) := by decide +kernel
theorem dX8_litters_95 : decode cX8_litters 95 = .ok (.iaload, 1) := by decide +kernel
theorem dX8_litters_96 : decode cX8_litters 96 = .ok (.ifCond .ne 5, 3) := by decide +kernel
theorem dX8_litters_99 : decode cX8_litters 99 = .ok (.iconst 0, 1) := by decide +kernel
theorem dX8_litters_100 : decode cX8_litters 100 = .ok (.ireturn, 1) := by decide +kernel
theorem dX8_litters_101 : decode cX8_litters 101 = .ok (.iconst 1, 1) := by decide +kernel
theorem dX8_litters_102 : decode cX8_litters 102 = .ok (.istore_n 2, 1) := by decide +kernel
theorem dX8_litters_103 : decode cX8_litters 103 = .ok (.aload_n 0, 1) := by decide +kernel
theorem dX8_litters_104 : decode cX8_litters 104 = .ok (.getfield 69, 3) := by decide +kernel
theorem dX8_litters_107 : decode cX8_litters 107 = .ok (.iload_n 2, 1) := by decide +kernel
theorem dX8_litters_108 : decode cX8_litters 108 = .ok (.iaload, 1) := by decide +kernel
theorem dX8_litters_109 : decode cX8_litters 109 = .ok (.aload_n 0, 1) := by decide +kernel
theorem dX8_litters_110 : decode cX8_litters 110 = .ok (.getfield 69, 3) := by decide +kernel
theorem dX8_litters_113 : decode cX8_litters 113 = .ok (.iload_n 1, 1) := by decide +kernel
theorem dX8_litters_114 : decode cX8_litters 114 = .ok (.iload_n 2, 1) := by decide +kernel
theorem dX8_litters_115 : decode cX8_litters 115 = .ok (.isub, 1) := by decide +kernel
theorem dX8_litters_116 : decode cX8_litters 116 = .ok (.iaload, 1) := by decide +kernel
theorem dX8_litters_117 : decode cX8_litters 117 = .ok (.if_icmp .eq 9, 3) := by decide +kernel
theorem dX8_litters_120 : decode cX8_litters 120 = .ok (.iinc 2 1, 3) := by decide +kernel
theorem dX8_litters_123 : decode cX8_litters 123 = .ok (.goto (-20), 3) := by decide +kernel
theorem dX8_litters_126 : decode cX8_litters 126 = .ok (.aload_n 0, 1) := by decide +kernel
theorem dX8_litters_127 : decode cX8_litters 127 = .ok (.iload_n 2, 1) := by decide +kernel
theorem dX8_litters_128 : decode cX8_litters 128 = .ok (.i2l, 1) := by decide +kernel
theorem dX8_litters_129 : decode cX8_litters 129 = .ok (.invokevirtual 249, 3) := by decide +kernel
theorem dX8_litters_132 : decode cX8_litters 132 = .ok (.iconst 1, 1) := by decide +kernel
theorem dX8_litters_133 : decode cX8_litters 133 = .ok (.ireturn, 1) := by decide +kernel
noncomputable def p_X8_litters_103 (F : Nat) (p1 : Int32) (f_row : Nat → Int64) (f_worth_19 : Nat → Int32) (Post : Int32 → (Int32 × Int32 × (Nat → Int32) × (Nat → Int64)) → Prop) (n : Nat) : Int32 → Prop := Nat.rec (motive := fun _ => Int32 → Prop) (fun _ => False) (fun _ k103 => fun (y2_103 : Int32) => (vp_in y2_103 41 ∧ (vp_in (p1 - y2_103) 41 ∧ (((f_worth_19 y2_103.toNatClampNeg) = (f_worth_19 (p1 - y2_103).toNatClampNeg) → (p_X8_tell F (y2_103.toInt64) (0 : Int32) f_row (fun (u_129 : (Int32 × (Nat → Int64))) => (Post (1 : Int32) (u_129.1, (0 : Int32), f_worth_19, u_129.2))))) ∧ (¬ (f_worth_19 y2_103.toNatClampNeg) = (f_worth_19 (p1 - y2_103).toNatClampNeg) → (k103 (y2_103 + (1 : Int32)))))))) n
theorem p_X8_litters_103_s (F : Nat) (p1 : Int32) (f_row : Nat → Int64) (f_worth_19 : Nat → Int32) (Post : Int32 → (Int32 × Int32 × (Nat → Int32) × (Nat → Int64)) → Prop) (n : Nat) (y2_103 : Int32) : p_X8_litters_103 F p1 f_row f_worth_19 Post (n + 1) y2_103 = (vp_in y2_103 41 ∧ (vp_in (p1 - y2_103) 41 ∧ (((f_worth_19 y2_103.toNatClampNeg) = (f_worth_19 (p1 - y2_103).toNatClampNeg) → (p_X8_tell F (y2_103.toInt64) (0 : Int32) f_row (fun (u_129 : (Int32 × (Nat → Int64))) => (Post (1 : Int32) (u_129.1, (0 : Int32), f_worth_19, u_129.2))))) ∧ (¬ (f_worth_19 y2_103.toNatClampNeg) = (f_worth_19 (p1 - y2_103).toNatClampNeg) → ((p_X8_litters_103 F p1 f_row f_worth_19 Post n) (y2_103 + (1 : Int32))))))) := rfl
noncomputable def p_X8_litters_29 (F : Nat) (y2_19 : Int32) (f_worth_19 : Nat → Int32) (k19 : Int32 → (Nat → Int32) → Prop) (Post : Int32 → (Int32 × Int32 × (Nat → Int32) × (Nat → Int64)) → Prop) (n : Nat) : Int32 → Int64 → Prop := Nat.rec (motive := fun _ => Int32 → Int64 → Prop) (fun _ _ => False) (fun _ k29 => fun (y5_29 : Int32) (y3_29 : Int64) => ((y2_19 ≤ ((2 : Int32) * y5_29) → (p_J13_numberOfTrailingZeros_95d88 F (y3_29 ^^^ (-1 : Int64)) (fun (r_75 : Int32) => (vp_in y2_19 41 ∧ (k19 (y2_19 + (1 : Int32)) (upd f_worth_19 y2_19.toNatClampNeg r_75)))))) ∧ (¬ y2_19 ≤ ((2 : Int32) * y5_29) → (vp_in y5_29 41 ∧ (vp_in (y2_19 - y5_29) 41 ∧ (k29 (y5_29 + (1 : Int32)) (y3_29 ||| ((1 : Int64) <<< (((f_worth_19 y5_29.toNatClampNeg) ^^^ (f_worth_19 (y2_19 - y5_29).toNatClampNeg)).toInt64 &&& 63))))))))) n
theorem p_X8_litters_29_s (F : Nat) (y2_19 : Int32) (f_worth_19 : Nat → Int32) (k19 : Int32 → (Nat → Int32) → Prop) (Post : Int32 → (Int32 × Int32 × (Nat → Int32) × (Nat → Int64)) → Prop) (n : Nat) (y5_29 : Int32) (y3_29 : Int64) : p_X8_litters_29 F y2_19 f_worth_19 k19 Post (n + 1) y5_29 y3_29 = ((y2_19 ≤ ((2 : Int32) * y5_29) → (p_J13_numberOfTrailingZeros_95d88 F (y3_29 ^^^ (-1 : Int64)) (fun (r_75 : Int32) => (vp_in y2_19 41 ∧ (k19 (y2_19 + (1 : Int32)) (upd f_worth_19 y2_19.toNatClampNeg r_75)))))) ∧ (¬ y2_19 ≤ ((2 : Int32) * y5_29) → (vp_in y5_29 41 ∧ (vp_in (y2_19 - y5_29) 41 ∧ ((p_X8_litters_29 F y2_19 f_worth_19 k19 Post n) (y5_29 + (1 : Int32)) (y3_29 ||| ((1 : Int64) <<< (((f_worth_19 y5_29.toNatClampNeg) ^^^ (f_worth_19 (y2_19 - y5_29).toNatClampNeg)).toInt64 &&& 63)))))))) := rfl
noncomputable def p_X8_litters_19 (F : Nat) (p1 : Int32) (f_row : Nat → Int64) (Post : Int32 → (Int32 × Int32 × (Nat → Int32) × (Nat → Int64)) → Prop) (n : Nat) : Int32 → (Nat → Int32) → Prop := Nat.rec (motive := fun _ => Int32 → (Nat → Int32) → Prop) (fun _ _ => False) (fun _ k19 => fun (y2_19 : Int32) (f_worth_19 : Nat → Int32) => ((p1 < y2_19 → (vp_in p1 41 ∧ ((¬ (f_worth_19 p1.toNatClampNeg) = 0 → (p_X8_litters_103 F p1 f_row f_worth_19 Post F (1 : Int32))) ∧ ((f_worth_19 p1.toNatClampNeg) = 0 → (Post (0 : Int32) ((0 : Int32), (0 : Int32), f_worth_19, f_row)))))) ∧ (¬ p1 < y2_19 → (p_X8_litters_29 F y2_19 f_worth_19 k19 Post F (1 : Int32) (0 : Int64))))) n
theorem p_X8_litters_19_s (F : Nat) (p1 : Int32) (f_row : Nat → Int64) (Post : Int32 → (Int32 × Int32 × (Nat → Int32) × (Nat → Int64)) → Prop) (n : Nat) (y2_19 : Int32) (f_worth_19 : Nat → Int32) : p_X8_litters_19 F p1 f_row Post (n + 1) y2_19 f_worth_19 = ((p1 < y2_19 → (vp_in p1 41 ∧ ((¬ (f_worth_19 p1.toNatClampNeg) = 0 → (p_X8_litters_103 F p1 f_row f_worth_19 Post F (1 : Int32))) ∧ ((f_worth_19 p1.toNatClampNeg) = 0 → (Post (0 : Int32) ((0 : Int32), (0 : Int32), f_worth_19, f_row)))))) ∧ (¬ p1 < y2_19 → (p_X8_litters_29 F y2_19 f_worth_19 (p_X8_litters_19 F p1 f_row Post n) Post F (1 : Int32) (0 : Int64)))) := rfl
def p_X8_litters (F : Nat) (p1 : Int32) (x_rowMany : Int32) (f_worth : Nat → Int32) (f_row : Nat → Int64) (Post : Int32 → (Int32 × Int32 × (Nat → Int32) × (Nat → Int64)) → Prop) : Prop := (p_X8_in F p1 (0 : Int32) (40 : Int32) (fun (r_9 : Int32) => ((¬ r_9 = 0 → (p_X8_litters_19 F p1 f_row Post F (0 : Int32) f_worth)) ∧ (r_9 = 0 → (Post (-1 : Int32) (x_rowMany, (0 : Int32), f_worth, f_row))))))
set_option maxHeartbeats 4000000 in
set_option maxRecDepth 100000 in
theorem c_X8_litters (l : Launch) (D : va_G) (cT : Nat → ClassId) (F : Nat) (h : Nat) (p1 : Int32) (w_now : Value) (x_arches : Int32) (x_cats : Int32) (w_text : Value) (x_typed : Int32) (q_row : Nat) (x_rowMany : Int32) (x_thrown : Int32) (w_read : Value) (x_length : Int32) (x_top : Int32) (x_at : Int32) (x_wrong : Int32) (w_told : Value) (w_rule : Value) (w_otherRule : Value) (x_ruleSize : Int32) (x_isAsked : Int32) (w_asked : Value) (w_undos : Value) (x_undoMany : Int32) (w_aside : Value) (w_then : Value) (w_hold : Value) (x_dropped : Int32) (w_acts : Value) (w_guarded : Value) (w_train : Value) (x_trolleyEnd : Int32) (w_feltOf : Value) (w_feltBy : Value) (x_feltMany : Int32) (w_many : Value) (w_heardOf : Value) (w_heardBy : Value) (x_heardMany : Int32) (q_worth : Nat) (x_drawn : Int32) (x_came : Int32) (w_kept : Value) (w_isKept : Value) (w_keptCame : Value) (f_worth : Nat → Int32) (f_row : Nat → Int64) (Post : Int32 → (Int32 × Int32 × (Nat → Int32) × (Nat → Int64)) → Prop) (hg : p_X8_litters F p1 x_rowMany f_worth f_row Post) : MWi l D cT yX8_litters cX8_litters 6 (some .int) 2 43 0 0 [.ref h, .int p1] [(h, oX8 w_now (.int x_arches) (.int x_cats) w_text (.int x_typed) (.ref q_row) (.int x_rowMany) (.int x_thrown) w_read (.int x_length) (.int x_top) (.int x_at) (.int x_wrong) w_told w_rule w_otherRule (.int x_ruleSize) (.int x_isAsked) w_asked w_undos (.int x_undoMany) w_aside w_then w_hold (.int x_dropped) w_acts w_guarded w_train (.int x_trolleyEnd) w_feltOf w_feltBy (.int x_feltMany) w_many w_heardOf w_heardBy (.int x_heardMany) (.ref q_worth) (.int x_drawn) (.int x_came) w_kept w_isKept w_keptCame), (q_worth, aI cT 41 f_worth), (q_row, aJ cT 16 f_row)] Post (fun (u : (Int32 × Int32 × (Nat → Int32) × (Nat → Int64))) => [(h, oX8 w_now (.int x_arches) (.int x_cats) w_text (.int x_typed) (.ref q_row) (.int u.1) (.int u.2.1) w_read (.int x_length) (.int x_top) (.int x_at) (.int x_wrong) w_told w_rule w_otherRule (.int x_ruleSize) (.int x_isAsked) w_asked w_undos (.int x_undoMany) w_aside w_then w_hold (.int x_dropped) w_acts w_guarded w_train (.int x_trolleyEnd) w_feltOf w_feltBy (.int x_feltMany) w_many w_heardOf w_heardBy (.int x_heardMany) (.ref q_worth) (.int x_drawn) (.int x_came) w_kept w_isKept w_keptCame), (q_worth, aI cT 41 u.2.2.1), (q_row, aJ cT 16 u.2.2.2)]) := by
  refine MWi.of (by decide) (Nat.le_of_ble_eq_true rfl) ?_
  intro p e s m below meth c A hA C0 hnm hr hP hD ls hl
  have hl : lv_has ls 6 [(0, .ref h), (1, .int p1)] := hl
  have hx := C0.x
  have hb := C0.b
  have hS : va_S A s.heap s.heap [] := va_S.rf
  have hP : va_P D cls9 [(h, oX8 w_now (.int x_arches) (.int x_cats) w_text (.int x_typed) (.ref q_row) (.int x_rowMany) (.int x_thrown) w_read (.int x_length) (.int x_top) (.int x_at) (.int x_wrong) w_told w_rule w_otherRule (.int x_ruleSize) (.int x_isAsked) w_asked w_undos (.int x_undoMany) w_aside w_then w_hold (.int x_dropped) w_acts w_guarded w_train (.int x_trolleyEnd) w_feltOf w_feltBy (.int x_feltMany) w_many w_heardOf w_heardBy (.int x_heardMany) (.ref q_worth) (.int x_drawn) (.int x_came) w_kept w_isKept w_keptCame), (q_worth, aI cT 41 f_worth), (q_row, aJ cT 16 f_row)] s.heap := hP
  have hD : va_D A [(h, oX8 w_now (.int x_arches) (.int x_cats) w_text (.int x_typed) (.ref q_row) (.int x_rowMany) (.int x_thrown) w_read (.int x_length) (.int x_top) (.int x_at) (.int x_wrong) w_told w_rule w_otherRule (.int x_ruleSize) (.int x_isAsked) w_asked w_undos (.int x_undoMany) w_aside w_then w_hold (.int x_dropped) w_acts w_guarded w_train (.int x_trolleyEnd) w_feltOf w_feltBy (.int x_feltMany) w_many w_heardOf w_heardBy (.int x_heardMany) (.ref q_worth) (.int x_drawn) (.int x_came) w_kept w_isKept w_keptCame), (q_worth, aI cT 41 f_worth), (q_row, aJ cT 16 f_row)] := hD
  have L103 : ∀ (f_worth_19 : Nat → Int32) (n103 : Nat) (y2_103 : Int32) (H : Heap) (locs : List Loc) (ls : Array Slot), p_X8_litters_103 F p1 f_row f_worth_19 Post n103 y2_103 → va_P D cls9 [(h, oX8 w_now (.int x_arches) (.int x_cats) w_text (.int x_typed) (.ref q_row) (.int (0 : Int32)) (.int (0 : Int32)) w_read (.int x_length) (.int x_top) (.int x_at) (.int x_wrong) w_told w_rule w_otherRule (.int x_ruleSize) (.int x_isAsked) w_asked w_undos (.int x_undoMany) w_aside w_then w_hold (.int x_dropped) w_acts w_guarded w_train (.int x_trolleyEnd) w_feltOf w_feltBy (.int x_feltMany) w_many w_heardOf w_heardBy (.int x_heardMany) (.ref q_worth) (.int x_drawn) (.int x_came) w_kept w_isKept w_keptCame), (q_worth, aI cT 41 f_worth_19), (q_row, aJ cT 16 f_row)] H → va_D A [(h, oX8 w_now (.int x_arches) (.int x_cats) w_text (.int x_typed) (.ref q_row) (.int (0 : Int32)) (.int (0 : Int32)) w_read (.int x_length) (.int x_top) (.int x_at) (.int x_wrong) w_told w_rule w_otherRule (.int x_ruleSize) (.int x_isAsked) w_asked w_undos (.int x_undoMany) w_aside w_then w_hold (.int x_dropped) w_acts w_guarded w_train (.int x_trolleyEnd) w_feltOf w_feltBy (.int x_feltMany) w_many w_heardOf w_heardBy (.int x_heardMany) (.ref q_worth) (.int x_drawn) (.int x_came) w_kept w_isKept w_keptCame), (q_worth, aI cT 41 f_worth_19), (q_row, aJ cT 16 f_row)] → va_S A s.heap H locs → lv_has ls 6 [(0, .ref h), (1, .int p1), (2, .int y2_103)] → W p l e (rmO 2 43 0 0) s m ([.ref h, .int p1] : List Value).toArray below meth c H locs 0 0 (MQ below (va_Qi Post (cB D A (fun (u : (Int32 × Int32 × (Nat → Int32) × (Nat → Int64))) => [(h, oX8 w_now (.int x_arches) (.int x_cats) w_text (.int x_typed) (.ref q_row) (.int u.1) (.int u.2.1) w_read (.int x_length) (.int x_top) (.int x_at) (.int x_wrong) w_told w_rule w_otherRule (.int x_ruleSize) (.int x_isAsked) w_asked w_undos (.int x_undoMany) w_aside w_then w_hold (.int x_dropped) w_acts w_guarded w_train (.int x_trolleyEnd) w_feltOf w_feltBy (.int x_feltMany) w_many w_heardOf w_heardBy (.int x_heardMany) (.ref q_worth) (.int x_drawn) (.int x_came) w_kept w_isKept w_keptCame), (q_worth, aI cT 41 u.2.2.1), (q_row, aJ cT 16 u.2.2.2)])) A) ([.ref h, .int p1] : List Value).toArray s 0 0 A) (F0 m 103 ls []) := by
    intro f_worth_19 n103
    induction n103 with
    | zero =>
      intro y2_103 H locs ls hg hP hD hS hl
      exact False.elim hg
    | succ n103 ih103 =>
      intro y2_103 H locs ls hg hP hD hS hl
      rw [p_X8_litters_103_s] at hg
      refine lv_aload_n hx hb dX8_litters_103 rfl (lv_at hl 0 rfl) ?_
      refine gf_X8_69 C0 hP 0 rfl rfl dX8_litters_104 ?_
      refine lv_iload_n hx hb dX8_litters_107 rfl (lv_at hl 2 rfl) ?_
      obtain ⟨g_108, hg⟩ := hg
      refine k_iald C0 hP 1 rfl g_108 dX8_litters_108 ?_
      refine lv_aload_n hx hb dX8_litters_109 rfl (lv_at hl 0 rfl) ?_
      refine gf_X8_69 C0 hP 0 rfl rfl dX8_litters_110 ?_
      refine lv_iload_n hx hb dX8_litters_113 rfl (lv_at hl 1 rfl) ?_
      refine lv_iload_n hx hb dX8_litters_114 rfl (lv_at hl 2 rfl) ?_
      refine lv_isub hx hb dX8_litters_115 ?_
      obtain ⟨g_116, hg⟩ := hg
      refine k_iald C0 hP 1 rfl g_116 dX8_litters_116 ?_
      refine lv_icmp_eq (tgt := 126) hx hb dX8_litters_117 (by decide) (fun c_117 => ?_) (fun c_117 => ?_)
      · have hg := hg.1 c_117
        refine lv_aload_n hx hb dX8_litters_126 rfl (lv_at hl 0 rfl) ?_
        refine lv_iload_n hx hb dX8_litters_127 rfl (lv_at hl 2 rfl) ?_
        refine lv_i2l (v := (y2_103.toInt64)) hx hb dX8_litters_128 rfl ?_
        refine k_Vv (rest := []) (wr := [(q_worth, aI cT 41 f_worth_19)]) (w2 := fun u_129 => [(q_worth, aI cT 41 f_worth_19), (h, oX8 w_now (.int x_arches) (.int x_cats) w_text (.int x_typed) (.ref q_row) (.int u_129.1) (.int (0 : Int32)) w_read (.int x_length) (.int x_top) (.int x_at) (.int x_wrong) w_told w_rule w_otherRule (.int x_ruleSize) (.int x_isAsked) w_asked w_undos (.int x_undoMany) w_aside w_then w_hold (.int x_dropped) w_acts w_guarded w_train (.int x_trolleyEnd) w_feltOf w_feltBy (.int x_feltMany) w_many w_heardOf w_heardBy (.int x_heardMany) (.ref q_worth) (.int x_drawn) (.int x_came) w_kept w_isKept w_keptCame), (q_row, aJ cT 16 u_129.2)]) C0 lk_X8_249 (c_X8_tell l D cT F h (y2_103.toInt64) w_now x_arches x_cats w_text x_typed q_row (0 : Int32) (0 : Int32) w_read x_length x_top x_at x_wrong w_told w_rule w_otherRule x_ruleSize x_isAsked w_asked w_undos x_undoMany w_aside w_then w_hold x_dropped w_acts w_guarded w_train x_trolleyEnd w_feltOf w_feltBy x_feltMany w_many w_heardOf w_heardBy x_heardMany (.ref q_worth) x_drawn x_came w_kept w_isKept w_keptCame f_row _ hg) hP hD hS hA [0, 2] [1] (by decide +kernel) rfl rfl (fun _ => rfl) rfl rfl ⟨Nat.le_of_ble_eq_true rfl, Nat.le_of_ble_eq_true rfl⟩ rfl hl.1 rfl (Nat.le_of_ble_eq_true rfl) dX8_litters_129 ⟨Nat.le_of_ble_eq_true rfl, Nat.le_of_ble_eq_true rfl⟩ ?_
        intro u_129 H locs hg hP hD hS
        refine lv_iconst (v := (1 : Int32)) hx hb dX8_litters_132 (by decide) ?_
        exact k_iret C0 hr (u_129.1, (0 : Int32), f_worth_19, u_129.2) hg (subP hP [1, 0, 2] rfl) (hD.sub [1, 0, 2] (nd2_ok _ (by decide +kernel)) rfl) hS dX8_litters_133
      have hg := hg.2 c_117
      refine lv_iinc (v := (y2_103 + (1 : Int32))) (lv' := [(2, .int (y2_103 + (1 : Int32))), (0, .ref h), (1, .int p1)]) hx hb dX8_litters_120 hl (k := 2) rfl rfl (by decide) rfl (fun ls hl => ?_)
      refine lv_goto (tgt := 103) hx hb dX8_litters_123 (by decide) ?_
      exact ih103 (y2_103 + (1 : Int32)) _ _ _ hg hP hD hS (lv_sub hl [1, 2, 0] rfl)
  have L19 : ∀ (n19 : Nat) (y2_19 : Int32) (f_worth_19 : Nat → Int32) (H : Heap) (locs : List Loc) (ls : Array Slot), p_X8_litters_19 F p1 f_row Post n19 y2_19 f_worth_19 → va_P D cls9 [(h, oX8 w_now (.int x_arches) (.int x_cats) w_text (.int x_typed) (.ref q_row) (.int x_rowMany) (.int (0 : Int32)) w_read (.int x_length) (.int x_top) (.int x_at) (.int x_wrong) w_told w_rule w_otherRule (.int x_ruleSize) (.int x_isAsked) w_asked w_undos (.int x_undoMany) w_aside w_then w_hold (.int x_dropped) w_acts w_guarded w_train (.int x_trolleyEnd) w_feltOf w_feltBy (.int x_feltMany) w_many w_heardOf w_heardBy (.int x_heardMany) (.ref q_worth) (.int x_drawn) (.int x_came) w_kept w_isKept w_keptCame), (q_worth, aI cT 41 f_worth_19), (q_row, aJ cT 16 f_row)] H → va_D A [(h, oX8 w_now (.int x_arches) (.int x_cats) w_text (.int x_typed) (.ref q_row) (.int x_rowMany) (.int (0 : Int32)) w_read (.int x_length) (.int x_top) (.int x_at) (.int x_wrong) w_told w_rule w_otherRule (.int x_ruleSize) (.int x_isAsked) w_asked w_undos (.int x_undoMany) w_aside w_then w_hold (.int x_dropped) w_acts w_guarded w_train (.int x_trolleyEnd) w_feltOf w_feltBy (.int x_feltMany) w_many w_heardOf w_heardBy (.int x_heardMany) (.ref q_worth) (.int x_drawn) (.int x_came) w_kept w_isKept w_keptCame), (q_worth, aI cT 41 f_worth_19), (q_row, aJ cT 16 f_row)] → va_S A s.heap H locs → lv_has ls 6 [(0, .ref h), (1, .int p1), (2, .int y2_19)] → W p l e (rmO 2 43 0 0) s m ([.ref h, .int p1] : List Value).toArray below meth c H locs 0 0 (MQ below (va_Qi Post (cB D A (fun (u : (Int32 × Int32 × (Nat → Int32) × (Nat → Int64))) => [(h, oX8 w_now (.int x_arches) (.int x_cats) w_text (.int x_typed) (.ref q_row) (.int u.1) (.int u.2.1) w_read (.int x_length) (.int x_top) (.int x_at) (.int x_wrong) w_told w_rule w_otherRule (.int x_ruleSize) (.int x_isAsked) w_asked w_undos (.int x_undoMany) w_aside w_then w_hold (.int x_dropped) w_acts w_guarded w_train (.int x_trolleyEnd) w_feltOf w_feltBy (.int x_feltMany) w_many w_heardOf w_heardBy (.int x_heardMany) (.ref q_worth) (.int x_drawn) (.int x_came) w_kept w_isKept w_keptCame), (q_worth, aI cT 41 u.2.2.1), (q_row, aJ cT 16 u.2.2.2)])) A) ([.ref h, .int p1] : List Value).toArray s 0 0 A) (F0 m 19 ls []) := by
    intro n19
    induction n19 with
    | zero =>
      intro y2_19 f_worth_19 H locs ls hg hP hD hS hl
      exact False.elim hg
    | succ n19 ih19 =>
      have L29 : ∀ (y2_19 : Int32) (f_worth_19 : Nat → Int32) (n29 : Nat) (y5_29 : Int32) (y3_29 : Int64) (H : Heap) (locs : List Loc) (ls : Array Slot), p_X8_litters_29 F y2_19 f_worth_19 (p_X8_litters_19 F p1 f_row Post n19) Post n29 y5_29 y3_29 → va_P D cls9 [(h, oX8 w_now (.int x_arches) (.int x_cats) w_text (.int x_typed) (.ref q_row) (.int x_rowMany) (.int (0 : Int32)) w_read (.int x_length) (.int x_top) (.int x_at) (.int x_wrong) w_told w_rule w_otherRule (.int x_ruleSize) (.int x_isAsked) w_asked w_undos (.int x_undoMany) w_aside w_then w_hold (.int x_dropped) w_acts w_guarded w_train (.int x_trolleyEnd) w_feltOf w_feltBy (.int x_feltMany) w_many w_heardOf w_heardBy (.int x_heardMany) (.ref q_worth) (.int x_drawn) (.int x_came) w_kept w_isKept w_keptCame), (q_worth, aI cT 41 f_worth_19), (q_row, aJ cT 16 f_row)] H → va_D A [(h, oX8 w_now (.int x_arches) (.int x_cats) w_text (.int x_typed) (.ref q_row) (.int x_rowMany) (.int (0 : Int32)) w_read (.int x_length) (.int x_top) (.int x_at) (.int x_wrong) w_told w_rule w_otherRule (.int x_ruleSize) (.int x_isAsked) w_asked w_undos (.int x_undoMany) w_aside w_then w_hold (.int x_dropped) w_acts w_guarded w_train (.int x_trolleyEnd) w_feltOf w_feltBy (.int x_feltMany) w_many w_heardOf w_heardBy (.int x_heardMany) (.ref q_worth) (.int x_drawn) (.int x_came) w_kept w_isKept w_keptCame), (q_worth, aI cT 41 f_worth_19), (q_row, aJ cT 16 f_row)] → va_S A s.heap H locs → lv_has ls 6 [(0, .ref h), (1, .int p1), (2, .int y2_19), (3, .long y3_29), (5, .int y5_29)] → W p l e (rmO 2 43 0 0) s m ([.ref h, .int p1] : List Value).toArray below meth c H locs 0 0 (MQ below (va_Qi Post (cB D A (fun (u : (Int32 × Int32 × (Nat → Int32) × (Nat → Int64))) => [(h, oX8 w_now (.int x_arches) (.int x_cats) w_text (.int x_typed) (.ref q_row) (.int u.1) (.int u.2.1) w_read (.int x_length) (.int x_top) (.int x_at) (.int x_wrong) w_told w_rule w_otherRule (.int x_ruleSize) (.int x_isAsked) w_asked w_undos (.int x_undoMany) w_aside w_then w_hold (.int x_dropped) w_acts w_guarded w_train (.int x_trolleyEnd) w_feltOf w_feltBy (.int x_feltMany) w_many w_heardOf w_heardBy (.int x_heardMany) (.ref q_worth) (.int x_drawn) (.int x_came) w_kept w_isKept w_keptCame), (q_worth, aI cT 41 u.2.2.1), (q_row, aJ cT 16 u.2.2.2)])) A) ([.ref h, .int p1] : List Value).toArray s 0 0 A) (F0 m 29 ls []) := by
        intro y2_19 f_worth_19 n29
        induction n29 with
        | zero =>
          intro y5_29 y3_29 H locs ls hg hP hD hS hl
          exact False.elim hg
        | succ n29 ih29 =>
          intro y5_29 y3_29 H locs ls hg hP hD hS hl
          rw [p_X8_litters_29_s] at hg
          refine lv_iconst (v := (2 : Int32)) hx hb dX8_litters_29 (by decide) ?_
          refine lv_iload hx hb dX8_litters_30 (lv_at hl 4 rfl) ?_
          refine lv_imul hx hb dX8_litters_32 ?_
          refine lv_iload_n hx hb dX8_litters_33 rfl (lv_at hl 2 rfl) ?_
          refine lv_icmp_ge (tgt := 65) hx hb dX8_litters_34 (by decide) (fun c_34 => ?_) (fun c_34 => ?_)
          · have hg := hg.1 c_34
            refine lv_aload_n hx hb dX8_litters_65 rfl (lv_at hl 0 rfl) ?_
            refine gf_X8_69 C0 hP 0 rfl rfl dX8_litters_66 ?_
            refine lv_iload_n hx hb dX8_litters_69 rfl (lv_at hl 2 rfl) ?_
            refine lv_lload_n hx hb dX8_litters_70 rfl (lv_at hl 3 rfl) ?_
            refine lv_ldc2 (v := (-1 : Int64)) hx hb C0.ow (C0.t w7_2) dX8_litters_71 ?_
            refine lv_lxor hx hb dX8_litters_74 ?_
            refine k_Sxi (rest := [.int y2_19, .ref q_worth]) C0 lk_X8_370 (c_J13_numberOfTrailingZeros_95d88 l D cT F (y3_29 ^^^ (-1 : Int64)) _ hg) hP hD hS hA [] (by decide +kernel) rfl ⟨Nat.le_of_ble_eq_true rfl, Nat.le_of_ble_eq_true rfl⟩ rfl hl.1 rfl (Nat.le_of_ble_eq_true rfl) dX8_litters_75 ⟨Nat.le_of_ble_eq_true rfl, Nat.le_of_ble_eq_true rfl⟩ (fun r_75 hg => ?_)
            obtain ⟨g_78, hg⟩ := hg
            refine k_iast C0 hP hD hS 1 rfl g_78 (ws' := [(h, oX8 w_now (.int x_arches) (.int x_cats) w_text (.int x_typed) (.ref q_row) (.int x_rowMany) (.int (0 : Int32)) w_read (.int x_length) (.int x_top) (.int x_at) (.int x_wrong) w_told w_rule w_otherRule (.int x_ruleSize) (.int x_isAsked) w_asked w_undos (.int x_undoMany) w_aside w_then w_hold (.int x_dropped) w_acts w_guarded w_train (.int x_trolleyEnd) w_feltOf w_feltBy (.int x_feltMany) w_many w_heardOf w_heardBy (.int x_heardMany) (.ref q_worth) (.int x_drawn) (.int x_came) w_kept w_isKept w_keptCame), (q_worth, aI cT 41 (upd f_worth_19 y2_19.toNatClampNeg r_75)), (q_row, aJ cT 16 f_row)]) rfl dX8_litters_78 (fun H locs hP hD hS => ?_)
            refine lv_iinc (v := (y2_19 + (1 : Int32))) (lv' := [(2, .int (y2_19 + (1 : Int32))), (0, .ref h), (1, .int p1), (3, .long y3_29), (5, .int y5_29)]) hx hb dX8_litters_79 hl (k := 2) rfl rfl (by decide) rfl (fun ls hl => ?_)
            refine lv_goto (tgt := 19) hx hb dX8_litters_82 (by decide) ?_
            exact ih19 (y2_19 + (1 : Int32)) (upd f_worth_19 y2_19.toNatClampNeg r_75) _ _ _ hg hP hD hS (lv_sub hl [1, 2, 0] rfl)
          have hg := hg.2 c_34
          refine lv_lload_n hx hb dX8_litters_37 rfl (lv_at hl 3 rfl) ?_
          refine lv_lconst (v := (1 : Int64)) hx hb dX8_litters_38 (by decide) ?_
          refine lv_aload_n hx hb dX8_litters_39 rfl (lv_at hl 0 rfl) ?_
          refine gf_X8_69 C0 hP 0 rfl rfl dX8_litters_40 ?_
          refine lv_iload hx hb dX8_litters_43 (lv_at hl 4 rfl) ?_
          obtain ⟨g_45, hg⟩ := hg
          refine k_iald C0 hP 1 rfl g_45 dX8_litters_45 ?_
          refine lv_aload_n hx hb dX8_litters_46 rfl (lv_at hl 0 rfl) ?_
          refine gf_X8_69 C0 hP 0 rfl rfl dX8_litters_47 ?_
          refine lv_iload_n hx hb dX8_litters_50 rfl (lv_at hl 2 rfl) ?_
          refine lv_iload hx hb dX8_litters_51 (lv_at hl 4 rfl) ?_
          refine lv_isub hx hb dX8_litters_53 ?_
          obtain ⟨g_54, hg⟩ := hg
          refine k_iald C0 hP 1 rfl g_54 dX8_litters_54 ?_
          refine lv_ixor hx hb dX8_litters_55 ?_
          refine lv_lshl (v := ((1 : Int64) <<< (((f_worth_19 y5_29.toNatClampNeg) ^^^ (f_worth_19 (y2_19 - y5_29).toNatClampNeg)).toInt64 &&& 63))) hx hb dX8_litters_56 rfl ?_
          refine lv_lor hx hb dX8_litters_57 ?_
          refine lv_lstore_n (lv' := [(3, .long (y3_29 ||| ((1 : Int64) <<< (((f_worth_19 y5_29.toNatClampNeg) ^^^ (f_worth_19 (y2_19 - y5_29).toNatClampNeg)).toInt64 &&& 63)))), (0, .ref h), (1, .int p1), (2, .int y2_19), (5, .int y5_29)]) hx hb dX8_litters_58 rfl hl (by decide) rfl (fun ls hl => ?_)
          refine lv_iinc (v := (y5_29 + (1 : Int32))) (lv' := [(5, .int (y5_29 + (1 : Int32))), (3, .long (y3_29 ||| ((1 : Int64) <<< (((f_worth_19 y5_29.toNatClampNeg) ^^^ (f_worth_19 (y2_19 - y5_29).toNatClampNeg)).toInt64 &&& 63)))), (0, .ref h), (1, .int p1), (2, .int y2_19)]) hx hb dX8_litters_59 hl (k := 4) rfl rfl (by decide) rfl (fun ls hl => ?_)
          refine lv_goto (tgt := 29) hx hb dX8_litters_62 (by decide) ?_
          exact ih29 (y5_29 + (1 : Int32)) (y3_29 ||| ((1 : Int64) <<< (((f_worth_19 y5_29.toNatClampNeg) ^^^ (f_worth_19 (y2_19 - y5_29).toNatClampNeg)).toInt64 &&& 63))) _ _ _ hg hP hD hS (lv_sub hl [2, 3, 4, 1, 0] rfl)
      intro y2_19 f_worth_19 H locs ls hg hP hD hS hl
      rw [p_X8_litters_19_s] at hg
      refine lv_iload_n hx hb dX8_litters_19 rfl (lv_at hl 2 rfl) ?_
      refine lv_iload_n hx hb dX8_litters_20 rfl (lv_at hl 1 rfl) ?_
      refine lv_icmp_gt (tgt := 85) hx hb dX8_litters_21 (by decide) (fun c_21 => ?_) (fun c_21 => ?_)
      · have hg := hg.1 c_21
        refine lv_aload_n hx hb dX8_litters_85 rfl (lv_at hl 0 rfl) ?_
        refine lv_iconst (v := (0 : Int32)) hx hb dX8_litters_86 (by decide) ?_
        refine pf_X8_86 C0 hP hD hS 0 rfl (Nat.le_of_ble_eq_true rfl) (ws2 := [(h, oX8 w_now (.int x_arches) (.int x_cats) w_text (.int x_typed) (.ref q_row) (.int (0 : Int32)) (.int (0 : Int32)) w_read (.int x_length) (.int x_top) (.int x_at) (.int x_wrong) w_told w_rule w_otherRule (.int x_ruleSize) (.int x_isAsked) w_asked w_undos (.int x_undoMany) w_aside w_then w_hold (.int x_dropped) w_acts w_guarded w_train (.int x_trolleyEnd) w_feltOf w_feltBy (.int x_feltMany) w_many w_heardOf w_heardBy (.int x_heardMany) (.ref q_worth) (.int x_drawn) (.int x_came) w_kept w_isKept w_keptCame), (q_worth, aI cT 41 f_worth_19), (q_row, aJ cT 16 f_row)]) rfl dX8_litters_87 (fun H locs hP hD hS => ?_)
        refine lv_aload_n hx hb dX8_litters_90 rfl (lv_at hl 0 rfl) ?_
        refine gf_X8_69 C0 hP 0 rfl rfl dX8_litters_91 ?_
        refine lv_iload_n hx hb dX8_litters_94 rfl (lv_at hl 1 rfl) ?_
        obtain ⟨g_95, hg⟩ := hg
        refine k_iald C0 hP 1 rfl g_95 dX8_litters_95 ?_
        refine lv_if_ne (tgt := 101) hx hb dX8_litters_96 (by decide) (fun c_96 => ?_) (fun c_96 => ?_)
        · have hg := hg.1 c_96
          refine lv_iconst (v := (1 : Int32)) hx hb dX8_litters_101 (by decide) ?_
          refine lv_istore_n (lv' := [(2, .int (1 : Int32)), (0, .ref h), (1, .int p1)]) hx hb dX8_litters_102 rfl hl (by decide) rfl (fun ls hl => ?_)
          exact L103 f_worth_19 F (1 : Int32) _ _ _ hg hP hD hS (lv_sub hl [1, 2, 0] rfl)
        have hg := hg.2 c_96
        refine lv_iconst (v := (0 : Int32)) hx hb dX8_litters_99 (by decide) ?_
        exact k_iret C0 hr ((0 : Int32), (0 : Int32), f_worth_19, f_row) hg hP hD hS dX8_litters_100
      have hg := hg.2 c_21
      refine lv_lconst (v := (0 : Int64)) hx hb dX8_litters_24 (by decide) ?_
      refine lv_lstore_n (lv' := [(3, .long (0 : Int64)), (0, .ref h), (1, .int p1), (2, .int y2_19)]) hx hb dX8_litters_25 rfl hl (by decide) rfl (fun ls hl => ?_)
      refine lv_iconst (v := (1 : Int32)) hx hb dX8_litters_26 (by decide) ?_
      refine lv_istore (lv' := [(5, .int (1 : Int32)), (3, .long (0 : Int64)), (0, .ref h), (1, .int p1), (2, .int y2_19)]) hx hb dX8_litters_27 hl (by decide) rfl (fun ls hl => ?_)
      exact L29 y2_19 f_worth_19 F (1 : Int32) (0 : Int64) _ _ _ hg hP hD hS (lv_sub hl [2, 3, 4, 1, 0] rfl)
  unfold p_X8_litters at hg
  refine lv_aload_n hx hb dX8_litters_0 rfl (lv_at hl 0 rfl) ?_
  refine lv_iconst (v := (0 : Int32)) hx hb dX8_litters_1 (by decide) ?_
  refine pf_X8_82 C0 hP hD hS 0 rfl (Nat.le_of_ble_eq_true rfl) (ws2 := [(h, oX8 w_now (.int x_arches) (.int x_cats) w_text (.int x_typed) (.ref q_row) (.int x_rowMany) (.int (0 : Int32)) w_read (.int x_length) (.int x_top) (.int x_at) (.int x_wrong) w_told w_rule w_otherRule (.int x_ruleSize) (.int x_isAsked) w_asked w_undos (.int x_undoMany) w_aside w_then w_hold (.int x_dropped) w_acts w_guarded w_train (.int x_trolleyEnd) w_feltOf w_feltBy (.int x_feltMany) w_many w_heardOf w_heardBy (.int x_heardMany) (.ref q_worth) (.int x_drawn) (.int x_came) w_kept w_isKept w_keptCame), (q_worth, aI cT 41 f_worth), (q_row, aJ cT 16 f_row)]) rfl dX8_litters_2 (fun H locs hP hD hS => ?_)
  refine lv_iload_n hx hb dX8_litters_5 rfl (lv_at hl 1 rfl) ?_
  refine lv_iconst (v := (0 : Int32)) hx hb dX8_litters_6 (by decide) ?_
  refine lv_bipush (v := (40 : Int32)) hx hb dX8_litters_7 (by decide) ?_
  refine k_Sxi (rest := []) C0 lk_X8_92 (c_X8_in l D cT F p1 (0 : Int32) (40 : Int32) _ hg) hP hD hS hA [] (by decide +kernel) rfl ⟨Nat.le_of_ble_eq_true rfl, Nat.le_of_ble_eq_true rfl⟩ rfl hl.1 rfl (Nat.le_of_ble_eq_true rfl) dX8_litters_9 ⟨Nat.le_of_ble_eq_true rfl, Nat.le_of_ble_eq_true rfl⟩ (fun r_9 hg => ?_)
  refine lv_if_ne (tgt := 17) hx hb dX8_litters_12 (by decide) (fun c_12 => ?_) (fun c_12 => ?_)
  · have hg := hg.1 c_12
    refine lv_iconst (v := (0 : Int32)) hx hb dX8_litters_17 (by decide) ?_
    refine lv_istore_n (lv' := [(2, .int (0 : Int32)), (0, .ref h), (1, .int p1)]) hx hb dX8_litters_18 rfl hl (by decide) rfl (fun ls hl => ?_)
    exact L19 F (0 : Int32) f_worth _ _ _ hg hP hD hS (lv_sub hl [1, 2, 0] rfl)
  have hg := hg.2 c_12
  refine lv_iconst (v := (-1 : Int32)) hx hb dX8_litters_15 (by decide) ?_
  exact k_iret C0 hr (x_rowMany, (0 : Int32), f_worth, f_row) hg hP hD hS dX8_litters_16
