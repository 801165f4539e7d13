theorem dX8_has_0 : decode cX8_has 0 = .ok (.iload_n 0, 1) := by decide +kernel
theorem dX8_has_1 : decode cX8_has 1 = .ok (.iload_n 1, 1) := by decide +kernel
theorem dX8_has_2 : decode cX8_has 2 = .ok (.ishr, 1) := by decide +kernel
theorem dX8_has_3 : decode cX8_has 3 = .ok (.iconst 1, 1) := by decide +kernel
theorem dX8_has_4 : decode cX8_has 4 = .ok (.iand, 1) := by decide +kernel
theorem dX8_has_5 : decode cX8_has 5 = .ok (.iconst 1, 1) := by decide +kernel
theorem dX8_has_6 : decode cX8_has 6 = .ok (.if_icmp .ne 7, 3) := by decide +kernel
theorem dX8_has_9 : decode cX8_has 9 = .ok (.iconst 1, 1) := by decide +kernel
theorem dX8_has_10 : decode cX8_has 10 = .ok (.goto 4, 3) := by decide +kernel
theorem dX8_has_13 : decode cX8_has 13 = .ok (.iconst 0, 1) := by decide +kernel
theorem dX8_has_14 : decode cX8_has 14 = .ok (.ireturn, 1) := by decide +kernel
def p_X8_has (F : Nat) (p0 : Int32) (p1 : Int32) (Post : Int32 → Prop) : Prop := ((¬ ((p0 >>> (p1 &&& 31)) &&& (1 : Int32)) = (1 : Int32) → (Post (0 : Int32))) ∧ (((p0 >>> (p1 &&& 31)) &&& (1 : Int32)) = (1 : Int32) → (Post (1 : Int32))))
set_option maxHeartbeats 4000000 in
set_option maxRecDepth 100000 in
theorem c_X8_has (l : Launch) (D : va_G) (cT : Nat → ClassId) (F : Nat) (p0 : Int32) (p1 : Int32) (Post : Int32 → Prop) (hg : p_X8_has F p0 p1 Post) : MRi l D cT yX8_has cX8_has 2 (some .boolean) 0 0 [.int p0, .int p1] [] Post := by
  refine MRi.of (by decide) (Nat.le_of_ble_eq_true rfl) ?_
  intro p e s m below meth c C0 hr hP hD ls hl
  have hl : lv_has ls 2 [(0, .int p0), (1, .int p1)] := hl
  have hx := C0.x
  have hb := C0.b
  have hP : va_P D cls9 [] s.heap := hP
  have hD : va_D (fun _ => True) [] := hD
  unfold p_X8_has at hg
  refine lv_iload_n hx hb dX8_has_0 rfl (lv_at hl 0 rfl) ?_
  refine lv_iload_n hx hb dX8_has_1 rfl (lv_at hl 1 rfl) ?_
  refine lv_ishr hx hb dX8_has_2 ?_
  refine lv_iconst (v := (1 : Int32)) hx hb dX8_has_3 (by decide) ?_
  refine lv_iand hx hb dX8_has_4 ?_
  refine lv_iconst (v := (1 : Int32)) hx hb dX8_has_5 (by decide) ?_
  refine lv_icmp_ne (tgt := 13) hx hb dX8_has_6 (by decide) (fun c_6 => ?_) (fun c_6 => ?_)
  · have hg := hg.1 c_6
    refine lv_iconst (v := (0 : Int32)) hx hb dX8_has_13 (by decide) ?_
    exact k_xzret C0 hr (Or.inl rfl) hg dX8_has_14
  have hg := hg.2 c_6
  refine lv_iconst (v := (1 : Int32)) hx hb dX8_has_9 (by decide) ?_
  refine lv_goto (tgt := 14) hx hb dX8_has_10 (by decide) ?_
  exact k_xzret C0 hr (Or.inr rfl) hg dX8_has_14
theorem dX8_lost_0 : decode cX8_lost 0 = .ok (.aload_n 0, 1) := by decide +kernel
theorem dX8_lost_1 : decode cX8_lost 1 = .ok (.iconst 1, 1) := by decide +kernel
theorem dX8_lost_2 : decode cX8_lost 2 = .ok (.putfield 82, 3) := by decide +kernel
theorem dX8_lost_5 : decode cX8_lost 5 = .ok (.iconst 0, 1) := by decide +kernel
theorem dX8_lost_6 : decode cX8_lost 6 = .ok (.ireturn, 1) := by decide +kernel
def p_X8_lost (F : Nat) (Post : Int32 → Int32 → Prop) : Prop := (Post (0 : Int32) (1 : Int32))
set_option maxHeartbeats 4000000 in
set_option maxRecDepth 100000 in
theorem c_X8_lost (l : Launch) (D : va_G) (cT : Nat → ClassId) (F : Nat) (h : Nat) (w_now : Value) (x_arches : Int32) (x_cats : Int32) (w_text : Value) (x_typed : Int32) (w_row : Value) (x_rowMany : Int32) (x_thrown : Int32) (w_read : Value) (x_length : Int32) (x_top : Int32) (x_at : Int32) (x_wrong : Int32) (w_told : Value) (w_rule : Value) (w_otherRule : Value) (x_ruleSize : Int32) (x_isAsked : Int32) (w_asked : Value) (w_undos : Value) (x_undoMany : Int32) (w_aside : Value) (w_then : Value) (w_hold : Value) (x_dropped : Int32) (w_acts : Value) (w_guarded : Value) (w_train : Value) (x_trolleyEnd : Int32) (w_feltOf : Value) (w_feltBy : Value) (x_feltMany : Int32) (w_many : Value) (w_heardOf : Value) (w_heardBy : Value) (x_heardMany : Int32) (w_worth : Value) (x_drawn : Int32) (x_came : Int32) (w_kept : Value) (w_isKept : Value) (w_keptCame : Value) (Post : Int32 → Int32 → Prop) (hg : p_X8_lost F Post) : MWi l D cT yX8_lost cX8_lost 1 (some .int) 0 0 0 0 [.ref h] [(h, oX8 w_now (.int x_arches) (.int x_cats) w_text (.int x_typed) w_row (.int x_rowMany) (.int x_thrown) w_read (.int x_length) (.int x_top) (.int x_at) (.int x_wrong) w_told w_rule w_otherRule (.int x_ruleSize) (.int x_isAsked) w_asked w_undos (.int x_undoMany) w_aside w_then w_hold (.int x_dropped) w_acts w_guarded w_train (.int x_trolleyEnd) w_feltOf w_feltBy (.int x_feltMany) w_many w_heardOf w_heardBy (.int x_heardMany) w_worth (.int x_drawn) (.int x_came) w_kept w_isKept w_keptCame)] Post (fun (u : Int32) => [(h, oX8 w_now (.int x_arches) (.int x_cats) w_text (.int x_typed) w_row (.int x_rowMany) (.int u) w_read (.int x_length) (.int x_top) (.int x_at) (.int x_wrong) w_told w_rule w_otherRule (.int x_ruleSize) (.int x_isAsked) w_asked w_undos (.int x_undoMany) w_aside w_then w_hold (.int x_dropped) w_acts w_guarded w_train (.int x_trolleyEnd) w_feltOf w_feltBy (.int x_feltMany) w_many w_heardOf w_heardBy (.int x_heardMany) w_worth (.int x_drawn) (.int x_came) w_kept w_isKept w_keptCame)]) := by
  refine MWi.of (by decide) (Nat.le_of_ble_eq_true rfl) ?_
  intro p e s m below meth c A hA C0 hnm hr hP hD ls hl
  have hl : lv_has ls 1 [(0, .ref h)] := hl
  have hx := C0.x
  have hb := C0.b
  have hS : va_S A s.heap s.heap [] := va_S.rf
  have hP : va_P D cls9 [(h, oX8 w_now (.int x_arches) (.int x_cats) w_text (.int x_typed) w_row (.int x_rowMany) (.int x_thrown) w_read (.int x_length) (.int x_top) (.int x_at) (.int x_wrong) w_told w_rule w_otherRule (.int x_ruleSize) (.int x_isAsked) w_asked w_undos (.int x_undoMany) w_aside w_then w_hold (.int x_dropped) w_acts w_guarded w_train (.int x_trolleyEnd) w_feltOf w_feltBy (.int x_feltMany) w_many w_heardOf w_heardBy (.int x_heardMany) w_worth (.int x_drawn) (.int x_came) w_kept w_isKept w_keptCame)] s.heap := hP
  have hD : va_D A [(h, oX8 w_now (.int x_arches) (.int x_cats) w_text (.int x_typed) w_row (.int x_rowMany) (.int x_thrown) w_read (.int x_length) (.int x_top) (.int x_at) (.int x_wrong) w_told w_rule w_otherRule (.int x_ruleSize) (.int x_isAsked) w_asked w_undos (.int x_undoMany) w_aside w_then w_hold (.int x_dropped) w_acts w_guarded w_train (.int x_trolleyEnd) w_feltOf w_feltBy (.int x_feltMany) w_many w_heardOf w_heardBy (.int x_heardMany) w_worth (.int x_drawn) (.int x_came) w_kept w_isKept w_keptCame)] := hD
  unfold p_X8_lost at hg
  refine lv_aload_n hx hb dX8_lost_0 rfl (lv_at hl 0 rfl) ?_
  refine lv_iconst (v := (1 : Int32)) hx hb dX8_lost_1 (by decide) ?_
  refine pf_X8_82 C0 hP hD hS 0 rfl (Nat.le_of_ble_eq_true rfl) (ws2 := [(h, oX8 w_now (.int x_arches) (.int x_cats) w_text (.int x_typed) w_row (.int x_rowMany) (.int (1 : Int32)) w_read (.int x_length) (.int x_top) (.int x_at) (.int x_wrong) w_told w_rule w_otherRule (.int x_ruleSize) (.int x_isAsked) w_asked w_undos (.int x_undoMany) w_aside w_then w_hold (.int x_dropped) w_acts w_guarded w_train (.int x_trolleyEnd) w_feltOf w_feltBy (.int x_feltMany) w_many w_heardOf w_heardBy (.int x_heardMany) w_worth (.int x_drawn) (.int x_came) w_kept w_isKept w_keptCame)]) rfl dX8_lost_2 (fun H locs hP hD hS => ?_)
  refine lv_iconst (v := (0 : Int32)) hx hb dX8_lost_5 (by decide) ?_
  exact k_iret C0 hr (1 : Int32) hg hP hD hS dX8_lost_6
theorem dX8_tell_0 : decode cX8_tell 0 = .ok (.aload_n 0, 1) := by decide +kernel
theorem dX8_tell_1 : decode cX8_tell 1 = .ok (.getfield 17, 3) := by decide +kernel
theorem dX8_tell_4 : decode cX8_tell 4 = .ok (.aload_n 0, 1) := by decide +kernel
theorem dX8_tell_5 : decode cX8_tell 5 = .ok (.getfield 86, 3) := by decide +kernel
theorem dX8_tell_8 : decode cX8_tell 8 = .ok (.lload_n 1, 1) := by decide +kernel
theorem dX8_tell_9 : decode cX8_tell 9 = .ok (.lastore, 1) := by decide +kernel
theorem dX8_tell_10 : decode cX8_tell 10 = .ok (.aload_n 0, 1) := by decide +kernel
theorem dX8_tell_11 : decode cX8_tell 11 = .ok (.dup, 1) := by decide +kernel
theorem dX8_tell_12 : decode cX8_tell 12 = .ok (.getfield 86, 3) := by decide +kernel
theorem dX8_tell_15 : decode cX8_tell 15 = .ok (.iconst 1, 1) := by decide +kernel
theorem dX8_tell_16 : decode cX8_tell 16 = .ok (.iadd, 1) := by decide +kernel
theorem dX8_tell_17 : decode cX8_tell 17 = .ok (.putfield 86, 3) := by decide +kernel
theorem dX8_tell_20 : decode cX8_tell 20 = .ok (.return_, 1) := by decide +kernel
def p_X8_tell (F : Nat) (p1 : Int64) (x_rowMany : Int32) (f_row : Nat → Int64) (Post : (Int32 × (Nat → Int64)) → Prop) : Prop := (vp_in x_rowMany 16 ∧ (Post ((x_rowMany + (1 : Int32)), (vp_updL f_row x_rowMany.toNatClampNeg p1))))
set_option maxHeartbeats 4000000 in
set_option maxRecDepth 100000 in
theorem c_X8_tell (l : Launch) (D : va_G) (cT : Nat → ClassId) (F : Nat) (h : Nat) (p1 : Int64) (w_now : Value) (x_arches : Int32) (x_cats : Int32) (w_text : Value) (x_typed : Int32) (q_row : Nat) (x_rowMany : Int32) (x_thrown : Int32) (w_read : Value) (x_length : Int32) (x_top : Int32) (x_at : Int32) (x_wrong : Int32) (w_told : Value) (w_rule : Value) (w_otherRule : Value) (x_ruleSize : Int32) (x_isAsked : Int32) (w_asked : Value) (w_undos : Value) (x_undoMany : Int32) (w_aside : Value) (w_then : Value) (w_hold : Value) (x_dropped : Int32) (w_acts : Value) (w_guarded : Value) (w_train : Value) (x_trolleyEnd : Int32) (w_feltOf : Value) (w_feltBy : Value) (x_feltMany : Int32) (w_many : Value) (w_heardOf : Value) (w_heardBy : Value) (x_heardMany : Int32) (w_worth : Value) (x_drawn : Int32) (x_came : Int32) (w_kept : Value) (w_isKept : Value) (w_keptCame : Value) (f_row : Nat → Int64) (Post : (Int32 × (Nat → Int64)) → Prop) (hg : p_X8_tell F p1 x_rowMany f_row Post) : MWv l D cT yX8_tell cX8_tell 3 none 0 0 0 0 [.ref h, .long p1] [(h, oX8 w_now (.int x_arches) (.int x_cats) w_text (.int x_typed) (.ref q_row) (.int x_rowMany) (.int x_thrown) w_read (.int x_length) (.int x_top) (.int x_at) (.int x_wrong) w_told w_rule w_otherRule (.int x_ruleSize) (.int x_isAsked) w_asked w_undos (.int x_undoMany) w_aside w_then w_hold (.int x_dropped) w_acts w_guarded w_train (.int x_trolleyEnd) w_feltOf w_feltBy (.int x_feltMany) w_many w_heardOf w_heardBy (.int x_heardMany) w_worth (.int x_drawn) (.int x_came) w_kept w_isKept w_keptCame), (q_row, aJ cT 16 f_row)] Post (fun (u : (Int32 × (Nat → Int64))) => [(h, oX8 w_now (.int x_arches) (.int x_cats) w_text (.int x_typed) (.ref q_row) (.int u.1) (.int x_thrown) w_read (.int x_length) (.int x_top) (.int x_at) (.int x_wrong) w_told w_rule w_otherRule (.int x_ruleSize) (.int x_isAsked) w_asked w_undos (.int x_undoMany) w_aside w_then w_hold (.int x_dropped) w_acts w_guarded w_train (.int x_trolleyEnd) w_feltOf w_feltBy (.int x_feltMany) w_many w_heardOf w_heardBy (.int x_heardMany) w_worth (.int x_drawn) (.int x_came) w_kept w_isKept w_keptCame), (q_row, aJ cT 16 u.2)]) := by
  refine MWv.of (by decide) (Nat.le_of_ble_eq_true rfl) ?_
  intro p e s m below meth c A hA C0 hnm hr hP hD ls hl
  have hl : lv_has ls 3 [(0, .ref h), (1, .long p1)] := hl
  have hx := C0.x
  have hb := C0.b
  have hS : va_S A s.heap s.heap [] := va_S.rf
  have hP : va_P D cls9 [(h, oX8 w_now (.int x_arches) (.int x_cats) w_text (.int x_typed) (.ref q_row) (.int x_rowMany) (.int x_thrown) w_read (.int x_length) (.int x_top) (.int x_at) (.int x_wrong) w_told w_rule w_otherRule (.int x_ruleSize) (.int x_isAsked) w_asked w_undos (.int x_undoMany) w_aside w_then w_hold (.int x_dropped) w_acts w_guarded w_train (.int x_trolleyEnd) w_feltOf w_feltBy (.int x_feltMany) w_many w_heardOf w_heardBy (.int x_heardMany) w_worth (.int x_drawn) (.int x_came) w_kept w_isKept w_keptCame), (q_row, aJ cT 16 f_row)] s.heap := hP
  have hD : va_D A [(h, oX8 w_now (.int x_arches) (.int x_cats) w_text (.int x_typed) (.ref q_row) (.int x_rowMany) (.int x_thrown) w_read (.int x_length) (.int x_top) (.int x_at) (.int x_wrong) w_told w_rule w_otherRule (.int x_ruleSize) (.int x_isAsked) w_asked w_undos (.int x_undoMany) w_aside w_then w_hold (.int x_dropped) w_acts w_guarded w_train (.int x_trolleyEnd) w_feltOf w_feltBy (.int x_feltMany) w_many w_heardOf w_heardBy (.int x_heardMany) w_worth (.int x_drawn) (.int x_came) w_kept w_isKept w_keptCame), (q_row, aJ cT 16 f_row)] := hD
  unfold p_X8_tell at hg
  refine lv_aload_n hx hb dX8_tell_0 rfl (lv_at hl 0 rfl) ?_
  refine gf_X8_17 C0 hP 0 rfl rfl dX8_tell_1 ?_
  refine lv_aload_n hx hb dX8_tell_4 rfl (lv_at hl 0 rfl) ?_
  refine gf_X8_86 C0 hP 0 rfl rfl dX8_tell_5 ?_
  refine lv_lload_n hx hb dX8_tell_8 rfl (lv_at hl 1 rfl) ?_
  obtain ⟨g_9, hg⟩ := hg
  refine k_last C0 hP hD hS 1 rfl g_9 (ws' := [(h, oX8 w_now (.int x_arches) (.int x_cats) w_text (.int x_typed) (.ref q_row) (.int x_rowMany) (.int x_thrown) w_read (.int x_length) (.int x_top) (.int x_at) (.int x_wrong) w_told w_rule w_otherRule (.int x_ruleSize) (.int x_isAsked) w_asked w_undos (.int x_undoMany) w_aside w_then w_hold (.int x_dropped) w_acts w_guarded w_train (.int x_trolleyEnd) w_feltOf w_feltBy (.int x_feltMany) w_many w_heardOf w_heardBy (.int x_heardMany) w_worth (.int x_drawn) (.int x_came) w_kept w_isKept w_keptCame), (q_row, aJ cT 16 (vp_updL f_row x_rowMany.toNatClampNeg p1))]) rfl dX8_tell_9 (fun H locs hP hD hS => ?_)
  refine lv_aload_n hx hb dX8_tell_10 rfl (lv_at hl 0 rfl) ?_
  refine lv_dup hx hb dX8_tell_11 rfl ?_
  refine gf_X8_86 C0 hP 0 rfl rfl dX8_tell_12 ?_
  refine lv_iconst (v := (1 : Int32)) hx hb dX8_tell_15 (by decide) ?_
  refine lv_iadd hx hb dX8_tell_16 ?_
  refine pf_X8_86 C0 hP hD hS 0 rfl (Nat.le_of_ble_eq_true rfl) (ws2 := [(h, oX8 w_now (.int x_arches) (.int x_cats) w_text (.int x_typed) (.ref q_row) (.int (x_rowMany + (1 : Int32))) (.int x_thrown) w_read (.int x_length) (.int x_top) (.int x_at) (.int x_wrong) w_told w_rule w_otherRule (.int x_ruleSize) (.int x_isAsked) w_asked w_undos (.int x_undoMany) w_aside w_then w_hold (.int x_dropped) w_acts w_guarded w_train (.int x_trolleyEnd) w_feltOf w_feltBy (.int x_feltMany) w_many w_heardOf w_heardBy (.int x_heardMany) w_worth (.int x_drawn) (.int x_came) w_kept w_isKept w_keptCame), (q_row, aJ cT 16 (vp_updL f_row x_rowMany.toNatClampNeg p1))]) rfl dX8_tell_17 (fun H locs hP hD hS => ?_)
  exact k_vret C0 hr ((x_rowMany + (1 : Int32)), (vp_updL f_row x_rowMany.toNatClampNeg p1)) hg hP hD hS dX8_tell_20
theorem dX8_isArch_0 : decode cX8_isArch 0 = .ok (.iload_n 1, 1) := by decide +kernel
theorem dX8_isArch_1 : decode cX8_isArch 1 = .ok (.iconst 0, 1) := by decide +kernel
theorem dX8_isArch_2 : decode cX8_isArch 2 = .ok (.aload_n 0, 1) := by decide +kernel
theorem dX8_isArch_3 : decode cX8_isArch 3 = .ok (.getfield 89, 3) := by decide +kernel
theorem dX8_isArch_6 : decode cX8_isArch 6 = .ok (.iconst 1, 1) := by decide +kernel
theorem dX8_isArch_7 : decode cX8_isArch 7 = .ok (.isub, 1) := by decide +kernel
theorem dX8_isArch_8 : decode cX8_isArch 8 = .ok (.invokestatic 92, 3) := by decide +kernel
theorem dX8_isArch_11 : decode cX8_isArch 11 = .ok (.ireturn, 1) := by decide +kernel
def p_X8_isArch (F : Nat) (p1 : Int32) (x_arches : Int32) (Post : Int32 → Prop) : Prop := (p_X8_in F p1 (0 : Int32) (x_arches - (1 : Int32)) (fun (r_8 : Int32) => ((r_8 = 0 ∨ r_8 = 1) ∧ (Post r_8))))
set_option maxHeartbeats 4000000 in
set_option maxRecDepth 100000 in
theorem c_X8_isArch (l : Launch) (D : va_G) (cT : Nat → ClassId) (F : Nat) (h : Nat) (p1 : Int32) (w_now : Value) (x_arches : Int32) (x_cats : Int32) (w_text : Value) (x_typed : Int32) (w_row : Value) (x_rowMany : Int32) (x_thrown : Int32) (w_read : Value) (x_length : Int32) (x_top : Int32) (x_at : Int32) (x_wrong : Int32) (w_told : Value) (w_rule : Value) (w_otherRule : Value) (x_ruleSize : Int32) (x_isAsked : Int32) (w_asked : Value) (w_undos : Value) (x_undoMany : Int32) (w_aside : Value) (w_then : Value) (w_hold : Value) (x_dropped : Int32) (w_acts : Value) (w_guarded : Value) (w_train : Value) (x_trolleyEnd : Int32) (w_feltOf : Value) (w_feltBy : Value) (x_feltMany : Int32) (w_many : Value) (w_heardOf : Value) (w_heardBy : Value) (x_heardMany : Int32) (w_worth : Value) (x_drawn : Int32) (x_came : Int32) (w_kept : Value) (w_isKept : Value) (w_keptCame : Value) (Post : Int32 → Prop) (hg : p_X8_isArch F p1 x_arches Post) : MRi l D cT yX8_isArch cX8_isArch 2 (some .boolean) 1 22 [.ref h, .int p1] [(h, oX8 w_now (.int x_arches) (.int x_cats) w_text (.int x_typed) w_row (.int x_rowMany) (.int x_thrown) w_read (.int x_length) (.int x_top) (.int x_at) (.int x_wrong) w_told w_rule w_otherRule (.int x_ruleSize) (.int x_isAsked) w_asked w_undos (.int x_undoMany) w_aside w_then w_hold (.int x_dropped) w_acts w_guarded w_train (.int x_trolleyEnd) w_feltOf w_feltBy (.int x_feltMany) w_many w_heardOf w_heardBy (.int x_heardMany) w_worth (.int x_drawn) (.int x_came) w_kept w_isKept w_keptCame)] Post := by
  refine MRi.of (by decide) (Nat.le_of_ble_eq_true rfl) ?_
  intro p e s m below meth c C0 hr hP hD ls hl
  have hl : lv_has ls 2 [(0, .ref h), (1, .int p1)] := hl
  have hx := C0.x
  have hb := C0.b
  have hP : va_P D cls9 [(h, oX8 w_now (.int x_arches) (.int x_cats) w_text (.int x_typed) w_row (.int x_rowMany) (.int x_thrown) w_read (.int x_length) (.int x_top) (.int x_at) (.int x_wrong) w_told w_rule w_otherRule (.int x_ruleSize) (.int x_isAsked) w_asked w_undos (.int x_undoMany) w_aside w_then w_hold (.int x_dropped) w_acts w_guarded w_train (.int x_trolleyEnd) w_feltOf w_feltBy (.int x_feltMany) w_many w_heardOf w_heardBy (.int x_heardMany) w_worth (.int x_drawn) (.int x_came) w_kept w_isKept w_keptCame)] s.heap := hP
  have hD : va_D (fun _ => True) [(h, oX8 w_now (.int x_arches) (.int x_cats) w_text (.int x_typed) w_row (.int x_rowMany) (.int x_thrown) w_read (.int x_length) (.int x_top) (.int x_at) (.int x_wrong) w_told w_rule w_otherRule (.int x_ruleSize) (.int x_isAsked) w_asked w_undos (.int x_undoMany) w_aside w_then w_hold (.int x_dropped) w_acts w_guarded w_train (.int x_trolleyEnd) w_feltOf w_feltBy (.int x_feltMany) w_many w_heardOf w_heardBy (.int x_heardMany) w_worth (.int x_drawn) (.int x_came) w_kept w_isKept w_keptCame)] := hD
  unfold p_X8_isArch at hg
  refine lv_iload_n hx hb dX8_isArch_0 rfl (lv_at hl 1 rfl) ?_
  refine lv_iconst (v := (0 : Int32)) hx hb dX8_isArch_1 (by decide) ?_
  refine lv_aload_n hx hb dX8_isArch_2 rfl (lv_at hl 0 rfl) ?_
  refine gf_X8_89 C0 hP 0 rfl rfl dX8_isArch_3 ?_
  refine lv_iconst (v := (1 : Int32)) hx hb dX8_isArch_6 (by decide) ?_
  refine lv_isub hx hb dX8_isArch_7 ?_
  refine k_Sxi (rest := []) C0 lk_X8_92 (c_X8_in l D cT F p1 (0 : Int32) (x_arches - (1 : Int32)) _ hg) hP hD [] (by decide +kernel) rfl ⟨Nat.le_of_ble_eq_true rfl, Nat.le_of_ble_eq_true rfl⟩ rfl hl.1 rfl (Nat.le_of_ble_eq_true rfl) dX8_isArch_8 ⟨Nat.le_of_ble_eq_true rfl, Nat.le_of_ble_eq_true rfl⟩ (fun r_8 hg => ?_)
  obtain ⟨g_11, hg⟩ := hg
  exact k_xzret C0 hr g_11 hg dX8_isArch_11
theorem dX8_isCat_0 : decode cX8_isCat 0 = .ok (.iload_n 1, 1) := by decide +kernel
theorem dX8_isCat_1 : decode cX8_isCat 1 = .ok (.iconst 0, 1) := by decide +kernel
theorem dX8_isCat_2 : decode cX8_isCat 2 = .ok (.aload_n 0, 1) := by decide +kernel
theorem dX8_isCat_3 : decode cX8_isCat 3 = .ok (.getfield 96, 3) := by decide +kernel
theorem dX8_isCat_6 : decode cX8_isCat 6 = .ok (.iconst 1, 1) := by decide +kernel
theorem dX8_isCat_7 : decode cX8_isCat 7 = .ok (.isub, 1) := by decide +kernel
theorem dX8_isCat_8 : decode cX8_isCat 8 = .ok (.invokestatic 92, 3) := by decide +kernel
theorem dX8_isCat_11 : decode cX8_isCat 11 = .ok (.ireturn, 1) := by decide +kernel
def p_X8_isCat (F : Nat) (p1 : Int32) (x_cats : Int32) (Post : Int32 → Prop) : Prop := (p_X8_in F p1 (0 : Int32) (x_cats - (1 : Int32)) (fun (r_8 : Int32) => ((r_8 = 0 ∨ r_8 = 1) ∧ (Post r_8))))
set_option maxHeartbeats 4000000 in
set_option maxRecDepth 100000 in
theorem c_X8_isCat (l : Launch) (D : va_G) (cT : Nat → ClassId) (F : Nat) (h : Nat) (p1 : Int32) (w_now : Value) (x_arches : Int32) (x_cats : Int32) (w_text : Value) (x_typed : Int32) (w_row : Value) (x_rowMany : Int32) (x_thrown : Int32) (w_read : Value) (x_length : Int32) (x_top : Int32) (x_at : Int32) (x_wrong : Int32) (w_told : Value) (w_rule : Value) (w_otherRule : Value) (x_ruleSize : Int32) (x_isAsked : Int32) (w_asked : Value) (w_undos : Value) (x_undoMany : Int32) (w_aside : Value) (w_then : Value) (w_hold : Value) (x_dropped : Int32) (w_acts : Value) (w_guarded : Value) (w_train : Value) (x_trolleyEnd : Int32) (w_feltOf : Value) (w_feltBy : Value) (x_feltMany : Int32) (w_many : Value) (w_heardOf : Value) (w_heardBy : Value) (x_heardMany : Int32) (w_worth : Value) (x_drawn : Int32) (x_came : Int32) (w_kept : Value) (w_isKept : Value) (w_keptCame : Value) (Post : Int32 → Prop) (hg : p_X8_isCat F p1 x_cats Post) : MRi l D cT yX8_isCat cX8_isCat 2 (some .boolean) 1 22 [.ref h, .int p1] [(h, oX8 w_now (.int x_arches) (.int x_cats) w_text (.int x_typed) w_row (.int x_rowMany) (.int x_thrown) w_read (.int x_length) (.int x_top) (.int x_at) (.int x_wrong) w_told w_rule w_otherRule (.int x_ruleSize) (.int x_isAsked) w_asked w_undos (.int x_undoMany) w_aside w_then w_hold (.int x_dropped) w_acts w_guarded w_train (.int x_trolleyEnd) w_feltOf w_feltBy (.int x_feltMany) w_many w_heardOf w_heardBy (.int x_heardMany) w_worth (.int x_drawn) (.int x_came) w_kept w_isKept w_keptCame)] Post := by
  refine MRi.of (by decide) (Nat.le_of_ble_eq_true rfl) ?_
  intro p e s m below meth c C0 hr hP hD ls hl
  have hl : lv_has ls 2 [(0, .ref h), (1, .int p1)] := hl
  have hx := C0.x
  have hb := C0.b
  have hP : va_P D cls9 [(h, oX8 w_now (.int x_arches) (.int x_cats) w_text (.int x_typed) w_row (.int x_rowMany) (.int x_thrown) w_read (.int x_length) (.int x_top) (.int x_at) (.int x_wrong) w_told w_rule w_otherRule (.int x_ruleSize) (.int x_isAsked) w_asked w_undos (.int x_undoMany) w_aside w_then w_hold (.int x_dropped) w_acts w_guarded w_train (.int x_trolleyEnd) w_feltOf w_feltBy (.int x_feltMany) w_many w_heardOf w_heardBy (.int x_heardMany) w_worth (.int x_drawn) (.int x_came) w_kept w_isKept w_keptCame)] s.heap := hP
  have hD : va_D (fun _ => True) [(h, oX8 w_now (.int x_arches) (.int x_cats) w_text (.int x_typed) w_row (.int x_rowMany) (.int x_thrown) w_read (.int x_length) (.int x_top) (.int x_at) (.int x_wrong) w_told w_rule w_otherRule (.int x_ruleSize) (.int x_isAsked) w_asked w_undos (.int x_undoMany) w_aside w_then w_hold (.int x_dropped) w_acts w_guarded w_train (.int x_trolleyEnd) w_feltOf w_feltBy (.int x_feltMany) w_many w_heardOf w_heardBy (.int x_heardMany) w_worth (.int x_drawn) (.int x_came) w_kept w_isKept w_keptCame)] := hD
  unfold p_X8_isCat at hg
  refine lv_iload_n hx hb dX8_isCat_0 rfl (lv_at hl 1 rfl) ?_
  refine lv_iconst (v := (0 : Int32)) hx hb dX8_isCat_1 (by decide) ?_
  refine lv_aload_n hx hb dX8_isCat_2 rfl (lv_at hl 0 rfl) ?_
  refine gf_X8_96 C0 hP 0 rfl rfl dX8_isCat_3 ?_
  refine lv_iconst (v := (1 : Int32)) hx hb dX8_isCat_6 (by decide) ?_
  refine lv_isub hx hb dX8_isCat_7 ?_
  refine k_Sxi (rest := []) C0 lk_X8_92 (c_X8_in l D cT F p1 (0 : Int32) (x_cats - (1 : Int32)) _ hg) hP hD [] (by decide +kernel) rfl ⟨Nat.le_of_ble_eq_true rfl, Nat.le_of_ble_eq_true rfl⟩ rfl hl.1 rfl (Nat.le_of_ble_eq_true rfl) dX8_isCat_8 ⟨Nat.le_of_ble_eq_true rfl, Nat.le_of_ble_eq_true rfl⟩ (fun r_8 hg => ?_)
  obtain ⟨g_11, hg⟩ := hg
  exact k_xzret C0 hr g_11 hg dX8_isCat_11
theorem dX8_allCats_0 : decode cX8_allCats 0 = .ok (.iconst 1, 1) := by decide +kernel
theorem dX8_allCats_1 : decode cX8_allCats 1 = .ok (.aload_n 0, 1) := by decide +kernel
theorem dX8_allCats_2 : decode cX8_allCats 2 = .ok (.getfield 96, 3) := by decide +kernel
theorem dX8_allCats_5 : decode cX8_allCats 5 = .ok (.ishl, 1) := by decide +kernel
theorem dX8_allCats_6 : decode cX8_allCats 6 = .ok (.iconst 1, 1) := by decide +kernel
theorem dX8_allCats_7 : decode cX8_allCats 7 = .ok (.isub, 1) := by decide +kernel
theorem dX8_allCats_8 : decode cX8_allCats 8 = .ok (.ireturn, 1) := by decide +kernel
def p_X8_allCats (F : Nat) (x_cats : Int32) (Post : Int32 → Prop) : Prop := (Post (((1 : Int32) <<< (x_cats &&& 31)) - (1 : Int32)))
set_option maxHeartbeats 4000000 in
set_option maxRecDepth 100000 in
theorem c_X8_allCats (l : Launch) (D : va_G) (cT : Nat → ClassId) (F : Nat) (h : Nat) (w_now : Value) (x_arches : Int32) (x_cats : Int32) (w_text : Value) (x_typed : Int32) (w_row : Value) (x_rowMany : Int32) (x_thrown : Int32) (w_read : Value) (x_length : Int32) (x_top : Int32) (x_at : Int32) (x_wrong : Int32) (w_told : Value) (w_rule : Value) (w_otherRule : Value) (x_ruleSize : Int32) (x_isAsked : Int32) (w_asked : Value) (w_undos : Value) (x_undoMany : Int32) (w_aside : Value) (w_then : Value) (w_hold : Value) (x_dropped : Int32) (w_acts : Value) (w_guarded : Value) (w_train : Value) (x_trolleyEnd : Int32) (w_feltOf : Value) (w_feltBy : Value) (x_feltMany : Int32) (w_many : Value) (w_heardOf : Value) (w_heardBy : Value) (x_heardMany : Int32) (w_worth : Value) (x_drawn : Int32) (x_came : Int32) (w_kept : Value) (w_isKept : Value) (w_keptCame : Value) (Post : Int32 → Prop) (hg : p_X8_allCats F x_cats Post) : MRi l D cT yX8_allCats cX8_allCats 1 (some .int) 0 0 [.ref h] [(h, oX8 w_now (.int x_arches) (.int x_cats) w_text (.int x_typed) w_row (.int x_rowMany) (.int x_thrown) w_read (.int x_length) (.int x_top) (.int x_at) (.int x_wrong) w_told w_rule w_otherRule (.int x_ruleSize) (.int x_isAsked) w_asked w_undos (.int x_undoMany) w_aside w_then w_hold (.int x_dropped) w_acts w_guarded w_train (.int x_trolleyEnd) w_feltOf w_feltBy (.int x_feltMany) w_many w_heardOf w_heardBy (.int x_heardMany) w_worth (.int x_drawn) (.int x_came) w_kept w_isKept w_keptCame)] Post := by
  refine MRi.of (by decide) (Nat.le_of_ble_eq_true rfl) ?_
  intro p e s m below meth c C0 hr hP hD ls hl
  have hl : lv_has ls 1 [(0, .ref h)] := hl
  have hx := C0.x
  have hb := C0.b
  have hP : va_P D cls9 [(h, oX8 w_now (.int x_arches) (.int x_cats) w_text (.int x_typed) w_row (.int x_rowMany) (.int x_thrown) w_read (.int x_length) (.int x_top) (.int x_at) (.int x_wrong) w_told w_rule w_otherRule (.int x_ruleSize) (.int x_isAsked) w_asked w_undos (.int x_undoMany) w_aside w_then w_hold (.int x_dropped) w_acts w_guarded w_train (.int x_trolleyEnd) w_feltOf w_feltBy (.int x_feltMany) w_many w_heardOf w_heardBy (.int x_heardMany) w_worth (.int x_drawn) (.int x_came) w_kept w_isKept w_keptCame)] s.heap := hP
  have hD : va_D (fun _ => True) [(h, oX8 w_now (.int x_arches) (.int x_cats) w_text (.int x_typed) w_row (.int x_rowMany) (.int x_thrown) w_read (.int x_length) (.int x_top) (.int x_at) (.int x_wrong) w_told w_rule w_otherRule (.int x_ruleSize) (.int x_isAsked) w_asked w_undos (.int x_undoMany) w_aside w_then w_hold (.int x_dropped) w_acts w_guarded w_train (.int x_trolleyEnd) w_feltOf w_feltBy (.int x_feltMany) w_many w_heardOf w_heardBy (.int x_heardMany) w_worth (.int x_drawn) (.int x_came) w_kept w_isKept w_keptCame)] := hD
  unfold p_X8_allCats at hg
  refine lv_iconst (v := (1 : Int32)) hx hb dX8_allCats_0 (by decide) ?_
  refine lv_aload_n hx hb dX8_allCats_1 rfl (lv_at hl 0 rfl) ?_
  refine gf_X8_96 C0 hP 0 rfl rfl dX8_allCats_2 ?_
  refine lv_ishl hx hb dX8_allCats_5 ?_
  refine lv_iconst (v := (1 : Int32)) hx hb dX8_allCats_6 (by decide) ?_
  refine lv_isub hx hb dX8_allCats_7 ?_
  exact k_xiret C0 hr hg dX8_allCats_8
theorem dX8_sign_0 : decode cX8_sign 0 = .ok (.aload_n 0, 1) := by decide +kernel
theorem dX8_sign_1 : decode cX8_sign 1 = .ok (.iconst 0, 1) := by decide +kernel
theorem dX8_sign_2 : decode cX8_sign 2 = .ok (.putfield 82, 3) := by decide +kernel
theorem dX8_sign_5 : decode cX8_sign 5 = .ok (.aload_n 0, 1) := by decide +kernel
theorem dX8_sign_6 : decode cX8_sign 6 = .ok (.getfield 99, 3) := by decide +kernel
theorem dX8_sign_9 : decode cX8_sign 9 = .ok (.iconst 4, 1) := by decide +kernel
theorem dX8_sign_10 : decode cX8_sign 10 = .ok (.iadd, 1) := by decide +kernel
theorem dX8_sign_11 : decode cX8_sign 11 = .ok (.bipush 80, 2) := by decide +kernel
theorem dX8_sign_13 : decode cX8_sign 13 = .ok (.if_icmp .le 5, 3) := by decide +kernel
theorem dX8_sign_16 : decode cX8_sign 16 = .ok (.iconst (-1), 1) := by decide +kernel
theorem dX8_sign_17 : decode cX8_sign 17 = .ok (.ireturn, 1) := by decide +kernel
theorem dX8_sign_18 : decode cX8_sign 18 = .ok (.iconst 3, 1) := by decide +kernel
theorem dX8_sign_19 : decode cX8_sign 19 = .ok (.istore_n 2, 1) := by decide +kernel
theorem dX8_sign_20 : decode cX8_sign 20 = .ok (.iload_n 2, 1) := by decide +kernel
theorem dX8_sign_21 : decode cX8_sign 21 = .ok (.ifCond .lt 32, 3) := by decide +kernel
theorem dX8_sign_24 : decode cX8_sign 24 = .ok (.aload_n 0, 1) := by decide +kernel
theorem dX8_sign_25 : decode cX8_sign 25 = .ok (.getfield 13, 3) := by decide +kernel
theorem dX8_sign_28 : decode cX8_sign 28 = .ok (.aload_n 0, 1) := by decide +kernel
theorem dX8_sign_29 : decode cX8_sign 29 = .ok (.dup, 1) := by decide +kernel
theorem dX8_sign_30 : decode cX8_sign 30 = .ok (.getfield 99, 3) := by decide +kernel
theorem dX8_sign_33 : decode cX8_sign 33 = .ok (.dup_x1, 1) := by decide +kernel
theorem dX8_sign_34 : decode cX8_sign 34 = .ok (.iconst 1, 1) := by decide +kernel
theorem dX8_sign_35 : decode cX8_sign 35 = .ok (.iadd, 1) := by decide +kernel
theorem dX8_sign_36 : decode cX8_sign 36 = .ok (.putfield 99, 3) := by decide +kernel
theorem dX8_sign_39 : decode cX8_sign 39 = .ok (.iload_n 1, 1) := by decide +kernel
theorem dX8_sign_40 : decode cX8_sign 40 = .ok (.bipush 8, 2) := by decide +kernel
theorem dX8_sign_42 : decode cX8_sign 42 = .ok (.iload_n 2, 1) := by decide +kernel
theorem dX8_sign_43 : decode cX8_sign 43 = .ok (.imul, 1) := by decide +kernel
theorem dX8_sign_44 : decode cX8_sign 44 = .ok (.ishr, 1) := by decide +kernel
theorem dX8_sign_45 : decode cX8_sign 45 = .ok (.i2b, 1) := by decide +kernel
theorem dX8_sign_46 : decode cX8_sign 46 = .ok (.bastore, 1) := by decide +kernel
theorem dX8_sign_47 : decode cX8_sign 47 = .ok (.iinc 2 (-1), 3) := by decide +kernel
theorem dX8_sign_50 : decode cX8_sign 50 = .ok (.goto (-30), 3) := by decide +kernel
theorem dX8_sign_53 : decode cX8_sign 53 = .ok (.aload_n 0, 1) := by decide +kernel
theorem dX8_sign_54 : decode cX8_sign 54 = .ok (.getfield 99, 3) := by decide +kernel
theorem dX8_sign_57 : decode cX8_sign 57 = .ok (.ireturn, 1) := by decide +kernel
noncomputable def p_X8_sign_20 (F : Nat) (p1 : Int32) (Post : Int32 → (Int32 × Int32 × (Nat → Int32)) → Prop) (n : Nat) : Int32 → Int32 → (Nat → Int32) → Prop := Nat.rec (motive := fun _ => Int32 → Int32 → (Nat → Int32) → Prop) (fun _ _ _ => False) (fun _ k20 => fun (y2_20 : Int32) (x_typed_20 : Int32) (f_text_20 : Nat → Int32) => ((y2_20 < 0 → (Post x_typed_20 (x_typed_20, (0 : Int32), f_text_20))) ∧ (¬ y2_20 < 0 → (vp_in x_typed_20 80 ∧ (k20 (y2_20 + (-1 : Int32)) (x_typed_20 + (1 : Int32)) (upd f_text_20 x_typed_20.toNatClampNeg (vp_nar .byte ((p1 >>> (((8 : Int32) * y2_20) &&& 31)).toInt8.toInt32)))))))) n
theorem p_X8_sign_20_s (F : Nat) (p1 : Int32) (Post : Int32 → (Int32 × Int32 × (Nat → Int32)) → Prop) (n : Nat) (y2_20 : Int32) (x_typed_20 : Int32) (f_text_20 : Nat → Int32) : p_X8_sign_20 F p1 Post (n + 1) y2_20 x_typed_20 f_text_20 = ((y2_20 < 0 → (Post x_typed_20 (x_typed_20, (0 : Int32), f_text_20))) ∧ (¬ y2_20 < 0 → (vp_in x_typed_20 80 ∧ ((p_X8_sign_20 F p1 Post n) (y2_20 + (-1 : Int32)) (x_typed_20 + (1 : Int32)) (upd f_text_20 x_typed_20.toNatClampNeg (vp_nar .byte ((p1 >>> (((8 : Int32) * y2_20) &&& 31)).toInt8.toInt32))))))) := rfl
def p_X8_sign (F : Nat) (p1 : Int32) (x_typed : Int32) (f_text : Nat → Int32) (Post : Int32 → (Int32 × Int32 × (Nat → Int32)) → Prop) : Prop := (((x_typed + (4 : Int32)) ≤ (80 : Int32) → (p_X8_sign_20 F p1 Post F (3 : Int32) x_typed f_text)) ∧ (¬ (x_typed + (4 : Int32)) ≤ (80 : Int32) → (Post (-1 : Int32) (x_typed, (0 : Int32), f_text))))
set_option maxHeartbeats 4000000 in
set_option maxRecDepth 100000 in
theorem c_X8_sign (l : Launch) (D : va_G) (cT : Nat → ClassId) (F : Nat) (h : Nat) (p1 : Int32) (w_now : Value) (x_arches : Int32) (x_cats : Int32) (q_text : Nat) (x_typed : Int32) (w_row : Value) (x_rowMany : Int32) (x_thrown : Int32) (w_read : Value) (x_length : Int32) (x_top : Int32) (x_at : Int32) (x_wrong : Int32) (w_told : Value) (w_rule : Value) (w_otherRule : Value) (x_ruleSize : Int32) (x_isAsked : Int32) (w_asked : Value) (w_undos : Value) (x_undoMany : Int32) (w_aside : Value) (w_then : Value) (w_hold : Value) (x_dropped : Int32) (w_acts : Value) (w_guarded : Value) (w_train : Value) (x_trolleyEnd : Int32) (w_feltOf : Value) (w_feltBy : Value) (x_feltMany : Int32) (w_many : Value) (w_heardOf : Value) (w_heardBy : Value) (x_heardMany : Int32) (w_worth : Value) (x_drawn : Int32) (x_came : Int32) (w_kept : Value) (w_isKept : Value) (w_keptCame : Value) (f_text : Nat → Int32) (Post : Int32 → (Int32 × Int32 × (Nat → Int32)) → Prop) (hg : p_X8_sign F p1 x_typed f_text Post) : MWi l D cT yX8_sign cX8_sign 3 (some .int) 0 0 0 0 [.ref h, .int p1] [(h, oX8 w_now (.int x_arches) (.int x_cats) (.ref q_text) (.int x_typed) w_row (.int x_rowMany) (.int x_thrown) w_read (.int x_length) (.int x_top) (.int x_at) (.int x_wrong) w_told w_rule w_otherRule (.int x_ruleSize) (.int x_isAsked) w_asked w_undos (.int x_undoMany) w_aside w_then w_hold (.int x_dropped) w_acts w_guarded w_train (.int x_trolleyEnd) w_feltOf w_feltBy (.int x_feltMany) w_many w_heardOf w_heardBy (.int x_heardMany) w_worth (.int x_drawn) (.int x_came) w_kept w_isKept w_keptCame), (q_text, aB cT 80 f_text)] Post (fun (u : (Int32 × Int32 × (Nat → Int32))) => [(h, oX8 w_now (.int x_arches) (.int x_cats) (.ref q_text) (.int u.1) w_row (.int x_rowMany) (.int u.2.1) w_read (.int x_length) (.int x_top) (.int x_at) (.int x_wrong) w_told w_rule w_otherRule (.int x_ruleSize) (.int x_isAsked) w_asked w_undos (.int x_undoMany) w_aside w_then w_hold (.int x_dropped) w_acts w_guarded w_train (.int x_trolleyEnd) w_feltOf w_feltBy (.int x_feltMany) w_many w_heardOf w_heardBy (.int x_heardMany) w_worth (.int x_drawn) (.int x_came) w_kept w_isKept w_keptCame), (q_text, aB cT 80 u.2.2)]) := by
  refine MWi.of (by decide) (Nat.le_of_ble_eq_true rfl) ?_
  intro p e s m below meth c A hA C0 hnm hr hP hD ls hl
  have hl : lv_has ls 3 [(0, .ref h), (1, .int p1)] := hl
  have hx := C0.x
  have hb := C0.b
  have hS : va_S A s.heap s.heap [] := va_S.rf
  have hP : va_P D cls9 [(h, oX8 w_now (.int x_arches) (.int x_cats) (.ref q_text) (.int x_typed) w_row (.int x_rowMany) (.int x_thrown) w_read (.int x_length) (.int x_top) (.int x_at) (.int x_wrong) w_told w_rule w_otherRule (.int x_ruleSize) (.int x_isAsked) w_asked w_undos (.int x_undoMany) w_aside w_then w_hold (.int x_dropped) w_acts w_guarded w_train (.int x_trolleyEnd) w_feltOf w_feltBy (.int x_feltMany) w_many w_heardOf w_heardBy (.int x_heardMany) w_worth (.int x_drawn) (.int x_came) w_kept w_isKept w_keptCame), (q_text, aB cT 80 f_text)] s.heap := hP
  have hD : va_D A [(h, oX8 w_now (.int x_arches) (.int x_cats) (.ref q_text) (.int x_typed) w_row (.int x_rowMany) (.int x_thrown) w_read (.int x_length) (.int x_top) (.int x_at) (.int x_wrong) w_told w_rule w_otherRule (.int x_ruleSize) (.int x_isAsked) w_asked w_undos (.int x_undoMany) w_aside w_then w_hold (.int x_dropped) w_acts w_guarded w_train (.int x_trolleyEnd) w_feltOf w_feltBy (.int x_feltMany) w_many w_heardOf w_heardBy (.int x_heardMany) w_worth (.int x_drawn) (.int x_came) w_kept w_isKept w_keptCame), (q_text, aB cT 80 f_text)] := hD
  have L20 : ∀ (n20 : Nat) (y2_20 : Int32) (x_typed_20 : Int32) (f_text_20 : Nat → Int32) (H : Heap) (locs : List Loc) (ls : Array Slot), p_X8_sign_20 F p1 Post n20 y2_20 x_typed_20 f_text_20 → va_P D cls9 [(h, oX8 w_now (.int x_arches) (.int x_cats) (.ref q_text) (.int x_typed_20) w_row (.int x_rowMany) (.int (0 : Int32)) w_read (.int x_length) (.int x_top) (.int x_at) (.int x_wrong) w_told w_rule w_otherRule (.int x_ruleSize) (.int x_isAsked) w_asked w_undos (.int x_undoMany) w_aside w_then w_hold (.int x_dropped) w_acts w_guarded w_train (.int x_trolleyEnd) w_feltOf w_feltBy (.int x_feltMany) w_many w_heardOf w_heardBy (.int x_heardMany) w_worth (.int x_drawn) (.int x_came) w_kept w_isKept w_keptCame), (q_text, aB cT 80 f_text_20)] H → va_D A [(h, oX8 w_now (.int x_arches) (.int x_cats) (.ref q_text) (.int x_typed_20) w_row (.int x_rowMany) (.int (0 : Int32)) w_read (.int x_length) (.int x_top) (.int x_at) (.int x_wrong) w_told w_rule w_otherRule (.int x_ruleSize) (.int x_isAsked) w_asked w_undos (.int x_undoMany) w_aside w_then w_hold (.int x_dropped) w_acts w_guarded w_train (.int x_trolleyEnd) w_feltOf w_feltBy (.int x_feltMany) w_many w_heardOf w_heardBy (.int x_heardMany) w_worth (.int x_drawn) (.int x_came) w_kept w_isKept w_keptCame), (q_text, aB cT 80 f_text_20)] → va_S A s.heap H locs → lv_has ls 3 [(0, .ref h), (1, .int p1), (2, .int y2_20)] → W p l e (rmO 0 0 0 0) s m ([.ref h, .int p1] : List Value).toArray below meth c H locs 0 0 (MQ below (va_Qi Post (cB D A (fun (u : (Int32 × Int32 × (Nat → Int32))) => [(h, oX8 w_now (.int x_arches) (.int x_cats) (.ref q_text) (.int u.1) w_row (.int x_rowMany) (.int u.2.1) w_read (.int x_length) (.int x_top) (.int x_at) (.int x_wrong) w_told w_rule w_otherRule (.int x_ruleSize) (.int x_isAsked) w_asked w_undos (.int x_undoMany) w_aside w_then w_hold (.int x_dropped) w_acts w_guarded w_train (.int x_trolleyEnd) w_feltOf w_feltBy (.int x_feltMany) w_many w_heardOf w_heardBy (.int x_heardMany) w_worth (.int x_drawn) (.int x_came) w_kept w_isKept w_keptCame), (q_text, aB cT 80 u.2.2)])) A) ([.ref h, .int p1] : List Value).toArray s 0 0 A) (F0 m 20 ls []) := by
    intro n20
    induction n20 with
    | zero =>
      intro y2_20 x_typed_20 f_text_20 H locs ls hg hP hD hS hl
      exact False.elim hg
    | succ n20 ih20 =>
      intro y2_20 x_typed_20 f_text_20 H locs ls hg hP hD hS hl
      rw [p_X8_sign_20_s] at hg
      refine lv_iload_n hx hb dX8_sign_20 rfl (lv_at hl 2 rfl) ?_
      refine lv_if_lt (tgt := 53) hx hb dX8_sign_21 (by decide) (fun c_21 => ?_) (fun c_21 => ?_)
      · have hg := hg.1 c_21
        refine lv_aload_n hx hb dX8_sign_53 rfl (lv_at hl 0 rfl) ?_
        refine gf_X8_99 C0 hP 0 rfl rfl dX8_sign_54 ?_
        exact k_iret C0 hr (x_typed_20, (0 : Int32), f_text_20) hg hP hD hS dX8_sign_57
      have hg := hg.2 c_21
      refine lv_aload_n hx hb dX8_sign_24 rfl (lv_at hl 0 rfl) ?_
      refine gf_X8_13 C0 hP 0 rfl rfl dX8_sign_25 ?_
      refine lv_aload_n hx hb dX8_sign_28 rfl (lv_at hl 0 rfl) ?_
      refine lv_dup hx hb dX8_sign_29 rfl ?_
      refine gf_X8_99 C0 hP 0 rfl rfl dX8_sign_30 ?_
      refine lv_dup_x1 hx hb dX8_sign_33 rfl rfl ?_
      refine lv_iconst (v := (1 : Int32)) hx hb dX8_sign_34 (by decide) ?_
      refine lv_iadd hx hb dX8_sign_35 ?_
      refine pf_X8_99 C0 hP hD hS 0 rfl (Nat.le_of_ble_eq_true rfl) (ws2 := [(h, oX8 w_now (.int x_arches) (.int x_cats) (.ref q_text) (.int (x_typed_20 + (1 : Int32))) w_row (.int x_rowMany) (.int (0 : Int32)) w_read (.int x_length) (.int x_top) (.int x_at) (.int x_wrong) w_told w_rule w_otherRule (.int x_ruleSize) (.int x_isAsked) w_asked w_undos (.int x_undoMany) w_aside w_then w_hold (.int x_dropped) w_acts w_guarded w_train (.int x_trolleyEnd) w_feltOf w_feltBy (.int x_feltMany) w_many w_heardOf w_heardBy (.int x_heardMany) w_worth (.int x_drawn) (.int x_came) w_kept w_isKept w_keptCame), (q_text, aB cT 80 f_text_20)]) rfl dX8_sign_36 (fun H locs hP hD hS => ?_)
      refine lv_iload_n hx hb dX8_sign_39 rfl (lv_at hl 1 rfl) ?_
      refine lv_bipush (v := (8 : Int32)) hx hb dX8_sign_40 (by decide) ?_
      refine lv_iload_n hx hb dX8_sign_42 rfl (lv_at hl 2 rfl) ?_
      refine lv_imul hx hb dX8_sign_43 ?_
      refine lv_ishr hx hb dX8_sign_44 ?_
      refine lv_i2b (v := ((p1 >>> (((8 : Int32) * y2_20) &&& 31)).toInt8.toInt32)) hx hb dX8_sign_45 rfl ?_
      obtain ⟨g_46, hg⟩ := hg
      refine k_bast C0 hP hD hS 1 rfl g_46 (ws' := [(h, oX8 w_now (.int x_arches) (.int x_cats) (.ref q_text) (.int (x_typed_20 + (1 : Int32))) w_row (.int x_rowMany) (.int (0 : Int32)) w_read (.int x_length) (.int x_top) (.int x_at) (.int x_wrong) w_told w_rule w_otherRule (.int x_ruleSize) (.int x_isAsked) w_asked w_undos (.int x_undoMany) w_aside w_then w_hold (.int x_dropped) w_acts w_guarded w_train (.int x_trolleyEnd) w_feltOf w_feltBy (.int x_feltMany) w_many w_heardOf w_heardBy (.int x_heardMany) w_worth (.int x_drawn) (.int x_came) w_kept w_isKept w_keptCame), (q_text, aB cT 80 (upd f_text_20 x_typed_20.toNatClampNeg (vp_nar .byte ((p1 >>> (((8 : Int32) * y2_20) &&& 31)).toInt8.toInt32))))]) rfl dX8_sign_46 (fun H locs hP hD hS => ?_)
      refine lv_iinc (v := (y2_20 + (-1 : Int32))) (lv' := [(2, .int (y2_20 + (-1 : Int32))), (0, .ref h), (1, .int p1)]) hx hb dX8_sign_47 hl (k := 2) rfl rfl (by decide) rfl (fun ls hl => ?_)
      refine lv_goto (tgt := 20) hx hb dX8_sign_50 (by decide) ?_
      exact ih20 (y2_20 + (-1 : Int32)) (x_typed_20 + (1 : Int32)) (upd f_text_20 x_typed_20.toNatClampNeg (vp_nar .byte ((p1 >>> (((8 : Int32) * y2_20) &&& 31)).toInt8.toInt32))) _ _ _ hg hP hD hS (lv_sub hl [1, 2, 0] rfl)
  unfold p_X8_sign at hg
  refine lv_aload_n hx hb dX8_sign_0 rfl (lv_at hl 0 rfl) ?_
  refine lv_iconst (v := (0 : Int32)) hx hb dX8_sign_1 (by decide) ?_
  refine pf_X8_82 C0 hP hD hS 0 rfl (Nat.le_of_ble_eq_true rfl) (ws2 := [(h, oX8 w_now (.int x_arches) (.int x_cats) (.ref q_text) (.int x_typed) w_row (.int x_rowMany) (.int (0 : Int32)) w_read (.int x_length) (.int x_top) (.int x_at) (.int x_wrong) w_told w_rule w_otherRule (.int x_ruleSize) (.int x_isAsked) w_asked w_undos (.int x_undoMany) w_aside w_then w_hold (.int x_dropped) w_acts w_guarded w_train (.int x_trolleyEnd) w_feltOf w_feltBy (.int x_feltMany) w_many w_heardOf w_heardBy (.int x_heardMany) w_worth (.int x_drawn) (.int x_came) w_kept w_isKept w_keptCame), (q_text, aB cT 80 f_text)]) rfl dX8_sign_2 (fun H locs hP hD hS => ?_)
  refine lv_aload_n hx hb dX8_sign_5 rfl (lv_at hl 0 rfl) ?_
  refine gf_X8_99 C0 hP 0 rfl rfl dX8_sign_6 ?_
  refine lv_iconst (v := (4 : Int32)) hx hb dX8_sign_9 (by decide) ?_
  refine lv_iadd hx hb dX8_sign_10 ?_
  refine lv_bipush (v := (80 : Int32)) hx hb dX8_sign_11 (by decide) ?_
  refine lv_icmp_le (tgt := 18) hx hb dX8_sign_13 (by decide) (fun c_13 => ?_) (fun c_13 => ?_)
  · have hg := hg.1 c_13
    refine lv_iconst (v := (3 : Int32)) hx hb dX8_sign_18 (by decide) ?_
    refine lv_istore_n (lv' := [(2, .int (3 : Int32)), (0, .ref h), (1, .int p1)]) hx hb dX8_sign_19 rfl hl (by decide) rfl (fun ls hl => ?_)
    exact L20 F (3 : Int32) x_typed f_text _ _ _ hg hP hD hS (lv_sub hl [1, 2, 0] rfl)
  have hg := hg.2 c_13
  refine lv_iconst (v := (-1 : Int32)) hx hb dX8_sign_16 (by decide) ?_
  exact k_iret C0 hr (x_typed, (0 : Int32), f_text) hg hP hD hS dX8_sign_17
theorem dX8_end_0 : decode cX8_end 0 = .ok (.aload_n 0, 1) := by decide +kernel
theorem dX8_end_1 : decode cX8_end 1 = .ok (.iconst 0, 1) := by decide +kernel
theorem dX8_end_2 : decode cX8_end 2 = .ok (.putfield 82, 3) := by decide +kernel
theorem dX8_end_5 : decode cX8_end 5 = .ok (.iload_n 1, 1) := by decide +kernel
theorem dX8_end_6 : decode cX8_end 6 = .ok (.iconst 0, 1) := by decide +kernel
theorem dX8_end_7 : decode cX8_end 7 = .ok (.aload_n 0, 1) := by decide +kernel
theorem dX8_end_8 : decode cX8_end 8 = .ok (.getfield 99, 3) := by decide +kernel
theorem dX8_end_11 : decode cX8_end 11 = .ok (.invokestatic 92, 3) := by decide +kernel
theorem dX8_end_14 : decode cX8_end 14 = .ok (.ifCond .ne 5, 3) := by decide +kernel
theorem dX8_end_17 : decode cX8_end 17 = .ok (.iconst 0, 1) := by decide +kernel
theorem dX8_end_18 : decode cX8_end 18 = .ok (.ireturn, 1) := by decide +kernel
theorem dX8_end_19 : decode cX8_end 19 = .ok (.aload_n 0, 1) := by decide +kernel
theorem dX8_end_20 : decode cX8_end 20 = .ok (.iload_n 1, 1) := by decide +kernel
theorem dX8_end_21 : decode cX8_end 21 = .ok (.putfield 99, 3) := by decide +kernel
theorem dX8_end_24 : decode cX8_end 24 = .ok (.iconst 1, 1) := by decide +kernel
theorem dX8_end_25 : decode cX8_end 25 = .ok (.ireturn, 1) := by decide +kernel
def p_X8_end (F : Nat) (p1 : Int32) (x_typed : Int32) (Post : Int32 → (Int32 × Int32) → Prop) : Prop := (p_X8_in F p1 (0 : Int32) x_typed (fun (r_11 : Int32) => ((¬ r_11 = 0 → (Post (1 : Int32) (p1, (0 : Int32)))) ∧ (r_11 = 0 → (Post (0 : Int32) (x_typed, (0 : Int32)))))))
set_option maxHeartbeats 4000000 in
set_option maxRecDepth 100000 in
theorem c_X8_end (l : Launch) (D : va_G) (cT : Nat → ClassId) (F : Nat) (h : Nat) (p1 : Int32) (w_now : Value) (x_arches : Int32) (x_cats : Int32) (w_text : Value) (x_typed : Int32) (w_row : Value) (x_rowMany : Int32) (x_thrown : Int32) (w_read : Value) (x_length : Int32) (x_top : Int32) (x_at : Int32) (x_wrong : Int32) (w_told : Value) (w_rule : Value) (w_otherRule : Value) (x_ruleSize : Int32) (x_isAsked : Int32) (w_asked : Value) (w_undos : Value) (x_undoMany : Int32) (w_aside : Value) (w_then : Value) (w_hold : Value) (x_dropped : Int32) (w_acts : Value) (w_guarded : Value) (w_train : Value) (x_trolleyEnd : Int32) (w_feltOf : Value) (w_feltBy : Value) (x_feltMany : Int32) (w_many : Value) (w_heardOf : Value) (w_heardBy : Value) (x_heardMany : Int32) (w_worth : Value) (x_drawn : Int32) (x_came : Int32) (w_kept : Value) (w_isKept : Value) (w_keptCame : Value) (Post : Int32 → (Int32 × Int32) → Prop) (hg : p_X8_end F p1 x_typed Post) : MWi l D cT yX8_end cX8_end 2 (some .boolean) 1 22 0 0 [.ref h, .int p1] [(h, oX8 w_now (.int x_arches) (.int x_cats) w_text (.int x_typed) w_row (.int x_rowMany) (.int x_thrown) w_read (.int x_length) (.int x_top) (.int x_at) (.int x_wrong) w_told w_rule w_otherRule (.int x_ruleSize) (.int x_isAsked) w_asked w_undos (.int x_undoMany) w_aside w_then w_hold (.int x_dropped) w_acts w_guarded w_train (.int x_trolleyEnd) w_feltOf w_feltBy (.int x_feltMany) w_many w_heardOf w_heardBy (.int x_heardMany) w_worth (.int x_drawn) (.int x_came) w_kept w_isKept w_keptCame)] Post (fun (u : (Int32 × Int32)) => [(h, oX8 w_now (.int x_arches) (.int x_cats) w_text (.int u.1) w_row (.int x_rowMany) (.int u.2) w_read (.int x_length) (.int x_top) (.int x_at) (.int x_wrong) w_told w_rule w_otherRule (.int x_ruleSize) (.int x_isAsked) w_asked w_undos (.int x_undoMany) w_aside w_then w_hold (.int x_dropped) w_acts w_guarded w_train (.int x_trolleyEnd) w_feltOf w_feltBy (.int x_feltMany) w_many w_heardOf w_heardBy (.int x_heardMany) w_worth (.int x_drawn) (.int x_came) w_kept w_isKept w_keptCame)]) := by
  refine MWi.of (by decide) (Nat.le_of_ble_eq_true rfl) ?_
  intro p e s m below meth c A hA C0 hnm hr hP hD ls hl
  have hl : lv_has ls 2 [(0, .ref h), (1, .int p1)] := hl
  have hx := C0.x
  have hb := C0.b
  have hS : va_S A s.heap s.heap [] := va_S.rf
  have hP : va_P D cls9 [(h, oX8 w_now (.int x_arches) (.int x_cats) w_text (.int x_typed) w_row (.int x_rowMany) (.int x_thrown) w_read (.int x_length) (.int x_top) (.int x_at) (.int x_wrong) w_told w_rule w_otherRule (.int x_ruleSize) (.int x_isAsked) w_asked w_undos (.int x_undoMany) w_aside w_then w_hold (.int x_dropped) w_acts w_guarded w_train (.int x_trolleyEnd) w_feltOf w_feltBy (.int x_feltMany) w_many w_heardOf w_heardBy (.int x_heardMany) w_worth (.int x_drawn) (.int x_came) w_kept w_isKept w_keptCame)] s.heap := hP
  have hD : va_D A [(h, oX8 w_now (.int x_arches) (.int x_cats) w_text (.int x_typed) w_row (.int x_rowMany) (.int x_thrown) w_read (.int x_length) (.int x_top) (.int x_at) (.int x_wrong) w_told w_rule w_otherRule (.int x_ruleSize) (.int x_isAsked) w_asked w_undos (.int x_undoMany) w_aside w_then w_hold (.int x_dropped) w_acts w_guarded w_train (.int x_trolleyEnd) w_feltOf w_feltBy (.int x_feltMany) w_many w_heardOf w_heardBy (.int x_heardMany) w_worth (.int x_drawn) (.int x_came) w_kept w_isKept w_keptCame)] := hD
  unfold p_X8_end at hg
  refine lv_aload_n hx hb dX8_end_0 rfl (lv_at hl 0 rfl) ?_
  refine lv_iconst (v := (0 : Int32)) hx hb dX8_end_1 (by decide) ?_
  refine pf_X8_82 C0 hP hD hS 0 rfl (Nat.le_of_ble_eq_true rfl) (ws2 := [(h, oX8 w_now (.int x_arches) (.int x_cats) w_text (.int x_typed) w_row (.int x_rowMany) (.int (0 : Int32)) w_read (.int x_length) (.int x_top) (.int x_at) (.int x_wrong) w_told w_rule w_otherRule (.int x_ruleSize) (.int x_isAsked) w_asked w_undos (.int x_undoMany) w_aside w_then w_hold (.int x_dropped) w_acts w_guarded w_train (.int x_trolleyEnd) w_feltOf w_feltBy (.int x_feltMany) w_many w_heardOf w_heardBy (.int x_heardMany) w_worth (.int x_drawn) (.int x_came) w_kept w_isKept w_keptCame)]) rfl dX8_end_2 (fun H locs hP hD hS => ?_)
  refine lv_iload_n hx hb dX8_end_5 rfl (lv_at hl 1 rfl) ?_
  refine lv_iconst (v := (0 : Int32)) hx hb dX8_end_6 (by decide) ?_
  refine lv_aload_n hx hb dX8_end_7 rfl (lv_at hl 0 rfl) ?_
  refine gf_X8_99 C0 hP 0 rfl rfl dX8_end_8 ?_
  refine k_Sxi (rest := []) C0 lk_X8_92 (c_X8_in l D cT F p1 (0 : Int32) x_typed _ hg) hP hD [] (by decide +kernel) rfl ⟨Nat.le_of_ble_eq_true rfl, Nat.le_of_ble_eq_true rfl⟩ rfl hl.1 rfl (Nat.le_of_ble_eq_true rfl) dX8_end_11 ⟨Nat.le_of_ble_eq_true rfl, Nat.le_of_ble_eq_true rfl⟩ (fun r_11 hg => ?_)
  refine lv_if_ne (tgt := 19) hx hb dX8_end_14 (by decide) (fun c_14 => ?_) (fun c_14 => ?_)
  · have hg := hg.1 c_14
    refine lv_aload_n hx hb dX8_end_19 rfl (lv_at hl 0 rfl) ?_
    refine lv_iload_n hx hb dX8_end_20 rfl (lv_at hl 1 rfl) ?_
    refine pf_X8_99 C0 hP hD hS 0 rfl (Nat.le_of_ble_eq_true rfl) (ws2 := [(h, oX8 w_now (.int x_arches) (.int x_cats) w_text (.int p1) w_row (.int x_rowMany) (.int (0 : Int32)) w_read (.int x_length) (.int x_top) (.int x_at) (.int x_wrong) w_told w_rule w_otherRule (.int x_ruleSize) (.int x_isAsked) w_asked w_undos (.int x_undoMany) w_aside w_then w_hold (.int x_dropped) w_acts w_guarded w_train (.int x_trolleyEnd) w_feltOf w_feltBy (.int x_feltMany) w_many w_heardOf w_heardBy (.int x_heardMany) w_worth (.int x_drawn) (.int x_came) w_kept w_isKept w_keptCame)]) rfl dX8_end_21 (fun H locs hP hD hS => ?_)
    refine lv_iconst (v := (1 : Int32)) hx hb dX8_end_24 (by decide) ?_
    exact k_zret C0 hr (Or.inr rfl) (p1, (0 : Int32)) hg hP hD hS dX8_end_25
  have hg := hg.2 c_14
  refine lv_iconst (v := (0 : Int32)) hx hb dX8_end_17 (by decide) ?_
  exact k_zret C0 hr (Or.inl rfl) (x_typed, (0 : Int32)) hg hP hD hS dX8_end_18
theorem dX8_begin_0 : decode cX8_begin 0 = .ok (.aload_n 0, 1) := by decide +kernel
theorem dX8_begin_1 : decode cX8_begin 1 = .ok (.aload_n 1, 1) := by decide +kernel
theorem dX8_begin_2 : decode cX8_begin 2 = .ok (.putfield 102, 3) := by decide +kernel
theorem dX8_begin_5 : decode cX8_begin 5 = .ok (.aload_n 0, 1) := by decide +kernel
theorem dX8_begin_6 : decode cX8_begin 6 = .ok (.iload_n 2, 1) := by decide +kernel
theorem dX8_begin_7 : decode cX8_begin 7 = .ok (.putfield 105, 3) := by decide +kernel
theorem dX8_begin_10 : decode cX8_begin 10 = .ok (.aload_n 0, 1) := by decide +kernel
theorem dX8_begin_11 : decode cX8_begin 11 = .ok (.iload_n 3, 1) := by decide +kernel
theorem dX8_begin_12 : decode cX8_begin 12 = .ok (.putfield 108, 3) := by decide +kernel
theorem dX8_begin_15 : decode cX8_begin 15 = .ok (.aload_n 0, 1) := by decide +kernel
theorem dX8_begin_16 : decode cX8_begin 16 = .ok (.iconst 0, 1) := by decide +kernel
theorem dX8_begin_17 : decode cX8_begin 17 = .ok (.putfield 111, 3) := by decide +kernel
theorem dX8_begin_20 : decode cX8_begin 20 = .ok (.aload_n 0, 1) := by decide +kernel
theorem dX8_begin_21 : decode cX8_begin 21 = .ok (.iconst (-1), 1) := by decide +kernel
theorem dX8_begin_22 : decode cX8_begin 22 = .ok (.putfield 114, 3) := by decide +kernel
theorem dX8_begin_25 : decode cX8_begin 25 = .ok (.return_, 1) := by decide +kernel
def p_X8_begin (F : Nat) (p2 : Int32) (p3 : Int32) (Post : (Int32 × Int32 × Int32 × Int32) → Prop) : Prop := (Post (p2, p3, (0 : Int32), (-1 : Int32)))
set_option maxHeartbeats 4000000 in
set_option maxRecDepth 100000 in
theorem c_X8_begin (l : Launch) (D : va_G) (cT : Nat → ClassId) (F : Nat) (h : Nat) (b1 : Nat) (p2 : Int32) (p3 : Int32) (w_now : Value) (x_arches : Int32) (x_cats : Int32) (w_text : Value) (x_typed : Int32) (w_row : Value) (x_rowMany : Int32) (x_thrown : Int32) (w_read : Value) (x_length : Int32) (x_top : Int32) (x_at : Int32) (x_wrong : Int32) (w_told : Value) (w_rule : Value) (w_otherRule : Value) (x_ruleSize : Int32) (x_isAsked : Int32) (w_asked : Value) (w_undos : Value) (x_undoMany : Int32) (w_aside : Value) (w_then : Value) (w_hold : Value) (x_dropped : Int32) (w_acts : Value) (w_guarded : Value) (w_train : Value) (x_trolleyEnd : Int32) (w_feltOf : Value) (w_feltBy : Value) (x_feltMany : Int32) (w_many : Value) (w_heardOf : Value) (w_heardBy : Value) (x_heardMany : Int32) (w_worth : Value) (x_drawn : Int32) (x_came : Int32) (w_kept : Value) (w_isKept : Value) (w_keptCame : Value) (Post : (Int32 × Int32 × Int32 × Int32) → Prop) (hg : p_X8_begin F p2 p3 Post) : MWv l D cT yX8_begin cX8_begin 4 none 0 0 0 0 [.ref h, .ref b1, .int p2, .int p3] [(h, oX8 w_now (.int x_arches) (.int x_cats) w_text (.int x_typed) w_row (.int x_rowMany) (.int x_thrown) w_read (.int x_length) (.int x_top) (.int x_at) (.int x_wrong) w_told w_rule w_otherRule (.int x_ruleSize) (.int x_isAsked) w_asked w_undos (.int x_undoMany) w_aside w_then w_hold (.int x_dropped) w_acts w_guarded w_train (.int x_trolleyEnd) w_feltOf w_feltBy (.int x_feltMany) w_many w_heardOf w_heardBy (.int x_heardMany) w_worth (.int x_drawn) (.int x_came) w_kept w_isKept w_keptCame)] Post (fun (u : (Int32 × Int32 × Int32 × Int32)) => [(h, oX8 w_now (.int x_arches) (.int x_cats) w_text (.int x_typed) w_row (.int x_rowMany) (.int x_thrown) (.ref b1) (.int u.1) (.int u.2.1) (.int u.2.2.1) (.int u.2.2.2) w_told w_rule w_otherRule (.int x_ruleSize) (.int x_isAsked) w_asked w_undos (.int x_undoMany) w_aside w_then w_hold (.int x_dropped) w_acts w_guarded w_train (.int x_trolleyEnd) w_feltOf w_feltBy (.int x_feltMany) w_many w_heardOf w_heardBy (.int x_heardMany) w_worth (.int x_drawn) (.int x_came) w_kept w_isKept w_keptCame)]) := by
  refine MWv.of (by decide) (Nat.le_of_ble_eq_true rfl) ?_
  intro p e s m below meth c A hA C0 hnm hr hP hD ls hl
  have hl : lv_has ls 4 [(0, .ref h), (1, .ref b1), (2, .int p2), (3, .int p3)] := hl
  have hx := C0.x
  have hb := C0.b
  have hS : va_S A s.heap s.heap [] := va_S.rf
  have hP : va_P D cls9 [(h, oX8 w_now (.int x_arches) (.int x_cats) w_text (.int x_typed) w_row (.int x_rowMany) (.int x_thrown) w_read (.int x_length) (.int x_top) (.int x_at) (.int x_wrong) w_told w_rule w_otherRule (.int x_ruleSize) (.int x_isAsked) w_asked w_undos (.int x_undoMany) w_aside w_then w_hold (.int x_dropped) w_acts w_guarded w_train (.int x_trolleyEnd) w_feltOf w_feltBy (.int x_feltMany) w_many w_heardOf w_heardBy (.int x_heardMany) w_worth (.int x_drawn) (.int x_came) w_kept w_isKept w_keptCame)] s.heap := hP
  have hD : va_D A [(h, oX8 w_now (.int x_arches) (.int x_cats) w_text (.int x_typed) w_row (.int x_rowMany) (.int x_thrown) w_read (.int x_length) (.int x_top) (.int x_at) (.int x_wrong) w_told w_rule w_otherRule (.int x_ruleSize) (.int x_isAsked) w_asked w_undos (.int x_undoMany) w_aside w_then w_hold (.int x_dropped) w_acts w_guarded w_train (.int x_trolleyEnd) w_feltOf w_feltBy (.int x_feltMany) w_many w_heardOf w_heardBy (.int x_heardMany) w_worth (.int x_drawn) (.int x_came) w_kept w_isKept w_keptCame)] := hD
  unfold p_X8_begin at hg
  refine lv_aload_n hx hb dX8_begin_0 rfl (lv_at hl 0 rfl) ?_
  refine lv_aload_n hx hb dX8_begin_1 rfl (lv_at hl 1 rfl) ?_
  refine pf_X8_102 C0 hP hD hS 0 rfl (Nat.le_of_ble_eq_true rfl) (ws2 := [(h, oX8 w_now (.int x_arches) (.int x_cats) w_text (.int x_typed) w_row (.int x_rowMany) (.int x_thrown) (.ref b1) (.int x_length) (.int x_top) (.int x_at) (.int x_wrong) w_told w_rule w_otherRule (.int x_ruleSize) (.int x_isAsked) w_asked w_undos (.int x_undoMany) w_aside w_then w_hold (.int x_dropped) w_acts w_guarded w_train (.int x_trolleyEnd) w_feltOf w_feltBy (.int x_feltMany) w_many w_heardOf w_heardBy (.int x_heardMany) w_worth (.int x_drawn) (.int x_came) w_kept w_isKept w_keptCame)]) rfl dX8_begin_2 (fun H locs hP hD hS => ?_)
  refine lv_aload_n hx hb dX8_begin_5 rfl (lv_at hl 0 rfl) ?_
  refine lv_iload_n hx hb dX8_begin_6 rfl (lv_at hl 2 rfl) ?_
  refine pf_X8_105 C0 hP hD hS 0 rfl (Nat.le_of_ble_eq_true rfl) (ws2 := [(h, oX8 w_now (.int x_arches) (.int x_cats) w_text (.int x_typed) w_row (.int x_rowMany) (.int x_thrown) (.ref b1) (.int p2) (.int x_top) (.int x_at) (.int x_wrong) w_told w_rule w_otherRule (.int x_ruleSize) (.int x_isAsked) w_asked w_undos (.int x_undoMany) w_aside w_then w_hold (.int x_dropped) w_acts w_guarded w_train (.int x_trolleyEnd) w_feltOf w_feltBy (.int x_feltMany) w_many w_heardOf w_heardBy (.int x_heardMany) w_worth (.int x_drawn) (.int x_came) w_kept w_isKept w_keptCame)]) rfl dX8_begin_7 (fun H locs hP hD hS => ?_)
  refine lv_aload_n hx hb dX8_begin_10 rfl (lv_at hl 0 rfl) ?_
  refine lv_iload_n hx hb dX8_begin_11 rfl (lv_at hl 3 rfl) ?_
  refine pf_X8_108 C0 hP hD hS 0 rfl (Nat.le_of_ble_eq_true rfl) (ws2 := [(h, oX8 w_now (.int x_arches) (.int x_cats) w_text (.int x_typed) w_row (.int x_rowMany) (.int x_thrown) (.ref b1) (.int p2) (.int p3) (.int x_at) (.int x_wrong) w_told w_rule w_otherRule (.int x_ruleSize) (.int x_isAsked) w_asked w_undos (.int x_undoMany) w_aside w_then w_hold (.int x_dropped) w_acts w_guarded w_train (.int x_trolleyEnd) w_feltOf w_feltBy (.int x_feltMany) w_many w_heardOf w_heardBy (.int x_heardMany) w_worth (.int x_drawn) (.int x_came) w_kept w_isKept w_keptCame)]) rfl dX8_begin_12 (fun H locs hP hD hS => ?_)
  refine lv_aload_n hx hb dX8_begin_15 rfl (lv_at hl 0 rfl) ?_
  refine lv_iconst (v := (0 : Int32)) hx hb dX8_begin_16 (by decide) ?_
  refine pf_X8_111 C0 hP hD hS 0 rfl (Nat.le_of_ble_eq_true rfl) (ws2 := [(h, oX8 w_now (.int x_arches) (.int x_cats) w_text (.int x_typed) w_row (.int x_rowMany) (.int x_thrown) (.ref b1) (.int p2) (.int p3) (.int (0 : Int32)) (.int x_wrong) w_told w_rule w_otherRule (.int x_ruleSize) (.int x_isAsked) w_asked w_undos (.int x_undoMany) w_aside w_then w_hold (.int x_dropped) w_acts w_guarded w_train (.int x_trolleyEnd) w_feltOf w_feltBy (.int x_feltMany) w_many w_heardOf w_heardBy (.int x_heardMany) w_worth (.int x_drawn) (.int x_came) w_kept w_isKept w_keptCame)]) rfl dX8_begin_17 (fun H locs hP hD hS => ?_)
  refine lv_aload_n hx hb dX8_begin_20 rfl (lv_at hl 0 rfl) ?_
  refine lv_iconst (v := (-1 : Int32)) hx hb dX8_begin_21 (by decide) ?_
  refine pf_X8_114 C0 hP hD hS 0 rfl (Nat.le_of_ble_eq_true rfl) (ws2 := [(h, oX8 w_now (.int x_arches) (.int x_cats) w_text (.int x_typed) w_row (.int x_rowMany) (.int x_thrown) (.ref b1) (.int p2) (.int p3) (.int (0 : Int32)) (.int (-1 : Int32)) w_told w_rule w_otherRule (.int x_ruleSize) (.int x_isAsked) w_asked w_undos (.int x_undoMany) w_aside w_then w_hold (.int x_dropped) w_acts w_guarded w_train (.int x_trolleyEnd) w_feltOf w_feltBy (.int x_feltMany) w_many w_heardOf w_heardBy (.int x_heardMany) w_worth (.int x_drawn) (.int x_came) w_kept w_isKept w_keptCame)]) rfl dX8_begin_22 (fun H locs hP hD hS => ?_)
  exact k_vret C0 hr (p2, p3, (0 : Int32), (-1 : Int32)) hg hP hD hS dX8_begin_25
theorem dX8_beginText_0 : decode cX8_beginText 0 = .ok (.aload_n 0, 1) := by decide +kernel
theorem dX8_beginText_1 : decode cX8_beginText 1 = .ok (.aload_n 0, 1) := by decide +kernel
theorem dX8_beginText_2 : decode cX8_beginText 2 = .ok (.getfield 13, 3) := by decide +kernel
theorem dX8_beginText_5 : decode cX8_beginText 5 = .ok (.aload_n 0, 1) := by decide +kernel
theorem dX8_beginText_6 : decode cX8_beginText 6 = .ok (.getfield 99, 3) := by decide +kernel
theorem dX8_beginText_9 : decode cX8_beginText 9 = .ok (.iload_n 1, 1) := by decide +kernel
theorem dX8_beginText_10 : decode cX8_beginText 10 = .ok (.invokevirtual 117, 3) := by decide +kernel
theorem dX8_beginText_13 : decode cX8_beginText 13 = .ok (.aload_n 0, 1) := by decide +kernel
theorem dX8_beginText_14 : decode cX8_beginText 14 = .ok (.iconst 0, 1) := by decide +kernel
theorem dX8_beginText_15 : decode cX8_beginText 15 = .ok (.putfield 99, 3) := by decide +kernel
theorem dX8_beginText_18 : decode cX8_beginText 18 = .ok (.return_, 1) := by decide +kernel
def p_X8_beginText (F : Nat) (p1 : Int32) (x_typed : Int32) (Post : (Int32 × Int32 × Int32 × Int32 × Int32) → Prop) : Prop := (p_X8_begin F x_typed p1 (fun (u_10 : (Int32 × Int32 × Int32 × Int32)) => (Post ((0 : Int32), u_10.1, u_10.2.1, u_10.2.2.1, u_10.2.2.2))))
set_option maxHeartbeats 4000000 in
set_option maxRecDepth 100000 in
theorem c_X8_beginText (l : Launch) (D : va_G) (cT : Nat → ClassId) (F : Nat) (h : Nat) (p1 : Int32) (w_now : Value) (x_arches : Int32) (x_cats : Int32) (q_text : Nat) (x_typed : Int32) (w_row : Value) (x_rowMany : Int32) (x_thrown : Int32) (w_read : Value) (x_length : Int32) (x_top : Int32) (x_at : Int32) (x_wrong : Int32) (w_told : Value) (w_rule : Value) (w_otherRule : Value) (x_ruleSize : Int32) (x_isAsked : Int32) (w_asked : Value) (w_undos : Value) (x_undoMany : Int32) (w_aside : Value) (w_then : Value) (w_hold : Value) (x_dropped : Int32) (w_acts : Value) (w_guarded : Value) (w_train : Value) (x_trolleyEnd : Int32) (w_feltOf : Value) (w_feltBy : Value) (x_feltMany : Int32) (w_many : Value) (w_heardOf : Value) (w_heardBy : Value) (x_heardMany : Int32) (w_worth : Value) (x_drawn : Int32) (x_came : Int32) (w_kept : Value) (w_isKept : Value) (w_keptCame : Value) (Post : (Int32 × Int32 × Int32 × Int32 × Int32) → Prop) (hg : p_X8_beginText F p1 x_typed Post) : MWv l D cT yX8_beginText cX8_beginText 2 none 1 23 0 0 [.ref h, .int p1] [(h, oX8 w_now (.int x_arches) (.int x_cats) (.ref q_text) (.int x_typed) w_row (.int x_rowMany) (.int x_thrown) w_read (.int x_length) (.int x_top) (.int x_at) (.int x_wrong) w_told w_rule w_otherRule (.int x_ruleSize) (.int x_isAsked) w_asked w_undos (.int x_undoMany) w_aside w_then w_hold (.int x_dropped) w_acts w_guarded w_train (.int x_trolleyEnd) w_feltOf w_feltBy (.int x_feltMany) w_many w_heardOf w_heardBy (.int x_heardMany) w_worth (.int x_drawn) (.int x_came) w_kept w_isKept w_keptCame)] Post (fun (u : (Int32 × Int32 × Int32 × Int32 × Int32)) => [(h, oX8 w_now (.int x_arches) (.int x_cats) (.ref q_text) (.int u.1) w_row (.int x_rowMany) (.int x_thrown) (.ref q_text) (.int u.2.1) (.int u.2.2.1) (.int u.2.2.2.1) (.int u.2.2.2.2) w_told w_rule w_otherRule (.int x_ruleSize) (.int x_isAsked) w_asked w_undos (.int x_undoMany) w_aside w_then w_hold (.int x_dropped) w_acts w_guarded w_train (.int x_trolleyEnd) w_feltOf w_feltBy (.int x_feltMany) w_many w_heardOf w_heardBy (.int x_heardMany) w_worth (.int x_drawn) (.int x_came) w_kept w_isKept w_keptCame)]) := by
  refine MWv.of (by decide) (Nat.le_of_ble_eq_true rfl) ?_
  intro p e s m below meth c A hA C0 hnm hr hP hD ls hl
  have hl : lv_has ls 2 [(0, .ref h), (1, .int p1)] := hl
  have hx := C0.x
  have hb := C0.b
  have hS : va_S A s.heap s.heap [] := va_S.rf
  have hP : va_P D cls9 [(h, oX8 w_now (.int x_arches) (.int x_cats) (.ref q_text) (.int x_typed) w_row (.int x_rowMany) (.int x_thrown) w_read (.int x_length) (.int x_top) (.int x_at) (.int x_wrong) w_told w_rule w_otherRule (.int x_ruleSize) (.int x_isAsked) w_asked w_undos (.int x_undoMany) w_aside w_then w_hold (.int x_dropped) w_acts w_guarded w_train (.int x_trolleyEnd) w_feltOf w_feltBy (.int x_feltMany) w_many w_heardOf w_heardBy (.int x_heardMany) w_worth (.int x_drawn) (.int x_came) w_kept w_isKept w_keptCame)] s.heap := hP
  have hD : va_D A [(h, oX8 w_now (.int x_arches) (.int x_cats) (.ref q_text) (.int x_typed) w_row (.int x_rowMany) (.int x_thrown) w_read (.int x_length) (.int x_top) (.int x_at) (.int x_wrong) w_told w_rule w_otherRule (.int x_ruleSize) (.int x_isAsked) w_asked w_undos (.int x_undoMany) w_aside w_then w_hold (.int x_dropped) w_acts w_guarded w_train (.int x_trolleyEnd) w_feltOf w_feltBy (.int x_feltMany) w_many w_heardOf w_heardBy (.int x_heardMany) w_worth (.int x_drawn) (.int x_came) w_kept w_isKept w_keptCame)] := hD
  unfold p_X8_beginText at hg
  refine lv_aload_n hx hb dX8_beginText_0 rfl (lv_at hl 0 rfl) ?_
  refine lv_aload_n hx hb dX8_beginText_1 rfl (lv_at hl 0 rfl) ?_
  refine gf_X8_13 C0 hP 0 rfl rfl dX8_beginText_2 ?_
  refine lv_aload_n hx hb dX8_beginText_5 rfl (lv_at hl 0 rfl) ?_
  refine gf_X8_99 C0 hP 0 rfl rfl dX8_beginText_6 ?_
  refine lv_iload_n hx hb dX8_beginText_9 rfl (lv_at hl 1 rfl) ?_
  refine k_Vv (rest := []) (wr := []) (w2 := fun u_10 => [(h, oX8 w_now (.int x_arches) (.int x_cats) (.ref q_text) (.int x_typed) w_row (.int x_rowMany) (.int x_thrown) (.ref q_text) (.int u_10.1) (.int u_10.2.1) (.int u_10.2.2.1) (.int u_10.2.2.2) w_told w_rule w_otherRule (.int x_ruleSize) (.int x_isAsked) w_asked w_undos (.int x_undoMany) w_aside w_then w_hold (.int x_dropped) w_acts w_guarded w_train (.int x_trolleyEnd) w_feltOf w_feltBy (.int x_feltMany) w_many w_heardOf w_heardBy (.int x_heardMany) w_worth (.int x_drawn) (.int x_came) w_kept w_isKept w_keptCame)]) C0 lk_X8_117 (c_X8_begin l D cT F h q_text x_typed p1 w_now x_arches x_cats (.ref q_text) x_typed w_row x_rowMany x_thrown w_read x_length x_top x_at x_wrong w_told w_rule w_otherRule x_ruleSize x_isAsked w_asked w_undos x_undoMany w_aside w_then w_hold x_dropped w_acts w_guarded w_train x_trolleyEnd w_feltOf w_feltBy x_feltMany w_many w_heardOf w_heardBy x_heardMany w_worth x_drawn x_came w_kept w_isKept w_keptCame _ hg) hP hD hS hA [0] [] (by decide +kernel) rfl rfl (fun _ => rfl) rfl rfl ⟨Nat.le_of_ble_eq_true rfl, Nat.le_of_ble_eq_true rfl⟩ rfl hl.1 rfl (Nat.le_of_ble_eq_true rfl) dX8_beginText_10 ⟨Nat.le_of_ble_eq_true rfl, Nat.le_of_ble_eq_true rfl⟩ ?_
  intro u_10 H locs hg hP hD hS
  refine lv_aload_n hx hb dX8_beginText_13 rfl (lv_at hl 0 rfl) ?_
  refine lv_iconst (v := (0 : Int32)) hx hb dX8_beginText_14 (by decide) ?_
  refine pf_X8_99 C0 hP hD hS 0 rfl (Nat.le_of_ble_eq_true rfl) (ws2 := [(h, oX8 w_now (.int x_arches) (.int x_cats) (.ref q_text) (.int (0 : Int32)) w_row (.int x_rowMany) (.int x_thrown) (.ref q_text) (.int u_10.1) (.int u_10.2.1) (.int u_10.2.2.1) (.int u_10.2.2.2) w_told w_rule w_otherRule (.int x_ruleSize) (.int x_isAsked) w_asked w_undos (.int x_undoMany) w_aside w_then w_hold (.int x_dropped) w_acts w_guarded w_train (.int x_trolleyEnd) w_feltOf w_feltBy (.int x_feltMany) w_many w_heardOf w_heardBy (.int x_heardMany) w_worth (.int x_drawn) (.int x_came) w_kept w_isKept w_keptCame)]) rfl dX8_beginText_15 (fun H locs hP hD hS => ?_)
  exact k_vret C0 hr ((0 : Int32), u_10.1, u_10.2.1, u_10.2.2.1, u_10.2.2.2) hg hP hD hS dX8_beginText_18
theorem dX8_here_0 : decode cX8_here 0 = .ok (.aload_n 0, 1) := by decide +kernel
theorem dX8_here_1 : decode cX8_here 1 = .ok (.getfield 111, 3) := by decide +kernel
theorem dX8_here_4 : decode cX8_here 4 = .ok (.aload_n 0, 1) := by decide +kernel
theorem dX8_here_5 : decode cX8_here 5 = .ok (.getfield 105, 3) := by decide +kernel
theorem dX8_here_8 : decode cX8_here 8 = .ok (.if_icmp .ge 30, 3) := by decide +kernel
theorem dX8_here_11 : decode cX8_here 11 = .ok (.aload_n 0, 1) := by decide +kernel
theorem dX8_here_12 : decode cX8_here 12 = .ok (.getfield 111, 3) := by decide +kernel
theorem dX8_here_15 : decode cX8_here 15 = .ok (.aload_n 0, 1) := by decide +kernel
theorem dX8_here_16 : decode cX8_here 16 = .ok (.getfield 108, 3) := by decide +kernel
theorem dX8_here_19 : decode cX8_here 19 = .ok (.if_icmp .ge 19, 3) := by decide +kernel
theorem dX8_here_22 : decode cX8_here 22 = .ok (.aload_n 0, 1) := by decide +kernel
theorem dX8_here_23 : decode cX8_here 23 = .ok (.getfield 102, 3) := by decide +kernel
theorem dX8_here_26 : decode cX8_here 26 = .ok (.aload_n 0, 1) := by decide +kernel
theorem dX8_here_27 : decode cX8_here 27 = .ok (.getfield 111, 3) := by decide +kernel
theorem dX8_here_30 : decode cX8_here 30 = .ok (.baload, 1) := by decide +kernel
theorem dX8_here_31 : decode cX8_here 31 = .ok (.sipush 255, 3) := by decide +kernel
theorem dX8_here_34 : decode cX8_here 34 = .ok (.iand, 1) := by decide +kernel
theorem dX8_here_35 : decode cX8_here 35 = .ok (.goto 4, 3) := by decide +kernel
theorem dX8_here_38 : decode cX8_here 38 = .ok (.iconst (-1), 1) := by decide +kernel
theorem dX8_here_39 : decode cX8_here 39 = .ok (.ireturn, 1) := by decide +kernel
def p_X8_here (F : Nat) (x_length : Int32) (x_top : Int32) (x_at : Int32) (n_read : Nat) (f_read : Nat → Int32) (Post : Int32 → Prop) : Prop := ((x_length ≤ x_at → (Post (-1 : Int32))) ∧ (¬ x_length ≤ x_at → ((x_top ≤ x_at → (Post (-1 : Int32))) ∧ (¬ x_top ≤ x_at → (vp_in x_at n_read ∧ (Post ((f_read x_at.toNatClampNeg) &&& (255 : Int32))))))))
set_option maxHeartbeats 4000000 in
set_option maxRecDepth 100000 in
theorem c_X8_here (l : Launch) (D : va_G) (cT : Nat → ClassId) (F : Nat) (h : Nat) (w_now : Value) (x_arches : Int32) (x_cats : Int32) (w_text : Value) (x_typed : Int32) (w_row : Value) (x_rowMany : Int32) (x_thrown : Int32) (q_read : Nat) (x_length : Int32) (x_top : Int32) (x_at : Int32) (x_wrong : Int32) (w_told : Value) (w_rule : Value) (w_otherRule : Value) (x_ruleSize : Int32) (x_isAsked : Int32) (w_asked : Value) (w_undos : Value) (x_undoMany : Int32) (w_aside : Value) (w_then : Value) (w_hold : Value) (x_dropped : Int32) (w_acts : Value) (w_guarded : Value) (w_train : Value) (x_trolleyEnd : Int32) (w_feltOf : Value) (w_feltBy : Value) (x_feltMany : Int32) (w_many : Value) (w_heardOf : Value) (w_heardBy : Value) (x_heardMany : Int32) (w_worth : Value) (x_drawn : Int32) (x_came : Int32) (w_kept : Value) (w_isKept : Value) (w_keptCame : Value) (n_read : Nat) (f_read : Nat → Int32) (Post : Int32 → Prop) (hg : p_X8_here F x_length x_top x_at n_read f_read Post) : MRi l D cT yX8_here cX8_here 1 (some .int) 0 0 [.ref h] [(h, oX8 w_now (.int x_arches) (.int x_cats) w_text (.int x_typed) w_row (.int x_rowMany) (.int x_thrown) (.ref q_read) (.int x_length) (.int x_top) (.int x_at) (.int x_wrong) w_told w_rule w_otherRule (.int x_ruleSize) (.int x_isAsked) w_asked w_undos (.int x_undoMany) w_aside w_then w_hold (.int x_dropped) w_acts w_guarded w_train (.int x_trolleyEnd) w_feltOf w_feltBy (.int x_feltMany) w_many w_heardOf w_heardBy (.int x_heardMany) w_worth (.int x_drawn) (.int x_came) w_kept w_isKept w_keptCame), (q_read, aB cT n_read f_read)] Post := by
  refine MRi.of (by decide) (Nat.le_of_ble_eq_true rfl) ?_
  intro p e s m below meth c C0 hr hP hD ls hl
  have hl : lv_has ls 1 [(0, .ref h)] := hl
  have hx := C0.x
  have hb := C0.b
  have hP : va_P D cls9 [(h, oX8 w_now (.int x_arches) (.int x_cats) w_text (.int x_typed) w_row (.int x_rowMany) (.int x_thrown) (.ref q_read) (.int x_length) (.int x_top) (.int x_at) (.int x_wrong) w_told w_rule w_otherRule (.int x_ruleSize) (.int x_isAsked) w_asked w_undos (.int x_undoMany) w_aside w_then w_hold (.int x_dropped) w_acts w_guarded w_train (.int x_trolleyEnd) w_feltOf w_feltBy (.int x_feltMany) w_many w_heardOf w_heardBy (.int x_heardMany) w_worth (.int x_drawn) (.int x_came) w_kept w_isKept w_keptCame), (q_read, aB cT n_read f_read)] s.heap := hP
  have hD : va_D (fun _ => True) [(h, oX8 w_now (.int x_arches) (.int x_cats) w_text (.int x_typed) w_row (.int x_rowMany) (.int x_thrown) (.ref q_read) (.int x_length) (.int x_top) (.int x_at) (.int x_wrong) w_told w_rule w_otherRule (.int x_ruleSize) (.int x_isAsked) w_asked w_undos (.int x_undoMany) w_aside w_then w_hold (.int x_dropped) w_acts w_guarded w_train (.int x_trolleyEnd) w_feltOf w_feltBy (.int x_feltMany) w_many w_heardOf w_heardBy (.int x_heardMany) w_worth (.int x_drawn) (.int x_came) w_kept w_isKept w_keptCame), (q_read, aB cT n_read f_read)] := hD
  unfold p_X8_here at hg
  refine lv_aload_n hx hb dX8_here_0 rfl (lv_at hl 0 rfl) ?_
  refine gf_X8_111 C0 hP 0 rfl rfl dX8_here_1 ?_
  refine lv_aload_n hx hb dX8_here_4 rfl (lv_at hl 0 rfl) ?_
  refine gf_X8_105 C0 hP 0 rfl rfl dX8_here_5 ?_
  refine lv_icmp_ge (tgt := 38) hx hb dX8_here_8 (by decide) (fun c_8 => ?_) (fun c_8 => ?_)
  · have hg := hg.1 c_8
    refine lv_iconst (v := (-1 : Int32)) hx hb dX8_here_38 (by decide) ?_
    exact k_xiret C0 hr hg dX8_here_39
  have hg := hg.2 c_8
  refine lv_aload_n hx hb dX8_here_11 rfl (lv_at hl 0 rfl) ?_
  refine gf_X8_111 C0 hP 0 rfl rfl dX8_here_12 ?_
  refine lv_aload_n hx hb dX8_here_15 rfl (lv_at hl 0 rfl) ?_
  refine gf_X8_108 C0 hP 0 rfl rfl dX8_here_16 ?_
  refine lv_icmp_ge (tgt := 38) hx hb dX8_here_19 (by decide) (fun c_19 => ?_) (fun c_19 => ?_)
  · have hg := hg.1 c_19
    refine lv_iconst (v := (-1 : Int32)) hx hb dX8_here_38 (by decide) ?_
    exact k_xiret C0 hr hg dX8_here_39
  have hg := hg.2 c_19
  refine lv_aload_n hx hb dX8_here_22 rfl (lv_at hl 0 rfl) ?_
  refine gf_X8_102 C0 hP 0 rfl rfl dX8_here_23 ?_
  refine lv_aload_n hx hb dX8_here_26 rfl (lv_at hl 0 rfl) ?_
  refine gf_X8_111 C0 hP 0 rfl rfl dX8_here_27 ?_
  obtain ⟨g_30, hg⟩ := hg
  refine k_bald C0 hP 1 rfl g_30 dX8_here_30 ?_
  refine lv_sipush (v := (255 : Int32)) hx hb dX8_here_31 (by decide) ?_
  refine lv_iand hx hb dX8_here_34 ?_
  refine lv_goto (tgt := 39) hx hb dX8_here_35 (by decide) ?_
  exact k_xiret C0 hr hg dX8_here_39
theorem dX8_fine_0 : decode cX8_fine 0 = .ok (.aload_n 0, 1) := by decide +kernel
theorem dX8_fine_1 : decode cX8_fine 1 = .ok (.getfield 114, 3) := by decide +kernel
theorem dX8_fine_4 : decode cX8_fine 4 = .ok (.iconst (-1), 1) := by decide +kernel
theorem dX8_fine_5 : decode cX8_fine 5 = .ok (.if_icmp .ne 7, 3) := by decide +kernel
theorem dX8_fine_8 : decode cX8_fine 8 = .ok (.iconst 1, 1) := by decide +kernel
theorem dX8_fine_9 : decode cX8_fine 9 = .ok (.goto 4, 3) := by decide +kernel
theorem dX8_fine_12 : decode cX8_fine 12 = .ok (.iconst 0, 1) := by decide +kernel
theorem dX8_fine_13 : decode cX8_fine 13 = .ok (.ireturn, 1) := by decide +kernel
def p_X8_fine (F : Nat) (x_wrong : Int32) (Post : Int32 → Prop) : Prop := ((¬ x_wrong = (-1 : Int32) → (Post (0 : Int32))) ∧ (x_wrong = (-1 : Int32) → (Post (1 : Int32))))
set_option maxHeartbeats 4000000 in
set_option maxRecDepth 100000 in
theorem c_X8_fine (l : Launch) (D : va_G) (cT : Nat → ClassId) (F : Nat) (h : Nat) (w_now : Value) (x_arches : Int32) (x_cats : Int32) (w_text : Value) (x_typed : Int32) (w_row : Value) (x_rowMany : Int32) (x_thrown : Int32) (w_read : Value) (x_length : Int32) (x_top : Int32) (x_at : Int32) (x_wrong : Int32) (w_told : Value) (w_rule : Value) (w_otherRule : Value) (x_ruleSize : Int32) (x_isAsked : Int32) (w_asked : Value) (w_undos : Value) (x_undoMany : Int32) (w_aside : Value) (w_then : Value) (w_hold : Value) (x_dropped : Int32) (w_acts : Value) (w_guarded : Value) (w_train : Value) (x_trolleyEnd : Int32) (w_feltOf : Value) (w_feltBy : Value) (x_feltMany : Int32) (w_many : Value) (w_heardOf : Value) (w_heardBy : Value) (x_heardMany : Int32) (w_worth : Value) (x_drawn : Int32) (x_came : Int32) (w_kept : Value) (w_isKept : Value) (w_keptCame : Value) (Post : Int32 → Prop) (hg : p_X8_fine F x_wrong Post) : MRi l D cT yX8_fine cX8_fine 1 (some .boolean) 0 0 [.ref h] [(h, oX8 w_now (.int x_arches) (.int x_cats) w_text (.int x_typed) w_row (.int x_rowMany) (.int x_thrown) w_read (.int x_length) (.int x_top) (.int x_at) (.int x_wrong) w_told w_rule w_otherRule (.int x_ruleSize) (.int x_isAsked) w_asked w_undos (.int x_undoMany) w_aside w_then w_hold (.int x_dropped) w_acts w_guarded w_train (.int x_trolleyEnd) w_feltOf w_feltBy (.int x_feltMany) w_many w_heardOf w_heardBy (.int x_heardMany) w_worth (.int x_drawn) (.int x_came) w_kept w_isKept w_keptCame)] Post := by
  refine MRi.of (by decide) (Nat.le_of_ble_eq_true rfl) ?_
  intro p e s m below meth c C0 hr hP hD ls hl
  have hl : lv_has ls 1 [(0, .ref h)] := hl
  have hx := C0.x
  have hb := C0.b
  have hP : va_P D cls9 [(h, oX8 w_now (.int x_arches) (.int x_cats) w_text (.int x_typed) w_row (.int x_rowMany) (.int x_thrown) w_read (.int x_length) (.int x_top) (.int x_at) (.int x_wrong) w_told w_rule w_otherRule (.int x_ruleSize) (.int x_isAsked) w_asked w_undos (.int x_undoMany) w_aside w_then w_hold (.int x_dropped) w_acts w_guarded w_train (.int x_trolleyEnd) w_feltOf w_feltBy (.int x_feltMany) w_many w_heardOf w_heardBy (.int x_heardMany) w_worth (.int x_drawn) (.int x_came) w_kept w_isKept w_keptCame)] s.heap := hP
  have hD : va_D (fun _ => True) [(h, oX8 w_now (.int x_arches) (.int x_cats) w_text (.int x_typed) w_row (.int x_rowMany) (.int x_thrown) w_read (.int x_length) (.int x_top) (.int x_at) (.int x_wrong) w_told w_rule w_otherRule (.int x_ruleSize) (.int x_isAsked) w_asked w_undos (.int x_undoMany) w_aside w_then w_hold (.int x_dropped) w_acts w_guarded w_train (.int x_trolleyEnd) w_feltOf w_feltBy (.int x_feltMany) w_many w_heardOf w_heardBy (.int x_heardMany) w_worth (.int x_drawn) (.int x_came) w_kept w_isKept w_keptCame)] := hD
  unfold p_X8_fine at hg
  refine lv_aload_n hx hb dX8_fine_0 rfl (lv_at hl 0 rfl) ?_
  refine gf_X8_114 C0 hP 0 rfl rfl dX8_fine_1 ?_
  refine lv_iconst (v := (-1 : Int32)) hx hb dX8_fine_4 (by decide) ?_
  refine lv_icmp_ne (tgt := 12) hx hb dX8_fine_5 (by decide) (fun c_5 => ?_) (fun c_5 => ?_)
  · have hg := hg.1 c_5
    refine lv_iconst (v := (0 : Int32)) hx hb dX8_fine_12 (by decide) ?_
    exact k_xzret C0 hr (Or.inl rfl) hg dX8_fine_13
  have hg := hg.2 c_5
  refine lv_iconst (v := (1 : Int32)) hx hb dX8_fine_8 (by decide) ?_
  refine lv_goto (tgt := 13) hx hb dX8_fine_9 (by decide) ?_
  exact k_xzret C0 hr (Or.inr rfl) hg dX8_fine_13
theorem dX8_fault_0 : decode cX8_fault 0 = .ok (.aload_n 0, 1) := by decide +kernel
theorem dX8_fault_1 : decode cX8_fault 1 = .ok (.invokevirtual 121, 3) := by decide +kernel
theorem dX8_fault_4 : decode cX8_fault 4 = .ok (.ifCond .eq 8, 3) := by decide +kernel
theorem dX8_fault_7 : decode cX8_fault 7 = .ok (.aload_n 0, 1) := by decide +kernel
theorem dX8_fault_8 : decode cX8_fault 8 = .ok (.iload_n 1, 1) := by decide +kernel
theorem dX8_fault_9 : decode cX8_fault 9 = .ok (.putfield 114, 3) := by decide +kernel
theorem dX8_fault_12 : decode cX8_fault 12 = .ok (.return_, 1) := by decide +kernel
def p_X8_fault (F : Nat) (p1 : Int32) (x_wrong : Int32) (Post : Int32 → Prop) : Prop := (p_X8_fine F x_wrong (fun (r_1 : Int32) => ((r_1 = 0 → (Post x_wrong)) ∧ (¬ r_1 = 0 → (Post p1)))))
set_option maxHeartbeats 4000000 in
set_option maxRecDepth 100000 in
theorem c_X8_fault (l : Launch) (D : va_G) (cT : Nat → ClassId) (F : Nat) (h : Nat) (p1 : Int32) (w_now : Value) (x_arches : Int32) (x_cats : Int32) (w_text : Value) (x_typed : Int32) (w_row : Value) (x_rowMany : Int32) (x_thrown : Int32) (w_read : Value) (x_length : Int32) (x_top : Int32) (x_at : Int32) (x_wrong : Int32) (w_told : Value) (w_rule : Value) (w_otherRule : Value) (x_ruleSize : Int32) (x_isAsked : Int32) (w_asked : Value) (w_undos : Value) (x_undoMany : Int32) (w_aside : Value) (w_then : Value) (w_hold : Value) (x_dropped : Int32) (w_acts : Value) (w_guarded : Value) (w_train : Value) (x_trolleyEnd : Int32) (w_feltOf : Value) (w_feltBy : Value) (x_feltMany : Int32) (w_many : Value) (w_heardOf : Value) (w_heardBy : Value) (x_heardMany : Int32) (w_worth : Value) (x_drawn : Int32) (x_came : Int32) (w_kept : Value) (w_isKept : Value) (w_keptCame : Value) (Post : Int32 → Prop) (hg : p_X8_fault F p1 x_wrong Post) : MWv l D cT yX8_fault cX8_fault 2 none 1 20 0 0 [.ref h, .int p1] [(h, oX8 w_now (.int x_arches) (.int x_cats) w_text (.int x_typed) w_row (.int x_rowMany) (.int x_thrown) w_read (.int x_length) (.int x_top) (.int x_at) (.int x_wrong) w_told w_rule w_otherRule (.int x_ruleSize) (.int x_isAsked) w_asked w_undos (.int x_undoMany) w_aside w_then w_hold (.int x_dropped) w_acts w_guarded w_train (.int x_trolleyEnd) w_feltOf w_feltBy (.int x_feltMany) w_many w_heardOf w_heardBy (.int x_heardMany) w_worth (.int x_drawn) (.int x_came) w_kept w_isKept w_keptCame)] Post (fun (u : Int32) => [(h, oX8 w_now (.int x_arches) (.int x_cats) w_text (.int x_typed) w_row (.int x_rowMany) (.int x_thrown) w_read (.int x_length) (.int x_top) (.int x_at) (.int u) w_told w_rule w_otherRule (.int x_ruleSize) (.int x_isAsked) w_asked w_undos (.int x_undoMany) w_aside w_then w_hold (.int x_dropped) w_acts w_guarded w_train (.int x_trolleyEnd) w_feltOf w_feltBy (.int x_feltMany) w_many w_heardOf w_heardBy (.int x_heardMany) w_worth (.int x_drawn) (.int x_came) w_kept w_isKept w_keptCame)]) := by
  refine MWv.of (by decide) (Nat.le_of_ble_eq_true rfl) ?_
  intro p e s m below meth c A hA C0 hnm hr hP hD ls hl
  have hl : lv_has ls 2 [(0, .ref h), (1, .int p1)] := hl
  have hx := C0.x
  have hb := C0.b
  have hS : va_S A s.heap s.heap [] := va_S.rf
  have hP : va_P D cls9 [(h, oX8 w_now (.int x_arches) (.int x_cats) w_text (.int x_typed) w_row (.int x_rowMany) (.int x_thrown) w_read (.int x_length) (.int x_top) (.int x_at) (.int x_wrong) w_told w_rule w_otherRule (.int x_ruleSize) (.int x_isAsked) w_asked w_undos (.int x_undoMany) w_aside w_then w_hold (.int x_dropped) w_acts w_guarded w_train (.int x_trolleyEnd) w_feltOf w_feltBy (.int x_feltMany) w_many w_heardOf w_heardBy (.int x_heardMany) w_worth (.int x_drawn) (.int x_came) w_kept w_isKept w_keptCame)] s.heap := hP
  have hD : va_D A [(h, oX8 w_now (.int x_arches) (.int x_cats) w_text (.int x_typed) w_row (.int x_rowMany) (.int x_thrown) w_read (.int x_length) (.int x_top) (.int x_at) (.int x_wrong) w_told w_rule w_otherRule (.int x_ruleSize) (.int x_isAsked) w_asked w_undos (.int x_undoMany) w_aside w_then w_hold (.int x_dropped) w_acts w_guarded w_train (.int x_trolleyEnd) w_feltOf w_feltBy (.int x_feltMany) w_many w_heardOf w_heardBy (.int x_heardMany) w_worth (.int x_drawn) (.int x_came) w_kept w_isKept w_keptCame)] := hD
  unfold p_X8_fault at hg
  refine lv_aload_n hx hb dX8_fault_0 rfl (lv_at hl 0 rfl) ?_
  refine k_Vxi (rest := []) C0 lk_X8_121 (c_X8_fine l D cT F h w_now x_arches x_cats w_text x_typed w_row x_rowMany x_thrown w_read x_length x_top x_at x_wrong w_told w_rule w_otherRule x_ruleSize x_isAsked w_asked w_undos x_undoMany w_aside w_then w_hold x_dropped w_acts w_guarded w_train x_trolleyEnd w_feltOf w_feltBy x_feltMany w_many w_heardOf w_heardBy x_heardMany w_worth x_drawn x_came w_kept w_isKept w_keptCame _ hg) hP hD [0] (by decide +kernel) rfl rfl rfl ⟨Nat.le_of_ble_eq_true rfl, Nat.le_of_ble_eq_true rfl⟩ rfl hl.1 rfl (Nat.le_of_ble_eq_true rfl) dX8_fault_1 ⟨Nat.le_of_ble_eq_true rfl, Nat.le_of_ble_eq_true rfl⟩ (fun r_1 hg => ?_)
  refine lv_if_eq (tgt := 12) hx hb dX8_fault_4 (by decide) (fun c_4 => ?_) (fun c_4 => ?_)
  · have hg := hg.1 c_4
    exact k_vret C0 hr x_wrong hg hP hD hS dX8_fault_12
  have hg := hg.2 c_4
  refine lv_aload_n hx hb dX8_fault_7 rfl (lv_at hl 0 rfl) ?_
  refine lv_iload_n hx hb dX8_fault_8 rfl (lv_at hl 1 rfl) ?_
  refine pf_X8_114 C0 hP hD hS 0 rfl (Nat.le_of_ble_eq_true rfl) (ws2 := [(h, oX8 w_now (.int x_arches) (.int x_cats) w_text (.int x_typed) w_row (.int x_rowMany) (.int x_thrown) w_read (.int x_length) (.int x_top) (.int x_at) (.int p1) w_told w_rule w_otherRule (.int x_ruleSize) (.int x_isAsked) w_asked w_undos (.int x_undoMany) w_aside w_then w_hold (.int x_dropped) w_acts w_guarded w_train (.int x_trolleyEnd) w_feltOf w_feltBy (.int x_feltMany) w_many w_heardOf w_heardBy (.int x_heardMany) w_worth (.int x_drawn) (.int x_came) w_kept w_isKept w_keptCame)]) rfl dX8_fault_9 (fun H locs hP hD hS => ?_)
  exact k_vret C0 hr p1 hg hP hD hS dX8_fault_12
theorem dX8_passes_0 : decode cX8_passes 0 = .ok (.aload_n 0, 1) := by decide +kernel
theorem dX8_passes_1 : decode cX8_passes 1 = .ok (.invokevirtual 121, 3) := by decide +kernel
theorem dX8_passes_4 : decode cX8_passes 4 = .ok (.ifCond .eq 11, 3) := by decide +kernel
theorem dX8_passes_7 : decode cX8_passes 7 = .ok (.aload_n 0, 1) := by decide +kernel
theorem dX8_passes_8 : decode cX8_passes 8 = .ok (.invokevirtual 125, 3) := by decide +kernel
theorem dX8_passes_11 : decode cX8_passes 11 = .ok (.iload_n 1, 1) := by decide +kernel
theorem dX8_passes_12 : decode cX8_passes 12 = .ok (.if_icmp .eq 5, 3) := by decide +kernel
theorem dX8_passes_15 : decode cX8_passes 15 = .ok (.iconst 0, 1) := by decide +kernel
theorem dX8_passes_16 : decode cX8_passes 16 = .ok (.ireturn, 1) := by decide +kernel
theorem dX8_passes_17 : decode cX8_passes 17 = .ok (.aload_n 0, 1) := by decide +kernel
theorem dX8_passes_18 : decode cX8_passes 18 = .ok (.dup, 1) := by decide +kernel
theorem dX8_passes_19 : decode cX8_passes 19 = .ok (.getfield 111, 3) := by decide +kernel
theorem dX8_passes_22 : decode cX8_passes 22 = .ok (.iconst 1, 1) := by decide +kernel
theorem dX8_passes_23 : decode cX8_passes 23 = .ok (.iadd, 1) := by decide +kernel
theorem dX8_passes_24 : decode cX8_passes 24 = .ok (.putfield 111, 3) := by decide +kernel
theorem dX8_passes_27 : decode cX8_passes 27 = .ok (.iconst 1, 1) := by decide +kernel
theorem dX8_passes_28 : decode cX8_passes 28 = .ok (.ireturn, 1) := by decide +kernel
def p_X8_passes (F : Nat) (p1 : Int32) (x_length : Int32) (x_top : Int32) (x_at : Int32) (x_wrong : Int32) (n_read : Nat) (f_read : Nat → Int32) (Post : Int32 → Int32 → Prop) : Prop := (p_X8_fine F x_wrong (fun (r_1 : Int32) => ((r_1 = 0 → (Post (0 : Int32) x_at)) ∧ (¬ r_1 = 0 → (p_X8_here F x_length x_top x_at n_read f_read (fun (r_8 : Int32) => ((r_8 = p1 → (Post (1 : Int32) (x_at + (1 : Int32)))) ∧ (¬ r_8 = p1 → (Post (0 : Int32) x_at)))))))))
set_option maxHeartbeats 4000000 in
set_option maxRecDepth 100000 in
theorem c_X8_passes (l : Launch) (D : va_G) (cT : Nat → ClassId) (F : Nat) (h : Nat) (p1 : Int32) (w_now : Value) (x_arches : Int32) (x_cats : Int32) (w_text : Value) (x_typed : Int32) (w_row : Value) (x_rowMany : Int32) (x_thrown : Int32) (q_read : Nat) (x_length : Int32) (x_top : Int32) (x_at : Int32) (x_wrong : Int32) (w_told : Value) (w_rule : Value) (w_otherRule : Value) (x_ruleSize : Int32) (x_isAsked : Int32) (w_asked : Value) (w_undos : Value) (x_undoMany : Int32) (w_aside : Value) (w_then : Value) (w_hold : Value) (x_dropped : Int32) (w_acts : Value) (w_guarded : Value) (w_train : Value) (x_trolleyEnd : Int32) (w_feltOf : Value) (w_feltBy : Value) (x_feltMany : Int32) (w_many : Value) (w_heardOf : Value) (w_heardBy : Value) (x_heardMany : Int32) (w_worth : Value) (x_drawn : Int32) (x_came : Int32) (w_kept : Value) (w_isKept : Value) (w_keptCame : Value) (n_read : Nat) (f_read : Nat → Int32) (Post : Int32 → Int32 → Prop) (hg : p_X8_passes F p1 x_length x_top x_at x_wrong n_read f_read Post) : MWi l D cT yX8_passes cX8_passes 2 (some .boolean) 1 20 0 0 [.ref h, .int p1] [(h, oX8 w_now (.int x_arches) (.int x_cats) w_text (.int x_typed) w_row (.int x_rowMany) (.int x_thrown) (.ref q_read) (.int x_length) (.int x_top) (.int x_at) (.int x_wrong) w_told w_rule w_otherRule (.int x_ruleSize) (.int x_isAsked) w_asked w_undos (.int x_undoMany) w_aside w_then w_hold (.int x_dropped) w_acts w_guarded w_train (.int x_trolleyEnd) w_feltOf w_feltBy (.int x_feltMany) w_many w_heardOf w_heardBy (.int x_heardMany) w_worth (.int x_drawn) (.int x_came) w_kept w_isKept w_keptCame), (q_read, aB cT n_read f_read)] Post (fun (u : Int32) => [(h, oX8 w_now (.int x_arches) (.int x_cats) w_text (.int x_typed) w_row (.int x_rowMany) (.int x_thrown) (.ref q_read) (.int x_length) (.int x_top) (.int u) (.int x_wrong) w_told w_rule w_otherRule (.int x_ruleSize) (.int x_isAsked) w_asked w_undos (.int x_undoMany) w_aside w_then w_hold (.int x_dropped) w_acts w_guarded w_train (.int x_trolleyEnd) w_feltOf w_feltBy (.int x_feltMany) w_many w_heardOf w_heardBy (.int x_heardMany) w_worth (.int x_drawn) (.int x_came) w_kept w_isKept w_keptCame), (q_read, aB cT n_read f_read)]) := by
  refine MWi.of (by decide) (Nat.le_of_ble_eq_true rfl) ?_
  intro p e s m below meth c A hA C0 hnm hr hP hD ls hl
  have hl : lv_has ls 2 [(0, .ref h), (1, .int p1)] := hl
  have hx := C0.x
  have hb := C0.b
  have hS : va_S A s.heap s.heap [] := va_S.rf
  have hP : va_P D cls9 [(h, oX8 w_now (.int x_arches) (.int x_cats) w_text (.int x_typed) w_row (.int x_rowMany) (.int x_thrown) (.ref q_read) (.int x_length) (.int x_top) (.int x_at) (.int x_wrong) w_told w_rule w_otherRule (.int x_ruleSize) (.int x_isAsked) w_asked w_undos (.int x_undoMany) w_aside w_then w_hold (.int x_dropped) w_acts w_guarded w_train (.int x_trolleyEnd) w_feltOf w_feltBy (.int x_feltMany) w_many w_heardOf w_heardBy (.int x_heardMany) w_worth (.int x_drawn) (.int x_came) w_kept w_isKept w_keptCame), (q_read, aB cT n_read f_read)] s.heap := hP
  have hD : va_D A [(h, oX8 w_now (.int x_arches) (.int x_cats) w_text (.int x_typed) w_row (.int x_rowMany) (.int x_thrown) (.ref q_read) (.int x_length) (.int x_top) (.int x_at) (.int x_wrong) w_told w_rule w_otherRule (.int x_ruleSize) (.int x_isAsked) w_asked w_undos (.int x_undoMany) w_aside w_then w_hold (.int x_dropped) w_acts w_guarded w_train (.int x_trolleyEnd) w_feltOf w_feltBy (.int x_feltMany) w_many w_heardOf w_heardBy (.int x_heardMany) w_worth (.int x_drawn) (.int x_came) w_kept w_isKept w_keptCame), (q_read, aB cT n_read f_read)] := hD
  unfold p_X8_passes at hg
  refine lv_aload_n hx hb dX8_passes_0 rfl (lv_at hl 0 rfl) ?_
  refine k_Vxi (rest := []) C0 lk_X8_121 (c_X8_fine l D cT F h w_now x_arches x_cats w_text x_typed w_row x_rowMany x_thrown (.ref q_read) x_length x_top x_at x_wrong w_told w_rule w_otherRule x_ruleSize x_isAsked w_asked w_undos x_undoMany w_aside w_then w_hold x_dropped w_acts w_guarded w_train x_trolleyEnd w_feltOf w_feltBy x_feltMany w_many w_heardOf w_heardBy x_heardMany w_worth x_drawn x_came w_kept w_isKept w_keptCame _ hg) hP hD [0] (by decide +kernel) rfl rfl rfl ⟨Nat.le_of_ble_eq_true rfl, Nat.le_of_ble_eq_true rfl⟩ rfl hl.1 rfl (Nat.le_of_ble_eq_true rfl) dX8_passes_1 ⟨Nat.le_of_ble_eq_true rfl, Nat.le_of_ble_eq_true rfl⟩ (fun r_1 hg => ?_)
  refine lv_if_eq (tgt := 15) hx hb dX8_passes_4 (by decide) (fun c_4 => ?_) (fun c_4 => ?_)
  · have hg := hg.1 c_4
    refine lv_iconst (v := (0 : Int32)) hx hb dX8_passes_15 (by decide) ?_
    exact k_zret C0 hr (Or.inl rfl) x_at hg hP hD hS dX8_passes_16
  have hg := hg.2 c_4
  refine lv_aload_n hx hb dX8_passes_7 rfl (lv_at hl 0 rfl) ?_
  refine k_Vxi (rest := []) C0 lk_X8_125 (c_X8_here l D cT F h w_now x_arches x_cats w_text x_typed w_row x_rowMany x_thrown q_read x_length x_top x_at x_wrong w_told w_rule w_otherRule x_ruleSize x_isAsked w_asked w_undos x_undoMany w_aside w_then w_hold x_dropped w_acts w_guarded w_train x_trolleyEnd w_feltOf w_feltBy x_feltMany w_many w_heardOf w_heardBy x_heardMany w_worth x_drawn x_came w_kept w_isKept w_keptCame n_read f_read _ hg) hP hD [0, 1] (by decide +kernel) rfl rfl rfl ⟨Nat.le_of_ble_eq_true rfl, Nat.le_of_ble_eq_true rfl⟩ rfl hl.1 rfl (Nat.le_of_ble_eq_true rfl) dX8_passes_8 ⟨Nat.le_of_ble_eq_true rfl, Nat.le_of_ble_eq_true rfl⟩ (fun r_8 hg => ?_)
  refine lv_iload_n hx hb dX8_passes_11 rfl (lv_at hl 1 rfl) ?_
  refine lv_icmp_eq (tgt := 17) hx hb dX8_passes_12 (by decide) (fun c_12 => ?_) (fun c_12 => ?_)
  · have hg := hg.1 c_12
    refine lv_aload_n hx hb dX8_passes_17 rfl (lv_at hl 0 rfl) ?_
    refine lv_dup hx hb dX8_passes_18 rfl ?_
    refine gf_X8_111 C0 hP 0 rfl rfl dX8_passes_19 ?_
    refine lv_iconst (v := (1 : Int32)) hx hb dX8_passes_22 (by decide) ?_
    refine lv_iadd hx hb dX8_passes_23 ?_
    refine pf_X8_111 C0 hP hD hS 0 rfl (Nat.le_of_ble_eq_true rfl) (ws2 := [(h, oX8 w_now (.int x_arches) (.int x_cats) w_text (.int x_typed) w_row (.int x_rowMany) (.int x_thrown) (.ref q_read) (.int x_length) (.int x_top) (.int (x_at + (1 : Int32))) (.int x_wrong) w_told w_rule w_otherRule (.int x_ruleSize) (.int x_isAsked) w_asked w_undos (.int x_undoMany) w_aside w_then w_hold (.int x_dropped) w_acts w_guarded w_train (.int x_trolleyEnd) w_feltOf w_feltBy (.int x_feltMany) w_many w_heardOf w_heardBy (.int x_heardMany) w_worth (.int x_drawn) (.int x_came) w_kept w_isKept w_keptCame), (q_read, aB cT n_read f_read)]) rfl dX8_passes_24 (fun H locs hP hD hS => ?_)
    refine lv_iconst (v := (1 : Int32)) hx hb dX8_passes_27 (by decide) ?_
    exact k_zret C0 hr (Or.inr rfl) (x_at + (1 : Int32)) hg hP hD hS dX8_passes_28
  have hg := hg.2 c_12
  refine lv_iconst (v := (0 : Int32)) hx hb dX8_passes_15 (by decide) ?_
  exact k_zret C0 hr (Or.inl rfl) x_at hg hP hD hS dX8_passes_16
theorem dX8_need_0 : decode cX8_need 0 = .ok (.aload_n 0, 1) := by decide +kernel
theorem dX8_need_1 : decode cX8_need 1 = .ok (.iload_n 1, 1) := by decide +kernel
theorem dX8_need_2 : decode cX8_need 2 = .ok (.invokevirtual 129, 3) := by decide +kernel
theorem dX8_need_5 : decode cX8_need 5 = .ok (.ifCond .ne 11, 3) := by decide +kernel
theorem dX8_need_8 : decode cX8_need 8 = .ok (.aload_n 0, 1) := by decide +kernel
theorem dX8_need_9 : decode cX8_need 9 = .ok (.aload_n 0, 1) := by decide +kernel
theorem dX8_need_10 : decode cX8_need 10 = .ok (.getfield 111, 3) := by decide +kernel
theorem dX8_need_13 : decode cX8_need 13 = .ok (.invokevirtual 133, 3) := by decide +kernel
theorem dX8_need_16 : decode cX8_need 16 = .ok (.return_, 1) := by decide +kernel
def p_X8_need (F : Nat) (p1 : Int32) (x_length : Int32) (x_top : Int32) (x_at : Int32) (x_wrong : Int32) (n_read : Nat) (f_read : Nat → Int32) (Post : (Int32 × Int32) → Prop) : Prop := (p_X8_passes F p1 x_length x_top x_at x_wrong n_read f_read (fun (r_2 : Int32) (u_2 : Int32) => ((¬ r_2 = 0 → (Post (u_2, x_wrong))) ∧ (r_2 = 0 → (p_X8_fault F u_2 x_wrong (fun (u_13 : Int32) => (Post (u_2, u_13))))))))
set_option maxHeartbeats 4000000 in
set_option maxRecDepth 100000 in
theorem c_X8_need (l : Launch) (D : va_G) (cT : Nat → ClassId) (F : Nat) (h : Nat) (p1 : Int32) (w_now : Value) (x_arches : Int32) (x_cats : Int32) (w_text : Value) (x_typed : Int32) (w_row : Value) (x_rowMany : Int32) (x_thrown : Int32) (q_read : Nat) (x_length : Int32) (x_top : Int32) (x_at : Int32) (x_wrong : Int32) (w_told : Value) (w_rule : Value) (w_otherRule : Value) (x_ruleSize : Int32) (x_isAsked : Int32) (w_asked : Value) (w_undos : Value) (x_undoMany : Int32) (w_aside : Value) (w_then : Value) (w_hold : Value) (x_dropped : Int32) (w_acts : Value) (w_guarded : Value) (w_train : Value) (x_trolleyEnd : Int32) (w_feltOf : Value) (w_feltBy : Value) (x_feltMany : Int32) (w_many : Value) (w_heardOf : Value) (w_heardBy : Value) (x_heardMany : Int32) (w_worth : Value) (x_drawn : Int32) (x_came : Int32) (w_kept : Value) (w_isKept : Value) (w_keptCame : Value) (n_read : Nat) (f_read : Nat → Int32) (Post : (Int32 × Int32) → Prop) (hg : p_X8_need F p1 x_length x_top x_at x_wrong n_read f_read Post) : MWv l D cT yX8_need cX8_need 2 none 2 41 0 0 [.ref h, .int p1] [(h, oX8 w_now (.int x_arches) (.int x_cats) w_text (.int x_typed) w_row (.int x_rowMany) (.int x_thrown) (.ref q_read) (.int x_length) (.int x_top) (.int x_at) (.int x_wrong) w_told w_rule w_otherRule (.int x_ruleSize) (.int x_isAsked) w_asked w_undos (.int x_undoMany) w_aside w_then w_hold (.int x_dropped) w_acts w_guarded w_train (.int x_trolleyEnd) w_feltOf w_feltBy (.int x_feltMany) w_many w_heardOf w_heardBy (.int x_heardMany) w_worth (.int x_drawn) (.int x_came) w_kept w_isKept w_keptCame), (q_read, aB cT n_read f_read)] Post (fun (u : (Int32 × Int32)) => [(h, oX8 w_now (.int x_arches) (.int x_cats) w_text (.int x_typed) w_row (.int x_rowMany) (.int x_thrown) (.ref q_read) (.int x_length) (.int x_top) (.int u.1) (.int u.2) w_told w_rule w_otherRule (.int x_ruleSize) (.int x_isAsked) w_asked w_undos (.int x_undoMany) w_aside w_then w_hold (.int x_dropped) w_acts w_guarded w_train (.int x_trolleyEnd) w_feltOf w_feltBy (.int x_feltMany) w_many w_heardOf w_heardBy (.int x_heardMany) w_worth (.int x_drawn) (.int x_came) w_kept w_isKept w_keptCame), (q_read, aB cT n_read f_read)]) := by
  refine MWv.of (by decide) (Nat.le_of_ble_eq_true rfl) ?_
  intro p e s m below meth c A hA C0 hnm hr hP hD ls hl
  have hl : lv_has ls 2 [(0, .ref h), (1, .int p1)] := hl
  have hx := C0.x
  have hb := C0.b
  have hS : va_S A s.heap s.heap [] := va_S.rf
  have hP : va_P D cls9 [(h, oX8 w_now (.int x_arches) (.int x_cats) w_text (.int x_typed) w_row (.int x_rowMany) (.int x_thrown) (.ref q_read) (.int x_length) (.int x_top) (.int x_at) (.int x_wrong) w_told w_rule w_otherRule (.int x_ruleSize) (.int x_isAsked) w_asked w_undos (.int x_undoMany) w_aside w_then w_hold (.int x_dropped) w_acts w_guarded w_train (.int x_trolleyEnd) w_feltOf w_feltBy (.int x_feltMany) w_many w_heardOf w_heardBy (.int x_heardMany) w_worth (.int x_drawn) (.int x_came) w_kept w_isKept w_keptCame), (q_read, aB cT n_read f_read)] s.heap := hP
  have hD : va_D A [(h, oX8 w_now (.int x_arches) (.int x_cats) w_text (.int x_typed) w_row (.int x_rowMany) (.int x_thrown) (.ref q_read) (.int x_length) (.int x_top) (.int x_at) (.int x_wrong) w_told w_rule w_otherRule (.int x_ruleSize) (.int x_isAsked) w_asked w_undos (.int x_undoMany) w_aside w_then w_hold (.int x_dropped) w_acts w_guarded w_train (.int x_trolleyEnd) w_feltOf w_feltBy (.int x_feltMany) w_many w_heardOf w_heardBy (.int x_heardMany) w_worth (.int x_drawn) (.int x_came) w_kept w_isKept w_keptCame), (q_read, aB cT n_read f_read)] := hD
  unfold p_X8_need at hg
  refine lv_aload_n hx hb dX8_need_0 rfl (lv_at hl 0 rfl) ?_
  refine lv_iload_n hx hb dX8_need_1 rfl (lv_at hl 1 rfl) ?_
  refine k_Vi (rest := []) (wr := []) (w2 := fun u_2 => [(h, oX8 w_now (.int x_arches) (.int x_cats) w_text (.int x_typed) w_row (.int x_rowMany) (.int x_thrown) (.ref q_read) (.int x_length) (.int x_top) (.int u_2) (.int x_wrong) w_told w_rule w_otherRule (.int x_ruleSize) (.int x_isAsked) w_asked w_undos (.int x_undoMany) w_aside w_then w_hold (.int x_dropped) w_acts w_guarded w_train (.int x_trolleyEnd) w_feltOf w_feltBy (.int x_feltMany) w_many w_heardOf w_heardBy (.int x_heardMany) w_worth (.int x_drawn) (.int x_came) w_kept w_isKept w_keptCame), (q_read, aB cT n_read f_read)]) C0 lk_X8_129 (c_X8_passes l D cT F h p1 w_now x_arches x_cats w_text x_typed w_row x_rowMany x_thrown q_read x_length x_top x_at x_wrong w_told w_rule w_otherRule x_ruleSize x_isAsked w_asked w_undos x_undoMany w_aside w_then w_hold x_dropped w_acts w_guarded w_train x_trolleyEnd w_feltOf w_feltBy x_feltMany w_many w_heardOf w_heardBy x_heardMany w_worth x_drawn x_came w_kept w_isKept w_keptCame n_read f_read _ hg) hP hD hS hA [0, 1] [] (by decide +kernel) rfl rfl (fun _ => rfl) rfl rfl ⟨Nat.le_of_ble_eq_true rfl, Nat.le_of_ble_eq_true rfl⟩ rfl hl.1 rfl (Nat.le_of_ble_eq_true rfl) dX8_need_2 ⟨Nat.le_of_ble_eq_true rfl, Nat.le_of_ble_eq_true rfl⟩ ?_
  intro r_2 u_2 H locs hg hP hD hS
  refine lv_if_ne (tgt := 16) hx hb dX8_need_5 (by decide) (fun c_5 => ?_) (fun c_5 => ?_)
  · have hg := hg.1 c_5
    exact k_vret C0 hr (u_2, x_wrong) hg hP hD hS dX8_need_16
  have hg := hg.2 c_5
  refine lv_aload_n hx hb dX8_need_8 rfl (lv_at hl 0 rfl) ?_
  refine lv_aload_n hx hb dX8_need_9 rfl (lv_at hl 0 rfl) ?_
  refine gf_X8_111 C0 hP 0 rfl rfl dX8_need_10 ?_
  refine k_Vv (rest := []) (wr := [(q_read, aB cT n_read f_read)]) (w2 := fun u_13 => [(q_read, aB cT n_read f_read), (h, oX8 w_now (.int x_arches) (.int x_cats) w_text (.int x_typed) w_row (.int x_rowMany) (.int x_thrown) (.ref q_read) (.int x_length) (.int x_top) (.int u_2) (.int u_13) w_told w_rule w_otherRule (.int x_ruleSize) (.int x_isAsked) w_asked w_undos (.int x_undoMany) w_aside w_then w_hold (.int x_dropped) w_acts w_guarded w_train (.int x_trolleyEnd) w_feltOf w_feltBy (.int x_feltMany) w_many w_heardOf w_heardBy (.int x_heardMany) w_worth (.int x_drawn) (.int x_came) w_kept w_isKept w_keptCame)]) C0 lk_X8_133 (c_X8_fault l D cT F h u_2 w_now x_arches x_cats w_text x_typed w_row x_rowMany x_thrown (.ref q_read) x_length x_top u_2 x_wrong w_told w_rule w_otherRule x_ruleSize x_isAsked w_asked w_undos x_undoMany w_aside w_then w_hold x_dropped w_acts w_guarded w_train x_trolleyEnd w_feltOf w_feltBy x_feltMany w_many w_heardOf w_heardBy x_heardMany w_worth x_drawn x_came w_kept w_isKept w_keptCame _ hg) hP hD hS hA [0] [1] (by decide +kernel) rfl rfl (fun _ => rfl) rfl rfl ⟨Nat.le_of_ble_eq_true rfl, Nat.le_of_ble_eq_true rfl⟩ rfl hl.1 rfl (Nat.le_of_ble_eq_true rfl) dX8_need_13 ⟨Nat.le_of_ble_eq_true rfl, Nat.le_of_ble_eq_true rfl⟩ ?_
  intro u_13 H locs hg hP hD hS
  exact k_vret C0 hr (u_2, u_13) hg (subP hP [1, 0] rfl) (hD.sub [1, 0] (nd2_ok _ (by decide +kernel)) rfl) hS dX8_need_16
theorem dX8_oneOf_0 : decode cX8_oneOf 0 = .ok (.aload_n 0, 1) := by decide +kernel
theorem dX8_oneOf_1 : decode cX8_oneOf 1 = .ok (.invokevirtual 121, 3) := by decide +kernel
theorem dX8_oneOf_4 : decode cX8_oneOf 4 = .ok (.ifCond .ne 5, 3) := by decide +kernel
theorem dX8_oneOf_7 : decode cX8_oneOf 7 = .ok (.iconst 0, 1) := by decide +kernel
theorem dX8_oneOf_8 : decode cX8_oneOf 8 = .ok (.ireturn, 1) := by decide +kernel
theorem dX8_oneOf_9 : decode cX8_oneOf 9 = .ok (.aload_n 0, 1) := by decide +kernel
theorem dX8_oneOf_10 : decode cX8_oneOf 10 = .ok (.invokevirtual 125, 3) := by decide +kernel
theorem dX8_oneOf_13 : decode cX8_oneOf 13 = .ok (.iload_n 1, 1) := by decide +kernel
theorem dX8_oneOf_14 : decode cX8_oneOf 14 = .ok (.iload_n 1, 1) := by decide +kernel
theorem dX8_oneOf_15 : decode cX8_oneOf 15 = .ok (.iload_n 2, 1) := by decide +kernel
theorem dX8_oneOf_16 : decode cX8_oneOf 16 = .ok (.iadd, 1) := by decide +kernel
theorem dX8_oneOf_17 : decode cX8_oneOf 17 = .ok (.iconst 1, 1) := by decide +kernel
theorem dX8_oneOf_18 : decode cX8_oneOf 18 = .ok (.isub, 1) := by decide +kernel
theorem dX8_oneOf_19 : decode cX8_oneOf 19 = .ok (.invokestatic 92, 3) := by decide +kernel
theorem dX8_oneOf_22 : decode cX8_oneOf 22 = .ok (.ifCond .ne 13, 3) := by decide +kernel
theorem dX8_oneOf_25 : decode cX8_oneOf 25 = .ok (.aload_n 0, 1) := by decide +kernel
theorem dX8_oneOf_26 : decode cX8_oneOf 26 = .ok (.aload_n 0, 1) := by decide +kernel
theorem dX8_oneOf_27 : decode cX8_oneOf 27 = .ok (.getfield 111, 3) := by decide +kernel
theorem dX8_oneOf_30 : decode cX8_oneOf 30 = .ok (.invokevirtual 133, 3) := by decide +kernel
theorem dX8_oneOf_33 : decode cX8_oneOf 33 = .ok (.iconst 0, 1) := by decide +kernel
theorem dX8_oneOf_34 : decode cX8_oneOf 34 = .ok (.ireturn, 1) := by decide +kernel
theorem dX8_oneOf_35 : decode cX8_oneOf 35 = .ok (.aload_n 0, 1) := by decide +kernel
theorem dX8_oneOf_36 : decode cX8_oneOf 36 = .ok (.dup, 1) := by decide +kernel
theorem dX8_oneOf_37 : decode cX8_oneOf 37 = .ok (.getfield 111, 3) := by decide +kernel
theorem dX8_oneOf_40 : decode cX8_oneOf 40 = .ok (.iconst 1, 1) := by decide +kernel
theorem dX8_oneOf_41 : decode cX8_oneOf 41 = .ok (.iadd, 1) := by decide +kernel
theorem dX8_oneOf_42 : decode cX8_oneOf 42 = .ok (.putfield 111, 3) := by decide +kernel
theorem dX8_oneOf_45 : decode cX8_oneOf 45 = .ok (.aload_n 0, 1) := by decide +kernel
theorem dX8_oneOf_46 : decode cX8_oneOf 46 = .ok (.getfield 102, 3) := by decide +kernel
theorem dX8_oneOf_49 : decode cX8_oneOf 49 = .ok (.aload_n 0, 1) := by decide +kernel
theorem dX8_oneOf_50 : decode cX8_oneOf 50 = .ok (.getfield 111, 3) := by decide +kernel
theorem dX8_oneOf_53 : decode cX8_oneOf 53 = .ok (.iconst 1, 1) := by decide +kernel
theorem dX8_oneOf_54 : decode cX8_oneOf 54 = .ok (.isub, 1) := by decide +kernel
theorem dX8_oneOf_55 : decode cX8_oneOf 55 = .ok (.baload, 1) := by decide +kernel
theorem dX8_oneOf_56 : decode cX8_oneOf 56 = .ok (.iload_n 1, 1) := by decide +kernel
theorem dX8_oneOf_57 : decode cX8_oneOf 57 = .ok (.isub, 1) := by decide +kernel
theorem dX8_oneOf_58 : decode cX8_oneOf 58 = .ok (.ireturn, 1) := by decide +kernel
def p_X8_oneOf (F : Nat) (p1 : Int32) (p2 : Int32) (x_length : Int32) (x_top : Int32) (x_at : Int32) (x_wrong : Int32) (n_read : Nat) (f_read : Nat → Int32) (Post : Int32 → (Int32 × Int32) → Prop) : Prop := (p_X8_fine F x_wrong (fun (r_1 : Int32) => ((¬ r_1 = 0 → (p_X8_here F x_length x_top x_at n_read f_read (fun (r_10 : Int32) => (p_X8_in F r_10 p1 ((p1 + p2) - (1 : Int32)) (fun (r_19 : Int32) => ((¬ r_19 = 0 → (vp_in ((x_at + (1 : Int32)) - (1 : Int32)) n_read ∧ (Post ((f_read ((x_at + (1 : Int32)) - (1 : Int32)).toNatClampNeg) - p1) ((x_at + (1 : Int32)), x_wrong)))) ∧ (r_19 = 0 → (p_X8_fault F x_at x_wrong (fun (u_30 : Int32) => (Post (0 : Int32) (x_at, u_30))))))))))) ∧ (r_1 = 0 → (Post (0 : Int32) (x_at, x_wrong))))))
set_option maxHeartbeats 4000000 in
set_option maxRecDepth 100000 in
theorem c_X8_oneOf (l : Launch) (D : va_G) (cT : Nat → ClassId) (F : Nat) (h : Nat) (p1 : Int32) (p2 : Int32) (w_now : Value) (x_arches : Int32) (x_cats : Int32) (w_text : Value) (x_typed : Int32) (w_row : Value) (x_rowMany : Int32) (x_thrown : Int32) (q_read : Nat) (x_length : Int32) (x_top : Int32) (x_at : Int32) (x_wrong : Int32) (w_told : Value) (w_rule : Value) (w_otherRule : Value) (x_ruleSize : Int32) (x_isAsked : Int32) (w_asked : Value) (w_undos : Value) (x_undoMany : Int32) (w_aside : Value) (w_then : Value) (w_hold : Value) (x_dropped : Int32) (w_acts : Value) (w_guarded : Value) (w_train : Value) (x_trolleyEnd : Int32) (w_feltOf : Value) (w_feltBy : Value) (x_feltMany : Int32) (w_many : Value) (w_heardOf : Value) (w_heardBy : Value) (x_heardMany : Int32) (w_worth : Value) (x_drawn : Int32) (x_came : Int32) (w_kept : Value) (w_isKept : Value) (w_keptCame : Value) (n_read : Nat) (f_read : Nat → Int32) (Post : Int32 → (Int32 × Int32) → Prop) (hg : p_X8_oneOf F p1 p2 x_length x_top x_at x_wrong n_read f_read Post) : MWi l D cT yX8_oneOf cX8_oneOf 3 (some .int) 2 41 0 0 [.ref h, .int p1, .int p2] [(h, oX8 w_now (.int x_arches) (.int x_cats) w_text (.int x_typed) w_row (.int x_rowMany) (.int x_thrown) (.ref q_read) (.int x_length) (.int x_top) (.int x_at) (.int x_wrong) w_told w_rule w_otherRule (.int x_ruleSize) (.int x_isAsked) w_asked w_undos (.int x_undoMany) w_aside w_then w_hold (.int x_dropped) w_acts w_guarded w_train (.int x_trolleyEnd) w_feltOf w_feltBy (.int x_feltMany) w_many w_heardOf w_heardBy (.int x_heardMany) w_worth (.int x_drawn) (.int x_came) w_kept w_isKept w_keptCame), (q_read, aB cT n_read f_read)] Post (fun (u : (Int32 × Int32)) => [(h, oX8 w_now (.int x_arches) (.int x_cats) w_text (.int x_typed) w_row (.int x_rowMany) (.int x_thrown) (.ref q_read) (.int x_length) (.int x_top) (.int u.1) (.int u.2) w_told w_rule w_otherRule (.int x_ruleSize) (.int x_isAsked) w_asked w_undos (.int x_undoMany) w_aside w_then w_hold (.int x_dropped) w_acts w_guarded w_train (.int x_trolleyEnd) w_feltOf w_feltBy (.int x_feltMany) w_many w_heardOf w_heardBy (.int x_heardMany) w_worth (.int x_drawn) (.int x_came) w_kept w_isKept w_keptCame), (q_read, aB cT n_read f_read)]) := by
  refine MWi.of (by decide) (Nat.le_of_ble_eq_true rfl) ?_
  intro p e s m below meth c A hA C0 hnm hr hP hD ls hl
  have hl : lv_has ls 3 [(0, .ref h), (1, .int p1), (2, .int p2)] := hl
  have hx := C0.x
  have hb := C0.b
  have hS : va_S A s.heap s.heap [] := va_S.rf
  have hP : va_P D cls9 [(h, oX8 w_now (.int x_arches) (.int x_cats) w_text (.int x_typed) w_row (.int x_rowMany) (.int x_thrown) (.ref q_read) (.int x_length) (.int x_top) (.int x_at) (.int x_wrong) w_told w_rule w_otherRule (.int x_ruleSize) (.int x_isAsked) w_asked w_undos (.int x_undoMany) w_aside w_then w_hold (.int x_dropped) w_acts w_guarded w_train (.int x_trolleyEnd) w_feltOf w_feltBy (.int x_feltMany) w_many w_heardOf w_heardBy (.int x_heardMany) w_worth (.int x_drawn) (.int x_came) w_kept w_isKept w_keptCame), (q_read, aB cT n_read f_read)] s.heap := hP
  have hD : va_D A [(h, oX8 w_now (.int x_arches) (.int x_cats) w_text (.int x_typed) w_row (.int x_rowMany) (.int x_thrown) (.ref q_read) (.int x_length) (.int x_top) (.int x_at) (.int x_wrong) w_told w_rule w_otherRule (.int x_ruleSize) (.int x_isAsked) w_asked w_undos (.int x_undoMany) w_aside w_then w_hold (.int x_dropped) w_acts w_guarded w_train (.int x_trolleyEnd) w_feltOf w_feltBy (.int x_feltMany) w_many w_heardOf w_heardBy (.int x_heardMany) w_worth (.int x_drawn) (.int x_came) w_kept w_isKept w_keptCame), (q_read, aB cT n_read f_read)] := hD
  unfold p_X8_oneOf at hg
  refine lv_aload_n hx hb dX8_oneOf_0 rfl (lv_at hl 0 rfl) ?_
  refine k_Vxi (rest := []) C0 lk_X8_121 (c_X8_fine l D cT F h w_now x_arches x_cats w_text x_typed w_row x_rowMany x_thrown (.ref q_read) x_length x_top x_at x_wrong w_told w_rule w_otherRule x_ruleSize x_isAsked w_asked w_undos x_undoMany w_aside w_then w_hold x_dropped w_acts w_guarded w_train x_trolleyEnd w_feltOf w_feltBy x_feltMany w_many w_heardOf w_heardBy x_heardMany w_worth x_drawn x_came w_kept w_isKept w_keptCame _ hg) hP hD [0] (by decide +kernel) rfl rfl rfl ⟨Nat.le_of_ble_eq_true rfl, Nat.le_of_ble_eq_true rfl⟩ rfl hl.1 rfl (Nat.le_of_ble_eq_true rfl) dX8_oneOf_1 ⟨Nat.le_of_ble_eq_true rfl, Nat.le_of_ble_eq_true rfl⟩ (fun r_1 hg => ?_)
  refine lv_if_ne (tgt := 9) hx hb dX8_oneOf_4 (by decide) (fun c_4 => ?_) (fun c_4 => ?_)
  · have hg := hg.1 c_4
    refine lv_aload_n hx hb dX8_oneOf_9 rfl (lv_at hl 0 rfl) ?_
    refine k_Vxi (rest := []) C0 lk_X8_125 (c_X8_here l D cT F h w_now x_arches x_cats w_text x_typed w_row x_rowMany x_thrown q_read x_length x_top x_at x_wrong w_told w_rule w_otherRule x_ruleSize x_isAsked w_asked w_undos x_undoMany w_aside w_then w_hold x_dropped w_acts w_guarded w_train x_trolleyEnd w_feltOf w_feltBy x_feltMany w_many w_heardOf w_heardBy x_heardMany w_worth x_drawn x_came w_kept w_isKept w_keptCame n_read f_read _ hg) hP hD [0, 1] (by decide +kernel) rfl rfl rfl ⟨Nat.le_of_ble_eq_true rfl, Nat.le_of_ble_eq_true rfl⟩ rfl hl.1 rfl (Nat.le_of_ble_eq_true rfl) dX8_oneOf_10 ⟨Nat.le_of_ble_eq_true rfl, Nat.le_of_ble_eq_true rfl⟩ (fun r_10 hg => ?_)
    refine lv_iload_n hx hb dX8_oneOf_13 rfl (lv_at hl 1 rfl) ?_
    refine lv_iload_n hx hb dX8_oneOf_14 rfl (lv_at hl 1 rfl) ?_
    refine lv_iload_n hx hb dX8_oneOf_15 rfl (lv_at hl 2 rfl) ?_
    refine lv_iadd hx hb dX8_oneOf_16 ?_
    refine lv_iconst (v := (1 : Int32)) hx hb dX8_oneOf_17 (by decide) ?_
    refine lv_isub hx hb dX8_oneOf_18 ?_
    refine k_Sxi (rest := []) C0 lk_X8_92 (c_X8_in l D cT F r_10 p1 ((p1 + p2) - (1 : Int32)) _ hg) hP hD [] (by decide +kernel) rfl ⟨Nat.le_of_ble_eq_true rfl, Nat.le_of_ble_eq_true rfl⟩ rfl hl.1 rfl (Nat.le_of_ble_eq_true rfl) dX8_oneOf_19 ⟨Nat.le_of_ble_eq_true rfl, Nat.le_of_ble_eq_true rfl⟩ (fun r_19 hg => ?_)
    refine lv_if_ne (tgt := 35) hx hb dX8_oneOf_22 (by decide) (fun c_22 => ?_) (fun c_22 => ?_)
    · have hg := hg.1 c_22
      refine lv_aload_n hx hb dX8_oneOf_35 rfl (lv_at hl 0 rfl) ?_
      refine lv_dup hx hb dX8_oneOf_36 rfl ?_
      refine gf_X8_111 C0 hP 0 rfl rfl dX8_oneOf_37 ?_
      refine lv_iconst (v := (1 : Int32)) hx hb dX8_oneOf_40 (by decide) ?_
      refine lv_iadd hx hb dX8_oneOf_41 ?_
      refine pf_X8_111 C0 hP hD hS 0 rfl (Nat.le_of_ble_eq_true rfl) (ws2 := [(h, oX8 w_now (.int x_arches) (.int x_cats) w_text (.int x_typed) w_row (.int x_rowMany) (.int x_thrown) (.ref q_read) (.int x_length) (.int x_top) (.int (x_at + (1 : Int32))) (.int x_wrong) w_told w_rule w_otherRule (.int x_ruleSize) (.int x_isAsked) w_asked w_undos (.int x_undoMany) w_aside w_then w_hold (.int x_dropped) w_acts w_guarded w_train (.int x_trolleyEnd) w_feltOf w_feltBy (.int x_feltMany) w_many w_heardOf w_heardBy (.int x_heardMany) w_worth (.int x_drawn) (.int x_came) w_kept w_isKept w_keptCame), (q_read, aB cT n_read f_read)]) rfl dX8_oneOf_42 (fun H locs hP hD hS => ?_)
      refine lv_aload_n hx hb dX8_oneOf_45 rfl (lv_at hl 0 rfl) ?_
      refine gf_X8_102 C0 hP 0 rfl rfl dX8_oneOf_46 ?_
      refine lv_aload_n hx hb dX8_oneOf_49 rfl (lv_at hl 0 rfl) ?_
      refine gf_X8_111 C0 hP 0 rfl rfl dX8_oneOf_50 ?_
      refine lv_iconst (v := (1 : Int32)) hx hb dX8_oneOf_53 (by decide) ?_
      refine lv_isub hx hb dX8_oneOf_54 ?_
      obtain ⟨g_55, hg⟩ := hg
      refine k_bald C0 hP 1 rfl g_55 dX8_oneOf_55 ?_
      refine lv_iload_n hx hb dX8_oneOf_56 rfl (lv_at hl 1 rfl) ?_
      refine lv_isub hx hb dX8_oneOf_57 ?_
      exact k_iret C0 hr ((x_at + (1 : Int32)), x_wrong) hg hP hD hS dX8_oneOf_58
    have hg := hg.2 c_22
    refine lv_aload_n hx hb dX8_oneOf_25 rfl (lv_at hl 0 rfl) ?_
    refine lv_aload_n hx hb dX8_oneOf_26 rfl (lv_at hl 0 rfl) ?_
    refine gf_X8_111 C0 hP 0 rfl rfl dX8_oneOf_27 ?_
    refine k_Vv (rest := []) (wr := [(q_read, aB cT n_read f_read)]) (w2 := fun u_30 => [(q_read, aB cT n_read f_read), (h, oX8 w_now (.int x_arches) (.int x_cats) w_text (.int x_typed) w_row (.int x_rowMany) (.int x_thrown) (.ref q_read) (.int x_length) (.int x_top) (.int x_at) (.int u_30) w_told w_rule w_otherRule (.int x_ruleSize) (.int x_isAsked) w_asked w_undos (.int x_undoMany) w_aside w_then w_hold (.int x_dropped) w_acts w_guarded w_train (.int x_trolleyEnd) w_feltOf w_feltBy (.int x_feltMany) w_many w_heardOf w_heardBy (.int x_heardMany) w_worth (.int x_drawn) (.int x_came) w_kept w_isKept w_keptCame)]) C0 lk_X8_133 (c_X8_fault l D cT F h x_at w_now x_arches x_cats w_text x_typed w_row x_rowMany x_thrown (.ref q_read) x_length x_top x_at x_wrong w_told w_rule w_otherRule x_ruleSize x_isAsked w_asked w_undos x_undoMany w_aside w_then w_hold x_dropped w_acts w_guarded w_train x_trolleyEnd w_feltOf w_feltBy x_feltMany w_many w_heardOf w_heardBy x_heardMany w_worth x_drawn x_came w_kept w_isKept w_keptCame _ hg) hP hD hS hA [0] [1] (by decide +kernel) rfl rfl (fun _ => rfl) rfl rfl ⟨Nat.le_of_ble_eq_true rfl, Nat.le_of_ble_eq_true rfl⟩ rfl hl.1 rfl (Nat.le_of_ble_eq_true rfl) dX8_oneOf_30 ⟨Nat.le_of_ble_eq_true rfl, Nat.le_of_ble_eq_true rfl⟩ ?_
    intro u_30 H locs hg hP hD hS
    refine lv_iconst (v := (0 : Int32)) hx hb dX8_oneOf_33 (by decide) ?_
    exact k_iret C0 hr (x_at, u_30) hg (subP hP [1, 0] rfl) (hD.sub [1, 0] (nd2_ok _ (by decide +kernel)) rfl) hS dX8_oneOf_34
  have hg := hg.2 c_4
  refine lv_iconst (v := (0 : Int32)) hx hb dX8_oneOf_7 (by decide) ?_
  exact k_iret C0 hr (x_at, x_wrong) hg hP hD hS dX8_oneOf_8
theorem dX8_number_0 : decode cX8_number 0 = .ok (.aload_n 0, 1) := by decide +kernel
theorem dX8_number_1 : decode cX8_number 1 = .ok (.bipush 48, 2) := by decide +kernel
theorem dX8_number_3 : decode cX8_number 3 = .ok (.bipush 10, 2) := by decide +kernel
theorem dX8_number_5 : decode cX8_number 5 = .ok (.invokevirtual 137, 3) := by decide +kernel
theorem dX8_number_8 : decode cX8_number 8 = .ok (.istore_n 2, 1) := by decide +kernel
theorem dX8_number_9 : decode cX8_number 9 = .ok (.iconst 1, 1) := by decide +kernel
theorem dX8_number_10 : decode cX8_number 10 = .ok (.istore_n 3, 1) := by decide +kernel
theorem dX8_number_11 : decode cX8_number 11 = .ok (.iload_n 3, 1) := by decide +kernel
theorem dX8_number_12 : decode cX8_number 12 = .ok (.iload_n 1, 1) := by decide +kernel
theorem dX8_number_13 : decode cX8_number 13 = .ok (.if_icmp .ge 44, 3) := by decide +kernel
theorem dX8_number_16 : decode cX8_number 16 = .ok (.aload_n 0, 1) := by decide +kernel
theorem dX8_number_17 : decode cX8_number 17 = .ok (.invokevirtual 121, 3) := by decide +kernel
theorem dX8_number_20 : decode cX8_number 20 = .ok (.ifCond .eq 37, 3) := by decide +kernel
theorem dX8_number_23 : decode cX8_number 23 = .ok (.aload_n 0, 1) := by decide +kernel
theorem dX8_number_24 : decode cX8_number 24 = .ok (.invokevirtual 125, 3) := by decide +kernel
theorem dX8_number_27 : decode cX8_number 27 = .ok (.bipush 48, 2) := by decide +kernel
theorem dX8_number_29 : decode cX8_number 29 = .ok (.bipush 57, 2) := by decide +kernel
theorem dX8_number_31 : decode cX8_number 31 = .ok (.invokestatic 92, 3) := by decide +kernel
theorem dX8_number_34 : decode cX8_number 34 = .ok (.ifCond .eq 23, 3) := by decide +kernel
theorem dX8_number_37 : decode cX8_number 37 = .ok (.bipush 10, 2) := by decide +kernel
theorem dX8_number_39 : decode cX8_number 39 = .ok (.iload_n 2, 1) := by decide +kernel
theorem dX8_number_40 : decode cX8_number 40 = .ok (.imul, 1) := by decide +kernel
theorem dX8_number_41 : decode cX8_number 41 = .ok (.aload_n 0, 1) := by decide +kernel
theorem dX8_number_42 : decode cX8_number 42 = .ok (.bipush 48, 2) := by decide +kernel
theorem dX8_number_44 : decode cX8_number 44 = .ok (.bipush 10, 2) := by decide +kernel
theorem dX8_number_46 : decode cX8_number 46 = .ok (.invokevirtual 137, 3) := by decide +kernel
theorem dX8_number_49 : decode cX8_number 49 = .ok (.iadd, 1) := by decide +kernel
theorem dX8_number_50 : decode cX8_number 50 = .ok (.istore_n 2, 1) := by decide +kernel
theorem dX8_number_51 : decode cX8_number 51 = .ok (.iinc 3 1, 3) := by decide +kernel
theorem dX8_number_54 : decode cX8_number 54 = .ok (.goto (-43), 3) := by decide +kernel
theorem dX8_number_57 : decode cX8_number 57 = .ok (.iload_n 2, 1) := by decide +kernel
theorem dX8_number_58 : decode cX8_number 58 = .ok (.ireturn, 1) := by decide +kernel
noncomputable def p_X8_number_11 (F : Nat) (p1 : Int32) (x_length : Int32) (x_top : Int32) (n_read : Nat) (f_read : Nat → Int32) (Post : Int32 → (Int32 × Int32) → Prop) (n : Nat) : Int32 → Int32 → Int32 → Int32 → Prop := Nat.rec (motive := fun _ => Int32 → Int32 → Int32 → Int32 → Prop) (fun _ _ _ _ => False) (fun _ k11 => fun (y3_11 : Int32) (y2_11 : Int32) (x_at_11 : Int32) (x_wrong_11 : Int32) => ((p1 ≤ y3_11 → (Post y2_11 (x_at_11, x_wrong_11))) ∧ (¬ p1 ≤ y3_11 → (p_X8_fine F x_wrong_11 (fun (r_17 : Int32) => ((r_17 = 0 → (Post y2_11 (x_at_11, x_wrong_11))) ∧ (¬ r_17 = 0 → (p_X8_here F x_length x_top x_at_11 n_read f_read (fun (r_24 : Int32) => (p_X8_in F r_24 (48 : Int32) (57 : Int32) (fun (r_31 : Int32) => ((r_31 = 0 → (Post y2_11 (x_at_11, x_wrong_11))) ∧ (¬ r_31 = 0 → (p_X8_oneOf F (48 : Int32) (10 : Int32) x_length x_top x_at_11 x_wrong_11 n_read f_read (fun (r_46 : Int32) (u_46 : (Int32 × Int32)) => (k11 (y3_11 + (1 : Int32)) (((10 : Int32) * y2_11) + r_46) u_46.1 u_46.2)))))))))))))))) n
theorem p_X8_number_11_s (F : Nat) (p1 : Int32) (x_length : Int32) (x_top : Int32) (n_read : Nat) (f_read : Nat → Int32) (Post : Int32 → (Int32 × Int32) → Prop) (n : Nat) (y3_11 : Int32) (y2_11 : Int32) (x_at_11 : Int32) (x_wrong_11 : Int32) : p_X8_number_11 F p1 x_length x_top n_read f_read Post (n + 1) y3_11 y2_11 x_at_11 x_wrong_11 = ((p1 ≤ y3_11 → (Post y2_11 (x_at_11, x_wrong_11))) ∧ (¬ p1 ≤ y3_11 → (p_X8_fine F x_wrong_11 (fun (r_17 : Int32) => ((r_17 = 0 → (Post y2_11 (x_at_11, x_wrong_11))) ∧ (¬ r_17 = 0 → (p_X8_here F x_length x_top x_at_11 n_read f_read (fun (r_24 : Int32) => (p_X8_in F r_24 (48 : Int32) (57 : Int32) (fun (r_31 : Int32) => ((r_31 = 0 → (Post y2_11 (x_at_11, x_wrong_11))) ∧ (¬ r_31 = 0 → (p_X8_oneOf F (48 : Int32) (10 : Int32) x_length x_top x_at_11 x_wrong_11 n_read f_read (fun (r_46 : Int32) (u_46 : (Int32 × Int32)) => ((p_X8_number_11 F p1 x_length x_top n_read f_read Post n) (y3_11 + (1 : Int32)) (((10 : Int32) * y2_11) + r_46) u_46.1 u_46.2))))))))))))))) := rfl
def p_X8_number (F : Nat) (p1 : Int32) (x_length : Int32) (x_top : Int32) (x_at : Int32) (x_wrong : Int32) (n_read : Nat) (f_read : Nat → Int32) (Post : Int32 → (Int32 × Int32) → Prop) : Prop := (p_X8_oneOf F (48 : Int32) (10 : Int32) x_length x_top x_at x_wrong n_read f_read (fun (r_5 : Int32) (u_5 : (Int32 × Int32)) => (p_X8_number_11 F p1 x_length x_top n_read f_read Post F (1 : Int32) r_5 u_5.1 u_5.2)))
set_option maxHeartbeats 4000000 in
set_option maxRecDepth 100000 in
theorem c_X8_number (l : Launch) (D : va_G) (cT : Nat → ClassId) (F : Nat) (h : Nat) (p1 : Int32) (w_now : Value) (x_arches : Int32) (x_cats : Int32) (w_text : Value) (x_typed : Int32) (w_row : Value) (x_rowMany : Int32) (x_thrown : Int32) (q_read : Nat) (x_length : Int32) (x_top : Int32) (x_at : Int32) (x_wrong : Int32) (w_told : Value) (w_rule : Value) (w_otherRule : Value) (x_ruleSize : Int32) (x_isAsked : Int32) (w_asked : Value) (w_undos : Value) (x_undoMany : Int32) (w_aside : Value) (w_then : Value) (w_hold : Value) (x_dropped : Int32) (w_acts : Value) (w_guarded : Value) (w_train : Value) (x_trolleyEnd : Int32) (w_feltOf : Value) (w_feltBy : Value) (x_feltMany : Int32) (w_many : Value) (w_heardOf : Value) (w_heardBy : Value) (x_heardMany : Int32) (w_worth : Value) (x_drawn : Int32) (x_came : Int32) (w_kept : Value) (w_isKept : Value) (w_keptCame : Value) (n_read : Nat) (f_read : Nat → Int32) (Post : Int32 → (Int32 × Int32) → Prop) (hg : p_X8_number F p1 x_length x_top x_at x_wrong n_read f_read Post) : MWi l D cT yX8_number cX8_number 4 (some .int) 3 63 0 0 [.ref h, .int p1] [(h, oX8 w_now (.int x_arches) (.int x_cats) w_text (.int x_typed) w_row (.int x_rowMany) (.int x_thrown) (.ref q_read) (.int x_length) (.int x_top) (.int x_at) (.int x_wrong) w_told w_rule w_otherRule (.int x_ruleSize) (.int x_isAsked) w_asked w_undos (.int x_undoMany) w_aside w_then w_hold (.int x_dropped) w_acts w_guarded w_train (.int x_trolleyEnd) w_feltOf w_feltBy (.int x_feltMany) w_many w_heardOf w_heardBy (.int x_heardMany) w_worth (.int x_drawn) (.int x_came) w_kept w_isKept w_keptCame), (q_read, aB cT n_read f_read)] Post (fun (u : (Int32 × Int32)) => [(h, oX8 w_now (.int x_arches) (.int x_cats) w_text (.int x_typed) w_row (.int x_rowMany) (.int x_thrown) (.ref q_read) (.int x_length) (.int x_top) (.int u.1) (.int u.2) w_told w_rule w_otherRule (.int x_ruleSize) (.int x_isAsked) w_asked w_undos (.int x_undoMany) w_aside w_then w_hold (.int x_dropped) w_acts w_guarded w_train (.int x_trolleyEnd) w_feltOf w_feltBy (.int x_feltMany) w_many w_heardOf w_heardBy (.int x_heardMany) w_worth (.int x_drawn) (.int x_came) w_kept w_isKept w_keptCame), (q_read, aB cT n_read f_read)]) := by
  refine MWi.of (by decide) (Nat.le_of_ble_eq_true rfl) ?_
  intro p e s m below meth c A hA C0 hnm hr hP hD ls hl
  have hl : lv_has ls 4 [(0, .ref h), (1, .int p1)] := hl
  have hx := C0.x
  have hb := C0.b
  have hS : va_S A s.heap s.heap [] := va_S.rf
  have hP : va_P D cls9 [(h, oX8 w_now (.int x_arches) (.int x_cats) w_text (.int x_typed) w_row (.int x_rowMany) (.int x_thrown) (.ref q_read) (.int x_length) (.int x_top) (.int x_at) (.int x_wrong) w_told w_rule w_otherRule (.int x_ruleSize) (.int x_isAsked) w_asked w_undos (.int x_undoMany) w_aside w_then w_hold (.int x_dropped) w_acts w_guarded w_train (.int x_trolleyEnd) w_feltOf w_feltBy (.int x_feltMany) w_many w_heardOf w_heardBy (.int x_heardMany) w_worth (.int x_drawn) (.int x_came) w_kept w_isKept w_keptCame), (q_read, aB cT n_read f_read)] s.heap := hP
  have hD : va_D A [(h, oX8 w_now (.int x_arches) (.int x_cats) w_text (.int x_typed) w_row (.int x_rowMany) (.int x_thrown) (.ref q_read) (.int x_length) (.int x_top) (.int x_at) (.int x_wrong) w_told w_rule w_otherRule (.int x_ruleSize) (.int x_isAsked) w_asked w_undos (.int x_undoMany) w_aside w_then w_hold (.int x_dropped) w_acts w_guarded w_train (.int x_trolleyEnd) w_feltOf w_feltBy (.int x_feltMany) w_many w_heardOf w_heardBy (.int x_heardMany) w_worth (.int x_drawn) (.int x_came) w_kept w_isKept w_keptCame), (q_read, aB cT n_read f_read)] := hD
  have L11 : ∀ (n11 : Nat) (y3_11 : Int32) (y2_11 : Int32) (x_at_11 : Int32) (x_wrong_11 : Int32) (H : Heap) (locs : List Loc) (ls : Array Slot), p_X8_number_11 F p1 x_length x_top n_read f_read Post n11 y3_11 y2_11 x_at_11 x_wrong_11 → va_P D cls9 [(h, oX8 w_now (.int x_arches) (.int x_cats) w_text (.int x_typed) w_row (.int x_rowMany) (.int x_thrown) (.ref q_read) (.int x_length) (.int x_top) (.int x_at_11) (.int x_wrong_11) w_told w_rule w_otherRule (.int x_ruleSize) (.int x_isAsked) w_asked w_undos (.int x_undoMany) w_aside w_then w_hold (.int x_dropped) w_acts w_guarded w_train (.int x_trolleyEnd) w_feltOf w_feltBy (.int x_feltMany) w_many w_heardOf w_heardBy (.int x_heardMany) w_worth (.int x_drawn) (.int x_came) w_kept w_isKept w_keptCame), (q_read, aB cT n_read f_read)] H → va_D A [(h, oX8 w_now (.int x_arches) (.int x_cats) w_text (.int x_typed) w_row (.int x_rowMany) (.int x_thrown) (.ref q_read) (.int x_length) (.int x_top) (.int x_at_11) (.int x_wrong_11) w_told w_rule w_otherRule (.int x_ruleSize) (.int x_isAsked) w_asked w_undos (.int x_undoMany) w_aside w_then w_hold (.int x_dropped) w_acts w_guarded w_train (.int x_trolleyEnd) w_feltOf w_feltBy (.int x_feltMany) w_many w_heardOf w_heardBy (.int x_heardMany) w_worth (.int x_drawn) (.int x_came) w_kept w_isKept w_keptCame), (q_read, aB cT n_read f_read)] → va_S A s.heap H locs → lv_has ls 4 [(0, .ref h), (1, .int p1), (2, .int y2_11), (3, .int y3_11)] → W p l e (rmO 3 63 0 0) s m ([.ref h, .int p1] : List Value).toArray below meth c H locs 0 0 (MQ below (va_Qi Post (cB D A (fun (u : (Int32 × Int32)) => [(h, oX8 w_now (.int x_arches) (.int x_cats) w_text (.int x_typed) w_row (.int x_rowMany) (.int x_thrown) (.ref q_read) (.int x_length) (.int x_top) (.int u.1) (.int u.2) w_told w_rule w_otherRule (.int x_ruleSize) (.int x_isAsked) w_asked w_undos (.int x_undoMany) w_aside w_then w_hold (.int x_dropped) w_acts w_guarded w_train (.int x_trolleyEnd) w_feltOf w_feltBy (.int x_feltMany) w_many w_heardOf w_heardBy (.int x_heardMany) w_worth (.int x_drawn) (.int x_came) w_kept w_isKept w_keptCame), (q_read, aB cT n_read f_read)])) A) ([.ref h, .int p1] : List Value).toArray s 0 0 A) (F0 m 11 ls []) := by
    intro n11
    induction n11 with
    | zero =>
      intro y3_11 y2_11 x_at_11 x_wrong_11 H locs ls hg hP hD hS hl
      exact False.elim hg
    | succ n11 ih11 =>
      intro y3_11 y2_11 x_at_11 x_wrong_11 H locs ls hg hP hD hS hl
      rw [p_X8_number_11_s] at hg
      refine lv_iload_n hx hb dX8_number_11 rfl (lv_at hl 3 rfl) ?_
      refine lv_iload_n hx hb dX8_number_12 rfl (lv_at hl 1 rfl) ?_
      refine lv_icmp_ge (tgt := 57) hx hb dX8_number_13 (by decide) (fun c_13 => ?_) (fun c_13 => ?_)
      · have hg := hg.1 c_13
        refine lv_iload_n hx hb dX8_number_57 rfl (lv_at hl 2 rfl) ?_
        exact k_iret C0 hr (x_at_11, x_wrong_11) hg hP hD hS dX8_number_58
      have hg := hg.2 c_13
      refine lv_aload_n hx hb dX8_number_16 rfl (lv_at hl 0 rfl) ?_
      refine k_Vxi (rest := []) C0 lk_X8_121 (c_X8_fine l D cT F h w_now x_arches x_cats w_text x_typed w_row x_rowMany x_thrown (.ref q_read) x_length x_top x_at_11 x_wrong_11 w_told w_rule w_otherRule x_ruleSize x_isAsked w_asked w_undos x_undoMany w_aside w_then w_hold x_dropped w_acts w_guarded w_train x_trolleyEnd w_feltOf w_feltBy x_feltMany w_many w_heardOf w_heardBy x_heardMany w_worth x_drawn x_came w_kept w_isKept w_keptCame _ hg) hP hD [0] (by decide +kernel) rfl rfl rfl ⟨Nat.le_of_ble_eq_true rfl, Nat.le_of_ble_eq_true rfl⟩ rfl hl.1 rfl (Nat.le_of_ble_eq_true rfl) dX8_number_17 ⟨Nat.le_of_ble_eq_true rfl, Nat.le_of_ble_eq_true rfl⟩ (fun r_17 hg => ?_)
      refine lv_if_eq (tgt := 57) hx hb dX8_number_20 (by decide) (fun c_20 => ?_) (fun c_20 => ?_)
      · have hg := hg.1 c_20
        refine lv_iload_n hx hb dX8_number_57 rfl (lv_at hl 2 rfl) ?_
        exact k_iret C0 hr (x_at_11, x_wrong_11) hg hP hD hS dX8_number_58
      have hg := hg.2 c_20
      refine lv_aload_n hx hb dX8_number_23 rfl (lv_at hl 0 rfl) ?_
      refine k_Vxi (rest := []) C0 lk_X8_125 (c_X8_here l D cT F h w_now x_arches x_cats w_text x_typed w_row x_rowMany x_thrown q_read x_length x_top x_at_11 x_wrong_11 w_told w_rule w_otherRule x_ruleSize x_isAsked w_asked w_undos x_undoMany w_aside w_then w_hold x_dropped w_acts w_guarded w_train x_trolleyEnd w_feltOf w_feltBy x_feltMany w_many w_heardOf w_heardBy x_heardMany w_worth x_drawn x_came w_kept w_isKept w_keptCame n_read f_read _ hg) hP hD [0, 1] (by decide +kernel) rfl rfl rfl ⟨Nat.le_of_ble_eq_true rfl, Nat.le_of_ble_eq_true rfl⟩ rfl hl.1 rfl (Nat.le_of_ble_eq_true rfl) dX8_number_24 ⟨Nat.le_of_ble_eq_true rfl, Nat.le_of_ble_eq_true rfl⟩ (fun r_24 hg => ?_)
      refine lv_bipush (v := (48 : Int32)) hx hb dX8_number_27 (by decide) ?_
      refine lv_bipush (v := (57 : Int32)) hx hb dX8_number_29 (by decide) ?_
      refine k_Sxi (rest := []) C0 lk_X8_92 (c_X8_in l D cT F r_24 (48 : Int32) (57 : Int32) _ hg) hP hD [] (by decide +kernel) rfl ⟨Nat.le_of_ble_eq_true rfl, Nat.le_of_ble_eq_true rfl⟩ rfl hl.1 rfl (Nat.le_of_ble_eq_true rfl) dX8_number_31 ⟨Nat.le_of_ble_eq_true rfl, Nat.le_of_ble_eq_true rfl⟩ (fun r_31 hg => ?_)
      refine lv_if_eq (tgt := 57) hx hb dX8_number_34 (by decide) (fun c_34 => ?_) (fun c_34 => ?_)
      · have hg := hg.1 c_34
        refine lv_iload_n hx hb dX8_number_57 rfl (lv_at hl 2 rfl) ?_
        exact k_iret C0 hr (x_at_11, x_wrong_11) hg hP hD hS dX8_number_58
      have hg := hg.2 c_34
      refine lv_bipush (v := (10 : Int32)) hx hb dX8_number_37 (by decide) ?_
      refine lv_iload_n hx hb dX8_number_39 rfl (lv_at hl 2 rfl) ?_
      refine lv_imul hx hb dX8_number_40 ?_
      refine lv_aload_n hx hb dX8_number_41 rfl (lv_at hl 0 rfl) ?_
      refine lv_bipush (v := (48 : Int32)) hx hb dX8_number_42 (by decide) ?_
      refine lv_bipush (v := (10 : Int32)) hx hb dX8_number_44 (by decide) ?_
      refine k_Vi (rest := [.int ((10 : Int32) * y2_11)]) (wr := []) (w2 := fun u_46 => [(h, oX8 w_now (.int x_arches) (.int x_cats) w_text (.int x_typed) w_row (.int x_rowMany) (.int x_thrown) (.ref q_read) (.int x_length) (.int x_top) (.int u_46.1) (.int u_46.2) w_told w_rule w_otherRule (.int x_ruleSize) (.int x_isAsked) w_asked w_undos (.int x_undoMany) w_aside w_then w_hold (.int x_dropped) w_acts w_guarded w_train (.int x_trolleyEnd) w_feltOf w_feltBy (.int x_feltMany) w_many w_heardOf w_heardBy (.int x_heardMany) w_worth (.int x_drawn) (.int x_came) w_kept w_isKept w_keptCame), (q_read, aB cT n_read f_read)]) C0 lk_X8_137 (c_X8_oneOf l D cT F h (48 : Int32) (10 : Int32) w_now x_arches x_cats w_text x_typed w_row x_rowMany x_thrown q_read x_length x_top x_at_11 x_wrong_11 w_told w_rule w_otherRule x_ruleSize x_isAsked w_asked w_undos x_undoMany w_aside w_then w_hold x_dropped w_acts w_guarded w_train x_trolleyEnd w_feltOf w_feltBy x_feltMany w_many w_heardOf w_heardBy x_heardMany w_worth x_drawn x_came w_kept w_isKept w_keptCame n_read f_read _ hg) hP hD hS hA [0, 1] [] (by decide +kernel) rfl rfl (fun _ => rfl) rfl rfl ⟨Nat.le_of_ble_eq_true rfl, Nat.le_of_ble_eq_true rfl⟩ rfl hl.1 rfl (Nat.le_of_ble_eq_true rfl) dX8_number_46 ⟨Nat.le_of_ble_eq_true rfl, Nat.le_of_ble_eq_true rfl⟩ ?_
      intro r_46 u_46 H locs hg hP hD hS
      refine lv_iadd hx hb dX8_number_49 ?_
      refine lv_istore_n (lv' := [(2, .int (((10 : Int32) * y2_11) + r_46)), (0, .ref h), (1, .int p1), (3, .int y3_11)]) hx hb dX8_number_50 rfl hl (by decide) rfl (fun ls hl => ?_)
      refine lv_iinc (v := (y3_11 + (1 : Int32))) (lv' := [(3, .int (y3_11 + (1 : Int32))), (2, .int (((10 : Int32) * y2_11) + r_46)), (0, .ref h), (1, .int p1)]) hx hb dX8_number_51 hl (k := 3) rfl rfl (by decide) rfl (fun ls hl => ?_)
      refine lv_goto (tgt := 11) hx hb dX8_number_54 (by decide) ?_
      exact ih11 (y3_11 + (1 : Int32)) (((10 : Int32) * y2_11) + r_46) u_46.1 u_46.2 _ _ _ hg hP hD hS (lv_sub hl [2, 3, 1, 0] rfl)
  unfold p_X8_number at hg
  refine lv_aload_n hx hb dX8_number_0 rfl (lv_at hl 0 rfl) ?_
  refine lv_bipush (v := (48 : Int32)) hx hb dX8_number_1 (by decide) ?_
  refine lv_bipush (v := (10 : Int32)) hx hb dX8_number_3 (by decide) ?_
  refine k_Vi (rest := []) (wr := []) (w2 := fun u_5 => [(h, oX8 w_now (.int x_arches) (.int x_cats) w_text (.int x_typed) w_row (.int x_rowMany) (.int x_thrown) (.ref q_read) (.int x_length) (.int x_top) (.int u_5.1) (.int u_5.2) w_told w_rule w_otherRule (.int x_ruleSize) (.int x_isAsked) w_asked w_undos (.int x_undoMany) w_aside w_then w_hold (.int x_dropped) w_acts w_guarded w_train (.int x_trolleyEnd) w_feltOf w_feltBy (.int x_feltMany) w_many w_heardOf w_heardBy (.int x_heardMany) w_worth (.int x_drawn) (.int x_came) w_kept w_isKept w_keptCame), (q_read, aB cT n_read f_read)]) C0 lk_X8_137 (c_X8_oneOf l D cT F h (48 : Int32) (10 : Int32) w_now x_arches x_cats w_text x_typed w_row x_rowMany x_thrown q_read x_length x_top x_at x_wrong w_told w_rule w_otherRule x_ruleSize x_isAsked w_asked w_undos x_undoMany w_aside w_then w_hold x_dropped w_acts w_guarded w_train x_trolleyEnd w_feltOf w_feltBy x_feltMany w_many w_heardOf w_heardBy x_heardMany w_worth x_drawn x_came w_kept w_isKept w_keptCame n_read f_read _ hg) hP hD hS hA [0, 1] [] (by decide +kernel) rfl rfl (fun _ => rfl) rfl rfl ⟨Nat.le_of_ble_eq_true rfl, Nat.le_of_ble_eq_true rfl⟩ rfl hl.1 rfl (Nat.le_of_ble_eq_true rfl) dX8_number_5 ⟨Nat.le_of_ble_eq_true rfl, Nat.le_of_ble_eq_true rfl⟩ ?_
  intro r_5 u_5 H locs hg hP hD hS
  refine lv_istore_n (lv' := [(2, .int r_5), (0, .ref h), (1, .int p1)]) hx hb dX8_number_8 rfl hl (by decide) rfl (fun ls hl => ?_)
  refine lv_iconst (v := (1 : Int32)) hx hb dX8_number_9 (by decide) ?_
  refine lv_istore_n (lv' := [(3, .int (1 : Int32)), (2, .int r_5), (0, .ref h), (1, .int p1)]) hx hb dX8_number_10 rfl hl (by decide) rfl (fun ls hl => ?_)
  exact L11 F (1 : Int32) r_5 u_5.1 u_5.2 _ _ _ hg hP hD hS (lv_sub hl [2, 3, 1, 0] rfl)
theorem dX8_wasRight_0 : decode cX8_wasRight 0 = .ok (.aload_n 0, 1) := by decide +kernel
theorem dX8_wasRight_1 : decode cX8_wasRight 1 = .ok (.getfield 111, 3) := by decide +kernel
theorem dX8_wasRight_4 : decode cX8_wasRight 4 = .ok (.aload_n 0, 1) := by decide +kernel
theorem dX8_wasRight_5 : decode cX8_wasRight 5 = .ok (.getfield 105, 3) := by decide +kernel
theorem dX8_wasRight_8 : decode cX8_wasRight 8 = .ok (.if_icmp .ge 11, 3) := by decide +kernel
theorem dX8_wasRight_11 : decode cX8_wasRight 11 = .ok (.aload_n 0, 1) := by decide +kernel
theorem dX8_wasRight_12 : decode cX8_wasRight 12 = .ok (.aload_n 0, 1) := by decide +kernel
theorem dX8_wasRight_13 : decode cX8_wasRight 13 = .ok (.getfield 111, 3) := by decide +kernel
theorem dX8_wasRight_16 : decode cX8_wasRight 16 = .ok (.invokevirtual 133, 3) := by decide +kernel
theorem dX8_wasRight_19 : decode cX8_wasRight 19 = .ok (.aload_n 0, 1) := by decide +kernel
theorem dX8_wasRight_20 : decode cX8_wasRight 20 = .ok (.invokevirtual 121, 3) := by decide +kernel
theorem dX8_wasRight_23 : decode cX8_wasRight 23 = .ok (.ireturn, 1) := by decide +kernel
def p_X8_wasRight_19 (F : Nat) (Post : Int32 → Int32 → Prop) (x_wrong_19 : Int32) : Prop := (p_X8_fine F x_wrong_19 (fun (r_20 : Int32) => ((r_20 = 0 ∨ r_20 = 1) ∧ (Post r_20 x_wrong_19))))
def p_X8_wasRight (F : Nat) (x_length : Int32) (x_at : Int32) (x_wrong : Int32) (Post : Int32 → Int32 → Prop) : Prop := ((x_length ≤ x_at → (p_X8_wasRight_19 F Post x_wrong)) ∧ (¬ x_length ≤ x_at → (p_X8_fault F x_at x_wrong (fun (u_16 : Int32) => (p_X8_wasRight_19 F Post u_16)))))
set_option maxHeartbeats 4000000 in
set_option maxRecDepth 100000 in
theorem c_X8_wasRight (l : Launch) (D : va_G) (cT : Nat → ClassId) (F : Nat) (h : Nat) (w_now : Value) (x_arches : Int32) (x_cats : Int32) (w_text : Value) (x_typed : Int32) (w_row : Value) (x_rowMany : Int32) (x_thrown : Int32) (w_read : Value) (x_length : Int32) (x_top : Int32) (x_at : Int32) (x_wrong : Int32) (w_told : Value) (w_rule : Value) (w_otherRule : Value) (x_ruleSize : Int32) (x_isAsked : Int32) (w_asked : Value) (w_undos : Value) (x_undoMany : Int32) (w_aside : Value) (w_then : Value) (w_hold : Value) (x_dropped : Int32) (w_acts : Value) (w_guarded : Value) (w_train : Value) (x_trolleyEnd : Int32) (w_feltOf : Value) (w_feltBy : Value) (x_feltMany : Int32) (w_many : Value) (w_heardOf : Value) (w_heardBy : Value) (x_heardMany : Int32) (w_worth : Value) (x_drawn : Int32) (x_came : Int32) (w_kept : Value) (w_isKept : Value) (w_keptCame : Value) (Post : Int32 → Int32 → Prop) (hg : p_X8_wasRight F x_length x_at x_wrong Post) : MWi l D cT yX8_wasRight cX8_wasRight 1 (some .boolean) 2 41 0 0 [.ref h] [(h, oX8 w_now (.int x_arches) (.int x_cats) w_text (.int x_typed) w_row (.int x_rowMany) (.int x_thrown) w_read (.int x_length) (.int x_top) (.int x_at) (.int x_wrong) w_told w_rule w_otherRule (.int x_ruleSize) (.int x_isAsked) w_asked w_undos (.int x_undoMany) w_aside w_then w_hold (.int x_dropped) w_acts w_guarded w_train (.int x_trolleyEnd) w_feltOf w_feltBy (.int x_feltMany) w_many w_heardOf w_heardBy (.int x_heardMany) w_worth (.int x_drawn) (.int x_came) w_kept w_isKept w_keptCame)] Post (fun (u : Int32) => [(h, oX8 w_now (.int x_arches) (.int x_cats) w_text (.int x_typed) w_row (.int x_rowMany) (.int x_thrown) w_read (.int x_length) (.int x_top) (.int x_at) (.int u) w_told w_rule w_otherRule (.int x_ruleSize) (.int x_isAsked) w_asked w_undos (.int x_undoMany) w_aside w_then w_hold (.int x_dropped) w_acts w_guarded w_train (.int x_trolleyEnd) w_feltOf w_feltBy (.int x_feltMany) w_many w_heardOf w_heardBy (.int x_heardMany) w_worth (.int x_drawn) (.int x_came) w_kept w_isKept w_keptCame)]) := by
  refine MWi.of (by decide) (Nat.le_of_ble_eq_true rfl) ?_
  intro p e s m below meth c A hA C0 hnm hr hP hD ls hl
  have hl : lv_has ls 1 [(0, .ref h)] := hl
  have hx := C0.x
  have hb := C0.b
  have hS : va_S A s.heap s.heap [] := va_S.rf
  have hP : va_P D cls9 [(h, oX8 w_now (.int x_arches) (.int x_cats) w_text (.int x_typed) w_row (.int x_rowMany) (.int x_thrown) w_read (.int x_length) (.int x_top) (.int x_at) (.int x_wrong) w_told w_rule w_otherRule (.int x_ruleSize) (.int x_isAsked) w_asked w_undos (.int x_undoMany) w_aside w_then w_hold (.int x_dropped) w_acts w_guarded w_train (.int x_trolleyEnd) w_feltOf w_feltBy (.int x_feltMany) w_many w_heardOf w_heardBy (.int x_heardMany) w_worth (.int x_drawn) (.int x_came) w_kept w_isKept w_keptCame)] s.heap := hP
  have hD : va_D A [(h, oX8 w_now (.int x_arches) (.int x_cats) w_text (.int x_typed) w_row (.int x_rowMany) (.int x_thrown) w_read (.int x_length) (.int x_top) (.int x_at) (.int x_wrong) w_told w_rule w_otherRule (.int x_ruleSize) (.int x_isAsked) w_asked w_undos (.int x_undoMany) w_aside w_then w_hold (.int x_dropped) w_acts w_guarded w_train (.int x_trolleyEnd) w_feltOf w_feltBy (.int x_feltMany) w_many w_heardOf w_heardBy (.int x_heardMany) w_worth (.int x_drawn) (.int x_came) w_kept w_isKept w_keptCame)] := hD
  have L19 : ∀ (x_wrong_19 : Int32) (H : Heap) (locs : List Loc) (ls : Array Slot), p_X8_wasRight_19 F Post x_wrong_19 → va_P D cls9 [(h, oX8 w_now (.int x_arches) (.int x_cats) w_text (.int x_typed) w_row (.int x_rowMany) (.int x_thrown) w_read (.int x_length) (.int x_top) (.int x_at) (.int x_wrong_19) w_told w_rule w_otherRule (.int x_ruleSize) (.int x_isAsked) w_asked w_undos (.int x_undoMany) w_aside w_then w_hold (.int x_dropped) w_acts w_guarded w_train (.int x_trolleyEnd) w_feltOf w_feltBy (.int x_feltMany) w_many w_heardOf w_heardBy (.int x_heardMany) w_worth (.int x_drawn) (.int x_came) w_kept w_isKept w_keptCame)] H → va_D A [(h, oX8 w_now (.int x_arches) (.int x_cats) w_text (.int x_typed) w_row (.int x_rowMany) (.int x_thrown) w_read (.int x_length) (.int x_top) (.int x_at) (.int x_wrong_19) w_told w_rule w_otherRule (.int x_ruleSize) (.int x_isAsked) w_asked w_undos (.int x_undoMany) w_aside w_then w_hold (.int x_dropped) w_acts w_guarded w_train (.int x_trolleyEnd) w_feltOf w_feltBy (.int x_feltMany) w_many w_heardOf w_heardBy (.int x_heardMany) w_worth (.int x_drawn) (.int x_came) w_kept w_isKept w_keptCame)] → va_S A s.heap H locs → lv_has ls 1 [(0, .ref h)] → W p l e (rmO 2 41 0 0) s m ([.ref h] : List Value).toArray below meth c H locs 0 0 (MQ below (va_Qi Post (cB D A (fun (u : Int32) => [(h, oX8 w_now (.int x_arches) (.int x_cats) w_text (.int x_typed) w_row (.int x_rowMany) (.int x_thrown) w_read (.int x_length) (.int x_top) (.int x_at) (.int u) w_told w_rule w_otherRule (.int x_ruleSize) (.int x_isAsked) w_asked w_undos (.int x_undoMany) w_aside w_then w_hold (.int x_dropped) w_acts w_guarded w_train (.int x_trolleyEnd) w_feltOf w_feltBy (.int x_feltMany) w_many w_heardOf w_heardBy (.int x_heardMany) w_worth (.int x_drawn) (.int x_came) w_kept w_isKept w_keptCame)])) A) ([.ref h] : List Value).toArray s 0 0 A) (F0 m 19 ls []) := by
    intro x_wrong_19 H locs ls hg hP hD hS hl
    unfold p_X8_wasRight_19 at hg
    refine lv_aload_n hx hb dX8_wasRight_19 rfl (lv_at hl 0 rfl) ?_
    refine k_Vxi (rest := []) C0 lk_X8_121 (c_X8_fine l D cT F h w_now x_arches x_cats w_text x_typed w_row x_rowMany x_thrown w_read x_length x_top x_at x_wrong_19 w_told w_rule w_otherRule x_ruleSize x_isAsked w_asked w_undos x_undoMany w_aside w_then w_hold x_dropped w_acts w_guarded w_train x_trolleyEnd w_feltOf w_feltBy x_feltMany w_many w_heardOf w_heardBy x_heardMany w_worth x_drawn x_came w_kept w_isKept w_keptCame _ hg) hP hD [0] (by decide +kernel) rfl rfl rfl ⟨Nat.le_of_ble_eq_true rfl, Nat.le_of_ble_eq_true rfl⟩ rfl hl.1 rfl (Nat.le_of_ble_eq_true rfl) dX8_wasRight_20 ⟨Nat.le_of_ble_eq_true rfl, Nat.le_of_ble_eq_true rfl⟩ (fun r_20 hg => ?_)
    obtain ⟨g_23, hg⟩ := hg
    exact k_zret C0 hr g_23 x_wrong_19 hg hP hD hS dX8_wasRight_23
  unfold p_X8_wasRight at hg
  refine lv_aload_n hx hb dX8_wasRight_0 rfl (lv_at hl 0 rfl) ?_
  refine gf_X8_111 C0 hP 0 rfl rfl dX8_wasRight_1 ?_
  refine lv_aload_n hx hb dX8_wasRight_4 rfl (lv_at hl 0 rfl) ?_
  refine gf_X8_105 C0 hP 0 rfl rfl dX8_wasRight_5 ?_
  refine lv_icmp_ge (tgt := 19) hx hb dX8_wasRight_8 (by decide) (fun c_8 => ?_) (fun c_8 => ?_)
  · have hg := hg.1 c_8
    exact L19 x_wrong _ _ _ hg hP hD hS hl
  have hg := hg.2 c_8
  refine lv_aload_n hx hb dX8_wasRight_11 rfl (lv_at hl 0 rfl) ?_
  refine lv_aload_n hx hb dX8_wasRight_12 rfl (lv_at hl 0 rfl) ?_
  refine gf_X8_111 C0 hP 0 rfl rfl dX8_wasRight_13 ?_
  refine k_Vv (rest := []) (wr := []) (w2 := fun u_16 => [(h, oX8 w_now (.int x_arches) (.int x_cats) w_text (.int x_typed) w_row (.int x_rowMany) (.int x_thrown) w_read (.int x_length) (.int x_top) (.int x_at) (.int u_16) w_told w_rule w_otherRule (.int x_ruleSize) (.int x_isAsked) w_asked w_undos (.int x_undoMany) w_aside w_then w_hold (.int x_dropped) w_acts w_guarded w_train (.int x_trolleyEnd) w_feltOf w_feltBy (.int x_feltMany) w_many w_heardOf w_heardBy (.int x_heardMany) w_worth (.int x_drawn) (.int x_came) w_kept w_isKept w_keptCame)]) C0 lk_X8_133 (c_X8_fault l D cT F h x_at w_now x_arches x_cats w_text x_typed w_row x_rowMany x_thrown w_read x_length x_top x_at x_wrong w_told w_rule w_otherRule x_ruleSize x_isAsked w_asked w_undos x_undoMany w_aside w_then w_hold x_dropped w_acts w_guarded w_train x_trolleyEnd w_feltOf w_feltBy x_feltMany w_many w_heardOf w_heardBy x_heardMany w_worth x_drawn x_came w_kept w_isKept w_keptCame _ hg) hP hD hS hA [0] [] (by decide +kernel) rfl rfl (fun _ => rfl) rfl rfl ⟨Nat.le_of_ble_eq_true rfl, Nat.le_of_ble_eq_true rfl⟩ rfl hl.1 rfl (Nat.le_of_ble_eq_true rfl) dX8_wasRight_16 ⟨Nat.le_of_ble_eq_true rfl, Nat.le_of_ble_eq_true rfl⟩ ?_
  intro u_16 H locs hg hP hD hS
  exact L19 u_16 _ _ _ hg hP hD hS hl
theorem dX8_toldAnew_0 : decode cX8_toldAnew 0 = .ok (.aload_n 0, 1) := by decide +kernel
theorem dX8_toldAnew_1 : decode cX8_toldAnew 1 = .ok (.iconst 0, 1) := by decide +kernel
theorem dX8_toldAnew_2 : decode cX8_toldAnew 2 = .ok (.putfield 141, 3) := by decide +kernel
theorem dX8_toldAnew_5 : decode cX8_toldAnew 5 = .ok (.aload_n 0, 1) := by decide +kernel
theorem dX8_toldAnew_6 : decode cX8_toldAnew 6 = .ok (.dup, 1) := by decide +kernel
theorem dX8_toldAnew_7 : decode cX8_toldAnew 7 = .ok (.getfield 144, 3) := by decide +kernel
theorem dX8_toldAnew_10 : decode cX8_toldAnew 10 = .ok (.iconst 1, 1) := by decide +kernel
theorem dX8_toldAnew_11 : decode cX8_toldAnew 11 = .ok (.iadd, 1) := by decide +kernel
theorem dX8_toldAnew_12 : decode cX8_toldAnew 12 = .ok (.putfield 144, 3) := by decide +kernel
theorem dX8_toldAnew_15 : decode cX8_toldAnew 15 = .ok (.return_, 1) := by decide +kernel
def p_X8_toldAnew (F : Nat) (x_came : Int32) (Post : (Int32 × Int32) → Prop) : Prop := (Post ((0 : Int32), (x_came + (1 : Int32))))
set_option maxHeartbeats 4000000 in
set_option maxRecDepth 100000 in
theorem c_X8_toldAnew (l : Launch) (D : va_G) (cT : Nat → ClassId) (F : Nat) (h : Nat) (w_now : Value) (x_arches : Int32) (x_cats : Int32) (w_text : Value) (x_typed : Int32) (w_row : Value) (x_rowMany : Int32) (x_thrown : Int32) (w_read : Value) (x_length : Int32) (x_top : Int32) (x_at : Int32) (x_wrong : Int32) (w_told : Value) (w_rule : Value) (w_otherRule : Value) (x_ruleSize : Int32) (x_isAsked : Int32) (w_asked : Value) (w_undos : Value) (x_undoMany : Int32) (w_aside : Value) (w_then : Value) (w_hold : Value) (x_dropped : Int32) (w_acts : Value) (w_guarded : Value) (w_train : Value) (x_trolleyEnd : Int32) (w_feltOf : Value) (w_feltBy : Value) (x_feltMany : Int32) (w_many : Value) (w_heardOf : Value) (w_heardBy : Value) (x_heardMany : Int32) (w_worth : Value) (x_drawn : Int32) (x_came : Int32) (w_kept : Value) (w_isKept : Value) (w_keptCame : Value) (Post : (Int32 × Int32) → Prop) (hg : p_X8_toldAnew F x_came Post) : MWv l D cT yX8_toldAnew cX8_toldAnew 1 none 0 0 0 0 [.ref h] [(h, oX8 w_now (.int x_arches) (.int x_cats) w_text (.int x_typed) w_row (.int x_rowMany) (.int x_thrown) w_read (.int x_length) (.int x_top) (.int x_at) (.int x_wrong) w_told w_rule w_otherRule (.int x_ruleSize) (.int x_isAsked) w_asked w_undos (.int x_undoMany) w_aside w_then w_hold (.int x_dropped) w_acts w_guarded w_train (.int x_trolleyEnd) w_feltOf w_feltBy (.int x_feltMany) w_many w_heardOf w_heardBy (.int x_heardMany) w_worth (.int x_drawn) (.int x_came) w_kept w_isKept w_keptCame)] Post (fun (u : (Int32 × Int32)) => [(h, oX8 w_now (.int x_arches) (.int x_cats) w_text (.int x_typed) w_row (.int x_rowMany) (.int x_thrown) w_read (.int x_length) (.int x_top) (.int x_at) (.int x_wrong) w_told w_rule w_otherRule (.int x_ruleSize) (.int x_isAsked) w_asked w_undos (.int u.1) w_aside w_then w_hold (.int x_dropped) w_acts w_guarded w_train (.int x_trolleyEnd) w_feltOf w_feltBy (.int x_feltMany) w_many w_heardOf w_heardBy (.int x_heardMany) w_worth (.int x_drawn) (.int u.2) w_kept w_isKept w_keptCame)]) := by
  refine MWv.of (by decide) (Nat.le_of_ble_eq_true rfl) ?_
  intro p e s m below meth c A hA C0 hnm hr hP hD ls hl
  have hl : lv_has ls 1 [(0, .ref h)] := hl
  have hx := C0.x
  have hb := C0.b
  have hS : va_S A s.heap s.heap [] := va_S.rf
  have hP : va_P D cls9 [(h, oX8 w_now (.int x_arches) (.int x_cats) w_text (.int x_typed) w_row (.int x_rowMany) (.int x_thrown) w_read (.int x_length) (.int x_top) (.int x_at) (.int x_wrong) w_told w_rule w_otherRule (.int x_ruleSize) (.int x_isAsked) w_asked w_undos (.int x_undoMany) w_aside w_then w_hold (.int x_dropped) w_acts w_guarded w_train (.int x_trolleyEnd) w_feltOf w_feltBy (.int x_feltMany) w_many w_heardOf w_heardBy (.int x_heardMany) w_worth (.int x_drawn) (.int x_came) w_kept w_isKept w_keptCame)] s.heap := hP
  have hD : va_D A [(h, oX8 w_now (.int x_arches) (.int x_cats) w_text (.int x_typed) w_row (.int x_rowMany) (.int x_thrown) w_read (.int x_length) (.int x_top) (.int x_at) (.int x_wrong) w_told w_rule w_otherRule (.int x_ruleSize) (.int x_isAsked) w_asked w_undos (.int x_undoMany) w_aside w_then w_hold (.int x_dropped) w_acts w_guarded w_train (.int x_trolleyEnd) w_feltOf w_feltBy (.int x_feltMany) w_many w_heardOf w_heardBy (.int x_heardMany) w_worth (.int x_drawn) (.int x_came) w_kept w_isKept w_keptCame)] := hD
  unfold p_X8_toldAnew at hg
  refine lv_aload_n hx hb dX8_toldAnew_0 rfl (lv_at hl 0 rfl) ?_
  refine lv_iconst (v := (0 : Int32)) hx hb dX8_toldAnew_1 (by decide) ?_
  refine pf_X8_141 C0 hP hD hS 0 rfl (Nat.le_of_ble_eq_true rfl) (ws2 := [(h, oX8 w_now (.int x_arches) (.int x_cats) w_text (.int x_typed) w_row (.int x_rowMany) (.int x_thrown) w_read (.int x_length) (.int x_top) (.int x_at) (.int x_wrong) w_told w_rule w_otherRule (.int x_ruleSize) (.int x_isAsked) w_asked w_undos (.int (0 : Int32)) w_aside w_then w_hold (.int x_dropped) w_acts w_guarded w_train (.int x_trolleyEnd) w_feltOf w_feltBy (.int x_feltMany) w_many w_heardOf w_heardBy (.int x_heardMany) w_worth (.int x_drawn) (.int x_came) w_kept w_isKept w_keptCame)]) rfl dX8_toldAnew_2 (fun H locs hP hD hS => ?_)
  refine lv_aload_n hx hb dX8_toldAnew_5 rfl (lv_at hl 0 rfl) ?_
  refine lv_dup hx hb dX8_toldAnew_6 rfl ?_
  refine gf_X8_144 C0 hP 0 rfl rfl dX8_toldAnew_7 ?_
  refine lv_iconst (v := (1 : Int32)) hx hb dX8_toldAnew_10 (by decide) ?_
  refine lv_iadd hx hb dX8_toldAnew_11 ?_
  refine pf_X8_144 C0 hP hD hS 0 rfl (Nat.le_of_ble_eq_true rfl) (ws2 := [(h, oX8 w_now (.int x_arches) (.int x_cats) w_text (.int x_typed) w_row (.int x_rowMany) (.int x_thrown) w_read (.int x_length) (.int x_top) (.int x_at) (.int x_wrong) w_told w_rule w_otherRule (.int x_ruleSize) (.int x_isAsked) w_asked w_undos (.int (0 : Int32)) w_aside w_then w_hold (.int x_dropped) w_acts w_guarded w_train (.int x_trolleyEnd) w_feltOf w_feltBy (.int x_feltMany) w_many w_heardOf w_heardBy (.int x_heardMany) w_worth (.int x_drawn) (.int (x_came + (1 : Int32))) w_kept w_isKept w_keptCame)]) rfl dX8_toldAnew_12 (fun H locs hP hD hS => ?_)
  exact k_vret C0 hr ((0 : Int32), (x_came + (1 : Int32))) hg hP hD hS dX8_toldAnew_15
theorem dX8_arches_0 : decode cX8_arches 0 = .ok (.aload_n 0, 1) := by decide +kernel
theorem dX8_arches_1 : decode cX8_arches 1 = .ok (.iconst 0, 1) := by decide +kernel
theorem dX8_arches_2 : decode cX8_arches 2 = .ok (.putfield 82, 3) := by decide +kernel
theorem dX8_arches_5 : decode cX8_arches 5 = .ok (.aload_n 0, 1) := by decide +kernel
theorem dX8_arches_6 : decode cX8_arches 6 = .ok (.bipush 11, 2) := by decide +kernel
theorem dX8_arches_8 : decode cX8_arches 8 = .ok (.invokevirtual 147, 3) := by decide +kernel
theorem dX8_arches_11 : decode cX8_arches 11 = .ok (.aload_n 0, 1) := by decide +kernel
theorem dX8_arches_12 : decode cX8_arches 12 = .ok (.getfield 105, 3) := by decide +kernel
theorem dX8_arches_15 : decode cX8_arches 15 = .ok (.ifCond .ne 5, 3) := by decide +kernel
theorem dX8_arches_18 : decode cX8_arches 18 = .ok (.iconst 0, 1) := by decide +kernel
theorem dX8_arches_19 : decode cX8_arches 19 = .ok (.ireturn, 1) := by decide +kernel
theorem dX8_arches_20 : decode cX8_arches 20 = .ok (.iconst 0, 1) := by decide +kernel
theorem dX8_arches_21 : decode cX8_arches 21 = .ok (.istore_n 1, 1) := by decide +kernel
theorem dX8_arches_22 : decode cX8_arches 22 = .ok (.iconst 1, 1) := by decide +kernel
theorem dX8_arches_23 : decode cX8_arches 23 = .ok (.istore_n 2, 1) := by decide +kernel
theorem dX8_arches_24 : decode cX8_arches 24 = .ok (.iload_n 2, 1) := by decide +kernel
theorem dX8_arches_25 : decode cX8_arches 25 = .ok (.ifCond .eq 59, 3) := by decide +kernel
theorem dX8_arches_28 : decode cX8_arches 28 = .ok (.aload_n 0, 1) := by decide +kernel
theorem dX8_arches_29 : decode cX8_arches 29 = .ok (.invokevirtual 121, 3) := by decide +kernel
theorem dX8_arches_32 : decode cX8_arches 32 = .ok (.ifCond .eq 52, 3) := by decide +kernel
theorem dX8_arches_35 : decode cX8_arches 35 = .ok (.aload_n 0, 1) := by decide +kernel
theorem dX8_arches_36 : decode cX8_arches 36 = .ok (.getfield 89, 3) := by decide +kernel
theorem dX8_arches_39 : decode cX8_arches 39 = .ok (.iload_n 1, 1) := by decide +kernel
theorem dX8_arches_40 : decode cX8_arches 40 = .ok (.iadd, 1) := by decide +kernel
theorem dX8_arches_41 : decode cX8_arches 41 = .ok (.bipush 6, 2) := by decide +kernel
theorem dX8_arches_43 : decode cX8_arches 43 = .ok (.if_icmp .ne 14, 3) := by decide +kernel
theorem dX8_arches_46 : decode cX8_arches 46 = .ok (.aload_n 0, 1) := by decide +kernel
theorem dX8_arches_47 : decode cX8_arches 47 = .ok (.aload_n 0, 1) := by decide +kernel
theorem dX8_arches_48 : decode cX8_arches 48 = .ok (.getfield 111, 3) := by decide +kernel
theorem dX8_arches_51 : decode cX8_arches 51 = .ok (.invokevirtual 133, 3) := by decide +kernel
theorem dX8_arches_54 : decode cX8_arches 54 = .ok (.goto 17, 3) := by decide +kernel
theorem dX8_arches_57 : decode cX8_arches 57 = .ok (.aload_n 0, 1) := by decide +kernel
theorem dX8_arches_58 : decode cX8_arches 58 = .ok (.getfield 21, 3) := by decide +kernel
theorem dX8_arches_61 : decode cX8_arches 61 = .ok (.iload_n 1, 1) := by decide +kernel
theorem dX8_arches_62 : decode cX8_arches 62 = .ok (.aload_n 0, 1) := by decide +kernel
theorem dX8_arches_63 : decode cX8_arches 63 = .ok (.bipush 48, 2) := by decide +kernel
theorem dX8_arches_65 : decode cX8_arches 65 = .ok (.bipush 10, 2) := by decide +kernel
theorem dX8_arches_67 : decode cX8_arches 67 = .ok (.invokevirtual 137, 3) := by decide +kernel
theorem dX8_arches_70 : decode cX8_arches 70 = .ok (.iastore, 1) := by decide +kernel
theorem dX8_arches_71 : decode cX8_arches 71 = .ok (.iinc 1 1, 3) := by decide +kernel
theorem dX8_arches_74 : decode cX8_arches 74 = .ok (.aload_n 0, 1) := by decide +kernel
theorem dX8_arches_75 : decode cX8_arches 75 = .ok (.bipush 59, 2) := by decide +kernel
theorem dX8_arches_77 : decode cX8_arches 77 = .ok (.invokevirtual 129, 3) := by decide +kernel
theorem dX8_arches_80 : decode cX8_arches 80 = .ok (.istore_n 2, 1) := by decide +kernel
theorem dX8_arches_81 : decode cX8_arches 81 = .ok (.goto (-57), 3) := by decide +kernel
theorem dX8_arches_84 : decode cX8_arches 84 = .ok (.aload_n 0, 1) := by decide +kernel
theorem dX8_arches_85 : decode cX8_arches 85 = .ok (.invokevirtual 150, 3) := by decide +kernel
theorem dX8_arches_88 : decode cX8_arches 88 = .ok (.ifCond .ne 10, 3) := by decide +kernel
theorem dX8_arches_91 : decode cX8_arches 91 = .ok (.iconst (-1), 1) := by decide +kernel
theorem dX8_arches_92 : decode cX8_arches 92 = .ok (.aload_n 0, 1) := by decide +kernel
theorem dX8_arches_93 : decode cX8_arches 93 = .ok (.getfield 114, 3) := by decide +kernel
theorem dX8_arches_96 : decode cX8_arches 96 = .ok (.isub, 1) := by decide +kernel
theorem dX8_arches_97 : decode cX8_arches 97 = .ok (.ireturn, 1) := by decide +kernel
theorem dX8_arches_98 : decode cX8_arches 98 = .ok (.iconst 0, 1) := by decide +kernel
theorem dX8_arches_99 : decode cX8_arches 99 = .ok (.istore_n 3, 1) := by decide +kernel
theorem dX8_arches_100 : decode cX8_arches 100 = .ok (.iload_n 3, 1) := by decide +kernel
theorem dX8_arches_101 : decode cX8_arches 101 = .ok (.iload_n 1, 1) := by decide +kernel
theorem dX8_arches_102 : decode cX8_arches 102 = .ok (.if_icmp .ge 47, 3) := by decide +kernel
theorem dX8_arches_105 : decode cX8_arches 105 = .ok (.aload_n 0, 1) := by decide +kernel
theorem dX8_arches_106 : decode cX8_arches 106 = .ok (.getfield 9, 3) := by decide +kernel
theorem dX8_arches_109 : decode cX8_arches 109 = .ok (.aload_n 0, 1) := by decide +kernel
theorem dX8_arches_110 : decode cX8_arches 110 = .ok (.getfield 89, 3) := by decide +kernel
theorem dX8_arches_113 : decode cX8_arches 113 = .ok (.aload_n 0, 1) := by decide +kernel
theorem dX8_arches_114 : decode cX8_arches 114 = .ok (.getfield 21, 3) := by decide +kernel
theorem dX8_arches_117 : decode cX8_arches 117 = .ok (.iload_n 3, 1) := by decide +kernel
theorem dX8_arches_118 : decode cX8_arches 118 = .ok (.iaload, 1) := by decide +kernel
theorem dX8_arches_119 : decode cX8_arches 119 = .ok (.iastore, 1) := by decide +kernel
theorem dX8_arches_120 : decode cX8_arches 120 = .ok (.aload_n 0, 1) := by decide +kernel
theorem dX8_arches_121 : decode cX8_arches 121 = .ok (.getfield 9, 3) := by decide +kernel
theorem dX8_arches_124 : decode cX8_arches 124 = .ok (.bipush 6, 2) := by decide +kernel
theorem dX8_arches_126 : decode cX8_arches 126 = .ok (.aload_n 0, 1) := by decide +kernel
theorem dX8_arches_127 : decode cX8_arches 127 = .ok (.getfield 89, 3) := by decide +kernel
theorem dX8_arches_130 : decode cX8_arches 130 = .ok (.iadd, 1) := by decide +kernel
theorem dX8_arches_131 : decode cX8_arches 131 = .ok (.iconst 0, 1) := by decide +kernel
theorem dX8_arches_132 : decode cX8_arches 132 = .ok (.iastore, 1) := by decide +kernel
theorem dX8_arches_133 : decode cX8_arches 133 = .ok (.aload_n 0, 1) := by decide +kernel
theorem dX8_arches_134 : decode cX8_arches 134 = .ok (.dup, 1) := by decide +kernel
theorem dX8_arches_135 : decode cX8_arches 135 = .ok (.getfield 89, 3) := by decide +kernel
theorem dX8_arches_138 : decode cX8_arches 138 = .ok (.iconst 1, 1) := by decide +kernel
theorem dX8_arches_139 : decode cX8_arches 139 = .ok (.iadd, 1) := by decide +kernel
theorem dX8_arches_140 : decode cX8_arches 140 = .ok (.putfield 89, 3) := by decide +kernel
theorem dX8_arches_143 : decode cX8_arches 143 = .ok (.iinc 3 1, 3) := by decide +kernel
theorem dX8_arches_146 : decode cX8_arches 146 = .ok (.goto (-46), 3) := by decide +kernel
theorem dX8_arches_149 : decode cX8_arches 149 = .ok (.aload_n 0, 1) := by decide +kernel
theorem dX8_arches_150 : decode cX8_arches 150 = .ok (.invokevirtual 153, 3) := by decide +kernel
theorem dX8_arches_153 : decode cX8_arches 153 = .ok (.iload_n 1, 1) := by decide +kernel
theorem dX8_arches_154 : decode cX8_arches 154 = .ok (.ireturn, 1) := by decide +kernel
noncomputable def p_X8_arches_100 (F : Nat) (x_came : Int32) (u_8 : (Int32 × Int32 × Int32 × Int32 × Int32)) (u_85 : Int32) (y1_24 : Int32) (x_at_24 : Int32) (f_told_24 : Nat → Int32) (Post : Int32 → (Int32 × Int32 × Int32 × Int32 × Int32 × Int32 × Int32 × Int32 × Int32 × (Nat → Int32) × (Nat → Int32)) → Prop) (n : Nat) : Int32 → Int32 → (Nat → Int32) → Prop := Nat.rec (motive := fun _ => Int32 → Int32 → (Nat → Int32) → Prop) (fun _ _ _ => False) (fun _ k100 => fun (y3_100 : Int32) (x_arches_100 : Int32) (f_now_100 : Nat → Int32) => ((y1_24 ≤ y3_100 → (p_X8_toldAnew F x_came (fun (u_150 : (Int32 × Int32)) => (Post y1_24 (x_arches_100, u_8.1, (0 : Int32), u_8.2.1, u_8.2.2.1, x_at_24, u_85, u_150.1, u_150.2, f_told_24, f_now_100))))) ∧ (¬ y1_24 ≤ y3_100 → (vp_in y3_100 24 ∧ (vp_in x_arches_100 47 ∧ (vp_in ((6 : Int32) + x_arches_100) 47 ∧ (k100 (y3_100 + (1 : Int32)) (x_arches_100 + (1 : Int32)) (upd (upd f_now_100 x_arches_100.toNatClampNeg (f_told_24 y3_100.toNatClampNeg)) ((6 : Int32) + x_arches_100).toNatClampNeg (0 : Int32))))))))) n
theorem p_X8_arches_100_s (F : Nat) (x_came : Int32) (u_8 : (Int32 × Int32 × Int32 × Int32 × Int32)) (u_85 : Int32) (y1_24 : Int32) (x_at_24 : Int32) (f_told_24 : Nat → Int32) (Post : Int32 → (Int32 × Int32 × Int32 × Int32 × Int32 × Int32 × Int32 × Int32 × Int32 × (Nat → Int32) × (Nat → Int32)) → Prop) (n : Nat) (y3_100 : Int32) (x_arches_100 : Int32) (f_now_100 : Nat → Int32) : p_X8_arches_100 F x_came u_8 u_85 y1_24 x_at_24 f_told_24 Post (n + 1) y3_100 x_arches_100 f_now_100 = ((y1_24 ≤ y3_100 → (p_X8_toldAnew F x_came (fun (u_150 : (Int32 × Int32)) => (Post y1_24 (x_arches_100, u_8.1, (0 : Int32), u_8.2.1, u_8.2.2.1, x_at_24, u_85, u_150.1, u_150.2, f_told_24, f_now_100))))) ∧ (¬ y1_24 ≤ y3_100 → (vp_in y3_100 24 ∧ (vp_in x_arches_100 47 ∧ (vp_in ((6 : Int32) + x_arches_100) 47 ∧ ((p_X8_arches_100 F x_came u_8 u_85 y1_24 x_at_24 f_told_24 Post n) (y3_100 + (1 : Int32)) (x_arches_100 + (1 : Int32)) (upd (upd f_now_100 x_arches_100.toNatClampNeg (f_told_24 y3_100.toNatClampNeg)) ((6 : Int32) + x_arches_100).toNatClampNeg (0 : Int32)))))))) := rfl
def p_X8_arches_84 (F : Nat) (x_arches : Int32) (x_undoMany : Int32) (x_came : Int32) (f_now : Nat → Int32) (u_8 : (Int32 × Int32 × Int32 × Int32 × Int32)) (y1_24 : Int32) (x_at_24 : Int32) (x_wrong_24 : Int32) (f_told_24 : Nat → Int32) (Post : Int32 → (Int32 × Int32 × Int32 × Int32 × Int32 × Int32 × Int32 × Int32 × Int32 × (Nat → Int32) × (Nat → Int32)) → Prop) : Prop := (p_X8_wasRight F u_8.2.1 x_at_24 x_wrong_24 (fun (r_85 : Int32) (u_85 : Int32) => ((¬ r_85 = 0 → (p_X8_arches_100 F x_came u_8 u_85 y1_24 x_at_24 f_told_24 Post F (0 : Int32) x_arches f_now)) ∧ (r_85 = 0 → (Post ((-1 : Int32) - u_85) (x_arches, u_8.1, (0 : Int32), u_8.2.1, u_8.2.2.1, x_at_24, u_85, x_undoMany, x_came, f_told_24, f_now))))))
def p_X8_arches_71 (F : Nat) (f_text : Nat → Int32) (u_8 : (Int32 × Int32 × Int32 × Int32 × Int32)) (y1_24 : Int32) (k24 : Int32 → Int32 → Int32 → Int32 → (Nat → Int32) → Prop) (Post : Int32 → (Int32 × Int32 × Int32 × Int32 × Int32 × Int32 × Int32 × Int32 × Int32 × (Nat → Int32) × (Nat → Int32)) → Prop) (x_at_71 : Int32) (x_wrong_71 : Int32) (f_told_71 : Nat → Int32) : Prop := (p_X8_passes F (59 : Int32) u_8.2.1 u_8.2.2.1 x_at_71 x_wrong_71 80 f_text (fun (r_77 : Int32) (u_77 : Int32) => (k24 r_77 (y1_24 + (1 : Int32)) u_77 x_wrong_71 f_told_71)))
noncomputable def p_X8_arches_24 (F : Nat) (x_arches : Int32) (x_undoMany : Int32) (x_came : Int32) (f_text : Nat → Int32) (f_now : Nat → Int32) (u_8 : (Int32 × Int32 × Int32 × Int32 × Int32)) (Post : Int32 → (Int32 × Int32 × Int32 × Int32 × Int32 × Int32 × Int32 × Int32 × Int32 × (Nat → Int32) × (Nat → Int32)) → Prop) (n : Nat) : Int32 → Int32 → Int32 → Int32 → (Nat → Int32) → Prop := Nat.rec (motive := fun _ => Int32 → Int32 → Int32 → Int32 → (Nat → Int32) → Prop) (fun _ _ _ _ _ => False) (fun _ k24 => fun (y2_24 : Int32) (y1_24 : Int32) (x_at_24 : Int32) (x_wrong_24 : Int32) (f_told_24 : Nat → Int32) => ((y2_24 = 0 → (p_X8_arches_84 F x_arches x_undoMany x_came f_now u_8 y1_24 x_at_24 x_wrong_24 f_told_24 Post )) ∧ (¬ y2_24 = 0 → (p_X8_fine F x_wrong_24 (fun (r_29 : Int32) => ((r_29 = 0 → (p_X8_arches_84 F x_arches x_undoMany x_came f_now u_8 y1_24 x_at_24 x_wrong_24 f_told_24 Post )) ∧ (¬ r_29 = 0 → ((¬ (x_arches + y1_24) = (6 : Int32) → (p_X8_oneOf F (48 : Int32) (10 : Int32) u_8.2.1 u_8.2.2.1 x_at_24 x_wrong_24 80 f_text (fun (r_67 : Int32) (u_67 : (Int32 × Int32)) => (vp_in y1_24 24 ∧ (p_X8_arches_71 F f_text u_8 y1_24 k24 Post u_67.1 u_67.2 (upd f_told_24 y1_24.toNatClampNeg r_67)))))) ∧ ((x_arches + y1_24) = (6 : Int32) → (p_X8_fault F x_at_24 x_wrong_24 (fun (u_51 : Int32) => (p_X8_arches_71 F f_text u_8 y1_24 k24 Post x_at_24 u_51 f_told_24)))))))))))) n
theorem p_X8_arches_24_s (F : Nat) (x_arches : Int32) (x_undoMany : Int32) (x_came : Int32) (f_text : Nat → Int32) (f_now : Nat → Int32) (u_8 : (Int32 × Int32 × Int32 × Int32 × Int32)) (Post : Int32 → (Int32 × Int32 × Int32 × Int32 × Int32 × Int32 × Int32 × Int32 × Int32 × (Nat → Int32) × (Nat → Int32)) → Prop) (n : Nat) (y2_24 : Int32) (y1_24 : Int32) (x_at_24 : Int32) (x_wrong_24 : Int32) (f_told_24 : Nat → Int32) : p_X8_arches_24 F x_arches x_undoMany x_came f_text f_now u_8 Post (n + 1) y2_24 y1_24 x_at_24 x_wrong_24 f_told_24 = ((y2_24 = 0 → (p_X8_arches_84 F x_arches x_undoMany x_came f_now u_8 y1_24 x_at_24 x_wrong_24 f_told_24 Post )) ∧ (¬ y2_24 = 0 → (p_X8_fine F x_wrong_24 (fun (r_29 : Int32) => ((r_29 = 0 → (p_X8_arches_84 F x_arches x_undoMany x_came f_now u_8 y1_24 x_at_24 x_wrong_24 f_told_24 Post )) ∧ (¬ r_29 = 0 → ((¬ (x_arches + y1_24) = (6 : Int32) → (p_X8_oneOf F (48 : Int32) (10 : Int32) u_8.2.1 u_8.2.2.1 x_at_24 x_wrong_24 80 f_text (fun (r_67 : Int32) (u_67 : (Int32 × Int32)) => (vp_in y1_24 24 ∧ (p_X8_arches_71 F f_text u_8 y1_24 (p_X8_arches_24 F x_arches x_undoMany x_came f_text f_now u_8 Post n) Post u_67.1 u_67.2 (upd f_told_24 y1_24.toNatClampNeg r_67)))))) ∧ ((x_arches + y1_24) = (6 : Int32) → (p_X8_fault F x_at_24 x_wrong_24 (fun (u_51 : Int32) => (p_X8_arches_71 F f_text u_8 y1_24 (p_X8_arches_24 F x_arches x_undoMany x_came f_text f_now u_8 Post n) Post x_at_24 u_51 f_told_24))))))))))) := rfl
def p_X8_arches (F : Nat) (x_arches : Int32) (x_typed : Int32) (x_undoMany : Int32) (x_came : Int32) (f_text : Nat → Int32) (f_told : Nat → Int32) (f_now : Nat → Int32) (Post : Int32 → (Int32 × Int32 × Int32 × Int32 × Int32 × Int32 × Int32 × Int32 × Int32 × (Nat → Int32) × (Nat → Int32)) → Prop) : Prop := (p_X8_beginText F (11 : Int32) x_typed (fun (u_8 : (Int32 × Int32 × Int32 × Int32 × Int32)) => ((¬ u_8.2.1 = 0 → (p_X8_arches_24 F x_arches x_undoMany x_came f_text f_now u_8 Post F (1 : Int32) (0 : Int32) u_8.2.2.2.1 u_8.2.2.2.2 f_told)) ∧ (u_8.2.1 = 0 → (Post (0 : Int32) (x_arches, u_8.1, (0 : Int32), u_8.2.1, u_8.2.2.1, u_8.2.2.2.1, u_8.2.2.2.2, x_undoMany, x_came, f_told, f_now))))))
set_option maxHeartbeats 4000000 in
set_option maxRecDepth 100000 in
theorem c_X8_arches (l : Launch) (D : va_G) (cT : Nat → ClassId) (F : Nat) (h : Nat) (q_now : Nat) (x_arches : Int32) (x_cats : Int32) (q_text : Nat) (x_typed : Int32) (w_row : Value) (x_rowMany : Int32) (x_thrown : Int32) (w_read : Value) (x_length : Int32) (x_top : Int32) (x_at : Int32) (x_wrong : Int32) (q_told : Nat) (w_rule : Value) (w_otherRule : Value) (x_ruleSize : Int32) (x_isAsked : Int32) (w_asked : Value) (w_undos : Value) (x_undoMany : Int32) (w_aside : Value) (w_then : Value) (w_hold : Value) (x_dropped : Int32) (w_acts : Value) (w_guarded : Value) (w_train : Value) (x_trolleyEnd : Int32) (w_feltOf : Value) (w_feltBy : Value) (x_feltMany : Int32) (w_many : Value) (w_heardOf : Value) (w_heardBy : Value) (x_heardMany : Int32) (w_worth : Value) (x_drawn : Int32) (x_came : Int32) (w_kept : Value) (w_isKept : Value) (w_keptCame : Value) (f_text : Nat → Int32) (f_told : Nat → Int32) (f_now : Nat → Int32) (Post : Int32 → (Int32 × Int32 × Int32 × Int32 × Int32 × Int32 × Int32 × Int32 × Int32 × (Nat → Int32) × (Nat → Int32)) → Prop) (hg : p_X8_arches F x_arches x_typed x_undoMany x_came f_text f_told f_now Post) : MWi l D cT yX8_arches cX8_arches 4 (some .int) 3 63 0 0 [.ref h] [(h, oX8 (.ref q_now) (.int x_arches) (.int x_cats) (.ref q_text) (.int x_typed) w_row (.int x_rowMany) (.int x_thrown) w_read (.int x_length) (.int x_top) (.int x_at) (.int x_wrong) (.ref q_told) w_rule w_otherRule (.int x_ruleSize) (.int x_isAsked) w_asked w_undos (.int x_undoMany) w_aside w_then w_hold (.int x_dropped) w_acts w_guarded w_train (.int x_trolleyEnd) w_feltOf w_feltBy (.int x_feltMany) w_many w_heardOf w_heardBy (.int x_heardMany) w_worth (.int x_drawn) (.int x_came) w_kept w_isKept w_keptCame), (q_text, aB cT 80 f_text), (q_told, aI cT 24 f_told), (q_now, aI cT 47 f_now)] Post (fun (u : (Int32 × Int32 × Int32 × Int32 × Int32 × Int32 × Int32 × Int32 × Int32 × (Nat → Int32) × (Nat → Int32))) => [(h, oX8 (.ref q_now) (.int u.1) (.int x_cats) (.ref q_text) (.int u.2.1) w_row (.int x_rowMany) (.int u.2.2.1) (.ref q_text) (.int u.2.2.2.1) (.int u.2.2.2.2.1) (.int u.2.2.2.2.2.1) (.int u.2.2.2.2.2.2.1) (.ref q_told) w_rule w_otherRule (.int x_ruleSize) (.int x_isAsked) w_asked w_undos (.int u.2.2.2.2.2.2.2.1) w_aside w_then w_hold (.int x_dropped) w_acts w_guarded w_train (.int x_trolleyEnd) w_feltOf w_feltBy (.int x_feltMany) w_many w_heardOf w_heardBy (.int x_heardMany) w_worth (.int x_drawn) (.int u.2.2.2.2.2.2.2.2.1) w_kept w_isKept w_keptCame), (q_text, aB cT 80 f_text), (q_told, aI cT 24 u.2.2.2.2.2.2.2.2.2.1), (q_now, aI cT 47 u.2.2.2.2.2.2.2.2.2.2)]) := by
  refine MWi.of (by decide) (Nat.le_of_ble_eq_true rfl) ?_
  intro p e s m below meth c A hA C0 hnm hr hP hD ls hl
  have hl : lv_has ls 4 [(0, .ref h)] := hl
  have hx := C0.x
  have hb := C0.b
  have hS : va_S A s.heap s.heap [] := va_S.rf
  have hP : va_P D cls9 [(h, oX8 (.ref q_now) (.int x_arches) (.int x_cats) (.ref q_text) (.int x_typed) w_row (.int x_rowMany) (.int x_thrown) w_read (.int x_length) (.int x_top) (.int x_at) (.int x_wrong) (.ref q_told) w_rule w_otherRule (.int x_ruleSize) (.int x_isAsked) w_asked w_undos (.int x_undoMany) w_aside w_then w_hold (.int x_dropped) w_acts w_guarded w_train (.int x_trolleyEnd) w_feltOf w_feltBy (.int x_feltMany) w_many w_heardOf w_heardBy (.int x_heardMany) w_worth (.int x_drawn) (.int x_came) w_kept w_isKept w_keptCame), (q_text, aB cT 80 f_text), (q_told, aI cT 24 f_told), (q_now, aI cT 47 f_now)] s.heap := hP
  have hD : va_D A [(h, oX8 (.ref q_now) (.int x_arches) (.int x_cats) (.ref q_text) (.int x_typed) w_row (.int x_rowMany) (.int x_thrown) w_read (.int x_length) (.int x_top) (.int x_at) (.int x_wrong) (.ref q_told) w_rule w_otherRule (.int x_ruleSize) (.int x_isAsked) w_asked w_undos (.int x_undoMany) w_aside w_then w_hold (.int x_dropped) w_acts w_guarded w_train (.int x_trolleyEnd) w_feltOf w_feltBy (.int x_feltMany) w_many w_heardOf w_heardBy (.int x_heardMany) w_worth (.int x_drawn) (.int x_came) w_kept w_isKept w_keptCame), (q_text, aB cT 80 f_text), (q_told, aI cT 24 f_told), (q_now, aI cT 47 f_now)] := hD
  have L100 : ∀ (u_8 : (Int32 × Int32 × Int32 × Int32 × Int32)) (u_85 : Int32) (y1_24 : Int32) (x_at_24 : Int32) (f_told_24 : Nat → Int32) (n100 : Nat) (y3_100 : Int32) (x_arches_100 : Int32) (f_now_100 : Nat → Int32) (H : Heap) (locs : List Loc) (ls : Array Slot), p_X8_arches_100 F x_came u_8 u_85 y1_24 x_at_24 f_told_24 Post n100 y3_100 x_arches_100 f_now_100 → va_P D cls9 [(h, oX8 (.ref q_now) (.int x_arches_100) (.int x_cats) (.ref q_text) (.int u_8.1) w_row (.int x_rowMany) (.int (0 : Int32)) (.ref q_text) (.int u_8.2.1) (.int u_8.2.2.1) (.int x_at_24) (.int u_85) (.ref q_told) w_rule w_otherRule (.int x_ruleSize) (.int x_isAsked) w_asked w_undos (.int x_undoMany) w_aside w_then w_hold (.int x_dropped) w_acts w_guarded w_train (.int x_trolleyEnd) w_feltOf w_feltBy (.int x_feltMany) w_many w_heardOf w_heardBy (.int x_heardMany) w_worth (.int x_drawn) (.int x_came) w_kept w_isKept w_keptCame), (q_text, aB cT 80 f_text), (q_told, aI cT 24 f_told_24), (q_now, aI cT 47 f_now_100)] H → va_D A [(h, oX8 (.ref q_now) (.int x_arches_100) (.int x_cats) (.ref q_text) (.int u_8.1) w_row (.int x_rowMany) (.int (0 : Int32)) (.ref q_text) (.int u_8.2.1) (.int u_8.2.2.1) (.int x_at_24) (.int u_85) (.ref q_told) w_rule w_otherRule (.int x_ruleSize) (.int x_isAsked) w_asked w_undos (.int x_undoMany) w_aside w_then w_hold (.int x_dropped) w_acts w_guarded w_train (.int x_trolleyEnd) w_feltOf w_feltBy (.int x_feltMany) w_many w_heardOf w_heardBy (.int x_heardMany) w_worth (.int x_drawn) (.int x_came) w_kept w_isKept w_keptCame), (q_text, aB cT 80 f_text), (q_told, aI cT 24 f_told_24), (q_now, aI cT 47 f_now_100)] → va_S A s.heap H locs → lv_has ls 4 [(0, .ref h), (1, .int y1_24), (3, .int y3_100)] → W p l e (rmO 3 63 0 0) s m ([.ref h] : List Value).toArray below meth c H locs 0 0 (MQ below (va_Qi Post (cB D A (fun (u : (Int32 × Int32 × Int32 × Int32 × Int32 × Int32 × Int32 × Int32 × Int32 × (Nat → Int32) × (Nat → Int32))) => [(h, oX8 (.ref q_now) (.int u.1) (.int x_cats) (.ref q_text) (.int u.2.1) w_row (.int x_rowMany) (.int u.2.2.1) (.ref q_text) (.int u.2.2.2.1) (.int u.2.2.2.2.1) (.int u.2.2.2.2.2.1) (.int u.2.2.2.2.2.2.1) (.ref q_told) w_rule w_otherRule (.int x_ruleSize) (.int x_isAsked) w_asked w_undos (.int u.2.2.2.2.2.2.2.1) w_aside w_then w_hold (.int x_dropped) w_acts w_guarded w_train (.int x_trolleyEnd) w_feltOf w_feltBy (.int x_feltMany) w_many w_heardOf w_heardBy (.int x_heardMany) w_worth (.int x_drawn) (.int u.2.2.2.2.2.2.2.2.1) w_kept w_isKept w_keptCame), (q_text, aB cT 80 f_text), (q_told, aI cT 24 u.2.2.2.2.2.2.2.2.2.1), (q_now, aI cT 47 u.2.2.2.2.2.2.2.2.2.2)])) A) ([.ref h] : List Value).toArray s 0 0 A) (F0 m 100 ls []) := by
    intro u_8 u_85 y1_24 x_at_24 f_told_24 n100
    induction n100 with
    | zero =>
      intro y3_100 x_arches_100 f_now_100 H locs ls hg hP hD hS hl
      exact False.elim hg
    | succ n100 ih100 =>
      intro y3_100 x_arches_100 f_now_100 H locs ls hg hP hD hS hl
      rw [p_X8_arches_100_s] at hg
      refine lv_iload_n hx hb dX8_arches_100 rfl (lv_at hl 2 rfl) ?_
      refine lv_iload_n hx hb dX8_arches_101 rfl (lv_at hl 1 rfl) ?_
      refine lv_icmp_ge (tgt := 149) hx hb dX8_arches_102 (by decide) (fun c_102 => ?_) (fun c_102 => ?_)
      · have hg := hg.1 c_102
        refine lv_aload_n hx hb dX8_arches_149 rfl (lv_at hl 0 rfl) ?_
        refine k_Vv (rest := []) (wr := [(q_text, aB cT 80 f_text), (q_told, aI cT 24 f_told_24), (q_now, aI cT 47 f_now_100)]) (w2 := fun u_150 => [(q_text, aB cT 80 f_text), (q_told, aI cT 24 f_told_24), (q_now, aI cT 47 f_now_100), (h, oX8 (.ref q_now) (.int x_arches_100) (.int x_cats) (.ref q_text) (.int u_8.1) w_row (.int x_rowMany) (.int (0 : Int32)) (.ref q_text) (.int u_8.2.1) (.int u_8.2.2.1) (.int x_at_24) (.int u_85) (.ref q_told) w_rule w_otherRule (.int x_ruleSize) (.int x_isAsked) w_asked w_undos (.int u_150.1) w_aside w_then w_hold (.int x_dropped) w_acts w_guarded w_train (.int x_trolleyEnd) w_feltOf w_feltBy (.int x_feltMany) w_many w_heardOf w_heardBy (.int x_heardMany) w_worth (.int x_drawn) (.int u_150.2) w_kept w_isKept w_keptCame)]) C0 lk_X8_153 (c_X8_toldAnew l D cT F h (.ref q_now) x_arches_100 x_cats (.ref q_text) u_8.1 w_row x_rowMany (0 : Int32) (.ref q_text) u_8.2.1 u_8.2.2.1 x_at_24 u_85 (.ref q_told) w_rule w_otherRule x_ruleSize x_isAsked w_asked w_undos x_undoMany w_aside w_then w_hold x_dropped w_acts w_guarded w_train x_trolleyEnd w_feltOf w_feltBy x_feltMany w_many w_heardOf w_heardBy x_heardMany w_worth x_drawn x_came w_kept w_isKept w_keptCame _ hg) hP hD hS hA [0] [1, 2, 3] (by decide +kernel) rfl rfl (fun _ => rfl) rfl rfl ⟨Nat.le_of_ble_eq_true rfl, Nat.le_of_ble_eq_true rfl⟩ rfl hl.1 rfl (Nat.le_of_ble_eq_true rfl) dX8_arches_150 ⟨Nat.le_of_ble_eq_true rfl, Nat.le_of_ble_eq_true rfl⟩ ?_
        intro u_150 H locs hg hP hD hS
        refine lv_iload_n hx hb dX8_arches_153 rfl (lv_at hl 1 rfl) ?_
        exact k_iret C0 hr (x_arches_100, u_8.1, (0 : Int32), u_8.2.1, u_8.2.2.1, x_at_24, u_85, u_150.1, u_150.2, f_told_24, f_now_100) hg (subP hP [3, 0, 1, 2] rfl) (hD.sub [3, 0, 1, 2] (nd2_ok _ (by decide +kernel)) rfl) hS dX8_arches_154
      have hg := hg.2 c_102
      refine lv_aload_n hx hb dX8_arches_105 rfl (lv_at hl 0 rfl) ?_
      refine gf_X8_9 C0 hP 0 rfl rfl dX8_arches_106 ?_
      refine lv_aload_n hx hb dX8_arches_109 rfl (lv_at hl 0 rfl) ?_
      refine gf_X8_89 C0 hP 0 rfl rfl dX8_arches_110 ?_
      refine lv_aload_n hx hb dX8_arches_113 rfl (lv_at hl 0 rfl) ?_
      refine gf_X8_21 C0 hP 0 rfl rfl dX8_arches_114 ?_
      refine lv_iload_n hx hb dX8_arches_117 rfl (lv_at hl 2 rfl) ?_
      obtain ⟨g_118, hg⟩ := hg
      refine k_iald C0 hP 2 rfl g_118 dX8_arches_118 ?_
      obtain ⟨g_119, hg⟩ := hg
      refine k_iast C0 hP hD hS 3 rfl g_119 (ws' := [(h, oX8 (.ref q_now) (.int x_arches_100) (.int x_cats) (.ref q_text) (.int u_8.1) w_row (.int x_rowMany) (.int (0 : Int32)) (.ref q_text) (.int u_8.2.1) (.int u_8.2.2.1) (.int x_at_24) (.int u_85) (.ref q_told) w_rule w_otherRule (.int x_ruleSize) (.int x_isAsked) w_asked w_undos (.int x_undoMany) w_aside w_then w_hold (.int x_dropped) w_acts w_guarded w_train (.int x_trolleyEnd) w_feltOf w_feltBy (.int x_feltMany) w_many w_heardOf w_heardBy (.int x_heardMany) w_worth (.int x_drawn) (.int x_came) w_kept w_isKept w_keptCame), (q_text, aB cT 80 f_text), (q_told, aI cT 24 f_told_24), (q_now, aI cT 47 (upd f_now_100 x_arches_100.toNatClampNeg (f_told_24 y3_100.toNatClampNeg)))]) rfl dX8_arches_119 (fun H locs hP hD hS => ?_)
      refine lv_aload_n hx hb dX8_arches_120 rfl (lv_at hl 0 rfl) ?_
      refine gf_X8_9 C0 hP 0 rfl rfl dX8_arches_121 ?_
      refine lv_bipush (v := (6 : Int32)) hx hb dX8_arches_124 (by decide) ?_
      refine lv_aload_n hx hb dX8_arches_126 rfl (lv_at hl 0 rfl) ?_
      refine gf_X8_89 C0 hP 0 rfl rfl dX8_arches_127 ?_
      refine lv_iadd hx hb dX8_arches_130 ?_
      refine lv_iconst (v := (0 : Int32)) hx hb dX8_arches_131 (by decide) ?_
      obtain ⟨g_132, hg⟩ := hg
      refine k_iast C0 hP hD hS 3 rfl g_132 (ws' := [(h, oX8 (.ref q_now) (.int x_arches_100) (.int x_cats) (.ref q_text) (.int u_8.1) w_row (.int x_rowMany) (.int (0 : Int32)) (.ref q_text) (.int u_8.2.1) (.int u_8.2.2.1) (.int x_at_24) (.int u_85) (.ref q_told) w_rule w_otherRule (.int x_ruleSize) (.int x_isAsked) w_asked w_undos (.int x_undoMany) w_aside w_then w_hold (.int x_dropped) w_acts w_guarded w_train (.int x_trolleyEnd) w_feltOf w_feltBy (.int x_feltMany) w_many w_heardOf w_heardBy (.int x_heardMany) w_worth (.int x_drawn) (.int x_came) w_kept w_isKept w_keptCame), (q_text, aB cT 80 f_text), (q_told, aI cT 24 f_told_24), (q_now, aI cT 47 (upd (upd f_now_100 x_arches_100.toNatClampNeg (f_told_24 y3_100.toNatClampNeg)) ((6 : Int32) + x_arches_100).toNatClampNeg (0 : Int32)))]) rfl dX8_arches_132 (fun H locs hP hD hS => ?_)
      refine lv_aload_n hx hb dX8_arches_133 rfl (lv_at hl 0 rfl) ?_
      refine lv_dup hx hb dX8_arches_134 rfl ?_
      refine gf_X8_89 C0 hP 0 rfl rfl dX8_arches_135 ?_
      refine lv_iconst (v := (1 : Int32)) hx hb dX8_arches_138 (by decide) ?_
      refine lv_iadd hx hb dX8_arches_139 ?_
      refine pf_X8_89 C0 hP hD hS 0 rfl (Nat.le_of_ble_eq_true rfl) (ws2 := [(h, oX8 (.ref q_now) (.int (x_arches_100 + (1 : Int32))) (.int x_cats) (.ref q_text) (.int u_8.1) w_row (.int x_rowMany) (.int (0 : Int32)) (.ref q_text) (.int u_8.2.1) (.int u_8.2.2.1) (.int x_at_24) (.int u_85) (.ref q_told) w_rule w_otherRule (.int x_ruleSize) (.int x_isAsked) w_asked w_undos (.int x_undoMany) w_aside w_then w_hold (.int x_dropped) w_acts w_guarded w_train (.int x_trolleyEnd) w_feltOf w_feltBy (.int x_feltMany) w_many w_heardOf w_heardBy (.int x_heardMany) w_worth (.int x_drawn) (.int x_came) w_kept w_isKept w_keptCame), (q_text, aB cT 80 f_text), (q_told, aI cT 24 f_told_24), (q_now, aI cT 47 (upd (upd f_now_100 x_arches_100.toNatClampNeg (f_told_24 y3_100.toNatClampNeg)) ((6 : Int32) + x_arches_100).toNatClampNeg (0 : Int32)))]) rfl dX8_arches_140 (fun H locs hP hD hS => ?_)
      refine lv_iinc (v := (y3_100 + (1 : Int32))) (lv' := [(3, .int (y3_100 + (1 : Int32))), (0, .ref h), (1, .int y1_24)]) hx hb dX8_arches_143 hl (k := 2) rfl rfl (by decide) rfl (fun ls hl => ?_)
      refine lv_goto (tgt := 100) hx hb dX8_arches_146 (by decide) ?_
      exact ih100 (y3_100 + (1 : Int32)) (x_arches_100 + (1 : Int32)) (upd (upd f_now_100 x_arches_100.toNatClampNeg (f_told_24 y3_100.toNatClampNeg)) ((6 : Int32) + x_arches_100).toNatClampNeg (0 : Int32)) _ _ _ hg hP hD hS (lv_sub hl [1, 2, 0] rfl)
  have L84 : ∀ (u_8 : (Int32 × Int32 × Int32 × Int32 × Int32)) (y1_24 : Int32) (x_at_24 : Int32) (x_wrong_24 : Int32) (f_told_24 : Nat → Int32) (H : Heap) (locs : List Loc) (ls : Array Slot), p_X8_arches_84 F x_arches x_undoMany x_came f_now u_8 y1_24 x_at_24 x_wrong_24 f_told_24 Post → va_P D cls9 [(h, oX8 (.ref q_now) (.int x_arches) (.int x_cats) (.ref q_text) (.int u_8.1) w_row (.int x_rowMany) (.int (0 : Int32)) (.ref q_text) (.int u_8.2.1) (.int u_8.2.2.1) (.int x_at_24) (.int x_wrong_24) (.ref q_told) w_rule w_otherRule (.int x_ruleSize) (.int x_isAsked) w_asked w_undos (.int x_undoMany) w_aside w_then w_hold (.int x_dropped) w_acts w_guarded w_train (.int x_trolleyEnd) w_feltOf w_feltBy (.int x_feltMany) w_many w_heardOf w_heardBy (.int x_heardMany) w_worth (.int x_drawn) (.int x_came) w_kept w_isKept w_keptCame), (q_text, aB cT 80 f_text), (q_told, aI cT 24 f_told_24), (q_now, aI cT 47 f_now)] H → va_D A [(h, oX8 (.ref q_now) (.int x_arches) (.int x_cats) (.ref q_text) (.int u_8.1) w_row (.int x_rowMany) (.int (0 : Int32)) (.ref q_text) (.int u_8.2.1) (.int u_8.2.2.1) (.int x_at_24) (.int x_wrong_24) (.ref q_told) w_rule w_otherRule (.int x_ruleSize) (.int x_isAsked) w_asked w_undos (.int x_undoMany) w_aside w_then w_hold (.int x_dropped) w_acts w_guarded w_train (.int x_trolleyEnd) w_feltOf w_feltBy (.int x_feltMany) w_many w_heardOf w_heardBy (.int x_heardMany) w_worth (.int x_drawn) (.int x_came) w_kept w_isKept w_keptCame), (q_text, aB cT 80 f_text), (q_told, aI cT 24 f_told_24), (q_now, aI cT 47 f_now)] → va_S A s.heap H locs → lv_has ls 4 [(0, .ref h), (1, .int y1_24)] → W p l e (rmO 3 63 0 0) s m ([.ref h] : List Value).toArray below meth c H locs 0 0 (MQ below (va_Qi Post (cB D A (fun (u : (Int32 × Int32 × Int32 × Int32 × Int32 × Int32 × Int32 × Int32 × Int32 × (Nat → Int32) × (Nat → Int32))) => [(h, oX8 (.ref q_now) (.int u.1) (.int x_cats) (.ref q_text) (.int u.2.1) w_row (.int x_rowMany) (.int u.2.2.1) (.ref q_text) (.int u.2.2.2.1) (.int u.2.2.2.2.1) (.int u.2.2.2.2.2.1) (.int u.2.2.2.2.2.2.1) (.ref q_told) w_rule w_otherRule (.int x_ruleSize) (.int x_isAsked) w_asked w_undos (.int u.2.2.2.2.2.2.2.1) w_aside w_then w_hold (.int x_dropped) w_acts w_guarded w_train (.int x_trolleyEnd) w_feltOf w_feltBy (.int x_feltMany) w_many w_heardOf w_heardBy (.int x_heardMany) w_worth (.int x_drawn) (.int u.2.2.2.2.2.2.2.2.1) w_kept w_isKept w_keptCame), (q_text, aB cT 80 f_text), (q_told, aI cT 24 u.2.2.2.2.2.2.2.2.2.1), (q_now, aI cT 47 u.2.2.2.2.2.2.2.2.2.2)])) A) ([.ref h] : List Value).toArray s 0 0 A) (F0 m 84 ls []) := by
    intro u_8 y1_24 x_at_24 x_wrong_24 f_told_24 H locs ls hg hP hD hS hl
    unfold p_X8_arches_84 at hg
    refine lv_aload_n hx hb dX8_arches_84 rfl (lv_at hl 0 rfl) ?_
    refine k_Vi (rest := []) (wr := [(q_text, aB cT 80 f_text), (q_told, aI cT 24 f_told_24), (q_now, aI cT 47 f_now)]) (w2 := fun u_85 => [(q_text, aB cT 80 f_text), (q_told, aI cT 24 f_told_24), (q_now, aI cT 47 f_now), (h, oX8 (.ref q_now) (.int x_arches) (.int x_cats) (.ref q_text) (.int u_8.1) w_row (.int x_rowMany) (.int (0 : Int32)) (.ref q_text) (.int u_8.2.1) (.int u_8.2.2.1) (.int x_at_24) (.int u_85) (.ref q_told) w_rule w_otherRule (.int x_ruleSize) (.int x_isAsked) w_asked w_undos (.int x_undoMany) w_aside w_then w_hold (.int x_dropped) w_acts w_guarded w_train (.int x_trolleyEnd) w_feltOf w_feltBy (.int x_feltMany) w_many w_heardOf w_heardBy (.int x_heardMany) w_worth (.int x_drawn) (.int x_came) w_kept w_isKept w_keptCame)]) C0 lk_X8_150 (c_X8_wasRight l D cT F h (.ref q_now) x_arches x_cats (.ref q_text) u_8.1 w_row x_rowMany (0 : Int32) (.ref q_text) u_8.2.1 u_8.2.2.1 x_at_24 x_wrong_24 (.ref q_told) w_rule w_otherRule x_ruleSize x_isAsked w_asked w_undos x_undoMany w_aside w_then w_hold x_dropped w_acts w_guarded w_train x_trolleyEnd w_feltOf w_feltBy x_feltMany w_many w_heardOf w_heardBy x_heardMany w_worth x_drawn x_came w_kept w_isKept w_keptCame _ hg) hP hD hS hA [0] [1, 2, 3] (by decide +kernel) rfl rfl (fun _ => rfl) rfl rfl ⟨Nat.le_of_ble_eq_true rfl, Nat.le_of_ble_eq_true rfl⟩ rfl hl.1 rfl (Nat.le_of_ble_eq_true rfl) dX8_arches_85 ⟨Nat.le_of_ble_eq_true rfl, Nat.le_of_ble_eq_true rfl⟩ ?_
    intro r_85 u_85 H locs hg hP hD hS
    refine lv_if_ne (tgt := 98) hx hb dX8_arches_88 (by decide) (fun c_88 => ?_) (fun c_88 => ?_)
    · have hg := hg.1 c_88
      refine lv_iconst (v := (0 : Int32)) hx hb dX8_arches_98 (by decide) ?_
      refine lv_istore_n (lv' := [(3, .int (0 : Int32)), (0, .ref h), (1, .int y1_24)]) hx hb dX8_arches_99 rfl hl (by decide) rfl (fun ls hl => ?_)
      exact L100 u_8 u_85 y1_24 x_at_24 f_told_24 F (0 : Int32) x_arches f_now _ _ _ hg (subP hP [3, 0, 1, 2] rfl) (hD.sub [3, 0, 1, 2] (nd2_ok _ (by decide +kernel)) rfl) hS (lv_sub hl [1, 2, 0] rfl)
    have hg := hg.2 c_88
    refine lv_iconst (v := (-1 : Int32)) hx hb dX8_arches_91 (by decide) ?_
    refine lv_aload_n hx hb dX8_arches_92 rfl (lv_at hl 0 rfl) ?_
    refine gf_X8_114 C0 hP 3 rfl rfl dX8_arches_93 ?_
    refine lv_isub hx hb dX8_arches_96 ?_
    exact k_iret C0 hr (x_arches, u_8.1, (0 : Int32), u_8.2.1, u_8.2.2.1, x_at_24, u_85, x_undoMany, x_came, f_told_24, f_now) hg (subP hP [3, 0, 1, 2] rfl) (hD.sub [3, 0, 1, 2] (nd2_ok _ (by decide +kernel)) rfl) hS dX8_arches_97
  have L24 : ∀ (u_8 : (Int32 × Int32 × Int32 × Int32 × Int32)) (n24 : Nat) (y2_24 : Int32) (y1_24 : Int32) (x_at_24 : Int32) (x_wrong_24 : Int32) (f_told_24 : Nat → Int32) (H : Heap) (locs : List Loc) (ls : Array Slot), p_X8_arches_24 F x_arches x_undoMany x_came f_text f_now u_8 Post n24 y2_24 y1_24 x_at_24 x_wrong_24 f_told_24 → va_P D cls9 [(h, oX8 (.ref q_now) (.int x_arches) (.int x_cats) (.ref q_text) (.int u_8.1) w_row (.int x_rowMany) (.int (0 : Int32)) (.ref q_text) (.int u_8.2.1) (.int u_8.2.2.1) (.int x_at_24) (.int x_wrong_24) (.ref q_told) w_rule w_otherRule (.int x_ruleSize) (.int x_isAsked) w_asked w_undos (.int x_undoMany) w_aside w_then w_hold (.int x_dropped) w_acts w_guarded w_train (.int x_trolleyEnd) w_feltOf w_feltBy (.int x_feltMany) w_many w_heardOf w_heardBy (.int x_heardMany) w_worth (.int x_drawn) (.int x_came) w_kept w_isKept w_keptCame), (q_text, aB cT 80 f_text), (q_told, aI cT 24 f_told_24), (q_now, aI cT 47 f_now)] H → va_D A [(h, oX8 (.ref q_now) (.int x_arches) (.int x_cats) (.ref q_text) (.int u_8.1) w_row (.int x_rowMany) (.int (0 : Int32)) (.ref q_text) (.int u_8.2.1) (.int u_8.2.2.1) (.int x_at_24) (.int x_wrong_24) (.ref q_told) w_rule w_otherRule (.int x_ruleSize) (.int x_isAsked) w_asked w_undos (.int x_undoMany) w_aside w_then w_hold (.int x_dropped) w_acts w_guarded w_train (.int x_trolleyEnd) w_feltOf w_feltBy (.int x_feltMany) w_many w_heardOf w_heardBy (.int x_heardMany) w_worth (.int x_drawn) (.int x_came) w_kept w_isKept w_keptCame), (q_text, aB cT 80 f_text), (q_told, aI cT 24 f_told_24), (q_now, aI cT 47 f_now)] → va_S A s.heap H locs → lv_has ls 4 [(0, .ref h), (1, .int y1_24), (2, .int y2_24)] → W p l e (rmO 3 63 0 0) s m ([.ref h] : List Value).toArray below meth c H locs 0 0 (MQ below (va_Qi Post (cB D A (fun (u : (Int32 × Int32 × Int32 × Int32 × Int32 × Int32 × Int32 × Int32 × Int32 × (Nat → Int32) × (Nat → Int32))) => [(h, oX8 (.ref q_now) (.int u.1) (.int x_cats) (.ref q_text) (.int u.2.1) w_row (.int x_rowMany) (.int u.2.2.1) (.ref q_text) (.int u.2.2.2.1) (.int u.2.2.2.2.1) (.int u.2.2.2.2.2.1) (.int u.2.2.2.2.2.2.1) (.ref q_told) w_rule w_otherRule (.int x_ruleSize) (.int x_isAsked) w_asked w_undos (.int u.2.2.2.2.2.2.2.1) w_aside w_then w_hold (.int x_dropped) w_acts w_guarded w_train (.int x_trolleyEnd) w_feltOf w_feltBy (.int x_feltMany) w_many w_heardOf w_heardBy (.int x_heardMany) w_worth (.int x_drawn) (.int u.2.2.2.2.2.2.2.2.1) w_kept w_isKept w_keptCame), (q_text, aB cT 80 f_text), (q_told, aI cT 24 u.2.2.2.2.2.2.2.2.2.1), (q_now, aI cT 47 u.2.2.2.2.2.2.2.2.2.2)])) A) ([.ref h] : List Value).toArray s 0 0 A) (F0 m 24 ls []) := by
    intro u_8 n24
    induction n24 with
    | zero =>
      intro y2_24 y1_24 x_at_24 x_wrong_24 f_told_24 H locs ls hg hP hD hS hl
      exact False.elim hg
    | succ n24 ih24 =>
      have L71 : ∀ (y1_24 : Int32) (x_at_71 : Int32) (x_wrong_71 : Int32) (f_told_71 : Nat → Int32) (H : Heap) (locs : List Loc) (ls : Array Slot), p_X8_arches_71 F f_text u_8 y1_24 (p_X8_arches_24 F x_arches x_undoMany x_came f_text f_now u_8 Post n24) Post x_at_71 x_wrong_71 f_told_71 → va_P D cls9 [(h, oX8 (.ref q_now) (.int x_arches) (.int x_cats) (.ref q_text) (.int u_8.1) w_row (.int x_rowMany) (.int (0 : Int32)) (.ref q_text) (.int u_8.2.1) (.int u_8.2.2.1) (.int x_at_71) (.int x_wrong_71) (.ref q_told) w_rule w_otherRule (.int x_ruleSize) (.int x_isAsked) w_asked w_undos (.int x_undoMany) w_aside w_then w_hold (.int x_dropped) w_acts w_guarded w_train (.int x_trolleyEnd) w_feltOf w_feltBy (.int x_feltMany) w_many w_heardOf w_heardBy (.int x_heardMany) w_worth (.int x_drawn) (.int x_came) w_kept w_isKept w_keptCame), (q_text, aB cT 80 f_text), (q_told, aI cT 24 f_told_71), (q_now, aI cT 47 f_now)] H → va_D A [(h, oX8 (.ref q_now) (.int x_arches) (.int x_cats) (.ref q_text) (.int u_8.1) w_row (.int x_rowMany) (.int (0 : Int32)) (.ref q_text) (.int u_8.2.1) (.int u_8.2.2.1) (.int x_at_71) (.int x_wrong_71) (.ref q_told) w_rule w_otherRule (.int x_ruleSize) (.int x_isAsked) w_asked w_undos (.int x_undoMany) w_aside w_then w_hold (.int x_dropped) w_acts w_guarded w_train (.int x_trolleyEnd) w_feltOf w_feltBy (.int x_feltMany) w_many w_heardOf w_heardBy (.int x_heardMany) w_worth (.int x_drawn) (.int x_came) w_kept w_isKept w_keptCame), (q_text, aB cT 80 f_text), (q_told, aI cT 24 f_told_71), (q_now, aI cT 47 f_now)] → va_S A s.heap H locs → lv_has ls 4 [(0, .ref h), (1, .int y1_24)] → W p l e (rmO 3 63 0 0) s m ([.ref h] : List Value).toArray below meth c H locs 0 0 (MQ below (va_Qi Post (cB D A (fun (u : (Int32 × Int32 × Int32 × Int32 × Int32 × Int32 × Int32 × Int32 × Int32 × (Nat → Int32) × (Nat → Int32))) => [(h, oX8 (.ref q_now) (.int u.1) (.int x_cats) (.ref q_text) (.int u.2.1) w_row (.int x_rowMany) (.int u.2.2.1) (.ref q_text) (.int u.2.2.2.1) (.int u.2.2.2.2.1) (.int u.2.2.2.2.2.1) (.int u.2.2.2.2.2.2.1) (.ref q_told) w_rule w_otherRule (.int x_ruleSize) (.int x_isAsked) w_asked w_undos (.int u.2.2.2.2.2.2.2.1) w_aside w_then w_hold (.int x_dropped) w_acts w_guarded w_train (.int x_trolleyEnd) w_feltOf w_feltBy (.int x_feltMany) w_many w_heardOf w_heardBy (.int x_heardMany) w_worth (.int x_drawn) (.int u.2.2.2.2.2.2.2.2.1) w_kept w_isKept w_keptCame), (q_text, aB cT 80 f_text), (q_told, aI cT 24 u.2.2.2.2.2.2.2.2.2.1), (q_now, aI cT 47 u.2.2.2.2.2.2.2.2.2.2)])) A) ([.ref h] : List Value).toArray s 0 0 A) (F0 m 71 ls []) := by
        intro y1_24 x_at_71 x_wrong_71 f_told_71 H locs ls hg hP hD hS hl
        unfold p_X8_arches_71 at hg
        refine lv_iinc (v := (y1_24 + (1 : Int32))) (lv' := [(1, .int (y1_24 + (1 : Int32))), (0, .ref h)]) hx hb dX8_arches_71 hl (k := 1) rfl rfl (by decide) rfl (fun ls hl => ?_)
        refine lv_aload_n hx hb dX8_arches_74 rfl (lv_at hl 1 rfl) ?_
        refine lv_bipush (v := (59 : Int32)) hx hb dX8_arches_75 (by decide) ?_
        refine k_Vi (rest := []) (wr := [(q_told, aI cT 24 f_told_71), (q_now, aI cT 47 f_now)]) (w2 := fun u_77 => [(q_told, aI cT 24 f_told_71), (q_now, aI cT 47 f_now), (h, oX8 (.ref q_now) (.int x_arches) (.int x_cats) (.ref q_text) (.int u_8.1) w_row (.int x_rowMany) (.int (0 : Int32)) (.ref q_text) (.int u_8.2.1) (.int u_8.2.2.1) (.int u_77) (.int x_wrong_71) (.ref q_told) w_rule w_otherRule (.int x_ruleSize) (.int x_isAsked) w_asked w_undos (.int x_undoMany) w_aside w_then w_hold (.int x_dropped) w_acts w_guarded w_train (.int x_trolleyEnd) w_feltOf w_feltBy (.int x_feltMany) w_many w_heardOf w_heardBy (.int x_heardMany) w_worth (.int x_drawn) (.int x_came) w_kept w_isKept w_keptCame), (q_text, aB cT 80 f_text)]) C0 lk_X8_129 (c_X8_passes l D cT F h (59 : Int32) (.ref q_now) x_arches x_cats (.ref q_text) u_8.1 w_row x_rowMany (0 : Int32) q_text u_8.2.1 u_8.2.2.1 x_at_71 x_wrong_71 (.ref q_told) w_rule w_otherRule x_ruleSize x_isAsked w_asked w_undos x_undoMany w_aside w_then w_hold x_dropped w_acts w_guarded w_train x_trolleyEnd w_feltOf w_feltBy x_feltMany w_many w_heardOf w_heardBy x_heardMany w_worth x_drawn x_came w_kept w_isKept w_keptCame 80 f_text _ hg) hP hD hS hA [0, 1] [2, 3] (by decide +kernel) rfl rfl (fun _ => rfl) rfl rfl ⟨Nat.le_of_ble_eq_true rfl, Nat.le_of_ble_eq_true rfl⟩ rfl hl.1 rfl (Nat.le_of_ble_eq_true rfl) dX8_arches_77 ⟨Nat.le_of_ble_eq_true rfl, Nat.le_of_ble_eq_true rfl⟩ ?_
        intro r_77 u_77 H locs hg hP hD hS
        refine lv_istore_n (lv' := [(2, .int r_77), (1, .int (y1_24 + (1 : Int32))), (0, .ref h)]) hx hb dX8_arches_80 rfl hl (by decide) rfl (fun ls hl => ?_)
        refine lv_goto (tgt := 24) hx hb dX8_arches_81 (by decide) ?_
        exact ih24 r_77 (y1_24 + (1 : Int32)) u_77 x_wrong_71 f_told_71 _ _ _ hg (subP hP [2, 3, 0, 1] rfl) (hD.sub [2, 3, 0, 1] (nd2_ok _ (by decide +kernel)) rfl) hS (lv_sub hl [2, 1, 0] rfl)
      intro y2_24 y1_24 x_at_24 x_wrong_24 f_told_24 H locs ls hg hP hD hS hl
      rw [p_X8_arches_24_s] at hg
      refine lv_iload_n hx hb dX8_arches_24 rfl (lv_at hl 2 rfl) ?_
      refine lv_if_eq (tgt := 84) hx hb dX8_arches_25 (by decide) (fun c_25 => ?_) (fun c_25 => ?_)
      · have hg := hg.1 c_25
        exact L84 u_8 y1_24 x_at_24 x_wrong_24 f_told_24 _ _ _ hg hP hD hS (lv_sub hl [0, 1] rfl)
      have hg := hg.2 c_25
      refine lv_aload_n hx hb dX8_arches_28 rfl (lv_at hl 0 rfl) ?_
      refine k_Vxi (rest := []) C0 lk_X8_121 (c_X8_fine l D cT F h (.ref q_now) x_arches x_cats (.ref q_text) u_8.1 w_row x_rowMany (0 : Int32) (.ref q_text) u_8.2.1 u_8.2.2.1 x_at_24 x_wrong_24 (.ref q_told) w_rule w_otherRule x_ruleSize x_isAsked w_asked w_undos x_undoMany w_aside w_then w_hold x_dropped w_acts w_guarded w_train x_trolleyEnd w_feltOf w_feltBy x_feltMany w_many w_heardOf w_heardBy x_heardMany w_worth x_drawn x_came w_kept w_isKept w_keptCame _ hg) hP hD [0] (by decide +kernel) rfl rfl rfl ⟨Nat.le_of_ble_eq_true rfl, Nat.le_of_ble_eq_true rfl⟩ rfl hl.1 rfl (Nat.le_of_ble_eq_true rfl) dX8_arches_29 ⟨Nat.le_of_ble_eq_true rfl, Nat.le_of_ble_eq_true rfl⟩ (fun r_29 hg => ?_)
      refine lv_if_eq (tgt := 84) hx hb dX8_arches_32 (by decide) (fun c_32 => ?_) (fun c_32 => ?_)
      · have hg := hg.1 c_32
        exact L84 u_8 y1_24 x_at_24 x_wrong_24 f_told_24 _ _ _ hg hP hD hS (lv_sub hl [0, 1] rfl)
      have hg := hg.2 c_32
      refine lv_aload_n hx hb dX8_arches_35 rfl (lv_at hl 0 rfl) ?_
      refine gf_X8_89 C0 hP 0 rfl rfl dX8_arches_36 ?_
      refine lv_iload_n hx hb dX8_arches_39 rfl (lv_at hl 1 rfl) ?_
      refine lv_iadd hx hb dX8_arches_40 ?_
      refine lv_bipush (v := (6 : Int32)) hx hb dX8_arches_41 (by decide) ?_
      refine lv_icmp_ne (tgt := 57) hx hb dX8_arches_43 (by decide) (fun c_43 => ?_) (fun c_43 => ?_)
      · have hg := hg.1 c_43
        refine lv_aload_n hx hb dX8_arches_57 rfl (lv_at hl 0 rfl) ?_
        refine gf_X8_21 C0 hP 0 rfl rfl dX8_arches_58 ?_
        refine lv_iload_n hx hb dX8_arches_61 rfl (lv_at hl 1 rfl) ?_
        refine lv_aload_n hx hb dX8_arches_62 rfl (lv_at hl 0 rfl) ?_
        refine lv_bipush (v := (48 : Int32)) hx hb dX8_arches_63 (by decide) ?_
        refine lv_bipush (v := (10 : Int32)) hx hb dX8_arches_65 (by decide) ?_
        refine k_Vi (rest := [.int y1_24, .ref q_told]) (wr := [(q_told, aI cT 24 f_told_24), (q_now, aI cT 47 f_now)]) (w2 := fun u_67 => [(q_told, aI cT 24 f_told_24), (q_now, aI cT 47 f_now), (h, oX8 (.ref q_now) (.int x_arches) (.int x_cats) (.ref q_text) (.int u_8.1) w_row (.int x_rowMany) (.int (0 : Int32)) (.ref q_text) (.int u_8.2.1) (.int u_8.2.2.1) (.int u_67.1) (.int u_67.2) (.ref q_told) w_rule w_otherRule (.int x_ruleSize) (.int x_isAsked) w_asked w_undos (.int x_undoMany) w_aside w_then w_hold (.int x_dropped) w_acts w_guarded w_train (.int x_trolleyEnd) w_feltOf w_feltBy (.int x_feltMany) w_many w_heardOf w_heardBy (.int x_heardMany) w_worth (.int x_drawn) (.int x_came) w_kept w_isKept w_keptCame), (q_text, aB cT 80 f_text)]) C0 lk_X8_137 (c_X8_oneOf l D cT F h (48 : Int32) (10 : Int32) (.ref q_now) x_arches x_cats (.ref q_text) u_8.1 w_row x_rowMany (0 : Int32) q_text u_8.2.1 u_8.2.2.1 x_at_24 x_wrong_24 (.ref q_told) w_rule w_otherRule x_ruleSize x_isAsked w_asked w_undos x_undoMany w_aside w_then w_hold x_dropped w_acts w_guarded w_train x_trolleyEnd w_feltOf w_feltBy x_feltMany w_many w_heardOf w_heardBy x_heardMany w_worth x_drawn x_came w_kept w_isKept w_keptCame 80 f_text _ hg) hP hD hS hA [0, 1] [2, 3] (by decide +kernel) rfl rfl (fun _ => rfl) rfl rfl ⟨Nat.le_of_ble_eq_true rfl, Nat.le_of_ble_eq_true rfl⟩ rfl hl.1 rfl (Nat.le_of_ble_eq_true rfl) dX8_arches_67 ⟨Nat.le_of_ble_eq_true rfl, Nat.le_of_ble_eq_true rfl⟩ ?_
        intro r_67 u_67 H locs hg hP hD hS
        obtain ⟨g_70, hg⟩ := hg
        refine k_iast C0 hP hD hS 0 rfl g_70 (ws' := [(q_told, aI cT 24 (upd f_told_24 y1_24.toNatClampNeg r_67)), (q_now, aI cT 47 f_now), (h, oX8 (.ref q_now) (.int x_arches) (.int x_cats) (.ref q_text) (.int u_8.1) w_row (.int x_rowMany) (.int (0 : Int32)) (.ref q_text) (.int u_8.2.1) (.int u_8.2.2.1) (.int u_67.1) (.int u_67.2) (.ref q_told) w_rule w_otherRule (.int x_ruleSize) (.int x_isAsked) w_asked w_undos (.int x_undoMany) w_aside w_then w_hold (.int x_dropped) w_acts w_guarded w_train (.int x_trolleyEnd) w_feltOf w_feltBy (.int x_feltMany) w_many w_heardOf w_heardBy (.int x_heardMany) w_worth (.int x_drawn) (.int x_came) w_kept w_isKept w_keptCame), (q_text, aB cT 80 f_text)]) rfl dX8_arches_70 (fun H locs hP hD hS => ?_)
        exact L71 y1_24 u_67.1 u_67.2 (upd f_told_24 y1_24.toNatClampNeg r_67) _ _ _ hg (subP hP [2, 3, 0, 1] rfl) (hD.sub [2, 3, 0, 1] (nd2_ok _ (by decide +kernel)) rfl) hS (lv_sub hl [0, 1] rfl)
      have hg := hg.2 c_43
      refine lv_aload_n hx hb dX8_arches_46 rfl (lv_at hl 0 rfl) ?_
      refine lv_aload_n hx hb dX8_arches_47 rfl (lv_at hl 0 rfl) ?_
      refine gf_X8_111 C0 hP 0 rfl rfl dX8_arches_48 ?_
      refine k_Vv (rest := []) (wr := [(q_text, aB cT 80 f_text), (q_told, aI cT 24 f_told_24), (q_now, aI cT 47 f_now)]) (w2 := fun u_51 => [(q_text, aB cT 80 f_text), (q_told, aI cT 24 f_told_24), (q_now, aI cT 47 f_now), (h, oX8 (.ref q_now) (.int x_arches) (.int x_cats) (.ref q_text) (.int u_8.1) w_row (.int x_rowMany) (.int (0 : Int32)) (.ref q_text) (.int u_8.2.1) (.int u_8.2.2.1) (.int x_at_24) (.int u_51) (.ref q_told) w_rule w_otherRule (.int x_ruleSize) (.int x_isAsked) w_asked w_undos (.int x_undoMany) w_aside w_then w_hold (.int x_dropped) w_acts w_guarded w_train (.int x_trolleyEnd) w_feltOf w_feltBy (.int x_feltMany) w_many w_heardOf w_heardBy (.int x_heardMany) w_worth (.int x_drawn) (.int x_came) w_kept w_isKept w_keptCame)]) C0 lk_X8_133 (c_X8_fault l D cT F h x_at_24 (.ref q_now) x_arches x_cats (.ref q_text) u_8.1 w_row x_rowMany (0 : Int32) (.ref q_text) u_8.2.1 u_8.2.2.1 x_at_24 x_wrong_24 (.ref q_told) w_rule w_otherRule x_ruleSize x_isAsked w_asked w_undos x_undoMany w_aside w_then w_hold x_dropped w_acts w_guarded w_train x_trolleyEnd w_feltOf w_feltBy x_feltMany w_many w_heardOf w_heardBy x_heardMany w_worth x_drawn x_came w_kept w_isKept w_keptCame _ hg) hP hD hS hA [0] [1, 2, 3] (by decide +kernel) rfl rfl (fun _ => rfl) rfl rfl ⟨Nat.le_of_ble_eq_true rfl, Nat.le_of_ble_eq_true rfl⟩ rfl hl.1 rfl (Nat.le_of_ble_eq_true rfl) dX8_arches_51 ⟨Nat.le_of_ble_eq_true rfl, Nat.le_of_ble_eq_true rfl⟩ ?_
      intro u_51 H locs hg hP hD hS
      refine lv_goto (tgt := 71) hx hb dX8_arches_54 (by decide) ?_
      exact L71 y1_24 x_at_24 u_51 f_told_24 _ _ _ hg (subP hP [3, 0, 1, 2] rfl) (hD.sub [3, 0, 1, 2] (nd2_ok _ (by decide +kernel)) rfl) hS (lv_sub hl [0, 1] rfl)
  unfold p_X8_arches at hg
  refine lv_aload_n hx hb dX8_arches_0 rfl (lv_at hl 0 rfl) ?_
  refine lv_iconst (v := (0 : Int32)) hx hb dX8_arches_1 (by decide) ?_
  refine pf_X8_82 C0 hP hD hS 0 rfl (Nat.le_of_ble_eq_true rfl) (ws2 := [(h, oX8 (.ref q_now) (.int x_arches) (.int x_cats) (.ref q_text) (.int x_typed) w_row (.int x_rowMany) (.int (0 : Int32)) w_read (.int x_length) (.int x_top) (.int x_at) (.int x_wrong) (.ref q_told) w_rule w_otherRule (.int x_ruleSize) (.int x_isAsked) w_asked w_undos (.int x_undoMany) w_aside w_then w_hold (.int x_dropped) w_acts w_guarded w_train (.int x_trolleyEnd) w_feltOf w_feltBy (.int x_feltMany) w_many w_heardOf w_heardBy (.int x_heardMany) w_worth (.int x_drawn) (.int x_came) w_kept w_isKept w_keptCame), (q_text, aB cT 80 f_text), (q_told, aI cT 24 f_told), (q_now, aI cT 47 f_now)]) rfl dX8_arches_2 (fun H locs hP hD hS => ?_)
  refine lv_aload_n hx hb dX8_arches_5 rfl (lv_at hl 0 rfl) ?_
  refine lv_bipush (v := (11 : Int32)) hx hb dX8_arches_6 (by decide) ?_
  refine k_Vv (rest := []) (wr := [(q_text, aB cT 80 f_text), (q_told, aI cT 24 f_told), (q_now, aI cT 47 f_now)]) (w2 := fun u_8 => [(q_text, aB cT 80 f_text), (q_told, aI cT 24 f_told), (q_now, aI cT 47 f_now), (h, oX8 (.ref q_now) (.int x_arches) (.int x_cats) (.ref q_text) (.int u_8.1) w_row (.int x_rowMany) (.int (0 : Int32)) (.ref q_text) (.int u_8.2.1) (.int u_8.2.2.1) (.int u_8.2.2.2.1) (.int u_8.2.2.2.2) (.ref q_told) w_rule w_otherRule (.int x_ruleSize) (.int x_isAsked) w_asked w_undos (.int x_undoMany) w_aside w_then w_hold (.int x_dropped) w_acts w_guarded w_train (.int x_trolleyEnd) w_feltOf w_feltBy (.int x_feltMany) w_many w_heardOf w_heardBy (.int x_heardMany) w_worth (.int x_drawn) (.int x_came) w_kept w_isKept w_keptCame)]) C0 lk_X8_147 (c_X8_beginText l D cT F h (11 : Int32) (.ref q_now) x_arches x_cats q_text x_typed w_row x_rowMany (0 : Int32) w_read x_length x_top x_at x_wrong (.ref q_told) w_rule w_otherRule x_ruleSize x_isAsked w_asked w_undos x_undoMany w_aside w_then w_hold x_dropped w_acts w_guarded w_train x_trolleyEnd w_feltOf w_feltBy x_feltMany w_many w_heardOf w_heardBy x_heardMany w_worth x_drawn x_came w_kept w_isKept w_keptCame _ hg) hP hD hS hA [0] [1, 2, 3] (by decide +kernel) rfl rfl (fun _ => rfl) rfl rfl ⟨Nat.le_of_ble_eq_true rfl, Nat.le_of_ble_eq_true rfl⟩ rfl hl.1 rfl (Nat.le_of_ble_eq_true rfl) dX8_arches_8 ⟨Nat.le_of_ble_eq_true rfl, Nat.le_of_ble_eq_true rfl⟩ ?_
  intro u_8 H locs hg hP hD hS
  refine lv_aload_n hx hb dX8_arches_11 rfl (lv_at hl 0 rfl) ?_
  refine gf_X8_105 C0 hP 3 rfl rfl dX8_arches_12 ?_
  refine lv_if_ne (tgt := 20) hx hb dX8_arches_15 (by decide) (fun c_15 => ?_) (fun c_15 => ?_)
  · have hg := hg.1 c_15
    refine lv_iconst (v := (0 : Int32)) hx hb dX8_arches_20 (by decide) ?_
    refine lv_istore_n (lv' := [(1, .int (0 : Int32)), (0, .ref h)]) hx hb dX8_arches_21 rfl hl (by decide) rfl (fun ls hl => ?_)
    refine lv_iconst (v := (1 : Int32)) hx hb dX8_arches_22 (by decide) ?_
    refine lv_istore_n (lv' := [(2, .int (1 : Int32)), (1, .int (0 : Int32)), (0, .ref h)]) hx hb dX8_arches_23 rfl hl (by decide) rfl (fun ls hl => ?_)
    exact L24 u_8 F (1 : Int32) (0 : Int32) u_8.2.2.2.1 u_8.2.2.2.2 f_told _ _ _ hg (subP hP [3, 0, 1, 2] rfl) (hD.sub [3, 0, 1, 2] (nd2_ok _ (by decide +kernel)) rfl) hS (lv_sub hl [2, 1, 0] rfl)
  have hg := hg.2 c_15
  refine lv_iconst (v := (0 : Int32)) hx hb dX8_arches_18 (by decide) ?_
  exact k_iret C0 hr (x_arches, u_8.1, (0 : Int32), u_8.2.1, u_8.2.2.1, u_8.2.2.2.1, u_8.2.2.2.2, x_undoMany, x_came, f_told, f_now) hg (subP hP [3, 0, 1, 2] rfl) (hD.sub [3, 0, 1, 2] (nd2_ok _ (by decide +kernel)) rfl) hS dX8_arches_19
theorem dX8_cats_0 : decode cX8_cats 0 = .ok (.aload_n 0, 1) := by decide +kernel
theorem dX8_cats_1 : decode cX8_cats 1 = .ok (.iconst 0, 1) := by decide +kernel
theorem dX8_cats_2 : decode cX8_cats 2 = .ok (.putfield 82, 3) := by decide +kernel
theorem dX8_cats_5 : decode cX8_cats 5 = .ok (.aload_n 0, 1) := by decide +kernel
theorem dX8_cats_6 : decode cX8_cats 6 = .ok (.bipush 31, 2) := by decide +kernel
theorem dX8_cats_8 : decode cX8_cats 8 = .ok (.invokevirtual 147, 3) := by decide +kernel
theorem dX8_cats_11 : decode cX8_cats 11 = .ok (.aload_n 0, 1) := by decide +kernel
theorem dX8_cats_12 : decode cX8_cats 12 = .ok (.getfield 105, 3) := by decide +kernel
theorem dX8_cats_15 : decode cX8_cats 15 = .ok (.ifCond .ne 5, 3) := by decide +kernel
theorem dX8_cats_18 : decode cX8_cats 18 = .ok (.iconst 0, 1) := by decide +kernel
theorem dX8_cats_19 : decode cX8_cats 19 = .ok (.ireturn, 1) := by decide +kernel
theorem dX8_cats_20 : decode cX8_cats 20 = .ok (.iconst 0, 1) := by decide +kernel
theorem dX8_cats_21 : decode cX8_cats 21 = .ok (.istore_n 1, 1) := by decide +kernel
theorem dX8_cats_22 : decode cX8_cats 22 = .ok (.iconst 1, 1) := by decide +kernel
theorem dX8_cats_23 : decode cX8_cats 23 = .ok (.istore_n 2, 1) := by decide +kernel
theorem dX8_cats_24 : decode cX8_cats 24 = .ok (.iload_n 2, 1) := by decide +kernel
theorem dX8_cats_25 : decode cX8_cats 25 = .ok (.ifCond .eq 99, 3) := by decide +kernel
theorem dX8_cats_28 : decode cX8_cats 28 = .ok (.aload_n 0, 1) := by decide +kernel
theorem dX8_cats_29 : decode cX8_cats 29 = .ok (.invokevirtual 121, 3) := by decide +kernel
theorem dX8_cats_32 : decode cX8_cats 32 = .ok (.ifCond .eq 92, 3) := by decide +kernel
theorem dX8_cats_35 : decode cX8_cats 35 = .ok (.aload_n 0, 1) := by decide +kernel
theorem dX8_cats_36 : decode cX8_cats 36 = .ok (.getfield 96, 3) := by decide +kernel
theorem dX8_cats_39 : decode cX8_cats 39 = .ok (.iload_n 1, 1) := by decide +kernel
theorem dX8_cats_40 : decode cX8_cats 40 = .ok (.iadd, 1) := by decide +kernel
theorem dX8_cats_41 : decode cX8_cats 41 = .ok (.bipush 8, 2) := by decide +kernel
theorem dX8_cats_43 : decode cX8_cats 43 = .ok (.if_icmp .ne 14, 3) := by decide +kernel
theorem dX8_cats_46 : decode cX8_cats 46 = .ok (.aload_n 0, 1) := by decide +kernel
theorem dX8_cats_47 : decode cX8_cats 47 = .ok (.aload_n 0, 1) := by decide +kernel
theorem dX8_cats_48 : decode cX8_cats 48 = .ok (.getfield 111, 3) := by decide +kernel
theorem dX8_cats_51 : decode cX8_cats 51 = .ok (.invokevirtual 133, 3) := by decide +kernel
theorem dX8_cats_54 : decode cX8_cats 54 = .ok (.goto 57, 3) := by decide +kernel
theorem dX8_cats_57 : decode cX8_cats 57 = .ok (.aload_n 0, 1) := by decide +kernel
theorem dX8_cats_58 : decode cX8_cats 58 = .ok (.getfield 21, 3) := by decide +kernel
theorem dX8_cats_61 : decode cX8_cats 61 = .ok (.iconst 3, 1) := by decide +kernel
theorem dX8_cats_62 : decode cX8_cats 62 = .ok (.iload_n 1, 1) := by decide +kernel
theorem dX8_cats_63 : decode cX8_cats 63 = .ok (.imul, 1) := by decide +kernel
theorem dX8_cats_64 : decode cX8_cats 64 = .ok (.aload_n 0, 1) := by decide +kernel
theorem dX8_cats_65 : decode cX8_cats 65 = .ok (.bipush 48, 2) := by decide +kernel
theorem dX8_cats_67 : decode cX8_cats 67 = .ok (.bipush 10, 2) := by decide +kernel
theorem dX8_cats_69 : decode cX8_cats 69 = .ok (.invokevirtual 137, 3) := by decide +kernel
theorem dX8_cats_72 : decode cX8_cats 72 = .ok (.iastore, 1) := by decide +kernel
theorem dX8_cats_73 : decode cX8_cats 73 = .ok (.aload_n 0, 1) := by decide +kernel
theorem dX8_cats_74 : decode cX8_cats 74 = .ok (.getfield 21, 3) := by decide +kernel
theorem dX8_cats_77 : decode cX8_cats 77 = .ok (.iconst 3, 1) := by decide +kernel
theorem dX8_cats_78 : decode cX8_cats 78 = .ok (.iload_n 1, 1) := by decide +kernel
theorem dX8_cats_79 : decode cX8_cats 79 = .ok (.imul, 1) := by decide +kernel
theorem dX8_cats_80 : decode cX8_cats 80 = .ok (.iconst 1, 1) := by decide +kernel
theorem dX8_cats_81 : decode cX8_cats 81 = .ok (.iadd, 1) := by decide +kernel
theorem dX8_cats_82 : decode cX8_cats 82 = .ok (.aload_n 0, 1) := by decide +kernel
theorem dX8_cats_83 : decode cX8_cats 83 = .ok (.bipush 48, 2) := by decide +kernel
theorem dX8_cats_85 : decode cX8_cats 85 = .ok (.bipush 10, 2) := by decide +kernel
theorem dX8_cats_87 : decode cX8_cats 87 = .ok (.invokevirtual 137, 3) := by decide +kernel
theorem dX8_cats_90 : decode cX8_cats 90 = .ok (.iastore, 1) := by decide +kernel
theorem dX8_cats_91 : decode cX8_cats 91 = .ok (.aload_n 0, 1) := by decide +kernel
theorem dX8_cats_92 : decode cX8_cats 92 = .ok (.getfield 21, 3) := by decide +kernel
theorem dX8_cats_95 : decode cX8_cats 95 = .ok (.iconst 3, 1) := by decide +kernel
theorem dX8_cats_96 : decode cX8_cats 96 = .ok (.iload_n 1, 1) := by decide +kernel
theorem dX8_cats_97 : decode cX8_cats 97 = .ok (.imul, 1) := by decide +kernel
theorem dX8_cats_98 : decode cX8_cats 98 = .ok (.iconst 2, 1) := by decide +kernel
theorem dX8_cats_99 : decode cX8_cats 99 = .ok (.iadd, 1) := by decide +kernel
theorem dX8_cats_100 : decode cX8_cats 100 = .ok (.aload_n 0, 1) := by decide +kernel
theorem dX8_cats_101 : decode cX8_cats 101 = .ok (.bipush 48, 2) := by decide +kernel
theorem dX8_cats_103 : decode cX8_cats 103 = .ok (.aload_n 0, 1) := by decide +kernel
theorem dX8_cats_104 : decode cX8_cats 104 = .ok (.getfield 89, 3) := by decide +kernel
theorem dX8_cats_107 : decode cX8_cats 107 = .ok (.invokevirtual 137, 3) := by decide +kernel
theorem dX8_cats_110 : decode cX8_cats 110 = .ok (.iastore, 1) := by decide +kernel
theorem dX8_cats_111 : decode cX8_cats 111 = .ok (.iinc 1 1, 3) := by decide +kernel
theorem dX8_cats_114 : decode cX8_cats 114 = .ok (.aload_n 0, 1) := by decide +kernel
theorem dX8_cats_115 : decode cX8_cats 115 = .ok (.bipush 59, 2) := by decide +kernel
theorem dX8_cats_117 : decode cX8_cats 117 = .ok (.invokevirtual 129, 3) := by decide +kernel
theorem dX8_cats_120 : decode cX8_cats 120 = .ok (.istore_n 2, 1) := by decide +kernel
theorem dX8_cats_121 : decode cX8_cats 121 = .ok (.goto (-97), 3) := by decide +kernel
theorem dX8_cats_124 : decode cX8_cats 124 = .ok (.aload_n 0, 1) := by decide +kernel
theorem dX8_cats_125 : decode cX8_cats 125 = .ok (.invokevirtual 150, 3) := by decide +kernel
theorem dX8_cats_128 : decode cX8_cats 128 = .ok (.ifCond .ne 10, 3) := by decide +kernel
theorem dX8_cats_131 : decode cX8_cats 131 = .ok (.iconst (-1), 1) := by decide +kernel
theorem dX8_cats_132 : decode cX8_cats 132 = .ok (.aload_n 0, 1) := by decide +kernel
theorem dX8_cats_133 : decode cX8_cats 133 = .ok (.getfield 114, 3) := by decide +kernel
theorem dX8_cats_136 : decode cX8_cats 136 = .ok (.isub, 1) := by decide +kernel
theorem dX8_cats_137 : decode cX8_cats 137 = .ok (.ireturn, 1) := by decide +kernel
theorem dX8_cats_138 : decode cX8_cats 138 = .ok (.iconst 0, 1) := by decide +kernel
theorem dX8_cats_139 : decode cX8_cats 139 = .ok (.istore_n 3, 1) := by decide +kernel
theorem dX8_cats_140 : decode cX8_cats 140 = .ok (.iload_n 3, 1) := by decide +kernel
theorem dX8_cats_141 : decode cX8_cats 141 = .ok (.iload_n 1, 1) := by decide +kernel
theorem dX8_cats_142 : decode cX8_cats 142 = .ok (.if_icmp .ge 96, 3) := by decide +kernel
theorem dX8_cats_145 : decode cX8_cats 145 = .ok (.aload_n 0, 1) := by decide +kernel
theorem dX8_cats_146 : decode cX8_cats 146 = .ok (.getfield 9, 3) := by decide +kernel
theorem dX8_cats_149 : decode cX8_cats 149 = .ok (.bipush 12, 2) := by decide +kernel
theorem dX8_cats_151 : decode cX8_cats 151 = .ok (.aload_n 0, 1) := by decide +kernel
theorem dX8_cats_152 : decode cX8_cats 152 = .ok (.getfield 96, 3) := by decide +kernel
theorem dX8_cats_155 : decode cX8_cats 155 = .ok (.iadd, 1) := by decide +kernel
theorem dX8_cats_156 : decode cX8_cats 156 = .ok (.aload_n 0, 1) := by decide +kernel
theorem dX8_cats_157 : decode cX8_cats 157 = .ok (.getfield 21, 3) := by decide +kernel
theorem dX8_cats_160 : decode cX8_cats 160 = .ok (.iconst 3, 1) := by decide +kernel
theorem dX8_cats_161 : decode cX8_cats 161 = .ok (.iload_n 3, 1) := by decide +kernel
theorem dX8_cats_162 : decode cX8_cats 162 = .ok (.imul, 1) := by decide +kernel
theorem dX8_cats_163 : decode cX8_cats 163 = .ok (.iaload, 1) := by decide +kernel
theorem dX8_cats_164 : decode cX8_cats 164 = .ok (.iastore, 1) := by decide +kernel
theorem dX8_cats_165 : decode cX8_cats 165 = .ok (.aload_n 0, 1) := by decide +kernel
theorem dX8_cats_166 : decode cX8_cats 166 = .ok (.getfield 9, 3) := by decide +kernel
theorem dX8_cats_169 : decode cX8_cats 169 = .ok (.bipush 20, 2) := by decide +kernel
theorem dX8_cats_171 : decode cX8_cats 171 = .ok (.aload_n 0, 1) := by decide +kernel
theorem dX8_cats_172 : decode cX8_cats 172 = .ok (.getfield 96, 3) := by decide +kernel
theorem dX8_cats_175 : decode cX8_cats 175 = .ok (.iadd, 1) := by decide +kernel
theorem dX8_cats_176 : decode cX8_cats 176 = .ok (.aload_n 0, 1) := by decide +kernel
theorem dX8_cats_177 : decode cX8_cats 177 = .ok (.getfield 21, 3) := by decide +kernel
theorem dX8_cats_180 : decode cX8_cats 180 = .ok (.iconst 3, 1) := by decide +kernel
theorem dX8_cats_181 : decode cX8_cats 181 = .ok (.iload_n 3, 1) := by decide +kernel
theorem dX8_cats_182 : decode cX8_cats 182 = .ok (.imul, 1) := by decide +kernel
theorem dX8_cats_183 : decode cX8_cats 183 = .ok (.iconst 1, 1) := by decide +kernel
theorem dX8_cats_184 : decode cX8_cats 184 = .ok (.iadd, 1) := by decide +kernel
theorem dX8_cats_185 : decode cX8_cats 185 = .ok (.iaload, 1) := by decide +kernel
theorem dX8_cats_186 : decode cX8_cats 186 = .ok (.iastore, 1) := by decide +kernel
theorem dX8_cats_187 : decode cX8_cats 187 = .ok (.aload_n 0, 1) := by decide +kernel
theorem dX8_cats_188 : decode cX8_cats 188 = .ok (.getfield 9, 3) := by decide +kernel
theorem dX8_cats_191 : decode cX8_cats 191 = .ok (.bipush 28, 2) := by decide +kernel
theorem dX8_cats_193 : decode cX8_cats 193 = .ok (.aload_n 0, 1) := by decide +kernel
theorem dX8_cats_194 : decode cX8_cats 194 = .ok (.getfield 96, 3) := by decide +kernel
theorem dX8_cats_197 : decode cX8_cats 197 = .ok (.iadd, 1) := by decide +kernel
theorem dX8_cats_198 : decode cX8_cats 198 = .ok (.iconst 0, 1) := by decide +kernel
theorem dX8_cats_199 : decode cX8_cats 199 = .ok (.iastore, 1) := by decide +kernel
theorem dX8_cats_200 : decode cX8_cats 200 = .ok (.aload_n 0, 1) := by decide +kernel
theorem dX8_cats_201 : decode cX8_cats 201 = .ok (.getfield 9, 3) := by decide +kernel
theorem dX8_cats_204 : decode cX8_cats 204 = .ok (.bipush 36, 2) := by decide +kernel
theorem dX8_cats_206 : decode cX8_cats 206 = .ok (.aload_n 0, 1) := by decide +kernel
theorem dX8_cats_207 : decode cX8_cats 207 = .ok (.getfield 96, 3) := by decide +kernel
theorem dX8_cats_210 : decode cX8_cats 210 = .ok (.iadd, 1) := by decide +kernel
theorem dX8_cats_211 : decode cX8_cats 211 = .ok (.aload_n 0, 1) := by decide +kernel
theorem dX8_cats_212 : decode cX8_cats 212 = .ok (.getfield 21, 3) := by decide +kernel
theorem dX8_cats_215 : decode cX8_cats 215 = .ok (.iconst 3, 1) := by decide +kernel
theorem dX8_cats_216 : decode cX8_cats 216 = .ok (.iload_n 3, 1) := by decide +kernel
theorem dX8_cats_217 : decode cX8_cats 217 = .ok (.imul, 1) := by decide +kernel
theorem dX8_cats_218 : decode cX8_cats 218 = .ok (.iconst 2, 1) := by decide +kernel
theorem dX8_cats_219 : decode cX8_cats 219 = .ok (.iadd, 1) := by decide +kernel
theorem dX8_cats_220 : decode cX8_cats 220 = .ok (.iaload, 1) := by decide +kernel
theorem dX8_cats_221 : decode cX8_cats 221 = .ok (.iastore, 1) := by decide +kernel
theorem dX8_cats_222 : decode cX8_cats 222 = .ok (.aload_n 0, 1) := by decide +kernel
theorem dX8_cats_223 : decode cX8_cats 223 = .ok (.dup, 1) := by decide +kernel
theorem dX8_cats_224 : decode cX8_cats 224 = .ok (.getfield 96, 3) := by decide +kernel
theorem dX8_cats_227 : decode cX8_cats 227 = .ok (.iconst 1, 1) := by decide +kernel
theorem dX8_cats_228 : decode cX8_cats 228 = .ok (.iadd, 1) := by decide +kernel
theorem dX8_cats_229 : decode cX8_cats 229 = .ok (.putfield 96, 3) := by decide +kernel
theorem dX8_cats_232 : decode cX8_cats 232 = .ok (.iinc 3 1, 3) := by decide +kernel
theorem dX8_cats_235 : decode cX8_cats 235 = .ok (.goto (-95), 3) := by decide +kernel
theorem dX8_cats_238 : decode cX8_cats 238 = .ok (.aload_n 0, 1) := by decide +kernel
theorem dX8_cats_239 : decode cX8_cats 239 = .ok (.invokevirtual 153, 3) := by decide +kernel
theorem dX8_cats_242 : decode cX8_cats 242 = .ok (.iload_n 1, 1) := by decide +kernel
theorem dX8_cats_243 : decode cX8_cats 243 = .ok (.ireturn, 1) := by decide +kernel
noncomputable def p_X8_cats_140 (F : Nat) (x_came : Int32) (u_8 : (Int32 × Int32 × Int32 × Int32 × Int32)) (u_125 : Int32) (y1_24 : Int32) (x_at_24 : Int32) (f_told_24 : Nat → Int32) (Post : Int32 → (Int32 × Int32 × Int32 × Int32 × Int32 × Int32 × Int32 × Int32 × Int32 × (Nat → Int32) × (Nat → Int32)) → Prop) (n : Nat) : Int32 → Int32 → (Nat → Int32) → Prop := Nat.rec (motive := fun _ => Int32 → Int32 → (Nat → Int32) → Prop) (fun _ _ _ => False) (fun _ k140 => fun (y3_140 : Int32) (x_cats_140 : Int32) (f_now_140 : Nat → Int32) => ((y1_24 ≤ y3_140 → (p_X8_toldAnew F x_came (fun (u_239 : (Int32 × Int32)) => (Post y1_24 (x_cats_140, u_8.1, (0 : Int32), u_8.2.1, u_8.2.2.1, x_at_24, u_125, u_239.1, u_239.2, f_told_24, f_now_140))))) ∧ (¬ y1_24 ≤ y3_140 → (vp_in ((3 : Int32) * y3_140) 24 ∧ (vp_in ((12 : Int32) + x_cats_140) 47 ∧ (vp_in (((3 : Int32) * y3_140) + (1 : Int32)) 24 ∧ (vp_in ((20 : Int32) + x_cats_140) 47 ∧ (vp_in ((28 : Int32) + x_cats_140) 47 ∧ (vp_in (((3 : Int32) * y3_140) + (2 : Int32)) 24 ∧ (vp_in ((36 : Int32) + x_cats_140) 47 ∧ (k140 (y3_140 + (1 : Int32)) (x_cats_140 + (1 : Int32)) (upd (upd (upd (upd f_now_140 ((12 : Int32) + x_cats_140).toNatClampNeg (f_told_24 ((3 : Int32) * y3_140).toNatClampNeg)) ((20 : Int32) + x_cats_140).toNatClampNeg (f_told_24 (((3 : Int32) * y3_140) + (1 : Int32)).toNatClampNeg)) ((28 : Int32) + x_cats_140).toNatClampNeg (0 : Int32)) ((36 : Int32) + x_cats_140).toNatClampNeg (f_told_24 (((3 : Int32) * y3_140) + (2 : Int32)).toNatClampNeg))))))))))))) n
theorem p_X8_cats_140_s (F : Nat) (x_came : Int32) (u_8 : (Int32 × Int32 × Int32 × Int32 × Int32)) (u_125 : Int32) (y1_24 : Int32) (x_at_24 : Int32) (f_told_24 : Nat → Int32) (Post : Int32 → (Int32 × Int32 × Int32 × Int32 × Int32 × Int32 × Int32 × Int32 × Int32 × (Nat → Int32) × (Nat → Int32)) → Prop) (n : Nat) (y3_140 : Int32) (x_cats_140 : Int32) (f_now_140 : Nat → Int32) : p_X8_cats_140 F x_came u_8 u_125 y1_24 x_at_24 f_told_24 Post (n + 1) y3_140 x_cats_140 f_now_140 = ((y1_24 ≤ y3_140 → (p_X8_toldAnew F x_came (fun (u_239 : (Int32 × Int32)) => (Post y1_24 (x_cats_140, u_8.1, (0 : Int32), u_8.2.1, u_8.2.2.1, x_at_24, u_125, u_239.1, u_239.2, f_told_24, f_now_140))))) ∧ (¬ y1_24 ≤ y3_140 → (vp_in ((3 : Int32) * y3_140) 24 ∧ (vp_in ((12 : Int32) + x_cats_140) 47 ∧ (vp_in (((3 : Int32) * y3_140) + (1 : Int32)) 24 ∧ (vp_in ((20 : Int32) + x_cats_140) 47 ∧ (vp_in ((28 : Int32) + x_cats_140) 47 ∧ (vp_in (((3 : Int32) * y3_140) + (2 : Int32)) 24 ∧ (vp_in ((36 : Int32) + x_cats_140) 47 ∧ ((p_X8_cats_140 F x_came u_8 u_125 y1_24 x_at_24 f_told_24 Post n) (y3_140 + (1 : Int32)) (x_cats_140 + (1 : Int32)) (upd (upd (upd (upd f_now_140 ((12 : Int32) + x_cats_140).toNatClampNeg (f_told_24 ((3 : Int32) * y3_140).toNatClampNeg)) ((20 : Int32) + x_cats_140).toNatClampNeg (f_told_24 (((3 : Int32) * y3_140) + (1 : Int32)).toNatClampNeg)) ((28 : Int32) + x_cats_140).toNatClampNeg (0 : Int32)) ((36 : Int32) + x_cats_140).toNatClampNeg (f_told_24 (((3 : Int32) * y3_140) + (2 : Int32)).toNatClampNeg)))))))))))) := rfl
def p_X8_cats_124 (F : Nat) (x_cats : Int32) (x_undoMany : Int32) (x_came : Int32) (f_now : Nat → Int32) (u_8 : (Int32 × Int32 × Int32 × Int32 × Int32)) (y1_24 : Int32) (x_at_24 : Int32) (x_wrong_24 : Int32) (f_told_24 : Nat → Int32) (Post : Int32 → (Int32 × Int32 × Int32 × Int32 × Int32 × Int32 × Int32 × Int32 × Int32 × (Nat → Int32) × (Nat → Int32)) → Prop) : Prop := (p_X8_wasRight F u_8.2.1 x_at_24 x_wrong_24 (fun (r_125 : Int32) (u_125 : Int32) => ((¬ r_125 = 0 → (p_X8_cats_140 F x_came u_8 u_125 y1_24 x_at_24 f_told_24 Post F (0 : Int32) x_cats f_now)) ∧ (r_125 = 0 → (Post ((-1 : Int32) - u_125) (x_cats, u_8.1, (0 : Int32), u_8.2.1, u_8.2.2.1, x_at_24, u_125, x_undoMany, x_came, f_told_24, f_now))))))
def p_X8_cats_111 (F : Nat) (f_text : Nat → Int32) (u_8 : (Int32 × Int32 × Int32 × Int32 × Int32)) (y1_24 : Int32) (k24 : Int32 → Int32 → Int32 → Int32 → (Nat → Int32) → Prop) (Post : Int32 → (Int32 × Int32 × Int32 × Int32 × Int32 × Int32 × Int32 × Int32 × Int32 × (Nat → Int32) × (Nat → Int32)) → Prop) (x_at_111 : Int32) (x_wrong_111 : Int32) (f_told_111 : Nat → Int32) : Prop := (p_X8_passes F (59 : Int32) u_8.2.1 u_8.2.2.1 x_at_111 x_wrong_111 80 f_text (fun (r_117 : Int32) (u_117 : Int32) => (k24 r_117 (y1_24 + (1 : Int32)) u_117 x_wrong_111 f_told_111)))
noncomputable def p_X8_cats_24 (F : Nat) (x_arches : Int32) (x_cats : Int32) (x_undoMany : Int32) (x_came : Int32) (f_text : Nat → Int32) (f_now : Nat → Int32) (u_8 : (Int32 × Int32 × Int32 × Int32 × Int32)) (Post : Int32 → (Int32 × Int32 × Int32 × Int32 × Int32 × Int32 × Int32 × Int32 × Int32 × (Nat → Int32) × (Nat → Int32)) → Prop) (n : Nat) : Int32 → Int32 → Int32 → Int32 → (Nat → Int32) → Prop := Nat.rec (motive := fun _ => Int32 → Int32 → Int32 → Int32 → (Nat → Int32) → Prop) (fun _ _ _ _ _ => False) (fun _ k24 => fun (y2_24 : Int32) (y1_24 : Int32) (x_at_24 : Int32) (x_wrong_24 : Int32) (f_told_24 : Nat → Int32) => ((y2_24 = 0 → (p_X8_cats_124 F x_cats x_undoMany x_came f_now u_8 y1_24 x_at_24 x_wrong_24 f_told_24 Post )) ∧ (¬ y2_24 = 0 → (p_X8_fine F x_wrong_24 (fun (r_29 : Int32) => ((r_29 = 0 → (p_X8_cats_124 F x_cats x_undoMany x_came f_now u_8 y1_24 x_at_24 x_wrong_24 f_told_24 Post )) ∧ (¬ r_29 = 0 → ((¬ (x_cats + y1_24) = (8 : Int32) → (p_X8_oneOf F (48 : Int32) (10 : Int32) u_8.2.1 u_8.2.2.1 x_at_24 x_wrong_24 80 f_text (fun (r_69 : Int32) (u_69 : (Int32 × Int32)) => (vp_in ((3 : Int32) * y1_24) 24 ∧ (p_X8_oneOf F (48 : Int32) (10 : Int32) u_8.2.1 u_8.2.2.1 u_69.1 u_69.2 80 f_text (fun (r_87 : Int32) (u_87 : (Int32 × Int32)) => (vp_in (((3 : Int32) * y1_24) + (1 : Int32)) 24 ∧ (p_X8_oneOf F (48 : Int32) x_arches u_8.2.1 u_8.2.2.1 u_87.1 u_87.2 80 f_text (fun (r_107 : Int32) (u_107 : (Int32 × Int32)) => (vp_in (((3 : Int32) * y1_24) + (2 : Int32)) 24 ∧ (p_X8_cats_111 F f_text u_8 y1_24 k24 Post u_107.1 u_107.2 (upd (upd (upd f_told_24 ((3 : Int32) * y1_24).toNatClampNeg r_69) (((3 : Int32) * y1_24) + (1 : Int32)).toNatClampNeg r_87) (((3 : Int32) * y1_24) + (2 : Int32)).toNatClampNeg r_107)))))))))))) ∧ ((x_cats + y1_24) = (8 : Int32) → (p_X8_fault F x_at_24 x_wrong_24 (fun (u_51 : Int32) => (p_X8_cats_111 F f_text u_8 y1_24 k24 Post x_at_24 u_51 f_told_24)))))))))))) n
theorem p_X8_cats_24_s (F : Nat) (x_arches : Int32) (x_cats : Int32) (x_undoMany : Int32) (x_came : Int32) (f_text : Nat → Int32) (f_now : Nat → Int32) (u_8 : (Int32 × Int32 × Int32 × Int32 × Int32)) (Post : Int32 → (Int32 × Int32 × Int32 × Int32 × Int32 × Int32 × Int32 × Int32 × Int32 × (Nat → Int32) × (Nat → Int32)) → Prop) (n : Nat) (y2_24 : Int32) (y1_24 : Int32) (x_at_24 : Int32) (x_wrong_24 : Int32) (f_told_24 : Nat → Int32) : p_X8_cats_24 F x_arches x_cats x_undoMany x_came f_text f_now u_8 Post (n + 1) y2_24 y1_24 x_at_24 x_wrong_24 f_told_24 = ((y2_24 = 0 → (p_X8_cats_124 F x_cats x_undoMany x_came f_now u_8 y1_24 x_at_24 x_wrong_24 f_told_24 Post )) ∧ (¬ y2_24 = 0 → (p_X8_fine F x_wrong_24 (fun (r_29 : Int32) => ((r_29 = 0 → (p_X8_cats_124 F x_cats x_undoMany x_came f_now u_8 y1_24 x_at_24 x_wrong_24 f_told_24 Post )) ∧ (¬ r_29 = 0 → ((¬ (x_cats + y1_24) = (8 : Int32) → (p_X8_oneOf F (48 : Int32) (10 : Int32) u_8.2.1 u_8.2.2.1 x_at_24 x_wrong_24 80 f_text (fun (r_69 : Int32) (u_69 : (Int32 × Int32)) => (vp_in ((3 : Int32) * y1_24) 24 ∧ (p_X8_oneOf F (48 : Int32) (10 : Int32) u_8.2.1 u_8.2.2.1 u_69.1 u_69.2 80 f_text (fun (r_87 : Int32) (u_87 : (Int32 × Int32)) => (vp_in (((3 : Int32) * y1_24) + (1 : Int32)) 24 ∧ (p_X8_oneOf F (48 : Int32) x_arches u_8.2.1 u_8.2.2.1 u_87.1 u_87.2 80 f_text (fun (r_107 : Int32) (u_107 : (Int32 × Int32)) => (vp_in (((3 : Int32) * y1_24) + (2 : Int32)) 24 ∧ (p_X8_cats_111 F f_text u_8 y1_24 (p_X8_cats_24 F x_arches x_cats x_undoMany x_came f_text f_now u_8 Post n) Post u_107.1 u_107.2 (upd (upd (upd f_told_24 ((3 : Int32) * y1_24).toNatClampNeg r_69) (((3 : Int32) * y1_24) + (1 : Int32)).toNatClampNeg r_87) (((3 : Int32) * y1_24) + (2 : Int32)).toNatClampNeg r_107)))))))))))) ∧ ((x_cats + y1_24) = (8 : Int32) → (p_X8_fault F x_at_24 x_wrong_24 (fun (u_51 : Int32) => (p_X8_cats_111 F f_text u_8 y1_24 (p_X8_cats_24 F x_arches x_cats x_undoMany x_came f_text f_now u_8 Post n) Post x_at_24 u_51 f_told_24))))))))))) := rfl
def p_X8_cats (F : Nat) (x_arches : Int32) (x_cats : Int32) (x_typed : Int32) (x_undoMany : Int32) (x_came : Int32) (f_text : Nat → Int32) (f_told : Nat → Int32) (f_now : Nat → Int32) (Post : Int32 → (Int32 × Int32 × Int32 × Int32 × Int32 × Int32 × Int32 × Int32 × Int32 × (Nat → Int32) × (Nat → Int32)) → Prop) : Prop := (p_X8_beginText F (31 : Int32) x_typed (fun (u_8 : (Int32 × Int32 × Int32 × Int32 × Int32)) => ((¬ u_8.2.1 = 0 → (p_X8_cats_24 F x_arches x_cats x_undoMany x_came f_text f_now u_8 Post F (1 : Int32) (0 : Int32) u_8.2.2.2.1 u_8.2.2.2.2 f_told)) ∧ (u_8.2.1 = 0 → (Post (0 : Int32) (x_cats, u_8.1, (0 : Int32), u_8.2.1, u_8.2.2.1, u_8.2.2.2.1, u_8.2.2.2.2, x_undoMany, x_came, f_told, f_now))))))
set_option maxHeartbeats 4000000 in
set_option maxRecDepth 100000 in
theorem c_X8_cats (l : Launch) (D : va_G) (cT : Nat → ClassId) (F : Nat) (h : Nat) (q_now : Nat) (x_arches : Int32) (x_cats : Int32) (q_text : Nat) (x_typed : Int32) (w_row : Value) (x_rowMany : Int32) (x_thrown : Int32) (w_read : Value) (x_length : Int32) (x_top : Int32) (x_at : Int32) (x_wrong : Int32) (q_told : Nat) (w_rule : Value) (w_otherRule : Value) (x_ruleSize : Int32) (x_isAsked : Int32) (w_asked : Value) (w_undos : Value) (x_undoMany : Int32) (w_aside : Value) (w_then : Value) (w_hold : Value) (x_dropped : Int32) (w_acts : Value) (w_guarded : Value) (w_train : Value) (x_trolleyEnd : Int32) (w_feltOf : Value) (w_feltBy : Value) (x_feltMany : Int32) (w_many : Value) (w_heardOf : Value) (w_heardBy : Value) (x_heardMany : Int32) (w_worth : Value) (x_drawn : Int32) (x_came : Int32) (w_kept : Value) (w_isKept : Value) (w_keptCame : Value) (f_text : Nat → Int32) (f_told : Nat → Int32) (f_now : Nat → Int32) (Post : Int32 → (Int32 × Int32 × Int32 × Int32 × Int32 × Int32 × Int32 × Int32 × Int32 × (Nat → Int32) × (Nat → Int32)) → Prop) (hg : p_X8_cats F x_arches x_cats x_typed x_undoMany x_came f_text f_told f_now Post) : MWi l D cT yX8_cats cX8_cats 4 (some .int) 3 63 0 0 [.ref h] [(h, oX8 (.ref q_now) (.int x_arches) (.int x_cats) (.ref q_text) (.int x_typed) w_row (.int x_rowMany) (.int x_thrown) w_read (.int x_length) (.int x_top) (.int x_at) (.int x_wrong) (.ref q_told) w_rule w_otherRule (.int x_ruleSize) (.int x_isAsked) w_asked w_undos (.int x_undoMany) w_aside w_then w_hold (.int x_dropped) w_acts w_guarded w_train (.int x_trolleyEnd) w_feltOf w_feltBy (.int x_feltMany) w_many w_heardOf w_heardBy (.int x_heardMany) w_worth (.int x_drawn) (.int x_came) w_kept w_isKept w_keptCame), (q_text, aB cT 80 f_text), (q_told, aI cT 24 f_told), (q_now, aI cT 47 f_now)] Post (fun (u : (Int32 × Int32 × Int32 × Int32 × Int32 × Int32 × Int32 × Int32 × Int32 × (Nat → Int32) × (Nat → Int32))) => [(h, oX8 (.ref q_now) (.int x_arches) (.int u.1) (.ref q_text) (.int u.2.1) w_row (.int x_rowMany) (.int u.2.2.1) (.ref q_text) (.int u.2.2.2.1) (.int u.2.2.2.2.1) (.int u.2.2.2.2.2.1) (.int u.2.2.2.2.2.2.1) (.ref q_told) w_rule w_otherRule (.int x_ruleSize) (.int x_isAsked) w_asked w_undos (.int u.2.2.2.2.2.2.2.1) w_aside w_then w_hold (.int x_dropped) w_acts w_guarded w_train (.int x_trolleyEnd) w_feltOf w_feltBy (.int x_feltMany) w_many w_heardOf w_heardBy (.int x_heardMany) w_worth (.int x_drawn) (.int u.2.2.2.2.2.2.2.2.1) w_kept w_isKept w_keptCame), (q_text, aB cT 80 f_text), (q_told, aI cT 24 u.2.2.2.2.2.2.2.2.2.1), (q_now, aI cT 47 u.2.2.2.2.2.2.2.2.2.2)]) := by
  refine MWi.of (by decide) (Nat.le_of_ble_eq_true rfl) ?_
  intro p e s m below meth c A hA C0 hnm hr hP hD ls hl
  have hl : lv_has ls 4 [(0, .ref h)] := hl
  have hx := C0.x
  have hb := C0.b
  have hS : va_S A s.heap s.heap [] := va_S.rf
  have hP : va_P D cls9 [(h, oX8 (.ref q_now) (.int x_arches) (.int x_cats) (.ref q_text) (.int x_typed) w_row (.int x_rowMany) (.int x_thrown) w_read (.int x_length) (.int x_top) (.int x_at) (.int x_wrong) (.ref q_told) w_rule w_otherRule (.int x_ruleSize) (.int x_isAsked) w_asked w_undos (.int x_undoMany) w_aside w_then w_hold (.int x_dropped) w_acts w_guarded w_train (.int x_trolleyEnd) w_feltOf w_feltBy (.int x_feltMany) w_many w_heardOf w_heardBy (.int x_heardMany) w_worth (.int x_drawn) (.int x_came) w_kept w_isKept w_keptCame), (q_text, aB cT 80 f_text), (q_told, aI cT 24 f_told), (q_now, aI cT 47 f_now)] s.heap := hP
  have hD : va_D A [(h, oX8 (.ref q_now) (.int x_arches) (.int x_cats) (.ref q_text) (.int x_typed) w_row (.int x_rowMany) (.int x_thrown) w_read (.int x_length) (.int x_top) (.int x_at) (.int x_wrong) (.ref q_told) w_rule w_otherRule (.int x_ruleSize) (.int x_isAsked) w_asked w_undos (.int x_undoMany) w_aside w_then w_hold (.int x_dropped) w_acts w_guarded w_train (.int x_trolleyEnd) w_feltOf w_feltBy (.int x_feltMany) w_many w_heardOf w_heardBy (.int x_heardMany) w_worth (.int x_drawn) (.int x_came) w_kept w_isKept w_keptCame), (q_text, aB cT 80 f_text), (q_told, aI cT 24 f_told), (q_now, aI cT 47 f_now)] := hD
  have L140 : ∀ (u_8 : (Int32 × Int32 × Int32 × Int32 × Int32)) (u_125 : Int32) (y1_24 : Int32) (x_at_24 : Int32) (f_told_24 : Nat → Int32) (n140 : Nat) (y3_140 : Int32) (x_cats_140 : Int32) (f_now_140 : Nat → Int32) (H : Heap) (locs : List Loc) (ls : Array Slot), p_X8_cats_140 F x_came u_8 u_125 y1_24 x_at_24 f_told_24 Post n140 y3_140 x_cats_140 f_now_140 → va_P D cls9 [(h, oX8 (.ref q_now) (.int x_arches) (.int x_cats_140) (.ref q_text) (.int u_8.1) w_row (.int x_rowMany) (.int (0 : Int32)) (.ref q_text) (.int u_8.2.1) (.int u_8.2.2.1) (.int x_at_24) (.int u_125) (.ref q_told) w_rule w_otherRule (.int x_ruleSize) (.int x_isAsked) w_asked w_undos (.int x_undoMany) w_aside w_then w_hold (.int x_dropped) w_acts w_guarded w_train (.int x_trolleyEnd) w_feltOf w_feltBy (.int x_feltMany) w_many w_heardOf w_heardBy (.int x_heardMany) w_worth (.int x_drawn) (.int x_came) w_kept w_isKept w_keptCame), (q_text, aB cT 80 f_text), (q_told, aI cT 24 f_told_24), (q_now, aI cT 47 f_now_140)] H → va_D A [(h, oX8 (.ref q_now) (.int x_arches) (.int x_cats_140) (.ref q_text) (.int u_8.1) w_row (.int x_rowMany) (.int (0 : Int32)) (.ref q_text) (.int u_8.2.1) (.int u_8.2.2.1) (.int x_at_24) (.int u_125) (.ref q_told) w_rule w_otherRule (.int x_ruleSize) (.int x_isAsked) w_asked w_undos (.int x_undoMany) w_aside w_then w_hold (.int x_dropped) w_acts w_guarded w_train (.int x_trolleyEnd) w_feltOf w_feltBy (.int x_feltMany) w_many w_heardOf w_heardBy (.int x_heardMany) w_worth (.int x_drawn) (.int x_came) w_kept w_isKept w_keptCame), (q_text, aB cT 80 f_text), (q_told, aI cT 24 f_told_24), (q_now, aI cT 47 f_now_140)] → va_S A s.heap H locs → lv_has ls 4 [(0, .ref h), (1, .int y1_24), (3, .int y3_140)] → W p l e (rmO 3 63 0 0) s m ([.ref h] : List Value).toArray below meth c H locs 0 0 (MQ below (va_Qi Post (cB D A (fun (u : (Int32 × Int32 × Int32 × Int32 × Int32 × Int32 × Int32 × Int32 × Int32 × (Nat → Int32) × (Nat → Int32))) => [(h, oX8 (.ref q_now) (.int x_arches) (.int u.1) (.ref q_text) (.int u.2.1) w_row (.int x_rowMany) (.int u.2.2.1) (.ref q_text) (.int u.2.2.2.1) (.int u.2.2.2.2.1) (.int u.2.2.2.2.2.1) (.int u.2.2.2.2.2.2.1) (.ref q_told) w_rule w_otherRule (.int x_ruleSize) (.int x_isAsked) w_asked w_undos (.int u.2.2.2.2.2.2.2.1) w_aside w_then w_hold (.int x_dropped) w_acts w_guarded w_train (.int x_trolleyEnd) w_feltOf w_feltBy (.int x_feltMany) w_many w_heardOf w_heardBy (.int x_heardMany) w_worth (.int x_drawn) (.int u.2.2.2.2.2.2.2.2.1) w_kept w_isKept w_keptCame), (q_text, aB cT 80 f_text), (q_told, aI cT 24 u.2.2.2.2.2.2.2.2.2.1), (q_now, aI cT 47 u.2.2.2.2.2.2.2.2.2.2)])) A) ([.ref h] : List Value).toArray s 0 0 A) (F0 m 140 ls []) := by
    intro u_8 u_125 y1_24 x_at_24 f_told_24 n140
    induction n140 with
    | zero =>
      intro y3_140 x_cats_140 f_now_140 H locs ls hg hP hD hS hl
      exact False.elim hg
    | succ n140 ih140 =>
      intro y3_140 x_cats_140 f_now_140 H locs ls hg hP hD hS hl
      rw [p_X8_cats_140_s] at hg
      refine lv_iload_n hx hb dX8_cats_140 rfl (lv_at hl 2 rfl) ?_
      refine lv_iload_n hx hb dX8_cats_141 rfl (lv_at hl 1 rfl) ?_
      refine lv_icmp_ge (tgt := 238) hx hb dX8_cats_142 (by decide) (fun c_142 => ?_) (fun c_142 => ?_)
      · have hg := hg.1 c_142
        refine lv_aload_n hx hb dX8_cats_238 rfl (lv_at hl 0 rfl) ?_
        refine k_Vv (rest := []) (wr := [(q_text, aB cT 80 f_text), (q_told, aI cT 24 f_told_24), (q_now, aI cT 47 f_now_140)]) (w2 := fun u_239 => [(q_text, aB cT 80 f_text), (q_told, aI cT 24 f_told_24), (q_now, aI cT 47 f_now_140), (h, oX8 (.ref q_now) (.int x_arches) (.int x_cats_140) (.ref q_text) (.int u_8.1) w_row (.int x_rowMany) (.int (0 : Int32)) (.ref q_text) (.int u_8.2.1) (.int u_8.2.2.1) (.int x_at_24) (.int u_125) (.ref q_told) w_rule w_otherRule (.int x_ruleSize) (.int x_isAsked) w_asked w_undos (.int u_239.1) w_aside w_then w_hold (.int x_dropped) w_acts w_guarded w_train (.int x_trolleyEnd) w_feltOf w_feltBy (.int x_feltMany) w_many w_heardOf w_heardBy (.int x_heardMany) w_worth (.int x_drawn) (.int u_239.2) w_kept w_isKept w_keptCame)]) C0 lk_X8_153 (c_X8_toldAnew l D cT F h (.ref q_now) x_arches x_cats_140 (.ref q_text) u_8.1 w_row x_rowMany (0 : Int32) (.ref q_text) u_8.2.1 u_8.2.2.1 x_at_24 u_125 (.ref q_told) w_rule w_otherRule x_ruleSize x_isAsked w_asked w_undos x_undoMany w_aside w_then w_hold x_dropped w_acts w_guarded w_train x_trolleyEnd w_feltOf w_feltBy x_feltMany w_many w_heardOf w_heardBy x_heardMany w_worth x_drawn x_came w_kept w_isKept w_keptCame _ hg) hP hD hS hA [0] [1, 2, 3] (by decide +kernel) rfl rfl (fun _ => rfl) rfl rfl ⟨Nat.le_of_ble_eq_true rfl, Nat.le_of_ble_eq_true rfl⟩ rfl hl.1 rfl (Nat.le_of_ble_eq_true rfl) dX8_cats_239 ⟨Nat.le_of_ble_eq_true rfl, Nat.le_of_ble_eq_true rfl⟩ ?_
        intro u_239 H locs hg hP hD hS
        refine lv_iload_n hx hb dX8_cats_242 rfl (lv_at hl 1 rfl) ?_
        exact k_iret C0 hr (x_cats_140, u_8.1, (0 : Int32), u_8.2.1, u_8.2.2.1, x_at_24, u_125, u_239.1, u_239.2, f_told_24, f_now_140) hg (subP hP [3, 0, 1, 2] rfl) (hD.sub [3, 0, 1, 2] (nd2_ok _ (by decide +kernel)) rfl) hS dX8_cats_243
      have hg := hg.2 c_142
      refine lv_aload_n hx hb dX8_cats_145 rfl (lv_at hl 0 rfl) ?_
      refine gf_X8_9 C0 hP 0 rfl rfl dX8_cats_146 ?_
      refine lv_bipush (v := (12 : Int32)) hx hb dX8_cats_149 (by decide) ?_
      refine lv_aload_n hx hb dX8_cats_151 rfl (lv_at hl 0 rfl) ?_
      refine gf_X8_96 C0 hP 0 rfl rfl dX8_cats_152 ?_
      refine lv_iadd hx hb dX8_cats_155 ?_
      refine lv_aload_n hx hb dX8_cats_156 rfl (lv_at hl 0 rfl) ?_
      refine gf_X8_21 C0 hP 0 rfl rfl dX8_cats_157 ?_
      refine lv_iconst (v := (3 : Int32)) hx hb dX8_cats_160 (by decide) ?_
      refine lv_iload_n hx hb dX8_cats_161 rfl (lv_at hl 2 rfl) ?_
      refine lv_imul hx hb dX8_cats_162 ?_
      obtain ⟨g_163, hg⟩ := hg
      refine k_iald C0 hP 2 rfl g_163 dX8_cats_163 ?_
      obtain ⟨g_164, hg⟩ := hg
      refine k_iast C0 hP hD hS 3 rfl g_164 (ws' := [(h, oX8 (.ref q_now) (.int x_arches) (.int x_cats_140) (.ref q_text) (.int u_8.1) w_row (.int x_rowMany) (.int (0 : Int32)) (.ref q_text) (.int u_8.2.1) (.int u_8.2.2.1) (.int x_at_24) (.int u_125) (.ref q_told) w_rule w_otherRule (.int x_ruleSize) (.int x_isAsked) w_asked w_undos (.int x_undoMany) w_aside w_then w_hold (.int x_dropped) w_acts w_guarded w_train (.int x_trolleyEnd) w_feltOf w_feltBy (.int x_feltMany) w_many w_heardOf w_heardBy (.int x_heardMany) w_worth (.int x_drawn) (.int x_came) w_kept w_isKept w_keptCame), (q_text, aB cT 80 f_text), (q_told, aI cT 24 f_told_24), (q_now, aI cT 47 (upd f_now_140 ((12 : Int32) + x_cats_140).toNatClampNeg (f_told_24 ((3 : Int32) * y3_140).toNatClampNeg)))]) rfl dX8_cats_164 (fun H locs hP hD hS => ?_)
      refine lv_aload_n hx hb dX8_cats_165 rfl (lv_at hl 0 rfl) ?_
      refine gf_X8_9 C0 hP 0 rfl rfl dX8_cats_166 ?_
      refine lv_bipush (v := (20 : Int32)) hx hb dX8_cats_169 (by decide) ?_
      refine lv_aload_n hx hb dX8_cats_171 rfl (lv_at hl 0 rfl) ?_
      refine gf_X8_96 C0 hP 0 rfl rfl dX8_cats_172 ?_
      refine lv_iadd hx hb dX8_cats_175 ?_
      refine lv_aload_n hx hb dX8_cats_176 rfl (lv_at hl 0 rfl) ?_
      refine gf_X8_21 C0 hP 0 rfl rfl dX8_cats_177 ?_
      refine lv_iconst (v := (3 : Int32)) hx hb dX8_cats_180 (by decide) ?_
      refine lv_iload_n hx hb dX8_cats_181 rfl (lv_at hl 2 rfl) ?_
      refine lv_imul hx hb dX8_cats_182 ?_
      refine lv_iconst (v := (1 : Int32)) hx hb dX8_cats_183 (by decide) ?_
      refine lv_iadd hx hb dX8_cats_184 ?_
      obtain ⟨g_185, hg⟩ := hg
      refine k_iald C0 hP 2 rfl g_185 dX8_cats_185 ?_
      obtain ⟨g_186, hg⟩ := hg
      refine k_iast C0 hP hD hS 3 rfl g_186 (ws' := [(h, oX8 (.ref q_now) (.int x_arches) (.int x_cats_140) (.ref q_text) (.int u_8.1) w_row (.int x_rowMany) (.int (0 : Int32)) (.ref q_text) (.int u_8.2.1) (.int u_8.2.2.1) (.int x_at_24) (.int u_125) (.ref q_told) w_rule w_otherRule (.int x_ruleSize) (.int x_isAsked) w_asked w_undos (.int x_undoMany) w_aside w_then w_hold (.int x_dropped) w_acts w_guarded w_train (.int x_trolleyEnd) w_feltOf w_feltBy (.int x_feltMany) w_many w_heardOf w_heardBy (.int x_heardMany) w_worth (.int x_drawn) (.int x_came) w_kept w_isKept w_keptCame), (q_text, aB cT 80 f_text), (q_told, aI cT 24 f_told_24), (q_now, aI cT 47 (upd (upd f_now_140 ((12 : Int32) + x_cats_140).toNatClampNeg (f_told_24 ((3 : Int32) * y3_140).toNatClampNeg)) ((20 : Int32) + x_cats_140).toNatClampNeg (f_told_24 (((3 : Int32) * y3_140) + (1 : Int32)).toNatClampNeg)))]) rfl dX8_cats_186 (fun H locs hP hD hS => ?_)
      refine lv_aload_n hx hb dX8_cats_187 rfl (lv_at hl 0 rfl) ?_
      refine gf_X8_9 C0 hP 0 rfl rfl dX8_cats_188 ?_
      refine lv_bipush (v := (28 : Int32)) hx hb dX8_cats_191 (by decide) ?_
      refine lv_aload_n hx hb dX8_cats_193 rfl (lv_at hl 0 rfl) ?_
      refine gf_X8_96 C0 hP 0 rfl rfl dX8_cats_194 ?_
      refine lv_iadd hx hb dX8_cats_197 ?_
      refine lv_iconst (v := (0 : Int32)) hx hb dX8_cats_198 (by decide) ?_
      obtain ⟨g_199, hg⟩ := hg
      refine k_iast C0 hP hD hS 3 rfl g_199 (ws' := [(h, oX8 (.ref q_now) (.int x_arches) (.int x_cats_140) (.ref q_text) (.int u_8.1) w_row (.int x_rowMany) (.int (0 : Int32)) (.ref q_text) (.int u_8.2.1) (.int u_8.2.2.1) (.int x_at_24) (.int u_125) (.ref q_told) w_rule w_otherRule (.int x_ruleSize) (.int x_isAsked) w_asked w_undos (.int x_undoMany) w_aside w_then w_hold (.int x_dropped) w_acts w_guarded w_train (.int x_trolleyEnd) w_feltOf w_feltBy (.int x_feltMany) w_many w_heardOf w_heardBy (.int x_heardMany) w_worth (.int x_drawn) (.int x_came) w_kept w_isKept w_keptCame), (q_text, aB cT 80 f_text), (q_told, aI cT 24 f_told_24), (q_now, aI cT 47 (upd (upd (upd f_now_140 ((12 : Int32) + x_cats_140).toNatClampNeg (f_told_24 ((3 : Int32) * y3_140).toNatClampNeg)) ((20 : Int32) + x_cats_140).toNatClampNeg (f_told_24 (((3 : Int32) * y3_140) + (1 : Int32)).toNatClampNeg)) ((28 : Int32) + x_cats_140).toNatClampNeg (0 : Int32)))]) rfl dX8_cats_199 (fun H locs hP hD hS => ?_)
      refine lv_aload_n hx hb dX8_cats_200 rfl (lv_at hl 0 rfl) ?_
      refine gf_X8_9 C0 hP 0 rfl rfl dX8_cats_201 ?_
      refine lv_bipush (v := (36 : Int32)) hx hb dX8_cats_204 (by decide) ?_
      refine lv_aload_n hx hb dX8_cats_206 rfl (lv_at hl 0 rfl) ?_
      refine gf_X8_96 C0 hP 0 rfl rfl dX8_cats_207 ?_
      refine lv_iadd hx hb dX8_cats_210 ?_
      refine lv_aload_n hx hb dX8_cats_211 rfl (lv_at hl 0 rfl) ?_
      refine gf_X8_21 C0 hP 0 rfl rfl dX8_cats_212 ?_
      refine lv_iconst (v := (3 : Int32)) hx hb dX8_cats_215 (by decide) ?_
      refine lv_iload_n hx hb dX8_cats_216 rfl (lv_at hl 2 rfl) ?_
      refine lv_imul hx hb dX8_cats_217 ?_
      refine lv_iconst (v := (2 : Int32)) hx hb dX8_cats_218 (by decide) ?_
      refine lv_iadd hx hb dX8_cats_219 ?_
      obtain ⟨g_220, hg⟩ := hg
      refine k_iald C0 hP 2 rfl g_220 dX8_cats_220 ?_
      obtain ⟨g_221, hg⟩ := hg
      refine k_iast C0 hP hD hS 3 rfl g_221 (ws' := [(h, oX8 (.ref q_now) (.int x_arches) (.int x_cats_140) (.ref q_text) (.int u_8.1) w_row (.int x_rowMany) (.int (0 : Int32)) (.ref q_text) (.int u_8.2.1) (.int u_8.2.2.1) (.int x_at_24) (.int u_125) (.ref q_told) w_rule w_otherRule (.int x_ruleSize) (.int x_isAsked) w_asked w_undos (.int x_undoMany) w_aside w_then w_hold (.int x_dropped) w_acts w_guarded w_train (.int x_trolleyEnd) w_feltOf w_feltBy (.int x_feltMany) w_many w_heardOf w_heardBy (.int x_heardMany) w_worth (.int x_drawn) (.int x_came) w_kept w_isKept w_keptCame), (q_text, aB cT 80 f_text), (q_told, aI cT 24 f_told_24), (q_now, aI cT 47 (upd (upd (upd (upd f_now_140 ((12 : Int32) + x_cats_140).toNatClampNeg (f_told_24 ((3 : Int32) * y3_140).toNatClampNeg)) ((20 : Int32) + x_cats_140).toNatClampNeg (f_told_24 (((3 : Int32) * y3_140) + (1 : Int32)).toNatClampNeg)) ((28 : Int32) + x_cats_140).toNatClampNeg (0 : Int32)) ((36 : Int32) + x_cats_140).toNatClampNeg (f_told_24 (((3 : Int32) * y3_140) + (2 : Int32)).toNatClampNeg)))]) rfl dX8_cats_221 (fun H locs hP hD hS => ?_)
      refine lv_aload_n hx hb dX8_cats_222 rfl (lv_at hl 0 rfl) ?_
      refine lv_dup hx hb dX8_cats_223 rfl ?_
      refine gf_X8_96 C0 hP 0 rfl rfl dX8_cats_224 ?_
      refine lv_iconst (v := (1 : Int32)) hx hb dX8_cats_227 (by decide) ?_
      refine lv_iadd hx hb dX8_cats_228 ?_
      refine pf_X8_96 C0 hP hD hS 0 rfl (Nat.le_of_ble_eq_true rfl) (ws2 := [(h, oX8 (.ref q_now) (.int x_arches) (.int (x_cats_140 + (1 : Int32))) (.ref q_text) (.int u_8.1) w_row (.int x_rowMany) (.int (0 : Int32)) (.ref q_text) (.int u_8.2.1) (.int u_8.2.2.1) (.int x_at_24) (.int u_125) (.ref q_told) w_rule w_otherRule (.int x_ruleSize) (.int x_isAsked) w_asked w_undos (.int x_undoMany) w_aside w_then w_hold (.int x_dropped) w_acts w_guarded w_train (.int x_trolleyEnd) w_feltOf w_feltBy (.int x_feltMany) w_many w_heardOf w_heardBy (.int x_heardMany) w_worth (.int x_drawn) (.int x_came) w_kept w_isKept w_keptCame), (q_text, aB cT 80 f_text), (q_told, aI cT 24 f_told_24), (q_now, aI cT 47 (upd (upd (upd (upd f_now_140 ((12 : Int32) + x_cats_140).toNatClampNeg (f_told_24 ((3 : Int32) * y3_140).toNatClampNeg)) ((20 : Int32) + x_cats_140).toNatClampNeg (f_told_24 (((3 : Int32) * y3_140) + (1 : Int32)).toNatClampNeg)) ((28 : Int32) + x_cats_140).toNatClampNeg (0 : Int32)) ((36 : Int32) + x_cats_140).toNatClampNeg (f_told_24 (((3 : Int32) * y3_140) + (2 : Int32)).toNatClampNeg)))]) rfl dX8_cats_229 (fun H locs hP hD hS => ?_)
      refine lv_iinc (v := (y3_140 + (1 : Int32))) (lv' := [(3, .int (y3_140 + (1 : Int32))), (0, .ref h), (1, .int y1_24)]) hx hb dX8_cats_232 hl (k := 2) rfl rfl (by decide) rfl (fun ls hl => ?_)
      refine lv_goto (tgt := 140) hx hb dX8_cats_235 (by decide) ?_
      exact ih140 (y3_140 + (1 : Int32)) (x_cats_140 + (1 : Int32)) (upd (upd (upd (upd f_now_140 ((12 : Int32) + x_cats_140).toNatClampNeg (f_told_24 ((3 : Int32) * y3_140).toNatClampNeg)) ((20 : Int32) + x_cats_140).toNatClampNeg (f_told_24 (((3 : Int32) * y3_140) + (1 : Int32)).toNatClampNeg)) ((28 : Int32) + x_cats_140).toNatClampNeg (0 : Int32)) ((36 : Int32) + x_cats_140).toNatClampNeg (f_told_24 (((3 : Int32) * y3_140) + (2 : Int32)).toNatClampNeg)) _ _ _ hg hP hD hS (lv_sub hl [1, 2, 0] rfl)
  have L124 : ∀ (u_8 : (Int32 × Int32 × Int32 × Int32 × Int32)) (y1_24 : Int32) (x_at_24 : Int32) (x_wrong_24 : Int32) (f_told_24 : Nat → Int32) (H : Heap) (locs : List Loc) (ls : Array Slot), p_X8_cats_124 F x_cats x_undoMany x_came f_now u_8 y1_24 x_at_24 x_wrong_24 f_told_24 Post → va_P D cls9 [(h, oX8 (.ref q_now) (.int x_arches) (.int x_cats) (.ref q_text) (.int u_8.1) w_row (.int x_rowMany) (.int (0 : Int32)) (.ref q_text) (.int u_8.2.1) (.int u_8.2.2.1) (.int x_at_24) (.int x_wrong_24) (.ref q_told) w_rule w_otherRule (.int x_ruleSize) (.int x_isAsked) w_asked w_undos (.int x_undoMany) w_aside w_then w_hold (.int x_dropped) w_acts w_guarded w_train (.int x_trolleyEnd) w_feltOf w_feltBy (.int x_feltMany) w_many w_heardOf w_heardBy (.int x_heardMany) w_worth (.int x_drawn) (.int x_came) w_kept w_isKept w_keptCame), (q_text, aB cT 80 f_text), (q_told, aI cT 24 f_told_24), (q_now, aI cT 47 f_now)] H → va_D A [(h, oX8 (.ref q_now) (.int x_arches) (.int x_cats) (.ref q_text) (.int u_8.1) w_row (.int x_rowMany) (.int (0 : Int32)) (.ref q_text) (.int u_8.2.1) (.int u_8.2.2.1) (.int x_at_24) (.int x_wrong_24) (.ref q_told) w_rule w_otherRule (.int x_ruleSize) (.int x_isAsked) w_asked w_undos (.int x_undoMany) w_aside w_then w_hold (.int x_dropped) w_acts w_guarded w_train (.int x_trolleyEnd) w_feltOf w_feltBy (.int x_feltMany) w_many w_heardOf w_heardBy (.int x_heardMany) w_worth (.int x_drawn) (.int x_came) w_kept w_isKept w_keptCame), (q_text, aB cT 80 f_text), (q_told, aI cT 24 f_told_24), (q_now, aI cT 47 f_now)] → va_S A s.heap H locs → lv_has ls 4 [(0, .ref h), (1, .int y1_24)] → W p l e (rmO 3 63 0 0) s m ([.ref h] : List Value).toArray below meth c H locs 0 0 (MQ below (va_Qi Post (cB D A (fun (u : (Int32 × Int32 × Int32 × Int32 × Int32 × Int32 × Int32 × Int32 × Int32 × (Nat → Int32) × (Nat → Int32))) => [(h, oX8 (.ref q_now) (.int x_arches) (.int u.1) (.ref q_text) (.int u.2.1) w_row (.int x_rowMany) (.int u.2.2.1) (.ref q_text) (.int u.2.2.2.1) (.int u.2.2.2.2.1) (.int u.2.2.2.2.2.1) (.int u.2.2.2.2.2.2.1) (.ref q_told) w_rule w_otherRule (.int x_ruleSize) (.int x_isAsked) w_asked w_undos (.int u.2.2.2.2.2.2.2.1) w_aside w_then w_hold (.int x_dropped) w_acts w_guarded w_train (.int x_trolleyEnd) w_feltOf w_feltBy (.int x_feltMany) w_many w_heardOf w_heardBy (.int x_heardMany) w_worth (.int x_drawn) (.int u.2.2.2.2.2.2.2.2.1) w_kept w_isKept w_keptCame), (q_text, aB cT 80 f_text), (q_told, aI cT 24 u.2.2.2.2.2.2.2.2.2.1), (q_now, aI cT 47 u.2.2.2.2.2.2.2.2.2.2)])) A) ([.ref h] : List Value).toArray s 0 0 A) (F0 m 124 ls []) := by
    intro u_8 y1_24 x_at_24 x_wrong_24 f_told_24 H locs ls hg hP hD hS hl
    unfold p_X8_cats_124 at hg
    refine lv_aload_n hx hb dX8_cats_124 rfl (lv_at hl 0 rfl) ?_
    refine k_Vi (rest := []) (wr := [(q_text, aB cT 80 f_text), (q_told, aI cT 24 f_told_24), (q_now, aI cT 47 f_now)]) (w2 := fun u_125 => [(q_text, aB cT 80 f_text), (q_told, aI cT 24 f_told_24), (q_now, aI cT 47 f_now), (h, oX8 (.ref q_now) (.int x_arches) (.int x_cats) (.ref q_text) (.int u_8.1) w_row (.int x_rowMany) (.int (0 : Int32)) (.ref q_text) (.int u_8.2.1) (.int u_8.2.2.1) (.int x_at_24) (.int u_125) (.ref q_told) w_rule w_otherRule (.int x_ruleSize) (.int x_isAsked) w_asked w_undos (.int x_undoMany) w_aside w_then w_hold (.int x_dropped) w_acts w_guarded w_train (.int x_trolleyEnd) w_feltOf w_feltBy (.int x_feltMany) w_many w_heardOf w_heardBy (.int x_heardMany) w_worth (.int x_drawn) (.int x_came) w_kept w_isKept w_keptCame)]) C0 lk_X8_150 (c_X8_wasRight l D cT F h (.ref q_now) x_arches x_cats (.ref q_text) u_8.1 w_row x_rowMany (0 : Int32) (.ref q_text) u_8.2.1 u_8.2.2.1 x_at_24 x_wrong_24 (.ref q_told) w_rule w_otherRule x_ruleSize x_isAsked w_asked w_undos x_undoMany w_aside w_then w_hold x_dropped w_acts w_guarded w_train x_trolleyEnd w_feltOf w_feltBy x_feltMany w_many w_heardOf w_heardBy x_heardMany w_worth x_drawn x_came w_kept w_isKept w_keptCame _ hg) hP hD hS hA [0] [1, 2, 3] (by decide +kernel) rfl rfl (fun _ => rfl) rfl rfl ⟨Nat.le_of_ble_eq_true rfl, Nat.le_of_ble_eq_true rfl⟩ rfl hl.1 rfl (Nat.le_of_ble_eq_true rfl) dX8_cats_125 ⟨Nat.le_of_ble_eq_true rfl, Nat.le_of_ble_eq_true rfl⟩ ?_
    intro r_125 u_125 H locs hg hP hD hS
    refine lv_if_ne (tgt := 138) hx hb dX8_cats_128 (by decide) (fun c_128 => ?_) (fun c_128 => ?_)
    · have hg := hg.1 c_128
      refine lv_iconst (v := (0 : Int32)) hx hb dX8_cats_138 (by decide) ?_
      refine lv_istore_n (lv' := [(3, .int (0 : Int32)), (0, .ref h), (1, .int y1_24)]) hx hb dX8_cats_139 rfl hl (by decide) rfl (fun ls hl => ?_)
      exact L140 u_8 u_125 y1_24 x_at_24 f_told_24 F (0 : Int32) x_cats f_now _ _ _ hg (subP hP [3, 0, 1, 2] rfl) (hD.sub [3, 0, 1, 2] (nd2_ok _ (by decide +kernel)) rfl) hS (lv_sub hl [1, 2, 0] rfl)
    have hg := hg.2 c_128
    refine lv_iconst (v := (-1 : Int32)) hx hb dX8_cats_131 (by decide) ?_
    refine lv_aload_n hx hb dX8_cats_132 rfl (lv_at hl 0 rfl) ?_
    refine gf_X8_114 C0 hP 3 rfl rfl dX8_cats_133 ?_
    refine lv_isub hx hb dX8_cats_136 ?_
    exact k_iret C0 hr (x_cats, u_8.1, (0 : Int32), u_8.2.1, u_8.2.2.1, x_at_24, u_125, x_undoMany, x_came, f_told_24, f_now) hg (subP hP [3, 0, 1, 2] rfl) (hD.sub [3, 0, 1, 2] (nd2_ok _ (by decide +kernel)) rfl) hS dX8_cats_137
  have L24 : ∀ (u_8 : (Int32 × Int32 × Int32 × Int32 × Int32)) (n24 : Nat) (y2_24 : Int32) (y1_24 : Int32) (x_at_24 : Int32) (x_wrong_24 : Int32) (f_told_24 : Nat → Int32) (H : Heap) (locs : List Loc) (ls : Array Slot), p_X8_cats_24 F x_arches x_cats x_undoMany x_came f_text f_now u_8 Post n24 y2_24 y1_24 x_at_24 x_wrong_24 f_told_24 → va_P D cls9 [(h, oX8 (.ref q_now) (.int x_arches) (.int x_cats) (.ref q_text) (.int u_8.1) w_row (.int x_rowMany) (.int (0 : Int32)) (.ref q_text) (.int u_8.2.1) (.int u_8.2.2.1) (.int x_at_24) (.int x_wrong_24) (.ref q_told) w_rule w_otherRule (.int x_ruleSize) (.int x_isAsked) w_asked w_undos (.int x_undoMany) w_aside w_then w_hold (.int x_dropped) w_acts w_guarded w_train (.int x_trolleyEnd) w_feltOf w_feltBy (.int x_feltMany) w_many w_heardOf w_heardBy (.int x_heardMany) w_worth (.int x_drawn) (.int x_came) w_kept w_isKept w_keptCame), (q_text, aB cT 80 f_text), (q_told, aI cT 24 f_told_24), (q_now, aI cT 47 f_now)] H → va_D A [(h, oX8 (.ref q_now) (.int x_arches) (.int x_cats) (.ref q_text) (.int u_8.1) w_row (.int x_rowMany) (.int (0 : Int32)) (.ref q_text) (.int u_8.2.1) (.int u_8.2.2.1) (.int x_at_24) (.int x_wrong_24) (.ref q_told) w_rule w_otherRule (.int x_ruleSize) (.int x_isAsked) w_asked w_undos (.int x_undoMany) w_aside w_then w_hold (.int x_dropped) w_acts w_guarded w_train (.int x_trolleyEnd) w_feltOf w_feltBy (.int x_feltMany) w_many w_heardOf w_heardBy (.int x_heardMany) w_worth (.int x_drawn) (.int x_came) w_kept w_isKept w_keptCame), (q_text, aB cT 80 f_text), (q_told, aI cT 24 f_told_24), (q_now, aI cT 47 f_now)] → va_S A s.heap H locs → lv_has ls 4 [(0, .ref h), (1, .int y1_24), (2, .int y2_24)] → W p l e (rmO 3 63 0 0) s m ([.ref h] : List Value).toArray below meth c H locs 0 0 (MQ below (va_Qi Post (cB D A (fun (u : (Int32 × Int32 × Int32 × Int32 × Int32 × Int32 × Int32 × Int32 × Int32 × (Nat → Int32) × (Nat → Int32))) => [(h, oX8 (.ref q_now) (.int x_arches) (.int u.1) (.ref q_text) (.int u.2.1) w_row (.int x_rowMany) (.int u.2.2.1) (.ref q_text) (.int u.2.2.2.1) (.int u.2.2.2.2.1) (.int u.2.2.2.2.2.1) (.int u.2.2.2.2.2.2.1) (.ref q_told) w_rule w_otherRule (.int x_ruleSize) (.int x_isAsked) w_asked w_undos (.int u.2.2.2.2.2.2.2.1) w_aside w_then w_hold (.int x_dropped) w_acts w_guarded w_train (.int x_trolleyEnd) w_feltOf w_feltBy (.int x_feltMany) w_many w_heardOf w_heardBy (.int x_heardMany) w_worth (.int x_drawn) (.int u.2.2.2.2.2.2.2.2.1) w_kept w_isKept w_keptCame), (q_text, aB cT 80 f_text), (q_told, aI cT 24 u.2.2.2.2.2.2.2.2.2.1), (q_now, aI cT 47 u.2.2.2.2.2.2.2.2.2.2)])) A) ([.ref h] : List Value).toArray s 0 0 A) (F0 m 24 ls []) := by
    intro u_8 n24
    induction n24 with
    | zero =>
      intro y2_24 y1_24 x_at_24 x_wrong_24 f_told_24 H locs ls hg hP hD hS hl
      exact False.elim hg
    | succ n24 ih24 =>
      have L111 : ∀ (y1_24 : Int32) (x_at_111 : Int32) (x_wrong_111 : Int32) (f_told_111 : Nat → Int32) (H : Heap) (locs : List Loc) (ls : Array Slot), p_X8_cats_111 F f_text u_8 y1_24 (p_X8_cats_24 F x_arches x_cats x_undoMany x_came f_text f_now u_8 Post n24) Post x_at_111 x_wrong_111 f_told_111 → va_P D cls9 [(h, oX8 (.ref q_now) (.int x_arches) (.int x_cats) (.ref q_text) (.int u_8.1) w_row (.int x_rowMany) (.int (0 : Int32)) (.ref q_text) (.int u_8.2.1) (.int u_8.2.2.1) (.int x_at_111) (.int x_wrong_111) (.ref q_told) w_rule w_otherRule (.int x_ruleSize) (.int x_isAsked) w_asked w_undos (.int x_undoMany) w_aside w_then w_hold (.int x_dropped) w_acts w_guarded w_train (.int x_trolleyEnd) w_feltOf w_feltBy (.int x_feltMany) w_many w_heardOf w_heardBy (.int x_heardMany) w_worth (.int x_drawn) (.int x_came) w_kept w_isKept w_keptCame), (q_text, aB cT 80 f_text), (q_told, aI cT 24 f_told_111), (q_now, aI cT 47 f_now)] H → va_D A [(h, oX8 (.ref q_now) (.int x_arches) (.int x_cats) (.ref q_text) (.int u_8.1) w_row (.int x_rowMany) (.int (0 : Int32)) (.ref q_text) (.int u_8.2.1) (.int u_8.2.2.1) (.int x_at_111) (.int x_wrong_111) (.ref q_told) w_rule w_otherRule (.int x_ruleSize) (.int x_isAsked) w_asked w_undos (.int x_undoMany) w_aside w_then w_hold (.int x_dropped) w_acts w_guarded w_train (.int x_trolleyEnd) w_feltOf w_feltBy (.int x_feltMany) w_many w_heardOf w_heardBy (.int x_heardMany) w_worth (.int x_drawn) (.int x_came) w_kept w_isKept w_keptCame), (q_text, aB cT 80 f_text), (q_told, aI cT 24 f_told_111), (q_now, aI cT 47 f_now)] → va_S A s.heap H locs → lv_has ls 4 [(0, .ref h), (1, .int y1_24)] → W p l e (rmO 3 63 0 0) s m ([.ref h] : List Value).toArray below meth c H locs 0 0 (MQ below (va_Qi Post (cB D A (fun (u : (Int32 × Int32 × Int32 × Int32 × Int32 × Int32 × Int32 × Int32 × Int32 × (Nat → Int32) × (Nat → Int32))) => [(h, oX8 (.ref q_now) (.int x_arches) (.int u.1) (.ref q_text) (.int u.2.1) w_row (.int x_rowMany) (.int u.2.2.1) (.ref q_text) (.int u.2.2.2.1) (.int u.2.2.2.2.1) (.int u.2.2.2.2.2.1) (.int u.2.2.2.2.2.2.1) (.ref q_told) w_rule w_otherRule (.int x_ruleSize) (.int x_isAsked) w_asked w_undos (.int u.2.2.2.2.2.2.2.1) w_aside w_then w_hold (.int x_dropped) w_acts w_guarded w_train (.int x_trolleyEnd) w_feltOf w_feltBy (.int x_feltMany) w_many w_heardOf w_heardBy (.int x_heardMany) w_worth (.int x_drawn) (.int u.2.2.2.2.2.2.2.2.1) w_kept w_isKept w_keptCame), (q_text, aB cT 80 f_text), (q_told, aI cT 24 u.2.2.2.2.2.2.2.2.2.1), (q_now, aI cT 47 u.2.2.2.2.2.2.2.2.2.2)])) A) ([.ref h] : List Value).toArray s 0 0 A) (F0 m 111 ls []) := by
        intro y1_24 x_at_111 x_wrong_111 f_told_111 H locs ls hg hP hD hS hl
        unfold p_X8_cats_111 at hg
        refine lv_iinc (v := (y1_24 + (1 : Int32))) (lv' := [(1, .int (y1_24 + (1 : Int32))), (0, .ref h)]) hx hb dX8_cats_111 hl (k := 1) rfl rfl (by decide) rfl (fun ls hl => ?_)
        refine lv_aload_n hx hb dX8_cats_114 rfl (lv_at hl 1 rfl) ?_
        refine lv_bipush (v := (59 : Int32)) hx hb dX8_cats_115 (by decide) ?_
        refine k_Vi (rest := []) (wr := [(q_told, aI cT 24 f_told_111), (q_now, aI cT 47 f_now)]) (w2 := fun u_117 => [(q_told, aI cT 24 f_told_111), (q_now, aI cT 47 f_now), (h, oX8 (.ref q_now) (.int x_arches) (.int x_cats) (.ref q_text) (.int u_8.1) w_row (.int x_rowMany) (.int (0 : Int32)) (.ref q_text) (.int u_8.2.1) (.int u_8.2.2.1) (.int u_117) (.int x_wrong_111) (.ref q_told) w_rule w_otherRule (.int x_ruleSize) (.int x_isAsked) w_asked w_undos (.int x_undoMany) w_aside w_then w_hold (.int x_dropped) w_acts w_guarded w_train (.int x_trolleyEnd) w_feltOf w_feltBy (.int x_feltMany) w_many w_heardOf w_heardBy (.int x_heardMany) w_worth (.int x_drawn) (.int x_came) w_kept w_isKept w_keptCame), (q_text, aB cT 80 f_text)]) C0 lk_X8_129 (c_X8_passes l D cT F h (59 : Int32) (.ref q_now) x_arches x_cats (.ref q_text) u_8.1 w_row x_rowMany (0 : Int32) q_text u_8.2.1 u_8.2.2.1 x_at_111 x_wrong_111 (.ref q_told) w_rule w_otherRule x_ruleSize x_isAsked w_asked w_undos x_undoMany w_aside w_then w_hold x_dropped w_acts w_guarded w_train x_trolleyEnd w_feltOf w_feltBy x_feltMany w_many w_heardOf w_heardBy x_heardMany w_worth x_drawn x_came w_kept w_isKept w_keptCame 80 f_text _ hg) hP hD hS hA [0, 1] [2, 3] (by decide +kernel) rfl rfl (fun _ => rfl) rfl rfl ⟨Nat.le_of_ble_eq_true rfl, Nat.le_of_ble_eq_true rfl⟩ rfl hl.1 rfl (Nat.le_of_ble_eq_true rfl) dX8_cats_117 ⟨Nat.le_of_ble_eq_true rfl, Nat.le_of_ble_eq_true rfl⟩ ?_
        intro r_117 u_117 H locs hg hP hD hS
        refine lv_istore_n (lv' := [(2, .int r_117), (1, .int (y1_24 + (1 : Int32))), (0, .ref h)]) hx hb dX8_cats_120 rfl hl (by decide) rfl (fun ls hl => ?_)
        refine lv_goto (tgt := 24) hx hb dX8_cats_121 (by decide) ?_
        exact ih24 r_117 (y1_24 + (1 : Int32)) u_117 x_wrong_111 f_told_111 _ _ _ hg (subP hP [2, 3, 0, 1] rfl) (hD.sub [2, 3, 0, 1] (nd2_ok _ (by decide +kernel)) rfl) hS (lv_sub hl [2, 1, 0] rfl)
      intro y2_24 y1_24 x_at_24 x_wrong_24 f_told_24 H locs ls hg hP hD hS hl
      rw [p_X8_cats_24_s] at hg
      refine lv_iload_n hx hb dX8_cats_24 rfl (lv_at hl 2 rfl) ?_
      refine lv_if_eq (tgt := 124) hx hb dX8_cats_25 (by decide) (fun c_25 => ?_) (fun c_25 => ?_)
      · have hg := hg.1 c_25
        exact L124 u_8 y1_24 x_at_24 x_wrong_24 f_told_24 _ _ _ hg hP hD hS (lv_sub hl [0, 1] rfl)
      have hg := hg.2 c_25
      refine lv_aload_n hx hb dX8_cats_28 rfl (lv_at hl 0 rfl) ?_
      refine k_Vxi (rest := []) C0 lk_X8_121 (c_X8_fine l D cT F h (.ref q_now) x_arches x_cats (.ref q_text) u_8.1 w_row x_rowMany (0 : Int32) (.ref q_text) u_8.2.1 u_8.2.2.1 x_at_24 x_wrong_24 (.ref q_told) w_rule w_otherRule x_ruleSize x_isAsked w_asked w_undos x_undoMany w_aside w_then w_hold x_dropped w_acts w_guarded w_train x_trolleyEnd w_feltOf w_feltBy x_feltMany w_many w_heardOf w_heardBy x_heardMany w_worth x_drawn x_came w_kept w_isKept w_keptCame _ hg) hP hD [0] (by decide +kernel) rfl rfl rfl ⟨Nat.le_of_ble_eq_true rfl, Nat.le_of_ble_eq_true rfl⟩ rfl hl.1 rfl (Nat.le_of_ble_eq_true rfl) dX8_cats_29 ⟨Nat.le_of_ble_eq_true rfl, Nat.le_of_ble_eq_true rfl⟩ (fun r_29 hg => ?_)
      refine lv_if_eq (tgt := 124) hx hb dX8_cats_32 (by decide) (fun c_32 => ?_) (fun c_32 => ?_)
      · have hg := hg.1 c_32
        exact L124 u_8 y1_24 x_at_24 x_wrong_24 f_told_24 _ _ _ hg hP hD hS (lv_sub hl [0, 1] rfl)
      have hg := hg.2 c_32
      refine lv_aload_n hx hb dX8_cats_35 rfl (lv_at hl 0 rfl) ?_
      refine gf_X8_96 C0 hP 0 rfl rfl dX8_cats_36 ?_
      refine lv_iload_n hx hb dX8_cats_39 rfl (lv_at hl 1 rfl) ?_
      refine lv_iadd hx hb dX8_cats_40 ?_
      refine lv_bipush (v := (8 : Int32)) hx hb dX8_cats_41 (by decide) ?_
      refine lv_icmp_ne (tgt := 57) hx hb dX8_cats_43 (by decide) (fun c_43 => ?_) (fun c_43 => ?_)
      · have hg := hg.1 c_43
        refine lv_aload_n hx hb dX8_cats_57 rfl (lv_at hl 0 rfl) ?_
        refine gf_X8_21 C0 hP 0 rfl rfl dX8_cats_58 ?_
        refine lv_iconst (v := (3 : Int32)) hx hb dX8_cats_61 (by decide) ?_
        refine lv_iload_n hx hb dX8_cats_62 rfl (lv_at hl 1 rfl) ?_
        refine lv_imul hx hb dX8_cats_63 ?_
        refine lv_aload_n hx hb dX8_cats_64 rfl (lv_at hl 0 rfl) ?_
        refine lv_bipush (v := (48 : Int32)) hx hb dX8_cats_65 (by decide) ?_
        refine lv_bipush (v := (10 : Int32)) hx hb dX8_cats_67 (by decide) ?_
        refine k_Vi (rest := [.int ((3 : Int32) * y1_24), .ref q_told]) (wr := [(q_told, aI cT 24 f_told_24), (q_now, aI cT 47 f_now)]) (w2 := fun u_69 => [(q_told, aI cT 24 f_told_24), (q_now, aI cT 47 f_now), (h, oX8 (.ref q_now) (.int x_arches) (.int x_cats) (.ref q_text) (.int u_8.1) w_row (.int x_rowMany) (.int (0 : Int32)) (.ref q_text) (.int u_8.2.1) (.int u_8.2.2.1) (.int u_69.1) (.int u_69.2) (.ref q_told) w_rule w_otherRule (.int x_ruleSize) (.int x_isAsked) w_asked w_undos (.int x_undoMany) w_aside w_then w_hold (.int x_dropped) w_acts w_guarded w_train (.int x_trolleyEnd) w_feltOf w_feltBy (.int x_feltMany) w_many w_heardOf w_heardBy (.int x_heardMany) w_worth (.int x_drawn) (.int x_came) w_kept w_isKept w_keptCame), (q_text, aB cT 80 f_text)]) C0 lk_X8_137 (c_X8_oneOf l D cT F h (48 : Int32) (10 : Int32) (.ref q_now) x_arches x_cats (.ref q_text) u_8.1 w_row x_rowMany (0 : Int32) q_text u_8.2.1 u_8.2.2.1 x_at_24 x_wrong_24 (.ref q_told) w_rule w_otherRule x_ruleSize x_isAsked w_asked w_undos x_undoMany w_aside w_then w_hold x_dropped w_acts w_guarded w_train x_trolleyEnd w_feltOf w_feltBy x_feltMany w_many w_heardOf w_heardBy x_heardMany w_worth x_drawn x_came w_kept w_isKept w_keptCame 80 f_text _ hg) hP hD hS hA [0, 1] [2, 3] (by decide +kernel) rfl rfl (fun _ => rfl) rfl rfl ⟨Nat.le_of_ble_eq_true rfl, Nat.le_of_ble_eq_true rfl⟩ rfl hl.1 rfl (Nat.le_of_ble_eq_true rfl) dX8_cats_69 ⟨Nat.le_of_ble_eq_true rfl, Nat.le_of_ble_eq_true rfl⟩ ?_
        intro r_69 u_69 H locs hg hP hD hS
        obtain ⟨g_72, hg⟩ := hg
        refine k_iast C0 hP hD hS 0 rfl g_72 (ws' := [(q_told, aI cT 24 (upd f_told_24 ((3 : Int32) * y1_24).toNatClampNeg r_69)), (q_now, aI cT 47 f_now), (h, oX8 (.ref q_now) (.int x_arches) (.int x_cats) (.ref q_text) (.int u_8.1) w_row (.int x_rowMany) (.int (0 : Int32)) (.ref q_text) (.int u_8.2.1) (.int u_8.2.2.1) (.int u_69.1) (.int u_69.2) (.ref q_told) w_rule w_otherRule (.int x_ruleSize) (.int x_isAsked) w_asked w_undos (.int x_undoMany) w_aside w_then w_hold (.int x_dropped) w_acts w_guarded w_train (.int x_trolleyEnd) w_feltOf w_feltBy (.int x_feltMany) w_many w_heardOf w_heardBy (.int x_heardMany) w_worth (.int x_drawn) (.int x_came) w_kept w_isKept w_keptCame), (q_text, aB cT 80 f_text)]) rfl dX8_cats_72 (fun H locs hP hD hS => ?_)
        refine lv_aload_n hx hb dX8_cats_73 rfl (lv_at hl 0 rfl) ?_
        refine gf_X8_21 C0 hP 2 rfl rfl dX8_cats_74 ?_
        refine lv_iconst (v := (3 : Int32)) hx hb dX8_cats_77 (by decide) ?_
        refine lv_iload_n hx hb dX8_cats_78 rfl (lv_at hl 1 rfl) ?_
        refine lv_imul hx hb dX8_cats_79 ?_
        refine lv_iconst (v := (1 : Int32)) hx hb dX8_cats_80 (by decide) ?_
        refine lv_iadd hx hb dX8_cats_81 ?_
        refine lv_aload_n hx hb dX8_cats_82 rfl (lv_at hl 0 rfl) ?_
        refine lv_bipush (v := (48 : Int32)) hx hb dX8_cats_83 (by decide) ?_
        refine lv_bipush (v := (10 : Int32)) hx hb dX8_cats_85 (by decide) ?_
        refine k_Vi (rest := [.int (((3 : Int32) * y1_24) + (1 : Int32)), .ref q_told]) (wr := [(q_told, aI cT 24 (upd f_told_24 ((3 : Int32) * y1_24).toNatClampNeg r_69)), (q_now, aI cT 47 f_now)]) (w2 := fun u_87 => [(q_told, aI cT 24 (upd f_told_24 ((3 : Int32) * y1_24).toNatClampNeg r_69)), (q_now, aI cT 47 f_now), (h, oX8 (.ref q_now) (.int x_arches) (.int x_cats) (.ref q_text) (.int u_8.1) w_row (.int x_rowMany) (.int (0 : Int32)) (.ref q_text) (.int u_8.2.1) (.int u_8.2.2.1) (.int u_87.1) (.int u_87.2) (.ref q_told) w_rule w_otherRule (.int x_ruleSize) (.int x_isAsked) w_asked w_undos (.int x_undoMany) w_aside w_then w_hold (.int x_dropped) w_acts w_guarded w_train (.int x_trolleyEnd) w_feltOf w_feltBy (.int x_feltMany) w_many w_heardOf w_heardBy (.int x_heardMany) w_worth (.int x_drawn) (.int x_came) w_kept w_isKept w_keptCame), (q_text, aB cT 80 f_text)]) C0 lk_X8_137 (c_X8_oneOf l D cT F h (48 : Int32) (10 : Int32) (.ref q_now) x_arches x_cats (.ref q_text) u_8.1 w_row x_rowMany (0 : Int32) q_text u_8.2.1 u_8.2.2.1 u_69.1 u_69.2 (.ref q_told) w_rule w_otherRule x_ruleSize x_isAsked w_asked w_undos x_undoMany w_aside w_then w_hold x_dropped w_acts w_guarded w_train x_trolleyEnd w_feltOf w_feltBy x_feltMany w_many w_heardOf w_heardBy x_heardMany w_worth x_drawn x_came w_kept w_isKept w_keptCame 80 f_text _ hg) hP hD hS hA [2, 3] [0, 1] (by decide +kernel) rfl rfl (fun _ => rfl) rfl rfl ⟨Nat.le_of_ble_eq_true rfl, Nat.le_of_ble_eq_true rfl⟩ rfl hl.1 rfl (Nat.le_of_ble_eq_true rfl) dX8_cats_87 ⟨Nat.le_of_ble_eq_true rfl, Nat.le_of_ble_eq_true rfl⟩ ?_
        intro r_87 u_87 H locs hg hP hD hS
        obtain ⟨g_90, hg⟩ := hg
        refine k_iast C0 hP hD hS 0 rfl g_90 (ws' := [(q_told, aI cT 24 (upd (upd f_told_24 ((3 : Int32) * y1_24).toNatClampNeg r_69) (((3 : Int32) * y1_24) + (1 : Int32)).toNatClampNeg r_87)), (q_now, aI cT 47 f_now), (h, oX8 (.ref q_now) (.int x_arches) (.int x_cats) (.ref q_text) (.int u_8.1) w_row (.int x_rowMany) (.int (0 : Int32)) (.ref q_text) (.int u_8.2.1) (.int u_8.2.2.1) (.int u_87.1) (.int u_87.2) (.ref q_told) w_rule w_otherRule (.int x_ruleSize) (.int x_isAsked) w_asked w_undos (.int x_undoMany) w_aside w_then w_hold (.int x_dropped) w_acts w_guarded w_train (.int x_trolleyEnd) w_feltOf w_feltBy (.int x_feltMany) w_many w_heardOf w_heardBy (.int x_heardMany) w_worth (.int x_drawn) (.int x_came) w_kept w_isKept w_keptCame), (q_text, aB cT 80 f_text)]) rfl dX8_cats_90 (fun H locs hP hD hS => ?_)
        refine lv_aload_n hx hb dX8_cats_91 rfl (lv_at hl 0 rfl) ?_
        refine gf_X8_21 C0 hP 2 rfl rfl dX8_cats_92 ?_
        refine lv_iconst (v := (3 : Int32)) hx hb dX8_cats_95 (by decide) ?_
        refine lv_iload_n hx hb dX8_cats_96 rfl (lv_at hl 1 rfl) ?_
        refine lv_imul hx hb dX8_cats_97 ?_
        refine lv_iconst (v := (2 : Int32)) hx hb dX8_cats_98 (by decide) ?_
        refine lv_iadd hx hb dX8_cats_99 ?_
        refine lv_aload_n hx hb dX8_cats_100 rfl (lv_at hl 0 rfl) ?_
        refine lv_bipush (v := (48 : Int32)) hx hb dX8_cats_101 (by decide) ?_
        refine lv_aload_n hx hb dX8_cats_103 rfl (lv_at hl 0 rfl) ?_
        refine gf_X8_89 C0 hP 2 rfl rfl dX8_cats_104 ?_
        refine k_Vi (rest := [.int (((3 : Int32) * y1_24) + (2 : Int32)), .ref q_told]) (wr := [(q_told, aI cT 24 (upd (upd f_told_24 ((3 : Int32) * y1_24).toNatClampNeg r_69) (((3 : Int32) * y1_24) + (1 : Int32)).toNatClampNeg r_87)), (q_now, aI cT 47 f_now)]) (w2 := fun u_107 => [(q_told, aI cT 24 (upd (upd f_told_24 ((3 : Int32) * y1_24).toNatClampNeg r_69) (((3 : Int32) * y1_24) + (1 : Int32)).toNatClampNeg r_87)), (q_now, aI cT 47 f_now), (h, oX8 (.ref q_now) (.int x_arches) (.int x_cats) (.ref q_text) (.int u_8.1) w_row (.int x_rowMany) (.int (0 : Int32)) (.ref q_text) (.int u_8.2.1) (.int u_8.2.2.1) (.int u_107.1) (.int u_107.2) (.ref q_told) w_rule w_otherRule (.int x_ruleSize) (.int x_isAsked) w_asked w_undos (.int x_undoMany) w_aside w_then w_hold (.int x_dropped) w_acts w_guarded w_train (.int x_trolleyEnd) w_feltOf w_feltBy (.int x_feltMany) w_many w_heardOf w_heardBy (.int x_heardMany) w_worth (.int x_drawn) (.int x_came) w_kept w_isKept w_keptCame), (q_text, aB cT 80 f_text)]) C0 lk_X8_137 (c_X8_oneOf l D cT F h (48 : Int32) x_arches (.ref q_now) x_arches x_cats (.ref q_text) u_8.1 w_row x_rowMany (0 : Int32) q_text u_8.2.1 u_8.2.2.1 u_87.1 u_87.2 (.ref q_told) w_rule w_otherRule x_ruleSize x_isAsked w_asked w_undos x_undoMany w_aside w_then w_hold x_dropped w_acts w_guarded w_train x_trolleyEnd w_feltOf w_feltBy x_feltMany w_many w_heardOf w_heardBy x_heardMany w_worth x_drawn x_came w_kept w_isKept w_keptCame 80 f_text _ hg) hP hD hS hA [2, 3] [0, 1] (by decide +kernel) rfl rfl (fun _ => rfl) rfl rfl ⟨Nat.le_of_ble_eq_true rfl, Nat.le_of_ble_eq_true rfl⟩ rfl hl.1 rfl (Nat.le_of_ble_eq_true rfl) dX8_cats_107 ⟨Nat.le_of_ble_eq_true rfl, Nat.le_of_ble_eq_true rfl⟩ ?_
        intro r_107 u_107 H locs hg hP hD hS
        obtain ⟨g_110, hg⟩ := hg
        refine k_iast C0 hP hD hS 0 rfl g_110 (ws' := [(q_told, aI cT 24 (upd (upd (upd f_told_24 ((3 : Int32) * y1_24).toNatClampNeg r_69) (((3 : Int32) * y1_24) + (1 : Int32)).toNatClampNeg r_87) (((3 : Int32) * y1_24) + (2 : Int32)).toNatClampNeg r_107)), (q_now, aI cT 47 f_now), (h, oX8 (.ref q_now) (.int x_arches) (.int x_cats) (.ref q_text) (.int u_8.1) w_row (.int x_rowMany) (.int (0 : Int32)) (.ref q_text) (.int u_8.2.1) (.int u_8.2.2.1) (.int u_107.1) (.int u_107.2) (.ref q_told) w_rule w_otherRule (.int x_ruleSize) (.int x_isAsked) w_asked w_undos (.int x_undoMany) w_aside w_then w_hold (.int x_dropped) w_acts w_guarded w_train (.int x_trolleyEnd) w_feltOf w_feltBy (.int x_feltMany) w_many w_heardOf w_heardBy (.int x_heardMany) w_worth (.int x_drawn) (.int x_came) w_kept w_isKept w_keptCame), (q_text, aB cT 80 f_text)]) rfl dX8_cats_110 (fun H locs hP hD hS => ?_)
        exact L111 y1_24 u_107.1 u_107.2 (upd (upd (upd f_told_24 ((3 : Int32) * y1_24).toNatClampNeg r_69) (((3 : Int32) * y1_24) + (1 : Int32)).toNatClampNeg r_87) (((3 : Int32) * y1_24) + (2 : Int32)).toNatClampNeg r_107) _ _ _ hg (subP hP [2, 3, 0, 1] rfl) (hD.sub [2, 3, 0, 1] (nd2_ok _ (by decide +kernel)) rfl) hS (lv_sub hl [0, 1] rfl)
      have hg := hg.2 c_43
      refine lv_aload_n hx hb dX8_cats_46 rfl (lv_at hl 0 rfl) ?_
      refine lv_aload_n hx hb dX8_cats_47 rfl (lv_at hl 0 rfl) ?_
      refine gf_X8_111 C0 hP 0 rfl rfl dX8_cats_48 ?_
      refine k_Vv (rest := []) (wr := [(q_text, aB cT 80 f_text), (q_told, aI cT 24 f_told_24), (q_now, aI cT 47 f_now)]) (w2 := fun u_51 => [(q_text, aB cT 80 f_text), (q_told, aI cT 24 f_told_24), (q_now, aI cT 47 f_now), (h, oX8 (.ref q_now) (.int x_arches) (.int x_cats) (.ref q_text) (.int u_8.1) w_row (.int x_rowMany) (.int (0 : Int32)) (.ref q_text) (.int u_8.2.1) (.int u_8.2.2.1) (.int x_at_24) (.int u_51) (.ref q_told) w_rule w_otherRule (.int x_ruleSize) (.int x_isAsked) w_asked w_undos (.int x_undoMany) w_aside w_then w_hold (.int x_dropped) w_acts w_guarded w_train (.int x_trolleyEnd) w_feltOf w_feltBy (.int x_feltMany) w_many w_heardOf w_heardBy (.int x_heardMany) w_worth (.int x_drawn) (.int x_came) w_kept w_isKept w_keptCame)]) C0 lk_X8_133 (c_X8_fault l D cT F h x_at_24 (.ref q_now) x_arches x_cats (.ref q_text) u_8.1 w_row x_rowMany (0 : Int32) (.ref q_text) u_8.2.1 u_8.2.2.1 x_at_24 x_wrong_24 (.ref q_told) w_rule w_otherRule x_ruleSize x_isAsked w_asked w_undos x_undoMany w_aside w_then w_hold x_dropped w_acts w_guarded w_train x_trolleyEnd w_feltOf w_feltBy x_feltMany w_many w_heardOf w_heardBy x_heardMany w_worth x_drawn x_came w_kept w_isKept w_keptCame _ hg) hP hD hS hA [0] [1, 2, 3] (by decide +kernel) rfl rfl (fun _ => rfl) rfl rfl ⟨Nat.le_of_ble_eq_true rfl, Nat.le_of_ble_eq_true rfl⟩ rfl hl.1 rfl (Nat.le_of_ble_eq_true rfl) dX8_cats_51 ⟨Nat.le_of_ble_eq_true rfl, Nat.le_of_ble_eq_true rfl⟩ ?_
      intro u_51 H locs hg hP hD hS
      refine lv_goto (tgt := 111) hx hb dX8_cats_54 (by decide) ?_
      exact L111 y1_24 x_at_24 u_51 f_told_24 _ _ _ hg (subP hP [3, 0, 1, 2] rfl) (hD.sub [3, 0, 1, 2] (nd2_ok _ (by decide +kernel)) rfl) hS (lv_sub hl [0, 1] rfl)
  unfold p_X8_cats at hg
  refine lv_aload_n hx hb dX8_cats_0 rfl (lv_at hl 0 rfl) ?_
  refine lv_iconst (v := (0 : Int32)) hx hb dX8_cats_1 (by decide) ?_
  refine pf_X8_82 C0 hP hD hS 0 rfl (Nat.le_of_ble_eq_true rfl) (ws2 := [(h, oX8 (.ref q_now) (.int x_arches) (.int x_cats) (.ref q_text) (.int x_typed) w_row (.int x_rowMany) (.int (0 : Int32)) w_read (.int x_length) (.int x_top) (.int x_at) (.int x_wrong) (.ref q_told) w_rule w_otherRule (.int x_ruleSize) (.int x_isAsked) w_asked w_undos (.int x_undoMany) w_aside w_then w_hold (.int x_dropped) w_acts w_guarded w_train (.int x_trolleyEnd) w_feltOf w_feltBy (.int x_feltMany) w_many w_heardOf w_heardBy (.int x_heardMany) w_worth (.int x_drawn) (.int x_came) w_kept w_isKept w_keptCame), (q_text, aB cT 80 f_text), (q_told, aI cT 24 f_told), (q_now, aI cT 47 f_now)]) rfl dX8_cats_2 (fun H locs hP hD hS => ?_)
  refine lv_aload_n hx hb dX8_cats_5 rfl (lv_at hl 0 rfl) ?_
  refine lv_bipush (v := (31 : Int32)) hx hb dX8_cats_6 (by decide) ?_
  refine k_Vv (rest := []) (wr := [(q_text, aB cT 80 f_text), (q_told, aI cT 24 f_told), (q_now, aI cT 47 f_now)]) (w2 := fun u_8 => [(q_text, aB cT 80 f_text), (q_told, aI cT 24 f_told), (q_now, aI cT 47 f_now), (h, oX8 (.ref q_now) (.int x_arches) (.int x_cats) (.ref q_text) (.int u_8.1) w_row (.int x_rowMany) (.int (0 : Int32)) (.ref q_text) (.int u_8.2.1) (.int u_8.2.2.1) (.int u_8.2.2.2.1) (.int u_8.2.2.2.2) (.ref q_told) w_rule w_otherRule (.int x_ruleSize) (.int x_isAsked) w_asked w_undos (.int x_undoMany) w_aside w_then w_hold (.int x_dropped) w_acts w_guarded w_train (.int x_trolleyEnd) w_feltOf w_feltBy (.int x_feltMany) w_many w_heardOf w_heardBy (.int x_heardMany) w_worth (.int x_drawn) (.int x_came) w_kept w_isKept w_keptCame)]) C0 lk_X8_147 (c_X8_beginText l D cT F h (31 : Int32) (.ref q_now) x_arches x_cats q_text x_typed w_row x_rowMany (0 : Int32) w_read x_length x_top x_at x_wrong (.ref q_told) w_rule w_otherRule x_ruleSize x_isAsked w_asked w_undos x_undoMany w_aside w_then w_hold x_dropped w_acts w_guarded w_train x_trolleyEnd w_feltOf w_feltBy x_feltMany w_many w_heardOf w_heardBy x_heardMany w_worth x_drawn x_came w_kept w_isKept w_keptCame _ hg) hP hD hS hA [0] [1, 2, 3] (by decide +kernel) rfl rfl (fun _ => rfl) rfl rfl ⟨Nat.le_of_ble_eq_true rfl, Nat.le_of_ble_eq_true rfl⟩ rfl hl.1 rfl (Nat.le_of_ble_eq_true rfl) dX8_cats_8 ⟨Nat.le_of_ble_eq_true rfl, Nat.le_of_ble_eq_true rfl⟩ ?_
  intro u_8 H locs hg hP hD hS
  refine lv_aload_n hx hb dX8_cats_11 rfl (lv_at hl 0 rfl) ?_
  refine gf_X8_105 C0 hP 3 rfl rfl dX8_cats_12 ?_
  refine lv_if_ne (tgt := 20) hx hb dX8_cats_15 (by decide) (fun c_15 => ?_) (fun c_15 => ?_)
  · have hg := hg.1 c_15
    refine lv_iconst (v := (0 : Int32)) hx hb dX8_cats_20 (by decide) ?_
    refine lv_istore_n (lv' := [(1, .int (0 : Int32)), (0, .ref h)]) hx hb dX8_cats_21 rfl hl (by decide) rfl (fun ls hl => ?_)
    refine lv_iconst (v := (1 : Int32)) hx hb dX8_cats_22 (by decide) ?_
    refine lv_istore_n (lv' := [(2, .int (1 : Int32)), (1, .int (0 : Int32)), (0, .ref h)]) hx hb dX8_cats_23 rfl hl (by decide) rfl (fun ls hl => ?_)
    exact L24 u_8 F (1 : Int32) (0 : Int32) u_8.2.2.2.1 u_8.2.2.2.2 f_told _ _ _ hg (subP hP [3, 0, 1, 2] rfl) (hD.sub [3, 0, 1, 2] (nd2_ok _ (by decide +kernel)) rfl) hS (lv_sub hl [2, 1, 0] rfl)
  have hg := hg.2 c_15
  refine lv_iconst (v := (0 : Int32)) hx hb dX8_cats_18 (by decide) ?_
  exact k_iret C0 hr (x_cats, u_8.1, (0 : Int32), u_8.2.1, u_8.2.2.1, u_8.2.2.2.1, u_8.2.2.2.2, x_undoMany, x_came, f_told, f_now) hg (subP hP [3, 0, 1, 2] rfl) (hD.sub [3, 0, 1, 2] (nd2_ok _ (by decide +kernel)) rfl) hS dX8_cats_19
