theorem dX8_purrOf_0 : decode cX8_purrOf 0 = .ok (.aload_n 1, 1) := by decide +kernel
theorem dX8_purrOf_1 : decode cX8_purrOf 1 = .ok (.bipush 36, 2) := by decide +kernel
theorem dX8_purrOf_3 : decode cX8_purrOf 3 = .ok (.iload_n 2, 1) := by decide +kernel
theorem dX8_purrOf_4 : decode cX8_purrOf 4 = .ok (.iadd, 1) := by decide +kernel
theorem dX8_purrOf_5 : decode cX8_purrOf 5 = .ok (.iaload, 1) := by decide +kernel
theorem dX8_purrOf_6 : decode cX8_purrOf 6 = .ok (.istore_n 3, 1) := by decide +kernel
theorem dX8_purrOf_7 : decode cX8_purrOf 7 = .ok (.aload_n 0, 1) := by decide +kernel
theorem dX8_purrOf_8 : decode cX8_purrOf 8 = .ok (.aload_n 1, 1) := by decide +kernel
theorem dX8_purrOf_9 : decode cX8_purrOf 9 = .ok (.iload_n 2, 1) := by decide +kernel
theorem dX8_purrOf_10 : decode cX8_purrOf 10 = .ok (.iload_n 3, 1) := by decide +kernel
theorem dX8_purrOf_11 : decode cX8_purrOf 11 = .ok (.aload_n 0, 1) := by decide +kernel
theorem dX8_purrOf_12 : decode cX8_purrOf 12 = .ok (.aload_n 1, 1) := by decide +kernel
theorem dX8_purrOf_13 : decode cX8_purrOf 13 = .ok (.iload_n 3, 1) := by decide +kernel
theorem dX8_purrOf_14 : decode cX8_purrOf 14 = .ok (.invokevirtual 198, 3) := by decide +kernel
theorem dX8_purrOf_17 : decode cX8_purrOf 17 = .ok (.invokestatic 202, 3) := by decide +kernel
theorem dX8_purrOf_20 : decode cX8_purrOf 20 = .ok (.iconst 1, 1) := by decide +kernel
theorem dX8_purrOf_21 : decode cX8_purrOf 21 = .ok (.isub, 1) := by decide +kernel
theorem dX8_purrOf_22 : decode cX8_purrOf 22 = .ok (.invokevirtual 207, 3) := by decide +kernel
theorem dX8_purrOf_25 : decode cX8_purrOf 25 = .ok (.ireturn, 1) := by decide +kernel
def p_X8_purrOf (F : Nat) (p2 : Int32) (x_cats : Int32) (w_read : Value) (x_length : Int32) (x_top : Int32) (x_at : Int32) (x_wrong : Int32) (q_rule : Nat) (x_ruleSize : Int32) (x_isAsked : Int32) (n_b1 : Nat) (f_b1 : Nat → Int32) (f_asked : Nat → Int32) (f_rule : Nat → Int32) (Post : Int32 → (Value × Int32 × Int32 × Int32 × Int32 × Int32 × (Nat → Int32)) → Prop) : Prop := (vp_in ((36 : Int32) + p2) n_b1 ∧ (p_X8_there F (f_b1 ((36 : Int32) + p2).toNatClampNeg) x_cats n_b1 f_b1 (fun (r_14 : Int32) => (p_J6_bitCount_0f7a4 F r_14 (fun (r_17 : Int32) => (p_X8_purrIn F p2 (f_b1 ((36 : Int32) + p2).toNatClampNeg) (r_17 - (1 : Int32)) w_read x_length x_top x_at x_wrong q_rule x_ruleSize x_isAsked n_b1 f_b1 f_asked f_rule (fun (r_22 : Int32) (u_22 : (Value × Int32 × Int32 × Int32 × Int32 × Int32 × (Nat → Int32))) => (Post r_22 (u_22.1, u_22.2.1, u_22.2.2.1, u_22.2.2.2.1, u_22.2.2.2.2.1, u_22.2.2.2.2.2.1, u_22.2.2.2.2.2.2)))))))))
set_option maxHeartbeats 4000000 in
set_option maxRecDepth 100000 in
theorem c_X8_purrOf (l : Launch) (D : va_G) (cT : Nat → ClassId) (F : Nat) (h : Nat) (b1 : Nat) (p2 : Int32) (w_now : Value) (x_arches : Int32) (x_cats : Int32) (w_text : Value) (x_typed : Int32) (w_row : Value) (x_rowMany : Int32) (x_thrown : Int32) (w_read : Value) (x_length : Int32) (x_top : Int32) (x_at : Int32) (x_wrong : Int32) (w_told : Value) (q_rule : Nat) (w_otherRule : Value) (x_ruleSize : Int32) (x_isAsked : Int32) (q_asked : Nat) (w_undos : Value) (x_undoMany : Int32) (w_aside : Value) (w_then : Value) (w_hold : Value) (x_dropped : Int32) (w_acts : Value) (w_guarded : Value) (w_train : Value) (x_trolleyEnd : Int32) (w_feltOf : Value) (w_feltBy : Value) (x_feltMany : Int32) (w_many : Value) (w_heardOf : Value) (w_heardBy : Value) (x_heardMany : Int32) (w_worth : Value) (x_drawn : Int32) (x_came : Int32) (w_kept : Value) (w_isKept : Value) (w_keptCame : Value) (n_b1 : Nat) (f_b1 : Nat → Int32) (f_asked : Nat → Int32) (f_rule : Nat → Int32) (Post : Int32 → (Value × Int32 × Int32 × Int32 × Int32 × Int32 × (Nat → Int32)) → Prop) (hg : p_X8_purrOf F p2 x_cats w_read x_length x_top x_at x_wrong q_rule x_ruleSize x_isAsked n_b1 f_b1 f_asked f_rule Post) : MWi l D cT yX8_purrOf cX8_purrOf 4 (some .int) 323 10127 0 0 [.ref h, .ref b1, .int p2] [(h, oX8 w_now (.int x_arches) (.int x_cats) w_text (.int x_typed) w_row (.int x_rowMany) (.int x_thrown) w_read (.int x_length) (.int x_top) (.int x_at) (.int x_wrong) w_told (.ref q_rule) w_otherRule (.int x_ruleSize) (.int x_isAsked) (.ref q_asked) w_undos (.int x_undoMany) w_aside w_then w_hold (.int x_dropped) w_acts w_guarded w_train (.int x_trolleyEnd) w_feltOf w_feltBy (.int x_feltMany) w_many w_heardOf w_heardBy (.int x_heardMany) w_worth (.int x_drawn) (.int x_came) w_kept w_isKept w_keptCame), (b1, aI cT n_b1 f_b1), (q_asked, aI cT 7 f_asked), (q_rule, aB cT 40 f_rule)] Post (fun (u : (Value × Int32 × Int32 × Int32 × Int32 × Int32 × (Nat → Int32))) => [(h, oX8 w_now (.int x_arches) (.int x_cats) w_text (.int x_typed) w_row (.int x_rowMany) (.int x_thrown) u.1 (.int u.2.1) (.int u.2.2.1) (.int u.2.2.2.1) (.int u.2.2.2.2.1) w_told (.ref q_rule) w_otherRule (.int x_ruleSize) (.int u.2.2.2.2.2.1) (.ref q_asked) w_undos (.int x_undoMany) w_aside w_then w_hold (.int x_dropped) w_acts w_guarded w_train (.int x_trolleyEnd) w_feltOf w_feltBy (.int x_feltMany) w_many w_heardOf w_heardBy (.int x_heardMany) w_worth (.int x_drawn) (.int x_came) w_kept w_isKept w_keptCame), (b1, aI cT n_b1 f_b1), (q_asked, aI cT 7 u.2.2.2.2.2.2), (q_rule, aB cT 40 f_rule)]) := by
  refine MWi.of (by decide) (Nat.le_of_ble_eq_true rfl) ?_
  intro p e s m below meth c A hA C0 hnm hr hP hD ls hl
  have hl : lv_has ls 4 [(0, .ref h), (1, .ref b1), (2, .int p2)] := hl
  have hx := C0.x
  have hb := C0.b
  have hS : va_S A s.heap s.heap [] := va_S.rf
  have hP : va_P D cls9 [(h, oX8 w_now (.int x_arches) (.int x_cats) w_text (.int x_typed) w_row (.int x_rowMany) (.int x_thrown) w_read (.int x_length) (.int x_top) (.int x_at) (.int x_wrong) w_told (.ref q_rule) w_otherRule (.int x_ruleSize) (.int x_isAsked) (.ref q_asked) w_undos (.int x_undoMany) w_aside w_then w_hold (.int x_dropped) w_acts w_guarded w_train (.int x_trolleyEnd) w_feltOf w_feltBy (.int x_feltMany) w_many w_heardOf w_heardBy (.int x_heardMany) w_worth (.int x_drawn) (.int x_came) w_kept w_isKept w_keptCame), (b1, aI cT n_b1 f_b1), (q_asked, aI cT 7 f_asked), (q_rule, aB cT 40 f_rule)] s.heap := hP
  have hD : va_D A [(h, oX8 w_now (.int x_arches) (.int x_cats) w_text (.int x_typed) w_row (.int x_rowMany) (.int x_thrown) w_read (.int x_length) (.int x_top) (.int x_at) (.int x_wrong) w_told (.ref q_rule) w_otherRule (.int x_ruleSize) (.int x_isAsked) (.ref q_asked) w_undos (.int x_undoMany) w_aside w_then w_hold (.int x_dropped) w_acts w_guarded w_train (.int x_trolleyEnd) w_feltOf w_feltBy (.int x_feltMany) w_many w_heardOf w_heardBy (.int x_heardMany) w_worth (.int x_drawn) (.int x_came) w_kept w_isKept w_keptCame), (b1, aI cT n_b1 f_b1), (q_asked, aI cT 7 f_asked), (q_rule, aB cT 40 f_rule)] := hD
  unfold p_X8_purrOf at hg
  refine lv_aload_n hx hb dX8_purrOf_0 rfl (lv_at hl 1 rfl) ?_
  refine lv_bipush (v := (36 : Int32)) hx hb dX8_purrOf_1 (by decide) ?_
  refine lv_iload_n hx hb dX8_purrOf_3 rfl (lv_at hl 2 rfl) ?_
  refine lv_iadd hx hb dX8_purrOf_4 ?_
  obtain ⟨g_5, hg⟩ := hg
  refine k_iald C0 hP 1 rfl g_5 dX8_purrOf_5 ?_
  refine lv_istore_n (lv' := [(3, .int (f_b1 ((36 : Int32) + p2).toNatClampNeg)), (0, .ref h), (1, .ref b1), (2, .int p2)]) hx hb dX8_purrOf_6 rfl hl (by decide) rfl (fun ls hl => ?_)
  refine lv_aload_n hx hb dX8_purrOf_7 rfl (lv_at hl 1 rfl) ?_
  refine lv_aload_n hx hb dX8_purrOf_8 rfl (lv_at hl 2 rfl) ?_
  refine lv_iload_n hx hb dX8_purrOf_9 rfl (lv_at hl 3 rfl) ?_
  refine lv_iload_n hx hb dX8_purrOf_10 rfl (lv_at hl 0 rfl) ?_
  refine lv_aload_n hx hb dX8_purrOf_11 rfl (lv_at hl 1 rfl) ?_
  refine lv_aload_n hx hb dX8_purrOf_12 rfl (lv_at hl 2 rfl) ?_
  refine lv_iload_n hx hb dX8_purrOf_13 rfl (lv_at hl 0 rfl) ?_
  refine k_Vxi (rest := [.int (f_b1 ((36 : Int32) + p2).toNatClampNeg), .int p2, .ref b1, .ref h]) C0 lk_X8_198 (c_X8_there l D cT F h b1 (f_b1 ((36 : Int32) + p2).toNatClampNeg) w_now x_arches x_cats w_text x_typed w_row x_rowMany x_thrown w_read x_length x_top x_at x_wrong w_told (.ref q_rule) w_otherRule x_ruleSize x_isAsked (.ref q_asked) w_undos x_undoMany w_aside w_then w_hold x_dropped w_acts w_guarded w_train x_trolleyEnd w_feltOf w_feltBy x_feltMany w_many w_heardOf w_heardBy x_heardMany w_worth x_drawn x_came w_kept w_isKept w_keptCame n_b1 f_b1 _ hg) hP hD hS hA [0, 1] (by decide +kernel) rfl rfl rfl ⟨Nat.le_of_ble_eq_true rfl, Nat.le_of_ble_eq_true rfl⟩ rfl hl.1 rfl (Nat.le_of_ble_eq_true rfl) dX8_purrOf_14 ⟨Nat.le_of_ble_eq_true rfl, Nat.le_of_ble_eq_true rfl⟩ (fun r_14 hg => ?_)
  refine k_Sxi (rest := [.int (f_b1 ((36 : Int32) + p2).toNatClampNeg), .int p2, .ref b1, .ref h]) C0 lk_X8_202 (c_J6_bitCount_0f7a4 l D cT F r_14 _ hg) hP hD hS hA [] (by decide +kernel) rfl ⟨Nat.le_of_ble_eq_true rfl, Nat.le_of_ble_eq_true rfl⟩ rfl hl.1 rfl (Nat.le_of_ble_eq_true rfl) dX8_purrOf_17 ⟨Nat.le_of_ble_eq_true rfl, Nat.le_of_ble_eq_true rfl⟩ (fun r_17 hg => ?_)
  refine lv_iconst (v := (1 : Int32)) hx hb dX8_purrOf_20 (by decide) ?_
  refine lv_isub hx hb dX8_purrOf_21 ?_
  refine k_Vi (rest := []) (wr := []) (w2 := fun u_22 => [(h, oX8 w_now (.int x_arches) (.int x_cats) w_text (.int x_typed) w_row (.int x_rowMany) (.int x_thrown) u_22.1 (.int u_22.2.1) (.int u_22.2.2.1) (.int u_22.2.2.2.1) (.int u_22.2.2.2.2.1) w_told (.ref q_rule) w_otherRule (.int x_ruleSize) (.int u_22.2.2.2.2.2.1) (.ref q_asked) w_undos (.int x_undoMany) w_aside w_then w_hold (.int x_dropped) w_acts w_guarded w_train (.int x_trolleyEnd) w_feltOf w_feltBy (.int x_feltMany) w_many w_heardOf w_heardBy (.int x_heardMany) w_worth (.int x_drawn) (.int x_came) w_kept w_isKept w_keptCame), (b1, aI cT n_b1 f_b1), (q_asked, aI cT 7 u_22.2.2.2.2.2.2), (q_rule, aB cT 40 f_rule)]) C0 lk_X8_207 (c_X8_purrIn l D cT F h b1 p2 (f_b1 ((36 : Int32) + p2).toNatClampNeg) (r_17 - (1 : Int32)) w_now x_arches x_cats w_text x_typed w_row x_rowMany x_thrown w_read x_length x_top x_at x_wrong w_told q_rule w_otherRule x_ruleSize x_isAsked q_asked w_undos x_undoMany w_aside w_then w_hold x_dropped w_acts w_guarded w_train x_trolleyEnd w_feltOf w_feltBy x_feltMany w_many w_heardOf w_heardBy x_heardMany w_worth x_drawn x_came w_kept w_isKept w_keptCame n_b1 f_b1 f_asked f_rule _ hg) hP hD hS hA [0, 1, 2, 3] [] (by decide +kernel) rfl rfl (fun _ => rfl) rfl rfl ⟨Nat.le_of_ble_eq_true rfl, Nat.le_of_ble_eq_true rfl⟩ rfl hl.1 rfl (Nat.le_of_ble_eq_true rfl) dX8_purrOf_22 ⟨Nat.le_of_ble_eq_true rfl, Nat.le_of_ble_eq_true rfl⟩ ?_
  intro r_22 u_22 H locs hg hP hD hS
  exact k_iret C0 hr (u_22.1, u_22.2.1, u_22.2.2.1, u_22.2.2.2.1, u_22.2.2.2.2.1, u_22.2.2.2.2.2.1, u_22.2.2.2.2.2.2) hg hP hD hS dX8_purrOf_25
theorem dX8_holdOf_0 : decode cX8_holdOf 0 = .ok (.iconst 0, 1) := by decide +kernel
theorem dX8_holdOf_1 : decode cX8_holdOf 1 = .ok (.istore_n 3, 1) := by decide +kernel
theorem dX8_holdOf_2 : decode cX8_holdOf 2 = .ok (.iconst 0, 1) := by decide +kernel
theorem dX8_holdOf_3 : decode cX8_holdOf 3 = .ok (.istore 4, 2) := by decide +kernel
theorem dX8_holdOf_5 : decode cX8_holdOf 5 = .ok (.iload 4, 2) := by decide +kernel
theorem dX8_holdOf_7 : decode cX8_holdOf 7 = .ok (.aload_n 0, 1) := by decide +kernel
theorem dX8_holdOf_8 : decode cX8_holdOf 8 = .ok (.getfield 96, 3) := by decide +kernel
theorem dX8_holdOf_11 : decode cX8_holdOf 11 = .ok (.if_icmp .ge 34, 3) := by decide +kernel
theorem dX8_holdOf_14 : decode cX8_holdOf 14 = .ok (.iload_n 3, 1) := by decide +kernel
theorem dX8_holdOf_15 : decode cX8_holdOf 15 = .ok (.aload_n 1, 1) := by decide +kernel
theorem dX8_holdOf_16 : decode cX8_holdOf 16 = .ok (.bipush 36, 2) := by decide +kernel
theorem dX8_holdOf_18 : decode cX8_holdOf 18 = .ok (.iload 4, 2) := by decide +kernel
theorem dX8_holdOf_20 : decode cX8_holdOf 20 = .ok (.iadd, 1) := by decide +kernel
theorem dX8_holdOf_21 : decode cX8_holdOf 21 = .ok (.iaload, 1) := by decide +kernel
theorem dX8_holdOf_22 : decode cX8_holdOf 22 = .ok (.iload_n 2, 1) := by decide +kernel
theorem dX8_holdOf_23 : decode cX8_holdOf 23 = .ok (.if_icmp .ne 13, 3) := by decide +kernel
theorem dX8_holdOf_26 : decode cX8_holdOf 26 = .ok (.aload_n 0, 1) := by decide +kernel
theorem dX8_holdOf_27 : decode cX8_holdOf 27 = .ok (.aload_n 1, 1) := by decide +kernel
theorem dX8_holdOf_28 : decode cX8_holdOf 28 = .ok (.iload 4, 2) := by decide +kernel
theorem dX8_holdOf_30 : decode cX8_holdOf 30 = .ok (.invokevirtual 211, 3) := by decide +kernel
theorem dX8_holdOf_33 : decode cX8_holdOf 33 = .ok (.goto 4, 3) := by decide +kernel
theorem dX8_holdOf_36 : decode cX8_holdOf 36 = .ok (.iconst 0, 1) := by decide +kernel
theorem dX8_holdOf_37 : decode cX8_holdOf 37 = .ok (.iadd, 1) := by decide +kernel
theorem dX8_holdOf_38 : decode cX8_holdOf 38 = .ok (.istore_n 3, 1) := by decide +kernel
theorem dX8_holdOf_39 : decode cX8_holdOf 39 = .ok (.iinc 4 1, 3) := by decide +kernel
theorem dX8_holdOf_42 : decode cX8_holdOf 42 = .ok (.goto (-37), 3) := by decide +kernel
theorem dX8_holdOf_45 : decode cX8_holdOf 45 = .ok (.iload_n 3, 1) := by decide +kernel
theorem dX8_holdOf_46 : decode cX8_holdOf 46 = .ok (.ireturn, 1) := by decide +kernel
def p_X8_holdOf_37 (F : Nat) (y4_5 : Int32) (y3_5 : Int32) (k5 : Int32 → Int32 → Value → Int32 → Int32 → Int32 → Int32 → Int32 → (Nat → Int32) → Prop) (Post : Int32 → (Value × Int32 × Int32 × Int32 × Int32 × Int32 × (Nat → Int32)) → Prop) (s1_37 : Int32) (x_read_37 : Value) (x_length_37 : Int32) (x_top_37 : Int32) (x_at_37 : Int32) (x_wrong_37 : Int32) (x_isAsked_37 : Int32) (f_asked_37 : Nat → Int32) : Prop := (k5 (y4_5 + (1 : Int32)) (y3_5 + s1_37) x_read_37 x_length_37 x_top_37 x_at_37 x_wrong_37 x_isAsked_37 f_asked_37)
noncomputable def p_X8_holdOf_5 (F : Nat) (p2 : Int32) (x_cats : Int32) (q_rule : Nat) (x_ruleSize : Int32) (n_b1 : Nat) (f_b1 : Nat → Int32) (f_rule : Nat → Int32) (Post : Int32 → (Value × Int32 × Int32 × Int32 × Int32 × Int32 × (Nat → Int32)) → Prop) (n : Nat) : Int32 → Int32 → Value → Int32 → Int32 → Int32 → Int32 → Int32 → (Nat → Int32) → Prop := Nat.rec (motive := fun _ => Int32 → Int32 → Value → Int32 → Int32 → Int32 → Int32 → Int32 → (Nat → Int32) → Prop) (fun _ _ _ _ _ _ _ _ _ => False) (fun _ k5 => fun (y4_5 : Int32) (y3_5 : Int32) (x_read_5 : Value) (x_length_5 : Int32) (x_top_5 : Int32) (x_at_5 : Int32) (x_wrong_5 : Int32) (x_isAsked_5 : Int32) (f_asked_5 : Nat → Int32) => ((x_cats ≤ y4_5 → (Post y3_5 (x_read_5, x_length_5, x_top_5, x_at_5, x_wrong_5, x_isAsked_5, f_asked_5))) ∧ (¬ x_cats ≤ y4_5 → (vp_in ((36 : Int32) + y4_5) n_b1 ∧ ((¬ (f_b1 ((36 : Int32) + y4_5).toNatClampNeg) = p2 → (p_X8_holdOf_37 F y4_5 y3_5 k5 Post (0 : Int32) x_read_5 x_length_5 x_top_5 x_at_5 x_wrong_5 x_isAsked_5 f_asked_5)) ∧ ((f_b1 ((36 : Int32) + y4_5).toNatClampNeg) = p2 → (p_X8_purrOf F y4_5 x_cats x_read_5 x_length_5 x_top_5 x_at_5 x_wrong_5 q_rule x_ruleSize x_isAsked_5 n_b1 f_b1 f_asked_5 f_rule (fun (r_30 : Int32) (u_30 : (Value × Int32 × Int32 × Int32 × Int32 × Int32 × (Nat → Int32))) => (p_X8_holdOf_37 F y4_5 y3_5 k5 Post r_30 u_30.1 u_30.2.1 u_30.2.2.1 u_30.2.2.2.1 u_30.2.2.2.2.1 u_30.2.2.2.2.2.1 u_30.2.2.2.2.2.2))))))))) n
theorem p_X8_holdOf_5_s (F : Nat) (p2 : Int32) (x_cats : Int32) (q_rule : Nat) (x_ruleSize : Int32) (n_b1 : Nat) (f_b1 : Nat → Int32) (f_rule : Nat → Int32) (Post : Int32 → (Value × Int32 × Int32 × Int32 × Int32 × Int32 × (Nat → Int32)) → Prop) (n : Nat) (y4_5 : Int32) (y3_5 : Int32) (x_read_5 : Value) (x_length_5 : Int32) (x_top_5 : Int32) (x_at_5 : Int32) (x_wrong_5 : Int32) (x_isAsked_5 : Int32) (f_asked_5 : Nat → Int32) : p_X8_holdOf_5 F p2 x_cats q_rule x_ruleSize n_b1 f_b1 f_rule Post (n + 1) y4_5 y3_5 x_read_5 x_length_5 x_top_5 x_at_5 x_wrong_5 x_isAsked_5 f_asked_5 = ((x_cats ≤ y4_5 → (Post y3_5 (x_read_5, x_length_5, x_top_5, x_at_5, x_wrong_5, x_isAsked_5, f_asked_5))) ∧ (¬ x_cats ≤ y4_5 → (vp_in ((36 : Int32) + y4_5) n_b1 ∧ ((¬ (f_b1 ((36 : Int32) + y4_5).toNatClampNeg) = p2 → (p_X8_holdOf_37 F y4_5 y3_5 (p_X8_holdOf_5 F p2 x_cats q_rule x_ruleSize n_b1 f_b1 f_rule Post n) Post (0 : Int32) x_read_5 x_length_5 x_top_5 x_at_5 x_wrong_5 x_isAsked_5 f_asked_5)) ∧ ((f_b1 ((36 : Int32) + y4_5).toNatClampNeg) = p2 → (p_X8_purrOf F y4_5 x_cats x_read_5 x_length_5 x_top_5 x_at_5 x_wrong_5 q_rule x_ruleSize x_isAsked_5 n_b1 f_b1 f_asked_5 f_rule (fun (r_30 : Int32) (u_30 : (Value × Int32 × Int32 × Int32 × Int32 × Int32 × (Nat → Int32))) => (p_X8_holdOf_37 F y4_5 y3_5 (p_X8_holdOf_5 F p2 x_cats q_rule x_ruleSize n_b1 f_b1 f_rule Post n) Post r_30 u_30.1 u_30.2.1 u_30.2.2.1 u_30.2.2.2.1 u_30.2.2.2.2.1 u_30.2.2.2.2.2.1 u_30.2.2.2.2.2.2)))))))) := rfl
def p_X8_holdOf (F : Nat) (p2 : Int32) (x_cats : Int32) (w_read : Value) (x_length : Int32) (x_top : Int32) (x_at : Int32) (x_wrong : Int32) (q_rule : Nat) (x_ruleSize : Int32) (x_isAsked : Int32) (n_b1 : Nat) (f_b1 : Nat → Int32) (f_asked : Nat → Int32) (f_rule : Nat → Int32) (Post : Int32 → (Value × Int32 × Int32 × Int32 × Int32 × Int32 × (Nat → Int32)) → Prop) : Prop := (p_X8_holdOf_5 F p2 x_cats q_rule x_ruleSize n_b1 f_b1 f_rule Post F (0 : Int32) (0 : Int32) w_read x_length x_top x_at x_wrong x_isAsked f_asked)
set_option maxHeartbeats 4000000 in
set_option maxRecDepth 100000 in
theorem c_X8_holdOf (l : Launch) (D : va_G) (cT : Nat → ClassId) (F : Nat) (h : Nat) (b1 : Nat) (p2 : Int32) (w_now : Value) (x_arches : Int32) (x_cats : Int32) (w_text : Value) (x_typed : Int32) (w_row : Value) (x_rowMany : Int32) (x_thrown : Int32) (w_read : Value) (x_length : Int32) (x_top : Int32) (x_at : Int32) (x_wrong : Int32) (w_told : Value) (q_rule : Nat) (w_otherRule : Value) (x_ruleSize : Int32) (x_isAsked : Int32) (q_asked : Nat) (w_undos : Value) (x_undoMany : Int32) (w_aside : Value) (w_then : Value) (w_hold : Value) (x_dropped : Int32) (w_acts : Value) (w_guarded : Value) (w_train : Value) (x_trolleyEnd : Int32) (w_feltOf : Value) (w_feltBy : Value) (x_feltMany : Int32) (w_many : Value) (w_heardOf : Value) (w_heardBy : Value) (x_heardMany : Int32) (w_worth : Value) (x_drawn : Int32) (x_came : Int32) (w_kept : Value) (w_isKept : Value) (w_keptCame : Value) (n_b1 : Nat) (f_b1 : Nat → Int32) (f_asked : Nat → Int32) (f_rule : Nat → Int32) (Post : Int32 → (Value × Int32 × Int32 × Int32 × Int32 × Int32 × (Nat → Int32)) → Prop) (hg : p_X8_holdOf F p2 x_cats w_read x_length x_top x_at x_wrong q_rule x_ruleSize x_isAsked n_b1 f_b1 f_asked f_rule Post) : MWi l D cT yX8_holdOf cX8_holdOf 5 (some .int) 324 10150 0 0 [.ref h, .ref b1, .int p2] [(h, oX8 w_now (.int x_arches) (.int x_cats) w_text (.int x_typed) w_row (.int x_rowMany) (.int x_thrown) w_read (.int x_length) (.int x_top) (.int x_at) (.int x_wrong) w_told (.ref q_rule) w_otherRule (.int x_ruleSize) (.int x_isAsked) (.ref q_asked) w_undos (.int x_undoMany) w_aside w_then w_hold (.int x_dropped) w_acts w_guarded w_train (.int x_trolleyEnd) w_feltOf w_feltBy (.int x_feltMany) w_many w_heardOf w_heardBy (.int x_heardMany) w_worth (.int x_drawn) (.int x_came) w_kept w_isKept w_keptCame), (b1, aI cT n_b1 f_b1), (q_asked, aI cT 7 f_asked), (q_rule, aB cT 40 f_rule)] Post (fun (u : (Value × Int32 × Int32 × Int32 × Int32 × Int32 × (Nat → Int32))) => [(h, oX8 w_now (.int x_arches) (.int x_cats) w_text (.int x_typed) w_row (.int x_rowMany) (.int x_thrown) u.1 (.int u.2.1) (.int u.2.2.1) (.int u.2.2.2.1) (.int u.2.2.2.2.1) w_told (.ref q_rule) w_otherRule (.int x_ruleSize) (.int u.2.2.2.2.2.1) (.ref q_asked) w_undos (.int x_undoMany) w_aside w_then w_hold (.int x_dropped) w_acts w_guarded w_train (.int x_trolleyEnd) w_feltOf w_feltBy (.int x_feltMany) w_many w_heardOf w_heardBy (.int x_heardMany) w_worth (.int x_drawn) (.int x_came) w_kept w_isKept w_keptCame), (b1, aI cT n_b1 f_b1), (q_asked, aI cT 7 u.2.2.2.2.2.2), (q_rule, aB cT 40 f_rule)]) := by
  refine MWi.of (by decide) (Nat.le_of_ble_eq_true rfl) ?_
  intro p e s m below meth c A hA C0 hnm hr hP hD ls hl
  have hl : lv_has ls 5 [(0, .ref h), (1, .ref b1), (2, .int p2)] := hl
  have hx := C0.x
  have hb := C0.b
  have hS : va_S A s.heap s.heap [] := va_S.rf
  have hP : va_P D cls9 [(h, oX8 w_now (.int x_arches) (.int x_cats) w_text (.int x_typed) w_row (.int x_rowMany) (.int x_thrown) w_read (.int x_length) (.int x_top) (.int x_at) (.int x_wrong) w_told (.ref q_rule) w_otherRule (.int x_ruleSize) (.int x_isAsked) (.ref q_asked) w_undos (.int x_undoMany) w_aside w_then w_hold (.int x_dropped) w_acts w_guarded w_train (.int x_trolleyEnd) w_feltOf w_feltBy (.int x_feltMany) w_many w_heardOf w_heardBy (.int x_heardMany) w_worth (.int x_drawn) (.int x_came) w_kept w_isKept w_keptCame), (b1, aI cT n_b1 f_b1), (q_asked, aI cT 7 f_asked), (q_rule, aB cT 40 f_rule)] s.heap := hP
  have hD : va_D A [(h, oX8 w_now (.int x_arches) (.int x_cats) w_text (.int x_typed) w_row (.int x_rowMany) (.int x_thrown) w_read (.int x_length) (.int x_top) (.int x_at) (.int x_wrong) w_told (.ref q_rule) w_otherRule (.int x_ruleSize) (.int x_isAsked) (.ref q_asked) w_undos (.int x_undoMany) w_aside w_then w_hold (.int x_dropped) w_acts w_guarded w_train (.int x_trolleyEnd) w_feltOf w_feltBy (.int x_feltMany) w_many w_heardOf w_heardBy (.int x_heardMany) w_worth (.int x_drawn) (.int x_came) w_kept w_isKept w_keptCame), (b1, aI cT n_b1 f_b1), (q_asked, aI cT 7 f_asked), (q_rule, aB cT 40 f_rule)] := hD
  have L5 : ∀ (n5 : Nat) (y4_5 : Int32) (y3_5 : Int32) (x_read_5 : Value) (x_length_5 : Int32) (x_top_5 : Int32) (x_at_5 : Int32) (x_wrong_5 : Int32) (x_isAsked_5 : Int32) (f_asked_5 : Nat → Int32) (H : Heap) (locs : List Loc) (ls : Array Slot), p_X8_holdOf_5 F p2 x_cats q_rule x_ruleSize n_b1 f_b1 f_rule Post n5 y4_5 y3_5 x_read_5 x_length_5 x_top_5 x_at_5 x_wrong_5 x_isAsked_5 f_asked_5 → va_P D cls9 [(h, oX8 w_now (.int x_arches) (.int x_cats) w_text (.int x_typed) w_row (.int x_rowMany) (.int x_thrown) x_read_5 (.int x_length_5) (.int x_top_5) (.int x_at_5) (.int x_wrong_5) w_told (.ref q_rule) w_otherRule (.int x_ruleSize) (.int x_isAsked_5) (.ref q_asked) w_undos (.int x_undoMany) w_aside w_then w_hold (.int x_dropped) w_acts w_guarded w_train (.int x_trolleyEnd) w_feltOf w_feltBy (.int x_feltMany) w_many w_heardOf w_heardBy (.int x_heardMany) w_worth (.int x_drawn) (.int x_came) w_kept w_isKept w_keptCame), (b1, aI cT n_b1 f_b1), (q_asked, aI cT 7 f_asked_5), (q_rule, aB cT 40 f_rule)] H → va_D A [(h, oX8 w_now (.int x_arches) (.int x_cats) w_text (.int x_typed) w_row (.int x_rowMany) (.int x_thrown) x_read_5 (.int x_length_5) (.int x_top_5) (.int x_at_5) (.int x_wrong_5) w_told (.ref q_rule) w_otherRule (.int x_ruleSize) (.int x_isAsked_5) (.ref q_asked) w_undos (.int x_undoMany) w_aside w_then w_hold (.int x_dropped) w_acts w_guarded w_train (.int x_trolleyEnd) w_feltOf w_feltBy (.int x_feltMany) w_many w_heardOf w_heardBy (.int x_heardMany) w_worth (.int x_drawn) (.int x_came) w_kept w_isKept w_keptCame), (b1, aI cT n_b1 f_b1), (q_asked, aI cT 7 f_asked_5), (q_rule, aB cT 40 f_rule)] → va_S A s.heap H locs → lv_has ls 5 [(0, .ref h), (1, .ref b1), (2, .int p2), (3, .int y3_5), (4, .int y4_5)] → W p l e (rmO 324 10150 0 0) s m ([.ref h, .ref b1, .int p2] : List Value).toArray below meth c H locs 0 0 (MQ below (va_Qi Post (cB D A (fun (u : (Value × Int32 × Int32 × Int32 × Int32 × Int32 × (Nat → Int32))) => [(h, oX8 w_now (.int x_arches) (.int x_cats) w_text (.int x_typed) w_row (.int x_rowMany) (.int x_thrown) u.1 (.int u.2.1) (.int u.2.2.1) (.int u.2.2.2.1) (.int u.2.2.2.2.1) w_told (.ref q_rule) w_otherRule (.int x_ruleSize) (.int u.2.2.2.2.2.1) (.ref q_asked) w_undos (.int x_undoMany) w_aside w_then w_hold (.int x_dropped) w_acts w_guarded w_train (.int x_trolleyEnd) w_feltOf w_feltBy (.int x_feltMany) w_many w_heardOf w_heardBy (.int x_heardMany) w_worth (.int x_drawn) (.int x_came) w_kept w_isKept w_keptCame), (b1, aI cT n_b1 f_b1), (q_asked, aI cT 7 u.2.2.2.2.2.2), (q_rule, aB cT 40 f_rule)])) A) ([.ref h, .ref b1, .int p2] : List Value).toArray s 0 0 A) (F0 m 5 ls []) := by
    intro n5
    induction n5 with
    | zero =>
      intro y4_5 y3_5 x_read_5 x_length_5 x_top_5 x_at_5 x_wrong_5 x_isAsked_5 f_asked_5 H locs ls hg hP hD hS hl
      exact False.elim hg
    | succ n5 ih5 =>
      have L37 : ∀ (y4_5 : Int32) (y3_5 : Int32) (s1_37 : Int32) (x_read_37 : Value) (x_length_37 : Int32) (x_top_37 : Int32) (x_at_37 : Int32) (x_wrong_37 : Int32) (x_isAsked_37 : Int32) (f_asked_37 : Nat → Int32) (H : Heap) (locs : List Loc) (ls : Array Slot), p_X8_holdOf_37 F y4_5 y3_5 (p_X8_holdOf_5 F p2 x_cats q_rule x_ruleSize n_b1 f_b1 f_rule Post n5) Post s1_37 x_read_37 x_length_37 x_top_37 x_at_37 x_wrong_37 x_isAsked_37 f_asked_37 → va_P D cls9 [(h, oX8 w_now (.int x_arches) (.int x_cats) w_text (.int x_typed) w_row (.int x_rowMany) (.int x_thrown) x_read_37 (.int x_length_37) (.int x_top_37) (.int x_at_37) (.int x_wrong_37) w_told (.ref q_rule) w_otherRule (.int x_ruleSize) (.int x_isAsked_37) (.ref q_asked) w_undos (.int x_undoMany) w_aside w_then w_hold (.int x_dropped) w_acts w_guarded w_train (.int x_trolleyEnd) w_feltOf w_feltBy (.int x_feltMany) w_many w_heardOf w_heardBy (.int x_heardMany) w_worth (.int x_drawn) (.int x_came) w_kept w_isKept w_keptCame), (b1, aI cT n_b1 f_b1), (q_asked, aI cT 7 f_asked_37), (q_rule, aB cT 40 f_rule)] H → va_D A [(h, oX8 w_now (.int x_arches) (.int x_cats) w_text (.int x_typed) w_row (.int x_rowMany) (.int x_thrown) x_read_37 (.int x_length_37) (.int x_top_37) (.int x_at_37) (.int x_wrong_37) w_told (.ref q_rule) w_otherRule (.int x_ruleSize) (.int x_isAsked_37) (.ref q_asked) w_undos (.int x_undoMany) w_aside w_then w_hold (.int x_dropped) w_acts w_guarded w_train (.int x_trolleyEnd) w_feltOf w_feltBy (.int x_feltMany) w_many w_heardOf w_heardBy (.int x_heardMany) w_worth (.int x_drawn) (.int x_came) w_kept w_isKept w_keptCame), (b1, aI cT n_b1 f_b1), (q_asked, aI cT 7 f_asked_37), (q_rule, aB cT 40 f_rule)] → va_S A s.heap H locs → lv_has ls 5 [(0, .ref h), (1, .ref b1), (2, .int p2), (4, .int y4_5)] → W p l e (rmO 324 10150 0 0) s m ([.ref h, .ref b1, .int p2] : List Value).toArray below meth c H locs 0 0 (MQ below (va_Qi Post (cB D A (fun (u : (Value × Int32 × Int32 × Int32 × Int32 × Int32 × (Nat → Int32))) => [(h, oX8 w_now (.int x_arches) (.int x_cats) w_text (.int x_typed) w_row (.int x_rowMany) (.int x_thrown) u.1 (.int u.2.1) (.int u.2.2.1) (.int u.2.2.2.1) (.int u.2.2.2.2.1) w_told (.ref q_rule) w_otherRule (.int x_ruleSize) (.int u.2.2.2.2.2.1) (.ref q_asked) w_undos (.int x_undoMany) w_aside w_then w_hold (.int x_dropped) w_acts w_guarded w_train (.int x_trolleyEnd) w_feltOf w_feltBy (.int x_feltMany) w_many w_heardOf w_heardBy (.int x_heardMany) w_worth (.int x_drawn) (.int x_came) w_kept w_isKept w_keptCame), (b1, aI cT n_b1 f_b1), (q_asked, aI cT 7 u.2.2.2.2.2.2), (q_rule, aB cT 40 f_rule)])) A) ([.ref h, .ref b1, .int p2] : List Value).toArray s 0 0 A) (F0 m 37 ls [.int s1_37, .int y3_5]) := by
        intro y4_5 y3_5 s1_37 x_read_37 x_length_37 x_top_37 x_at_37 x_wrong_37 x_isAsked_37 f_asked_37 H locs ls hg hP hD hS hl
        unfold p_X8_holdOf_37 at hg
        refine lv_iadd hx hb dX8_holdOf_37 ?_
        refine lv_istore_n (lv' := [(3, .int (y3_5 + s1_37)), (0, .ref h), (1, .ref b1), (2, .int p2), (4, .int y4_5)]) hx hb dX8_holdOf_38 rfl hl (by decide) rfl (fun ls hl => ?_)
        refine lv_iinc (v := (y4_5 + (1 : Int32))) (lv' := [(4, .int (y4_5 + (1 : Int32))), (3, .int (y3_5 + s1_37)), (0, .ref h), (1, .ref b1), (2, .int p2)]) hx hb dX8_holdOf_39 hl (k := 4) rfl rfl (by decide) rfl (fun ls hl => ?_)
        refine lv_goto (tgt := 5) hx hb dX8_holdOf_42 (by decide) ?_
        exact ih5 (y4_5 + (1 : Int32)) (y3_5 + s1_37) x_read_37 x_length_37 x_top_37 x_at_37 x_wrong_37 x_isAsked_37 f_asked_37 _ _ _ hg hP hD hS (lv_sub hl [2, 3, 4, 1, 0] rfl)
      intro y4_5 y3_5 x_read_5 x_length_5 x_top_5 x_at_5 x_wrong_5 x_isAsked_5 f_asked_5 H locs ls hg hP hD hS hl
      rw [p_X8_holdOf_5_s] at hg
      refine lv_iload hx hb dX8_holdOf_5 (lv_at hl 4 rfl) ?_
      refine lv_aload_n hx hb dX8_holdOf_7 rfl (lv_at hl 0 rfl) ?_
      refine gf_X8_96 C0 hP 0 rfl rfl dX8_holdOf_8 ?_
      refine lv_icmp_ge (tgt := 45) hx hb dX8_holdOf_11 (by decide) (fun c_11 => ?_) (fun c_11 => ?_)
      · have hg := hg.1 c_11
        refine lv_iload_n hx hb dX8_holdOf_45 rfl (lv_at hl 3 rfl) ?_
        exact k_iret C0 hr (x_read_5, x_length_5, x_top_5, x_at_5, x_wrong_5, x_isAsked_5, f_asked_5) hg hP hD hS dX8_holdOf_46
      have hg := hg.2 c_11
      refine lv_iload_n hx hb dX8_holdOf_14 rfl (lv_at hl 3 rfl) ?_
      refine lv_aload_n hx hb dX8_holdOf_15 rfl (lv_at hl 1 rfl) ?_
      refine lv_bipush (v := (36 : Int32)) hx hb dX8_holdOf_16 (by decide) ?_
      refine lv_iload hx hb dX8_holdOf_18 (lv_at hl 4 rfl) ?_
      refine lv_iadd hx hb dX8_holdOf_20 ?_
      obtain ⟨g_21, hg⟩ := hg
      refine k_iald C0 hP 1 rfl g_21 dX8_holdOf_21 ?_
      refine lv_iload_n hx hb dX8_holdOf_22 rfl (lv_at hl 2 rfl) ?_
      refine lv_icmp_ne (tgt := 36) hx hb dX8_holdOf_23 (by decide) (fun c_23 => ?_) (fun c_23 => ?_)
      · have hg := hg.1 c_23
        refine lv_iconst (v := (0 : Int32)) hx hb dX8_holdOf_36 (by decide) ?_
        exact L37 y4_5 y3_5 (0 : Int32) x_read_5 x_length_5 x_top_5 x_at_5 x_wrong_5 x_isAsked_5 f_asked_5 _ _ _ hg hP hD hS (lv_sub hl [0, 1, 2, 4] rfl)
      have hg := hg.2 c_23
      refine lv_aload_n hx hb dX8_holdOf_26 rfl (lv_at hl 0 rfl) ?_
      refine lv_aload_n hx hb dX8_holdOf_27 rfl (lv_at hl 1 rfl) ?_
      refine lv_iload hx hb dX8_holdOf_28 (lv_at hl 4 rfl) ?_
      refine k_Vi (rest := [.int y3_5]) (wr := []) (w2 := fun u_30 => [(h, oX8 w_now (.int x_arches) (.int x_cats) w_text (.int x_typed) w_row (.int x_rowMany) (.int x_thrown) u_30.1 (.int u_30.2.1) (.int u_30.2.2.1) (.int u_30.2.2.2.1) (.int u_30.2.2.2.2.1) w_told (.ref q_rule) w_otherRule (.int x_ruleSize) (.int u_30.2.2.2.2.2.1) (.ref q_asked) w_undos (.int x_undoMany) w_aside w_then w_hold (.int x_dropped) w_acts w_guarded w_train (.int x_trolleyEnd) w_feltOf w_feltBy (.int x_feltMany) w_many w_heardOf w_heardBy (.int x_heardMany) w_worth (.int x_drawn) (.int x_came) w_kept w_isKept w_keptCame), (b1, aI cT n_b1 f_b1), (q_asked, aI cT 7 u_30.2.2.2.2.2.2), (q_rule, aB cT 40 f_rule)]) C0 lk_X8_211 (c_X8_purrOf l D cT F h b1 y4_5 w_now x_arches x_cats w_text x_typed w_row x_rowMany x_thrown x_read_5 x_length_5 x_top_5 x_at_5 x_wrong_5 w_told q_rule w_otherRule x_ruleSize x_isAsked_5 q_asked w_undos x_undoMany w_aside w_then w_hold x_dropped w_acts w_guarded w_train x_trolleyEnd w_feltOf w_feltBy x_feltMany w_many w_heardOf w_heardBy x_heardMany w_worth x_drawn x_came w_kept w_isKept w_keptCame n_b1 f_b1 f_asked_5 f_rule _ hg) hP hD hS hA [0, 1, 2, 3] [] (by decide +kernel) rfl rfl (fun _ => rfl) rfl rfl ⟨Nat.le_of_ble_eq_true rfl, Nat.le_of_ble_eq_true rfl⟩ rfl hl.1 rfl (Nat.le_of_ble_eq_true rfl) dX8_holdOf_30 ⟨Nat.le_of_ble_eq_true rfl, Nat.le_of_ble_eq_true rfl⟩ ?_
      intro r_30 u_30 H locs hg hP hD hS
      refine lv_goto (tgt := 37) hx hb dX8_holdOf_33 (by decide) ?_
      exact L37 y4_5 y3_5 r_30 u_30.1 u_30.2.1 u_30.2.2.1 u_30.2.2.2.1 u_30.2.2.2.2.1 u_30.2.2.2.2.2.1 u_30.2.2.2.2.2.2 _ _ _ hg hP hD hS (lv_sub hl [0, 1, 2, 4] rfl)
  unfold p_X8_holdOf at hg
  refine lv_iconst (v := (0 : Int32)) hx hb dX8_holdOf_0 (by decide) ?_
  refine lv_istore_n (lv' := [(3, .int (0 : Int32)), (0, .ref h), (1, .ref b1), (2, .int p2)]) hx hb dX8_holdOf_1 rfl hl (by decide) rfl (fun ls hl => ?_)
  refine lv_iconst (v := (0 : Int32)) hx hb dX8_holdOf_2 (by decide) ?_
  refine lv_istore (lv' := [(4, .int (0 : Int32)), (3, .int (0 : Int32)), (0, .ref h), (1, .ref b1), (2, .int p2)]) hx hb dX8_holdOf_3 hl (by decide) rfl (fun ls hl => ?_)
  exact L5 F (0 : Int32) (0 : Int32) w_read x_length x_top x_at x_wrong x_isAsked f_asked _ _ _ hg hP hD hS (lv_sub hl [2, 3, 4, 1, 0] rfl)
theorem dX8_arch_0 : decode cX8_arch 0 = .ok (.aload_n 0, 1) := by decide +kernel
theorem dX8_arch_1 : decode cX8_arch 1 = .ok (.iconst 0, 1) := by decide +kernel
theorem dX8_arch_2 : decode cX8_arch 2 = .ok (.putfield 82, 3) := by decide +kernel
theorem dX8_arch_5 : decode cX8_arch 5 = .ok (.aload_n 0, 1) := by decide +kernel
theorem dX8_arch_6 : decode cX8_arch 6 = .ok (.iload_n 1, 1) := by decide +kernel
theorem dX8_arch_7 : decode cX8_arch 7 = .ok (.invokevirtual 214, 3) := by decide +kernel
theorem dX8_arch_10 : decode cX8_arch 10 = .ok (.ifCond .eq 12, 3) := by decide +kernel
theorem dX8_arch_13 : decode cX8_arch 13 = .ok (.iload_n 2, 1) := by decide +kernel
theorem dX8_arch_14 : decode cX8_arch 14 = .ok (.iconst 0, 1) := by decide +kernel
theorem dX8_arch_15 : decode cX8_arch 15 = .ok (.iconst 3, 1) := by decide +kernel
theorem dX8_arch_16 : decode cX8_arch 16 = .ok (.invokestatic 92, 3) := by decide +kernel
theorem dX8_arch_19 : decode cX8_arch 19 = .ok (.ifCond .ne 8, 3) := by decide +kernel
theorem dX8_arch_22 : decode cX8_arch 22 = .ok (.aload_n 0, 1) := by decide +kernel
theorem dX8_arch_23 : decode cX8_arch 23 = .ok (.invokevirtual 218, 3) := by decide +kernel
theorem dX8_arch_26 : decode cX8_arch 26 = .ok (.ireturn, 1) := by decide +kernel
theorem dX8_arch_27 : decode cX8_arch 27 = .ok (.iload_n 2, 1) := by decide +kernel
theorem dX8_arch_28 : decode cX8_arch 28 = .ok (.tableswitch 55 0 2 #[28, 35, 45], 28) := by decide +kernel
theorem dX8_arch_56 : decode cX8_arch 56 = .ok (.aload_n 0, 1) := by decide +kernel
theorem dX8_arch_57 : decode cX8_arch 57 = .ok (.getfield 9, 3) := by decide +kernel
theorem dX8_arch_60 : decode cX8_arch 60 = .ok (.iload_n 1, 1) := by decide +kernel
theorem dX8_arch_61 : decode cX8_arch 61 = .ok (.iaload, 1) := by decide +kernel
theorem dX8_arch_62 : decode cX8_arch 62 = .ok (.ireturn, 1) := by decide +kernel
theorem dX8_arch_63 : decode cX8_arch 63 = .ok (.aload_n 0, 1) := by decide +kernel
theorem dX8_arch_64 : decode cX8_arch 64 = .ok (.getfield 9, 3) := by decide +kernel
theorem dX8_arch_67 : decode cX8_arch 67 = .ok (.bipush 6, 2) := by decide +kernel
theorem dX8_arch_69 : decode cX8_arch 69 = .ok (.iload_n 1, 1) := by decide +kernel
theorem dX8_arch_70 : decode cX8_arch 70 = .ok (.iadd, 1) := by decide +kernel
theorem dX8_arch_71 : decode cX8_arch 71 = .ok (.iaload, 1) := by decide +kernel
theorem dX8_arch_72 : decode cX8_arch 72 = .ok (.ireturn, 1) := by decide +kernel
theorem dX8_arch_73 : decode cX8_arch 73 = .ok (.aload_n 0, 1) := by decide +kernel
theorem dX8_arch_74 : decode cX8_arch 74 = .ok (.aload_n 0, 1) := by decide +kernel
theorem dX8_arch_75 : decode cX8_arch 75 = .ok (.getfield 9, 3) := by decide +kernel
theorem dX8_arch_78 : decode cX8_arch 78 = .ok (.iload_n 1, 1) := by decide +kernel
theorem dX8_arch_79 : decode cX8_arch 79 = .ok (.invokevirtual 198, 3) := by decide +kernel
theorem dX8_arch_82 : decode cX8_arch 82 = .ok (.ireturn, 1) := by decide +kernel
theorem dX8_arch_83 : decode cX8_arch 83 = .ok (.aload_n 0, 1) := by decide +kernel
theorem dX8_arch_84 : decode cX8_arch 84 = .ok (.aload_n 0, 1) := by decide +kernel
theorem dX8_arch_85 : decode cX8_arch 85 = .ok (.getfield 9, 3) := by decide +kernel
theorem dX8_arch_88 : decode cX8_arch 88 = .ok (.iload_n 1, 1) := by decide +kernel
theorem dX8_arch_89 : decode cX8_arch 89 = .ok (.invokevirtual 221, 3) := by decide +kernel
theorem dX8_arch_92 : decode cX8_arch 92 = .ok (.ireturn, 1) := by decide +kernel
def p_X8_arch_22 (F : Nat) (w_read : Value) (x_length : Int32) (x_top : Int32) (x_at : Int32) (x_wrong : Int32) (x_isAsked : Int32) (f_asked : Nat → Int32) (Post : Int32 → (Int32 × Value × Int32 × Int32 × Int32 × Int32 × Int32 × (Nat → Int32)) → Prop) : Prop := (p_X8_lost F (fun (r_23 : Int32) (u_23 : Int32) => (Post r_23 (u_23, w_read, x_length, x_top, x_at, x_wrong, x_isAsked, f_asked))))
def p_X8_arch (F : Nat) (p1 : Int32) (p2 : Int32) (x_arches : Int32) (x_cats : Int32) (w_read : Value) (x_length : Int32) (x_top : Int32) (x_at : Int32) (x_wrong : Int32) (q_rule : Nat) (x_ruleSize : Int32) (x_isAsked : Int32) (f_now : Nat → Int32) (f_asked : Nat → Int32) (f_rule : Nat → Int32) (Post : Int32 → (Int32 × Value × Int32 × Int32 × Int32 × Int32 × Int32 × (Nat → Int32)) → Prop) : Prop := (p_X8_isArch F p1 x_arches (fun (r_7 : Int32) => ((r_7 = 0 → (p_X8_arch_22 F w_read x_length x_top x_at x_wrong x_isAsked f_asked Post )) ∧ (¬ r_7 = 0 → (p_X8_in F p2 (0 : Int32) (3 : Int32) (fun (r_16 : Int32) => ((¬ r_16 = 0 → ((p2 = (0 : Int32) → (vp_in p1 47 ∧ (Post (f_now p1.toNatClampNeg) ((0 : Int32), w_read, x_length, x_top, x_at, x_wrong, x_isAsked, f_asked)))) ∧ (¬ p2 = (0 : Int32) → ((p2 = (1 : Int32) → (vp_in ((6 : Int32) + p1) 47 ∧ (Post (f_now ((6 : Int32) + p1).toNatClampNeg) ((0 : Int32), w_read, x_length, x_top, x_at, x_wrong, x_isAsked, f_asked)))) ∧ (¬ p2 = (1 : Int32) → ((p2 = (2 : Int32) → (p_X8_there F p1 x_cats 47 f_now (fun (r_79 : Int32) => (Post r_79 ((0 : Int32), w_read, x_length, x_top, x_at, x_wrong, x_isAsked, f_asked))))) ∧ (¬ p2 = (2 : Int32) → (p_X8_holdOf F p1 x_cats w_read x_length x_top x_at x_wrong q_rule x_ruleSize x_isAsked 47 f_now f_asked f_rule (fun (r_89 : Int32) (u_89 : (Value × Int32 × Int32 × Int32 × Int32 × Int32 × (Nat → Int32))) => (Post r_89 ((0 : Int32), u_89.1, u_89.2.1, u_89.2.2.1, u_89.2.2.2.1, u_89.2.2.2.2.1, u_89.2.2.2.2.2.1, u_89.2.2.2.2.2.2))))))))))) ∧ (r_16 = 0 → (p_X8_arch_22 F w_read x_length x_top x_at x_wrong x_isAsked f_asked Post )))))))))
set_option maxHeartbeats 4000000 in
set_option maxRecDepth 100000 in
theorem c_X8_arch (l : Launch) (D : va_G) (cT : Nat → ClassId) (F : Nat) (h : Nat) (p1 : Int32) (p2 : Int32) (q_now : Nat) (x_arches : Int32) (x_cats : Int32) (w_text : Value) (x_typed : Int32) (w_row : Value) (x_rowMany : Int32) (x_thrown : Int32) (w_read : Value) (x_length : Int32) (x_top : Int32) (x_at : Int32) (x_wrong : Int32) (w_told : Value) (q_rule : Nat) (w_otherRule : Value) (x_ruleSize : Int32) (x_isAsked : Int32) (q_asked : Nat) (w_undos : Value) (x_undoMany : Int32) (w_aside : Value) (w_then : Value) (w_hold : Value) (x_dropped : Int32) (w_acts : Value) (w_guarded : Value) (w_train : Value) (x_trolleyEnd : Int32) (w_feltOf : Value) (w_feltBy : Value) (x_feltMany : Int32) (w_many : Value) (w_heardOf : Value) (w_heardBy : Value) (x_heardMany : Int32) (w_worth : Value) (x_drawn : Int32) (x_came : Int32) (w_kept : Value) (w_isKept : Value) (w_keptCame : Value) (f_now : Nat → Int32) (f_asked : Nat → Int32) (f_rule : Nat → Int32) (Post : Int32 → (Int32 × Value × Int32 × Int32 × Int32 × Int32 × Int32 × (Nat → Int32)) → Prop) (hg : p_X8_arch F p1 p2 x_arches x_cats w_read x_length x_top x_at x_wrong q_rule x_ruleSize x_isAsked f_now f_asked f_rule Post) : MWi l D cT yX8_arch cX8_arch 3 (some .int) 325 10174 0 0 [.ref h, .int p1, .int p2] [(h, oX8 (.ref q_now) (.int x_arches) (.int x_cats) w_text (.int x_typed) w_row (.int x_rowMany) (.int x_thrown) w_read (.int x_length) (.int x_top) (.int x_at) (.int x_wrong) w_told (.ref q_rule) w_otherRule (.int x_ruleSize) (.int x_isAsked) (.ref q_asked) w_undos (.int x_undoMany) w_aside w_then w_hold (.int x_dropped) w_acts w_guarded w_train (.int x_trolleyEnd) w_feltOf w_feltBy (.int x_feltMany) w_many w_heardOf w_heardBy (.int x_heardMany) w_worth (.int x_drawn) (.int x_came) w_kept w_isKept w_keptCame), (q_now, aI cT 47 f_now), (q_asked, aI cT 7 f_asked), (q_rule, aB cT 40 f_rule)] Post (fun (u : (Int32 × Value × Int32 × Int32 × Int32 × Int32 × Int32 × (Nat → Int32))) => [(h, oX8 (.ref q_now) (.int x_arches) (.int x_cats) w_text (.int x_typed) w_row (.int x_rowMany) (.int u.1) u.2.1 (.int u.2.2.1) (.int u.2.2.2.1) (.int u.2.2.2.2.1) (.int u.2.2.2.2.2.1) w_told (.ref q_rule) w_otherRule (.int x_ruleSize) (.int u.2.2.2.2.2.2.1) (.ref q_asked) w_undos (.int x_undoMany) w_aside w_then w_hold (.int x_dropped) w_acts w_guarded w_train (.int x_trolleyEnd) w_feltOf w_feltBy (.int x_feltMany) w_many w_heardOf w_heardBy (.int x_heardMany) w_worth (.int x_drawn) (.int x_came) w_kept w_isKept w_keptCame), (q_now, aI cT 47 f_now), (q_asked, aI cT 7 u.2.2.2.2.2.2.2), (q_rule, aB cT 40 f_rule)]) := by
  refine MWi.of (by decide) (Nat.le_of_ble_eq_true rfl) ?_
  intro p e s m below meth c A hA C0 hnm hr hP hD ls hl
  have hl : lv_has ls 3 [(0, .ref h), (1, .int p1), (2, .int p2)] := hl
  have hx := C0.x
  have hb := C0.b
  have hS : va_S A s.heap s.heap [] := va_S.rf
  have hP : va_P D cls9 [(h, oX8 (.ref q_now) (.int x_arches) (.int x_cats) w_text (.int x_typed) w_row (.int x_rowMany) (.int x_thrown) w_read (.int x_length) (.int x_top) (.int x_at) (.int x_wrong) w_told (.ref q_rule) w_otherRule (.int x_ruleSize) (.int x_isAsked) (.ref q_asked) w_undos (.int x_undoMany) w_aside w_then w_hold (.int x_dropped) w_acts w_guarded w_train (.int x_trolleyEnd) w_feltOf w_feltBy (.int x_feltMany) w_many w_heardOf w_heardBy (.int x_heardMany) w_worth (.int x_drawn) (.int x_came) w_kept w_isKept w_keptCame), (q_now, aI cT 47 f_now), (q_asked, aI cT 7 f_asked), (q_rule, aB cT 40 f_rule)] s.heap := hP
  have hD : va_D A [(h, oX8 (.ref q_now) (.int x_arches) (.int x_cats) w_text (.int x_typed) w_row (.int x_rowMany) (.int x_thrown) w_read (.int x_length) (.int x_top) (.int x_at) (.int x_wrong) w_told (.ref q_rule) w_otherRule (.int x_ruleSize) (.int x_isAsked) (.ref q_asked) w_undos (.int x_undoMany) w_aside w_then w_hold (.int x_dropped) w_acts w_guarded w_train (.int x_trolleyEnd) w_feltOf w_feltBy (.int x_feltMany) w_many w_heardOf w_heardBy (.int x_heardMany) w_worth (.int x_drawn) (.int x_came) w_kept w_isKept w_keptCame), (q_now, aI cT 47 f_now), (q_asked, aI cT 7 f_asked), (q_rule, aB cT 40 f_rule)] := hD
  have L22 : ∀ (H : Heap) (locs : List Loc) (ls : Array Slot), p_X8_arch_22 F w_read x_length x_top x_at x_wrong x_isAsked f_asked Post → va_P D cls9 [(h, oX8 (.ref q_now) (.int x_arches) (.int x_cats) w_text (.int x_typed) w_row (.int x_rowMany) (.int (0 : Int32)) w_read (.int x_length) (.int x_top) (.int x_at) (.int x_wrong) w_told (.ref q_rule) w_otherRule (.int x_ruleSize) (.int x_isAsked) (.ref q_asked) w_undos (.int x_undoMany) w_aside w_then w_hold (.int x_dropped) w_acts w_guarded w_train (.int x_trolleyEnd) w_feltOf w_feltBy (.int x_feltMany) w_many w_heardOf w_heardBy (.int x_heardMany) w_worth (.int x_drawn) (.int x_came) w_kept w_isKept w_keptCame), (q_now, aI cT 47 f_now), (q_asked, aI cT 7 f_asked), (q_rule, aB cT 40 f_rule)] H → va_D A [(h, oX8 (.ref q_now) (.int x_arches) (.int x_cats) w_text (.int x_typed) w_row (.int x_rowMany) (.int (0 : Int32)) w_read (.int x_length) (.int x_top) (.int x_at) (.int x_wrong) w_told (.ref q_rule) w_otherRule (.int x_ruleSize) (.int x_isAsked) (.ref q_asked) w_undos (.int x_undoMany) w_aside w_then w_hold (.int x_dropped) w_acts w_guarded w_train (.int x_trolleyEnd) w_feltOf w_feltBy (.int x_feltMany) w_many w_heardOf w_heardBy (.int x_heardMany) w_worth (.int x_drawn) (.int x_came) w_kept w_isKept w_keptCame), (q_now, aI cT 47 f_now), (q_asked, aI cT 7 f_asked), (q_rule, aB cT 40 f_rule)] → va_S A s.heap H locs → lv_has ls 3 [(0, .ref h)] → W p l e (rmO 325 10174 0 0) s m ([.ref h, .int p1, .int p2] : List Value).toArray below meth c H locs 0 0 (MQ below (va_Qi Post (cB D A (fun (u : (Int32 × Value × Int32 × Int32 × Int32 × Int32 × Int32 × (Nat → Int32))) => [(h, oX8 (.ref q_now) (.int x_arches) (.int x_cats) w_text (.int x_typed) w_row (.int x_rowMany) (.int u.1) u.2.1 (.int u.2.2.1) (.int u.2.2.2.1) (.int u.2.2.2.2.1) (.int u.2.2.2.2.2.1) w_told (.ref q_rule) w_otherRule (.int x_ruleSize) (.int u.2.2.2.2.2.2.1) (.ref q_asked) w_undos (.int x_undoMany) w_aside w_then w_hold (.int x_dropped) w_acts w_guarded w_train (.int x_trolleyEnd) w_feltOf w_feltBy (.int x_feltMany) w_many w_heardOf w_heardBy (.int x_heardMany) w_worth (.int x_drawn) (.int x_came) w_kept w_isKept w_keptCame), (q_now, aI cT 47 f_now), (q_asked, aI cT 7 u.2.2.2.2.2.2.2), (q_rule, aB cT 40 f_rule)])) A) ([.ref h, .int p1, .int p2] : List Value).toArray s 0 0 A) (F0 m 22 ls []) := by
    intro H locs ls hg hP hD hS hl
    unfold p_X8_arch_22 at hg
    refine lv_aload_n hx hb dX8_arch_22 rfl (lv_at hl 0 rfl) ?_
    refine k_Vi (rest := []) (wr := [(q_now, aI cT 47 f_now), (q_asked, aI cT 7 f_asked), (q_rule, aB cT 40 f_rule)]) (w2 := fun u_23 => [(q_now, aI cT 47 f_now), (q_asked, aI cT 7 f_asked), (q_rule, aB cT 40 f_rule), (h, oX8 (.ref q_now) (.int x_arches) (.int x_cats) w_text (.int x_typed) w_row (.int x_rowMany) (.int u_23) w_read (.int x_length) (.int x_top) (.int x_at) (.int x_wrong) w_told (.ref q_rule) w_otherRule (.int x_ruleSize) (.int x_isAsked) (.ref q_asked) w_undos (.int x_undoMany) w_aside w_then w_hold (.int x_dropped) w_acts w_guarded w_train (.int x_trolleyEnd) w_feltOf w_feltBy (.int x_feltMany) w_many w_heardOf w_heardBy (.int x_heardMany) w_worth (.int x_drawn) (.int x_came) w_kept w_isKept w_keptCame)]) C0 lk_X8_218 (c_X8_lost l D cT F h (.ref q_now) x_arches x_cats w_text x_typed w_row x_rowMany (0 : Int32) w_read x_length x_top x_at x_wrong w_told (.ref q_rule) w_otherRule x_ruleSize x_isAsked (.ref q_asked) w_undos x_undoMany w_aside w_then w_hold x_dropped w_acts w_guarded w_train x_trolleyEnd w_feltOf w_feltBy x_feltMany w_many w_heardOf w_heardBy x_heardMany w_worth x_drawn x_came w_kept w_isKept w_keptCame _ hg) hP hD hS hA [0] [1, 2, 3] (by decide +kernel) rfl rfl (fun _ => rfl) rfl rfl ⟨Nat.le_of_ble_eq_true rfl, Nat.le_of_ble_eq_true rfl⟩ rfl hl.1 rfl (Nat.le_of_ble_eq_true rfl) dX8_arch_23 ⟨Nat.le_of_ble_eq_true rfl, Nat.le_of_ble_eq_true rfl⟩ ?_
    intro r_23 u_23 H locs hg hP hD hS
    exact k_iret C0 hr (u_23, w_read, x_length, x_top, x_at, x_wrong, x_isAsked, f_asked) hg (subP hP [3, 0, 1, 2] rfl) (hD.sub [3, 0, 1, 2] (nd2_ok _ (by decide +kernel)) rfl) hS dX8_arch_26
  unfold p_X8_arch at hg
  refine lv_aload_n hx hb dX8_arch_0 rfl (lv_at hl 0 rfl) ?_
  refine lv_iconst (v := (0 : Int32)) hx hb dX8_arch_1 (by decide) ?_
  refine pf_X8_82 C0 hP hD hS 0 rfl (Nat.le_of_ble_eq_true rfl) (ws2 := [(h, oX8 (.ref q_now) (.int x_arches) (.int x_cats) w_text (.int x_typed) w_row (.int x_rowMany) (.int (0 : Int32)) w_read (.int x_length) (.int x_top) (.int x_at) (.int x_wrong) w_told (.ref q_rule) w_otherRule (.int x_ruleSize) (.int x_isAsked) (.ref q_asked) w_undos (.int x_undoMany) w_aside w_then w_hold (.int x_dropped) w_acts w_guarded w_train (.int x_trolleyEnd) w_feltOf w_feltBy (.int x_feltMany) w_many w_heardOf w_heardBy (.int x_heardMany) w_worth (.int x_drawn) (.int x_came) w_kept w_isKept w_keptCame), (q_now, aI cT 47 f_now), (q_asked, aI cT 7 f_asked), (q_rule, aB cT 40 f_rule)]) rfl dX8_arch_2 (fun H locs hP hD hS => ?_)
  refine lv_aload_n hx hb dX8_arch_5 rfl (lv_at hl 0 rfl) ?_
  refine lv_iload_n hx hb dX8_arch_6 rfl (lv_at hl 1 rfl) ?_
  refine k_Vxi (rest := []) C0 lk_X8_214 (c_X8_isArch l D cT F h p1 (.ref q_now) x_arches x_cats w_text x_typed w_row x_rowMany (0 : Int32) w_read x_length x_top x_at x_wrong w_told (.ref q_rule) w_otherRule x_ruleSize x_isAsked (.ref q_asked) w_undos x_undoMany w_aside w_then w_hold x_dropped w_acts w_guarded w_train x_trolleyEnd w_feltOf w_feltBy x_feltMany w_many w_heardOf w_heardBy x_heardMany w_worth x_drawn x_came w_kept w_isKept w_keptCame _ hg) hP hD hS hA [0] (by decide +kernel) rfl rfl rfl ⟨Nat.le_of_ble_eq_true rfl, Nat.le_of_ble_eq_true rfl⟩ rfl hl.1 rfl (Nat.le_of_ble_eq_true rfl) dX8_arch_7 ⟨Nat.le_of_ble_eq_true rfl, Nat.le_of_ble_eq_true rfl⟩ (fun r_7 hg => ?_)
  refine lv_if_eq (tgt := 22) hx hb dX8_arch_10 (by decide) (fun c_10 => ?_) (fun c_10 => ?_)
  · have hg := hg.1 c_10
    exact L22 _ _ _ hg hP hD hS (lv_sub hl [0] rfl)
  have hg := hg.2 c_10
  refine lv_iload_n hx hb dX8_arch_13 rfl (lv_at hl 2 rfl) ?_
  refine lv_iconst (v := (0 : Int32)) hx hb dX8_arch_14 (by decide) ?_
  refine lv_iconst (v := (3 : Int32)) hx hb dX8_arch_15 (by decide) ?_
  refine k_Sxi (rest := []) C0 lk_X8_92 (c_X8_in l D cT F p2 (0 : Int32) (3 : Int32) _ hg) hP hD hS hA [] (by decide +kernel) rfl ⟨Nat.le_of_ble_eq_true rfl, Nat.le_of_ble_eq_true rfl⟩ rfl hl.1 rfl (Nat.le_of_ble_eq_true rfl) dX8_arch_16 ⟨Nat.le_of_ble_eq_true rfl, Nat.le_of_ble_eq_true rfl⟩ (fun r_16 hg => ?_)
  refine lv_if_ne (tgt := 27) hx hb dX8_arch_19 (by decide) (fun c_19 => ?_) (fun c_19 => ?_)
  · have hg := hg.1 c_19
    refine lv_iload_n hx hb dX8_arch_27 rfl (lv_at hl 2 rfl) ?_
    rcases Classical.em (p2 = (0 : Int32)) with c_28_0 | c_28_0
    · have hg := hg.1 c_28_0
      refine lv_tableIn (tgt := 56) hx hb dX8_arch_28 (by rw [c_28_0]; decide) (by rw [c_28_0]; decide) (by rw [c_28_0]; rfl) (by decide) ?_
      refine lv_aload_n hx hb dX8_arch_56 rfl (lv_at hl 0 rfl) ?_
      refine gf_X8_9 C0 hP 0 rfl rfl dX8_arch_57 ?_
      refine lv_iload_n hx hb dX8_arch_60 rfl (lv_at hl 1 rfl) ?_
      obtain ⟨g_61, hg⟩ := hg
      refine k_iald C0 hP 1 rfl g_61 dX8_arch_61 ?_
      exact k_iret C0 hr ((0 : Int32), w_read, x_length, x_top, x_at, x_wrong, x_isAsked, f_asked) hg hP hD hS dX8_arch_62
    have hg := hg.2 c_28_0
    rcases Classical.em (p2 = (1 : Int32)) with c_28_1 | c_28_1
    · have hg := hg.1 c_28_1
      refine lv_tableIn (tgt := 63) hx hb dX8_arch_28 (by rw [c_28_1]; decide) (by rw [c_28_1]; decide) (by rw [c_28_1]; rfl) (by decide) ?_
      refine lv_aload_n hx hb dX8_arch_63 rfl (lv_at hl 0 rfl) ?_
      refine gf_X8_9 C0 hP 0 rfl rfl dX8_arch_64 ?_
      refine lv_bipush (v := (6 : Int32)) hx hb dX8_arch_67 (by decide) ?_
      refine lv_iload_n hx hb dX8_arch_69 rfl (lv_at hl 1 rfl) ?_
      refine lv_iadd hx hb dX8_arch_70 ?_
      obtain ⟨g_71, hg⟩ := hg
      refine k_iald C0 hP 1 rfl g_71 dX8_arch_71 ?_
      exact k_iret C0 hr ((0 : Int32), w_read, x_length, x_top, x_at, x_wrong, x_isAsked, f_asked) hg hP hD hS dX8_arch_72
    have hg := hg.2 c_28_1
    rcases Classical.em (p2 = (2 : Int32)) with c_28_2 | c_28_2
    · have hg := hg.1 c_28_2
      refine lv_tableIn (tgt := 73) hx hb dX8_arch_28 (by rw [c_28_2]; decide) (by rw [c_28_2]; decide) (by rw [c_28_2]; rfl) (by decide) ?_
      refine lv_aload_n hx hb dX8_arch_73 rfl (lv_at hl 0 rfl) ?_
      refine lv_aload_n hx hb dX8_arch_74 rfl (lv_at hl 0 rfl) ?_
      refine gf_X8_9 C0 hP 0 rfl rfl dX8_arch_75 ?_
      refine lv_iload_n hx hb dX8_arch_78 rfl (lv_at hl 1 rfl) ?_
      refine k_Vxi (rest := []) C0 lk_X8_198 (c_X8_there l D cT F h q_now p1 (.ref q_now) x_arches x_cats w_text x_typed w_row x_rowMany (0 : Int32) w_read x_length x_top x_at x_wrong w_told (.ref q_rule) w_otherRule x_ruleSize x_isAsked (.ref q_asked) w_undos x_undoMany w_aside w_then w_hold x_dropped w_acts w_guarded w_train x_trolleyEnd w_feltOf w_feltBy x_feltMany w_many w_heardOf w_heardBy x_heardMany w_worth x_drawn x_came w_kept w_isKept w_keptCame 47 f_now _ hg) hP hD hS hA [0, 1] (by decide +kernel) rfl rfl rfl ⟨Nat.le_of_ble_eq_true rfl, Nat.le_of_ble_eq_true rfl⟩ rfl hl.1 rfl (Nat.le_of_ble_eq_true rfl) dX8_arch_79 ⟨Nat.le_of_ble_eq_true rfl, Nat.le_of_ble_eq_true rfl⟩ (fun r_79 hg => ?_)
      exact k_iret C0 hr ((0 : Int32), w_read, x_length, x_top, x_at, x_wrong, x_isAsked, f_asked) hg hP hD hS dX8_arch_82
    have hg := hg.2 c_28_2
    refine sw_def (x := p2) (lo := 0) (dflt := 55) (tgt := 83) hx hb dX8_arch_28 (by decide) (by decide) ?_ ?_
    · intro k hk hx2
      have n_28_0 := ne_toInt (k := 0) (by decide) c_28_0
      have n_28_1 := ne_toInt (k := 1) (by decide) c_28_1
      have n_28_2 := ne_toInt (k := 2) (by decide) c_28_2
      have hk3 : k < 3 := hk
      match k, hk3 with
      | 0, _ => exact absurd hx2 (by omega)
      | 1, _ => exact absurd hx2 (by omega)
      | 2, _ => exact absurd hx2 (by omega)
      | k + 3, h => exact absurd h (by omega)
    refine lv_aload_n hx hb dX8_arch_83 rfl (lv_at hl 0 rfl) ?_
    refine lv_aload_n hx hb dX8_arch_84 rfl (lv_at hl 0 rfl) ?_
    refine gf_X8_9 C0 hP 0 rfl rfl dX8_arch_85 ?_
    refine lv_iload_n hx hb dX8_arch_88 rfl (lv_at hl 1 rfl) ?_
    refine k_Vi (rest := []) (wr := []) (w2 := fun u_89 => [(h, oX8 (.ref q_now) (.int x_arches) (.int x_cats) w_text (.int x_typed) w_row (.int x_rowMany) (.int (0 : Int32)) u_89.1 (.int u_89.2.1) (.int u_89.2.2.1) (.int u_89.2.2.2.1) (.int u_89.2.2.2.2.1) w_told (.ref q_rule) w_otherRule (.int x_ruleSize) (.int u_89.2.2.2.2.2.1) (.ref q_asked) w_undos (.int x_undoMany) w_aside w_then w_hold (.int x_dropped) w_acts w_guarded w_train (.int x_trolleyEnd) w_feltOf w_feltBy (.int x_feltMany) w_many w_heardOf w_heardBy (.int x_heardMany) w_worth (.int x_drawn) (.int x_came) w_kept w_isKept w_keptCame), (q_now, aI cT 47 f_now), (q_asked, aI cT 7 u_89.2.2.2.2.2.2), (q_rule, aB cT 40 f_rule)]) C0 lk_X8_221 (c_X8_holdOf l D cT F h q_now p1 (.ref q_now) x_arches x_cats w_text x_typed w_row x_rowMany (0 : Int32) w_read x_length x_top x_at x_wrong w_told q_rule w_otherRule x_ruleSize x_isAsked q_asked w_undos x_undoMany w_aside w_then w_hold x_dropped w_acts w_guarded w_train x_trolleyEnd w_feltOf w_feltBy x_feltMany w_many w_heardOf w_heardBy x_heardMany w_worth x_drawn x_came w_kept w_isKept w_keptCame 47 f_now f_asked f_rule _ hg) hP hD hS hA [0, 1, 2, 3] [] (by decide +kernel) rfl rfl (fun _ => rfl) rfl rfl ⟨Nat.le_of_ble_eq_true rfl, Nat.le_of_ble_eq_true rfl⟩ rfl hl.1 rfl (Nat.le_of_ble_eq_true rfl) dX8_arch_89 ⟨Nat.le_of_ble_eq_true rfl, Nat.le_of_ble_eq_true rfl⟩ ?_
    intro r_89 u_89 H locs hg hP hD hS
    exact k_iret C0 hr ((0 : Int32), u_89.1, u_89.2.1, u_89.2.2.1, u_89.2.2.2.1, u_89.2.2.2.2.1, u_89.2.2.2.2.2.1, u_89.2.2.2.2.2.2) hg hP hD hS dX8_arch_92
  have hg := hg.2 c_19
  exact L22 _ _ _ hg hP hD hS (lv_sub hl [0] rfl)
theorem dX8_cat_0 : decode cX8_cat 0 = .ok (.aload_n 0, 1) := by decide +kernel
theorem dX8_cat_1 : decode cX8_cat 1 = .ok (.iconst 0, 1) := by decide +kernel
theorem dX8_cat_2 : decode cX8_cat 2 = .ok (.putfield 82, 3) := by decide +kernel
theorem dX8_cat_5 : decode cX8_cat 5 = .ok (.aload_n 0, 1) := by decide +kernel
theorem dX8_cat_6 : decode cX8_cat 6 = .ok (.iload_n 1, 1) := by decide +kernel
theorem dX8_cat_7 : decode cX8_cat 7 = .ok (.invokevirtual 224, 3) := by decide +kernel
theorem dX8_cat_10 : decode cX8_cat 10 = .ok (.ifCond .eq 12, 3) := by decide +kernel
theorem dX8_cat_13 : decode cX8_cat 13 = .ok (.iload_n 2, 1) := by decide +kernel
theorem dX8_cat_14 : decode cX8_cat 14 = .ok (.iconst 0, 1) := by decide +kernel
theorem dX8_cat_15 : decode cX8_cat 15 = .ok (.iconst 4, 1) := by decide +kernel
theorem dX8_cat_16 : decode cX8_cat 16 = .ok (.invokestatic 92, 3) := by decide +kernel
theorem dX8_cat_19 : decode cX8_cat 19 = .ok (.ifCond .ne 8, 3) := by decide +kernel
theorem dX8_cat_22 : decode cX8_cat 22 = .ok (.aload_n 0, 1) := by decide +kernel
theorem dX8_cat_23 : decode cX8_cat 23 = .ok (.invokevirtual 218, 3) := by decide +kernel
theorem dX8_cat_26 : decode cX8_cat 26 = .ok (.ireturn, 1) := by decide +kernel
theorem dX8_cat_27 : decode cX8_cat 27 = .ok (.iload_n 2, 1) := by decide +kernel
theorem dX8_cat_28 : decode cX8_cat 28 = .ok (.iconst 4, 1) := by decide +kernel
theorem dX8_cat_29 : decode cX8_cat 29 = .ok (.if_icmp .ge 20, 3) := by decide +kernel
theorem dX8_cat_32 : decode cX8_cat 32 = .ok (.aload_n 0, 1) := by decide +kernel
theorem dX8_cat_33 : decode cX8_cat 33 = .ok (.getfield 9, 3) := by decide +kernel
theorem dX8_cat_36 : decode cX8_cat 36 = .ok (.bipush 12, 2) := by decide +kernel
theorem dX8_cat_38 : decode cX8_cat 38 = .ok (.bipush 8, 2) := by decide +kernel
theorem dX8_cat_40 : decode cX8_cat 40 = .ok (.iload_n 2, 1) := by decide +kernel
theorem dX8_cat_41 : decode cX8_cat 41 = .ok (.imul, 1) := by decide +kernel
theorem dX8_cat_42 : decode cX8_cat 42 = .ok (.iadd, 1) := by decide +kernel
theorem dX8_cat_43 : decode cX8_cat 43 = .ok (.iload_n 1, 1) := by decide +kernel
theorem dX8_cat_44 : decode cX8_cat 44 = .ok (.iadd, 1) := by decide +kernel
theorem dX8_cat_45 : decode cX8_cat 45 = .ok (.iaload, 1) := by decide +kernel
theorem dX8_cat_46 : decode cX8_cat 46 = .ok (.goto 12, 3) := by decide +kernel
theorem dX8_cat_49 : decode cX8_cat 49 = .ok (.aload_n 0, 1) := by decide +kernel
theorem dX8_cat_50 : decode cX8_cat 50 = .ok (.aload_n 0, 1) := by decide +kernel
theorem dX8_cat_51 : decode cX8_cat 51 = .ok (.getfield 9, 3) := by decide +kernel
theorem dX8_cat_54 : decode cX8_cat 54 = .ok (.iload_n 1, 1) := by decide +kernel
theorem dX8_cat_55 : decode cX8_cat 55 = .ok (.invokevirtual 211, 3) := by decide +kernel
theorem dX8_cat_58 : decode cX8_cat 58 = .ok (.ireturn, 1) := by decide +kernel
def p_X8_cat_22 (F : Nat) (w_read : Value) (x_length : Int32) (x_top : Int32) (x_at : Int32) (x_wrong : Int32) (x_isAsked : Int32) (f_asked : Nat → Int32) (Post : Int32 → (Int32 × Value × Int32 × Int32 × Int32 × Int32 × Int32 × (Nat → Int32)) → Prop) : Prop := (p_X8_lost F (fun (r_23 : Int32) (u_23 : Int32) => (Post r_23 (u_23, w_read, x_length, x_top, x_at, x_wrong, x_isAsked, f_asked))))
def p_X8_cat (F : Nat) (p1 : Int32) (p2 : Int32) (x_cats : Int32) (w_read : Value) (x_length : Int32) (x_top : Int32) (x_at : Int32) (x_wrong : Int32) (q_rule : Nat) (x_ruleSize : Int32) (x_isAsked : Int32) (f_now : Nat → Int32) (f_asked : Nat → Int32) (f_rule : Nat → Int32) (Post : Int32 → (Int32 × Value × Int32 × Int32 × Int32 × Int32 × Int32 × (Nat → Int32)) → Prop) : Prop := (p_X8_isCat F p1 x_cats (fun (r_7 : Int32) => ((r_7 = 0 → (p_X8_cat_22 F w_read x_length x_top x_at x_wrong x_isAsked f_asked Post )) ∧ (¬ r_7 = 0 → (p_X8_in F p2 (0 : Int32) (4 : Int32) (fun (r_16 : Int32) => ((¬ r_16 = 0 → (((4 : Int32) ≤ p2 → (p_X8_purrOf F p1 x_cats w_read x_length x_top x_at x_wrong q_rule x_ruleSize x_isAsked 47 f_now f_asked f_rule (fun (r_55 : Int32) (u_55 : (Value × Int32 × Int32 × Int32 × Int32 × Int32 × (Nat → Int32))) => (Post r_55 ((0 : Int32), u_55.1, u_55.2.1, u_55.2.2.1, u_55.2.2.2.1, u_55.2.2.2.2.1, u_55.2.2.2.2.2.1, u_55.2.2.2.2.2.2))))) ∧ (¬ (4 : Int32) ≤ p2 → (vp_in (((12 : Int32) + ((8 : Int32) * p2)) + p1) 47 ∧ (Post (f_now (((12 : Int32) + ((8 : Int32) * p2)) + p1).toNatClampNeg) ((0 : Int32), w_read, x_length, x_top, x_at, x_wrong, x_isAsked, f_asked)))))) ∧ (r_16 = 0 → (p_X8_cat_22 F w_read x_length x_top x_at x_wrong x_isAsked f_asked Post )))))))))
set_option maxHeartbeats 4000000 in
set_option maxRecDepth 100000 in
theorem c_X8_cat (l : Launch) (D : va_G) (cT : Nat → ClassId) (F : Nat) (h : Nat) (p1 : Int32) (p2 : Int32) (q_now : Nat) (x_arches : Int32) (x_cats : Int32) (w_text : Value) (x_typed : Int32) (w_row : Value) (x_rowMany : Int32) (x_thrown : Int32) (w_read : Value) (x_length : Int32) (x_top : Int32) (x_at : Int32) (x_wrong : Int32) (w_told : Value) (q_rule : Nat) (w_otherRule : Value) (x_ruleSize : Int32) (x_isAsked : Int32) (q_asked : Nat) (w_undos : Value) (x_undoMany : Int32) (w_aside : Value) (w_then : Value) (w_hold : Value) (x_dropped : Int32) (w_acts : Value) (w_guarded : Value) (w_train : Value) (x_trolleyEnd : Int32) (w_feltOf : Value) (w_feltBy : Value) (x_feltMany : Int32) (w_many : Value) (w_heardOf : Value) (w_heardBy : Value) (x_heardMany : Int32) (w_worth : Value) (x_drawn : Int32) (x_came : Int32) (w_kept : Value) (w_isKept : Value) (w_keptCame : Value) (f_now : Nat → Int32) (f_asked : Nat → Int32) (f_rule : Nat → Int32) (Post : Int32 → (Int32 × Value × Int32 × Int32 × Int32 × Int32 × Int32 × (Nat → Int32)) → Prop) (hg : p_X8_cat F p1 p2 x_cats w_read x_length x_top x_at x_wrong q_rule x_ruleSize x_isAsked f_now f_asked f_rule Post) : MWi l D cT yX8_cat cX8_cat 3 (some .int) 324 10150 0 0 [.ref h, .int p1, .int p2] [(h, oX8 (.ref q_now) (.int x_arches) (.int x_cats) w_text (.int x_typed) w_row (.int x_rowMany) (.int x_thrown) w_read (.int x_length) (.int x_top) (.int x_at) (.int x_wrong) w_told (.ref q_rule) w_otherRule (.int x_ruleSize) (.int x_isAsked) (.ref q_asked) w_undos (.int x_undoMany) w_aside w_then w_hold (.int x_dropped) w_acts w_guarded w_train (.int x_trolleyEnd) w_feltOf w_feltBy (.int x_feltMany) w_many w_heardOf w_heardBy (.int x_heardMany) w_worth (.int x_drawn) (.int x_came) w_kept w_isKept w_keptCame), (q_now, aI cT 47 f_now), (q_asked, aI cT 7 f_asked), (q_rule, aB cT 40 f_rule)] Post (fun (u : (Int32 × Value × Int32 × Int32 × Int32 × Int32 × Int32 × (Nat → Int32))) => [(h, oX8 (.ref q_now) (.int x_arches) (.int x_cats) w_text (.int x_typed) w_row (.int x_rowMany) (.int u.1) u.2.1 (.int u.2.2.1) (.int u.2.2.2.1) (.int u.2.2.2.2.1) (.int u.2.2.2.2.2.1) w_told (.ref q_rule) w_otherRule (.int x_ruleSize) (.int u.2.2.2.2.2.2.1) (.ref q_asked) w_undos (.int x_undoMany) w_aside w_then w_hold (.int x_dropped) w_acts w_guarded w_train (.int x_trolleyEnd) w_feltOf w_feltBy (.int x_feltMany) w_many w_heardOf w_heardBy (.int x_heardMany) w_worth (.int x_drawn) (.int x_came) w_kept w_isKept w_keptCame), (q_now, aI cT 47 f_now), (q_asked, aI cT 7 u.2.2.2.2.2.2.2), (q_rule, aB cT 40 f_rule)]) := by
  refine MWi.of (by decide) (Nat.le_of_ble_eq_true rfl) ?_
  intro p e s m below meth c A hA C0 hnm hr hP hD ls hl
  have hl : lv_has ls 3 [(0, .ref h), (1, .int p1), (2, .int p2)] := hl
  have hx := C0.x
  have hb := C0.b
  have hS : va_S A s.heap s.heap [] := va_S.rf
  have hP : va_P D cls9 [(h, oX8 (.ref q_now) (.int x_arches) (.int x_cats) w_text (.int x_typed) w_row (.int x_rowMany) (.int x_thrown) w_read (.int x_length) (.int x_top) (.int x_at) (.int x_wrong) w_told (.ref q_rule) w_otherRule (.int x_ruleSize) (.int x_isAsked) (.ref q_asked) w_undos (.int x_undoMany) w_aside w_then w_hold (.int x_dropped) w_acts w_guarded w_train (.int x_trolleyEnd) w_feltOf w_feltBy (.int x_feltMany) w_many w_heardOf w_heardBy (.int x_heardMany) w_worth (.int x_drawn) (.int x_came) w_kept w_isKept w_keptCame), (q_now, aI cT 47 f_now), (q_asked, aI cT 7 f_asked), (q_rule, aB cT 40 f_rule)] s.heap := hP
  have hD : va_D A [(h, oX8 (.ref q_now) (.int x_arches) (.int x_cats) w_text (.int x_typed) w_row (.int x_rowMany) (.int x_thrown) w_read (.int x_length) (.int x_top) (.int x_at) (.int x_wrong) w_told (.ref q_rule) w_otherRule (.int x_ruleSize) (.int x_isAsked) (.ref q_asked) w_undos (.int x_undoMany) w_aside w_then w_hold (.int x_dropped) w_acts w_guarded w_train (.int x_trolleyEnd) w_feltOf w_feltBy (.int x_feltMany) w_many w_heardOf w_heardBy (.int x_heardMany) w_worth (.int x_drawn) (.int x_came) w_kept w_isKept w_keptCame), (q_now, aI cT 47 f_now), (q_asked, aI cT 7 f_asked), (q_rule, aB cT 40 f_rule)] := hD
  have L22 : ∀ (H : Heap) (locs : List Loc) (ls : Array Slot), p_X8_cat_22 F w_read x_length x_top x_at x_wrong x_isAsked f_asked Post → va_P D cls9 [(h, oX8 (.ref q_now) (.int x_arches) (.int x_cats) w_text (.int x_typed) w_row (.int x_rowMany) (.int (0 : Int32)) w_read (.int x_length) (.int x_top) (.int x_at) (.int x_wrong) w_told (.ref q_rule) w_otherRule (.int x_ruleSize) (.int x_isAsked) (.ref q_asked) w_undos (.int x_undoMany) w_aside w_then w_hold (.int x_dropped) w_acts w_guarded w_train (.int x_trolleyEnd) w_feltOf w_feltBy (.int x_feltMany) w_many w_heardOf w_heardBy (.int x_heardMany) w_worth (.int x_drawn) (.int x_came) w_kept w_isKept w_keptCame), (q_now, aI cT 47 f_now), (q_asked, aI cT 7 f_asked), (q_rule, aB cT 40 f_rule)] H → va_D A [(h, oX8 (.ref q_now) (.int x_arches) (.int x_cats) w_text (.int x_typed) w_row (.int x_rowMany) (.int (0 : Int32)) w_read (.int x_length) (.int x_top) (.int x_at) (.int x_wrong) w_told (.ref q_rule) w_otherRule (.int x_ruleSize) (.int x_isAsked) (.ref q_asked) w_undos (.int x_undoMany) w_aside w_then w_hold (.int x_dropped) w_acts w_guarded w_train (.int x_trolleyEnd) w_feltOf w_feltBy (.int x_feltMany) w_many w_heardOf w_heardBy (.int x_heardMany) w_worth (.int x_drawn) (.int x_came) w_kept w_isKept w_keptCame), (q_now, aI cT 47 f_now), (q_asked, aI cT 7 f_asked), (q_rule, aB cT 40 f_rule)] → va_S A s.heap H locs → lv_has ls 3 [(0, .ref h)] → W p l e (rmO 324 10150 0 0) s m ([.ref h, .int p1, .int p2] : List Value).toArray below meth c H locs 0 0 (MQ below (va_Qi Post (cB D A (fun (u : (Int32 × Value × Int32 × Int32 × Int32 × Int32 × Int32 × (Nat → Int32))) => [(h, oX8 (.ref q_now) (.int x_arches) (.int x_cats) w_text (.int x_typed) w_row (.int x_rowMany) (.int u.1) u.2.1 (.int u.2.2.1) (.int u.2.2.2.1) (.int u.2.2.2.2.1) (.int u.2.2.2.2.2.1) w_told (.ref q_rule) w_otherRule (.int x_ruleSize) (.int u.2.2.2.2.2.2.1) (.ref q_asked) w_undos (.int x_undoMany) w_aside w_then w_hold (.int x_dropped) w_acts w_guarded w_train (.int x_trolleyEnd) w_feltOf w_feltBy (.int x_feltMany) w_many w_heardOf w_heardBy (.int x_heardMany) w_worth (.int x_drawn) (.int x_came) w_kept w_isKept w_keptCame), (q_now, aI cT 47 f_now), (q_asked, aI cT 7 u.2.2.2.2.2.2.2), (q_rule, aB cT 40 f_rule)])) A) ([.ref h, .int p1, .int p2] : List Value).toArray s 0 0 A) (F0 m 22 ls []) := by
    intro H locs ls hg hP hD hS hl
    unfold p_X8_cat_22 at hg
    refine lv_aload_n hx hb dX8_cat_22 rfl (lv_at hl 0 rfl) ?_
    refine k_Vi (rest := []) (wr := [(q_now, aI cT 47 f_now), (q_asked, aI cT 7 f_asked), (q_rule, aB cT 40 f_rule)]) (w2 := fun u_23 => [(q_now, aI cT 47 f_now), (q_asked, aI cT 7 f_asked), (q_rule, aB cT 40 f_rule), (h, oX8 (.ref q_now) (.int x_arches) (.int x_cats) w_text (.int x_typed) w_row (.int x_rowMany) (.int u_23) w_read (.int x_length) (.int x_top) (.int x_at) (.int x_wrong) w_told (.ref q_rule) w_otherRule (.int x_ruleSize) (.int x_isAsked) (.ref q_asked) w_undos (.int x_undoMany) w_aside w_then w_hold (.int x_dropped) w_acts w_guarded w_train (.int x_trolleyEnd) w_feltOf w_feltBy (.int x_feltMany) w_many w_heardOf w_heardBy (.int x_heardMany) w_worth (.int x_drawn) (.int x_came) w_kept w_isKept w_keptCame)]) C0 lk_X8_218 (c_X8_lost l D cT F h (.ref q_now) x_arches x_cats w_text x_typed w_row x_rowMany (0 : Int32) w_read x_length x_top x_at x_wrong w_told (.ref q_rule) w_otherRule x_ruleSize x_isAsked (.ref q_asked) w_undos x_undoMany w_aside w_then w_hold x_dropped w_acts w_guarded w_train x_trolleyEnd w_feltOf w_feltBy x_feltMany w_many w_heardOf w_heardBy x_heardMany w_worth x_drawn x_came w_kept w_isKept w_keptCame _ hg) hP hD hS hA [0] [1, 2, 3] (by decide +kernel) rfl rfl (fun _ => rfl) rfl rfl ⟨Nat.le_of_ble_eq_true rfl, Nat.le_of_ble_eq_true rfl⟩ rfl hl.1 rfl (Nat.le_of_ble_eq_true rfl) dX8_cat_23 ⟨Nat.le_of_ble_eq_true rfl, Nat.le_of_ble_eq_true rfl⟩ ?_
    intro r_23 u_23 H locs hg hP hD hS
    exact k_iret C0 hr (u_23, w_read, x_length, x_top, x_at, x_wrong, x_isAsked, f_asked) hg (subP hP [3, 0, 1, 2] rfl) (hD.sub [3, 0, 1, 2] (nd2_ok _ (by decide +kernel)) rfl) hS dX8_cat_26
  unfold p_X8_cat at hg
  refine lv_aload_n hx hb dX8_cat_0 rfl (lv_at hl 0 rfl) ?_
  refine lv_iconst (v := (0 : Int32)) hx hb dX8_cat_1 (by decide) ?_
  refine pf_X8_82 C0 hP hD hS 0 rfl (Nat.le_of_ble_eq_true rfl) (ws2 := [(h, oX8 (.ref q_now) (.int x_arches) (.int x_cats) w_text (.int x_typed) w_row (.int x_rowMany) (.int (0 : Int32)) w_read (.int x_length) (.int x_top) (.int x_at) (.int x_wrong) w_told (.ref q_rule) w_otherRule (.int x_ruleSize) (.int x_isAsked) (.ref q_asked) w_undos (.int x_undoMany) w_aside w_then w_hold (.int x_dropped) w_acts w_guarded w_train (.int x_trolleyEnd) w_feltOf w_feltBy (.int x_feltMany) w_many w_heardOf w_heardBy (.int x_heardMany) w_worth (.int x_drawn) (.int x_came) w_kept w_isKept w_keptCame), (q_now, aI cT 47 f_now), (q_asked, aI cT 7 f_asked), (q_rule, aB cT 40 f_rule)]) rfl dX8_cat_2 (fun H locs hP hD hS => ?_)
  refine lv_aload_n hx hb dX8_cat_5 rfl (lv_at hl 0 rfl) ?_
  refine lv_iload_n hx hb dX8_cat_6 rfl (lv_at hl 1 rfl) ?_
  refine k_Vxi (rest := []) C0 lk_X8_224 (c_X8_isCat l D cT F h p1 (.ref q_now) x_arches x_cats w_text x_typed w_row x_rowMany (0 : Int32) w_read x_length x_top x_at x_wrong w_told (.ref q_rule) w_otherRule x_ruleSize x_isAsked (.ref q_asked) w_undos x_undoMany w_aside w_then w_hold x_dropped w_acts w_guarded w_train x_trolleyEnd w_feltOf w_feltBy x_feltMany w_many w_heardOf w_heardBy x_heardMany w_worth x_drawn x_came w_kept w_isKept w_keptCame _ hg) hP hD hS hA [0] (by decide +kernel) rfl rfl rfl ⟨Nat.le_of_ble_eq_true rfl, Nat.le_of_ble_eq_true rfl⟩ rfl hl.1 rfl (Nat.le_of_ble_eq_true rfl) dX8_cat_7 ⟨Nat.le_of_ble_eq_true rfl, Nat.le_of_ble_eq_true rfl⟩ (fun r_7 hg => ?_)
  refine lv_if_eq (tgt := 22) hx hb dX8_cat_10 (by decide) (fun c_10 => ?_) (fun c_10 => ?_)
  · have hg := hg.1 c_10
    exact L22 _ _ _ hg hP hD hS (lv_sub hl [0] rfl)
  have hg := hg.2 c_10
  refine lv_iload_n hx hb dX8_cat_13 rfl (lv_at hl 2 rfl) ?_
  refine lv_iconst (v := (0 : Int32)) hx hb dX8_cat_14 (by decide) ?_
  refine lv_iconst (v := (4 : Int32)) hx hb dX8_cat_15 (by decide) ?_
  refine k_Sxi (rest := []) C0 lk_X8_92 (c_X8_in l D cT F p2 (0 : Int32) (4 : Int32) _ hg) hP hD hS hA [] (by decide +kernel) rfl ⟨Nat.le_of_ble_eq_true rfl, Nat.le_of_ble_eq_true rfl⟩ rfl hl.1 rfl (Nat.le_of_ble_eq_true rfl) dX8_cat_16 ⟨Nat.le_of_ble_eq_true rfl, Nat.le_of_ble_eq_true rfl⟩ (fun r_16 hg => ?_)
  refine lv_if_ne (tgt := 27) hx hb dX8_cat_19 (by decide) (fun c_19 => ?_) (fun c_19 => ?_)
  · have hg := hg.1 c_19
    refine lv_iload_n hx hb dX8_cat_27 rfl (lv_at hl 2 rfl) ?_
    refine lv_iconst (v := (4 : Int32)) hx hb dX8_cat_28 (by decide) ?_
    refine lv_icmp_ge (tgt := 49) hx hb dX8_cat_29 (by decide) (fun c_29 => ?_) (fun c_29 => ?_)
    · have hg := hg.1 c_29
      refine lv_aload_n hx hb dX8_cat_49 rfl (lv_at hl 0 rfl) ?_
      refine lv_aload_n hx hb dX8_cat_50 rfl (lv_at hl 0 rfl) ?_
      refine gf_X8_9 C0 hP 0 rfl rfl dX8_cat_51 ?_
      refine lv_iload_n hx hb dX8_cat_54 rfl (lv_at hl 1 rfl) ?_
      refine k_Vi (rest := []) (wr := []) (w2 := fun u_55 => [(h, oX8 (.ref q_now) (.int x_arches) (.int x_cats) w_text (.int x_typed) w_row (.int x_rowMany) (.int (0 : Int32)) u_55.1 (.int u_55.2.1) (.int u_55.2.2.1) (.int u_55.2.2.2.1) (.int u_55.2.2.2.2.1) w_told (.ref q_rule) w_otherRule (.int x_ruleSize) (.int u_55.2.2.2.2.2.1) (.ref q_asked) w_undos (.int x_undoMany) w_aside w_then w_hold (.int x_dropped) w_acts w_guarded w_train (.int x_trolleyEnd) w_feltOf w_feltBy (.int x_feltMany) w_many w_heardOf w_heardBy (.int x_heardMany) w_worth (.int x_drawn) (.int x_came) w_kept w_isKept w_keptCame), (q_now, aI cT 47 f_now), (q_asked, aI cT 7 u_55.2.2.2.2.2.2), (q_rule, aB cT 40 f_rule)]) C0 lk_X8_211 (c_X8_purrOf l D cT F h q_now p1 (.ref q_now) x_arches x_cats w_text x_typed w_row x_rowMany (0 : Int32) w_read x_length x_top x_at x_wrong w_told q_rule w_otherRule x_ruleSize x_isAsked q_asked w_undos x_undoMany w_aside w_then w_hold x_dropped w_acts w_guarded w_train x_trolleyEnd w_feltOf w_feltBy x_feltMany w_many w_heardOf w_heardBy x_heardMany w_worth x_drawn x_came w_kept w_isKept w_keptCame 47 f_now f_asked f_rule _ hg) hP hD hS hA [0, 1, 2, 3] [] (by decide +kernel) rfl rfl (fun _ => rfl) rfl rfl ⟨Nat.le_of_ble_eq_true rfl, Nat.le_of_ble_eq_true rfl⟩ rfl hl.1 rfl (Nat.le_of_ble_eq_true rfl) dX8_cat_55 ⟨Nat.le_of_ble_eq_true rfl, Nat.le_of_ble_eq_true rfl⟩ ?_
      intro r_55 u_55 H locs hg hP hD hS
      exact k_iret C0 hr ((0 : Int32), u_55.1, u_55.2.1, u_55.2.2.1, u_55.2.2.2.1, u_55.2.2.2.2.1, u_55.2.2.2.2.2.1, u_55.2.2.2.2.2.2) hg hP hD hS dX8_cat_58
    have hg := hg.2 c_29
    refine lv_aload_n hx hb dX8_cat_32 rfl (lv_at hl 0 rfl) ?_
    refine gf_X8_9 C0 hP 0 rfl rfl dX8_cat_33 ?_
    refine lv_bipush (v := (12 : Int32)) hx hb dX8_cat_36 (by decide) ?_
    refine lv_bipush (v := (8 : Int32)) hx hb dX8_cat_38 (by decide) ?_
    refine lv_iload_n hx hb dX8_cat_40 rfl (lv_at hl 2 rfl) ?_
    refine lv_imul hx hb dX8_cat_41 ?_
    refine lv_iadd hx hb dX8_cat_42 ?_
    refine lv_iload_n hx hb dX8_cat_43 rfl (lv_at hl 1 rfl) ?_
    refine lv_iadd hx hb dX8_cat_44 ?_
    obtain ⟨g_45, hg⟩ := hg
    refine k_iald C0 hP 1 rfl g_45 dX8_cat_45 ?_
    refine lv_goto (tgt := 58) hx hb dX8_cat_46 (by decide) ?_
    exact k_iret C0 hr ((0 : Int32), w_read, x_length, x_top, x_at, x_wrong, x_isAsked, f_asked) hg hP hD hS dX8_cat_58
  have hg := hg.2 c_19
  exact L22 _ _ _ hg hP hD hS (lv_sub hl [0] rfl)
theorem dX8_sumOf_0 : decode cX8_sumOf 0 = .ok (.iconst 0, 1) := by decide +kernel
theorem dX8_sumOf_1 : decode cX8_sumOf 1 = .ok (.istore_n 3, 1) := by decide +kernel
theorem dX8_sumOf_2 : decode cX8_sumOf 2 = .ok (.iconst 0, 1) := by decide +kernel
theorem dX8_sumOf_3 : decode cX8_sumOf 3 = .ok (.istore 4, 2) := by decide +kernel
theorem dX8_sumOf_5 : decode cX8_sumOf 5 = .ok (.iload 4, 2) := by decide +kernel
theorem dX8_sumOf_7 : decode cX8_sumOf 7 = .ok (.iload_n 2, 1) := by decide +kernel
theorem dX8_sumOf_8 : decode cX8_sumOf 8 = .ok (.if_icmp .ge 18, 3) := by decide +kernel
theorem dX8_sumOf_11 : decode cX8_sumOf 11 = .ok (.iload_n 3, 1) := by decide +kernel
theorem dX8_sumOf_12 : decode cX8_sumOf 12 = .ok (.aload_n 0, 1) := by decide +kernel
theorem dX8_sumOf_13 : decode cX8_sumOf 13 = .ok (.iload_n 1, 1) := by decide +kernel
theorem dX8_sumOf_14 : decode cX8_sumOf 14 = .ok (.iload 4, 2) := by decide +kernel
theorem dX8_sumOf_16 : decode cX8_sumOf 16 = .ok (.iadd, 1) := by decide +kernel
theorem dX8_sumOf_17 : decode cX8_sumOf 17 = .ok (.iaload, 1) := by decide +kernel
theorem dX8_sumOf_18 : decode cX8_sumOf 18 = .ok (.iadd, 1) := by decide +kernel
theorem dX8_sumOf_19 : decode cX8_sumOf 19 = .ok (.istore_n 3, 1) := by decide +kernel
theorem dX8_sumOf_20 : decode cX8_sumOf 20 = .ok (.iinc 4 1, 3) := by decide +kernel
theorem dX8_sumOf_23 : decode cX8_sumOf 23 = .ok (.goto (-18), 3) := by decide +kernel
theorem dX8_sumOf_26 : decode cX8_sumOf 26 = .ok (.iload_n 3, 1) := by decide +kernel
theorem dX8_sumOf_27 : decode cX8_sumOf 27 = .ok (.ireturn, 1) := by decide +kernel
noncomputable def p_X8_sumOf_5 (F : Nat) (p1 : Int32) (p2 : Int32) (n_b0 : Nat) (f_b0 : Nat → Int32) (Post : Int32 → Prop) (n : Nat) : Int32 → Int32 → Prop := Nat.rec (motive := fun _ => Int32 → Int32 → Prop) (fun _ _ => False) (fun _ k5 => fun (y4_5 : Int32) (y3_5 : Int32) => ((p2 ≤ y4_5 → (Post y3_5)) ∧ (¬ p2 ≤ y4_5 → (vp_in (p1 + y4_5) n_b0 ∧ (k5 (y4_5 + (1 : Int32)) (y3_5 + (f_b0 (p1 + y4_5).toNatClampNeg))))))) n
theorem p_X8_sumOf_5_s (F : Nat) (p1 : Int32) (p2 : Int32) (n_b0 : Nat) (f_b0 : Nat → Int32) (Post : Int32 → Prop) (n : Nat) (y4_5 : Int32) (y3_5 : Int32) : p_X8_sumOf_5 F p1 p2 n_b0 f_b0 Post (n + 1) y4_5 y3_5 = ((p2 ≤ y4_5 → (Post y3_5)) ∧ (¬ p2 ≤ y4_5 → (vp_in (p1 + y4_5) n_b0 ∧ ((p_X8_sumOf_5 F p1 p2 n_b0 f_b0 Post n) (y4_5 + (1 : Int32)) (y3_5 + (f_b0 (p1 + y4_5).toNatClampNeg)))))) := rfl
def p_X8_sumOf (F : Nat) (p1 : Int32) (p2 : Int32) (n_b0 : Nat) (f_b0 : Nat → Int32) (Post : Int32 → Prop) : Prop := (p_X8_sumOf_5 F p1 p2 n_b0 f_b0 Post F (0 : Int32) (0 : Int32))
set_option maxHeartbeats 4000000 in
set_option maxRecDepth 100000 in
theorem c_X8_sumOf (l : Launch) (D : va_G) (cT : Nat → ClassId) (F : Nat) (b0 : Nat) (p1 : Int32) (p2 : Int32) (n_b0 : Nat) (f_b0 : Nat → Int32) (Post : Int32 → Prop) (hg : p_X8_sumOf F p1 p2 n_b0 f_b0 Post) : MRi l D cT yX8_sumOf cX8_sumOf 5 (some .int) 0 0 [.ref b0, .int p1, .int p2] [(b0, aI cT n_b0 f_b0)] Post := by
  refine MRi.of (by decide) (Nat.le_of_ble_eq_true rfl) ?_
  intro p e s m below meth c hA C0 hr hP hD hS ls hl
  have hl : lv_has ls 5 [(0, .ref b0), (1, .int p1), (2, .int p2)] := hl
  have hx := C0.x
  have hb := C0.b
  have hP : va_P D cls9 [(b0, aI cT n_b0 f_b0)] s.heap := hP
  have hD : va_D (fun q => cT 6 ≤ q) [(b0, aI cT n_b0 f_b0)] := hD
  have L5 : ∀ (n5 : Nat) (y4_5 : Int32) (y3_5 : Int32) (ls : Array Slot), p_X8_sumOf_5 F p1 p2 n_b0 f_b0 Post n5 y4_5 y3_5 → lv_has ls 5 [(0, .ref b0), (1, .int p1), (2, .int p2), (3, .int y3_5), (4, .int y4_5)] → W p l e (rmO 0 0 0 0) s m ([.ref b0, .int p1, .int p2] : List Value).toArray below meth c s.heap [] 0 0 (MQ below (vp_Si Post) ([.ref b0, .int p1, .int p2] : List Value).toArray s 0 0 (fun _ => False)) (F0 m 5 ls []) := by
    intro n5
    induction n5 with
    | zero =>
      intro y4_5 y3_5 ls hg hl
      exact False.elim hg
    | succ n5 ih5 =>
      intro y4_5 y3_5 ls hg hl
      rw [p_X8_sumOf_5_s] at hg
      refine lv_iload hx hb dX8_sumOf_5 (lv_at hl 4 rfl) ?_
      refine lv_iload_n hx hb dX8_sumOf_7 rfl (lv_at hl 2 rfl) ?_
      refine lv_icmp_ge (tgt := 26) hx hb dX8_sumOf_8 (by decide) (fun c_8 => ?_) (fun c_8 => ?_)
      · have hg := hg.1 c_8
        refine lv_iload_n hx hb dX8_sumOf_26 rfl (lv_at hl 3 rfl) ?_
        exact k_xiret C0 hr hg dX8_sumOf_27
      have hg := hg.2 c_8
      refine lv_iload_n hx hb dX8_sumOf_11 rfl (lv_at hl 3 rfl) ?_
      refine lv_aload_n hx hb dX8_sumOf_12 rfl (lv_at hl 0 rfl) ?_
      refine lv_iload_n hx hb dX8_sumOf_13 rfl (lv_at hl 1 rfl) ?_
      refine lv_iload hx hb dX8_sumOf_14 (lv_at hl 4 rfl) ?_
      refine lv_iadd hx hb dX8_sumOf_16 ?_
      obtain ⟨g_17, hg⟩ := hg
      refine k_iald C0 hP 0 rfl g_17 dX8_sumOf_17 ?_
      refine lv_iadd hx hb dX8_sumOf_18 ?_
      refine lv_istore_n (lv' := [(3, .int (y3_5 + (f_b0 (p1 + y4_5).toNatClampNeg))), (0, .ref b0), (1, .int p1), (2, .int p2), (4, .int y4_5)]) hx hb dX8_sumOf_19 rfl hl (by decide) rfl (fun ls hl => ?_)
      refine lv_iinc (v := (y4_5 + (1 : Int32))) (lv' := [(4, .int (y4_5 + (1 : Int32))), (3, .int (y3_5 + (f_b0 (p1 + y4_5).toNatClampNeg))), (0, .ref b0), (1, .int p1), (2, .int p2)]) hx hb dX8_sumOf_20 hl (k := 4) rfl rfl (by decide) rfl (fun ls hl => ?_)
      refine lv_goto (tgt := 5) hx hb dX8_sumOf_23 (by decide) ?_
      exact ih5 (y4_5 + (1 : Int32)) (y3_5 + (f_b0 (p1 + y4_5).toNatClampNeg)) _ hg (lv_sub hl [2, 3, 4, 1, 0] rfl)
  unfold p_X8_sumOf at hg
  refine lv_iconst (v := (0 : Int32)) hx hb dX8_sumOf_0 (by decide) ?_
  refine lv_istore_n (lv' := [(3, .int (0 : Int32)), (0, .ref b0), (1, .int p1), (2, .int p2)]) hx hb dX8_sumOf_1 rfl hl (by decide) rfl (fun ls hl => ?_)
  refine lv_iconst (v := (0 : Int32)) hx hb dX8_sumOf_2 (by decide) ?_
  refine lv_istore (lv' := [(4, .int (0 : Int32)), (3, .int (0 : Int32)), (0, .ref b0), (1, .int p1), (2, .int p2)]) hx hb dX8_sumOf_3 hl (by decide) rfl (fun ls hl => ?_)
  exact L5 F (0 : Int32) (0 : Int32) _ hg (lv_sub hl [2, 3, 4, 1, 0] rfl)
theorem dX8_sags_0 : decode cX8_sags 0 = .ok (.aload_n 1, 1) := by decide +kernel
theorem dX8_sags_1 : decode cX8_sags 1 = .ok (.bipush 6, 2) := by decide +kernel
theorem dX8_sags_3 : decode cX8_sags 3 = .ok (.aload_n 0, 1) := by decide +kernel
theorem dX8_sags_4 : decode cX8_sags 4 = .ok (.getfield 89, 3) := by decide +kernel
theorem dX8_sags_7 : decode cX8_sags 7 = .ok (.invokestatic 227, 3) := by decide +kernel
theorem dX8_sags_10 : decode cX8_sags 10 = .ok (.ireturn, 1) := by decide +kernel
def p_X8_sags (F : Nat) (x_arches : Int32) (n_b1 : Nat) (f_b1 : Nat → Int32) (Post : Int32 → Prop) : Prop := (p_X8_sumOf F (6 : Int32) x_arches n_b1 f_b1 (fun (r_7 : Int32) => (Post r_7)))
set_option maxHeartbeats 4000000 in
set_option maxRecDepth 100000 in
theorem c_X8_sags (l : Launch) (D : va_G) (cT : Nat → ClassId) (F : Nat) (h : Nat) (b1 : Nat) (w_now : Value) (x_arches : Int32) (x_cats : Int32) (w_text : Value) (x_typed : Int32) (w_row : Value) (x_rowMany : Int32) (x_thrown : Int32) (w_read : Value) (x_length : Int32) (x_top : Int32) (x_at : Int32) (x_wrong : Int32) (w_told : Value) (w_rule : Value) (w_otherRule : Value) (x_ruleSize : Int32) (x_isAsked : Int32) (w_asked : Value) (w_undos : Value) (x_undoMany : Int32) (w_aside : Value) (w_then : Value) (w_hold : Value) (x_dropped : Int32) (w_acts : Value) (w_guarded : Value) (w_train : Value) (x_trolleyEnd : Int32) (w_feltOf : Value) (w_feltBy : Value) (x_feltMany : Int32) (w_many : Value) (w_heardOf : Value) (w_heardBy : Value) (x_heardMany : Int32) (w_worth : Value) (x_drawn : Int32) (x_came : Int32) (w_kept : Value) (w_isKept : Value) (w_keptCame : Value) (n_b1 : Nat) (f_b1 : Nat → Int32) (Post : Int32 → Prop) (hg : p_X8_sags F x_arches n_b1 f_b1 Post) : MRi l D cT yX8_sags cX8_sags 2 (some .int) 1 24 [.ref h, .ref b1] [(h, oX8 w_now (.int x_arches) (.int x_cats) w_text (.int x_typed) w_row (.int x_rowMany) (.int x_thrown) w_read (.int x_length) (.int x_top) (.int x_at) (.int x_wrong) w_told w_rule w_otherRule (.int x_ruleSize) (.int x_isAsked) w_asked w_undos (.int x_undoMany) w_aside w_then w_hold (.int x_dropped) w_acts w_guarded w_train (.int x_trolleyEnd) w_feltOf w_feltBy (.int x_feltMany) w_many w_heardOf w_heardBy (.int x_heardMany) w_worth (.int x_drawn) (.int x_came) w_kept w_isKept w_keptCame), (b1, aI cT n_b1 f_b1)] Post := by
  refine MRi.of (by decide) (Nat.le_of_ble_eq_true rfl) ?_
  intro p e s m below meth c hA C0 hr hP hD hS ls hl
  have hl : lv_has ls 2 [(0, .ref h), (1, .ref b1)] := hl
  have hx := C0.x
  have hb := C0.b
  have hP : va_P D cls9 [(h, oX8 w_now (.int x_arches) (.int x_cats) w_text (.int x_typed) w_row (.int x_rowMany) (.int x_thrown) w_read (.int x_length) (.int x_top) (.int x_at) (.int x_wrong) w_told w_rule w_otherRule (.int x_ruleSize) (.int x_isAsked) w_asked w_undos (.int x_undoMany) w_aside w_then w_hold (.int x_dropped) w_acts w_guarded w_train (.int x_trolleyEnd) w_feltOf w_feltBy (.int x_feltMany) w_many w_heardOf w_heardBy (.int x_heardMany) w_worth (.int x_drawn) (.int x_came) w_kept w_isKept w_keptCame), (b1, aI cT n_b1 f_b1)] s.heap := hP
  have hD : va_D (fun q => cT 6 ≤ q) [(h, oX8 w_now (.int x_arches) (.int x_cats) w_text (.int x_typed) w_row (.int x_rowMany) (.int x_thrown) w_read (.int x_length) (.int x_top) (.int x_at) (.int x_wrong) w_told w_rule w_otherRule (.int x_ruleSize) (.int x_isAsked) w_asked w_undos (.int x_undoMany) w_aside w_then w_hold (.int x_dropped) w_acts w_guarded w_train (.int x_trolleyEnd) w_feltOf w_feltBy (.int x_feltMany) w_many w_heardOf w_heardBy (.int x_heardMany) w_worth (.int x_drawn) (.int x_came) w_kept w_isKept w_keptCame), (b1, aI cT n_b1 f_b1)] := hD
  unfold p_X8_sags at hg
  refine lv_aload_n hx hb dX8_sags_0 rfl (lv_at hl 1 rfl) ?_
  refine lv_bipush (v := (6 : Int32)) hx hb dX8_sags_1 (by decide) ?_
  refine lv_aload_n hx hb dX8_sags_3 rfl (lv_at hl 0 rfl) ?_
  refine gf_X8_89 C0 hP 0 rfl rfl dX8_sags_4 ?_
  refine k_Sxi (rest := []) C0 lk_X8_227 (c_X8_sumOf l D cT F b1 (6 : Int32) x_arches n_b1 f_b1 _ hg) hP hD hS hA [1] (by decide +kernel) rfl ⟨Nat.le_of_ble_eq_true rfl, Nat.le_of_ble_eq_true rfl⟩ rfl hl.1 rfl (Nat.le_of_ble_eq_true rfl) dX8_sags_7 ⟨Nat.le_of_ble_eq_true rfl, Nat.le_of_ble_eq_true rfl⟩ (fun r_7 hg => ?_)
  exact k_xiret C0 hr hg dX8_sags_10
theorem dX8_allHold_0 : decode cX8_allHold 0 = .ok (.iconst 0, 1) := by decide +kernel
theorem dX8_allHold_1 : decode cX8_allHold 1 = .ok (.istore_n 2, 1) := by decide +kernel
theorem dX8_allHold_2 : decode cX8_allHold 2 = .ok (.iconst 0, 1) := by decide +kernel
theorem dX8_allHold_3 : decode cX8_allHold 3 = .ok (.istore_n 3, 1) := by decide +kernel
theorem dX8_allHold_4 : decode cX8_allHold 4 = .ok (.iload_n 3, 1) := by decide +kernel
theorem dX8_allHold_5 : decode cX8_allHold 5 = .ok (.aload_n 0, 1) := by decide +kernel
theorem dX8_allHold_6 : decode cX8_allHold 6 = .ok (.getfield 89, 3) := by decide +kernel
theorem dX8_allHold_9 : decode cX8_allHold 9 = .ok (.if_icmp .ge 18, 3) := by decide +kernel
theorem dX8_allHold_12 : decode cX8_allHold 12 = .ok (.iload_n 2, 1) := by decide +kernel
theorem dX8_allHold_13 : decode cX8_allHold 13 = .ok (.aload_n 0, 1) := by decide +kernel
theorem dX8_allHold_14 : decode cX8_allHold 14 = .ok (.aload_n 1, 1) := by decide +kernel
theorem dX8_allHold_15 : decode cX8_allHold 15 = .ok (.iload_n 3, 1) := by decide +kernel
theorem dX8_allHold_16 : decode cX8_allHold 16 = .ok (.invokevirtual 221, 3) := by decide +kernel
theorem dX8_allHold_19 : decode cX8_allHold 19 = .ok (.iadd, 1) := by decide +kernel
theorem dX8_allHold_20 : decode cX8_allHold 20 = .ok (.istore_n 2, 1) := by decide +kernel
theorem dX8_allHold_21 : decode cX8_allHold 21 = .ok (.iinc 3 1, 3) := by decide +kernel
theorem dX8_allHold_24 : decode cX8_allHold 24 = .ok (.goto (-20), 3) := by decide +kernel
theorem dX8_allHold_27 : decode cX8_allHold 27 = .ok (.iload_n 2, 1) := by decide +kernel
theorem dX8_allHold_28 : decode cX8_allHold 28 = .ok (.ireturn, 1) := by decide +kernel
noncomputable def p_X8_allHold_4 (F : Nat) (x_arches : Int32) (x_cats : Int32) (q_rule : Nat) (x_ruleSize : Int32) (n_b1 : Nat) (f_b1 : Nat → Int32) (f_rule : Nat → Int32) (Post : Int32 → (Value × Int32 × Int32 × Int32 × Int32 × Int32 × (Nat → Int32)) → Prop) (n : Nat) : Int32 → Int32 → Value → Int32 → Int32 → Int32 → Int32 → Int32 → (Nat → Int32) → Prop := Nat.rec (motive := fun _ => Int32 → Int32 → Value → Int32 → Int32 → Int32 → Int32 → Int32 → (Nat → Int32) → Prop) (fun _ _ _ _ _ _ _ _ _ => False) (fun _ k4 => fun (y3_4 : Int32) (y2_4 : Int32) (x_read_4 : Value) (x_length_4 : Int32) (x_top_4 : Int32) (x_at_4 : Int32) (x_wrong_4 : Int32) (x_isAsked_4 : Int32) (f_asked_4 : Nat → Int32) => ((x_arches ≤ y3_4 → (Post y2_4 (x_read_4, x_length_4, x_top_4, x_at_4, x_wrong_4, x_isAsked_4, f_asked_4))) ∧ (¬ x_arches ≤ y3_4 → (p_X8_holdOf F y3_4 x_cats x_read_4 x_length_4 x_top_4 x_at_4 x_wrong_4 q_rule x_ruleSize x_isAsked_4 n_b1 f_b1 f_asked_4 f_rule (fun (r_16 : Int32) (u_16 : (Value × Int32 × Int32 × Int32 × Int32 × Int32 × (Nat → Int32))) => (k4 (y3_4 + (1 : Int32)) (y2_4 + r_16) u_16.1 u_16.2.1 u_16.2.2.1 u_16.2.2.2.1 u_16.2.2.2.2.1 u_16.2.2.2.2.2.1 u_16.2.2.2.2.2.2)))))) n
theorem p_X8_allHold_4_s (F : Nat) (x_arches : Int32) (x_cats : Int32) (q_rule : Nat) (x_ruleSize : Int32) (n_b1 : Nat) (f_b1 : Nat → Int32) (f_rule : Nat → Int32) (Post : Int32 → (Value × Int32 × Int32 × Int32 × Int32 × Int32 × (Nat → Int32)) → Prop) (n : Nat) (y3_4 : Int32) (y2_4 : Int32) (x_read_4 : Value) (x_length_4 : Int32) (x_top_4 : Int32) (x_at_4 : Int32) (x_wrong_4 : Int32) (x_isAsked_4 : Int32) (f_asked_4 : Nat → Int32) : p_X8_allHold_4 F x_arches x_cats q_rule x_ruleSize n_b1 f_b1 f_rule Post (n + 1) y3_4 y2_4 x_read_4 x_length_4 x_top_4 x_at_4 x_wrong_4 x_isAsked_4 f_asked_4 = ((x_arches ≤ y3_4 → (Post y2_4 (x_read_4, x_length_4, x_top_4, x_at_4, x_wrong_4, x_isAsked_4, f_asked_4))) ∧ (¬ x_arches ≤ y3_4 → (p_X8_holdOf F y3_4 x_cats x_read_4 x_length_4 x_top_4 x_at_4 x_wrong_4 q_rule x_ruleSize x_isAsked_4 n_b1 f_b1 f_asked_4 f_rule (fun (r_16 : Int32) (u_16 : (Value × Int32 × Int32 × Int32 × Int32 × Int32 × (Nat → Int32))) => ((p_X8_allHold_4 F x_arches x_cats q_rule x_ruleSize n_b1 f_b1 f_rule Post n) (y3_4 + (1 : Int32)) (y2_4 + r_16) u_16.1 u_16.2.1 u_16.2.2.1 u_16.2.2.2.1 u_16.2.2.2.2.1 u_16.2.2.2.2.2.1 u_16.2.2.2.2.2.2))))) := rfl
def p_X8_allHold (F : Nat) (x_arches : Int32) (x_cats : Int32) (w_read : Value) (x_length : Int32) (x_top : Int32) (x_at : Int32) (x_wrong : Int32) (q_rule : Nat) (x_ruleSize : Int32) (x_isAsked : Int32) (n_b1 : Nat) (f_b1 : Nat → Int32) (f_asked : Nat → Int32) (f_rule : Nat → Int32) (Post : Int32 → (Value × Int32 × Int32 × Int32 × Int32 × Int32 × (Nat → Int32)) → Prop) : Prop := (p_X8_allHold_4 F x_arches x_cats q_rule x_ruleSize n_b1 f_b1 f_rule Post F (0 : Int32) (0 : Int32) w_read x_length x_top x_at x_wrong x_isAsked f_asked)
set_option maxHeartbeats 4000000 in
set_option maxRecDepth 100000 in
theorem c_X8_allHold (l : Launch) (D : va_G) (cT : Nat → ClassId) (F : Nat) (h : Nat) (b1 : Nat) (w_now : Value) (x_arches : Int32) (x_cats : Int32) (w_text : Value) (x_typed : Int32) (w_row : Value) (x_rowMany : Int32) (x_thrown : Int32) (w_read : Value) (x_length : Int32) (x_top : Int32) (x_at : Int32) (x_wrong : Int32) (w_told : Value) (q_rule : Nat) (w_otherRule : Value) (x_ruleSize : Int32) (x_isAsked : Int32) (q_asked : Nat) (w_undos : Value) (x_undoMany : Int32) (w_aside : Value) (w_then : Value) (w_hold : Value) (x_dropped : Int32) (w_acts : Value) (w_guarded : Value) (w_train : Value) (x_trolleyEnd : Int32) (w_feltOf : Value) (w_feltBy : Value) (x_feltMany : Int32) (w_many : Value) (w_heardOf : Value) (w_heardBy : Value) (x_heardMany : Int32) (w_worth : Value) (x_drawn : Int32) (x_came : Int32) (w_kept : Value) (w_isKept : Value) (w_keptCame : Value) (n_b1 : Nat) (f_b1 : Nat → Int32) (f_asked : Nat → Int32) (f_rule : Nat → Int32) (Post : Int32 → (Value × Int32 × Int32 × Int32 × Int32 × Int32 × (Nat → Int32)) → Prop) (hg : p_X8_allHold F x_arches x_cats w_read x_length x_top x_at x_wrong q_rule x_ruleSize x_isAsked n_b1 f_b1 f_asked f_rule Post) : MWi l D cT yX8_allHold cX8_allHold 4 (some .int) 325 10174 0 0 [.ref h, .ref b1] [(h, oX8 w_now (.int x_arches) (.int x_cats) w_text (.int x_typed) w_row (.int x_rowMany) (.int x_thrown) w_read (.int x_length) (.int x_top) (.int x_at) (.int x_wrong) w_told (.ref q_rule) w_otherRule (.int x_ruleSize) (.int x_isAsked) (.ref q_asked) w_undos (.int x_undoMany) w_aside w_then w_hold (.int x_dropped) w_acts w_guarded w_train (.int x_trolleyEnd) w_feltOf w_feltBy (.int x_feltMany) w_many w_heardOf w_heardBy (.int x_heardMany) w_worth (.int x_drawn) (.int x_came) w_kept w_isKept w_keptCame), (b1, aI cT n_b1 f_b1), (q_asked, aI cT 7 f_asked), (q_rule, aB cT 40 f_rule)] Post (fun (u : (Value × Int32 × Int32 × Int32 × Int32 × Int32 × (Nat → Int32))) => [(h, oX8 w_now (.int x_arches) (.int x_cats) w_text (.int x_typed) w_row (.int x_rowMany) (.int x_thrown) u.1 (.int u.2.1) (.int u.2.2.1) (.int u.2.2.2.1) (.int u.2.2.2.2.1) w_told (.ref q_rule) w_otherRule (.int x_ruleSize) (.int u.2.2.2.2.2.1) (.ref q_asked) w_undos (.int x_undoMany) w_aside w_then w_hold (.int x_dropped) w_acts w_guarded w_train (.int x_trolleyEnd) w_feltOf w_feltBy (.int x_feltMany) w_many w_heardOf w_heardBy (.int x_heardMany) w_worth (.int x_drawn) (.int x_came) w_kept w_isKept w_keptCame), (b1, aI cT n_b1 f_b1), (q_asked, aI cT 7 u.2.2.2.2.2.2), (q_rule, aB cT 40 f_rule)]) := by
  refine MWi.of (by decide) (Nat.le_of_ble_eq_true rfl) ?_
  intro p e s m below meth c A hA C0 hnm hr hP hD ls hl
  have hl : lv_has ls 4 [(0, .ref h), (1, .ref b1)] := hl
  have hx := C0.x
  have hb := C0.b
  have hS : va_S A s.heap s.heap [] := va_S.rf
  have hP : va_P D cls9 [(h, oX8 w_now (.int x_arches) (.int x_cats) w_text (.int x_typed) w_row (.int x_rowMany) (.int x_thrown) w_read (.int x_length) (.int x_top) (.int x_at) (.int x_wrong) w_told (.ref q_rule) w_otherRule (.int x_ruleSize) (.int x_isAsked) (.ref q_asked) w_undos (.int x_undoMany) w_aside w_then w_hold (.int x_dropped) w_acts w_guarded w_train (.int x_trolleyEnd) w_feltOf w_feltBy (.int x_feltMany) w_many w_heardOf w_heardBy (.int x_heardMany) w_worth (.int x_drawn) (.int x_came) w_kept w_isKept w_keptCame), (b1, aI cT n_b1 f_b1), (q_asked, aI cT 7 f_asked), (q_rule, aB cT 40 f_rule)] s.heap := hP
  have hD : va_D A [(h, oX8 w_now (.int x_arches) (.int x_cats) w_text (.int x_typed) w_row (.int x_rowMany) (.int x_thrown) w_read (.int x_length) (.int x_top) (.int x_at) (.int x_wrong) w_told (.ref q_rule) w_otherRule (.int x_ruleSize) (.int x_isAsked) (.ref q_asked) w_undos (.int x_undoMany) w_aside w_then w_hold (.int x_dropped) w_acts w_guarded w_train (.int x_trolleyEnd) w_feltOf w_feltBy (.int x_feltMany) w_many w_heardOf w_heardBy (.int x_heardMany) w_worth (.int x_drawn) (.int x_came) w_kept w_isKept w_keptCame), (b1, aI cT n_b1 f_b1), (q_asked, aI cT 7 f_asked), (q_rule, aB cT 40 f_rule)] := hD
  have L4 : ∀ (n4 : Nat) (y3_4 : Int32) (y2_4 : Int32) (x_read_4 : Value) (x_length_4 : Int32) (x_top_4 : Int32) (x_at_4 : Int32) (x_wrong_4 : Int32) (x_isAsked_4 : Int32) (f_asked_4 : Nat → Int32) (H : Heap) (locs : List Loc) (ls : Array Slot), p_X8_allHold_4 F x_arches x_cats q_rule x_ruleSize n_b1 f_b1 f_rule Post n4 y3_4 y2_4 x_read_4 x_length_4 x_top_4 x_at_4 x_wrong_4 x_isAsked_4 f_asked_4 → va_P D cls9 [(h, oX8 w_now (.int x_arches) (.int x_cats) w_text (.int x_typed) w_row (.int x_rowMany) (.int x_thrown) x_read_4 (.int x_length_4) (.int x_top_4) (.int x_at_4) (.int x_wrong_4) w_told (.ref q_rule) w_otherRule (.int x_ruleSize) (.int x_isAsked_4) (.ref q_asked) w_undos (.int x_undoMany) w_aside w_then w_hold (.int x_dropped) w_acts w_guarded w_train (.int x_trolleyEnd) w_feltOf w_feltBy (.int x_feltMany) w_many w_heardOf w_heardBy (.int x_heardMany) w_worth (.int x_drawn) (.int x_came) w_kept w_isKept w_keptCame), (b1, aI cT n_b1 f_b1), (q_asked, aI cT 7 f_asked_4), (q_rule, aB cT 40 f_rule)] H → va_D A [(h, oX8 w_now (.int x_arches) (.int x_cats) w_text (.int x_typed) w_row (.int x_rowMany) (.int x_thrown) x_read_4 (.int x_length_4) (.int x_top_4) (.int x_at_4) (.int x_wrong_4) w_told (.ref q_rule) w_otherRule (.int x_ruleSize) (.int x_isAsked_4) (.ref q_asked) w_undos (.int x_undoMany) w_aside w_then w_hold (.int x_dropped) w_acts w_guarded w_train (.int x_trolleyEnd) w_feltOf w_feltBy (.int x_feltMany) w_many w_heardOf w_heardBy (.int x_heardMany) w_worth (.int x_drawn) (.int x_came) w_kept w_isKept w_keptCame), (b1, aI cT n_b1 f_b1), (q_asked, aI cT 7 f_asked_4), (q_rule, aB cT 40 f_rule)] → va_S A s.heap H locs → lv_has ls 4 [(0, .ref h), (1, .ref b1), (2, .int y2_4), (3, .int y3_4)] → W p l e (rmO 325 10174 0 0) s m ([.ref h, .ref b1] : List Value).toArray below meth c H locs 0 0 (MQ below (va_Qi Post (cB D A (fun (u : (Value × Int32 × Int32 × Int32 × Int32 × Int32 × (Nat → Int32))) => [(h, oX8 w_now (.int x_arches) (.int x_cats) w_text (.int x_typed) w_row (.int x_rowMany) (.int x_thrown) u.1 (.int u.2.1) (.int u.2.2.1) (.int u.2.2.2.1) (.int u.2.2.2.2.1) w_told (.ref q_rule) w_otherRule (.int x_ruleSize) (.int u.2.2.2.2.2.1) (.ref q_asked) w_undos (.int x_undoMany) w_aside w_then w_hold (.int x_dropped) w_acts w_guarded w_train (.int x_trolleyEnd) w_feltOf w_feltBy (.int x_feltMany) w_many w_heardOf w_heardBy (.int x_heardMany) w_worth (.int x_drawn) (.int x_came) w_kept w_isKept w_keptCame), (b1, aI cT n_b1 f_b1), (q_asked, aI cT 7 u.2.2.2.2.2.2), (q_rule, aB cT 40 f_rule)])) A) ([.ref h, .ref b1] : List Value).toArray s 0 0 A) (F0 m 4 ls []) := by
    intro n4
    induction n4 with
    | zero =>
      intro y3_4 y2_4 x_read_4 x_length_4 x_top_4 x_at_4 x_wrong_4 x_isAsked_4 f_asked_4 H locs ls hg hP hD hS hl
      exact False.elim hg
    | succ n4 ih4 =>
      intro y3_4 y2_4 x_read_4 x_length_4 x_top_4 x_at_4 x_wrong_4 x_isAsked_4 f_asked_4 H locs ls hg hP hD hS hl
      rw [p_X8_allHold_4_s] at hg
      refine lv_iload_n hx hb dX8_allHold_4 rfl (lv_at hl 3 rfl) ?_
      refine lv_aload_n hx hb dX8_allHold_5 rfl (lv_at hl 0 rfl) ?_
      refine gf_X8_89 C0 hP 0 rfl rfl dX8_allHold_6 ?_
      refine lv_icmp_ge (tgt := 27) hx hb dX8_allHold_9 (by decide) (fun c_9 => ?_) (fun c_9 => ?_)
      · have hg := hg.1 c_9
        refine lv_iload_n hx hb dX8_allHold_27 rfl (lv_at hl 2 rfl) ?_
        exact k_iret C0 hr (x_read_4, x_length_4, x_top_4, x_at_4, x_wrong_4, x_isAsked_4, f_asked_4) hg hP hD hS dX8_allHold_28
      have hg := hg.2 c_9
      refine lv_iload_n hx hb dX8_allHold_12 rfl (lv_at hl 2 rfl) ?_
      refine lv_aload_n hx hb dX8_allHold_13 rfl (lv_at hl 0 rfl) ?_
      refine lv_aload_n hx hb dX8_allHold_14 rfl (lv_at hl 1 rfl) ?_
      refine lv_iload_n hx hb dX8_allHold_15 rfl (lv_at hl 3 rfl) ?_
      refine k_Vi (rest := [.int y2_4]) (wr := []) (w2 := fun u_16 => [(h, oX8 w_now (.int x_arches) (.int x_cats) w_text (.int x_typed) w_row (.int x_rowMany) (.int x_thrown) u_16.1 (.int u_16.2.1) (.int u_16.2.2.1) (.int u_16.2.2.2.1) (.int u_16.2.2.2.2.1) w_told (.ref q_rule) w_otherRule (.int x_ruleSize) (.int u_16.2.2.2.2.2.1) (.ref q_asked) w_undos (.int x_undoMany) w_aside w_then w_hold (.int x_dropped) w_acts w_guarded w_train (.int x_trolleyEnd) w_feltOf w_feltBy (.int x_feltMany) w_many w_heardOf w_heardBy (.int x_heardMany) w_worth (.int x_drawn) (.int x_came) w_kept w_isKept w_keptCame), (b1, aI cT n_b1 f_b1), (q_asked, aI cT 7 u_16.2.2.2.2.2.2), (q_rule, aB cT 40 f_rule)]) C0 lk_X8_221 (c_X8_holdOf l D cT F h b1 y3_4 w_now x_arches x_cats w_text x_typed w_row x_rowMany x_thrown x_read_4 x_length_4 x_top_4 x_at_4 x_wrong_4 w_told q_rule w_otherRule x_ruleSize x_isAsked_4 q_asked w_undos x_undoMany w_aside w_then w_hold x_dropped w_acts w_guarded w_train x_trolleyEnd w_feltOf w_feltBy x_feltMany w_many w_heardOf w_heardBy x_heardMany w_worth x_drawn x_came w_kept w_isKept w_keptCame n_b1 f_b1 f_asked_4 f_rule _ hg) hP hD hS hA [0, 1, 2, 3] [] (by decide +kernel) rfl rfl (fun _ => rfl) rfl rfl ⟨Nat.le_of_ble_eq_true rfl, Nat.le_of_ble_eq_true rfl⟩ rfl hl.1 rfl (Nat.le_of_ble_eq_true rfl) dX8_allHold_16 ⟨Nat.le_of_ble_eq_true rfl, Nat.le_of_ble_eq_true rfl⟩ ?_
      intro r_16 u_16 H locs hg hP hD hS
      refine lv_iadd hx hb dX8_allHold_19 ?_
      refine lv_istore_n (lv' := [(2, .int (y2_4 + r_16)), (0, .ref h), (1, .ref b1), (3, .int y3_4)]) hx hb dX8_allHold_20 rfl hl (by decide) rfl (fun ls hl => ?_)
      refine lv_iinc (v := (y3_4 + (1 : Int32))) (lv' := [(3, .int (y3_4 + (1 : Int32))), (2, .int (y2_4 + r_16)), (0, .ref h), (1, .ref b1)]) hx hb dX8_allHold_21 hl (k := 3) rfl rfl (by decide) rfl (fun ls hl => ?_)
      refine lv_goto (tgt := 4) hx hb dX8_allHold_24 (by decide) ?_
      exact ih4 (y3_4 + (1 : Int32)) (y2_4 + r_16) u_16.1 u_16.2.1 u_16.2.2.1 u_16.2.2.2.1 u_16.2.2.2.2.1 u_16.2.2.2.2.2.1 u_16.2.2.2.2.2.2 _ _ _ hg hP hD hS (lv_sub hl [2, 3, 1, 0] rfl)
  unfold p_X8_allHold at hg
  refine lv_iconst (v := (0 : Int32)) hx hb dX8_allHold_0 (by decide) ?_
  refine lv_istore_n (lv' := [(2, .int (0 : Int32)), (0, .ref h), (1, .ref b1)]) hx hb dX8_allHold_1 rfl hl (by decide) rfl (fun ls hl => ?_)
  refine lv_iconst (v := (0 : Int32)) hx hb dX8_allHold_2 (by decide) ?_
  refine lv_istore_n (lv' := [(3, .int (0 : Int32)), (2, .int (0 : Int32)), (0, .ref h), (1, .ref b1)]) hx hb dX8_allHold_3 rfl hl (by decide) rfl (fun ls hl => ?_)
  exact L4 F (0 : Int32) (0 : Int32) w_read x_length x_top x_at x_wrong x_isAsked f_asked _ _ _ hg hP hD hS (lv_sub hl [2, 3, 1, 0] rfl)
theorem dX8_sheet_0 : decode cX8_sheet 0 = .ok (.aload_n 0, 1) := by decide +kernel
theorem dX8_sheet_1 : decode cX8_sheet 1 = .ok (.iconst 0, 1) := by decide +kernel
theorem dX8_sheet_2 : decode cX8_sheet 2 = .ok (.putfield 82, 3) := by decide +kernel
theorem dX8_sheet_5 : decode cX8_sheet 5 = .ok (.iload_n 1, 1) := by decide +kernel
theorem dX8_sheet_6 : decode cX8_sheet 6 = .ok (.iconst 0, 1) := by decide +kernel
theorem dX8_sheet_7 : decode cX8_sheet 7 = .ok (.iconst 3, 1) := by decide +kernel
theorem dX8_sheet_8 : decode cX8_sheet 8 = .ok (.invokestatic 92, 3) := by decide +kernel
theorem dX8_sheet_11 : decode cX8_sheet 11 = .ok (.ifCond .eq 9, 3) := by decide +kernel
theorem dX8_sheet_14 : decode cX8_sheet 14 = .ok (.iload_n 2, 1) := by decide +kernel
theorem dX8_sheet_15 : decode cX8_sheet 15 = .ok (.bipush 6, 2) := by decide +kernel
theorem dX8_sheet_17 : decode cX8_sheet 17 = .ok (.if_icmp .le 5, 3) := by decide +kernel
theorem dX8_sheet_20 : decode cX8_sheet 20 = .ok (.iconst (-1), 1) := by decide +kernel
theorem dX8_sheet_21 : decode cX8_sheet 21 = .ok (.ireturn, 1) := by decide +kernel
theorem dX8_sheet_22 : decode cX8_sheet 22 = .ok (.iload_n 1, 1) := by decide +kernel
theorem dX8_sheet_23 : decode cX8_sheet 23 = .ok (.iconst 3, 1) := by decide +kernel
theorem dX8_sheet_24 : decode cX8_sheet 24 = .ok (.if_icmp .ge 10, 3) := by decide +kernel
theorem dX8_sheet_27 : decode cX8_sheet 27 = .ok (.iload_n 2, 1) := by decide +kernel
theorem dX8_sheet_28 : decode cX8_sheet 28 = .ok (.ifCond .ge 6, 3) := by decide +kernel
theorem dX8_sheet_31 : decode cX8_sheet 31 = .ok (.bipush (-2), 2) := by decide +kernel
theorem dX8_sheet_33 : decode cX8_sheet 33 = .ok (.ireturn, 1) := by decide +kernel
theorem dX8_sheet_34 : decode cX8_sheet 34 = .ok (.iload_n 3, 1) := by decide +kernel
theorem dX8_sheet_35 : decode cX8_sheet 35 = .ok (.istore 5, 2) := by decide +kernel
theorem dX8_sheet_37 : decode cX8_sheet 37 = .ok (.iconst 0, 1) := by decide +kernel
theorem dX8_sheet_38 : decode cX8_sheet 38 = .ok (.istore 6, 2) := by decide +kernel
theorem dX8_sheet_40 : decode cX8_sheet 40 = .ok (.iload 6, 2) := by decide +kernel
theorem dX8_sheet_42 : decode cX8_sheet 42 = .ok (.aload_n 0, 1) := by decide +kernel
theorem dX8_sheet_43 : decode cX8_sheet 43 = .ok (.getfield 89, 3) := by decide +kernel
theorem dX8_sheet_46 : decode cX8_sheet 46 = .ok (.if_icmp .ge 74, 3) := by decide +kernel
theorem dX8_sheet_49 : decode cX8_sheet 49 = .ok (.iload_n 1, 1) := by decide +kernel
theorem dX8_sheet_50 : decode cX8_sheet 50 = .ok (.ifCond .ne 9, 3) := by decide +kernel
theorem dX8_sheet_53 : decode cX8_sheet 53 = .ok (.iload 5, 2) := by decide +kernel
theorem dX8_sheet_55 : decode cX8_sheet 55 = .ok (.i2b, 1) := by decide +kernel
theorem dX8_sheet_56 : decode cX8_sheet 56 = .ok (.goto 16, 3) := by decide +kernel
theorem dX8_sheet_59 : decode cX8_sheet 59 = .ok (.iload_n 1, 1) := by decide +kernel
theorem dX8_sheet_60 : decode cX8_sheet 60 = .ok (.iconst 1, 1) := by decide +kernel
theorem dX8_sheet_61 : decode cX8_sheet 61 = .ok (.if_icmp .ne 9, 3) := by decide +kernel
theorem dX8_sheet_64 : decode cX8_sheet 64 = .ok (.iload 5, 2) := by decide +kernel
theorem dX8_sheet_66 : decode cX8_sheet 66 = .ok (.i2s, 1) := by decide +kernel
theorem dX8_sheet_67 : decode cX8_sheet 67 = .ok (.goto 5, 3) := by decide +kernel
theorem dX8_sheet_70 : decode cX8_sheet 70 = .ok (.iload 5, 2) := by decide +kernel
theorem dX8_sheet_72 : decode cX8_sheet 72 = .ok (.istore 7, 2) := by decide +kernel
theorem dX8_sheet_74 : decode cX8_sheet 74 = .ok (.aload_n 0, 1) := by decide +kernel
theorem dX8_sheet_75 : decode cX8_sheet 75 = .ok (.getfield 9, 3) := by decide +kernel
theorem dX8_sheet_78 : decode cX8_sheet 78 = .ok (.iload 6, 2) := by decide +kernel
theorem dX8_sheet_80 : decode cX8_sheet 80 = .ok (.iload_n 1, 1) := by decide +kernel
theorem dX8_sheet_81 : decode cX8_sheet 81 = .ok (.iconst 3, 1) := by decide +kernel
theorem dX8_sheet_82 : decode cX8_sheet 82 = .ok (.if_icmp .eq 9, 3) := by decide +kernel
theorem dX8_sheet_85 : decode cX8_sheet 85 = .ok (.iload 6, 2) := by decide +kernel
theorem dX8_sheet_87 : decode cX8_sheet 87 = .ok (.iload_n 2, 1) := by decide +kernel
theorem dX8_sheet_88 : decode cX8_sheet 88 = .ok (.if_icmp .lt 7, 3) := by decide +kernel
theorem dX8_sheet_91 : decode cX8_sheet 91 = .ok (.iconst 0, 1) := by decide +kernel
theorem dX8_sheet_92 : decode cX8_sheet 92 = .ok (.goto 14, 3) := by decide +kernel
theorem dX8_sheet_95 : decode cX8_sheet 95 = .ok (.iconst 0, 1) := by decide +kernel
theorem dX8_sheet_96 : decode cX8_sheet 96 = .ok (.bipush 9, 2) := by decide +kernel
theorem dX8_sheet_98 : decode cX8_sheet 98 = .ok (.iload 7, 2) := by decide +kernel
theorem dX8_sheet_100 : decode cX8_sheet 100 = .ok (.invokestatic 189, 3) := by decide +kernel
theorem dX8_sheet_103 : decode cX8_sheet 103 = .ok (.invokestatic 195, 3) := by decide +kernel
theorem dX8_sheet_106 : decode cX8_sheet 106 = .ok (.iastore, 1) := by decide +kernel
theorem dX8_sheet_107 : decode cX8_sheet 107 = .ok (.iload 5, 2) := by decide +kernel
theorem dX8_sheet_109 : decode cX8_sheet 109 = .ok (.iload 4, 2) := by decide +kernel
theorem dX8_sheet_111 : decode cX8_sheet 111 = .ok (.iadd, 1) := by decide +kernel
theorem dX8_sheet_112 : decode cX8_sheet 112 = .ok (.istore 5, 2) := by decide +kernel
theorem dX8_sheet_114 : decode cX8_sheet 114 = .ok (.iinc 6 1, 3) := by decide +kernel
theorem dX8_sheet_117 : decode cX8_sheet 117 = .ok (.goto (-77), 3) := by decide +kernel
theorem dX8_sheet_120 : decode cX8_sheet 120 = .ok (.iload_n 1, 1) := by decide +kernel
theorem dX8_sheet_121 : decode cX8_sheet 121 = .ok (.iconst 3, 1) := by decide +kernel
theorem dX8_sheet_122 : decode cX8_sheet 122 = .ok (.if_icmp .ne 8, 3) := by decide +kernel
theorem dX8_sheet_125 : decode cX8_sheet 125 = .ok (.bipush (-3), 2) := by decide +kernel
theorem dX8_sheet_127 : decode cX8_sheet 127 = .ok (.goto 15, 3) := by decide +kernel
theorem dX8_sheet_130 : decode cX8_sheet 130 = .ok (.aload_n 0, 1) := by decide +kernel
theorem dX8_sheet_131 : decode cX8_sheet 131 = .ok (.getfield 9, 3) := by decide +kernel
theorem dX8_sheet_134 : decode cX8_sheet 134 = .ok (.iconst 0, 1) := by decide +kernel
theorem dX8_sheet_135 : decode cX8_sheet 135 = .ok (.aload_n 0, 1) := by decide +kernel
theorem dX8_sheet_136 : decode cX8_sheet 136 = .ok (.getfield 89, 3) := by decide +kernel
theorem dX8_sheet_139 : decode cX8_sheet 139 = .ok (.invokestatic 227, 3) := by decide +kernel
theorem dX8_sheet_142 : decode cX8_sheet 142 = .ok (.ireturn, 1) := by decide +kernel
def p_X8_sheet_106 (F : Nat) (p4 : Int32) (y6_40 : Int32) (y5_40 : Int32) (f_now_40 : Nat → Int32) (k40 : Int32 → Int32 → (Nat → Int32) → Prop) (Post : Int32 → (Int32 × (Nat → Int32)) → Prop) (s2_106 : Int32) : Prop := (vp_in y6_40 47 ∧ (k40 (y6_40 + (1 : Int32)) (y5_40 + p4) (upd f_now_40 y6_40.toNatClampNeg s2_106)))
def p_X8_sheet_91 (F : Nat) (p4 : Int32) (y6_40 : Int32) (y5_40 : Int32) (f_now_40 : Nat → Int32) (k40 : Int32 → Int32 → (Nat → Int32) → Prop) (Post : Int32 → (Int32 × (Nat → Int32)) → Prop) : Prop := (p_X8_sheet_106 F p4 y6_40 y5_40 f_now_40 k40 Post (0 : Int32))
def p_X8_sheet_72 (F : Nat) (p1 : Int32) (p2 : Int32) (p4 : Int32) (y6_40 : Int32) (y5_40 : Int32) (f_now_40 : Nat → Int32) (k40 : Int32 → Int32 → (Nat → Int32) → Prop) (Post : Int32 → (Int32 × (Nat → Int32)) → Prop) (s0_72 : Int32) : Prop := ((p1 = (3 : Int32) → (p_X8_sheet_91 F p4 y6_40 y5_40 f_now_40 k40 Post )) ∧ (¬ p1 = (3 : Int32) → ((y6_40 < p2 → (p_X8_sheet_106 F p4 y6_40 y5_40 f_now_40 k40 Post (if (0 : Int32) < (if s0_72 < (9 : Int32) then s0_72 else (9 : Int32)) then (if s0_72 < (9 : Int32) then s0_72 else (9 : Int32)) else (0 : Int32)))) ∧ (¬ y6_40 < p2 → (p_X8_sheet_91 F p4 y6_40 y5_40 f_now_40 k40 Post )))))
noncomputable def p_X8_sheet_40 (F : Nat) (p1 : Int32) (p2 : Int32) (p4 : Int32) (x_arches : Int32) (Post : Int32 → (Int32 × (Nat → Int32)) → Prop) (n : Nat) : Int32 → Int32 → (Nat → Int32) → Prop := Nat.rec (motive := fun _ => Int32 → Int32 → (Nat → Int32) → Prop) (fun _ _ _ => False) (fun _ k40 => fun (y6_40 : Int32) (y5_40 : Int32) (f_now_40 : Nat → Int32) => ((x_arches ≤ y6_40 → ((¬ p1 = (3 : Int32) → (p_X8_sumOf F (0 : Int32) x_arches 47 f_now_40 (fun (r_139 : Int32) => (Post r_139 ((0 : Int32), f_now_40))))) ∧ (p1 = (3 : Int32) → (Post (-3 : Int32) ((0 : Int32), f_now_40))))) ∧ (¬ x_arches ≤ y6_40 → ((¬ p1 = 0 → ((¬ p1 = (1 : Int32) → (p_X8_sheet_72 F p1 p2 p4 y6_40 y5_40 f_now_40 k40 Post y5_40)) ∧ (p1 = (1 : Int32) → (p_X8_sheet_72 F p1 p2 p4 y6_40 y5_40 f_now_40 k40 Post (y5_40.toInt16.toInt32))))) ∧ (p1 = 0 → (p_X8_sheet_72 F p1 p2 p4 y6_40 y5_40 f_now_40 k40 Post (y5_40.toInt8.toInt32))))))) n
theorem p_X8_sheet_40_s (F : Nat) (p1 : Int32) (p2 : Int32) (p4 : Int32) (x_arches : Int32) (Post : Int32 → (Int32 × (Nat → Int32)) → Prop) (n : Nat) (y6_40 : Int32) (y5_40 : Int32) (f_now_40 : Nat → Int32) : p_X8_sheet_40 F p1 p2 p4 x_arches Post (n + 1) y6_40 y5_40 f_now_40 = ((x_arches ≤ y6_40 → ((¬ p1 = (3 : Int32) → (p_X8_sumOf F (0 : Int32) x_arches 47 f_now_40 (fun (r_139 : Int32) => (Post r_139 ((0 : Int32), f_now_40))))) ∧ (p1 = (3 : Int32) → (Post (-3 : Int32) ((0 : Int32), f_now_40))))) ∧ (¬ x_arches ≤ y6_40 → ((¬ p1 = 0 → ((¬ p1 = (1 : Int32) → (p_X8_sheet_72 F p1 p2 p4 y6_40 y5_40 f_now_40 (p_X8_sheet_40 F p1 p2 p4 x_arches Post n) Post y5_40)) ∧ (p1 = (1 : Int32) → (p_X8_sheet_72 F p1 p2 p4 y6_40 y5_40 f_now_40 (p_X8_sheet_40 F p1 p2 p4 x_arches Post n) Post (y5_40.toInt16.toInt32))))) ∧ (p1 = 0 → (p_X8_sheet_72 F p1 p2 p4 y6_40 y5_40 f_now_40 (p_X8_sheet_40 F p1 p2 p4 x_arches Post n) Post (y5_40.toInt8.toInt32)))))) := rfl
def p_X8_sheet_34 (F : Nat) (p1 : Int32) (p2 : Int32) (p3 : Int32) (p4 : Int32) (x_arches : Int32) (f_now : Nat → Int32) (Post : Int32 → (Int32 × (Nat → Int32)) → Prop) : Prop := (p_X8_sheet_40 F p1 p2 p4 x_arches Post F (0 : Int32) p3 f_now)
def p_X8_sheet (F : Nat) (p1 : Int32) (p2 : Int32) (p3 : Int32) (p4 : Int32) (x_arches : Int32) (f_now : Nat → Int32) (Post : Int32 → (Int32 × (Nat → Int32)) → Prop) : Prop := (p_X8_in F p1 (0 : Int32) (3 : Int32) (fun (r_8 : Int32) => ((r_8 = 0 → (Post (-1 : Int32) ((0 : Int32), f_now))) ∧ (¬ r_8 = 0 → ((p2 ≤ (6 : Int32) → (((3 : Int32) ≤ p1 → (p_X8_sheet_34 F p1 p2 p3 p4 x_arches f_now Post )) ∧ (¬ (3 : Int32) ≤ p1 → ((0 ≤ p2 → (p_X8_sheet_34 F p1 p2 p3 p4 x_arches f_now Post )) ∧ (¬ 0 ≤ p2 → (Post (-2 : Int32) ((0 : Int32), f_now))))))) ∧ (¬ p2 ≤ (6 : Int32) → (Post (-1 : Int32) ((0 : Int32), f_now))))))))
set_option maxHeartbeats 4000000 in
set_option maxRecDepth 100000 in
theorem c_X8_sheet (l : Launch) (D : va_G) (cT : Nat → ClassId) (F : Nat) (h : Nat) (p1 : Int32) (p2 : Int32) (p3 : Int32) (p4 : Int32) (q_now : Nat) (x_arches : Int32) (x_cats : Int32) (w_text : Value) (x_typed : Int32) (w_row : Value) (x_rowMany : Int32) (x_thrown : Int32) (w_read : Value) (x_length : Int32) (x_top : Int32) (x_at : Int32) (x_wrong : Int32) (w_told : Value) (w_rule : Value) (w_otherRule : Value) (x_ruleSize : Int32) (x_isAsked : Int32) (w_asked : Value) (w_undos : Value) (x_undoMany : Int32) (w_aside : Value) (w_then : Value) (w_hold : Value) (x_dropped : Int32) (w_acts : Value) (w_guarded : Value) (w_train : Value) (x_trolleyEnd : Int32) (w_feltOf : Value) (w_feltBy : Value) (x_feltMany : Int32) (w_many : Value) (w_heardOf : Value) (w_heardBy : Value) (x_heardMany : Int32) (w_worth : Value) (x_drawn : Int32) (x_came : Int32) (w_kept : Value) (w_isKept : Value) (w_keptCame : Value) (f_now : Nat → Int32) (Post : Int32 → (Int32 × (Nat → Int32)) → Prop) (hg : p_X8_sheet F p1 p2 p3 p4 x_arches f_now Post) : MWi l D cT yX8_sheet cX8_sheet 8 (some .int) 1 30 0 0 [.ref h, .int p1, .int p2, .int p3, .int p4] [(h, oX8 (.ref q_now) (.int x_arches) (.int x_cats) w_text (.int x_typed) w_row (.int x_rowMany) (.int x_thrown) w_read (.int x_length) (.int x_top) (.int x_at) (.int x_wrong) w_told w_rule w_otherRule (.int x_ruleSize) (.int x_isAsked) w_asked w_undos (.int x_undoMany) w_aside w_then w_hold (.int x_dropped) w_acts w_guarded w_train (.int x_trolleyEnd) w_feltOf w_feltBy (.int x_feltMany) w_many w_heardOf w_heardBy (.int x_heardMany) w_worth (.int x_drawn) (.int x_came) w_kept w_isKept w_keptCame), (q_now, aI cT 47 f_now)] Post (fun (u : (Int32 × (Nat → Int32))) => [(h, oX8 (.ref q_now) (.int x_arches) (.int x_cats) w_text (.int x_typed) w_row (.int x_rowMany) (.int u.1) w_read (.int x_length) (.int x_top) (.int x_at) (.int x_wrong) w_told w_rule w_otherRule (.int x_ruleSize) (.int x_isAsked) w_asked w_undos (.int x_undoMany) w_aside w_then w_hold (.int x_dropped) w_acts w_guarded w_train (.int x_trolleyEnd) w_feltOf w_feltBy (.int x_feltMany) w_many w_heardOf w_heardBy (.int x_heardMany) w_worth (.int x_drawn) (.int x_came) w_kept w_isKept w_keptCame), (q_now, aI cT 47 u.2)]) := by
  refine MWi.of (by decide) (Nat.le_of_ble_eq_true rfl) ?_
  intro p e s m below meth c A hA C0 hnm hr hP hD ls hl
  have hl : lv_has ls 8 [(0, .ref h), (1, .int p1), (2, .int p2), (3, .int p3), (4, .int p4)] := hl
  have hx := C0.x
  have hb := C0.b
  have hS : va_S A s.heap s.heap [] := va_S.rf
  have hP : va_P D cls9 [(h, oX8 (.ref q_now) (.int x_arches) (.int x_cats) w_text (.int x_typed) w_row (.int x_rowMany) (.int x_thrown) w_read (.int x_length) (.int x_top) (.int x_at) (.int x_wrong) w_told w_rule w_otherRule (.int x_ruleSize) (.int x_isAsked) w_asked w_undos (.int x_undoMany) w_aside w_then w_hold (.int x_dropped) w_acts w_guarded w_train (.int x_trolleyEnd) w_feltOf w_feltBy (.int x_feltMany) w_many w_heardOf w_heardBy (.int x_heardMany) w_worth (.int x_drawn) (.int x_came) w_kept w_isKept w_keptCame), (q_now, aI cT 47 f_now)] s.heap := hP
  have hD : va_D A [(h, oX8 (.ref q_now) (.int x_arches) (.int x_cats) w_text (.int x_typed) w_row (.int x_rowMany) (.int x_thrown) w_read (.int x_length) (.int x_top) (.int x_at) (.int x_wrong) w_told w_rule w_otherRule (.int x_ruleSize) (.int x_isAsked) w_asked w_undos (.int x_undoMany) w_aside w_then w_hold (.int x_dropped) w_acts w_guarded w_train (.int x_trolleyEnd) w_feltOf w_feltBy (.int x_feltMany) w_many w_heardOf w_heardBy (.int x_heardMany) w_worth (.int x_drawn) (.int x_came) w_kept w_isKept w_keptCame), (q_now, aI cT 47 f_now)] := hD
  have L40 : ∀ (n40 : Nat) (y6_40 : Int32) (y5_40 : Int32) (f_now_40 : Nat → Int32) (H : Heap) (locs : List Loc) (ls : Array Slot), p_X8_sheet_40 F p1 p2 p4 x_arches Post n40 y6_40 y5_40 f_now_40 → va_P D cls9 [(h, oX8 (.ref q_now) (.int x_arches) (.int x_cats) w_text (.int x_typed) w_row (.int x_rowMany) (.int (0 : Int32)) w_read (.int x_length) (.int x_top) (.int x_at) (.int x_wrong) w_told w_rule w_otherRule (.int x_ruleSize) (.int x_isAsked) w_asked w_undos (.int x_undoMany) w_aside w_then w_hold (.int x_dropped) w_acts w_guarded w_train (.int x_trolleyEnd) w_feltOf w_feltBy (.int x_feltMany) w_many w_heardOf w_heardBy (.int x_heardMany) w_worth (.int x_drawn) (.int x_came) w_kept w_isKept w_keptCame), (q_now, aI cT 47 f_now_40)] H → va_D A [(h, oX8 (.ref q_now) (.int x_arches) (.int x_cats) w_text (.int x_typed) w_row (.int x_rowMany) (.int (0 : Int32)) w_read (.int x_length) (.int x_top) (.int x_at) (.int x_wrong) w_told w_rule w_otherRule (.int x_ruleSize) (.int x_isAsked) w_asked w_undos (.int x_undoMany) w_aside w_then w_hold (.int x_dropped) w_acts w_guarded w_train (.int x_trolleyEnd) w_feltOf w_feltBy (.int x_feltMany) w_many w_heardOf w_heardBy (.int x_heardMany) w_worth (.int x_drawn) (.int x_came) w_kept w_isKept w_keptCame), (q_now, aI cT 47 f_now_40)] → va_S A s.heap H locs → lv_has ls 8 [(0, .ref h), (1, .int p1), (2, .int p2), (4, .int p4), (5, .int y5_40), (6, .int y6_40)] → W p l e (rmO 1 30 0 0) s m ([.ref h, .int p1, .int p2, .int p3, .int p4] : List Value).toArray below meth c H locs 0 0 (MQ below (va_Qi Post (cB D A (fun (u : (Int32 × (Nat → Int32))) => [(h, oX8 (.ref q_now) (.int x_arches) (.int x_cats) w_text (.int x_typed) w_row (.int x_rowMany) (.int u.1) w_read (.int x_length) (.int x_top) (.int x_at) (.int x_wrong) w_told w_rule w_otherRule (.int x_ruleSize) (.int x_isAsked) w_asked w_undos (.int x_undoMany) w_aside w_then w_hold (.int x_dropped) w_acts w_guarded w_train (.int x_trolleyEnd) w_feltOf w_feltBy (.int x_feltMany) w_many w_heardOf w_heardBy (.int x_heardMany) w_worth (.int x_drawn) (.int x_came) w_kept w_isKept w_keptCame), (q_now, aI cT 47 u.2)])) A) ([.ref h, .int p1, .int p2, .int p3, .int p4] : List Value).toArray s 0 0 A) (F0 m 40 ls []) := by
    intro n40
    induction n40 with
    | zero =>
      intro y6_40 y5_40 f_now_40 H locs ls hg hP hD hS hl
      exact False.elim hg
    | succ n40 ih40 =>
      have L106 : ∀ (y6_40 : Int32) (y5_40 : Int32) (f_now_40 : Nat → Int32) (s2_106 : Int32) (H : Heap) (locs : List Loc) (ls : Array Slot), p_X8_sheet_106 F p4 y6_40 y5_40 f_now_40 (p_X8_sheet_40 F p1 p2 p4 x_arches Post n40) Post s2_106 → va_P D cls9 [(h, oX8 (.ref q_now) (.int x_arches) (.int x_cats) w_text (.int x_typed) w_row (.int x_rowMany) (.int (0 : Int32)) w_read (.int x_length) (.int x_top) (.int x_at) (.int x_wrong) w_told w_rule w_otherRule (.int x_ruleSize) (.int x_isAsked) w_asked w_undos (.int x_undoMany) w_aside w_then w_hold (.int x_dropped) w_acts w_guarded w_train (.int x_trolleyEnd) w_feltOf w_feltBy (.int x_feltMany) w_many w_heardOf w_heardBy (.int x_heardMany) w_worth (.int x_drawn) (.int x_came) w_kept w_isKept w_keptCame), (q_now, aI cT 47 f_now_40)] H → va_D A [(h, oX8 (.ref q_now) (.int x_arches) (.int x_cats) w_text (.int x_typed) w_row (.int x_rowMany) (.int (0 : Int32)) w_read (.int x_length) (.int x_top) (.int x_at) (.int x_wrong) w_told w_rule w_otherRule (.int x_ruleSize) (.int x_isAsked) w_asked w_undos (.int x_undoMany) w_aside w_then w_hold (.int x_dropped) w_acts w_guarded w_train (.int x_trolleyEnd) w_feltOf w_feltBy (.int x_feltMany) w_many w_heardOf w_heardBy (.int x_heardMany) w_worth (.int x_drawn) (.int x_came) w_kept w_isKept w_keptCame), (q_now, aI cT 47 f_now_40)] → va_S A s.heap H locs → lv_has ls 8 [(0, .ref h), (1, .int p1), (2, .int p2), (4, .int p4), (5, .int y5_40), (6, .int y6_40)] → W p l e (rmO 1 30 0 0) s m ([.ref h, .int p1, .int p2, .int p3, .int p4] : List Value).toArray below meth c H locs 0 0 (MQ below (va_Qi Post (cB D A (fun (u : (Int32 × (Nat → Int32))) => [(h, oX8 (.ref q_now) (.int x_arches) (.int x_cats) w_text (.int x_typed) w_row (.int x_rowMany) (.int u.1) w_read (.int x_length) (.int x_top) (.int x_at) (.int x_wrong) w_told w_rule w_otherRule (.int x_ruleSize) (.int x_isAsked) w_asked w_undos (.int x_undoMany) w_aside w_then w_hold (.int x_dropped) w_acts w_guarded w_train (.int x_trolleyEnd) w_feltOf w_feltBy (.int x_feltMany) w_many w_heardOf w_heardBy (.int x_heardMany) w_worth (.int x_drawn) (.int x_came) w_kept w_isKept w_keptCame), (q_now, aI cT 47 u.2)])) A) ([.ref h, .int p1, .int p2, .int p3, .int p4] : List Value).toArray s 0 0 A) (F0 m 106 ls [.int s2_106, .int y6_40, .ref q_now]) := by
        intro y6_40 y5_40 f_now_40 s2_106 H locs ls hg hP hD hS hl
        unfold p_X8_sheet_106 at hg
        obtain ⟨g_106, hg⟩ := hg
        refine k_iast C0 hP hD hS 1 rfl g_106 (ws' := [(h, oX8 (.ref q_now) (.int x_arches) (.int x_cats) w_text (.int x_typed) w_row (.int x_rowMany) (.int (0 : Int32)) w_read (.int x_length) (.int x_top) (.int x_at) (.int x_wrong) w_told w_rule w_otherRule (.int x_ruleSize) (.int x_isAsked) w_asked w_undos (.int x_undoMany) w_aside w_then w_hold (.int x_dropped) w_acts w_guarded w_train (.int x_trolleyEnd) w_feltOf w_feltBy (.int x_feltMany) w_many w_heardOf w_heardBy (.int x_heardMany) w_worth (.int x_drawn) (.int x_came) w_kept w_isKept w_keptCame), (q_now, aI cT 47 (upd f_now_40 y6_40.toNatClampNeg s2_106))]) rfl dX8_sheet_106 (fun H locs hP hD hS => ?_)
        refine lv_iload hx hb dX8_sheet_107 (lv_at hl 4 rfl) ?_
        refine lv_iload hx hb dX8_sheet_109 (lv_at hl 3 rfl) ?_
        refine lv_iadd hx hb dX8_sheet_111 ?_
        refine lv_istore (lv' := [(5, .int (y5_40 + p4)), (0, .ref h), (1, .int p1), (2, .int p2), (4, .int p4), (6, .int y6_40)]) hx hb dX8_sheet_112 hl (by decide) rfl (fun ls hl => ?_)
        refine lv_iinc (v := (y6_40 + (1 : Int32))) (lv' := [(6, .int (y6_40 + (1 : Int32))), (5, .int (y5_40 + p4)), (0, .ref h), (1, .int p1), (2, .int p2), (4, .int p4)]) hx hb dX8_sheet_114 hl (k := 5) rfl rfl (by decide) rfl (fun ls hl => ?_)
        refine lv_goto (tgt := 40) hx hb dX8_sheet_117 (by decide) ?_
        exact ih40 (y6_40 + (1 : Int32)) (y5_40 + p4) (upd f_now_40 y6_40.toNatClampNeg s2_106) _ _ _ hg hP hD hS (lv_sub hl [2, 3, 4, 5, 1, 0] rfl)
      have L91 : ∀ (y6_40 : Int32) (y5_40 : Int32) (f_now_40 : Nat → Int32) (H : Heap) (locs : List Loc) (ls : Array Slot), p_X8_sheet_91 F p4 y6_40 y5_40 f_now_40 (p_X8_sheet_40 F p1 p2 p4 x_arches Post n40) Post → va_P D cls9 [(h, oX8 (.ref q_now) (.int x_arches) (.int x_cats) w_text (.int x_typed) w_row (.int x_rowMany) (.int (0 : Int32)) w_read (.int x_length) (.int x_top) (.int x_at) (.int x_wrong) w_told w_rule w_otherRule (.int x_ruleSize) (.int x_isAsked) w_asked w_undos (.int x_undoMany) w_aside w_then w_hold (.int x_dropped) w_acts w_guarded w_train (.int x_trolleyEnd) w_feltOf w_feltBy (.int x_feltMany) w_many w_heardOf w_heardBy (.int x_heardMany) w_worth (.int x_drawn) (.int x_came) w_kept w_isKept w_keptCame), (q_now, aI cT 47 f_now_40)] H → va_D A [(h, oX8 (.ref q_now) (.int x_arches) (.int x_cats) w_text (.int x_typed) w_row (.int x_rowMany) (.int (0 : Int32)) w_read (.int x_length) (.int x_top) (.int x_at) (.int x_wrong) w_told w_rule w_otherRule (.int x_ruleSize) (.int x_isAsked) w_asked w_undos (.int x_undoMany) w_aside w_then w_hold (.int x_dropped) w_acts w_guarded w_train (.int x_trolleyEnd) w_feltOf w_feltBy (.int x_feltMany) w_many w_heardOf w_heardBy (.int x_heardMany) w_worth (.int x_drawn) (.int x_came) w_kept w_isKept w_keptCame), (q_now, aI cT 47 f_now_40)] → va_S A s.heap H locs → lv_has ls 8 [(0, .ref h), (1, .int p1), (2, .int p2), (4, .int p4), (5, .int y5_40), (6, .int y6_40)] → W p l e (rmO 1 30 0 0) s m ([.ref h, .int p1, .int p2, .int p3, .int p4] : List Value).toArray below meth c H locs 0 0 (MQ below (va_Qi Post (cB D A (fun (u : (Int32 × (Nat → Int32))) => [(h, oX8 (.ref q_now) (.int x_arches) (.int x_cats) w_text (.int x_typed) w_row (.int x_rowMany) (.int u.1) w_read (.int x_length) (.int x_top) (.int x_at) (.int x_wrong) w_told w_rule w_otherRule (.int x_ruleSize) (.int x_isAsked) w_asked w_undos (.int x_undoMany) w_aside w_then w_hold (.int x_dropped) w_acts w_guarded w_train (.int x_trolleyEnd) w_feltOf w_feltBy (.int x_feltMany) w_many w_heardOf w_heardBy (.int x_heardMany) w_worth (.int x_drawn) (.int x_came) w_kept w_isKept w_keptCame), (q_now, aI cT 47 u.2)])) A) ([.ref h, .int p1, .int p2, .int p3, .int p4] : List Value).toArray s 0 0 A) (F0 m 91 ls [.int y6_40, .ref q_now]) := by
        intro y6_40 y5_40 f_now_40 H locs ls hg hP hD hS hl
        unfold p_X8_sheet_91 at hg
        refine lv_iconst (v := (0 : Int32)) hx hb dX8_sheet_91 (by decide) ?_
        refine lv_goto (tgt := 106) hx hb dX8_sheet_92 (by decide) ?_
        exact L106 y6_40 y5_40 f_now_40 (0 : Int32) _ _ _ hg hP hD hS hl
      have L72 : ∀ (y6_40 : Int32) (y5_40 : Int32) (f_now_40 : Nat → Int32) (s0_72 : Int32) (H : Heap) (locs : List Loc) (ls : Array Slot), p_X8_sheet_72 F p1 p2 p4 y6_40 y5_40 f_now_40 (p_X8_sheet_40 F p1 p2 p4 x_arches Post n40) Post s0_72 → va_P D cls9 [(h, oX8 (.ref q_now) (.int x_arches) (.int x_cats) w_text (.int x_typed) w_row (.int x_rowMany) (.int (0 : Int32)) w_read (.int x_length) (.int x_top) (.int x_at) (.int x_wrong) w_told w_rule w_otherRule (.int x_ruleSize) (.int x_isAsked) w_asked w_undos (.int x_undoMany) w_aside w_then w_hold (.int x_dropped) w_acts w_guarded w_train (.int x_trolleyEnd) w_feltOf w_feltBy (.int x_feltMany) w_many w_heardOf w_heardBy (.int x_heardMany) w_worth (.int x_drawn) (.int x_came) w_kept w_isKept w_keptCame), (q_now, aI cT 47 f_now_40)] H → va_D A [(h, oX8 (.ref q_now) (.int x_arches) (.int x_cats) w_text (.int x_typed) w_row (.int x_rowMany) (.int (0 : Int32)) w_read (.int x_length) (.int x_top) (.int x_at) (.int x_wrong) w_told w_rule w_otherRule (.int x_ruleSize) (.int x_isAsked) w_asked w_undos (.int x_undoMany) w_aside w_then w_hold (.int x_dropped) w_acts w_guarded w_train (.int x_trolleyEnd) w_feltOf w_feltBy (.int x_feltMany) w_many w_heardOf w_heardBy (.int x_heardMany) w_worth (.int x_drawn) (.int x_came) w_kept w_isKept w_keptCame), (q_now, aI cT 47 f_now_40)] → va_S A s.heap H locs → lv_has ls 8 [(0, .ref h), (1, .int p1), (2, .int p2), (4, .int p4), (5, .int y5_40), (6, .int y6_40)] → W p l e (rmO 1 30 0 0) s m ([.ref h, .int p1, .int p2, .int p3, .int p4] : List Value).toArray below meth c H locs 0 0 (MQ below (va_Qi Post (cB D A (fun (u : (Int32 × (Nat → Int32))) => [(h, oX8 (.ref q_now) (.int x_arches) (.int x_cats) w_text (.int x_typed) w_row (.int x_rowMany) (.int u.1) w_read (.int x_length) (.int x_top) (.int x_at) (.int x_wrong) w_told w_rule w_otherRule (.int x_ruleSize) (.int x_isAsked) w_asked w_undos (.int x_undoMany) w_aside w_then w_hold (.int x_dropped) w_acts w_guarded w_train (.int x_trolleyEnd) w_feltOf w_feltBy (.int x_feltMany) w_many w_heardOf w_heardBy (.int x_heardMany) w_worth (.int x_drawn) (.int x_came) w_kept w_isKept w_keptCame), (q_now, aI cT 47 u.2)])) A) ([.ref h, .int p1, .int p2, .int p3, .int p4] : List Value).toArray s 0 0 A) (F0 m 72 ls [.int s0_72]) := by
        intro y6_40 y5_40 f_now_40 s0_72 H locs ls hg hP hD hS hl
        unfold p_X8_sheet_72 at hg
        refine lv_istore (lv' := [(7, .int s0_72), (0, .ref h), (1, .int p1), (2, .int p2), (4, .int p4), (5, .int y5_40), (6, .int y6_40)]) hx hb dX8_sheet_72 hl (by decide) rfl (fun ls hl => ?_)
        refine lv_aload_n hx hb dX8_sheet_74 rfl (lv_at hl 1 rfl) ?_
        refine gf_X8_9 C0 hP 0 rfl rfl dX8_sheet_75 ?_
        refine lv_iload hx hb dX8_sheet_78 (lv_at hl 6 rfl) ?_
        refine lv_iload_n hx hb dX8_sheet_80 rfl (lv_at hl 2 rfl) ?_
        refine lv_iconst (v := (3 : Int32)) hx hb dX8_sheet_81 (by decide) ?_
        refine lv_icmp_eq (tgt := 91) hx hb dX8_sheet_82 (by decide) (fun c_82 => ?_) (fun c_82 => ?_)
        · have hg := hg.1 c_82
          exact L91 y6_40 y5_40 f_now_40 _ _ _ hg hP hD hS (lv_sub hl [1, 2, 3, 4, 5, 6] rfl)
        have hg := hg.2 c_82
        refine lv_iload hx hb dX8_sheet_85 (lv_at hl 6 rfl) ?_
        refine lv_iload_n hx hb dX8_sheet_87 rfl (lv_at hl 3 rfl) ?_
        refine lv_icmp_lt (tgt := 95) hx hb dX8_sheet_88 (by decide) (fun c_88 => ?_) (fun c_88 => ?_)
        · have hg := hg.1 c_88
          refine lv_iconst (v := (0 : Int32)) hx hb dX8_sheet_95 (by decide) ?_
          refine lv_bipush (v := (9 : Int32)) hx hb dX8_sheet_96 (by decide) ?_
          refine lv_iload hx hb dX8_sheet_98 (lv_at hl 0 rfl) ?_
          refine k_min C0 w5_184 hl.1 (Nat.le_of_ble_eq_true rfl) (Nat.le_of_ble_eq_true rfl) (Nat.le_of_ble_eq_true rfl) (Nat.le_of_ble_eq_true rfl) dX8_sheet_100 ?_
          refine k_max C0 w5_185 hl.1 (Nat.le_of_ble_eq_true rfl) (Nat.le_of_ble_eq_true rfl) (Nat.le_of_ble_eq_true rfl) (Nat.le_of_ble_eq_true rfl) dX8_sheet_103 ?_
          exact L106 y6_40 y5_40 f_now_40 (if (0 : Int32) < (if s0_72 < (9 : Int32) then s0_72 else (9 : Int32)) then (if s0_72 < (9 : Int32) then s0_72 else (9 : Int32)) else (0 : Int32)) _ _ _ hg hP hD hS (lv_sub hl [1, 2, 3, 4, 5, 6] rfl)
        have hg := hg.2 c_88
        exact L91 y6_40 y5_40 f_now_40 _ _ _ hg hP hD hS (lv_sub hl [1, 2, 3, 4, 5, 6] rfl)
      intro y6_40 y5_40 f_now_40 H locs ls hg hP hD hS hl
      rw [p_X8_sheet_40_s] at hg
      refine lv_iload hx hb dX8_sheet_40 (lv_at hl 5 rfl) ?_
      refine lv_aload_n hx hb dX8_sheet_42 rfl (lv_at hl 0 rfl) ?_
      refine gf_X8_89 C0 hP 0 rfl rfl dX8_sheet_43 ?_
      refine lv_icmp_ge (tgt := 120) hx hb dX8_sheet_46 (by decide) (fun c_46 => ?_) (fun c_46 => ?_)
      · have hg := hg.1 c_46
        refine lv_iload_n hx hb dX8_sheet_120 rfl (lv_at hl 1 rfl) ?_
        refine lv_iconst (v := (3 : Int32)) hx hb dX8_sheet_121 (by decide) ?_
        refine lv_icmp_ne (tgt := 130) hx hb dX8_sheet_122 (by decide) (fun c_122 => ?_) (fun c_122 => ?_)
        · have hg := hg.1 c_122
          refine lv_aload_n hx hb dX8_sheet_130 rfl (lv_at hl 0 rfl) ?_
          refine gf_X8_9 C0 hP 0 rfl rfl dX8_sheet_131 ?_
          refine lv_iconst (v := (0 : Int32)) hx hb dX8_sheet_134 (by decide) ?_
          refine lv_aload_n hx hb dX8_sheet_135 rfl (lv_at hl 0 rfl) ?_
          refine gf_X8_89 C0 hP 0 rfl rfl dX8_sheet_136 ?_
          refine k_Sxi (rest := []) C0 lk_X8_227 (c_X8_sumOf l D cT F q_now (0 : Int32) x_arches 47 f_now_40 _ hg) hP hD hS hA [1] (by decide +kernel) rfl ⟨Nat.le_of_ble_eq_true rfl, Nat.le_of_ble_eq_true rfl⟩ rfl hl.1 rfl (Nat.le_of_ble_eq_true rfl) dX8_sheet_139 ⟨Nat.le_of_ble_eq_true rfl, Nat.le_of_ble_eq_true rfl⟩ (fun r_139 hg => ?_)
          exact k_iret C0 hr ((0 : Int32), f_now_40) hg hP hD hS dX8_sheet_142
        have hg := hg.2 c_122
        refine lv_bipush (v := (-3 : Int32)) hx hb dX8_sheet_125 (by decide) ?_
        refine lv_goto (tgt := 142) hx hb dX8_sheet_127 (by decide) ?_
        exact k_iret C0 hr ((0 : Int32), f_now_40) hg hP hD hS dX8_sheet_142
      have hg := hg.2 c_46
      refine lv_iload_n hx hb dX8_sheet_49 rfl (lv_at hl 1 rfl) ?_
      refine lv_if_ne (tgt := 59) hx hb dX8_sheet_50 (by decide) (fun c_50 => ?_) (fun c_50 => ?_)
      · have hg := hg.1 c_50
        refine lv_iload_n hx hb dX8_sheet_59 rfl (lv_at hl 1 rfl) ?_
        refine lv_iconst (v := (1 : Int32)) hx hb dX8_sheet_60 (by decide) ?_
        refine lv_icmp_ne (tgt := 70) hx hb dX8_sheet_61 (by decide) (fun c_61 => ?_) (fun c_61 => ?_)
        · have hg := hg.1 c_61
          refine lv_iload hx hb dX8_sheet_70 (lv_at hl 4 rfl) ?_
          exact L72 y6_40 y5_40 f_now_40 y5_40 _ _ _ hg hP hD hS hl
        have hg := hg.2 c_61
        refine lv_iload hx hb dX8_sheet_64 (lv_at hl 4 rfl) ?_
        refine lv_i2s (v := (y5_40.toInt16.toInt32)) hx hb dX8_sheet_66 rfl ?_
        refine lv_goto (tgt := 72) hx hb dX8_sheet_67 (by decide) ?_
        exact L72 y6_40 y5_40 f_now_40 (y5_40.toInt16.toInt32) _ _ _ hg hP hD hS hl
      have hg := hg.2 c_50
      refine lv_iload hx hb dX8_sheet_53 (lv_at hl 4 rfl) ?_
      refine lv_i2b (v := (y5_40.toInt8.toInt32)) hx hb dX8_sheet_55 rfl ?_
      refine lv_goto (tgt := 72) hx hb dX8_sheet_56 (by decide) ?_
      exact L72 y6_40 y5_40 f_now_40 (y5_40.toInt8.toInt32) _ _ _ hg hP hD hS hl
  have L34 : ∀ (H : Heap) (locs : List Loc) (ls : Array Slot), p_X8_sheet_34 F p1 p2 p3 p4 x_arches f_now Post → va_P D cls9 [(h, oX8 (.ref q_now) (.int x_arches) (.int x_cats) w_text (.int x_typed) w_row (.int x_rowMany) (.int (0 : Int32)) w_read (.int x_length) (.int x_top) (.int x_at) (.int x_wrong) w_told w_rule w_otherRule (.int x_ruleSize) (.int x_isAsked) w_asked w_undos (.int x_undoMany) w_aside w_then w_hold (.int x_dropped) w_acts w_guarded w_train (.int x_trolleyEnd) w_feltOf w_feltBy (.int x_feltMany) w_many w_heardOf w_heardBy (.int x_heardMany) w_worth (.int x_drawn) (.int x_came) w_kept w_isKept w_keptCame), (q_now, aI cT 47 f_now)] H → va_D A [(h, oX8 (.ref q_now) (.int x_arches) (.int x_cats) w_text (.int x_typed) w_row (.int x_rowMany) (.int (0 : Int32)) w_read (.int x_length) (.int x_top) (.int x_at) (.int x_wrong) w_told w_rule w_otherRule (.int x_ruleSize) (.int x_isAsked) w_asked w_undos (.int x_undoMany) w_aside w_then w_hold (.int x_dropped) w_acts w_guarded w_train (.int x_trolleyEnd) w_feltOf w_feltBy (.int x_feltMany) w_many w_heardOf w_heardBy (.int x_heardMany) w_worth (.int x_drawn) (.int x_came) w_kept w_isKept w_keptCame), (q_now, aI cT 47 f_now)] → va_S A s.heap H locs → lv_has ls 8 [(0, .ref h), (1, .int p1), (2, .int p2), (3, .int p3), (4, .int p4)] → W p l e (rmO 1 30 0 0) s m ([.ref h, .int p1, .int p2, .int p3, .int p4] : List Value).toArray below meth c H locs 0 0 (MQ below (va_Qi Post (cB D A (fun (u : (Int32 × (Nat → Int32))) => [(h, oX8 (.ref q_now) (.int x_arches) (.int x_cats) w_text (.int x_typed) w_row (.int x_rowMany) (.int u.1) w_read (.int x_length) (.int x_top) (.int x_at) (.int x_wrong) w_told w_rule w_otherRule (.int x_ruleSize) (.int x_isAsked) w_asked w_undos (.int x_undoMany) w_aside w_then w_hold (.int x_dropped) w_acts w_guarded w_train (.int x_trolleyEnd) w_feltOf w_feltBy (.int x_feltMany) w_many w_heardOf w_heardBy (.int x_heardMany) w_worth (.int x_drawn) (.int x_came) w_kept w_isKept w_keptCame), (q_now, aI cT 47 u.2)])) A) ([.ref h, .int p1, .int p2, .int p3, .int p4] : List Value).toArray s 0 0 A) (F0 m 34 ls []) := by
    intro H locs ls hg hP hD hS hl
    unfold p_X8_sheet_34 at hg
    refine lv_iload_n hx hb dX8_sheet_34 rfl (lv_at hl 3 rfl) ?_
    refine lv_istore (lv' := [(5, .int p3), (0, .ref h), (1, .int p1), (2, .int p2), (3, .int p3), (4, .int p4)]) hx hb dX8_sheet_35 hl (by decide) rfl (fun ls hl => ?_)
    refine lv_iconst (v := (0 : Int32)) hx hb dX8_sheet_37 (by decide) ?_
    refine lv_istore (lv' := [(6, .int (0 : Int32)), (5, .int p3), (0, .ref h), (1, .int p1), (2, .int p2), (3, .int p3), (4, .int p4)]) hx hb dX8_sheet_38 hl (by decide) rfl (fun ls hl => ?_)
    exact L40 F (0 : Int32) p3 f_now _ _ _ hg hP hD hS (lv_sub hl [2, 3, 4, 6, 1, 0] rfl)
  unfold p_X8_sheet at hg
  refine lv_aload_n hx hb dX8_sheet_0 rfl (lv_at hl 0 rfl) ?_
  refine lv_iconst (v := (0 : Int32)) hx hb dX8_sheet_1 (by decide) ?_
  refine pf_X8_82 C0 hP hD hS 0 rfl (Nat.le_of_ble_eq_true rfl) (ws2 := [(h, oX8 (.ref q_now) (.int x_arches) (.int x_cats) w_text (.int x_typed) w_row (.int x_rowMany) (.int (0 : Int32)) w_read (.int x_length) (.int x_top) (.int x_at) (.int x_wrong) w_told w_rule w_otherRule (.int x_ruleSize) (.int x_isAsked) w_asked w_undos (.int x_undoMany) w_aside w_then w_hold (.int x_dropped) w_acts w_guarded w_train (.int x_trolleyEnd) w_feltOf w_feltBy (.int x_feltMany) w_many w_heardOf w_heardBy (.int x_heardMany) w_worth (.int x_drawn) (.int x_came) w_kept w_isKept w_keptCame), (q_now, aI cT 47 f_now)]) rfl dX8_sheet_2 (fun H locs hP hD hS => ?_)
  refine lv_iload_n hx hb dX8_sheet_5 rfl (lv_at hl 1 rfl) ?_
  refine lv_iconst (v := (0 : Int32)) hx hb dX8_sheet_6 (by decide) ?_
  refine lv_iconst (v := (3 : Int32)) hx hb dX8_sheet_7 (by decide) ?_
  refine k_Sxi (rest := []) C0 lk_X8_92 (c_X8_in l D cT F p1 (0 : Int32) (3 : Int32) _ hg) hP hD hS hA [] (by decide +kernel) rfl ⟨Nat.le_of_ble_eq_true rfl, Nat.le_of_ble_eq_true rfl⟩ rfl hl.1 rfl (Nat.le_of_ble_eq_true rfl) dX8_sheet_8 ⟨Nat.le_of_ble_eq_true rfl, Nat.le_of_ble_eq_true rfl⟩ (fun r_8 hg => ?_)
  refine lv_if_eq (tgt := 20) hx hb dX8_sheet_11 (by decide) (fun c_11 => ?_) (fun c_11 => ?_)
  · have hg := hg.1 c_11
    refine lv_iconst (v := (-1 : Int32)) hx hb dX8_sheet_20 (by decide) ?_
    exact k_iret C0 hr ((0 : Int32), f_now) hg hP hD hS dX8_sheet_21
  have hg := hg.2 c_11
  refine lv_iload_n hx hb dX8_sheet_14 rfl (lv_at hl 2 rfl) ?_
  refine lv_bipush (v := (6 : Int32)) hx hb dX8_sheet_15 (by decide) ?_
  refine lv_icmp_le (tgt := 22) hx hb dX8_sheet_17 (by decide) (fun c_17 => ?_) (fun c_17 => ?_)
  · have hg := hg.1 c_17
    refine lv_iload_n hx hb dX8_sheet_22 rfl (lv_at hl 1 rfl) ?_
    refine lv_iconst (v := (3 : Int32)) hx hb dX8_sheet_23 (by decide) ?_
    refine lv_icmp_ge (tgt := 34) hx hb dX8_sheet_24 (by decide) (fun c_24 => ?_) (fun c_24 => ?_)
    · have hg := hg.1 c_24
      exact L34 _ _ _ hg hP hD hS hl
    have hg := hg.2 c_24
    refine lv_iload_n hx hb dX8_sheet_27 rfl (lv_at hl 2 rfl) ?_
    refine lv_if_ge (tgt := 34) hx hb dX8_sheet_28 (by decide) (fun c_28 => ?_) (fun c_28 => ?_)
    · have hg := hg.1 c_28
      exact L34 _ _ _ hg hP hD hS hl
    have hg := hg.2 c_28
    refine lv_bipush (v := (-2 : Int32)) hx hb dX8_sheet_31 (by decide) ?_
    exact k_iret C0 hr ((0 : Int32), f_now) hg hP hD hS dX8_sheet_33
  have hg := hg.2 c_17
  refine lv_iconst (v := (-1 : Int32)) hx hb dX8_sheet_20 (by decide) ?_
  exact k_iret C0 hr ((0 : Int32), f_now) hg hP hD hS dX8_sheet_21
theorem dX8_lay_0 : decode cX8_lay 0 = .ok (.iconst 0, 1) := by decide +kernel
theorem dX8_lay_1 : decode cX8_lay 1 = .ok (.istore_n 3, 1) := by decide +kernel
theorem dX8_lay_2 : decode cX8_lay 2 = .ok (.iload_n 3, 1) := by decide +kernel
theorem dX8_lay_3 : decode cX8_lay 3 = .ok (.bipush 47, 2) := by decide +kernel
theorem dX8_lay_5 : decode cX8_lay 5 = .ok (.if_icmp .ge 17, 3) := by decide +kernel
theorem dX8_lay_8 : decode cX8_lay 8 = .ok (.aload_n 1, 1) := by decide +kernel
theorem dX8_lay_9 : decode cX8_lay 9 = .ok (.iload_n 2, 1) := by decide +kernel
theorem dX8_lay_10 : decode cX8_lay 10 = .ok (.iload_n 3, 1) := by decide +kernel
theorem dX8_lay_11 : decode cX8_lay 11 = .ok (.iadd, 1) := by decide +kernel
theorem dX8_lay_12 : decode cX8_lay 12 = .ok (.aload_n 0, 1) := by decide +kernel
theorem dX8_lay_13 : decode cX8_lay 13 = .ok (.iload_n 3, 1) := by decide +kernel
theorem dX8_lay_14 : decode cX8_lay 14 = .ok (.iaload, 1) := by decide +kernel
theorem dX8_lay_15 : decode cX8_lay 15 = .ok (.iastore, 1) := by decide +kernel
theorem dX8_lay_16 : decode cX8_lay 16 = .ok (.iinc 3 1, 3) := by decide +kernel
theorem dX8_lay_19 : decode cX8_lay 19 = .ok (.goto (-17), 3) := by decide +kernel
theorem dX8_lay_22 : decode cX8_lay 22 = .ok (.return_, 1) := by decide +kernel
noncomputable def p_X8_lay_2 (F : Nat) (p2 : Int32) (n_b0 : Nat) (f_b0 : Nat → Int32) (n_b1 : Nat) (Post : (Nat → Int32) → Prop) (n : Nat) : Int32 → (Nat → Int32) → Prop := Nat.rec (motive := fun _ => Int32 → (Nat → Int32) → Prop) (fun _ _ => False) (fun _ k2 => fun (y3_2 : Int32) (f_b1_2 : Nat → Int32) => (((47 : Int32) ≤ y3_2 → (Post f_b1_2)) ∧ (¬ (47 : Int32) ≤ y3_2 → (vp_in y3_2 n_b0 ∧ (vp_in (p2 + y3_2) n_b1 ∧ (k2 (y3_2 + (1 : Int32)) (upd f_b1_2 (p2 + y3_2).toNatClampNeg (f_b0 y3_2.toNatClampNeg)))))))) n
theorem p_X8_lay_2_s (F : Nat) (p2 : Int32) (n_b0 : Nat) (f_b0 : Nat → Int32) (n_b1 : Nat) (Post : (Nat → Int32) → Prop) (n : Nat) (y3_2 : Int32) (f_b1_2 : Nat → Int32) : p_X8_lay_2 F p2 n_b0 f_b0 n_b1 Post (n + 1) y3_2 f_b1_2 = (((47 : Int32) ≤ y3_2 → (Post f_b1_2)) ∧ (¬ (47 : Int32) ≤ y3_2 → (vp_in y3_2 n_b0 ∧ (vp_in (p2 + y3_2) n_b1 ∧ ((p_X8_lay_2 F p2 n_b0 f_b0 n_b1 Post n) (y3_2 + (1 : Int32)) (upd f_b1_2 (p2 + y3_2).toNatClampNeg (f_b0 y3_2.toNatClampNeg))))))) := rfl
def p_X8_lay (F : Nat) (p2 : Int32) (n_b0 : Nat) (f_b0 : Nat → Int32) (n_b1 : Nat) (f_b1 : Nat → Int32) (Post : (Nat → Int32) → Prop) : Prop := (p_X8_lay_2 F p2 n_b0 f_b0 n_b1 Post F (0 : Int32) f_b1)
set_option maxHeartbeats 4000000 in
set_option maxRecDepth 100000 in
theorem c_X8_lay (l : Launch) (D : va_G) (cT : Nat → ClassId) (F : Nat) (b0 : Nat) (b1 : Nat) (p2 : Int32) (n_b0 : Nat) (f_b0 : Nat → Int32) (n_b1 : Nat) (f_b1 : Nat → Int32) (Post : (Nat → Int32) → Prop) (hg : p_X8_lay F p2 n_b0 f_b0 n_b1 f_b1 Post) : MWv l D cT yX8_lay cX8_lay 4 none 0 0 0 0 [.ref b0, .ref b1, .int p2] [(b0, aI cT n_b0 f_b0), (b1, aI cT n_b1 f_b1)] Post (fun (u : (Nat → Int32)) => [(b0, aI cT n_b0 f_b0), (b1, aI cT n_b1 u)]) := by
  refine MWv.of (by decide) (Nat.le_of_ble_eq_true rfl) ?_
  intro p e s m below meth c A hA C0 hnm hr hP hD ls hl
  have hl : lv_has ls 4 [(0, .ref b0), (1, .ref b1), (2, .int p2)] := hl
  have hx := C0.x
  have hb := C0.b
  have hS : va_S A s.heap s.heap [] := va_S.rf
  have hP : va_P D cls9 [(b0, aI cT n_b0 f_b0), (b1, aI cT n_b1 f_b1)] s.heap := hP
  have hD : va_D A [(b0, aI cT n_b0 f_b0), (b1, aI cT n_b1 f_b1)] := hD
  have L2 : ∀ (n2 : Nat) (y3_2 : Int32) (f_b1_2 : Nat → Int32) (H : Heap) (locs : List Loc) (ls : Array Slot), p_X8_lay_2 F p2 n_b0 f_b0 n_b1 Post n2 y3_2 f_b1_2 → va_P D cls9 [(b0, aI cT n_b0 f_b0), (b1, aI cT n_b1 f_b1_2)] H → va_D A [(b0, aI cT n_b0 f_b0), (b1, aI cT n_b1 f_b1_2)] → va_S A s.heap H locs → lv_has ls 4 [(0, .ref b0), (1, .ref b1), (2, .int p2), (3, .int y3_2)] → W p l e (rmO 0 0 0 0) s m ([.ref b0, .ref b1, .int p2] : List Value).toArray below meth c H locs 0 0 (MQ below (va_Qv Post (cB D A (fun (u : (Nat → Int32)) => [(b0, aI cT n_b0 f_b0), (b1, aI cT n_b1 u)])) A) ([.ref b0, .ref b1, .int p2] : List Value).toArray s 0 0 A) (F0 m 2 ls []) := by
    intro n2
    induction n2 with
    | zero =>
      intro y3_2 f_b1_2 H locs ls hg hP hD hS hl
      exact False.elim hg
    | succ n2 ih2 =>
      intro y3_2 f_b1_2 H locs ls hg hP hD hS hl
      rw [p_X8_lay_2_s] at hg
      refine lv_iload_n hx hb dX8_lay_2 rfl (lv_at hl 3 rfl) ?_
      refine lv_bipush (v := (47 : Int32)) hx hb dX8_lay_3 (by decide) ?_
      refine lv_icmp_ge (tgt := 22) hx hb dX8_lay_5 (by decide) (fun c_5 => ?_) (fun c_5 => ?_)
      · have hg := hg.1 c_5
        exact k_vret C0 hr f_b1_2 hg hP hD hS dX8_lay_22
      have hg := hg.2 c_5
      refine lv_aload_n hx hb dX8_lay_8 rfl (lv_at hl 1 rfl) ?_
      refine lv_iload_n hx hb dX8_lay_9 rfl (lv_at hl 2 rfl) ?_
      refine lv_iload_n hx hb dX8_lay_10 rfl (lv_at hl 3 rfl) ?_
      refine lv_iadd hx hb dX8_lay_11 ?_
      refine lv_aload_n hx hb dX8_lay_12 rfl (lv_at hl 0 rfl) ?_
      refine lv_iload_n hx hb dX8_lay_13 rfl (lv_at hl 3 rfl) ?_
      obtain ⟨g_14, hg⟩ := hg
      refine k_iald C0 hP 0 rfl g_14 dX8_lay_14 ?_
      obtain ⟨g_15, hg⟩ := hg
      refine k_iast C0 hP hD hS 1 rfl g_15 (ws' := [(b0, aI cT n_b0 f_b0), (b1, aI cT n_b1 (upd f_b1_2 (p2 + y3_2).toNatClampNeg (f_b0 y3_2.toNatClampNeg)))]) rfl dX8_lay_15 (fun H locs hP hD hS => ?_)
      refine lv_iinc (v := (y3_2 + (1 : Int32))) (lv' := [(3, .int (y3_2 + (1 : Int32))), (0, .ref b0), (1, .ref b1), (2, .int p2)]) hx hb dX8_lay_16 hl (k := 3) rfl rfl (by decide) rfl (fun ls hl => ?_)
      refine lv_goto (tgt := 2) hx hb dX8_lay_19 (by decide) ?_
      exact ih2 (y3_2 + (1 : Int32)) (upd f_b1_2 (p2 + y3_2).toNatClampNeg (f_b0 y3_2.toNatClampNeg)) _ _ _ hg hP hD hS (lv_sub hl [1, 2, 3, 0] rfl)
  unfold p_X8_lay at hg
  refine lv_iconst (v := (0 : Int32)) hx hb dX8_lay_0 (by decide) ?_
  refine lv_istore_n (lv' := [(3, .int (0 : Int32)), (0, .ref b0), (1, .ref b1), (2, .int p2)]) hx hb dX8_lay_1 rfl hl (by decide) rfl (fun ls hl => ?_)
  exact L2 F (0 : Int32) f_b1 _ _ _ hg hP hD hS (lv_sub hl [1, 2, 3, 0] rfl)
theorem dX8_remember_0 : decode cX8_remember 0 = .ok (.aload_n 0, 1) := by decide +kernel
theorem dX8_remember_1 : decode cX8_remember 1 = .ok (.getfield 141, 3) := by decide +kernel
theorem dX8_remember_4 : decode cX8_remember 4 = .ok (.bipush 12, 2) := by decide +kernel
theorem dX8_remember_6 : decode cX8_remember 6 = .ok (.if_icmp .ne 43, 3) := by decide +kernel
theorem dX8_remember_9 : decode cX8_remember 9 = .ok (.iconst 0, 1) := by decide +kernel
theorem dX8_remember_10 : decode cX8_remember 10 = .ok (.istore_n 2, 1) := by decide +kernel
theorem dX8_remember_11 : decode cX8_remember 11 = .ok (.iload_n 2, 1) := by decide +kernel
theorem dX8_remember_12 : decode cX8_remember 12 = .ok (.sipush 517, 3) := by decide +kernel
theorem dX8_remember_15 : decode cX8_remember 15 = .ok (.if_icmp .ge 24, 3) := by decide +kernel
theorem dX8_remember_18 : decode cX8_remember 18 = .ok (.aload_n 0, 1) := by decide +kernel
theorem dX8_remember_19 : decode cX8_remember 19 = .ok (.getfield 33, 3) := by decide +kernel
theorem dX8_remember_22 : decode cX8_remember 22 = .ok (.iload_n 2, 1) := by decide +kernel
theorem dX8_remember_23 : decode cX8_remember 23 = .ok (.aload_n 0, 1) := by decide +kernel
theorem dX8_remember_24 : decode cX8_remember 24 = .ok (.getfield 33, 3) := by decide +kernel
theorem dX8_remember_27 : decode cX8_remember 27 = .ok (.iload_n 2, 1) := by decide +kernel
theorem dX8_remember_28 : decode cX8_remember 28 = .ok (.bipush 47, 2) := by decide +kernel
theorem dX8_remember_30 : decode cX8_remember 30 = .ok (.iadd, 1) := by decide +kernel
theorem dX8_remember_31 : decode cX8_remember 31 = .ok (.iaload, 1) := by decide +kernel
theorem dX8_remember_32 : decode cX8_remember 32 = .ok (.iastore, 1) := by decide +kernel
theorem dX8_remember_33 : decode cX8_remember 33 = .ok (.iinc 2 1, 3) := by decide +kernel
theorem dX8_remember_36 : decode cX8_remember 36 = .ok (.goto (-25), 3) := by decide +kernel
theorem dX8_remember_39 : decode cX8_remember 39 = .ok (.aload_n 0, 1) := by decide +kernel
theorem dX8_remember_40 : decode cX8_remember 40 = .ok (.dup, 1) := by decide +kernel
theorem dX8_remember_41 : decode cX8_remember 41 = .ok (.getfield 141, 3) := by decide +kernel
theorem dX8_remember_44 : decode cX8_remember 44 = .ok (.iconst 1, 1) := by decide +kernel
theorem dX8_remember_45 : decode cX8_remember 45 = .ok (.isub, 1) := by decide +kernel
theorem dX8_remember_46 : decode cX8_remember 46 = .ok (.putfield 141, 3) := by decide +kernel
theorem dX8_remember_49 : decode cX8_remember 49 = .ok (.aload_n 1, 1) := by decide +kernel
theorem dX8_remember_50 : decode cX8_remember 50 = .ok (.aload_n 0, 1) := by decide +kernel
theorem dX8_remember_51 : decode cX8_remember 51 = .ok (.getfield 33, 3) := by decide +kernel
theorem dX8_remember_54 : decode cX8_remember 54 = .ok (.bipush 47, 2) := by decide +kernel
theorem dX8_remember_56 : decode cX8_remember 56 = .ok (.aload_n 0, 1) := by decide +kernel
theorem dX8_remember_57 : decode cX8_remember 57 = .ok (.getfield 141, 3) := by decide +kernel
theorem dX8_remember_60 : decode cX8_remember 60 = .ok (.imul, 1) := by decide +kernel
theorem dX8_remember_61 : decode cX8_remember 61 = .ok (.invokestatic 231, 3) := by decide +kernel
theorem dX8_remember_64 : decode cX8_remember 64 = .ok (.aload_n 0, 1) := by decide +kernel
theorem dX8_remember_65 : decode cX8_remember 65 = .ok (.dup, 1) := by decide +kernel
theorem dX8_remember_66 : decode cX8_remember 66 = .ok (.getfield 141, 3) := by decide +kernel
theorem dX8_remember_69 : decode cX8_remember 69 = .ok (.iconst 1, 1) := by decide +kernel
theorem dX8_remember_70 : decode cX8_remember 70 = .ok (.iadd, 1) := by decide +kernel
theorem dX8_remember_71 : decode cX8_remember 71 = .ok (.putfield 141, 3) := by decide +kernel
theorem dX8_remember_74 : decode cX8_remember 74 = .ok (.return_, 1) := by decide +kernel
def p_X8_remember_49 (F : Nat) (n_b1 : Nat) (f_b1 : Nat → Int32) (Post : (Int32 × (Nat → Int32)) → Prop) (x_undoMany_49 : Int32) (f_undos_49 : Nat → Int32) : Prop := (p_X8_lay F ((47 : Int32) * x_undoMany_49) n_b1 f_b1 564 f_undos_49 (fun (u_61 : (Nat → Int32)) => (Post ((x_undoMany_49 + (1 : Int32)), u_61))))
noncomputable def p_X8_remember_11 (F : Nat) (x_undoMany : Int32) (n_b1 : Nat) (f_b1 : Nat → Int32) (Post : (Int32 × (Nat → Int32)) → Prop) (n : Nat) : Int32 → (Nat → Int32) → Prop := Nat.rec (motive := fun _ => Int32 → (Nat → Int32) → Prop) (fun _ _ => False) (fun _ k11 => fun (y2_11 : Int32) (f_undos_11 : Nat → Int32) => (((517 : Int32) ≤ y2_11 → (p_X8_remember_49 F n_b1 f_b1 Post (x_undoMany - (1 : Int32)) f_undos_11)) ∧ (¬ (517 : Int32) ≤ y2_11 → (vp_in (y2_11 + (47 : Int32)) 564 ∧ (vp_in y2_11 564 ∧ (k11 (y2_11 + (1 : Int32)) (upd f_undos_11 y2_11.toNatClampNeg (f_undos_11 (y2_11 + (47 : Int32)).toNatClampNeg)))))))) n
theorem p_X8_remember_11_s (F : Nat) (x_undoMany : Int32) (n_b1 : Nat) (f_b1 : Nat → Int32) (Post : (Int32 × (Nat → Int32)) → Prop) (n : Nat) (y2_11 : Int32) (f_undos_11 : Nat → Int32) : p_X8_remember_11 F x_undoMany n_b1 f_b1 Post (n + 1) y2_11 f_undos_11 = (((517 : Int32) ≤ y2_11 → (p_X8_remember_49 F n_b1 f_b1 Post (x_undoMany - (1 : Int32)) f_undos_11)) ∧ (¬ (517 : Int32) ≤ y2_11 → (vp_in (y2_11 + (47 : Int32)) 564 ∧ (vp_in y2_11 564 ∧ ((p_X8_remember_11 F x_undoMany n_b1 f_b1 Post n) (y2_11 + (1 : Int32)) (upd f_undos_11 y2_11.toNatClampNeg (f_undos_11 (y2_11 + (47 : Int32)).toNatClampNeg))))))) := rfl
def p_X8_remember (F : Nat) (x_undoMany : Int32) (f_undos : Nat → Int32) (n_b1 : Nat) (f_b1 : Nat → Int32) (Post : (Int32 × (Nat → Int32)) → Prop) : Prop := ((¬ x_undoMany = (12 : Int32) → (p_X8_remember_49 F n_b1 f_b1 Post x_undoMany f_undos)) ∧ (x_undoMany = (12 : Int32) → (p_X8_remember_11 F x_undoMany n_b1 f_b1 Post F (0 : Int32) f_undos)))
set_option maxHeartbeats 4000000 in
set_option maxRecDepth 100000 in
theorem c_X8_remember (l : Launch) (D : va_G) (cT : Nat → ClassId) (F : Nat) (h : Nat) (b1 : Nat) (w_now : Value) (x_arches : Int32) (x_cats : Int32) (w_text : Value) (x_typed : Int32) (w_row : Value) (x_rowMany : Int32) (x_thrown : Int32) (w_read : Value) (x_length : Int32) (x_top : Int32) (x_at : Int32) (x_wrong : Int32) (w_told : Value) (w_rule : Value) (w_otherRule : Value) (x_ruleSize : Int32) (x_isAsked : Int32) (w_asked : Value) (q_undos : Nat) (x_undoMany : Int32) (w_aside : Value) (w_then : Value) (w_hold : Value) (x_dropped : Int32) (w_acts : Value) (w_guarded : Value) (w_train : Value) (x_trolleyEnd : Int32) (w_feltOf : Value) (w_feltBy : Value) (x_feltMany : Int32) (w_many : Value) (w_heardOf : Value) (w_heardBy : Value) (x_heardMany : Int32) (w_worth : Value) (x_drawn : Int32) (x_came : Int32) (w_kept : Value) (w_isKept : Value) (w_keptCame : Value) (f_undos : Nat → Int32) (n_b1 : Nat) (f_b1 : Nat → Int32) (Post : (Int32 × (Nat → Int32)) → Prop) (hg : p_X8_remember F x_undoMany f_undos n_b1 f_b1 Post) : MWv l D cT yX8_remember cX8_remember 3 none 1 23 0 0 [.ref h, .ref b1] [(h, oX8 w_now (.int x_arches) (.int x_cats) w_text (.int x_typed) w_row (.int x_rowMany) (.int x_thrown) w_read (.int x_length) (.int x_top) (.int x_at) (.int x_wrong) w_told w_rule w_otherRule (.int x_ruleSize) (.int x_isAsked) w_asked (.ref q_undos) (.int x_undoMany) w_aside w_then w_hold (.int x_dropped) w_acts w_guarded w_train (.int x_trolleyEnd) w_feltOf w_feltBy (.int x_feltMany) w_many w_heardOf w_heardBy (.int x_heardMany) w_worth (.int x_drawn) (.int x_came) w_kept w_isKept w_keptCame), (q_undos, aI cT 564 f_undos), (b1, aI cT n_b1 f_b1)] Post (fun (u : (Int32 × (Nat → Int32))) => [(h, oX8 w_now (.int x_arches) (.int x_cats) w_text (.int x_typed) w_row (.int x_rowMany) (.int x_thrown) w_read (.int x_length) (.int x_top) (.int x_at) (.int x_wrong) w_told w_rule w_otherRule (.int x_ruleSize) (.int x_isAsked) w_asked (.ref q_undos) (.int u.1) w_aside w_then w_hold (.int x_dropped) w_acts w_guarded w_train (.int x_trolleyEnd) w_feltOf w_feltBy (.int x_feltMany) w_many w_heardOf w_heardBy (.int x_heardMany) w_worth (.int x_drawn) (.int x_came) w_kept w_isKept w_keptCame), (q_undos, aI cT 564 u.2), (b1, aI cT n_b1 f_b1)]) := by
  refine MWv.of (by decide) (Nat.le_of_ble_eq_true rfl) ?_
  intro p e s m below meth c A hA C0 hnm hr hP hD ls hl
  have hl : lv_has ls 3 [(0, .ref h), (1, .ref b1)] := hl
  have hx := C0.x
  have hb := C0.b
  have hS : va_S A s.heap s.heap [] := va_S.rf
  have hP : va_P D cls9 [(h, oX8 w_now (.int x_arches) (.int x_cats) w_text (.int x_typed) w_row (.int x_rowMany) (.int x_thrown) w_read (.int x_length) (.int x_top) (.int x_at) (.int x_wrong) w_told w_rule w_otherRule (.int x_ruleSize) (.int x_isAsked) w_asked (.ref q_undos) (.int x_undoMany) w_aside w_then w_hold (.int x_dropped) w_acts w_guarded w_train (.int x_trolleyEnd) w_feltOf w_feltBy (.int x_feltMany) w_many w_heardOf w_heardBy (.int x_heardMany) w_worth (.int x_drawn) (.int x_came) w_kept w_isKept w_keptCame), (q_undos, aI cT 564 f_undos), (b1, aI cT n_b1 f_b1)] s.heap := hP
  have hD : va_D A [(h, oX8 w_now (.int x_arches) (.int x_cats) w_text (.int x_typed) w_row (.int x_rowMany) (.int x_thrown) w_read (.int x_length) (.int x_top) (.int x_at) (.int x_wrong) w_told w_rule w_otherRule (.int x_ruleSize) (.int x_isAsked) w_asked (.ref q_undos) (.int x_undoMany) w_aside w_then w_hold (.int x_dropped) w_acts w_guarded w_train (.int x_trolleyEnd) w_feltOf w_feltBy (.int x_feltMany) w_many w_heardOf w_heardBy (.int x_heardMany) w_worth (.int x_drawn) (.int x_came) w_kept w_isKept w_keptCame), (q_undos, aI cT 564 f_undos), (b1, aI cT n_b1 f_b1)] := hD
  have L49 : ∀ (x_undoMany_49 : Int32) (f_undos_49 : Nat → Int32) (H : Heap) (locs : List Loc) (ls : Array Slot), p_X8_remember_49 F n_b1 f_b1 Post x_undoMany_49 f_undos_49 → va_P D cls9 [(h, oX8 w_now (.int x_arches) (.int x_cats) w_text (.int x_typed) w_row (.int x_rowMany) (.int x_thrown) w_read (.int x_length) (.int x_top) (.int x_at) (.int x_wrong) w_told w_rule w_otherRule (.int x_ruleSize) (.int x_isAsked) w_asked (.ref q_undos) (.int x_undoMany_49) w_aside w_then w_hold (.int x_dropped) w_acts w_guarded w_train (.int x_trolleyEnd) w_feltOf w_feltBy (.int x_feltMany) w_many w_heardOf w_heardBy (.int x_heardMany) w_worth (.int x_drawn) (.int x_came) w_kept w_isKept w_keptCame), (q_undos, aI cT 564 f_undos_49), (b1, aI cT n_b1 f_b1)] H → va_D A [(h, oX8 w_now (.int x_arches) (.int x_cats) w_text (.int x_typed) w_row (.int x_rowMany) (.int x_thrown) w_read (.int x_length) (.int x_top) (.int x_at) (.int x_wrong) w_told w_rule w_otherRule (.int x_ruleSize) (.int x_isAsked) w_asked (.ref q_undos) (.int x_undoMany_49) w_aside w_then w_hold (.int x_dropped) w_acts w_guarded w_train (.int x_trolleyEnd) w_feltOf w_feltBy (.int x_feltMany) w_many w_heardOf w_heardBy (.int x_heardMany) w_worth (.int x_drawn) (.int x_came) w_kept w_isKept w_keptCame), (q_undos, aI cT 564 f_undos_49), (b1, aI cT n_b1 f_b1)] → va_S A s.heap H locs → lv_has ls 3 [(0, .ref h), (1, .ref b1)] → W p l e (rmO 1 23 0 0) s m ([.ref h, .ref b1] : List Value).toArray below meth c H locs 0 0 (MQ below (va_Qv Post (cB D A (fun (u : (Int32 × (Nat → Int32))) => [(h, oX8 w_now (.int x_arches) (.int x_cats) w_text (.int x_typed) w_row (.int x_rowMany) (.int x_thrown) w_read (.int x_length) (.int x_top) (.int x_at) (.int x_wrong) w_told w_rule w_otherRule (.int x_ruleSize) (.int x_isAsked) w_asked (.ref q_undos) (.int u.1) w_aside w_then w_hold (.int x_dropped) w_acts w_guarded w_train (.int x_trolleyEnd) w_feltOf w_feltBy (.int x_feltMany) w_many w_heardOf w_heardBy (.int x_heardMany) w_worth (.int x_drawn) (.int x_came) w_kept w_isKept w_keptCame), (q_undos, aI cT 564 u.2), (b1, aI cT n_b1 f_b1)])) A) ([.ref h, .ref b1] : List Value).toArray s 0 0 A) (F0 m 49 ls []) := by
    intro x_undoMany_49 f_undos_49 H locs ls hg hP hD hS hl
    unfold p_X8_remember_49 at hg
    refine lv_aload_n hx hb dX8_remember_49 rfl (lv_at hl 1 rfl) ?_
    refine lv_aload_n hx hb dX8_remember_50 rfl (lv_at hl 0 rfl) ?_
    refine gf_X8_33 C0 hP 0 rfl rfl dX8_remember_51 ?_
    refine lv_bipush (v := (47 : Int32)) hx hb dX8_remember_54 (by decide) ?_
    refine lv_aload_n hx hb dX8_remember_56 rfl (lv_at hl 0 rfl) ?_
    refine gf_X8_141 C0 hP 0 rfl rfl dX8_remember_57 ?_
    refine lv_imul hx hb dX8_remember_60 ?_
    refine k_Sv (rest := []) (wr := [(h, oX8 w_now (.int x_arches) (.int x_cats) w_text (.int x_typed) w_row (.int x_rowMany) (.int x_thrown) w_read (.int x_length) (.int x_top) (.int x_at) (.int x_wrong) w_told w_rule w_otherRule (.int x_ruleSize) (.int x_isAsked) w_asked (.ref q_undos) (.int x_undoMany_49) w_aside w_then w_hold (.int x_dropped) w_acts w_guarded w_train (.int x_trolleyEnd) w_feltOf w_feltBy (.int x_feltMany) w_many w_heardOf w_heardBy (.int x_heardMany) w_worth (.int x_drawn) (.int x_came) w_kept w_isKept w_keptCame)]) (w2 := fun u_61 => [(h, oX8 w_now (.int x_arches) (.int x_cats) w_text (.int x_typed) w_row (.int x_rowMany) (.int x_thrown) w_read (.int x_length) (.int x_top) (.int x_at) (.int x_wrong) w_told w_rule w_otherRule (.int x_ruleSize) (.int x_isAsked) w_asked (.ref q_undos) (.int x_undoMany_49) w_aside w_then w_hold (.int x_dropped) w_acts w_guarded w_train (.int x_trolleyEnd) w_feltOf w_feltBy (.int x_feltMany) w_many w_heardOf w_heardBy (.int x_heardMany) w_worth (.int x_drawn) (.int x_came) w_kept w_isKept w_keptCame), (b1, aI cT n_b1 f_b1), (q_undos, aI cT 564 u_61)]) C0 lk_X8_231 (c_X8_lay l D cT F b1 q_undos ((47 : Int32) * x_undoMany_49) n_b1 f_b1 564 f_undos_49 _ hg) hP hD hS hA [2, 1] [0] (by decide +kernel) rfl rfl (fun _ => rfl) ⟨Nat.le_of_ble_eq_true rfl, Nat.le_of_ble_eq_true rfl⟩ rfl hl.1 rfl (Nat.le_of_ble_eq_true rfl) dX8_remember_61 ⟨Nat.le_of_ble_eq_true rfl, Nat.le_of_ble_eq_true rfl⟩ ?_
    intro u_61 H locs hg hP hD hS
    refine lv_aload_n hx hb dX8_remember_64 rfl (lv_at hl 0 rfl) ?_
    refine lv_dup hx hb dX8_remember_65 rfl ?_
    refine gf_X8_141 C0 hP 0 rfl rfl dX8_remember_66 ?_
    refine lv_iconst (v := (1 : Int32)) hx hb dX8_remember_69 (by decide) ?_
    refine lv_iadd hx hb dX8_remember_70 ?_
    refine pf_X8_141 C0 hP hD hS 0 rfl (Nat.le_of_ble_eq_true rfl) (ws2 := [(h, oX8 w_now (.int x_arches) (.int x_cats) w_text (.int x_typed) w_row (.int x_rowMany) (.int x_thrown) w_read (.int x_length) (.int x_top) (.int x_at) (.int x_wrong) w_told w_rule w_otherRule (.int x_ruleSize) (.int x_isAsked) w_asked (.ref q_undos) (.int (x_undoMany_49 + (1 : Int32))) w_aside w_then w_hold (.int x_dropped) w_acts w_guarded w_train (.int x_trolleyEnd) w_feltOf w_feltBy (.int x_feltMany) w_many w_heardOf w_heardBy (.int x_heardMany) w_worth (.int x_drawn) (.int x_came) w_kept w_isKept w_keptCame), (b1, aI cT n_b1 f_b1), (q_undos, aI cT 564 u_61)]) rfl dX8_remember_71 (fun H locs hP hD hS => ?_)
    exact k_vret C0 hr ((x_undoMany_49 + (1 : Int32)), u_61) hg (subP hP [0, 2, 1] rfl) (hD.sub [0, 2, 1] (nd2_ok _ (by decide +kernel)) rfl) hS dX8_remember_74
  have L11 : ∀ (n11 : Nat) (y2_11 : Int32) (f_undos_11 : Nat → Int32) (H : Heap) (locs : List Loc) (ls : Array Slot), p_X8_remember_11 F x_undoMany n_b1 f_b1 Post n11 y2_11 f_undos_11 → va_P D cls9 [(h, oX8 w_now (.int x_arches) (.int x_cats) w_text (.int x_typed) w_row (.int x_rowMany) (.int x_thrown) w_read (.int x_length) (.int x_top) (.int x_at) (.int x_wrong) w_told w_rule w_otherRule (.int x_ruleSize) (.int x_isAsked) w_asked (.ref q_undos) (.int x_undoMany) w_aside w_then w_hold (.int x_dropped) w_acts w_guarded w_train (.int x_trolleyEnd) w_feltOf w_feltBy (.int x_feltMany) w_many w_heardOf w_heardBy (.int x_heardMany) w_worth (.int x_drawn) (.int x_came) w_kept w_isKept w_keptCame), (q_undos, aI cT 564 f_undos_11), (b1, aI cT n_b1 f_b1)] H → va_D A [(h, oX8 w_now (.int x_arches) (.int x_cats) w_text (.int x_typed) w_row (.int x_rowMany) (.int x_thrown) w_read (.int x_length) (.int x_top) (.int x_at) (.int x_wrong) w_told w_rule w_otherRule (.int x_ruleSize) (.int x_isAsked) w_asked (.ref q_undos) (.int x_undoMany) w_aside w_then w_hold (.int x_dropped) w_acts w_guarded w_train (.int x_trolleyEnd) w_feltOf w_feltBy (.int x_feltMany) w_many w_heardOf w_heardBy (.int x_heardMany) w_worth (.int x_drawn) (.int x_came) w_kept w_isKept w_keptCame), (q_undos, aI cT 564 f_undos_11), (b1, aI cT n_b1 f_b1)] → va_S A s.heap H locs → lv_has ls 3 [(0, .ref h), (1, .ref b1), (2, .int y2_11)] → W p l e (rmO 1 23 0 0) s m ([.ref h, .ref b1] : List Value).toArray below meth c H locs 0 0 (MQ below (va_Qv Post (cB D A (fun (u : (Int32 × (Nat → Int32))) => [(h, oX8 w_now (.int x_arches) (.int x_cats) w_text (.int x_typed) w_row (.int x_rowMany) (.int x_thrown) w_read (.int x_length) (.int x_top) (.int x_at) (.int x_wrong) w_told w_rule w_otherRule (.int x_ruleSize) (.int x_isAsked) w_asked (.ref q_undos) (.int u.1) w_aside w_then w_hold (.int x_dropped) w_acts w_guarded w_train (.int x_trolleyEnd) w_feltOf w_feltBy (.int x_feltMany) w_many w_heardOf w_heardBy (.int x_heardMany) w_worth (.int x_drawn) (.int x_came) w_kept w_isKept w_keptCame), (q_undos, aI cT 564 u.2), (b1, aI cT n_b1 f_b1)])) A) ([.ref h, .ref b1] : List Value).toArray s 0 0 A) (F0 m 11 ls []) := by
    intro n11
    induction n11 with
    | zero =>
      intro y2_11 f_undos_11 H locs ls hg hP hD hS hl
      exact False.elim hg
    | succ n11 ih11 =>
      intro y2_11 f_undos_11 H locs ls hg hP hD hS hl
      rw [p_X8_remember_11_s] at hg
      refine lv_iload_n hx hb dX8_remember_11 rfl (lv_at hl 2 rfl) ?_
      refine lv_sipush (v := (517 : Int32)) hx hb dX8_remember_12 (by decide) ?_
      refine lv_icmp_ge (tgt := 39) hx hb dX8_remember_15 (by decide) (fun c_15 => ?_) (fun c_15 => ?_)
      · have hg := hg.1 c_15
        refine lv_aload_n hx hb dX8_remember_39 rfl (lv_at hl 0 rfl) ?_
        refine lv_dup hx hb dX8_remember_40 rfl ?_
        refine gf_X8_141 C0 hP 0 rfl rfl dX8_remember_41 ?_
        refine lv_iconst (v := (1 : Int32)) hx hb dX8_remember_44 (by decide) ?_
        refine lv_isub hx hb dX8_remember_45 ?_
        refine pf_X8_141 C0 hP hD hS 0 rfl (Nat.le_of_ble_eq_true rfl) (ws2 := [(h, oX8 w_now (.int x_arches) (.int x_cats) w_text (.int x_typed) w_row (.int x_rowMany) (.int x_thrown) w_read (.int x_length) (.int x_top) (.int x_at) (.int x_wrong) w_told w_rule w_otherRule (.int x_ruleSize) (.int x_isAsked) w_asked (.ref q_undos) (.int (x_undoMany - (1 : Int32))) w_aside w_then w_hold (.int x_dropped) w_acts w_guarded w_train (.int x_trolleyEnd) w_feltOf w_feltBy (.int x_feltMany) w_many w_heardOf w_heardBy (.int x_heardMany) w_worth (.int x_drawn) (.int x_came) w_kept w_isKept w_keptCame), (q_undos, aI cT 564 f_undos_11), (b1, aI cT n_b1 f_b1)]) rfl dX8_remember_46 (fun H locs hP hD hS => ?_)
        exact L49 (x_undoMany - (1 : Int32)) f_undos_11 _ _ _ hg hP hD hS (lv_sub hl [0, 1] rfl)
      have hg := hg.2 c_15
      refine lv_aload_n hx hb dX8_remember_18 rfl (lv_at hl 0 rfl) ?_
      refine gf_X8_33 C0 hP 0 rfl rfl dX8_remember_19 ?_
      refine lv_iload_n hx hb dX8_remember_22 rfl (lv_at hl 2 rfl) ?_
      refine lv_aload_n hx hb dX8_remember_23 rfl (lv_at hl 0 rfl) ?_
      refine gf_X8_33 C0 hP 0 rfl rfl dX8_remember_24 ?_
      refine lv_iload_n hx hb dX8_remember_27 rfl (lv_at hl 2 rfl) ?_
      refine lv_bipush (v := (47 : Int32)) hx hb dX8_remember_28 (by decide) ?_
      refine lv_iadd hx hb dX8_remember_30 ?_
      obtain ⟨g_31, hg⟩ := hg
      refine k_iald C0 hP 1 rfl g_31 dX8_remember_31 ?_
      obtain ⟨g_32, hg⟩ := hg
      refine k_iast C0 hP hD hS 1 rfl g_32 (ws' := [(h, oX8 w_now (.int x_arches) (.int x_cats) w_text (.int x_typed) w_row (.int x_rowMany) (.int x_thrown) w_read (.int x_length) (.int x_top) (.int x_at) (.int x_wrong) w_told w_rule w_otherRule (.int x_ruleSize) (.int x_isAsked) w_asked (.ref q_undos) (.int x_undoMany) w_aside w_then w_hold (.int x_dropped) w_acts w_guarded w_train (.int x_trolleyEnd) w_feltOf w_feltBy (.int x_feltMany) w_many w_heardOf w_heardBy (.int x_heardMany) w_worth (.int x_drawn) (.int x_came) w_kept w_isKept w_keptCame), (q_undos, aI cT 564 (upd f_undos_11 y2_11.toNatClampNeg (f_undos_11 (y2_11 + (47 : Int32)).toNatClampNeg))), (b1, aI cT n_b1 f_b1)]) rfl dX8_remember_32 (fun H locs hP hD hS => ?_)
      refine lv_iinc (v := (y2_11 + (1 : Int32))) (lv' := [(2, .int (y2_11 + (1 : Int32))), (0, .ref h), (1, .ref b1)]) hx hb dX8_remember_33 hl (k := 2) rfl rfl (by decide) rfl (fun ls hl => ?_)
      refine lv_goto (tgt := 11) hx hb dX8_remember_36 (by decide) ?_
      exact ih11 (y2_11 + (1 : Int32)) (upd f_undos_11 y2_11.toNatClampNeg (f_undos_11 (y2_11 + (47 : Int32)).toNatClampNeg)) _ _ _ hg hP hD hS (lv_sub hl [1, 2, 0] rfl)
  unfold p_X8_remember at hg
  refine lv_aload_n hx hb dX8_remember_0 rfl (lv_at hl 0 rfl) ?_
  refine gf_X8_141 C0 hP 0 rfl rfl dX8_remember_1 ?_
  refine lv_bipush (v := (12 : Int32)) hx hb dX8_remember_4 (by decide) ?_
  refine lv_icmp_ne (tgt := 49) hx hb dX8_remember_6 (by decide) (fun c_6 => ?_) (fun c_6 => ?_)
  · have hg := hg.1 c_6
    exact L49 x_undoMany f_undos _ _ _ hg hP hD hS hl
  have hg := hg.2 c_6
  refine lv_iconst (v := (0 : Int32)) hx hb dX8_remember_9 (by decide) ?_
  refine lv_istore_n (lv' := [(2, .int (0 : Int32)), (0, .ref h), (1, .ref b1)]) hx hb dX8_remember_10 rfl hl (by decide) rfl (fun ls hl => ?_)
  exact L11 F (0 : Int32) f_undos _ _ _ hg hP hD hS (lv_sub hl [1, 2, 0] rfl)
theorem dX8_goHour_0 : decode cX8_goHour 0 = .ok (.iconst 0, 1) := by decide +kernel
theorem dX8_goHour_1 : decode cX8_goHour 1 = .ok (.istore_n 2, 1) := by decide +kernel
theorem dX8_goHour_2 : decode cX8_goHour 2 = .ok (.iload_n 2, 1) := by decide +kernel
theorem dX8_goHour_3 : decode cX8_goHour 3 = .ok (.aload_n 0, 1) := by decide +kernel
theorem dX8_goHour_4 : decode cX8_goHour 4 = .ok (.getfield 89, 3) := by decide +kernel
theorem dX8_goHour_7 : decode cX8_goHour 7 = .ok (.if_icmp .ge 21, 3) := by decide +kernel
theorem dX8_goHour_10 : decode cX8_goHour 10 = .ok (.aload_n 0, 1) := by decide +kernel
theorem dX8_goHour_11 : decode cX8_goHour 11 = .ok (.getfield 42, 3) := by decide +kernel
theorem dX8_goHour_14 : decode cX8_goHour 14 = .ok (.iload_n 2, 1) := by decide +kernel
theorem dX8_goHour_15 : decode cX8_goHour 15 = .ok (.aload_n 0, 1) := by decide +kernel
theorem dX8_goHour_16 : decode cX8_goHour 16 = .ok (.aload_n 1, 1) := by decide +kernel
theorem dX8_goHour_17 : decode cX8_goHour 17 = .ok (.iload_n 2, 1) := by decide +kernel
theorem dX8_goHour_18 : decode cX8_goHour 18 = .ok (.invokevirtual 221, 3) := by decide +kernel
theorem dX8_goHour_21 : decode cX8_goHour 21 = .ok (.iastore, 1) := by decide +kernel
theorem dX8_goHour_22 : decode cX8_goHour 22 = .ok (.iinc 2 1, 3) := by decide +kernel
theorem dX8_goHour_25 : decode cX8_goHour 25 = .ok (.goto (-23), 3) := by decide +kernel
theorem dX8_goHour_28 : decode cX8_goHour 28 = .ok (.iconst 0, 1) := by decide +kernel
theorem dX8_goHour_29 : decode cX8_goHour 29 = .ok (.istore_n 2, 1) := by decide +kernel
theorem dX8_goHour_30 : decode cX8_goHour 30 = .ok (.iload_n 2, 1) := by decide +kernel
theorem dX8_goHour_31 : decode cX8_goHour 31 = .ok (.aload_n 0, 1) := by decide +kernel
theorem dX8_goHour_32 : decode cX8_goHour 32 = .ok (.getfield 89, 3) := by decide +kernel
theorem dX8_goHour_35 : decode cX8_goHour 35 = .ok (.if_icmp .ge 104, 3) := by decide +kernel
theorem dX8_goHour_38 : decode cX8_goHour 38 = .ok (.aload_n 0, 1) := by decide +kernel
theorem dX8_goHour_39 : decode cX8_goHour 39 = .ok (.getfield 42, 3) := by decide +kernel
theorem dX8_goHour_42 : decode cX8_goHour 42 = .ok (.iload_n 2, 1) := by decide +kernel
theorem dX8_goHour_43 : decode cX8_goHour 43 = .ok (.iaload, 1) := by decide +kernel
theorem dX8_goHour_44 : decode cX8_goHour 44 = .ok (.aload_n 1, 1) := by decide +kernel
theorem dX8_goHour_45 : decode cX8_goHour 45 = .ok (.iload_n 2, 1) := by decide +kernel
theorem dX8_goHour_46 : decode cX8_goHour 46 = .ok (.iaload, 1) := by decide +kernel
theorem dX8_goHour_47 : decode cX8_goHour 47 = .ok (.if_icmp .le 21, 3) := by decide +kernel
theorem dX8_goHour_50 : decode cX8_goHour 50 = .ok (.aload_n 1, 1) := by decide +kernel
theorem dX8_goHour_51 : decode cX8_goHour 51 = .ok (.bipush 6, 2) := by decide +kernel
theorem dX8_goHour_53 : decode cX8_goHour 53 = .ok (.iload_n 2, 1) := by decide +kernel
theorem dX8_goHour_54 : decode cX8_goHour 54 = .ok (.iadd, 1) := by decide +kernel
theorem dX8_goHour_55 : decode cX8_goHour 55 = .ok (.iconst 0, 1) := by decide +kernel
theorem dX8_goHour_56 : decode cX8_goHour 56 = .ok (.aload_n 1, 1) := by decide +kernel
theorem dX8_goHour_57 : decode cX8_goHour 57 = .ok (.bipush 6, 2) := by decide +kernel
theorem dX8_goHour_59 : decode cX8_goHour 59 = .ok (.iload_n 2, 1) := by decide +kernel
theorem dX8_goHour_60 : decode cX8_goHour 60 = .ok (.iadd, 1) := by decide +kernel
theorem dX8_goHour_61 : decode cX8_goHour 61 = .ok (.iaload, 1) := by decide +kernel
theorem dX8_goHour_62 : decode cX8_goHour 62 = .ok (.iconst 1, 1) := by decide +kernel
theorem dX8_goHour_63 : decode cX8_goHour 63 = .ok (.isub, 1) := by decide +kernel
theorem dX8_goHour_64 : decode cX8_goHour 64 = .ok (.invokestatic 195, 3) := by decide +kernel
theorem dX8_goHour_67 : decode cX8_goHour 67 = .ok (.iastore, 1) := by decide +kernel
theorem dX8_goHour_68 : decode cX8_goHour 68 = .ok (.aload_n 0, 1) := by decide +kernel
theorem dX8_goHour_69 : decode cX8_goHour 69 = .ok (.getfield 42, 3) := by decide +kernel
theorem dX8_goHour_72 : decode cX8_goHour 72 = .ok (.iload_n 2, 1) := by decide +kernel
theorem dX8_goHour_73 : decode cX8_goHour 73 = .ok (.iaload, 1) := by decide +kernel
theorem dX8_goHour_74 : decode cX8_goHour 74 = .ok (.aload_n 1, 1) := by decide +kernel
theorem dX8_goHour_75 : decode cX8_goHour 75 = .ok (.iload_n 2, 1) := by decide +kernel
theorem dX8_goHour_76 : decode cX8_goHour 76 = .ok (.iaload, 1) := by decide +kernel
theorem dX8_goHour_77 : decode cX8_goHour 77 = .ok (.if_icmp .lt 6, 3) := by decide +kernel
theorem dX8_goHour_80 : decode cX8_goHour 80 = .ok (.goto 53, 3) := by decide +kernel
theorem dX8_goHour_83 : decode cX8_goHour 83 = .ok (.aload_n 1, 1) := by decide +kernel
theorem dX8_goHour_84 : decode cX8_goHour 84 = .ok (.bipush 6, 2) := by decide +kernel
theorem dX8_goHour_86 : decode cX8_goHour 86 = .ok (.iload_n 2, 1) := by decide +kernel
theorem dX8_goHour_87 : decode cX8_goHour 87 = .ok (.iadd, 1) := by decide +kernel
theorem dX8_goHour_88 : decode cX8_goHour 88 = .ok (.iaload, 1) := by decide +kernel
theorem dX8_goHour_89 : decode cX8_goHour 89 = .ok (.bipush 9, 2) := by decide +kernel
theorem dX8_goHour_91 : decode cX8_goHour 91 = .ok (.if_icmp .ge 16, 3) := by decide +kernel
theorem dX8_goHour_94 : decode cX8_goHour 94 = .ok (.aload_n 1, 1) := by decide +kernel
theorem dX8_goHour_95 : decode cX8_goHour 95 = .ok (.bipush 6, 2) := by decide +kernel
theorem dX8_goHour_97 : decode cX8_goHour 97 = .ok (.iload_n 2, 1) := by decide +kernel
theorem dX8_goHour_98 : decode cX8_goHour 98 = .ok (.iadd, 1) := by decide +kernel
theorem dX8_goHour_99 : decode cX8_goHour 99 = .ok (.dup2, 1) := by decide +kernel
theorem dX8_goHour_100 : decode cX8_goHour 100 = .ok (.iaload, 1) := by decide +kernel
theorem dX8_goHour_101 : decode cX8_goHour 101 = .ok (.iconst 1, 1) := by decide +kernel
theorem dX8_goHour_102 : decode cX8_goHour 102 = .ok (.iadd, 1) := by decide +kernel
theorem dX8_goHour_103 : decode cX8_goHour 103 = .ok (.iastore, 1) := by decide +kernel
theorem dX8_goHour_104 : decode cX8_goHour 104 = .ok (.goto 29, 3) := by decide +kernel
theorem dX8_goHour_107 : decode cX8_goHour 107 = .ok (.aload_n 0, 1) := by decide +kernel
theorem dX8_goHour_108 : decode cX8_goHour 108 = .ok (.dup, 1) := by decide +kernel
theorem dX8_goHour_109 : decode cX8_goHour 109 = .ok (.getfield 235, 3) := by decide +kernel
theorem dX8_goHour_112 : decode cX8_goHour 112 = .ok (.iconst 1, 1) := by decide +kernel
theorem dX8_goHour_113 : decode cX8_goHour 113 = .ok (.iadd, 1) := by decide +kernel
theorem dX8_goHour_114 : decode cX8_goHour 114 = .ok (.putfield 235, 3) := by decide +kernel
theorem dX8_goHour_117 : decode cX8_goHour 117 = .ok (.aload_n 1, 1) := by decide +kernel
theorem dX8_goHour_118 : decode cX8_goHour 118 = .ok (.bipush 46, 2) := by decide +kernel
theorem dX8_goHour_120 : decode cX8_goHour 120 = .ok (.sipush 9999, 3) := by decide +kernel
theorem dX8_goHour_123 : decode cX8_goHour 123 = .ok (.aload_n 1, 1) := by decide +kernel
theorem dX8_goHour_124 : decode cX8_goHour 124 = .ok (.bipush 46, 2) := by decide +kernel
theorem dX8_goHour_126 : decode cX8_goHour 126 = .ok (.iaload, 1) := by decide +kernel
theorem dX8_goHour_127 : decode cX8_goHour 127 = .ok (.iconst 1, 1) := by decide +kernel
theorem dX8_goHour_128 : decode cX8_goHour 128 = .ok (.iadd, 1) := by decide +kernel
theorem dX8_goHour_129 : decode cX8_goHour 129 = .ok (.invokestatic 189, 3) := by decide +kernel
theorem dX8_goHour_132 : decode cX8_goHour 132 = .ok (.iastore, 1) := by decide +kernel
theorem dX8_goHour_133 : decode cX8_goHour 133 = .ok (.iinc 2 1, 3) := by decide +kernel
theorem dX8_goHour_136 : decode cX8_goHour 136 = .ok (.goto (-106), 3) := by decide +kernel
theorem dX8_goHour_139 : decode cX8_goHour 139 = .ok (.iconst 0, 1) := by decide +kernel
theorem dX8_goHour_140 : decode cX8_goHour 140 = .ok (.istore_n 2, 1) := by decide +kernel
theorem dX8_goHour_141 : decode cX8_goHour 141 = .ok (.iload_n 2, 1) := by decide +kernel
theorem dX8_goHour_142 : decode cX8_goHour 142 = .ok (.aload_n 0, 1) := by decide +kernel
theorem dX8_goHour_143 : decode cX8_goHour 143 = .ok (.getfield 96, 3) := by decide +kernel
theorem dX8_goHour_146 : decode cX8_goHour 146 = .ok (.if_icmp .ge 72, 3) := by decide +kernel
theorem dX8_goHour_149 : decode cX8_goHour 149 = .ok (.aload_n 1, 1) := by decide +kernel
theorem dX8_goHour_150 : decode cX8_goHour 150 = .ok (.bipush 20, 2) := by decide +kernel
theorem dX8_goHour_152 : decode cX8_goHour 152 = .ok (.iload_n 2, 1) := by decide +kernel
theorem dX8_goHour_153 : decode cX8_goHour 153 = .ok (.iadd, 1) := by decide +kernel
theorem dX8_goHour_154 : decode cX8_goHour 154 = .ok (.iaload, 1) := by decide +kernel
theorem dX8_goHour_155 : decode cX8_goHour 155 = .ok (.ifCond .ne 21, 3) := by decide +kernel
theorem dX8_goHour_158 : decode cX8_goHour 158 = .ok (.aload_n 1, 1) := by decide +kernel
theorem dX8_goHour_159 : decode cX8_goHour 159 = .ok (.bipush 12, 2) := by decide +kernel
theorem dX8_goHour_161 : decode cX8_goHour 161 = .ok (.iload_n 2, 1) := by decide +kernel
theorem dX8_goHour_162 : decode cX8_goHour 162 = .ok (.iadd, 1) := by decide +kernel
theorem dX8_goHour_163 : decode cX8_goHour 163 = .ok (.iconst 0, 1) := by decide +kernel
theorem dX8_goHour_164 : decode cX8_goHour 164 = .ok (.aload_n 1, 1) := by decide +kernel
theorem dX8_goHour_165 : decode cX8_goHour 165 = .ok (.bipush 12, 2) := by decide +kernel
theorem dX8_goHour_167 : decode cX8_goHour 167 = .ok (.iload_n 2, 1) := by decide +kernel
theorem dX8_goHour_168 : decode cX8_goHour 168 = .ok (.iadd, 1) := by decide +kernel
theorem dX8_goHour_169 : decode cX8_goHour 169 = .ok (.iaload, 1) := by decide +kernel
theorem dX8_goHour_170 : decode cX8_goHour 170 = .ok (.iconst 1, 1) := by decide +kernel
theorem dX8_goHour_171 : decode cX8_goHour 171 = .ok (.isub, 1) := by decide +kernel
theorem dX8_goHour_172 : decode cX8_goHour 172 = .ok (.invokestatic 195, 3) := by decide +kernel
theorem dX8_goHour_175 : decode cX8_goHour 175 = .ok (.iastore, 1) := by decide +kernel
theorem dX8_goHour_176 : decode cX8_goHour 176 = .ok (.aload_n 1, 1) := by decide +kernel
theorem dX8_goHour_177 : decode cX8_goHour 177 = .ok (.bipush 20, 2) := by decide +kernel
theorem dX8_goHour_179 : decode cX8_goHour 179 = .ok (.iload_n 2, 1) := by decide +kernel
theorem dX8_goHour_180 : decode cX8_goHour 180 = .ok (.iadd, 1) := by decide +kernel
theorem dX8_goHour_181 : decode cX8_goHour 181 = .ok (.iconst 0, 1) := by decide +kernel
theorem dX8_goHour_182 : decode cX8_goHour 182 = .ok (.aload_n 1, 1) := by decide +kernel
theorem dX8_goHour_183 : decode cX8_goHour 183 = .ok (.bipush 20, 2) := by decide +kernel
theorem dX8_goHour_185 : decode cX8_goHour 185 = .ok (.iload_n 2, 1) := by decide +kernel
theorem dX8_goHour_186 : decode cX8_goHour 186 = .ok (.iadd, 1) := by decide +kernel
theorem dX8_goHour_187 : decode cX8_goHour 187 = .ok (.iaload, 1) := by decide +kernel
theorem dX8_goHour_188 : decode cX8_goHour 188 = .ok (.iconst 1, 1) := by decide +kernel
theorem dX8_goHour_189 : decode cX8_goHour 189 = .ok (.isub, 1) := by decide +kernel
theorem dX8_goHour_190 : decode cX8_goHour 190 = .ok (.invokestatic 195, 3) := by decide +kernel
theorem dX8_goHour_193 : decode cX8_goHour 193 = .ok (.iastore, 1) := by decide +kernel
theorem dX8_goHour_194 : decode cX8_goHour 194 = .ok (.aload_n 1, 1) := by decide +kernel
theorem dX8_goHour_195 : decode cX8_goHour 195 = .ok (.bipush 28, 2) := by decide +kernel
theorem dX8_goHour_197 : decode cX8_goHour 197 = .ok (.iload_n 2, 1) := by decide +kernel
theorem dX8_goHour_198 : decode cX8_goHour 198 = .ok (.iadd, 1) := by decide +kernel
theorem dX8_goHour_199 : decode cX8_goHour 199 = .ok (.iconst 0, 1) := by decide +kernel
theorem dX8_goHour_200 : decode cX8_goHour 200 = .ok (.aload_n 1, 1) := by decide +kernel
theorem dX8_goHour_201 : decode cX8_goHour 201 = .ok (.bipush 28, 2) := by decide +kernel
theorem dX8_goHour_203 : decode cX8_goHour 203 = .ok (.iload_n 2, 1) := by decide +kernel
theorem dX8_goHour_204 : decode cX8_goHour 204 = .ok (.iadd, 1) := by decide +kernel
theorem dX8_goHour_205 : decode cX8_goHour 205 = .ok (.iaload, 1) := by decide +kernel
theorem dX8_goHour_206 : decode cX8_goHour 206 = .ok (.iconst 1, 1) := by decide +kernel
theorem dX8_goHour_207 : decode cX8_goHour 207 = .ok (.isub, 1) := by decide +kernel
theorem dX8_goHour_208 : decode cX8_goHour 208 = .ok (.invokestatic 195, 3) := by decide +kernel
theorem dX8_goHour_211 : decode cX8_goHour 211 = .ok (.iastore, 1) := by decide +kernel
theorem dX8_goHour_212 : decode cX8_goHour 212 = .ok (.iinc 2 1, 3) := by decide +kernel
theorem dX8_goHour_215 : decode cX8_goHour 215 = .ok (.goto (-74), 3) := by decide +kernel
theorem dX8_goHour_218 : decode cX8_goHour 218 = .ok (.aload_n 1, 1) := by decide +kernel
theorem dX8_goHour_219 : decode cX8_goHour 219 = .ok (.bipush 45, 2) := by decide +kernel
theorem dX8_goHour_221 : decode cX8_goHour 221 = .ok (.dup2, 1) := by decide +kernel
theorem dX8_goHour_222 : decode cX8_goHour 222 = .ok (.iaload, 1) := by decide +kernel
theorem dX8_goHour_223 : decode cX8_goHour 223 = .ok (.iconst 1, 1) := by decide +kernel
theorem dX8_goHour_224 : decode cX8_goHour 224 = .ok (.iadd, 1) := by decide +kernel
theorem dX8_goHour_225 : decode cX8_goHour 225 = .ok (.iastore, 1) := by decide +kernel
theorem dX8_goHour_226 : decode cX8_goHour 226 = .ok (.return_, 1) := by decide +kernel
def p_X8_goHour_176 (F : Nat) (n_b1 : Nat) (y2_141 : Int32) (k141 : Int32 → (Nat → Int32) → Prop) (Post : (Value × Int32 × Int32 × Int32 × Int32 × Int32 × Int32 × (Nat → Int32) × (Nat → Int32) × (Nat → Int32)) → Prop) (f_b1_176 : Nat → Int32) : Prop := (vp_in ((20 : Int32) + y2_141) n_b1 ∧ (vp_in ((20 : Int32) + y2_141) n_b1 ∧ (vp_in ((28 : Int32) + y2_141) n_b1 ∧ (vp_in ((28 : Int32) + y2_141) n_b1 ∧ (k141 (y2_141 + (1 : Int32)) (upd (upd f_b1_176 ((20 : Int32) + y2_141).toNatClampNeg (if (0 : Int32) < ((f_b1_176 ((20 : Int32) + y2_141).toNatClampNeg) - (1 : Int32)) then ((f_b1_176 ((20 : Int32) + y2_141).toNatClampNeg) - (1 : Int32)) else (0 : Int32))) ((28 : Int32) + y2_141).toNatClampNeg (if (0 : Int32) < (((upd f_b1_176 ((20 : Int32) + y2_141).toNatClampNeg (if (0 : Int32) < ((f_b1_176 ((20 : Int32) + y2_141).toNatClampNeg) - (1 : Int32)) then ((f_b1_176 ((20 : Int32) + y2_141).toNatClampNeg) - (1 : Int32)) else (0 : Int32))) ((28 : Int32) + y2_141).toNatClampNeg) - (1 : Int32)) then (((upd f_b1_176 ((20 : Int32) + y2_141).toNatClampNeg (if (0 : Int32) < ((f_b1_176 ((20 : Int32) + y2_141).toNatClampNeg) - (1 : Int32)) then ((f_b1_176 ((20 : Int32) + y2_141).toNatClampNeg) - (1 : Int32)) else (0 : Int32))) ((28 : Int32) + y2_141).toNatClampNeg) - (1 : Int32)) else (0 : Int32))))))))
noncomputable def p_X8_goHour_141 (F : Nat) (x_cats : Int32) (n_b1 : Nat) (x_read_2 : Value) (x_length_2 : Int32) (x_top_2 : Int32) (x_at_2 : Int32) (x_wrong_2 : Int32) (x_isAsked_2 : Int32) (f_asked_2 : Nat → Int32) (f_hold_2 : Nat → Int32) (x_dropped_30 : Int32) (Post : (Value × Int32 × Int32 × Int32 × Int32 × Int32 × Int32 × (Nat → Int32) × (Nat → Int32) × (Nat → Int32)) → Prop) (n : Nat) : Int32 → (Nat → Int32) → Prop := Nat.rec (motive := fun _ => Int32 → (Nat → Int32) → Prop) (fun _ _ => False) (fun _ k141 => fun (y2_141 : Int32) (f_b1_141 : Nat → Int32) => ((x_cats ≤ y2_141 → (vp_in (45 : Int32) n_b1 ∧ (vp_in (45 : Int32) n_b1 ∧ (Post (x_read_2, x_length_2, x_top_2, x_at_2, x_wrong_2, x_isAsked_2, x_dropped_30, (upd f_b1_141 (45 : Int32).toNatClampNeg ((f_b1_141 (45 : Int32).toNatClampNeg) + (1 : Int32))), f_asked_2, f_hold_2))))) ∧ (¬ x_cats ≤ y2_141 → (vp_in ((20 : Int32) + y2_141) n_b1 ∧ ((¬ (f_b1_141 ((20 : Int32) + y2_141).toNatClampNeg) = 0 → (p_X8_goHour_176 F n_b1 y2_141 k141 Post f_b1_141)) ∧ ((f_b1_141 ((20 : Int32) + y2_141).toNatClampNeg) = 0 → (vp_in ((12 : Int32) + y2_141) n_b1 ∧ (vp_in ((12 : Int32) + y2_141) n_b1 ∧ (p_X8_goHour_176 F n_b1 y2_141 k141 Post (upd f_b1_141 ((12 : Int32) + y2_141).toNatClampNeg (if (0 : Int32) < ((f_b1_141 ((12 : Int32) + y2_141).toNatClampNeg) - (1 : Int32)) then ((f_b1_141 ((12 : Int32) + y2_141).toNatClampNeg) - (1 : Int32)) else (0 : Int32)))))))))))) n
theorem p_X8_goHour_141_s (F : Nat) (x_cats : Int32) (n_b1 : Nat) (x_read_2 : Value) (x_length_2 : Int32) (x_top_2 : Int32) (x_at_2 : Int32) (x_wrong_2 : Int32) (x_isAsked_2 : Int32) (f_asked_2 : Nat → Int32) (f_hold_2 : Nat → Int32) (x_dropped_30 : Int32) (Post : (Value × Int32 × Int32 × Int32 × Int32 × Int32 × Int32 × (Nat → Int32) × (Nat → Int32) × (Nat → Int32)) → Prop) (n : Nat) (y2_141 : Int32) (f_b1_141 : Nat → Int32) : p_X8_goHour_141 F x_cats n_b1 x_read_2 x_length_2 x_top_2 x_at_2 x_wrong_2 x_isAsked_2 f_asked_2 f_hold_2 x_dropped_30 Post (n + 1) y2_141 f_b1_141 = ((x_cats ≤ y2_141 → (vp_in (45 : Int32) n_b1 ∧ (vp_in (45 : Int32) n_b1 ∧ (Post (x_read_2, x_length_2, x_top_2, x_at_2, x_wrong_2, x_isAsked_2, x_dropped_30, (upd f_b1_141 (45 : Int32).toNatClampNeg ((f_b1_141 (45 : Int32).toNatClampNeg) + (1 : Int32))), f_asked_2, f_hold_2))))) ∧ (¬ x_cats ≤ y2_141 → (vp_in ((20 : Int32) + y2_141) n_b1 ∧ ((¬ (f_b1_141 ((20 : Int32) + y2_141).toNatClampNeg) = 0 → (p_X8_goHour_176 F n_b1 y2_141 (p_X8_goHour_141 F x_cats n_b1 x_read_2 x_length_2 x_top_2 x_at_2 x_wrong_2 x_isAsked_2 f_asked_2 f_hold_2 x_dropped_30 Post n) Post f_b1_141)) ∧ ((f_b1_141 ((20 : Int32) + y2_141).toNatClampNeg) = 0 → (vp_in ((12 : Int32) + y2_141) n_b1 ∧ (vp_in ((12 : Int32) + y2_141) n_b1 ∧ (p_X8_goHour_176 F n_b1 y2_141 (p_X8_goHour_141 F x_cats n_b1 x_read_2 x_length_2 x_top_2 x_at_2 x_wrong_2 x_isAsked_2 f_asked_2 f_hold_2 x_dropped_30 Post n) Post (upd f_b1_141 ((12 : Int32) + y2_141).toNatClampNeg (if (0 : Int32) < ((f_b1_141 ((12 : Int32) + y2_141).toNatClampNeg) - (1 : Int32)) then ((f_b1_141 ((12 : Int32) + y2_141).toNatClampNeg) - (1 : Int32)) else (0 : Int32))))))))))) := rfl
def p_X8_goHour_133 (F : Nat) (y2_30 : Int32) (k30 : Int32 → Int32 → (Nat → Int32) → Prop) (Post : (Value × Int32 × Int32 × Int32 × Int32 × Int32 × Int32 × (Nat → Int32) × (Nat → Int32) × (Nat → Int32)) → Prop) (x_dropped_133 : Int32) (f_b1_133 : Nat → Int32) : Prop := (k30 (y2_30 + (1 : Int32)) x_dropped_133 f_b1_133)
def p_X8_goHour_68 (F : Nat) (n_b1 : Nat) (f_hold_2 : Nat → Int32) (y2_30 : Int32) (x_dropped_30 : Int32) (k30 : Int32 → Int32 → (Nat → Int32) → Prop) (Post : (Value × Int32 × Int32 × Int32 × Int32 × Int32 × Int32 × (Nat → Int32) × (Nat → Int32) × (Nat → Int32)) → Prop) (f_b1_68 : Nat → Int32) : Prop := (vp_in y2_30 6 ∧ (vp_in y2_30 n_b1 ∧ (((f_hold_2 y2_30.toNatClampNeg) < (f_b1_68 y2_30.toNatClampNeg) → (vp_in ((6 : Int32) + y2_30) n_b1 ∧ (((9 : Int32) ≤ (f_b1_68 ((6 : Int32) + y2_30).toNatClampNeg) → (vp_in (46 : Int32) n_b1 ∧ (vp_in (46 : Int32) n_b1 ∧ (p_X8_goHour_133 F y2_30 k30 Post (x_dropped_30 + (1 : Int32)) (upd f_b1_68 (46 : Int32).toNatClampNeg (if ((f_b1_68 (46 : Int32).toNatClampNeg) + (1 : Int32)) < (9999 : Int32) then ((f_b1_68 (46 : Int32).toNatClampNeg) + (1 : Int32)) else (9999 : Int32))))))) ∧ (¬ (9 : Int32) ≤ (f_b1_68 ((6 : Int32) + y2_30).toNatClampNeg) → (vp_in ((6 : Int32) + y2_30) n_b1 ∧ (vp_in ((6 : Int32) + y2_30) n_b1 ∧ (p_X8_goHour_133 F y2_30 k30 Post x_dropped_30 (upd f_b1_68 ((6 : Int32) + y2_30).toNatClampNeg ((f_b1_68 ((6 : Int32) + y2_30).toNatClampNeg) + (1 : Int32)))))))))) ∧ (¬ (f_hold_2 y2_30.toNatClampNeg) < (f_b1_68 y2_30.toNatClampNeg) → (p_X8_goHour_133 F y2_30 k30 Post x_dropped_30 f_b1_68)))))
noncomputable def p_X8_goHour_30 (F : Nat) (x_arches : Int32) (x_cats : Int32) (n_b1 : Nat) (x_read_2 : Value) (x_length_2 : Int32) (x_top_2 : Int32) (x_at_2 : Int32) (x_wrong_2 : Int32) (x_isAsked_2 : Int32) (f_asked_2 : Nat → Int32) (f_hold_2 : Nat → Int32) (Post : (Value × Int32 × Int32 × Int32 × Int32 × Int32 × Int32 × (Nat → Int32) × (Nat → Int32) × (Nat → Int32)) → Prop) (n : Nat) : Int32 → Int32 → (Nat → Int32) → Prop := Nat.rec (motive := fun _ => Int32 → Int32 → (Nat → Int32) → Prop) (fun _ _ _ => False) (fun _ k30 => fun (y2_30 : Int32) (x_dropped_30 : Int32) (f_b1_30 : Nat → Int32) => ((x_arches ≤ y2_30 → (p_X8_goHour_141 F x_cats n_b1 x_read_2 x_length_2 x_top_2 x_at_2 x_wrong_2 x_isAsked_2 f_asked_2 f_hold_2 x_dropped_30 Post F (0 : Int32) f_b1_30)) ∧ (¬ x_arches ≤ y2_30 → (vp_in y2_30 6 ∧ (vp_in y2_30 n_b1 ∧ (((f_hold_2 y2_30.toNatClampNeg) ≤ (f_b1_30 y2_30.toNatClampNeg) → (p_X8_goHour_68 F n_b1 f_hold_2 y2_30 x_dropped_30 k30 Post f_b1_30)) ∧ (¬ (f_hold_2 y2_30.toNatClampNeg) ≤ (f_b1_30 y2_30.toNatClampNeg) → (vp_in ((6 : Int32) + y2_30) n_b1 ∧ (vp_in ((6 : Int32) + y2_30) n_b1 ∧ (p_X8_goHour_68 F n_b1 f_hold_2 y2_30 x_dropped_30 k30 Post (upd f_b1_30 ((6 : Int32) + y2_30).toNatClampNeg (if (0 : Int32) < ((f_b1_30 ((6 : Int32) + y2_30).toNatClampNeg) - (1 : Int32)) then ((f_b1_30 ((6 : Int32) + y2_30).toNatClampNeg) - (1 : Int32)) else (0 : Int32))))))))))))) n
theorem p_X8_goHour_30_s (F : Nat) (x_arches : Int32) (x_cats : Int32) (n_b1 : Nat) (x_read_2 : Value) (x_length_2 : Int32) (x_top_2 : Int32) (x_at_2 : Int32) (x_wrong_2 : Int32) (x_isAsked_2 : Int32) (f_asked_2 : Nat → Int32) (f_hold_2 : Nat → Int32) (Post : (Value × Int32 × Int32 × Int32 × Int32 × Int32 × Int32 × (Nat → Int32) × (Nat → Int32) × (Nat → Int32)) → Prop) (n : Nat) (y2_30 : Int32) (x_dropped_30 : Int32) (f_b1_30 : Nat → Int32) : p_X8_goHour_30 F x_arches x_cats n_b1 x_read_2 x_length_2 x_top_2 x_at_2 x_wrong_2 x_isAsked_2 f_asked_2 f_hold_2 Post (n + 1) y2_30 x_dropped_30 f_b1_30 = ((x_arches ≤ y2_30 → (p_X8_goHour_141 F x_cats n_b1 x_read_2 x_length_2 x_top_2 x_at_2 x_wrong_2 x_isAsked_2 f_asked_2 f_hold_2 x_dropped_30 Post F (0 : Int32) f_b1_30)) ∧ (¬ x_arches ≤ y2_30 → (vp_in y2_30 6 ∧ (vp_in y2_30 n_b1 ∧ (((f_hold_2 y2_30.toNatClampNeg) ≤ (f_b1_30 y2_30.toNatClampNeg) → (p_X8_goHour_68 F n_b1 f_hold_2 y2_30 x_dropped_30 (p_X8_goHour_30 F x_arches x_cats n_b1 x_read_2 x_length_2 x_top_2 x_at_2 x_wrong_2 x_isAsked_2 f_asked_2 f_hold_2 Post n) Post f_b1_30)) ∧ (¬ (f_hold_2 y2_30.toNatClampNeg) ≤ (f_b1_30 y2_30.toNatClampNeg) → (vp_in ((6 : Int32) + y2_30) n_b1 ∧ (vp_in ((6 : Int32) + y2_30) n_b1 ∧ (p_X8_goHour_68 F n_b1 f_hold_2 y2_30 x_dropped_30 (p_X8_goHour_30 F x_arches x_cats n_b1 x_read_2 x_length_2 x_top_2 x_at_2 x_wrong_2 x_isAsked_2 f_asked_2 f_hold_2 Post n) Post (upd f_b1_30 ((6 : Int32) + y2_30).toNatClampNeg (if (0 : Int32) < ((f_b1_30 ((6 : Int32) + y2_30).toNatClampNeg) - (1 : Int32)) then ((f_b1_30 ((6 : Int32) + y2_30).toNatClampNeg) - (1 : Int32)) else (0 : Int32)))))))))))) := rfl
noncomputable def p_X8_goHour_2 (F : Nat) (x_arches : Int32) (x_cats : Int32) (q_rule : Nat) (x_ruleSize : Int32) (x_dropped : Int32) (n_b1 : Nat) (f_b1 : Nat → Int32) (f_rule : Nat → Int32) (Post : (Value × Int32 × Int32 × Int32 × Int32 × Int32 × Int32 × (Nat → Int32) × (Nat → Int32) × (Nat → Int32)) → Prop) (n : Nat) : Int32 → Value → Int32 → Int32 → Int32 → Int32 → Int32 → (Nat → Int32) → (Nat → Int32) → Prop := Nat.rec (motive := fun _ => Int32 → Value → Int32 → Int32 → Int32 → Int32 → Int32 → (Nat → Int32) → (Nat → Int32) → Prop) (fun _ _ _ _ _ _ _ _ _ => False) (fun _ k2 => fun (y2_2 : Int32) (x_read_2 : Value) (x_length_2 : Int32) (x_top_2 : Int32) (x_at_2 : Int32) (x_wrong_2 : Int32) (x_isAsked_2 : Int32) (f_asked_2 : Nat → Int32) (f_hold_2 : Nat → Int32) => ((x_arches ≤ y2_2 → (p_X8_goHour_30 F x_arches x_cats n_b1 x_read_2 x_length_2 x_top_2 x_at_2 x_wrong_2 x_isAsked_2 f_asked_2 f_hold_2 Post F (0 : Int32) x_dropped f_b1)) ∧ (¬ x_arches ≤ y2_2 → (p_X8_holdOf F y2_2 x_cats x_read_2 x_length_2 x_top_2 x_at_2 x_wrong_2 q_rule x_ruleSize x_isAsked_2 n_b1 f_b1 f_asked_2 f_rule (fun (r_18 : Int32) (u_18 : (Value × Int32 × Int32 × Int32 × Int32 × Int32 × (Nat → Int32))) => (vp_in y2_2 6 ∧ (k2 (y2_2 + (1 : Int32)) u_18.1 u_18.2.1 u_18.2.2.1 u_18.2.2.2.1 u_18.2.2.2.2.1 u_18.2.2.2.2.2.1 u_18.2.2.2.2.2.2 (upd f_hold_2 y2_2.toNatClampNeg r_18)))))))) n
theorem p_X8_goHour_2_s (F : Nat) (x_arches : Int32) (x_cats : Int32) (q_rule : Nat) (x_ruleSize : Int32) (x_dropped : Int32) (n_b1 : Nat) (f_b1 : Nat → Int32) (f_rule : Nat → Int32) (Post : (Value × Int32 × Int32 × Int32 × Int32 × Int32 × Int32 × (Nat → Int32) × (Nat → Int32) × (Nat → Int32)) → Prop) (n : Nat) (y2_2 : Int32) (x_read_2 : Value) (x_length_2 : Int32) (x_top_2 : Int32) (x_at_2 : Int32) (x_wrong_2 : Int32) (x_isAsked_2 : Int32) (f_asked_2 : Nat → Int32) (f_hold_2 : Nat → Int32) : p_X8_goHour_2 F x_arches x_cats q_rule x_ruleSize x_dropped n_b1 f_b1 f_rule Post (n + 1) y2_2 x_read_2 x_length_2 x_top_2 x_at_2 x_wrong_2 x_isAsked_2 f_asked_2 f_hold_2 = ((x_arches ≤ y2_2 → (p_X8_goHour_30 F x_arches x_cats n_b1 x_read_2 x_length_2 x_top_2 x_at_2 x_wrong_2 x_isAsked_2 f_asked_2 f_hold_2 Post F (0 : Int32) x_dropped f_b1)) ∧ (¬ x_arches ≤ y2_2 → (p_X8_holdOf F y2_2 x_cats x_read_2 x_length_2 x_top_2 x_at_2 x_wrong_2 q_rule x_ruleSize x_isAsked_2 n_b1 f_b1 f_asked_2 f_rule (fun (r_18 : Int32) (u_18 : (Value × Int32 × Int32 × Int32 × Int32 × Int32 × (Nat → Int32))) => (vp_in y2_2 6 ∧ ((p_X8_goHour_2 F x_arches x_cats q_rule x_ruleSize x_dropped n_b1 f_b1 f_rule Post n) (y2_2 + (1 : Int32)) u_18.1 u_18.2.1 u_18.2.2.1 u_18.2.2.2.1 u_18.2.2.2.2.1 u_18.2.2.2.2.2.1 u_18.2.2.2.2.2.2 (upd f_hold_2 y2_2.toNatClampNeg r_18))))))) := rfl
def p_X8_goHour (F : Nat) (x_arches : Int32) (x_cats : Int32) (w_read : Value) (x_length : Int32) (x_top : Int32) (x_at : Int32) (x_wrong : Int32) (q_rule : Nat) (x_ruleSize : Int32) (x_isAsked : Int32) (x_dropped : Int32) (n_b1 : Nat) (f_b1 : Nat → Int32) (f_asked : Nat → Int32) (f_rule : Nat → Int32) (f_hold : Nat → Int32) (Post : (Value × Int32 × Int32 × Int32 × Int32 × Int32 × Int32 × (Nat → Int32) × (Nat → Int32) × (Nat → Int32)) → Prop) : Prop := (p_X8_goHour_2 F x_arches x_cats q_rule x_ruleSize x_dropped n_b1 f_b1 f_rule Post F (0 : Int32) w_read x_length x_top x_at x_wrong x_isAsked f_asked f_hold)
set_option maxHeartbeats 4000000 in
set_option maxRecDepth 100000 in
theorem c_X8_goHour (l : Launch) (D : va_G) (cT : Nat → ClassId) (F : Nat) (h : Nat) (b1 : Nat) (w_now : Value) (x_arches : Int32) (x_cats : Int32) (w_text : Value) (x_typed : Int32) (w_row : Value) (x_rowMany : Int32) (x_thrown : Int32) (w_read : Value) (x_length : Int32) (x_top : Int32) (x_at : Int32) (x_wrong : Int32) (w_told : Value) (q_rule : Nat) (w_otherRule : Value) (x_ruleSize : Int32) (x_isAsked : Int32) (q_asked : Nat) (w_undos : Value) (x_undoMany : Int32) (w_aside : Value) (w_then : Value) (q_hold : Nat) (x_dropped : Int32) (w_acts : Value) (w_guarded : Value) (w_train : Value) (x_trolleyEnd : Int32) (w_feltOf : Value) (w_feltBy : Value) (x_feltMany : Int32) (w_many : Value) (w_heardOf : Value) (w_heardBy : Value) (x_heardMany : Int32) (w_worth : Value) (x_drawn : Int32) (x_came : Int32) (w_kept : Value) (w_isKept : Value) (w_keptCame : Value) (n_b1 : Nat) (f_b1 : Nat → Int32) (f_asked : Nat → Int32) (f_rule : Nat → Int32) (f_hold : Nat → Int32) (Post : (Value × Int32 × Int32 × Int32 × Int32 × Int32 × Int32 × (Nat → Int32) × (Nat → Int32) × (Nat → Int32)) → Prop) (hg : p_X8_goHour F x_arches x_cats w_read x_length x_top x_at x_wrong q_rule x_ruleSize x_isAsked x_dropped n_b1 f_b1 f_asked f_rule f_hold Post) : MWv l D cT yX8_goHour cX8_goHour 3 none 325 10174 0 0 [.ref h, .ref b1] [(h, oX8 w_now (.int x_arches) (.int x_cats) w_text (.int x_typed) w_row (.int x_rowMany) (.int x_thrown) w_read (.int x_length) (.int x_top) (.int x_at) (.int x_wrong) w_told (.ref q_rule) w_otherRule (.int x_ruleSize) (.int x_isAsked) (.ref q_asked) w_undos (.int x_undoMany) w_aside w_then (.ref q_hold) (.int x_dropped) w_acts w_guarded w_train (.int x_trolleyEnd) w_feltOf w_feltBy (.int x_feltMany) w_many w_heardOf w_heardBy (.int x_heardMany) w_worth (.int x_drawn) (.int x_came) w_kept w_isKept w_keptCame), (b1, aI cT n_b1 f_b1), (q_asked, aI cT 7 f_asked), (q_rule, aB cT 40 f_rule), (q_hold, aI cT 6 f_hold)] Post (fun (u : (Value × Int32 × Int32 × Int32 × Int32 × Int32 × Int32 × (Nat → Int32) × (Nat → Int32) × (Nat → Int32))) => [(h, oX8 w_now (.int x_arches) (.int x_cats) w_text (.int x_typed) w_row (.int x_rowMany) (.int x_thrown) u.1 (.int u.2.1) (.int u.2.2.1) (.int u.2.2.2.1) (.int u.2.2.2.2.1) w_told (.ref q_rule) w_otherRule (.int x_ruleSize) (.int u.2.2.2.2.2.1) (.ref q_asked) w_undos (.int x_undoMany) w_aside w_then (.ref q_hold) (.int u.2.2.2.2.2.2.1) w_acts w_guarded w_train (.int x_trolleyEnd) w_feltOf w_feltBy (.int x_feltMany) w_many w_heardOf w_heardBy (.int x_heardMany) w_worth (.int x_drawn) (.int x_came) w_kept w_isKept w_keptCame), (b1, aI cT n_b1 u.2.2.2.2.2.2.2.1), (q_asked, aI cT 7 u.2.2.2.2.2.2.2.2.1), (q_rule, aB cT 40 f_rule), (q_hold, aI cT 6 u.2.2.2.2.2.2.2.2.2)]) := by
  refine MWv.of (by decide) (Nat.le_of_ble_eq_true rfl) ?_
  intro p e s m below meth c A hA C0 hnm hr hP hD ls hl
  have hl : lv_has ls 3 [(0, .ref h), (1, .ref b1)] := hl
  have hx := C0.x
  have hb := C0.b
  have hS : va_S A s.heap s.heap [] := va_S.rf
  have hP : va_P D cls9 [(h, oX8 w_now (.int x_arches) (.int x_cats) w_text (.int x_typed) w_row (.int x_rowMany) (.int x_thrown) w_read (.int x_length) (.int x_top) (.int x_at) (.int x_wrong) w_told (.ref q_rule) w_otherRule (.int x_ruleSize) (.int x_isAsked) (.ref q_asked) w_undos (.int x_undoMany) w_aside w_then (.ref q_hold) (.int x_dropped) w_acts w_guarded w_train (.int x_trolleyEnd) w_feltOf w_feltBy (.int x_feltMany) w_many w_heardOf w_heardBy (.int x_heardMany) w_worth (.int x_drawn) (.int x_came) w_kept w_isKept w_keptCame), (b1, aI cT n_b1 f_b1), (q_asked, aI cT 7 f_asked), (q_rule, aB cT 40 f_rule), (q_hold, aI cT 6 f_hold)] s.heap := hP
  have hD : va_D A [(h, oX8 w_now (.int x_arches) (.int x_cats) w_text (.int x_typed) w_row (.int x_rowMany) (.int x_thrown) w_read (.int x_length) (.int x_top) (.int x_at) (.int x_wrong) w_told (.ref q_rule) w_otherRule (.int x_ruleSize) (.int x_isAsked) (.ref q_asked) w_undos (.int x_undoMany) w_aside w_then (.ref q_hold) (.int x_dropped) w_acts w_guarded w_train (.int x_trolleyEnd) w_feltOf w_feltBy (.int x_feltMany) w_many w_heardOf w_heardBy (.int x_heardMany) w_worth (.int x_drawn) (.int x_came) w_kept w_isKept w_keptCame), (b1, aI cT n_b1 f_b1), (q_asked, aI cT 7 f_asked), (q_rule, aB cT 40 f_rule), (q_hold, aI cT 6 f_hold)] := hD
  have L141 : ∀ (x_read_2 : Value) (x_length_2 : Int32) (x_top_2 : Int32) (x_at_2 : Int32) (x_wrong_2 : Int32) (x_isAsked_2 : Int32) (f_asked_2 : Nat → Int32) (f_hold_2 : Nat → Int32) (x_dropped_30 : Int32) (n141 : Nat) (y2_141 : Int32) (f_b1_141 : Nat → Int32) (H : Heap) (locs : List Loc) (ls : Array Slot), p_X8_goHour_141 F x_cats n_b1 x_read_2 x_length_2 x_top_2 x_at_2 x_wrong_2 x_isAsked_2 f_asked_2 f_hold_2 x_dropped_30 Post n141 y2_141 f_b1_141 → va_P D cls9 [(h, oX8 w_now (.int x_arches) (.int x_cats) w_text (.int x_typed) w_row (.int x_rowMany) (.int x_thrown) x_read_2 (.int x_length_2) (.int x_top_2) (.int x_at_2) (.int x_wrong_2) w_told (.ref q_rule) w_otherRule (.int x_ruleSize) (.int x_isAsked_2) (.ref q_asked) w_undos (.int x_undoMany) w_aside w_then (.ref q_hold) (.int x_dropped_30) w_acts w_guarded w_train (.int x_trolleyEnd) w_feltOf w_feltBy (.int x_feltMany) w_many w_heardOf w_heardBy (.int x_heardMany) w_worth (.int x_drawn) (.int x_came) w_kept w_isKept w_keptCame), (b1, aI cT n_b1 f_b1_141), (q_asked, aI cT 7 f_asked_2), (q_rule, aB cT 40 f_rule), (q_hold, aI cT 6 f_hold_2)] H → va_D A [(h, oX8 w_now (.int x_arches) (.int x_cats) w_text (.int x_typed) w_row (.int x_rowMany) (.int x_thrown) x_read_2 (.int x_length_2) (.int x_top_2) (.int x_at_2) (.int x_wrong_2) w_told (.ref q_rule) w_otherRule (.int x_ruleSize) (.int x_isAsked_2) (.ref q_asked) w_undos (.int x_undoMany) w_aside w_then (.ref q_hold) (.int x_dropped_30) w_acts w_guarded w_train (.int x_trolleyEnd) w_feltOf w_feltBy (.int x_feltMany) w_many w_heardOf w_heardBy (.int x_heardMany) w_worth (.int x_drawn) (.int x_came) w_kept w_isKept w_keptCame), (b1, aI cT n_b1 f_b1_141), (q_asked, aI cT 7 f_asked_2), (q_rule, aB cT 40 f_rule), (q_hold, aI cT 6 f_hold_2)] → va_S A s.heap H locs → lv_has ls 3 [(0, .ref h), (1, .ref b1), (2, .int y2_141)] → W p l e (rmO 325 10174 0 0) s m ([.ref h, .ref b1] : List Value).toArray below meth c H locs 0 0 (MQ below (va_Qv Post (cB D A (fun (u : (Value × Int32 × Int32 × Int32 × Int32 × Int32 × Int32 × (Nat → Int32) × (Nat → Int32) × (Nat → Int32))) => [(h, oX8 w_now (.int x_arches) (.int x_cats) w_text (.int x_typed) w_row (.int x_rowMany) (.int x_thrown) u.1 (.int u.2.1) (.int u.2.2.1) (.int u.2.2.2.1) (.int u.2.2.2.2.1) w_told (.ref q_rule) w_otherRule (.int x_ruleSize) (.int u.2.2.2.2.2.1) (.ref q_asked) w_undos (.int x_undoMany) w_aside w_then (.ref q_hold) (.int u.2.2.2.2.2.2.1) w_acts w_guarded w_train (.int x_trolleyEnd) w_feltOf w_feltBy (.int x_feltMany) w_many w_heardOf w_heardBy (.int x_heardMany) w_worth (.int x_drawn) (.int x_came) w_kept w_isKept w_keptCame), (b1, aI cT n_b1 u.2.2.2.2.2.2.2.1), (q_asked, aI cT 7 u.2.2.2.2.2.2.2.2.1), (q_rule, aB cT 40 f_rule), (q_hold, aI cT 6 u.2.2.2.2.2.2.2.2.2)])) A) ([.ref h, .ref b1] : List Value).toArray s 0 0 A) (F0 m 141 ls []) := by
    intro x_read_2 x_length_2 x_top_2 x_at_2 x_wrong_2 x_isAsked_2 f_asked_2 f_hold_2 x_dropped_30 n141
    induction n141 with
    | zero =>
      intro y2_141 f_b1_141 H locs ls hg hP hD hS hl
      exact False.elim hg
    | succ n141 ih141 =>
      have L176 : ∀ (y2_141 : Int32) (f_b1_176 : Nat → Int32) (H : Heap) (locs : List Loc) (ls : Array Slot), p_X8_goHour_176 F n_b1 y2_141 (p_X8_goHour_141 F x_cats n_b1 x_read_2 x_length_2 x_top_2 x_at_2 x_wrong_2 x_isAsked_2 f_asked_2 f_hold_2 x_dropped_30 Post n141) Post f_b1_176 → va_P D cls9 [(h, oX8 w_now (.int x_arches) (.int x_cats) w_text (.int x_typed) w_row (.int x_rowMany) (.int x_thrown) x_read_2 (.int x_length_2) (.int x_top_2) (.int x_at_2) (.int x_wrong_2) w_told (.ref q_rule) w_otherRule (.int x_ruleSize) (.int x_isAsked_2) (.ref q_asked) w_undos (.int x_undoMany) w_aside w_then (.ref q_hold) (.int x_dropped_30) w_acts w_guarded w_train (.int x_trolleyEnd) w_feltOf w_feltBy (.int x_feltMany) w_many w_heardOf w_heardBy (.int x_heardMany) w_worth (.int x_drawn) (.int x_came) w_kept w_isKept w_keptCame), (b1, aI cT n_b1 f_b1_176), (q_asked, aI cT 7 f_asked_2), (q_rule, aB cT 40 f_rule), (q_hold, aI cT 6 f_hold_2)] H → va_D A [(h, oX8 w_now (.int x_arches) (.int x_cats) w_text (.int x_typed) w_row (.int x_rowMany) (.int x_thrown) x_read_2 (.int x_length_2) (.int x_top_2) (.int x_at_2) (.int x_wrong_2) w_told (.ref q_rule) w_otherRule (.int x_ruleSize) (.int x_isAsked_2) (.ref q_asked) w_undos (.int x_undoMany) w_aside w_then (.ref q_hold) (.int x_dropped_30) w_acts w_guarded w_train (.int x_trolleyEnd) w_feltOf w_feltBy (.int x_feltMany) w_many w_heardOf w_heardBy (.int x_heardMany) w_worth (.int x_drawn) (.int x_came) w_kept w_isKept w_keptCame), (b1, aI cT n_b1 f_b1_176), (q_asked, aI cT 7 f_asked_2), (q_rule, aB cT 40 f_rule), (q_hold, aI cT 6 f_hold_2)] → va_S A s.heap H locs → lv_has ls 3 [(0, .ref h), (1, .ref b1), (2, .int y2_141)] → W p l e (rmO 325 10174 0 0) s m ([.ref h, .ref b1] : List Value).toArray below meth c H locs 0 0 (MQ below (va_Qv Post (cB D A (fun (u : (Value × Int32 × Int32 × Int32 × Int32 × Int32 × Int32 × (Nat → Int32) × (Nat → Int32) × (Nat → Int32))) => [(h, oX8 w_now (.int x_arches) (.int x_cats) w_text (.int x_typed) w_row (.int x_rowMany) (.int x_thrown) u.1 (.int u.2.1) (.int u.2.2.1) (.int u.2.2.2.1) (.int u.2.2.2.2.1) w_told (.ref q_rule) w_otherRule (.int x_ruleSize) (.int u.2.2.2.2.2.1) (.ref q_asked) w_undos (.int x_undoMany) w_aside w_then (.ref q_hold) (.int u.2.2.2.2.2.2.1) w_acts w_guarded w_train (.int x_trolleyEnd) w_feltOf w_feltBy (.int x_feltMany) w_many w_heardOf w_heardBy (.int x_heardMany) w_worth (.int x_drawn) (.int x_came) w_kept w_isKept w_keptCame), (b1, aI cT n_b1 u.2.2.2.2.2.2.2.1), (q_asked, aI cT 7 u.2.2.2.2.2.2.2.2.1), (q_rule, aB cT 40 f_rule), (q_hold, aI cT 6 u.2.2.2.2.2.2.2.2.2)])) A) ([.ref h, .ref b1] : List Value).toArray s 0 0 A) (F0 m 176 ls []) := by
        intro y2_141 f_b1_176 H locs ls hg hP hD hS hl
        unfold p_X8_goHour_176 at hg
        refine lv_aload_n hx hb dX8_goHour_176 rfl (lv_at hl 1 rfl) ?_
        refine lv_bipush (v := (20 : Int32)) hx hb dX8_goHour_177 (by decide) ?_
        refine lv_iload_n hx hb dX8_goHour_179 rfl (lv_at hl 2 rfl) ?_
        refine lv_iadd hx hb dX8_goHour_180 ?_
        refine lv_iconst (v := (0 : Int32)) hx hb dX8_goHour_181 (by decide) ?_
        refine lv_aload_n hx hb dX8_goHour_182 rfl (lv_at hl 1 rfl) ?_
        refine lv_bipush (v := (20 : Int32)) hx hb dX8_goHour_183 (by decide) ?_
        refine lv_iload_n hx hb dX8_goHour_185 rfl (lv_at hl 2 rfl) ?_
        refine lv_iadd hx hb dX8_goHour_186 ?_
        obtain ⟨g_187, hg⟩ := hg
        refine k_iald C0 hP 1 rfl g_187 dX8_goHour_187 ?_
        refine lv_iconst (v := (1 : Int32)) hx hb dX8_goHour_188 (by decide) ?_
        refine lv_isub hx hb dX8_goHour_189 ?_
        refine k_max C0 w5_185 hl.1 (Nat.le_of_ble_eq_true rfl) (Nat.le_of_ble_eq_true rfl) (Nat.le_of_ble_eq_true rfl) (Nat.le_of_ble_eq_true rfl) dX8_goHour_190 ?_
        obtain ⟨g_193, hg⟩ := hg
        refine k_iast C0 hP hD hS 1 rfl g_193 (ws' := [(h, oX8 w_now (.int x_arches) (.int x_cats) w_text (.int x_typed) w_row (.int x_rowMany) (.int x_thrown) x_read_2 (.int x_length_2) (.int x_top_2) (.int x_at_2) (.int x_wrong_2) w_told (.ref q_rule) w_otherRule (.int x_ruleSize) (.int x_isAsked_2) (.ref q_asked) w_undos (.int x_undoMany) w_aside w_then (.ref q_hold) (.int x_dropped_30) w_acts w_guarded w_train (.int x_trolleyEnd) w_feltOf w_feltBy (.int x_feltMany) w_many w_heardOf w_heardBy (.int x_heardMany) w_worth (.int x_drawn) (.int x_came) w_kept w_isKept w_keptCame), (b1, aI cT n_b1 (upd f_b1_176 ((20 : Int32) + y2_141).toNatClampNeg (if (0 : Int32) < ((f_b1_176 ((20 : Int32) + y2_141).toNatClampNeg) - (1 : Int32)) then ((f_b1_176 ((20 : Int32) + y2_141).toNatClampNeg) - (1 : Int32)) else (0 : Int32)))), (q_asked, aI cT 7 f_asked_2), (q_rule, aB cT 40 f_rule), (q_hold, aI cT 6 f_hold_2)]) rfl dX8_goHour_193 (fun H locs hP hD hS => ?_)
        refine lv_aload_n hx hb dX8_goHour_194 rfl (lv_at hl 1 rfl) ?_
        refine lv_bipush (v := (28 : Int32)) hx hb dX8_goHour_195 (by decide) ?_
        refine lv_iload_n hx hb dX8_goHour_197 rfl (lv_at hl 2 rfl) ?_
        refine lv_iadd hx hb dX8_goHour_198 ?_
        refine lv_iconst (v := (0 : Int32)) hx hb dX8_goHour_199 (by decide) ?_
        refine lv_aload_n hx hb dX8_goHour_200 rfl (lv_at hl 1 rfl) ?_
        refine lv_bipush (v := (28 : Int32)) hx hb dX8_goHour_201 (by decide) ?_
        refine lv_iload_n hx hb dX8_goHour_203 rfl (lv_at hl 2 rfl) ?_
        refine lv_iadd hx hb dX8_goHour_204 ?_
        obtain ⟨g_205, hg⟩ := hg
        refine k_iald C0 hP 1 rfl g_205 dX8_goHour_205 ?_
        refine lv_iconst (v := (1 : Int32)) hx hb dX8_goHour_206 (by decide) ?_
        refine lv_isub hx hb dX8_goHour_207 ?_
        refine k_max C0 w5_185 hl.1 (Nat.le_of_ble_eq_true rfl) (Nat.le_of_ble_eq_true rfl) (Nat.le_of_ble_eq_true rfl) (Nat.le_of_ble_eq_true rfl) dX8_goHour_208 ?_
        obtain ⟨g_211, hg⟩ := hg
        refine k_iast C0 hP hD hS 1 rfl g_211 (ws' := [(h, oX8 w_now (.int x_arches) (.int x_cats) w_text (.int x_typed) w_row (.int x_rowMany) (.int x_thrown) x_read_2 (.int x_length_2) (.int x_top_2) (.int x_at_2) (.int x_wrong_2) w_told (.ref q_rule) w_otherRule (.int x_ruleSize) (.int x_isAsked_2) (.ref q_asked) w_undos (.int x_undoMany) w_aside w_then (.ref q_hold) (.int x_dropped_30) w_acts w_guarded w_train (.int x_trolleyEnd) w_feltOf w_feltBy (.int x_feltMany) w_many w_heardOf w_heardBy (.int x_heardMany) w_worth (.int x_drawn) (.int x_came) w_kept w_isKept w_keptCame), (b1, aI cT n_b1 (upd (upd f_b1_176 ((20 : Int32) + y2_141).toNatClampNeg (if (0 : Int32) < ((f_b1_176 ((20 : Int32) + y2_141).toNatClampNeg) - (1 : Int32)) then ((f_b1_176 ((20 : Int32) + y2_141).toNatClampNeg) - (1 : Int32)) else (0 : Int32))) ((28 : Int32) + y2_141).toNatClampNeg (if (0 : Int32) < (((upd f_b1_176 ((20 : Int32) + y2_141).toNatClampNeg (if (0 : Int32) < ((f_b1_176 ((20 : Int32) + y2_141).toNatClampNeg) - (1 : Int32)) then ((f_b1_176 ((20 : Int32) + y2_141).toNatClampNeg) - (1 : Int32)) else (0 : Int32))) ((28 : Int32) + y2_141).toNatClampNeg) - (1 : Int32)) then (((upd f_b1_176 ((20 : Int32) + y2_141).toNatClampNeg (if (0 : Int32) < ((f_b1_176 ((20 : Int32) + y2_141).toNatClampNeg) - (1 : Int32)) then ((f_b1_176 ((20 : Int32) + y2_141).toNatClampNeg) - (1 : Int32)) else (0 : Int32))) ((28 : Int32) + y2_141).toNatClampNeg) - (1 : Int32)) else (0 : Int32)))), (q_asked, aI cT 7 f_asked_2), (q_rule, aB cT 40 f_rule), (q_hold, aI cT 6 f_hold_2)]) rfl dX8_goHour_211 (fun H locs hP hD hS => ?_)
        refine lv_iinc (v := (y2_141 + (1 : Int32))) (lv' := [(2, .int (y2_141 + (1 : Int32))), (0, .ref h), (1, .ref b1)]) hx hb dX8_goHour_212 hl (k := 2) rfl rfl (by decide) rfl (fun ls hl => ?_)
        refine lv_goto (tgt := 141) hx hb dX8_goHour_215 (by decide) ?_
        exact ih141 (y2_141 + (1 : Int32)) (upd (upd f_b1_176 ((20 : Int32) + y2_141).toNatClampNeg (if (0 : Int32) < ((f_b1_176 ((20 : Int32) + y2_141).toNatClampNeg) - (1 : Int32)) then ((f_b1_176 ((20 : Int32) + y2_141).toNatClampNeg) - (1 : Int32)) else (0 : Int32))) ((28 : Int32) + y2_141).toNatClampNeg (if (0 : Int32) < (((upd f_b1_176 ((20 : Int32) + y2_141).toNatClampNeg (if (0 : Int32) < ((f_b1_176 ((20 : Int32) + y2_141).toNatClampNeg) - (1 : Int32)) then ((f_b1_176 ((20 : Int32) + y2_141).toNatClampNeg) - (1 : Int32)) else (0 : Int32))) ((28 : Int32) + y2_141).toNatClampNeg) - (1 : Int32)) then (((upd f_b1_176 ((20 : Int32) + y2_141).toNatClampNeg (if (0 : Int32) < ((f_b1_176 ((20 : Int32) + y2_141).toNatClampNeg) - (1 : Int32)) then ((f_b1_176 ((20 : Int32) + y2_141).toNatClampNeg) - (1 : Int32)) else (0 : Int32))) ((28 : Int32) + y2_141).toNatClampNeg) - (1 : Int32)) else (0 : Int32))) _ _ _ hg hP hD hS (lv_sub hl [1, 2, 0] rfl)
      intro y2_141 f_b1_141 H locs ls hg hP hD hS hl
      rw [p_X8_goHour_141_s] at hg
      refine lv_iload_n hx hb dX8_goHour_141 rfl (lv_at hl 2 rfl) ?_
      refine lv_aload_n hx hb dX8_goHour_142 rfl (lv_at hl 0 rfl) ?_
      refine gf_X8_96 C0 hP 0 rfl rfl dX8_goHour_143 ?_
      refine lv_icmp_ge (tgt := 218) hx hb dX8_goHour_146 (by decide) (fun c_146 => ?_) (fun c_146 => ?_)
      · have hg := hg.1 c_146
        refine lv_aload_n hx hb dX8_goHour_218 rfl (lv_at hl 1 rfl) ?_
        refine lv_bipush (v := (45 : Int32)) hx hb dX8_goHour_219 (by decide) ?_
        refine lv_dup2_11 hx hb dX8_goHour_221 rfl rfl ?_
        obtain ⟨g_222, hg⟩ := hg
        refine k_iald C0 hP 1 rfl g_222 dX8_goHour_222 ?_
        refine lv_iconst (v := (1 : Int32)) hx hb dX8_goHour_223 (by decide) ?_
        refine lv_iadd hx hb dX8_goHour_224 ?_
        obtain ⟨g_225, hg⟩ := hg
        refine k_iast C0 hP hD hS 1 rfl g_225 (ws' := [(h, oX8 w_now (.int x_arches) (.int x_cats) w_text (.int x_typed) w_row (.int x_rowMany) (.int x_thrown) x_read_2 (.int x_length_2) (.int x_top_2) (.int x_at_2) (.int x_wrong_2) w_told (.ref q_rule) w_otherRule (.int x_ruleSize) (.int x_isAsked_2) (.ref q_asked) w_undos (.int x_undoMany) w_aside w_then (.ref q_hold) (.int x_dropped_30) w_acts w_guarded w_train (.int x_trolleyEnd) w_feltOf w_feltBy (.int x_feltMany) w_many w_heardOf w_heardBy (.int x_heardMany) w_worth (.int x_drawn) (.int x_came) w_kept w_isKept w_keptCame), (b1, aI cT n_b1 (upd f_b1_141 (45 : Int32).toNatClampNeg ((f_b1_141 (45 : Int32).toNatClampNeg) + (1 : Int32)))), (q_asked, aI cT 7 f_asked_2), (q_rule, aB cT 40 f_rule), (q_hold, aI cT 6 f_hold_2)]) rfl dX8_goHour_225 (fun H locs hP hD hS => ?_)
        exact k_vret C0 hr (x_read_2, x_length_2, x_top_2, x_at_2, x_wrong_2, x_isAsked_2, x_dropped_30, (upd f_b1_141 (45 : Int32).toNatClampNeg ((f_b1_141 (45 : Int32).toNatClampNeg) + (1 : Int32))), f_asked_2, f_hold_2) hg hP hD hS dX8_goHour_226
      have hg := hg.2 c_146
      refine lv_aload_n hx hb dX8_goHour_149 rfl (lv_at hl 1 rfl) ?_
      refine lv_bipush (v := (20 : Int32)) hx hb dX8_goHour_150 (by decide) ?_
      refine lv_iload_n hx hb dX8_goHour_152 rfl (lv_at hl 2 rfl) ?_
      refine lv_iadd hx hb dX8_goHour_153 ?_
      obtain ⟨g_154, hg⟩ := hg
      refine k_iald C0 hP 1 rfl g_154 dX8_goHour_154 ?_
      refine lv_if_ne (tgt := 176) hx hb dX8_goHour_155 (by decide) (fun c_155 => ?_) (fun c_155 => ?_)
      · have hg := hg.1 c_155
        exact L176 y2_141 f_b1_141 _ _ _ hg hP hD hS hl
      have hg := hg.2 c_155
      refine lv_aload_n hx hb dX8_goHour_158 rfl (lv_at hl 1 rfl) ?_
      refine lv_bipush (v := (12 : Int32)) hx hb dX8_goHour_159 (by decide) ?_
      refine lv_iload_n hx hb dX8_goHour_161 rfl (lv_at hl 2 rfl) ?_
      refine lv_iadd hx hb dX8_goHour_162 ?_
      refine lv_iconst (v := (0 : Int32)) hx hb dX8_goHour_163 (by decide) ?_
      refine lv_aload_n hx hb dX8_goHour_164 rfl (lv_at hl 1 rfl) ?_
      refine lv_bipush (v := (12 : Int32)) hx hb dX8_goHour_165 (by decide) ?_
      refine lv_iload_n hx hb dX8_goHour_167 rfl (lv_at hl 2 rfl) ?_
      refine lv_iadd hx hb dX8_goHour_168 ?_
      obtain ⟨g_169, hg⟩ := hg
      refine k_iald C0 hP 1 rfl g_169 dX8_goHour_169 ?_
      refine lv_iconst (v := (1 : Int32)) hx hb dX8_goHour_170 (by decide) ?_
      refine lv_isub hx hb dX8_goHour_171 ?_
      refine k_max C0 w5_185 hl.1 (Nat.le_of_ble_eq_true rfl) (Nat.le_of_ble_eq_true rfl) (Nat.le_of_ble_eq_true rfl) (Nat.le_of_ble_eq_true rfl) dX8_goHour_172 ?_
      obtain ⟨g_175, hg⟩ := hg
      refine k_iast C0 hP hD hS 1 rfl g_175 (ws' := [(h, oX8 w_now (.int x_arches) (.int x_cats) w_text (.int x_typed) w_row (.int x_rowMany) (.int x_thrown) x_read_2 (.int x_length_2) (.int x_top_2) (.int x_at_2) (.int x_wrong_2) w_told (.ref q_rule) w_otherRule (.int x_ruleSize) (.int x_isAsked_2) (.ref q_asked) w_undos (.int x_undoMany) w_aside w_then (.ref q_hold) (.int x_dropped_30) w_acts w_guarded w_train (.int x_trolleyEnd) w_feltOf w_feltBy (.int x_feltMany) w_many w_heardOf w_heardBy (.int x_heardMany) w_worth (.int x_drawn) (.int x_came) w_kept w_isKept w_keptCame), (b1, aI cT n_b1 (upd f_b1_141 ((12 : Int32) + y2_141).toNatClampNeg (if (0 : Int32) < ((f_b1_141 ((12 : Int32) + y2_141).toNatClampNeg) - (1 : Int32)) then ((f_b1_141 ((12 : Int32) + y2_141).toNatClampNeg) - (1 : Int32)) else (0 : Int32)))), (q_asked, aI cT 7 f_asked_2), (q_rule, aB cT 40 f_rule), (q_hold, aI cT 6 f_hold_2)]) rfl dX8_goHour_175 (fun H locs hP hD hS => ?_)
      exact L176 y2_141 (upd f_b1_141 ((12 : Int32) + y2_141).toNatClampNeg (if (0 : Int32) < ((f_b1_141 ((12 : Int32) + y2_141).toNatClampNeg) - (1 : Int32)) then ((f_b1_141 ((12 : Int32) + y2_141).toNatClampNeg) - (1 : Int32)) else (0 : Int32))) _ _ _ hg hP hD hS hl
  have L30 : ∀ (x_read_2 : Value) (x_length_2 : Int32) (x_top_2 : Int32) (x_at_2 : Int32) (x_wrong_2 : Int32) (x_isAsked_2 : Int32) (f_asked_2 : Nat → Int32) (f_hold_2 : Nat → Int32) (n30 : Nat) (y2_30 : Int32) (x_dropped_30 : Int32) (f_b1_30 : Nat → Int32) (H : Heap) (locs : List Loc) (ls : Array Slot), p_X8_goHour_30 F x_arches x_cats n_b1 x_read_2 x_length_2 x_top_2 x_at_2 x_wrong_2 x_isAsked_2 f_asked_2 f_hold_2 Post n30 y2_30 x_dropped_30 f_b1_30 → va_P D cls9 [(h, oX8 w_now (.int x_arches) (.int x_cats) w_text (.int x_typed) w_row (.int x_rowMany) (.int x_thrown) x_read_2 (.int x_length_2) (.int x_top_2) (.int x_at_2) (.int x_wrong_2) w_told (.ref q_rule) w_otherRule (.int x_ruleSize) (.int x_isAsked_2) (.ref q_asked) w_undos (.int x_undoMany) w_aside w_then (.ref q_hold) (.int x_dropped_30) w_acts w_guarded w_train (.int x_trolleyEnd) w_feltOf w_feltBy (.int x_feltMany) w_many w_heardOf w_heardBy (.int x_heardMany) w_worth (.int x_drawn) (.int x_came) w_kept w_isKept w_keptCame), (b1, aI cT n_b1 f_b1_30), (q_asked, aI cT 7 f_asked_2), (q_rule, aB cT 40 f_rule), (q_hold, aI cT 6 f_hold_2)] H → va_D A [(h, oX8 w_now (.int x_arches) (.int x_cats) w_text (.int x_typed) w_row (.int x_rowMany) (.int x_thrown) x_read_2 (.int x_length_2) (.int x_top_2) (.int x_at_2) (.int x_wrong_2) w_told (.ref q_rule) w_otherRule (.int x_ruleSize) (.int x_isAsked_2) (.ref q_asked) w_undos (.int x_undoMany) w_aside w_then (.ref q_hold) (.int x_dropped_30) w_acts w_guarded w_train (.int x_trolleyEnd) w_feltOf w_feltBy (.int x_feltMany) w_many w_heardOf w_heardBy (.int x_heardMany) w_worth (.int x_drawn) (.int x_came) w_kept w_isKept w_keptCame), (b1, aI cT n_b1 f_b1_30), (q_asked, aI cT 7 f_asked_2), (q_rule, aB cT 40 f_rule), (q_hold, aI cT 6 f_hold_2)] → va_S A s.heap H locs → lv_has ls 3 [(0, .ref h), (1, .ref b1), (2, .int y2_30)] → W p l e (rmO 325 10174 0 0) s m ([.ref h, .ref b1] : List Value).toArray below meth c H locs 0 0 (MQ below (va_Qv Post (cB D A (fun (u : (Value × Int32 × Int32 × Int32 × Int32 × Int32 × Int32 × (Nat → Int32) × (Nat → Int32) × (Nat → Int32))) => [(h, oX8 w_now (.int x_arches) (.int x_cats) w_text (.int x_typed) w_row (.int x_rowMany) (.int x_thrown) u.1 (.int u.2.1) (.int u.2.2.1) (.int u.2.2.2.1) (.int u.2.2.2.2.1) w_told (.ref q_rule) w_otherRule (.int x_ruleSize) (.int u.2.2.2.2.2.1) (.ref q_asked) w_undos (.int x_undoMany) w_aside w_then (.ref q_hold) (.int u.2.2.2.2.2.2.1) w_acts w_guarded w_train (.int x_trolleyEnd) w_feltOf w_feltBy (.int x_feltMany) w_many w_heardOf w_heardBy (.int x_heardMany) w_worth (.int x_drawn) (.int x_came) w_kept w_isKept w_keptCame), (b1, aI cT n_b1 u.2.2.2.2.2.2.2.1), (q_asked, aI cT 7 u.2.2.2.2.2.2.2.2.1), (q_rule, aB cT 40 f_rule), (q_hold, aI cT 6 u.2.2.2.2.2.2.2.2.2)])) A) ([.ref h, .ref b1] : List Value).toArray s 0 0 A) (F0 m 30 ls []) := by
    intro x_read_2 x_length_2 x_top_2 x_at_2 x_wrong_2 x_isAsked_2 f_asked_2 f_hold_2 n30
    induction n30 with
    | zero =>
      intro y2_30 x_dropped_30 f_b1_30 H locs ls hg hP hD hS hl
      exact False.elim hg
    | succ n30 ih30 =>
      have L133 : ∀ (y2_30 : Int32) (x_dropped_133 : Int32) (f_b1_133 : Nat → Int32) (H : Heap) (locs : List Loc) (ls : Array Slot), p_X8_goHour_133 F y2_30 (p_X8_goHour_30 F x_arches x_cats n_b1 x_read_2 x_length_2 x_top_2 x_at_2 x_wrong_2 x_isAsked_2 f_asked_2 f_hold_2 Post n30) Post x_dropped_133 f_b1_133 → va_P D cls9 [(h, oX8 w_now (.int x_arches) (.int x_cats) w_text (.int x_typed) w_row (.int x_rowMany) (.int x_thrown) x_read_2 (.int x_length_2) (.int x_top_2) (.int x_at_2) (.int x_wrong_2) w_told (.ref q_rule) w_otherRule (.int x_ruleSize) (.int x_isAsked_2) (.ref q_asked) w_undos (.int x_undoMany) w_aside w_then (.ref q_hold) (.int x_dropped_133) w_acts w_guarded w_train (.int x_trolleyEnd) w_feltOf w_feltBy (.int x_feltMany) w_many w_heardOf w_heardBy (.int x_heardMany) w_worth (.int x_drawn) (.int x_came) w_kept w_isKept w_keptCame), (b1, aI cT n_b1 f_b1_133), (q_asked, aI cT 7 f_asked_2), (q_rule, aB cT 40 f_rule), (q_hold, aI cT 6 f_hold_2)] H → va_D A [(h, oX8 w_now (.int x_arches) (.int x_cats) w_text (.int x_typed) w_row (.int x_rowMany) (.int x_thrown) x_read_2 (.int x_length_2) (.int x_top_2) (.int x_at_2) (.int x_wrong_2) w_told (.ref q_rule) w_otherRule (.int x_ruleSize) (.int x_isAsked_2) (.ref q_asked) w_undos (.int x_undoMany) w_aside w_then (.ref q_hold) (.int x_dropped_133) w_acts w_guarded w_train (.int x_trolleyEnd) w_feltOf w_feltBy (.int x_feltMany) w_many w_heardOf w_heardBy (.int x_heardMany) w_worth (.int x_drawn) (.int x_came) w_kept w_isKept w_keptCame), (b1, aI cT n_b1 f_b1_133), (q_asked, aI cT 7 f_asked_2), (q_rule, aB cT 40 f_rule), (q_hold, aI cT 6 f_hold_2)] → va_S A s.heap H locs → lv_has ls 3 [(0, .ref h), (1, .ref b1), (2, .int y2_30)] → W p l e (rmO 325 10174 0 0) s m ([.ref h, .ref b1] : List Value).toArray below meth c H locs 0 0 (MQ below (va_Qv Post (cB D A (fun (u : (Value × Int32 × Int32 × Int32 × Int32 × Int32 × Int32 × (Nat → Int32) × (Nat → Int32) × (Nat → Int32))) => [(h, oX8 w_now (.int x_arches) (.int x_cats) w_text (.int x_typed) w_row (.int x_rowMany) (.int x_thrown) u.1 (.int u.2.1) (.int u.2.2.1) (.int u.2.2.2.1) (.int u.2.2.2.2.1) w_told (.ref q_rule) w_otherRule (.int x_ruleSize) (.int u.2.2.2.2.2.1) (.ref q_asked) w_undos (.int x_undoMany) w_aside w_then (.ref q_hold) (.int u.2.2.2.2.2.2.1) w_acts w_guarded w_train (.int x_trolleyEnd) w_feltOf w_feltBy (.int x_feltMany) w_many w_heardOf w_heardBy (.int x_heardMany) w_worth (.int x_drawn) (.int x_came) w_kept w_isKept w_keptCame), (b1, aI cT n_b1 u.2.2.2.2.2.2.2.1), (q_asked, aI cT 7 u.2.2.2.2.2.2.2.2.1), (q_rule, aB cT 40 f_rule), (q_hold, aI cT 6 u.2.2.2.2.2.2.2.2.2)])) A) ([.ref h, .ref b1] : List Value).toArray s 0 0 A) (F0 m 133 ls []) := by
        intro y2_30 x_dropped_133 f_b1_133 H locs ls hg hP hD hS hl
        unfold p_X8_goHour_133 at hg
        refine lv_iinc (v := (y2_30 + (1 : Int32))) (lv' := [(2, .int (y2_30 + (1 : Int32))), (0, .ref h), (1, .ref b1)]) hx hb dX8_goHour_133 hl (k := 2) rfl rfl (by decide) rfl (fun ls hl => ?_)
        refine lv_goto (tgt := 30) hx hb dX8_goHour_136 (by decide) ?_
        exact ih30 (y2_30 + (1 : Int32)) x_dropped_133 f_b1_133 _ _ _ hg hP hD hS (lv_sub hl [1, 2, 0] rfl)
      have L68 : ∀ (y2_30 : Int32) (x_dropped_30 : Int32) (f_b1_68 : Nat → Int32) (H : Heap) (locs : List Loc) (ls : Array Slot), p_X8_goHour_68 F n_b1 f_hold_2 y2_30 x_dropped_30 (p_X8_goHour_30 F x_arches x_cats n_b1 x_read_2 x_length_2 x_top_2 x_at_2 x_wrong_2 x_isAsked_2 f_asked_2 f_hold_2 Post n30) Post f_b1_68 → va_P D cls9 [(h, oX8 w_now (.int x_arches) (.int x_cats) w_text (.int x_typed) w_row (.int x_rowMany) (.int x_thrown) x_read_2 (.int x_length_2) (.int x_top_2) (.int x_at_2) (.int x_wrong_2) w_told (.ref q_rule) w_otherRule (.int x_ruleSize) (.int x_isAsked_2) (.ref q_asked) w_undos (.int x_undoMany) w_aside w_then (.ref q_hold) (.int x_dropped_30) w_acts w_guarded w_train (.int x_trolleyEnd) w_feltOf w_feltBy (.int x_feltMany) w_many w_heardOf w_heardBy (.int x_heardMany) w_worth (.int x_drawn) (.int x_came) w_kept w_isKept w_keptCame), (b1, aI cT n_b1 f_b1_68), (q_asked, aI cT 7 f_asked_2), (q_rule, aB cT 40 f_rule), (q_hold, aI cT 6 f_hold_2)] H → va_D A [(h, oX8 w_now (.int x_arches) (.int x_cats) w_text (.int x_typed) w_row (.int x_rowMany) (.int x_thrown) x_read_2 (.int x_length_2) (.int x_top_2) (.int x_at_2) (.int x_wrong_2) w_told (.ref q_rule) w_otherRule (.int x_ruleSize) (.int x_isAsked_2) (.ref q_asked) w_undos (.int x_undoMany) w_aside w_then (.ref q_hold) (.int x_dropped_30) w_acts w_guarded w_train (.int x_trolleyEnd) w_feltOf w_feltBy (.int x_feltMany) w_many w_heardOf w_heardBy (.int x_heardMany) w_worth (.int x_drawn) (.int x_came) w_kept w_isKept w_keptCame), (b1, aI cT n_b1 f_b1_68), (q_asked, aI cT 7 f_asked_2), (q_rule, aB cT 40 f_rule), (q_hold, aI cT 6 f_hold_2)] → va_S A s.heap H locs → lv_has ls 3 [(0, .ref h), (1, .ref b1), (2, .int y2_30)] → W p l e (rmO 325 10174 0 0) s m ([.ref h, .ref b1] : List Value).toArray below meth c H locs 0 0 (MQ below (va_Qv Post (cB D A (fun (u : (Value × Int32 × Int32 × Int32 × Int32 × Int32 × Int32 × (Nat → Int32) × (Nat → Int32) × (Nat → Int32))) => [(h, oX8 w_now (.int x_arches) (.int x_cats) w_text (.int x_typed) w_row (.int x_rowMany) (.int x_thrown) u.1 (.int u.2.1) (.int u.2.2.1) (.int u.2.2.2.1) (.int u.2.2.2.2.1) w_told (.ref q_rule) w_otherRule (.int x_ruleSize) (.int u.2.2.2.2.2.1) (.ref q_asked) w_undos (.int x_undoMany) w_aside w_then (.ref q_hold) (.int u.2.2.2.2.2.2.1) w_acts w_guarded w_train (.int x_trolleyEnd) w_feltOf w_feltBy (.int x_feltMany) w_many w_heardOf w_heardBy (.int x_heardMany) w_worth (.int x_drawn) (.int x_came) w_kept w_isKept w_keptCame), (b1, aI cT n_b1 u.2.2.2.2.2.2.2.1), (q_asked, aI cT 7 u.2.2.2.2.2.2.2.2.1), (q_rule, aB cT 40 f_rule), (q_hold, aI cT 6 u.2.2.2.2.2.2.2.2.2)])) A) ([.ref h, .ref b1] : List Value).toArray s 0 0 A) (F0 m 68 ls []) := by
        intro y2_30 x_dropped_30 f_b1_68 H locs ls hg hP hD hS hl
        unfold p_X8_goHour_68 at hg
        refine lv_aload_n hx hb dX8_goHour_68 rfl (lv_at hl 0 rfl) ?_
        refine gf_X8_42 C0 hP 0 rfl rfl dX8_goHour_69 ?_
        refine lv_iload_n hx hb dX8_goHour_72 rfl (lv_at hl 2 rfl) ?_
        obtain ⟨g_73, hg⟩ := hg
        refine k_iald C0 hP 4 rfl g_73 dX8_goHour_73 ?_
        refine lv_aload_n hx hb dX8_goHour_74 rfl (lv_at hl 1 rfl) ?_
        refine lv_iload_n hx hb dX8_goHour_75 rfl (lv_at hl 2 rfl) ?_
        obtain ⟨g_76, hg⟩ := hg
        refine k_iald C0 hP 1 rfl g_76 dX8_goHour_76 ?_
        refine lv_icmp_lt (tgt := 83) hx hb dX8_goHour_77 (by decide) (fun c_77 => ?_) (fun c_77 => ?_)
        · have hg := hg.1 c_77
          refine lv_aload_n hx hb dX8_goHour_83 rfl (lv_at hl 1 rfl) ?_
          refine lv_bipush (v := (6 : Int32)) hx hb dX8_goHour_84 (by decide) ?_
          refine lv_iload_n hx hb dX8_goHour_86 rfl (lv_at hl 2 rfl) ?_
          refine lv_iadd hx hb dX8_goHour_87 ?_
          obtain ⟨g_88, hg⟩ := hg
          refine k_iald C0 hP 1 rfl g_88 dX8_goHour_88 ?_
          refine lv_bipush (v := (9 : Int32)) hx hb dX8_goHour_89 (by decide) ?_
          refine lv_icmp_ge (tgt := 107) hx hb dX8_goHour_91 (by decide) (fun c_91 => ?_) (fun c_91 => ?_)
          · have hg := hg.1 c_91
            refine lv_aload_n hx hb dX8_goHour_107 rfl (lv_at hl 0 rfl) ?_
            refine lv_dup hx hb dX8_goHour_108 rfl ?_
            refine gf_X8_235 C0 hP 0 rfl rfl dX8_goHour_109 ?_
            refine lv_iconst (v := (1 : Int32)) hx hb dX8_goHour_112 (by decide) ?_
            refine lv_iadd hx hb dX8_goHour_113 ?_
            refine pf_X8_235 C0 hP hD hS 0 rfl (Nat.le_of_ble_eq_true rfl) (ws2 := [(h, oX8 w_now (.int x_arches) (.int x_cats) w_text (.int x_typed) w_row (.int x_rowMany) (.int x_thrown) x_read_2 (.int x_length_2) (.int x_top_2) (.int x_at_2) (.int x_wrong_2) w_told (.ref q_rule) w_otherRule (.int x_ruleSize) (.int x_isAsked_2) (.ref q_asked) w_undos (.int x_undoMany) w_aside w_then (.ref q_hold) (.int (x_dropped_30 + (1 : Int32))) w_acts w_guarded w_train (.int x_trolleyEnd) w_feltOf w_feltBy (.int x_feltMany) w_many w_heardOf w_heardBy (.int x_heardMany) w_worth (.int x_drawn) (.int x_came) w_kept w_isKept w_keptCame), (b1, aI cT n_b1 f_b1_68), (q_asked, aI cT 7 f_asked_2), (q_rule, aB cT 40 f_rule), (q_hold, aI cT 6 f_hold_2)]) rfl dX8_goHour_114 (fun H locs hP hD hS => ?_)
            refine lv_aload_n hx hb dX8_goHour_117 rfl (lv_at hl 1 rfl) ?_
            refine lv_bipush (v := (46 : Int32)) hx hb dX8_goHour_118 (by decide) ?_
            refine lv_sipush (v := (9999 : Int32)) hx hb dX8_goHour_120 (by decide) ?_
            refine lv_aload_n hx hb dX8_goHour_123 rfl (lv_at hl 1 rfl) ?_
            refine lv_bipush (v := (46 : Int32)) hx hb dX8_goHour_124 (by decide) ?_
            obtain ⟨g_126, hg⟩ := hg
            refine k_iald C0 hP 1 rfl g_126 dX8_goHour_126 ?_
            refine lv_iconst (v := (1 : Int32)) hx hb dX8_goHour_127 (by decide) ?_
            refine lv_iadd hx hb dX8_goHour_128 ?_
            refine k_min C0 w5_184 hl.1 (Nat.le_of_ble_eq_true rfl) (Nat.le_of_ble_eq_true rfl) (Nat.le_of_ble_eq_true rfl) (Nat.le_of_ble_eq_true rfl) dX8_goHour_129 ?_
            obtain ⟨g_132, hg⟩ := hg
            refine k_iast C0 hP hD hS 1 rfl g_132 (ws' := [(h, oX8 w_now (.int x_arches) (.int x_cats) w_text (.int x_typed) w_row (.int x_rowMany) (.int x_thrown) x_read_2 (.int x_length_2) (.int x_top_2) (.int x_at_2) (.int x_wrong_2) w_told (.ref q_rule) w_otherRule (.int x_ruleSize) (.int x_isAsked_2) (.ref q_asked) w_undos (.int x_undoMany) w_aside w_then (.ref q_hold) (.int (x_dropped_30 + (1 : Int32))) w_acts w_guarded w_train (.int x_trolleyEnd) w_feltOf w_feltBy (.int x_feltMany) w_many w_heardOf w_heardBy (.int x_heardMany) w_worth (.int x_drawn) (.int x_came) w_kept w_isKept w_keptCame), (b1, aI cT n_b1 (upd f_b1_68 (46 : Int32).toNatClampNeg (if ((f_b1_68 (46 : Int32).toNatClampNeg) + (1 : Int32)) < (9999 : Int32) then ((f_b1_68 (46 : Int32).toNatClampNeg) + (1 : Int32)) else (9999 : Int32)))), (q_asked, aI cT 7 f_asked_2), (q_rule, aB cT 40 f_rule), (q_hold, aI cT 6 f_hold_2)]) rfl dX8_goHour_132 (fun H locs hP hD hS => ?_)
            exact L133 y2_30 (x_dropped_30 + (1 : Int32)) (upd f_b1_68 (46 : Int32).toNatClampNeg (if ((f_b1_68 (46 : Int32).toNatClampNeg) + (1 : Int32)) < (9999 : Int32) then ((f_b1_68 (46 : Int32).toNatClampNeg) + (1 : Int32)) else (9999 : Int32))) _ _ _ hg hP hD hS hl
          have hg := hg.2 c_91
          refine lv_aload_n hx hb dX8_goHour_94 rfl (lv_at hl 1 rfl) ?_
          refine lv_bipush (v := (6 : Int32)) hx hb dX8_goHour_95 (by decide) ?_
          refine lv_iload_n hx hb dX8_goHour_97 rfl (lv_at hl 2 rfl) ?_
          refine lv_iadd hx hb dX8_goHour_98 ?_
          refine lv_dup2_11 hx hb dX8_goHour_99 rfl rfl ?_
          obtain ⟨g_100, hg⟩ := hg
          refine k_iald C0 hP 1 rfl g_100 dX8_goHour_100 ?_
          refine lv_iconst (v := (1 : Int32)) hx hb dX8_goHour_101 (by decide) ?_
          refine lv_iadd hx hb dX8_goHour_102 ?_
          obtain ⟨g_103, hg⟩ := hg
          refine k_iast C0 hP hD hS 1 rfl g_103 (ws' := [(h, oX8 w_now (.int x_arches) (.int x_cats) w_text (.int x_typed) w_row (.int x_rowMany) (.int x_thrown) x_read_2 (.int x_length_2) (.int x_top_2) (.int x_at_2) (.int x_wrong_2) w_told (.ref q_rule) w_otherRule (.int x_ruleSize) (.int x_isAsked_2) (.ref q_asked) w_undos (.int x_undoMany) w_aside w_then (.ref q_hold) (.int x_dropped_30) w_acts w_guarded w_train (.int x_trolleyEnd) w_feltOf w_feltBy (.int x_feltMany) w_many w_heardOf w_heardBy (.int x_heardMany) w_worth (.int x_drawn) (.int x_came) w_kept w_isKept w_keptCame), (b1, aI cT n_b1 (upd f_b1_68 ((6 : Int32) + y2_30).toNatClampNeg ((f_b1_68 ((6 : Int32) + y2_30).toNatClampNeg) + (1 : Int32)))), (q_asked, aI cT 7 f_asked_2), (q_rule, aB cT 40 f_rule), (q_hold, aI cT 6 f_hold_2)]) rfl dX8_goHour_103 (fun H locs hP hD hS => ?_)
          refine lv_goto (tgt := 133) hx hb dX8_goHour_104 (by decide) ?_
          exact L133 y2_30 x_dropped_30 (upd f_b1_68 ((6 : Int32) + y2_30).toNatClampNeg ((f_b1_68 ((6 : Int32) + y2_30).toNatClampNeg) + (1 : Int32))) _ _ _ hg hP hD hS hl
        have hg := hg.2 c_77
        refine lv_goto (tgt := 133) hx hb dX8_goHour_80 (by decide) ?_
        exact L133 y2_30 x_dropped_30 f_b1_68 _ _ _ hg hP hD hS hl
      intro y2_30 x_dropped_30 f_b1_30 H locs ls hg hP hD hS hl
      rw [p_X8_goHour_30_s] at hg
      refine lv_iload_n hx hb dX8_goHour_30 rfl (lv_at hl 2 rfl) ?_
      refine lv_aload_n hx hb dX8_goHour_31 rfl (lv_at hl 0 rfl) ?_
      refine gf_X8_89 C0 hP 0 rfl rfl dX8_goHour_32 ?_
      refine lv_icmp_ge (tgt := 139) hx hb dX8_goHour_35 (by decide) (fun c_35 => ?_) (fun c_35 => ?_)
      · have hg := hg.1 c_35
        refine lv_iconst (v := (0 : Int32)) hx hb dX8_goHour_139 (by decide) ?_
        refine lv_istore_n (lv' := [(2, .int (0 : Int32)), (0, .ref h), (1, .ref b1)]) hx hb dX8_goHour_140 rfl hl (by decide) rfl (fun ls hl => ?_)
        exact L141 x_read_2 x_length_2 x_top_2 x_at_2 x_wrong_2 x_isAsked_2 f_asked_2 f_hold_2 x_dropped_30 F (0 : Int32) f_b1_30 _ _ _ hg hP hD hS (lv_sub hl [1, 2, 0] rfl)
      have hg := hg.2 c_35
      refine lv_aload_n hx hb dX8_goHour_38 rfl (lv_at hl 0 rfl) ?_
      refine gf_X8_42 C0 hP 0 rfl rfl dX8_goHour_39 ?_
      refine lv_iload_n hx hb dX8_goHour_42 rfl (lv_at hl 2 rfl) ?_
      obtain ⟨g_43, hg⟩ := hg
      refine k_iald C0 hP 4 rfl g_43 dX8_goHour_43 ?_
      refine lv_aload_n hx hb dX8_goHour_44 rfl (lv_at hl 1 rfl) ?_
      refine lv_iload_n hx hb dX8_goHour_45 rfl (lv_at hl 2 rfl) ?_
      obtain ⟨g_46, hg⟩ := hg
      refine k_iald C0 hP 1 rfl g_46 dX8_goHour_46 ?_
      refine lv_icmp_le (tgt := 68) hx hb dX8_goHour_47 (by decide) (fun c_47 => ?_) (fun c_47 => ?_)
      · have hg := hg.1 c_47
        exact L68 y2_30 x_dropped_30 f_b1_30 _ _ _ hg hP hD hS hl
      have hg := hg.2 c_47
      refine lv_aload_n hx hb dX8_goHour_50 rfl (lv_at hl 1 rfl) ?_
      refine lv_bipush (v := (6 : Int32)) hx hb dX8_goHour_51 (by decide) ?_
      refine lv_iload_n hx hb dX8_goHour_53 rfl (lv_at hl 2 rfl) ?_
      refine lv_iadd hx hb dX8_goHour_54 ?_
      refine lv_iconst (v := (0 : Int32)) hx hb dX8_goHour_55 (by decide) ?_
      refine lv_aload_n hx hb dX8_goHour_56 rfl (lv_at hl 1 rfl) ?_
      refine lv_bipush (v := (6 : Int32)) hx hb dX8_goHour_57 (by decide) ?_
      refine lv_iload_n hx hb dX8_goHour_59 rfl (lv_at hl 2 rfl) ?_
      refine lv_iadd hx hb dX8_goHour_60 ?_
      obtain ⟨g_61, hg⟩ := hg
      refine k_iald C0 hP 1 rfl g_61 dX8_goHour_61 ?_
      refine lv_iconst (v := (1 : Int32)) hx hb dX8_goHour_62 (by decide) ?_
      refine lv_isub hx hb dX8_goHour_63 ?_
      refine k_max C0 w5_185 hl.1 (Nat.le_of_ble_eq_true rfl) (Nat.le_of_ble_eq_true rfl) (Nat.le_of_ble_eq_true rfl) (Nat.le_of_ble_eq_true rfl) dX8_goHour_64 ?_
      obtain ⟨g_67, hg⟩ := hg
      refine k_iast C0 hP hD hS 1 rfl g_67 (ws' := [(h, oX8 w_now (.int x_arches) (.int x_cats) w_text (.int x_typed) w_row (.int x_rowMany) (.int x_thrown) x_read_2 (.int x_length_2) (.int x_top_2) (.int x_at_2) (.int x_wrong_2) w_told (.ref q_rule) w_otherRule (.int x_ruleSize) (.int x_isAsked_2) (.ref q_asked) w_undos (.int x_undoMany) w_aside w_then (.ref q_hold) (.int x_dropped_30) w_acts w_guarded w_train (.int x_trolleyEnd) w_feltOf w_feltBy (.int x_feltMany) w_many w_heardOf w_heardBy (.int x_heardMany) w_worth (.int x_drawn) (.int x_came) w_kept w_isKept w_keptCame), (b1, aI cT n_b1 (upd f_b1_30 ((6 : Int32) + y2_30).toNatClampNeg (if (0 : Int32) < ((f_b1_30 ((6 : Int32) + y2_30).toNatClampNeg) - (1 : Int32)) then ((f_b1_30 ((6 : Int32) + y2_30).toNatClampNeg) - (1 : Int32)) else (0 : Int32)))), (q_asked, aI cT 7 f_asked_2), (q_rule, aB cT 40 f_rule), (q_hold, aI cT 6 f_hold_2)]) rfl dX8_goHour_67 (fun H locs hP hD hS => ?_)
      exact L68 y2_30 x_dropped_30 (upd f_b1_30 ((6 : Int32) + y2_30).toNatClampNeg (if (0 : Int32) < ((f_b1_30 ((6 : Int32) + y2_30).toNatClampNeg) - (1 : Int32)) then ((f_b1_30 ((6 : Int32) + y2_30).toNatClampNeg) - (1 : Int32)) else (0 : Int32))) _ _ _ hg hP hD hS hl
  have L2 : ∀ (n2 : Nat) (y2_2 : Int32) (x_read_2 : Value) (x_length_2 : Int32) (x_top_2 : Int32) (x_at_2 : Int32) (x_wrong_2 : Int32) (x_isAsked_2 : Int32) (f_asked_2 : Nat → Int32) (f_hold_2 : Nat → Int32) (H : Heap) (locs : List Loc) (ls : Array Slot), p_X8_goHour_2 F x_arches x_cats q_rule x_ruleSize x_dropped n_b1 f_b1 f_rule Post n2 y2_2 x_read_2 x_length_2 x_top_2 x_at_2 x_wrong_2 x_isAsked_2 f_asked_2 f_hold_2 → va_P D cls9 [(h, oX8 w_now (.int x_arches) (.int x_cats) w_text (.int x_typed) w_row (.int x_rowMany) (.int x_thrown) x_read_2 (.int x_length_2) (.int x_top_2) (.int x_at_2) (.int x_wrong_2) w_told (.ref q_rule) w_otherRule (.int x_ruleSize) (.int x_isAsked_2) (.ref q_asked) w_undos (.int x_undoMany) w_aside w_then (.ref q_hold) (.int x_dropped) w_acts w_guarded w_train (.int x_trolleyEnd) w_feltOf w_feltBy (.int x_feltMany) w_many w_heardOf w_heardBy (.int x_heardMany) w_worth (.int x_drawn) (.int x_came) w_kept w_isKept w_keptCame), (b1, aI cT n_b1 f_b1), (q_asked, aI cT 7 f_asked_2), (q_rule, aB cT 40 f_rule), (q_hold, aI cT 6 f_hold_2)] H → va_D A [(h, oX8 w_now (.int x_arches) (.int x_cats) w_text (.int x_typed) w_row (.int x_rowMany) (.int x_thrown) x_read_2 (.int x_length_2) (.int x_top_2) (.int x_at_2) (.int x_wrong_2) w_told (.ref q_rule) w_otherRule (.int x_ruleSize) (.int x_isAsked_2) (.ref q_asked) w_undos (.int x_undoMany) w_aside w_then (.ref q_hold) (.int x_dropped) w_acts w_guarded w_train (.int x_trolleyEnd) w_feltOf w_feltBy (.int x_feltMany) w_many w_heardOf w_heardBy (.int x_heardMany) w_worth (.int x_drawn) (.int x_came) w_kept w_isKept w_keptCame), (b1, aI cT n_b1 f_b1), (q_asked, aI cT 7 f_asked_2), (q_rule, aB cT 40 f_rule), (q_hold, aI cT 6 f_hold_2)] → va_S A s.heap H locs → lv_has ls 3 [(0, .ref h), (1, .ref b1), (2, .int y2_2)] → W p l e (rmO 325 10174 0 0) s m ([.ref h, .ref b1] : List Value).toArray below meth c H locs 0 0 (MQ below (va_Qv Post (cB D A (fun (u : (Value × Int32 × Int32 × Int32 × Int32 × Int32 × Int32 × (Nat → Int32) × (Nat → Int32) × (Nat → Int32))) => [(h, oX8 w_now (.int x_arches) (.int x_cats) w_text (.int x_typed) w_row (.int x_rowMany) (.int x_thrown) u.1 (.int u.2.1) (.int u.2.2.1) (.int u.2.2.2.1) (.int u.2.2.2.2.1) w_told (.ref q_rule) w_otherRule (.int x_ruleSize) (.int u.2.2.2.2.2.1) (.ref q_asked) w_undos (.int x_undoMany) w_aside w_then (.ref q_hold) (.int u.2.2.2.2.2.2.1) w_acts w_guarded w_train (.int x_trolleyEnd) w_feltOf w_feltBy (.int x_feltMany) w_many w_heardOf w_heardBy (.int x_heardMany) w_worth (.int x_drawn) (.int x_came) w_kept w_isKept w_keptCame), (b1, aI cT n_b1 u.2.2.2.2.2.2.2.1), (q_asked, aI cT 7 u.2.2.2.2.2.2.2.2.1), (q_rule, aB cT 40 f_rule), (q_hold, aI cT 6 u.2.2.2.2.2.2.2.2.2)])) A) ([.ref h, .ref b1] : List Value).toArray s 0 0 A) (F0 m 2 ls []) := by
    intro n2
    induction n2 with
    | zero =>
      intro y2_2 x_read_2 x_length_2 x_top_2 x_at_2 x_wrong_2 x_isAsked_2 f_asked_2 f_hold_2 H locs ls hg hP hD hS hl
      exact False.elim hg
    | succ n2 ih2 =>
      intro y2_2 x_read_2 x_length_2 x_top_2 x_at_2 x_wrong_2 x_isAsked_2 f_asked_2 f_hold_2 H locs ls hg hP hD hS hl
      rw [p_X8_goHour_2_s] at hg
      refine lv_iload_n hx hb dX8_goHour_2 rfl (lv_at hl 2 rfl) ?_
      refine lv_aload_n hx hb dX8_goHour_3 rfl (lv_at hl 0 rfl) ?_
      refine gf_X8_89 C0 hP 0 rfl rfl dX8_goHour_4 ?_
      refine lv_icmp_ge (tgt := 28) hx hb dX8_goHour_7 (by decide) (fun c_7 => ?_) (fun c_7 => ?_)
      · have hg := hg.1 c_7
        refine lv_iconst (v := (0 : Int32)) hx hb dX8_goHour_28 (by decide) ?_
        refine lv_istore_n (lv' := [(2, .int (0 : Int32)), (0, .ref h), (1, .ref b1)]) hx hb dX8_goHour_29 rfl hl (by decide) rfl (fun ls hl => ?_)
        exact L30 x_read_2 x_length_2 x_top_2 x_at_2 x_wrong_2 x_isAsked_2 f_asked_2 f_hold_2 F (0 : Int32) x_dropped f_b1 _ _ _ hg hP hD hS (lv_sub hl [1, 2, 0] rfl)
      have hg := hg.2 c_7
      refine lv_aload_n hx hb dX8_goHour_10 rfl (lv_at hl 0 rfl) ?_
      refine gf_X8_42 C0 hP 0 rfl rfl dX8_goHour_11 ?_
      refine lv_iload_n hx hb dX8_goHour_14 rfl (lv_at hl 2 rfl) ?_
      refine lv_aload_n hx hb dX8_goHour_15 rfl (lv_at hl 0 rfl) ?_
      refine lv_aload_n hx hb dX8_goHour_16 rfl (lv_at hl 1 rfl) ?_
      refine lv_iload_n hx hb dX8_goHour_17 rfl (lv_at hl 2 rfl) ?_
      refine k_Vi (rest := [.int y2_2, .ref q_hold]) (wr := [(q_hold, aI cT 6 f_hold_2)]) (w2 := fun u_18 => [(q_hold, aI cT 6 f_hold_2), (h, oX8 w_now (.int x_arches) (.int x_cats) w_text (.int x_typed) w_row (.int x_rowMany) (.int x_thrown) u_18.1 (.int u_18.2.1) (.int u_18.2.2.1) (.int u_18.2.2.2.1) (.int u_18.2.2.2.2.1) w_told (.ref q_rule) w_otherRule (.int x_ruleSize) (.int u_18.2.2.2.2.2.1) (.ref q_asked) w_undos (.int x_undoMany) w_aside w_then (.ref q_hold) (.int x_dropped) w_acts w_guarded w_train (.int x_trolleyEnd) w_feltOf w_feltBy (.int x_feltMany) w_many w_heardOf w_heardBy (.int x_heardMany) w_worth (.int x_drawn) (.int x_came) w_kept w_isKept w_keptCame), (b1, aI cT n_b1 f_b1), (q_asked, aI cT 7 u_18.2.2.2.2.2.2), (q_rule, aB cT 40 f_rule)]) C0 lk_X8_221 (c_X8_holdOf l D cT F h b1 y2_2 w_now x_arches x_cats w_text x_typed w_row x_rowMany x_thrown x_read_2 x_length_2 x_top_2 x_at_2 x_wrong_2 w_told q_rule w_otherRule x_ruleSize x_isAsked_2 q_asked w_undos x_undoMany w_aside w_then (.ref q_hold) x_dropped w_acts w_guarded w_train x_trolleyEnd w_feltOf w_feltBy x_feltMany w_many w_heardOf w_heardBy x_heardMany w_worth x_drawn x_came w_kept w_isKept w_keptCame n_b1 f_b1 f_asked_2 f_rule _ hg) hP hD hS hA [0, 1, 2, 3] [4] (by decide +kernel) rfl rfl (fun _ => rfl) rfl rfl ⟨Nat.le_of_ble_eq_true rfl, Nat.le_of_ble_eq_true rfl⟩ rfl hl.1 rfl (Nat.le_of_ble_eq_true rfl) dX8_goHour_18 ⟨Nat.le_of_ble_eq_true rfl, Nat.le_of_ble_eq_true rfl⟩ ?_
      intro r_18 u_18 H locs hg hP hD hS
      obtain ⟨g_21, hg⟩ := hg
      refine k_iast C0 hP hD hS 0 rfl g_21 (ws' := [(q_hold, aI cT 6 (upd f_hold_2 y2_2.toNatClampNeg r_18)), (h, oX8 w_now (.int x_arches) (.int x_cats) w_text (.int x_typed) w_row (.int x_rowMany) (.int x_thrown) u_18.1 (.int u_18.2.1) (.int u_18.2.2.1) (.int u_18.2.2.2.1) (.int u_18.2.2.2.2.1) w_told (.ref q_rule) w_otherRule (.int x_ruleSize) (.int u_18.2.2.2.2.2.1) (.ref q_asked) w_undos (.int x_undoMany) w_aside w_then (.ref q_hold) (.int x_dropped) w_acts w_guarded w_train (.int x_trolleyEnd) w_feltOf w_feltBy (.int x_feltMany) w_many w_heardOf w_heardBy (.int x_heardMany) w_worth (.int x_drawn) (.int x_came) w_kept w_isKept w_keptCame), (b1, aI cT n_b1 f_b1), (q_asked, aI cT 7 u_18.2.2.2.2.2.2), (q_rule, aB cT 40 f_rule)]) rfl dX8_goHour_21 (fun H locs hP hD hS => ?_)
      refine lv_iinc (v := (y2_2 + (1 : Int32))) (lv' := [(2, .int (y2_2 + (1 : Int32))), (0, .ref h), (1, .ref b1)]) hx hb dX8_goHour_22 hl (k := 2) rfl rfl (by decide) rfl (fun ls hl => ?_)
      refine lv_goto (tgt := 2) hx hb dX8_goHour_25 (by decide) ?_
      exact ih2 (y2_2 + (1 : Int32)) u_18.1 u_18.2.1 u_18.2.2.1 u_18.2.2.2.1 u_18.2.2.2.2.1 u_18.2.2.2.2.2.1 u_18.2.2.2.2.2.2 (upd f_hold_2 y2_2.toNatClampNeg r_18) _ _ _ hg (subP hP [1, 2, 3, 4, 0] rfl) (hD.sub [1, 2, 3, 4, 0] (nd2_ok _ (by decide +kernel)) rfl) hS (lv_sub hl [1, 2, 0] rfl)
  unfold p_X8_goHour at hg
  refine lv_iconst (v := (0 : Int32)) hx hb dX8_goHour_0 (by decide) ?_
  refine lv_istore_n (lv' := [(2, .int (0 : Int32)), (0, .ref h), (1, .ref b1)]) hx hb dX8_goHour_1 rfl hl (by decide) rfl (fun ls hl => ?_)
  exact L2 F (0 : Int32) w_read x_length x_top x_at x_wrong x_isAsked f_asked f_hold _ _ _ hg hP hD hS (lv_sub hl [1, 2, 0] rfl)
theorem dX8_goHours_0 : decode cX8_goHours 0 = .ok (.aload_n 0, 1) := by decide +kernel
theorem dX8_goHours_1 : decode cX8_goHours 1 = .ok (.iconst 0, 1) := by decide +kernel
theorem dX8_goHours_2 : decode cX8_goHours 2 = .ok (.putfield 235, 3) := by decide +kernel
theorem dX8_goHours_5 : decode cX8_goHours 5 = .ok (.iconst 0, 1) := by decide +kernel
theorem dX8_goHours_6 : decode cX8_goHours 6 = .ok (.istore_n 3, 1) := by decide +kernel
theorem dX8_goHours_7 : decode cX8_goHours 7 = .ok (.iload_n 3, 1) := by decide +kernel
theorem dX8_goHours_8 : decode cX8_goHours 8 = .ok (.iload_n 2, 1) := by decide +kernel
theorem dX8_goHours_9 : decode cX8_goHours 9 = .ok (.if_icmp .ge 14, 3) := by decide +kernel
theorem dX8_goHours_12 : decode cX8_goHours 12 = .ok (.aload_n 0, 1) := by decide +kernel
theorem dX8_goHours_13 : decode cX8_goHours 13 = .ok (.aload_n 1, 1) := by decide +kernel
theorem dX8_goHours_14 : decode cX8_goHours 14 = .ok (.invokevirtual 238, 3) := by decide +kernel
theorem dX8_goHours_17 : decode cX8_goHours 17 = .ok (.iinc 3 1, 3) := by decide +kernel
theorem dX8_goHours_20 : decode cX8_goHours 20 = .ok (.goto (-13), 3) := by decide +kernel
theorem dX8_goHours_23 : decode cX8_goHours 23 = .ok (.return_, 1) := by decide +kernel
noncomputable def p_X8_goHours_7 (F : Nat) (p2 : Int32) (x_arches : Int32) (x_cats : Int32) (q_rule : Nat) (x_ruleSize : Int32) (n_b1 : Nat) (f_rule : Nat → Int32) (Post : (Value × Int32 × Int32 × Int32 × Int32 × Int32 × Int32 × (Nat → Int32) × (Nat → Int32) × (Nat → Int32)) → Prop) (n : Nat) : Int32 → Value → Int32 → Int32 → Int32 → Int32 → Int32 → Int32 → (Nat → Int32) → (Nat → Int32) → (Nat → Int32) → Prop := Nat.rec (motive := fun _ => Int32 → Value → Int32 → Int32 → Int32 → Int32 → Int32 → Int32 → (Nat → Int32) → (Nat → Int32) → (Nat → Int32) → Prop) (fun _ _ _ _ _ _ _ _ _ _ _ => False) (fun _ k7 => fun (y3_7 : Int32) (x_read_7 : Value) (x_length_7 : Int32) (x_top_7 : Int32) (x_at_7 : Int32) (x_wrong_7 : Int32) (x_isAsked_7 : Int32) (x_dropped_7 : Int32) (f_b1_7 : Nat → Int32) (f_asked_7 : Nat → Int32) (f_hold_7 : Nat → Int32) => ((p2 ≤ y3_7 → (Post (x_read_7, x_length_7, x_top_7, x_at_7, x_wrong_7, x_isAsked_7, x_dropped_7, f_b1_7, f_asked_7, f_hold_7))) ∧ (¬ p2 ≤ y3_7 → (p_X8_goHour F x_arches x_cats x_read_7 x_length_7 x_top_7 x_at_7 x_wrong_7 q_rule x_ruleSize x_isAsked_7 x_dropped_7 n_b1 f_b1_7 f_asked_7 f_rule f_hold_7 (fun (u_14 : (Value × Int32 × Int32 × Int32 × Int32 × Int32 × Int32 × (Nat → Int32) × (Nat → Int32) × (Nat → Int32))) => (k7 (y3_7 + (1 : Int32)) u_14.1 u_14.2.1 u_14.2.2.1 u_14.2.2.2.1 u_14.2.2.2.2.1 u_14.2.2.2.2.2.1 u_14.2.2.2.2.2.2.1 u_14.2.2.2.2.2.2.2.1 u_14.2.2.2.2.2.2.2.2.1 u_14.2.2.2.2.2.2.2.2.2)))))) n
theorem p_X8_goHours_7_s (F : Nat) (p2 : Int32) (x_arches : Int32) (x_cats : Int32) (q_rule : Nat) (x_ruleSize : Int32) (n_b1 : Nat) (f_rule : Nat → Int32) (Post : (Value × Int32 × Int32 × Int32 × Int32 × Int32 × Int32 × (Nat → Int32) × (Nat → Int32) × (Nat → Int32)) → Prop) (n : Nat) (y3_7 : Int32) (x_read_7 : Value) (x_length_7 : Int32) (x_top_7 : Int32) (x_at_7 : Int32) (x_wrong_7 : Int32) (x_isAsked_7 : Int32) (x_dropped_7 : Int32) (f_b1_7 : Nat → Int32) (f_asked_7 : Nat → Int32) (f_hold_7 : Nat → Int32) : p_X8_goHours_7 F p2 x_arches x_cats q_rule x_ruleSize n_b1 f_rule Post (n + 1) y3_7 x_read_7 x_length_7 x_top_7 x_at_7 x_wrong_7 x_isAsked_7 x_dropped_7 f_b1_7 f_asked_7 f_hold_7 = ((p2 ≤ y3_7 → (Post (x_read_7, x_length_7, x_top_7, x_at_7, x_wrong_7, x_isAsked_7, x_dropped_7, f_b1_7, f_asked_7, f_hold_7))) ∧ (¬ p2 ≤ y3_7 → (p_X8_goHour F x_arches x_cats x_read_7 x_length_7 x_top_7 x_at_7 x_wrong_7 q_rule x_ruleSize x_isAsked_7 x_dropped_7 n_b1 f_b1_7 f_asked_7 f_rule f_hold_7 (fun (u_14 : (Value × Int32 × Int32 × Int32 × Int32 × Int32 × Int32 × (Nat → Int32) × (Nat → Int32) × (Nat → Int32))) => ((p_X8_goHours_7 F p2 x_arches x_cats q_rule x_ruleSize n_b1 f_rule Post n) (y3_7 + (1 : Int32)) u_14.1 u_14.2.1 u_14.2.2.1 u_14.2.2.2.1 u_14.2.2.2.2.1 u_14.2.2.2.2.2.1 u_14.2.2.2.2.2.2.1 u_14.2.2.2.2.2.2.2.1 u_14.2.2.2.2.2.2.2.2.1 u_14.2.2.2.2.2.2.2.2.2))))) := rfl
def p_X8_goHours (F : Nat) (p2 : Int32) (x_arches : Int32) (x_cats : Int32) (w_read : Value) (x_length : Int32) (x_top : Int32) (x_at : Int32) (x_wrong : Int32) (q_rule : Nat) (x_ruleSize : Int32) (x_isAsked : Int32) (n_b1 : Nat) (f_b1 : Nat → Int32) (f_asked : Nat → Int32) (f_rule : Nat → Int32) (f_hold : Nat → Int32) (Post : (Value × Int32 × Int32 × Int32 × Int32 × Int32 × Int32 × (Nat → Int32) × (Nat → Int32) × (Nat → Int32)) → Prop) : Prop := (p_X8_goHours_7 F p2 x_arches x_cats q_rule x_ruleSize n_b1 f_rule Post F (0 : Int32) w_read x_length x_top x_at x_wrong x_isAsked (0 : Int32) f_b1 f_asked f_hold)
set_option maxHeartbeats 4000000 in
set_option maxRecDepth 100000 in
theorem c_X8_goHours (l : Launch) (D : va_G) (cT : Nat → ClassId) (F : Nat) (h : Nat) (b1 : Nat) (p2 : Int32) (w_now : Value) (x_arches : Int32) (x_cats : Int32) (w_text : Value) (x_typed : Int32) (w_row : Value) (x_rowMany : Int32) (x_thrown : Int32) (w_read : Value) (x_length : Int32) (x_top : Int32) (x_at : Int32) (x_wrong : Int32) (w_told : Value) (q_rule : Nat) (w_otherRule : Value) (x_ruleSize : Int32) (x_isAsked : Int32) (q_asked : Nat) (w_undos : Value) (x_undoMany : Int32) (w_aside : Value) (w_then : Value) (q_hold : Nat) (x_dropped : Int32) (w_acts : Value) (w_guarded : Value) (w_train : Value) (x_trolleyEnd : Int32) (w_feltOf : Value) (w_feltBy : Value) (x_feltMany : Int32) (w_many : Value) (w_heardOf : Value) (w_heardBy : Value) (x_heardMany : Int32) (w_worth : Value) (x_drawn : Int32) (x_came : Int32) (w_kept : Value) (w_isKept : Value) (w_keptCame : Value) (n_b1 : Nat) (f_b1 : Nat → Int32) (f_asked : Nat → Int32) (f_rule : Nat → Int32) (f_hold : Nat → Int32) (Post : (Value × Int32 × Int32 × Int32 × Int32 × Int32 × Int32 × (Nat → Int32) × (Nat → Int32) × (Nat → Int32)) → Prop) (hg : p_X8_goHours F p2 x_arches x_cats w_read x_length x_top x_at x_wrong q_rule x_ruleSize x_isAsked n_b1 f_b1 f_asked f_rule f_hold Post) : MWv l D cT yX8_goHours cX8_goHours 4 none 326 10196 0 0 [.ref h, .ref b1, .int p2] [(h, oX8 w_now (.int x_arches) (.int x_cats) w_text (.int x_typed) w_row (.int x_rowMany) (.int x_thrown) w_read (.int x_length) (.int x_top) (.int x_at) (.int x_wrong) w_told (.ref q_rule) w_otherRule (.int x_ruleSize) (.int x_isAsked) (.ref q_asked) w_undos (.int x_undoMany) w_aside w_then (.ref q_hold) (.int x_dropped) w_acts w_guarded w_train (.int x_trolleyEnd) w_feltOf w_feltBy (.int x_feltMany) w_many w_heardOf w_heardBy (.int x_heardMany) w_worth (.int x_drawn) (.int x_came) w_kept w_isKept w_keptCame), (b1, aI cT n_b1 f_b1), (q_asked, aI cT 7 f_asked), (q_rule, aB cT 40 f_rule), (q_hold, aI cT 6 f_hold)] Post (fun (u : (Value × Int32 × Int32 × Int32 × Int32 × Int32 × Int32 × (Nat → Int32) × (Nat → Int32) × (Nat → Int32))) => [(h, oX8 w_now (.int x_arches) (.int x_cats) w_text (.int x_typed) w_row (.int x_rowMany) (.int x_thrown) u.1 (.int u.2.1) (.int u.2.2.1) (.int u.2.2.2.1) (.int u.2.2.2.2.1) w_told (.ref q_rule) w_otherRule (.int x_ruleSize) (.int u.2.2.2.2.2.1) (.ref q_asked) w_undos (.int x_undoMany) w_aside w_then (.ref q_hold) (.int u.2.2.2.2.2.2.1) w_acts w_guarded w_train (.int x_trolleyEnd) w_feltOf w_feltBy (.int x_feltMany) w_many w_heardOf w_heardBy (.int x_heardMany) w_worth (.int x_drawn) (.int x_came) w_kept w_isKept w_keptCame), (b1, aI cT n_b1 u.2.2.2.2.2.2.2.1), (q_asked, aI cT 7 u.2.2.2.2.2.2.2.2.1), (q_rule, aB cT 40 f_rule), (q_hold, aI cT 6 u.2.2.2.2.2.2.2.2.2)]) := by
  refine MWv.of (by decide) (Nat.le_of_ble_eq_true rfl) ?_
  intro p e s m below meth c A hA C0 hnm hr hP hD ls hl
  have hl : lv_has ls 4 [(0, .ref h), (1, .ref b1), (2, .int p2)] := hl
  have hx := C0.x
  have hb := C0.b
  have hS : va_S A s.heap s.heap [] := va_S.rf
  have hP : va_P D cls9 [(h, oX8 w_now (.int x_arches) (.int x_cats) w_text (.int x_typed) w_row (.int x_rowMany) (.int x_thrown) w_read (.int x_length) (.int x_top) (.int x_at) (.int x_wrong) w_told (.ref q_rule) w_otherRule (.int x_ruleSize) (.int x_isAsked) (.ref q_asked) w_undos (.int x_undoMany) w_aside w_then (.ref q_hold) (.int x_dropped) w_acts w_guarded w_train (.int x_trolleyEnd) w_feltOf w_feltBy (.int x_feltMany) w_many w_heardOf w_heardBy (.int x_heardMany) w_worth (.int x_drawn) (.int x_came) w_kept w_isKept w_keptCame), (b1, aI cT n_b1 f_b1), (q_asked, aI cT 7 f_asked), (q_rule, aB cT 40 f_rule), (q_hold, aI cT 6 f_hold)] s.heap := hP
  have hD : va_D A [(h, oX8 w_now (.int x_arches) (.int x_cats) w_text (.int x_typed) w_row (.int x_rowMany) (.int x_thrown) w_read (.int x_length) (.int x_top) (.int x_at) (.int x_wrong) w_told (.ref q_rule) w_otherRule (.int x_ruleSize) (.int x_isAsked) (.ref q_asked) w_undos (.int x_undoMany) w_aside w_then (.ref q_hold) (.int x_dropped) w_acts w_guarded w_train (.int x_trolleyEnd) w_feltOf w_feltBy (.int x_feltMany) w_many w_heardOf w_heardBy (.int x_heardMany) w_worth (.int x_drawn) (.int x_came) w_kept w_isKept w_keptCame), (b1, aI cT n_b1 f_b1), (q_asked, aI cT 7 f_asked), (q_rule, aB cT 40 f_rule), (q_hold, aI cT 6 f_hold)] := hD
  have L7 : ∀ (n7 : Nat) (y3_7 : Int32) (x_read_7 : Value) (x_length_7 : Int32) (x_top_7 : Int32) (x_at_7 : Int32) (x_wrong_7 : Int32) (x_isAsked_7 : Int32) (x_dropped_7 : Int32) (f_b1_7 : Nat → Int32) (f_asked_7 : Nat → Int32) (f_hold_7 : Nat → Int32) (H : Heap) (locs : List Loc) (ls : Array Slot), p_X8_goHours_7 F p2 x_arches x_cats q_rule x_ruleSize n_b1 f_rule Post n7 y3_7 x_read_7 x_length_7 x_top_7 x_at_7 x_wrong_7 x_isAsked_7 x_dropped_7 f_b1_7 f_asked_7 f_hold_7 → va_P D cls9 [(h, oX8 w_now (.int x_arches) (.int x_cats) w_text (.int x_typed) w_row (.int x_rowMany) (.int x_thrown) x_read_7 (.int x_length_7) (.int x_top_7) (.int x_at_7) (.int x_wrong_7) w_told (.ref q_rule) w_otherRule (.int x_ruleSize) (.int x_isAsked_7) (.ref q_asked) w_undos (.int x_undoMany) w_aside w_then (.ref q_hold) (.int x_dropped_7) w_acts w_guarded w_train (.int x_trolleyEnd) w_feltOf w_feltBy (.int x_feltMany) w_many w_heardOf w_heardBy (.int x_heardMany) w_worth (.int x_drawn) (.int x_came) w_kept w_isKept w_keptCame), (b1, aI cT n_b1 f_b1_7), (q_asked, aI cT 7 f_asked_7), (q_rule, aB cT 40 f_rule), (q_hold, aI cT 6 f_hold_7)] H → va_D A [(h, oX8 w_now (.int x_arches) (.int x_cats) w_text (.int x_typed) w_row (.int x_rowMany) (.int x_thrown) x_read_7 (.int x_length_7) (.int x_top_7) (.int x_at_7) (.int x_wrong_7) w_told (.ref q_rule) w_otherRule (.int x_ruleSize) (.int x_isAsked_7) (.ref q_asked) w_undos (.int x_undoMany) w_aside w_then (.ref q_hold) (.int x_dropped_7) w_acts w_guarded w_train (.int x_trolleyEnd) w_feltOf w_feltBy (.int x_feltMany) w_many w_heardOf w_heardBy (.int x_heardMany) w_worth (.int x_drawn) (.int x_came) w_kept w_isKept w_keptCame), (b1, aI cT n_b1 f_b1_7), (q_asked, aI cT 7 f_asked_7), (q_rule, aB cT 40 f_rule), (q_hold, aI cT 6 f_hold_7)] → va_S A s.heap H locs → lv_has ls 4 [(0, .ref h), (1, .ref b1), (2, .int p2), (3, .int y3_7)] → W p l e (rmO 326 10196 0 0) s m ([.ref h, .ref b1, .int p2] : List Value).toArray below meth c H locs 0 0 (MQ below (va_Qv Post (cB D A (fun (u : (Value × Int32 × Int32 × Int32 × Int32 × Int32 × Int32 × (Nat → Int32) × (Nat → Int32) × (Nat → Int32))) => [(h, oX8 w_now (.int x_arches) (.int x_cats) w_text (.int x_typed) w_row (.int x_rowMany) (.int x_thrown) u.1 (.int u.2.1) (.int u.2.2.1) (.int u.2.2.2.1) (.int u.2.2.2.2.1) w_told (.ref q_rule) w_otherRule (.int x_ruleSize) (.int u.2.2.2.2.2.1) (.ref q_asked) w_undos (.int x_undoMany) w_aside w_then (.ref q_hold) (.int u.2.2.2.2.2.2.1) w_acts w_guarded w_train (.int x_trolleyEnd) w_feltOf w_feltBy (.int x_feltMany) w_many w_heardOf w_heardBy (.int x_heardMany) w_worth (.int x_drawn) (.int x_came) w_kept w_isKept w_keptCame), (b1, aI cT n_b1 u.2.2.2.2.2.2.2.1), (q_asked, aI cT 7 u.2.2.2.2.2.2.2.2.1), (q_rule, aB cT 40 f_rule), (q_hold, aI cT 6 u.2.2.2.2.2.2.2.2.2)])) A) ([.ref h, .ref b1, .int p2] : List Value).toArray s 0 0 A) (F0 m 7 ls []) := by
    intro n7
    induction n7 with
    | zero =>
      intro y3_7 x_read_7 x_length_7 x_top_7 x_at_7 x_wrong_7 x_isAsked_7 x_dropped_7 f_b1_7 f_asked_7 f_hold_7 H locs ls hg hP hD hS hl
      exact False.elim hg
    | succ n7 ih7 =>
      intro y3_7 x_read_7 x_length_7 x_top_7 x_at_7 x_wrong_7 x_isAsked_7 x_dropped_7 f_b1_7 f_asked_7 f_hold_7 H locs ls hg hP hD hS hl
      rw [p_X8_goHours_7_s] at hg
      refine lv_iload_n hx hb dX8_goHours_7 rfl (lv_at hl 3 rfl) ?_
      refine lv_iload_n hx hb dX8_goHours_8 rfl (lv_at hl 2 rfl) ?_
      refine lv_icmp_ge (tgt := 23) hx hb dX8_goHours_9 (by decide) (fun c_9 => ?_) (fun c_9 => ?_)
      · have hg := hg.1 c_9
        exact k_vret C0 hr (x_read_7, x_length_7, x_top_7, x_at_7, x_wrong_7, x_isAsked_7, x_dropped_7, f_b1_7, f_asked_7, f_hold_7) hg hP hD hS dX8_goHours_23
      have hg := hg.2 c_9
      refine lv_aload_n hx hb dX8_goHours_12 rfl (lv_at hl 0 rfl) ?_
      refine lv_aload_n hx hb dX8_goHours_13 rfl (lv_at hl 1 rfl) ?_
      refine k_Vv (rest := []) (wr := []) (w2 := fun u_14 => [(h, oX8 w_now (.int x_arches) (.int x_cats) w_text (.int x_typed) w_row (.int x_rowMany) (.int x_thrown) u_14.1 (.int u_14.2.1) (.int u_14.2.2.1) (.int u_14.2.2.2.1) (.int u_14.2.2.2.2.1) w_told (.ref q_rule) w_otherRule (.int x_ruleSize) (.int u_14.2.2.2.2.2.1) (.ref q_asked) w_undos (.int x_undoMany) w_aside w_then (.ref q_hold) (.int u_14.2.2.2.2.2.2.1) w_acts w_guarded w_train (.int x_trolleyEnd) w_feltOf w_feltBy (.int x_feltMany) w_many w_heardOf w_heardBy (.int x_heardMany) w_worth (.int x_drawn) (.int x_came) w_kept w_isKept w_keptCame), (b1, aI cT n_b1 u_14.2.2.2.2.2.2.2.1), (q_asked, aI cT 7 u_14.2.2.2.2.2.2.2.2.1), (q_rule, aB cT 40 f_rule), (q_hold, aI cT 6 u_14.2.2.2.2.2.2.2.2.2)]) C0 lk_X8_238 (c_X8_goHour l D cT F h b1 w_now x_arches x_cats w_text x_typed w_row x_rowMany x_thrown x_read_7 x_length_7 x_top_7 x_at_7 x_wrong_7 w_told q_rule w_otherRule x_ruleSize x_isAsked_7 q_asked w_undos x_undoMany w_aside w_then q_hold x_dropped_7 w_acts w_guarded w_train x_trolleyEnd w_feltOf w_feltBy x_feltMany w_many w_heardOf w_heardBy x_heardMany w_worth x_drawn x_came w_kept w_isKept w_keptCame n_b1 f_b1_7 f_asked_7 f_rule f_hold_7 _ hg) hP hD hS hA [0, 1, 2, 3, 4] [] (by decide +kernel) rfl rfl (fun _ => rfl) rfl rfl ⟨Nat.le_of_ble_eq_true rfl, Nat.le_of_ble_eq_true rfl⟩ rfl hl.1 rfl (Nat.le_of_ble_eq_true rfl) dX8_goHours_14 ⟨Nat.le_of_ble_eq_true rfl, Nat.le_of_ble_eq_true rfl⟩ ?_
      intro u_14 H locs hg hP hD hS
      refine lv_iinc (v := (y3_7 + (1 : Int32))) (lv' := [(3, .int (y3_7 + (1 : Int32))), (0, .ref h), (1, .ref b1), (2, .int p2)]) hx hb dX8_goHours_17 hl (k := 3) rfl rfl (by decide) rfl (fun ls hl => ?_)
      refine lv_goto (tgt := 7) hx hb dX8_goHours_20 (by decide) ?_
      exact ih7 (y3_7 + (1 : Int32)) u_14.1 u_14.2.1 u_14.2.2.1 u_14.2.2.2.1 u_14.2.2.2.2.1 u_14.2.2.2.2.2.1 u_14.2.2.2.2.2.2.1 u_14.2.2.2.2.2.2.2.1 u_14.2.2.2.2.2.2.2.2.1 u_14.2.2.2.2.2.2.2.2.2 _ _ _ hg hP hD hS (lv_sub hl [1, 2, 3, 0] rfl)
  unfold p_X8_goHours at hg
  refine lv_aload_n hx hb dX8_goHours_0 rfl (lv_at hl 0 rfl) ?_
  refine lv_iconst (v := (0 : Int32)) hx hb dX8_goHours_1 (by decide) ?_
  refine pf_X8_235 C0 hP hD hS 0 rfl (Nat.le_of_ble_eq_true rfl) (ws2 := [(h, oX8 w_now (.int x_arches) (.int x_cats) w_text (.int x_typed) w_row (.int x_rowMany) (.int x_thrown) w_read (.int x_length) (.int x_top) (.int x_at) (.int x_wrong) w_told (.ref q_rule) w_otherRule (.int x_ruleSize) (.int x_isAsked) (.ref q_asked) w_undos (.int x_undoMany) w_aside w_then (.ref q_hold) (.int (0 : Int32)) w_acts w_guarded w_train (.int x_trolleyEnd) w_feltOf w_feltBy (.int x_feltMany) w_many w_heardOf w_heardBy (.int x_heardMany) w_worth (.int x_drawn) (.int x_came) w_kept w_isKept w_keptCame), (b1, aI cT n_b1 f_b1), (q_asked, aI cT 7 f_asked), (q_rule, aB cT 40 f_rule), (q_hold, aI cT 6 f_hold)]) rfl dX8_goHours_2 (fun H locs hP hD hS => ?_)
  refine lv_iconst (v := (0 : Int32)) hx hb dX8_goHours_5 (by decide) ?_
  refine lv_istore_n (lv' := [(3, .int (0 : Int32)), (0, .ref h), (1, .ref b1), (2, .int p2)]) hx hb dX8_goHours_6 rfl hl (by decide) rfl (fun ls hl => ?_)
  exact L7 F (0 : Int32) w_read x_length x_top x_at x_wrong x_isAsked (0 : Int32) f_b1 f_asked f_hold _ _ _ hg hP hD hS (lv_sub hl [1, 2, 3, 0] rfl)
theorem dX8_goThen_0 : decode cX8_goThen 0 = .ok (.aload_n 0, 1) := by decide +kernel
theorem dX8_goThen_1 : decode cX8_goThen 1 = .ok (.getfield 9, 3) := by decide +kernel
theorem dX8_goThen_4 : decode cX8_goThen 4 = .ok (.aload_n 0, 1) := by decide +kernel
theorem dX8_goThen_5 : decode cX8_goThen 5 = .ok (.getfield 39, 3) := by decide +kernel
theorem dX8_goThen_8 : decode cX8_goThen 8 = .ok (.iconst 0, 1) := by decide +kernel
theorem dX8_goThen_9 : decode cX8_goThen 9 = .ok (.invokestatic 231, 3) := by decide +kernel
theorem dX8_goThen_12 : decode cX8_goThen 12 = .ok (.aload_n 0, 1) := by decide +kernel
theorem dX8_goThen_13 : decode cX8_goThen 13 = .ok (.aload_n 0, 1) := by decide +kernel
theorem dX8_goThen_14 : decode cX8_goThen 14 = .ok (.getfield 39, 3) := by decide +kernel
theorem dX8_goThen_17 : decode cX8_goThen 17 = .ok (.iload_n 1, 1) := by decide +kernel
theorem dX8_goThen_18 : decode cX8_goThen 18 = .ok (.invokevirtual 242, 3) := by decide +kernel
theorem dX8_goThen_21 : decode cX8_goThen 21 = .ok (.return_, 1) := by decide +kernel
def p_X8_goThen (F : Nat) (p1 : Int32) (x_arches : Int32) (x_cats : Int32) (w_read : Value) (x_length : Int32) (x_top : Int32) (x_at : Int32) (x_wrong : Int32) (q_rule : Nat) (x_ruleSize : Int32) (x_isAsked : Int32) (f_now : Nat → Int32) (f_then : Nat → Int32) (f_asked : Nat → Int32) (f_rule : Nat → Int32) (f_hold : Nat → Int32) (Post : (Value × Int32 × Int32 × Int32 × Int32 × Int32 × Int32 × (Nat → Int32) × (Nat → Int32) × (Nat → Int32)) → Prop) : Prop := (p_X8_lay F (0 : Int32) 47 f_now 47 f_then (fun (u_9 : (Nat → Int32)) => (p_X8_goHours F p1 x_arches x_cats w_read x_length x_top x_at x_wrong q_rule x_ruleSize x_isAsked 47 u_9 f_asked f_rule f_hold (fun (u_18 : (Value × Int32 × Int32 × Int32 × Int32 × Int32 × Int32 × (Nat → Int32) × (Nat → Int32) × (Nat → Int32))) => (Post (u_18.1, u_18.2.1, u_18.2.2.1, u_18.2.2.2.1, u_18.2.2.2.2.1, u_18.2.2.2.2.2.1, u_18.2.2.2.2.2.2.1, u_18.2.2.2.2.2.2.2.1, u_18.2.2.2.2.2.2.2.2.1, u_18.2.2.2.2.2.2.2.2.2))))))
set_option maxHeartbeats 4000000 in
set_option maxRecDepth 100000 in
theorem c_X8_goThen (l : Launch) (D : va_G) (cT : Nat → ClassId) (F : Nat) (h : Nat) (p1 : Int32) (q_now : Nat) (x_arches : Int32) (x_cats : Int32) (w_text : Value) (x_typed : Int32) (w_row : Value) (x_rowMany : Int32) (x_thrown : Int32) (w_read : Value) (x_length : Int32) (x_top : Int32) (x_at : Int32) (x_wrong : Int32) (w_told : Value) (q_rule : Nat) (w_otherRule : Value) (x_ruleSize : Int32) (x_isAsked : Int32) (q_asked : Nat) (w_undos : Value) (x_undoMany : Int32) (w_aside : Value) (q_then : Nat) (q_hold : Nat) (x_dropped : Int32) (w_acts : Value) (w_guarded : Value) (w_train : Value) (x_trolleyEnd : Int32) (w_feltOf : Value) (w_feltBy : Value) (x_feltMany : Int32) (w_many : Value) (w_heardOf : Value) (w_heardBy : Value) (x_heardMany : Int32) (w_worth : Value) (x_drawn : Int32) (x_came : Int32) (w_kept : Value) (w_isKept : Value) (w_keptCame : Value) (f_now : Nat → Int32) (f_then : Nat → Int32) (f_asked : Nat → Int32) (f_rule : Nat → Int32) (f_hold : Nat → Int32) (Post : (Value × Int32 × Int32 × Int32 × Int32 × Int32 × Int32 × (Nat → Int32) × (Nat → Int32) × (Nat → Int32)) → Prop) (hg : p_X8_goThen F p1 x_arches x_cats w_read x_length x_top x_at x_wrong q_rule x_ruleSize x_isAsked f_now f_then f_asked f_rule f_hold Post) : MWv l D cT yX8_goThen cX8_goThen 2 none 327 10219 0 0 [.ref h, .int p1] [(h, oX8 (.ref q_now) (.int x_arches) (.int x_cats) w_text (.int x_typed) w_row (.int x_rowMany) (.int x_thrown) w_read (.int x_length) (.int x_top) (.int x_at) (.int x_wrong) w_told (.ref q_rule) w_otherRule (.int x_ruleSize) (.int x_isAsked) (.ref q_asked) w_undos (.int x_undoMany) w_aside (.ref q_then) (.ref q_hold) (.int x_dropped) w_acts w_guarded w_train (.int x_trolleyEnd) w_feltOf w_feltBy (.int x_feltMany) w_many w_heardOf w_heardBy (.int x_heardMany) w_worth (.int x_drawn) (.int x_came) w_kept w_isKept w_keptCame), (q_now, aI cT 47 f_now), (q_then, aI cT 47 f_then), (q_asked, aI cT 7 f_asked), (q_rule, aB cT 40 f_rule), (q_hold, aI cT 6 f_hold)] Post (fun (u : (Value × Int32 × Int32 × Int32 × Int32 × Int32 × Int32 × (Nat → Int32) × (Nat → Int32) × (Nat → Int32))) => [(h, oX8 (.ref q_now) (.int x_arches) (.int x_cats) w_text (.int x_typed) w_row (.int x_rowMany) (.int x_thrown) u.1 (.int u.2.1) (.int u.2.2.1) (.int u.2.2.2.1) (.int u.2.2.2.2.1) w_told (.ref q_rule) w_otherRule (.int x_ruleSize) (.int u.2.2.2.2.2.1) (.ref q_asked) w_undos (.int x_undoMany) w_aside (.ref q_then) (.ref q_hold) (.int u.2.2.2.2.2.2.1) w_acts w_guarded w_train (.int x_trolleyEnd) w_feltOf w_feltBy (.int x_feltMany) w_many w_heardOf w_heardBy (.int x_heardMany) w_worth (.int x_drawn) (.int x_came) w_kept w_isKept w_keptCame), (q_now, aI cT 47 f_now), (q_then, aI cT 47 u.2.2.2.2.2.2.2.1), (q_asked, aI cT 7 u.2.2.2.2.2.2.2.2.1), (q_rule, aB cT 40 f_rule), (q_hold, aI cT 6 u.2.2.2.2.2.2.2.2.2)]) := by
  refine MWv.of (by decide) (Nat.le_of_ble_eq_true rfl) ?_
  intro p e s m below meth c A hA C0 hnm hr hP hD ls hl
  have hl : lv_has ls 2 [(0, .ref h), (1, .int p1)] := hl
  have hx := C0.x
  have hb := C0.b
  have hS : va_S A s.heap s.heap [] := va_S.rf
  have hP : va_P D cls9 [(h, oX8 (.ref q_now) (.int x_arches) (.int x_cats) w_text (.int x_typed) w_row (.int x_rowMany) (.int x_thrown) w_read (.int x_length) (.int x_top) (.int x_at) (.int x_wrong) w_told (.ref q_rule) w_otherRule (.int x_ruleSize) (.int x_isAsked) (.ref q_asked) w_undos (.int x_undoMany) w_aside (.ref q_then) (.ref q_hold) (.int x_dropped) w_acts w_guarded w_train (.int x_trolleyEnd) w_feltOf w_feltBy (.int x_feltMany) w_many w_heardOf w_heardBy (.int x_heardMany) w_worth (.int x_drawn) (.int x_came) w_kept w_isKept w_keptCame), (q_now, aI cT 47 f_now), (q_then, aI cT 47 f_then), (q_asked, aI cT 7 f_asked), (q_rule, aB cT 40 f_rule), (q_hold, aI cT 6 f_hold)] s.heap := hP
  have hD : va_D A [(h, oX8 (.ref q_now) (.int x_arches) (.int x_cats) w_text (.int x_typed) w_row (.int x_rowMany) (.int x_thrown) w_read (.int x_length) (.int x_top) (.int x_at) (.int x_wrong) w_told (.ref q_rule) w_otherRule (.int x_ruleSize) (.int x_isAsked) (.ref q_asked) w_undos (.int x_undoMany) w_aside (.ref q_then) (.ref q_hold) (.int x_dropped) w_acts w_guarded w_train (.int x_trolleyEnd) w_feltOf w_feltBy (.int x_feltMany) w_many w_heardOf w_heardBy (.int x_heardMany) w_worth (.int x_drawn) (.int x_came) w_kept w_isKept w_keptCame), (q_now, aI cT 47 f_now), (q_then, aI cT 47 f_then), (q_asked, aI cT 7 f_asked), (q_rule, aB cT 40 f_rule), (q_hold, aI cT 6 f_hold)] := hD
  unfold p_X8_goThen at hg
  refine lv_aload_n hx hb dX8_goThen_0 rfl (lv_at hl 0 rfl) ?_
  refine gf_X8_9 C0 hP 0 rfl rfl dX8_goThen_1 ?_
  refine lv_aload_n hx hb dX8_goThen_4 rfl (lv_at hl 0 rfl) ?_
  refine gf_X8_39 C0 hP 0 rfl rfl dX8_goThen_5 ?_
  refine lv_iconst (v := (0 : Int32)) hx hb dX8_goThen_8 (by decide) ?_
  refine k_Sv (rest := []) (wr := [(h, oX8 (.ref q_now) (.int x_arches) (.int x_cats) w_text (.int x_typed) w_row (.int x_rowMany) (.int x_thrown) w_read (.int x_length) (.int x_top) (.int x_at) (.int x_wrong) w_told (.ref q_rule) w_otherRule (.int x_ruleSize) (.int x_isAsked) (.ref q_asked) w_undos (.int x_undoMany) w_aside (.ref q_then) (.ref q_hold) (.int x_dropped) w_acts w_guarded w_train (.int x_trolleyEnd) w_feltOf w_feltBy (.int x_feltMany) w_many w_heardOf w_heardBy (.int x_heardMany) w_worth (.int x_drawn) (.int x_came) w_kept w_isKept w_keptCame), (q_asked, aI cT 7 f_asked), (q_rule, aB cT 40 f_rule), (q_hold, aI cT 6 f_hold)]) (w2 := fun u_9 => [(h, oX8 (.ref q_now) (.int x_arches) (.int x_cats) w_text (.int x_typed) w_row (.int x_rowMany) (.int x_thrown) w_read (.int x_length) (.int x_top) (.int x_at) (.int x_wrong) w_told (.ref q_rule) w_otherRule (.int x_ruleSize) (.int x_isAsked) (.ref q_asked) w_undos (.int x_undoMany) w_aside (.ref q_then) (.ref q_hold) (.int x_dropped) w_acts w_guarded w_train (.int x_trolleyEnd) w_feltOf w_feltBy (.int x_feltMany) w_many w_heardOf w_heardBy (.int x_heardMany) w_worth (.int x_drawn) (.int x_came) w_kept w_isKept w_keptCame), (q_asked, aI cT 7 f_asked), (q_rule, aB cT 40 f_rule), (q_hold, aI cT 6 f_hold), (q_now, aI cT 47 f_now), (q_then, aI cT 47 u_9)]) C0 lk_X8_231 (c_X8_lay l D cT F q_now q_then (0 : Int32) 47 f_now 47 f_then _ hg) hP hD hS hA [1, 2] [0, 3, 4, 5] (by decide +kernel) rfl rfl (fun _ => rfl) ⟨Nat.le_of_ble_eq_true rfl, Nat.le_of_ble_eq_true rfl⟩ rfl hl.1 rfl (Nat.le_of_ble_eq_true rfl) dX8_goThen_9 ⟨Nat.le_of_ble_eq_true rfl, Nat.le_of_ble_eq_true rfl⟩ ?_
  intro u_9 H locs hg hP hD hS
  refine lv_aload_n hx hb dX8_goThen_12 rfl (lv_at hl 0 rfl) ?_
  refine lv_aload_n hx hb dX8_goThen_13 rfl (lv_at hl 0 rfl) ?_
  refine gf_X8_39 C0 hP 0 rfl rfl dX8_goThen_14 ?_
  refine lv_iload_n hx hb dX8_goThen_17 rfl (lv_at hl 1 rfl) ?_
  refine k_Vv (rest := []) (wr := [(q_now, aI cT 47 f_now)]) (w2 := fun u_18 => [(q_now, aI cT 47 f_now), (h, oX8 (.ref q_now) (.int x_arches) (.int x_cats) w_text (.int x_typed) w_row (.int x_rowMany) (.int x_thrown) u_18.1 (.int u_18.2.1) (.int u_18.2.2.1) (.int u_18.2.2.2.1) (.int u_18.2.2.2.2.1) w_told (.ref q_rule) w_otherRule (.int x_ruleSize) (.int u_18.2.2.2.2.2.1) (.ref q_asked) w_undos (.int x_undoMany) w_aside (.ref q_then) (.ref q_hold) (.int u_18.2.2.2.2.2.2.1) w_acts w_guarded w_train (.int x_trolleyEnd) w_feltOf w_feltBy (.int x_feltMany) w_many w_heardOf w_heardBy (.int x_heardMany) w_worth (.int x_drawn) (.int x_came) w_kept w_isKept w_keptCame), (q_then, aI cT 47 u_18.2.2.2.2.2.2.2.1), (q_asked, aI cT 7 u_18.2.2.2.2.2.2.2.2.1), (q_rule, aB cT 40 f_rule), (q_hold, aI cT 6 u_18.2.2.2.2.2.2.2.2.2)]) C0 lk_X8_242 (c_X8_goHours l D cT F h q_then p1 (.ref q_now) x_arches x_cats w_text x_typed w_row x_rowMany x_thrown w_read x_length x_top x_at x_wrong w_told q_rule w_otherRule x_ruleSize x_isAsked q_asked w_undos x_undoMany w_aside (.ref q_then) q_hold x_dropped w_acts w_guarded w_train x_trolleyEnd w_feltOf w_feltBy x_feltMany w_many w_heardOf w_heardBy x_heardMany w_worth x_drawn x_came w_kept w_isKept w_keptCame 47 u_9 f_asked f_rule f_hold _ hg) hP hD hS hA [0, 5, 1, 2, 3] [4] (by decide +kernel) rfl rfl (fun _ => rfl) rfl rfl ⟨Nat.le_of_ble_eq_true rfl, Nat.le_of_ble_eq_true rfl⟩ rfl hl.1 rfl (Nat.le_of_ble_eq_true rfl) dX8_goThen_18 ⟨Nat.le_of_ble_eq_true rfl, Nat.le_of_ble_eq_true rfl⟩ ?_
  intro u_18 H locs hg hP hD hS
  exact k_vret C0 hr (u_18.1, u_18.2.1, u_18.2.2.1, u_18.2.2.2.1, u_18.2.2.2.2.1, u_18.2.2.2.2.2.1, u_18.2.2.2.2.2.2.1, u_18.2.2.2.2.2.2.2.1, u_18.2.2.2.2.2.2.2.2.1, u_18.2.2.2.2.2.2.2.2.2) hg (subP hP [1, 0, 2, 3, 4, 5] rfl) (hD.sub [1, 0, 2, 3, 4, 5] (nd2_ok _ (by decide +kernel)) rfl) hS dX8_goThen_21
theorem dX8_hours_0 : decode cX8_hours 0 = .ok (.aload_n 0, 1) := by decide +kernel
theorem dX8_hours_1 : decode cX8_hours 1 = .ok (.iconst 0, 1) := by decide +kernel
theorem dX8_hours_2 : decode cX8_hours 2 = .ok (.putfield 82, 3) := by decide +kernel
theorem dX8_hours_5 : decode cX8_hours 5 = .ok (.iload_n 1, 1) := by decide +kernel
theorem dX8_hours_6 : decode cX8_hours 6 = .ok (.iconst 0, 1) := by decide +kernel
theorem dX8_hours_7 : decode cX8_hours 7 = .ok (.bipush 60, 2) := by decide +kernel
theorem dX8_hours_9 : decode cX8_hours 9 = .ok (.invokestatic 92, 3) := by decide +kernel
theorem dX8_hours_12 : decode cX8_hours 12 = .ok (.ifCond .ne 5, 3) := by decide +kernel
theorem dX8_hours_15 : decode cX8_hours 15 = .ok (.iconst (-1), 1) := by decide +kernel
theorem dX8_hours_16 : decode cX8_hours 16 = .ok (.ireturn, 1) := by decide +kernel
theorem dX8_hours_17 : decode cX8_hours 17 = .ok (.iload_n 1, 1) := by decide +kernel
theorem dX8_hours_18 : decode cX8_hours 18 = .ok (.ifCond .le 11, 3) := by decide +kernel
theorem dX8_hours_21 : decode cX8_hours 21 = .ok (.aload_n 0, 1) := by decide +kernel
theorem dX8_hours_22 : decode cX8_hours 22 = .ok (.aload_n 0, 1) := by decide +kernel
theorem dX8_hours_23 : decode cX8_hours 23 = .ok (.getfield 9, 3) := by decide +kernel
theorem dX8_hours_26 : decode cX8_hours 26 = .ok (.invokevirtual 246, 3) := by decide +kernel
theorem dX8_hours_29 : decode cX8_hours 29 = .ok (.aload_n 0, 1) := by decide +kernel
theorem dX8_hours_30 : decode cX8_hours 30 = .ok (.aload_n 0, 1) := by decide +kernel
theorem dX8_hours_31 : decode cX8_hours 31 = .ok (.getfield 9, 3) := by decide +kernel
theorem dX8_hours_34 : decode cX8_hours 34 = .ok (.iload_n 1, 1) := by decide +kernel
theorem dX8_hours_35 : decode cX8_hours 35 = .ok (.invokevirtual 242, 3) := by decide +kernel
theorem dX8_hours_38 : decode cX8_hours 38 = .ok (.aload_n 0, 1) := by decide +kernel
theorem dX8_hours_39 : decode cX8_hours 39 = .ok (.iconst 0, 1) := by decide +kernel
theorem dX8_hours_40 : decode cX8_hours 40 = .ok (.putfield 86, 3) := by decide +kernel
theorem dX8_hours_43 : decode cX8_hours 43 = .ok (.aload_n 0, 1) := by decide +kernel
theorem dX8_hours_44 : decode cX8_hours 44 = .ok (.aload_n 0, 1) := by decide +kernel
theorem dX8_hours_45 : decode cX8_hours 45 = .ok (.getfield 235, 3) := by decide +kernel
theorem dX8_hours_48 : decode cX8_hours 48 = .ok (.i2l, 1) := by decide +kernel
theorem dX8_hours_49 : decode cX8_hours 49 = .ok (.invokevirtual 249, 3) := by decide +kernel
theorem dX8_hours_52 : decode cX8_hours 52 = .ok (.aload_n 0, 1) := by decide +kernel
theorem dX8_hours_53 : decode cX8_hours 53 = .ok (.aload_n 0, 1) := by decide +kernel
theorem dX8_hours_54 : decode cX8_hours 54 = .ok (.getfield 9, 3) := by decide +kernel
theorem dX8_hours_57 : decode cX8_hours 57 = .ok (.bipush 12, 2) := by decide +kernel
theorem dX8_hours_59 : decode cX8_hours 59 = .ok (.aload_n 0, 1) := by decide +kernel
theorem dX8_hours_60 : decode cX8_hours 60 = .ok (.getfield 96, 3) := by decide +kernel
theorem dX8_hours_63 : decode cX8_hours 63 = .ok (.invokestatic 227, 3) := by decide +kernel
theorem dX8_hours_66 : decode cX8_hours 66 = .ok (.i2l, 1) := by decide +kernel
theorem dX8_hours_67 : decode cX8_hours 67 = .ok (.invokevirtual 249, 3) := by decide +kernel
theorem dX8_hours_70 : decode cX8_hours 70 = .ok (.aload_n 0, 1) := by decide +kernel
theorem dX8_hours_71 : decode cX8_hours 71 = .ok (.aload_n 0, 1) := by decide +kernel
theorem dX8_hours_72 : decode cX8_hours 72 = .ok (.getfield 9, 3) := by decide +kernel
theorem dX8_hours_75 : decode cX8_hours 75 = .ok (.invokevirtual 253, 3) := by decide +kernel
theorem dX8_hours_78 : decode cX8_hours 78 = .ok (.ireturn, 1) := by decide +kernel
def p_X8_hours_29 (F : Nat) (p1 : Int32) (x_arches : Int32) (x_cats : Int32) (w_read : Value) (x_length : Int32) (x_top : Int32) (x_at : Int32) (x_wrong : Int32) (q_rule : Nat) (x_ruleSize : Int32) (x_isAsked : Int32) (f_now : Nat → Int32) (f_asked : Nat → Int32) (f_rule : Nat → Int32) (f_hold : Nat → Int32) (f_row : Nat → Int64) (Post : Int32 → (Int32 × Int32 × Value × Int32 × Int32 × Int32 × Int32 × Int32 × Int32 × Int32 × (Nat → Int32) × (Nat → Int32) × (Nat → Int32) × (Nat → Int32) × (Nat → Int64)) → Prop) (x_undoMany_29 : Int32) (f_undos_29 : Nat → Int32) : Prop := (p_X8_goHours F p1 x_arches x_cats w_read x_length x_top x_at x_wrong q_rule x_ruleSize x_isAsked 47 f_now f_asked f_rule f_hold (fun (u_35 : (Value × Int32 × Int32 × Int32 × Int32 × Int32 × Int32 × (Nat → Int32) × (Nat → Int32) × (Nat → Int32))) => (p_X8_tell F (u_35.2.2.2.2.2.2.1.toInt64) (0 : Int32) f_row (fun (u_49 : (Int32 × (Nat → Int64))) => (p_X8_sumOf F (12 : Int32) x_cats 47 u_35.2.2.2.2.2.2.2.1 (fun (r_63 : Int32) => (p_X8_tell F (r_63.toInt64) u_49.1 u_49.2 (fun (u_67 : (Int32 × (Nat → Int64))) => (p_X8_sags F x_arches 47 u_35.2.2.2.2.2.2.2.1 (fun (r_75 : Int32) => (Post r_75 (u_67.1, (0 : Int32), u_35.1, u_35.2.1, u_35.2.2.1, u_35.2.2.2.1, u_35.2.2.2.2.1, u_35.2.2.2.2.2.1, x_undoMany_29, u_35.2.2.2.2.2.2.1, f_undos_29, u_35.2.2.2.2.2.2.2.1, u_35.2.2.2.2.2.2.2.2.1, u_35.2.2.2.2.2.2.2.2.2, u_67.2))))))))))))
def p_X8_hours (F : Nat) (p1 : Int32) (x_arches : Int32) (x_cats : Int32) (x_rowMany : Int32) (w_read : Value) (x_length : Int32) (x_top : Int32) (x_at : Int32) (x_wrong : Int32) (q_rule : Nat) (x_ruleSize : Int32) (x_isAsked : Int32) (x_undoMany : Int32) (x_dropped : Int32) (f_undos : Nat → Int32) (f_now : Nat → Int32) (f_asked : Nat → Int32) (f_rule : Nat → Int32) (f_hold : Nat → Int32) (f_row : Nat → Int64) (Post : Int32 → (Int32 × Int32 × Value × Int32 × Int32 × Int32 × Int32 × Int32 × Int32 × Int32 × (Nat → Int32) × (Nat → Int32) × (Nat → Int32) × (Nat → Int32) × (Nat → Int64)) → Prop) : Prop := (p_X8_in F p1 (0 : Int32) (60 : Int32) (fun (r_9 : Int32) => ((¬ r_9 = 0 → ((p1 ≤ 0 → (p_X8_hours_29 F p1 x_arches x_cats w_read x_length x_top x_at x_wrong q_rule x_ruleSize x_isAsked f_now f_asked f_rule f_hold f_row Post x_undoMany f_undos)) ∧ (¬ p1 ≤ 0 → (p_X8_remember F x_undoMany f_undos 47 f_now (fun (u_26 : (Int32 × (Nat → Int32))) => (p_X8_hours_29 F p1 x_arches x_cats w_read x_length x_top x_at x_wrong q_rule x_ruleSize x_isAsked f_now f_asked f_rule f_hold f_row Post u_26.1 u_26.2)))))) ∧ (r_9 = 0 → (Post (-1 : Int32) (x_rowMany, (0 : Int32), w_read, x_length, x_top, x_at, x_wrong, x_isAsked, x_undoMany, x_dropped, f_undos, f_now, f_asked, f_hold, f_row))))))
set_option maxHeartbeats 4000000 in
set_option maxRecDepth 100000 in
theorem c_X8_hours (l : Launch) (D : va_G) (cT : Nat → ClassId) (F : Nat) (h : Nat) (p1 : Int32) (q_now : Nat) (x_arches : Int32) (x_cats : Int32) (w_text : Value) (x_typed : Int32) (q_row : Nat) (x_rowMany : Int32) (x_thrown : Int32) (w_read : Value) (x_length : Int32) (x_top : Int32) (x_at : Int32) (x_wrong : Int32) (w_told : Value) (q_rule : Nat) (w_otherRule : Value) (x_ruleSize : Int32) (x_isAsked : Int32) (q_asked : Nat) (q_undos : Nat) (x_undoMany : Int32) (w_aside : Value) (w_then : Value) (q_hold : Nat) (x_dropped : Int32) (w_acts : Value) (w_guarded : Value) (w_train : Value) (x_trolleyEnd : Int32) (w_feltOf : Value) (w_feltBy : Value) (x_feltMany : Int32) (w_many : Value) (w_heardOf : Value) (w_heardBy : Value) (x_heardMany : Int32) (w_worth : Value) (x_drawn : Int32) (x_came : Int32) (w_kept : Value) (w_isKept : Value) (w_keptCame : Value) (f_undos : Nat → Int32) (f_now : Nat → Int32) (f_asked : Nat → Int32) (f_rule : Nat → Int32) (f_hold : Nat → Int32) (f_row : Nat → Int64) (Post : Int32 → (Int32 × Int32 × Value × Int32 × Int32 × Int32 × Int32 × Int32 × Int32 × Int32 × (Nat → Int32) × (Nat → Int32) × (Nat → Int32) × (Nat → Int32) × (Nat → Int64)) → Prop) (hg : p_X8_hours F p1 x_arches x_cats x_rowMany w_read x_length x_top x_at x_wrong q_rule x_ruleSize x_isAsked x_undoMany x_dropped f_undos f_now f_asked f_rule f_hold f_row Post) : MWi l D cT yX8_hours cX8_hours 2 (some .int) 327 10219 0 0 [.ref h, .int p1] [(h, oX8 (.ref q_now) (.int x_arches) (.int x_cats) w_text (.int x_typed) (.ref q_row) (.int x_rowMany) (.int x_thrown) w_read (.int x_length) (.int x_top) (.int x_at) (.int x_wrong) w_told (.ref q_rule) w_otherRule (.int x_ruleSize) (.int x_isAsked) (.ref q_asked) (.ref q_undos) (.int x_undoMany) w_aside w_then (.ref q_hold) (.int x_dropped) w_acts w_guarded w_train (.int x_trolleyEnd) w_feltOf w_feltBy (.int x_feltMany) w_many w_heardOf w_heardBy (.int x_heardMany) w_worth (.int x_drawn) (.int x_came) w_kept w_isKept w_keptCame), (q_undos, aI cT 564 f_undos), (q_now, aI cT 47 f_now), (q_asked, aI cT 7 f_asked), (q_rule, aB cT 40 f_rule), (q_hold, aI cT 6 f_hold), (q_row, aJ cT 16 f_row)] Post (fun (u : (Int32 × Int32 × Value × Int32 × Int32 × Int32 × Int32 × Int32 × Int32 × Int32 × (Nat → Int32) × (Nat → Int32) × (Nat → Int32) × (Nat → Int32) × (Nat → Int64))) => [(h, oX8 (.ref q_now) (.int x_arches) (.int x_cats) w_text (.int x_typed) (.ref q_row) (.int u.1) (.int u.2.1) u.2.2.1 (.int u.2.2.2.1) (.int u.2.2.2.2.1) (.int u.2.2.2.2.2.1) (.int u.2.2.2.2.2.2.1) w_told (.ref q_rule) w_otherRule (.int x_ruleSize) (.int u.2.2.2.2.2.2.2.1) (.ref q_asked) (.ref q_undos) (.int u.2.2.2.2.2.2.2.2.1) w_aside w_then (.ref q_hold) (.int u.2.2.2.2.2.2.2.2.2.1) w_acts w_guarded w_train (.int x_trolleyEnd) w_feltOf w_feltBy (.int x_feltMany) w_many w_heardOf w_heardBy (.int x_heardMany) w_worth (.int x_drawn) (.int x_came) w_kept w_isKept w_keptCame), (q_undos, aI cT 564 u.2.2.2.2.2.2.2.2.2.2.1), (q_now, aI cT 47 u.2.2.2.2.2.2.2.2.2.2.2.1), (q_asked, aI cT 7 u.2.2.2.2.2.2.2.2.2.2.2.2.1), (q_rule, aB cT 40 f_rule), (q_hold, aI cT 6 u.2.2.2.2.2.2.2.2.2.2.2.2.2.1), (q_row, aJ cT 16 u.2.2.2.2.2.2.2.2.2.2.2.2.2.2)]) := by
  refine MWi.of (by decide) (Nat.le_of_ble_eq_true rfl) ?_
  intro p e s m below meth c A hA C0 hnm hr hP hD ls hl
  have hl : lv_has ls 2 [(0, .ref h), (1, .int p1)] := hl
  have hx := C0.x
  have hb := C0.b
  have hS : va_S A s.heap s.heap [] := va_S.rf
  have hP : va_P D cls9 [(h, oX8 (.ref q_now) (.int x_arches) (.int x_cats) w_text (.int x_typed) (.ref q_row) (.int x_rowMany) (.int x_thrown) w_read (.int x_length) (.int x_top) (.int x_at) (.int x_wrong) w_told (.ref q_rule) w_otherRule (.int x_ruleSize) (.int x_isAsked) (.ref q_asked) (.ref q_undos) (.int x_undoMany) w_aside w_then (.ref q_hold) (.int x_dropped) w_acts w_guarded w_train (.int x_trolleyEnd) w_feltOf w_feltBy (.int x_feltMany) w_many w_heardOf w_heardBy (.int x_heardMany) w_worth (.int x_drawn) (.int x_came) w_kept w_isKept w_keptCame), (q_undos, aI cT 564 f_undos), (q_now, aI cT 47 f_now), (q_asked, aI cT 7 f_asked), (q_rule, aB cT 40 f_rule), (q_hold, aI cT 6 f_hold), (q_row, aJ cT 16 f_row)] s.heap := hP
  have hD : va_D A [(h, oX8 (.ref q_now) (.int x_arches) (.int x_cats) w_text (.int x_typed) (.ref q_row) (.int x_rowMany) (.int x_thrown) w_read (.int x_length) (.int x_top) (.int x_at) (.int x_wrong) w_told (.ref q_rule) w_otherRule (.int x_ruleSize) (.int x_isAsked) (.ref q_asked) (.ref q_undos) (.int x_undoMany) w_aside w_then (.ref q_hold) (.int x_dropped) w_acts w_guarded w_train (.int x_trolleyEnd) w_feltOf w_feltBy (.int x_feltMany) w_many w_heardOf w_heardBy (.int x_heardMany) w_worth (.int x_drawn) (.int x_came) w_kept w_isKept w_keptCame), (q_undos, aI cT 564 f_undos), (q_now, aI cT 47 f_now), (q_asked, aI cT 7 f_asked), (q_rule, aB cT 40 f_rule), (q_hold, aI cT 6 f_hold), (q_row, aJ cT 16 f_row)] := hD
  have L29 : ∀ (x_undoMany_29 : Int32) (f_undos_29 : Nat → Int32) (H : Heap) (locs : List Loc) (ls : Array Slot), p_X8_hours_29 F p1 x_arches x_cats w_read x_length x_top x_at x_wrong q_rule x_ruleSize x_isAsked f_now f_asked f_rule f_hold f_row Post x_undoMany_29 f_undos_29 → va_P D cls9 [(h, oX8 (.ref q_now) (.int x_arches) (.int x_cats) w_text (.int x_typed) (.ref q_row) (.int x_rowMany) (.int (0 : Int32)) w_read (.int x_length) (.int x_top) (.int x_at) (.int x_wrong) w_told (.ref q_rule) w_otherRule (.int x_ruleSize) (.int x_isAsked) (.ref q_asked) (.ref q_undos) (.int x_undoMany_29) w_aside w_then (.ref q_hold) (.int x_dropped) w_acts w_guarded w_train (.int x_trolleyEnd) w_feltOf w_feltBy (.int x_feltMany) w_many w_heardOf w_heardBy (.int x_heardMany) w_worth (.int x_drawn) (.int x_came) w_kept w_isKept w_keptCame), (q_undos, aI cT 564 f_undos_29), (q_now, aI cT 47 f_now), (q_asked, aI cT 7 f_asked), (q_rule, aB cT 40 f_rule), (q_hold, aI cT 6 f_hold), (q_row, aJ cT 16 f_row)] H → va_D A [(h, oX8 (.ref q_now) (.int x_arches) (.int x_cats) w_text (.int x_typed) (.ref q_row) (.int x_rowMany) (.int (0 : Int32)) w_read (.int x_length) (.int x_top) (.int x_at) (.int x_wrong) w_told (.ref q_rule) w_otherRule (.int x_ruleSize) (.int x_isAsked) (.ref q_asked) (.ref q_undos) (.int x_undoMany_29) w_aside w_then (.ref q_hold) (.int x_dropped) w_acts w_guarded w_train (.int x_trolleyEnd) w_feltOf w_feltBy (.int x_feltMany) w_many w_heardOf w_heardBy (.int x_heardMany) w_worth (.int x_drawn) (.int x_came) w_kept w_isKept w_keptCame), (q_undos, aI cT 564 f_undos_29), (q_now, aI cT 47 f_now), (q_asked, aI cT 7 f_asked), (q_rule, aB cT 40 f_rule), (q_hold, aI cT 6 f_hold), (q_row, aJ cT 16 f_row)] → va_S A s.heap H locs → lv_has ls 2 [(0, .ref h), (1, .int p1)] → W p l e (rmO 327 10219 0 0) s m ([.ref h, .int p1] : List Value).toArray below meth c H locs 0 0 (MQ below (va_Qi Post (cB D A (fun (u : (Int32 × Int32 × Value × Int32 × Int32 × Int32 × Int32 × Int32 × Int32 × Int32 × (Nat → Int32) × (Nat → Int32) × (Nat → Int32) × (Nat → Int32) × (Nat → Int64))) => [(h, oX8 (.ref q_now) (.int x_arches) (.int x_cats) w_text (.int x_typed) (.ref q_row) (.int u.1) (.int u.2.1) u.2.2.1 (.int u.2.2.2.1) (.int u.2.2.2.2.1) (.int u.2.2.2.2.2.1) (.int u.2.2.2.2.2.2.1) w_told (.ref q_rule) w_otherRule (.int x_ruleSize) (.int u.2.2.2.2.2.2.2.1) (.ref q_asked) (.ref q_undos) (.int u.2.2.2.2.2.2.2.2.1) w_aside w_then (.ref q_hold) (.int u.2.2.2.2.2.2.2.2.2.1) w_acts w_guarded w_train (.int x_trolleyEnd) w_feltOf w_feltBy (.int x_feltMany) w_many w_heardOf w_heardBy (.int x_heardMany) w_worth (.int x_drawn) (.int x_came) w_kept w_isKept w_keptCame), (q_undos, aI cT 564 u.2.2.2.2.2.2.2.2.2.2.1), (q_now, aI cT 47 u.2.2.2.2.2.2.2.2.2.2.2.1), (q_asked, aI cT 7 u.2.2.2.2.2.2.2.2.2.2.2.2.1), (q_rule, aB cT 40 f_rule), (q_hold, aI cT 6 u.2.2.2.2.2.2.2.2.2.2.2.2.2.1), (q_row, aJ cT 16 u.2.2.2.2.2.2.2.2.2.2.2.2.2.2)])) A) ([.ref h, .int p1] : List Value).toArray s 0 0 A) (F0 m 29 ls []) := by
    intro x_undoMany_29 f_undos_29 H locs ls hg hP hD hS hl
    unfold p_X8_hours_29 at hg
    refine lv_aload_n hx hb dX8_hours_29 rfl (lv_at hl 0 rfl) ?_
    refine lv_aload_n hx hb dX8_hours_30 rfl (lv_at hl 0 rfl) ?_
    refine gf_X8_9 C0 hP 0 rfl rfl dX8_hours_31 ?_
    refine lv_iload_n hx hb dX8_hours_34 rfl (lv_at hl 1 rfl) ?_
    refine k_Vv (rest := []) (wr := [(q_undos, aI cT 564 f_undos_29), (q_row, aJ cT 16 f_row)]) (w2 := fun u_35 => [(q_undos, aI cT 564 f_undos_29), (q_row, aJ cT 16 f_row), (h, oX8 (.ref q_now) (.int x_arches) (.int x_cats) w_text (.int x_typed) (.ref q_row) (.int x_rowMany) (.int (0 : Int32)) u_35.1 (.int u_35.2.1) (.int u_35.2.2.1) (.int u_35.2.2.2.1) (.int u_35.2.2.2.2.1) w_told (.ref q_rule) w_otherRule (.int x_ruleSize) (.int u_35.2.2.2.2.2.1) (.ref q_asked) (.ref q_undos) (.int x_undoMany_29) w_aside w_then (.ref q_hold) (.int u_35.2.2.2.2.2.2.1) w_acts w_guarded w_train (.int x_trolleyEnd) w_feltOf w_feltBy (.int x_feltMany) w_many w_heardOf w_heardBy (.int x_heardMany) w_worth (.int x_drawn) (.int x_came) w_kept w_isKept w_keptCame), (q_now, aI cT 47 u_35.2.2.2.2.2.2.2.1), (q_asked, aI cT 7 u_35.2.2.2.2.2.2.2.2.1), (q_rule, aB cT 40 f_rule), (q_hold, aI cT 6 u_35.2.2.2.2.2.2.2.2.2)]) C0 lk_X8_242 (c_X8_goHours l D cT F h q_now p1 (.ref q_now) x_arches x_cats w_text x_typed (.ref q_row) x_rowMany (0 : Int32) w_read x_length x_top x_at x_wrong w_told q_rule w_otherRule x_ruleSize x_isAsked q_asked (.ref q_undos) x_undoMany_29 w_aside w_then q_hold x_dropped w_acts w_guarded w_train x_trolleyEnd w_feltOf w_feltBy x_feltMany w_many w_heardOf w_heardBy x_heardMany w_worth x_drawn x_came w_kept w_isKept w_keptCame 47 f_now f_asked f_rule f_hold _ hg) hP hD hS hA [0, 2, 3, 4, 5] [1, 6] (by decide +kernel) rfl rfl (fun _ => rfl) rfl rfl ⟨Nat.le_of_ble_eq_true rfl, Nat.le_of_ble_eq_true rfl⟩ rfl hl.1 rfl (Nat.le_of_ble_eq_true rfl) dX8_hours_35 ⟨Nat.le_of_ble_eq_true rfl, Nat.le_of_ble_eq_true rfl⟩ ?_
    intro u_35 H locs hg hP hD hS
    refine lv_aload_n hx hb dX8_hours_38 rfl (lv_at hl 0 rfl) ?_
    refine lv_iconst (v := (0 : Int32)) hx hb dX8_hours_39 (by decide) ?_
    refine pf_X8_86 C0 hP hD hS 2 rfl (Nat.le_of_ble_eq_true rfl) (ws2 := [(q_undos, aI cT 564 f_undos_29), (q_row, aJ cT 16 f_row), (h, oX8 (.ref q_now) (.int x_arches) (.int x_cats) w_text (.int x_typed) (.ref q_row) (.int (0 : Int32)) (.int (0 : Int32)) u_35.1 (.int u_35.2.1) (.int u_35.2.2.1) (.int u_35.2.2.2.1) (.int u_35.2.2.2.2.1) w_told (.ref q_rule) w_otherRule (.int x_ruleSize) (.int u_35.2.2.2.2.2.1) (.ref q_asked) (.ref q_undos) (.int x_undoMany_29) w_aside w_then (.ref q_hold) (.int u_35.2.2.2.2.2.2.1) w_acts w_guarded w_train (.int x_trolleyEnd) w_feltOf w_feltBy (.int x_feltMany) w_many w_heardOf w_heardBy (.int x_heardMany) w_worth (.int x_drawn) (.int x_came) w_kept w_isKept w_keptCame), (q_now, aI cT 47 u_35.2.2.2.2.2.2.2.1), (q_asked, aI cT 7 u_35.2.2.2.2.2.2.2.2.1), (q_rule, aB cT 40 f_rule), (q_hold, aI cT 6 u_35.2.2.2.2.2.2.2.2.2)]) rfl dX8_hours_40 (fun H locs hP hD hS => ?_)
    refine lv_aload_n hx hb dX8_hours_43 rfl (lv_at hl 0 rfl) ?_
    refine lv_aload_n hx hb dX8_hours_44 rfl (lv_at hl 0 rfl) ?_
    refine gf_X8_235 C0 hP 2 rfl rfl dX8_hours_45 ?_
    refine lv_i2l (v := (u_35.2.2.2.2.2.2.1.toInt64)) hx hb dX8_hours_48 rfl ?_
    refine k_Vv (rest := []) (wr := [(q_undos, aI cT 564 f_undos_29), (q_now, aI cT 47 u_35.2.2.2.2.2.2.2.1), (q_asked, aI cT 7 u_35.2.2.2.2.2.2.2.2.1), (q_rule, aB cT 40 f_rule), (q_hold, aI cT 6 u_35.2.2.2.2.2.2.2.2.2)]) (w2 := fun u_49 => [(q_undos, aI cT 564 f_undos_29), (q_now, aI cT 47 u_35.2.2.2.2.2.2.2.1), (q_asked, aI cT 7 u_35.2.2.2.2.2.2.2.2.1), (q_rule, aB cT 40 f_rule), (q_hold, aI cT 6 u_35.2.2.2.2.2.2.2.2.2), (h, oX8 (.ref q_now) (.int x_arches) (.int x_cats) w_text (.int x_typed) (.ref q_row) (.int u_49.1) (.int (0 : Int32)) u_35.1 (.int u_35.2.1) (.int u_35.2.2.1) (.int u_35.2.2.2.1) (.int u_35.2.2.2.2.1) w_told (.ref q_rule) w_otherRule (.int x_ruleSize) (.int u_35.2.2.2.2.2.1) (.ref q_asked) (.ref q_undos) (.int x_undoMany_29) w_aside w_then (.ref q_hold) (.int u_35.2.2.2.2.2.2.1) w_acts w_guarded w_train (.int x_trolleyEnd) w_feltOf w_feltBy (.int x_feltMany) w_many w_heardOf w_heardBy (.int x_heardMany) w_worth (.int x_drawn) (.int x_came) w_kept w_isKept w_keptCame), (q_row, aJ cT 16 u_49.2)]) C0 lk_X8_249 (c_X8_tell l D cT F h (u_35.2.2.2.2.2.2.1.toInt64) (.ref q_now) x_arches x_cats w_text x_typed q_row (0 : Int32) (0 : Int32) u_35.1 u_35.2.1 u_35.2.2.1 u_35.2.2.2.1 u_35.2.2.2.2.1 w_told (.ref q_rule) w_otherRule x_ruleSize u_35.2.2.2.2.2.1 (.ref q_asked) (.ref q_undos) x_undoMany_29 w_aside w_then (.ref q_hold) u_35.2.2.2.2.2.2.1 w_acts w_guarded w_train x_trolleyEnd w_feltOf w_feltBy x_feltMany w_many w_heardOf w_heardBy x_heardMany w_worth x_drawn x_came w_kept w_isKept w_keptCame f_row _ hg) hP hD hS hA [2, 1] [0, 3, 4, 5, 6] (by decide +kernel) rfl rfl (fun _ => rfl) rfl rfl ⟨Nat.le_of_ble_eq_true rfl, Nat.le_of_ble_eq_true rfl⟩ rfl hl.1 rfl (Nat.le_of_ble_eq_true rfl) dX8_hours_49 ⟨Nat.le_of_ble_eq_true rfl, Nat.le_of_ble_eq_true rfl⟩ ?_
    intro u_49 H locs hg hP hD hS
    refine lv_aload_n hx hb dX8_hours_52 rfl (lv_at hl 0 rfl) ?_
    refine lv_aload_n hx hb dX8_hours_53 rfl (lv_at hl 0 rfl) ?_
    refine gf_X8_9 C0 hP 5 rfl rfl dX8_hours_54 ?_
    refine lv_bipush (v := (12 : Int32)) hx hb dX8_hours_57 (by decide) ?_
    refine lv_aload_n hx hb dX8_hours_59 rfl (lv_at hl 0 rfl) ?_
    refine gf_X8_96 C0 hP 5 rfl rfl dX8_hours_60 ?_
    refine k_Sxi (rest := [.ref h]) C0 lk_X8_227 (c_X8_sumOf l D cT F q_now (12 : Int32) x_cats 47 u_35.2.2.2.2.2.2.2.1 _ hg) hP hD hS hA [1] (by decide +kernel) rfl ⟨Nat.le_of_ble_eq_true rfl, Nat.le_of_ble_eq_true rfl⟩ rfl hl.1 rfl (Nat.le_of_ble_eq_true rfl) dX8_hours_63 ⟨Nat.le_of_ble_eq_true rfl, Nat.le_of_ble_eq_true rfl⟩ (fun r_63 hg => ?_)
    refine lv_i2l (v := (r_63.toInt64)) hx hb dX8_hours_66 rfl ?_
    refine k_Vv (rest := []) (wr := [(q_undos, aI cT 564 f_undos_29), (q_now, aI cT 47 u_35.2.2.2.2.2.2.2.1), (q_asked, aI cT 7 u_35.2.2.2.2.2.2.2.2.1), (q_rule, aB cT 40 f_rule), (q_hold, aI cT 6 u_35.2.2.2.2.2.2.2.2.2)]) (w2 := fun u_67 => [(q_undos, aI cT 564 f_undos_29), (q_now, aI cT 47 u_35.2.2.2.2.2.2.2.1), (q_asked, aI cT 7 u_35.2.2.2.2.2.2.2.2.1), (q_rule, aB cT 40 f_rule), (q_hold, aI cT 6 u_35.2.2.2.2.2.2.2.2.2), (h, oX8 (.ref q_now) (.int x_arches) (.int x_cats) w_text (.int x_typed) (.ref q_row) (.int u_67.1) (.int (0 : Int32)) u_35.1 (.int u_35.2.1) (.int u_35.2.2.1) (.int u_35.2.2.2.1) (.int u_35.2.2.2.2.1) w_told (.ref q_rule) w_otherRule (.int x_ruleSize) (.int u_35.2.2.2.2.2.1) (.ref q_asked) (.ref q_undos) (.int x_undoMany_29) w_aside w_then (.ref q_hold) (.int u_35.2.2.2.2.2.2.1) w_acts w_guarded w_train (.int x_trolleyEnd) w_feltOf w_feltBy (.int x_feltMany) w_many w_heardOf w_heardBy (.int x_heardMany) w_worth (.int x_drawn) (.int x_came) w_kept w_isKept w_keptCame), (q_row, aJ cT 16 u_67.2)]) C0 lk_X8_249 (c_X8_tell l D cT F h (r_63.toInt64) (.ref q_now) x_arches x_cats w_text x_typed q_row u_49.1 (0 : Int32) u_35.1 u_35.2.1 u_35.2.2.1 u_35.2.2.2.1 u_35.2.2.2.2.1 w_told (.ref q_rule) w_otherRule x_ruleSize u_35.2.2.2.2.2.1 (.ref q_asked) (.ref q_undos) x_undoMany_29 w_aside w_then (.ref q_hold) u_35.2.2.2.2.2.2.1 w_acts w_guarded w_train x_trolleyEnd w_feltOf w_feltBy x_feltMany w_many w_heardOf w_heardBy x_heardMany w_worth x_drawn x_came w_kept w_isKept w_keptCame u_49.2 _ hg) hP hD hS hA [5, 6] [0, 1, 2, 3, 4] (by decide +kernel) rfl rfl (fun _ => rfl) rfl rfl ⟨Nat.le_of_ble_eq_true rfl, Nat.le_of_ble_eq_true rfl⟩ rfl hl.1 rfl (Nat.le_of_ble_eq_true rfl) dX8_hours_67 ⟨Nat.le_of_ble_eq_true rfl, Nat.le_of_ble_eq_true rfl⟩ ?_
    intro u_67 H locs hg hP hD hS
    refine lv_aload_n hx hb dX8_hours_70 rfl (lv_at hl 0 rfl) ?_
    refine lv_aload_n hx hb dX8_hours_71 rfl (lv_at hl 0 rfl) ?_
    refine gf_X8_9 C0 hP 5 rfl rfl dX8_hours_72 ?_
    refine k_Vxi (rest := []) C0 lk_X8_253 (c_X8_sags l D cT F h q_now (.ref q_now) x_arches x_cats w_text x_typed (.ref q_row) u_67.1 (0 : Int32) u_35.1 u_35.2.1 u_35.2.2.1 u_35.2.2.2.1 u_35.2.2.2.2.1 w_told (.ref q_rule) w_otherRule x_ruleSize u_35.2.2.2.2.2.1 (.ref q_asked) (.ref q_undos) x_undoMany_29 w_aside w_then (.ref q_hold) u_35.2.2.2.2.2.2.1 w_acts w_guarded w_train x_trolleyEnd w_feltOf w_feltBy x_feltMany w_many w_heardOf w_heardBy x_heardMany w_worth x_drawn x_came w_kept w_isKept w_keptCame 47 u_35.2.2.2.2.2.2.2.1 _ hg) hP hD hS hA [5, 1] (by decide +kernel) rfl rfl rfl ⟨Nat.le_of_ble_eq_true rfl, Nat.le_of_ble_eq_true rfl⟩ rfl hl.1 rfl (Nat.le_of_ble_eq_true rfl) dX8_hours_75 ⟨Nat.le_of_ble_eq_true rfl, Nat.le_of_ble_eq_true rfl⟩ (fun r_75 hg => ?_)
    exact k_iret C0 hr (u_67.1, (0 : Int32), u_35.1, u_35.2.1, u_35.2.2.1, u_35.2.2.2.1, u_35.2.2.2.2.1, u_35.2.2.2.2.2.1, x_undoMany_29, u_35.2.2.2.2.2.2.1, f_undos_29, u_35.2.2.2.2.2.2.2.1, u_35.2.2.2.2.2.2.2.2.1, u_35.2.2.2.2.2.2.2.2.2, u_67.2) hg (subP hP [5, 0, 1, 2, 3, 4, 6] rfl) (hD.sub [5, 0, 1, 2, 3, 4, 6] (nd2_ok _ (by decide +kernel)) rfl) hS dX8_hours_78
  unfold p_X8_hours at hg
  refine lv_aload_n hx hb dX8_hours_0 rfl (lv_at hl 0 rfl) ?_
  refine lv_iconst (v := (0 : Int32)) hx hb dX8_hours_1 (by decide) ?_
  refine pf_X8_82 C0 hP hD hS 0 rfl (Nat.le_of_ble_eq_true rfl) (ws2 := [(h, oX8 (.ref q_now) (.int x_arches) (.int x_cats) w_text (.int x_typed) (.ref q_row) (.int x_rowMany) (.int (0 : Int32)) w_read (.int x_length) (.int x_top) (.int x_at) (.int x_wrong) w_told (.ref q_rule) w_otherRule (.int x_ruleSize) (.int x_isAsked) (.ref q_asked) (.ref q_undos) (.int x_undoMany) w_aside w_then (.ref q_hold) (.int x_dropped) w_acts w_guarded w_train (.int x_trolleyEnd) w_feltOf w_feltBy (.int x_feltMany) w_many w_heardOf w_heardBy (.int x_heardMany) w_worth (.int x_drawn) (.int x_came) w_kept w_isKept w_keptCame), (q_undos, aI cT 564 f_undos), (q_now, aI cT 47 f_now), (q_asked, aI cT 7 f_asked), (q_rule, aB cT 40 f_rule), (q_hold, aI cT 6 f_hold), (q_row, aJ cT 16 f_row)]) rfl dX8_hours_2 (fun H locs hP hD hS => ?_)
  refine lv_iload_n hx hb dX8_hours_5 rfl (lv_at hl 1 rfl) ?_
  refine lv_iconst (v := (0 : Int32)) hx hb dX8_hours_6 (by decide) ?_
  refine lv_bipush (v := (60 : Int32)) hx hb dX8_hours_7 (by decide) ?_
  refine k_Sxi (rest := []) C0 lk_X8_92 (c_X8_in l D cT F p1 (0 : Int32) (60 : Int32) _ hg) hP hD hS hA [] (by decide +kernel) rfl ⟨Nat.le_of_ble_eq_true rfl, Nat.le_of_ble_eq_true rfl⟩ rfl hl.1 rfl (Nat.le_of_ble_eq_true rfl) dX8_hours_9 ⟨Nat.le_of_ble_eq_true rfl, Nat.le_of_ble_eq_true rfl⟩ (fun r_9 hg => ?_)
  refine lv_if_ne (tgt := 17) hx hb dX8_hours_12 (by decide) (fun c_12 => ?_) (fun c_12 => ?_)
  · have hg := hg.1 c_12
    refine lv_iload_n hx hb dX8_hours_17 rfl (lv_at hl 1 rfl) ?_
    refine lv_if_le (tgt := 29) hx hb dX8_hours_18 (by decide) (fun c_18 => ?_) (fun c_18 => ?_)
    · have hg := hg.1 c_18
      exact L29 x_undoMany f_undos _ _ _ hg hP hD hS hl
    have hg := hg.2 c_18
    refine lv_aload_n hx hb dX8_hours_21 rfl (lv_at hl 0 rfl) ?_
    refine lv_aload_n hx hb dX8_hours_22 rfl (lv_at hl 0 rfl) ?_
    refine gf_X8_9 C0 hP 0 rfl rfl dX8_hours_23 ?_
    refine k_Vv (rest := []) (wr := [(q_asked, aI cT 7 f_asked), (q_rule, aB cT 40 f_rule), (q_hold, aI cT 6 f_hold), (q_row, aJ cT 16 f_row)]) (w2 := fun u_26 => [(q_asked, aI cT 7 f_asked), (q_rule, aB cT 40 f_rule), (q_hold, aI cT 6 f_hold), (q_row, aJ cT 16 f_row), (h, oX8 (.ref q_now) (.int x_arches) (.int x_cats) w_text (.int x_typed) (.ref q_row) (.int x_rowMany) (.int (0 : Int32)) w_read (.int x_length) (.int x_top) (.int x_at) (.int x_wrong) w_told (.ref q_rule) w_otherRule (.int x_ruleSize) (.int x_isAsked) (.ref q_asked) (.ref q_undos) (.int u_26.1) w_aside w_then (.ref q_hold) (.int x_dropped) w_acts w_guarded w_train (.int x_trolleyEnd) w_feltOf w_feltBy (.int x_feltMany) w_many w_heardOf w_heardBy (.int x_heardMany) w_worth (.int x_drawn) (.int x_came) w_kept w_isKept w_keptCame), (q_undos, aI cT 564 u_26.2), (q_now, aI cT 47 f_now)]) C0 lk_X8_246 (c_X8_remember l D cT F h q_now (.ref q_now) x_arches x_cats w_text x_typed (.ref q_row) x_rowMany (0 : Int32) w_read x_length x_top x_at x_wrong w_told (.ref q_rule) w_otherRule x_ruleSize x_isAsked (.ref q_asked) q_undos x_undoMany w_aside w_then (.ref q_hold) x_dropped w_acts w_guarded w_train x_trolleyEnd w_feltOf w_feltBy x_feltMany w_many w_heardOf w_heardBy x_heardMany w_worth x_drawn x_came w_kept w_isKept w_keptCame f_undos 47 f_now _ hg) hP hD hS hA [0, 1, 2] [3, 4, 5, 6] (by decide +kernel) rfl rfl (fun _ => rfl) rfl rfl ⟨Nat.le_of_ble_eq_true rfl, Nat.le_of_ble_eq_true rfl⟩ rfl hl.1 rfl (Nat.le_of_ble_eq_true rfl) dX8_hours_26 ⟨Nat.le_of_ble_eq_true rfl, Nat.le_of_ble_eq_true rfl⟩ ?_
    intro u_26 H locs hg hP hD hS
    exact L29 u_26.1 u_26.2 _ _ _ hg (subP hP [4, 5, 6, 0, 1, 2, 3] rfl) (hD.sub [4, 5, 6, 0, 1, 2, 3] (nd2_ok _ (by decide +kernel)) rfl) hS hl
  have hg := hg.2 c_12
  refine lv_iconst (v := (-1 : Int32)) hx hb dX8_hours_15 (by decide) ?_
  exact k_iret C0 hr (x_rowMany, (0 : Int32), w_read, x_length, x_top, x_at, x_wrong, x_isAsked, x_undoMany, x_dropped, f_undos, f_now, f_asked, f_hold, f_row) hg hP hD hS dX8_hours_16
