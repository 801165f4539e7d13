theorem dX8_refusesFeed_0 : decode cX8_refusesFeed 0 = .ok (.aload_n 0, 1) := by decide +kernel
theorem dX8_refusesFeed_1 : decode cX8_refusesFeed 1 = .ok (.iload_n 2, 1) := by decide +kernel
theorem dX8_refusesFeed_2 : decode cX8_refusesFeed 2 = .ok (.invokevirtual 224, 3) := by decide +kernel
theorem dX8_refusesFeed_5 : decode cX8_refusesFeed 5 = .ok (.ifCond .eq 13, 3) := by decide +kernel
theorem dX8_refusesFeed_8 : decode cX8_refusesFeed 8 = .ok (.iload_n 3, 1) := by decide +kernel
theorem dX8_refusesFeed_9 : decode cX8_refusesFeed 9 = .ok (.iconst 1, 1) := by decide +kernel
theorem dX8_refusesFeed_10 : decode cX8_refusesFeed 10 = .ok (.bipush 9, 2) := by decide +kernel
theorem dX8_refusesFeed_12 : decode cX8_refusesFeed 12 = .ok (.invokestatic 92, 3) := by decide +kernel
theorem dX8_refusesFeed_15 : decode cX8_refusesFeed 15 = .ok (.ifCond .ne 5, 3) := by decide +kernel
theorem dX8_refusesFeed_18 : decode cX8_refusesFeed 18 = .ok (.iconst (-1), 1) := by decide +kernel
theorem dX8_refusesFeed_19 : decode cX8_refusesFeed 19 = .ok (.ireturn, 1) := by decide +kernel
theorem dX8_refusesFeed_20 : decode cX8_refusesFeed 20 = .ok (.aload_n 1, 1) := by decide +kernel
theorem dX8_refusesFeed_21 : decode cX8_refusesFeed 21 = .ok (.bipush 44, 2) := by decide +kernel
theorem dX8_refusesFeed_23 : decode cX8_refusesFeed 23 = .ok (.iaload, 1) := by decide +kernel
theorem dX8_refusesFeed_24 : decode cX8_refusesFeed 24 = .ok (.iload_n 3, 1) := by decide +kernel
theorem dX8_refusesFeed_25 : decode cX8_refusesFeed 25 = .ok (.if_icmp .ge 6, 3) := by decide +kernel
theorem dX8_refusesFeed_28 : decode cX8_refusesFeed 28 = .ok (.bipush (-2), 2) := by decide +kernel
theorem dX8_refusesFeed_30 : decode cX8_refusesFeed 30 = .ok (.ireturn, 1) := by decide +kernel
theorem dX8_refusesFeed_31 : decode cX8_refusesFeed 31 = .ok (.aload_n 1, 1) := by decide +kernel
theorem dX8_refusesFeed_32 : decode cX8_refusesFeed 32 = .ok (.bipush 20, 2) := by decide +kernel
theorem dX8_refusesFeed_34 : decode cX8_refusesFeed 34 = .ok (.iload_n 2, 1) := by decide +kernel
theorem dX8_refusesFeed_35 : decode cX8_refusesFeed 35 = .ok (.iadd, 1) := by decide +kernel
theorem dX8_refusesFeed_36 : decode cX8_refusesFeed 36 = .ok (.iaload, 1) := by decide +kernel
theorem dX8_refusesFeed_37 : decode cX8_refusesFeed 37 = .ok (.iload_n 3, 1) := by decide +kernel
theorem dX8_refusesFeed_38 : decode cX8_refusesFeed 38 = .ok (.iadd, 1) := by decide +kernel
theorem dX8_refusesFeed_39 : decode cX8_refusesFeed 39 = .ok (.bipush 9, 2) := by decide +kernel
theorem dX8_refusesFeed_41 : decode cX8_refusesFeed 41 = .ok (.if_icmp .le 8, 3) := by decide +kernel
theorem dX8_refusesFeed_44 : decode cX8_refusesFeed 44 = .ok (.bipush (-3), 2) := by decide +kernel
theorem dX8_refusesFeed_46 : decode cX8_refusesFeed 46 = .ok (.goto 4, 3) := by decide +kernel
theorem dX8_refusesFeed_49 : decode cX8_refusesFeed 49 = .ok (.iconst 0, 1) := by decide +kernel
theorem dX8_refusesFeed_50 : decode cX8_refusesFeed 50 = .ok (.ireturn, 1) := by decide +kernel
def p_X8_refusesFeed (F : Nat) (p2 : Int32) (p3 : Int32) (x_cats : Int32) (n_b1 : Nat) (f_b1 : Nat → Int32) (Post : Int32 → Prop) : Prop := (p_X8_isCat F p2 x_cats (fun (r_2 : Int32) => ((r_2 = 0 → (Post (-1 : Int32))) ∧ (¬ r_2 = 0 → (p_X8_in F p3 (1 : Int32) (9 : Int32) (fun (r_12 : Int32) => ((¬ r_12 = 0 → (vp_in (44 : Int32) n_b1 ∧ ((p3 ≤ (f_b1 (44 : Int32).toNatClampNeg) → (vp_in ((20 : Int32) + p2) n_b1 ∧ ((((f_b1 ((20 : Int32) + p2).toNatClampNeg) + p3) ≤ (9 : Int32) → (Post (0 : Int32))) ∧ (¬ ((f_b1 ((20 : Int32) + p2).toNatClampNeg) + p3) ≤ (9 : Int32) → (Post (-3 : Int32)))))) ∧ (¬ p3 ≤ (f_b1 (44 : Int32).toNatClampNeg) → (Post (-2 : Int32)))))) ∧ (r_12 = 0 → (Post (-1 : Int32))))))))))
set_option maxHeartbeats 4000000 in
set_option maxRecDepth 100000 in
theorem c_X8_refusesFeed (l : Launch) (D : va_G) (cT : Nat → ClassId) (F : Nat) (h : Nat) (b1 : Nat) (p2 : Int32) (p3 : Int32) (w_now : Value) (x_arches : Int32) (x_cats : Int32) (w_text : Value) (x_typed : Int32) (w_row : Value) (x_rowMany : Int32) (x_thrown : Int32) (w_read : Value) (x_length : Int32) (x_top : Int32) (x_at : Int32) (x_wrong : Int32) (w_told : Value) (w_rule : Value) (w_otherRule : Value) (x_ruleSize : Int32) (x_isAsked : Int32) (w_asked : Value) (w_undos : Value) (x_undoMany : Int32) (w_aside : Value) (w_then : Value) (w_hold : Value) (x_dropped : Int32) (w_acts : Value) (w_guarded : Value) (w_train : Value) (x_trolleyEnd : Int32) (w_feltOf : Value) (w_feltBy : Value) (x_feltMany : Int32) (w_many : Value) (w_heardOf : Value) (w_heardBy : Value) (x_heardMany : Int32) (w_worth : Value) (x_drawn : Int32) (x_came : Int32) (w_kept : Value) (w_isKept : Value) (w_keptCame : Value) (n_b1 : Nat) (f_b1 : Nat → Int32) (Post : Int32 → Prop) (hg : p_X8_refusesFeed F p2 p3 x_cats n_b1 f_b1 Post) : MRi l D cT yX8_refusesFeed cX8_refusesFeed 4 (some .int) 2 43 [.ref h, .ref b1, .int p2, .int p3] [(h, oX8 w_now (.int x_arches) (.int x_cats) w_text (.int x_typed) w_row (.int x_rowMany) (.int x_thrown) w_read (.int x_length) (.int x_top) (.int x_at) (.int x_wrong) w_told w_rule w_otherRule (.int x_ruleSize) (.int x_isAsked) w_asked w_undos (.int x_undoMany) w_aside w_then w_hold (.int x_dropped) w_acts w_guarded w_train (.int x_trolleyEnd) w_feltOf w_feltBy (.int x_feltMany) w_many w_heardOf w_heardBy (.int x_heardMany) w_worth (.int x_drawn) (.int x_came) w_kept w_isKept w_keptCame), (b1, aI cT n_b1 f_b1)] Post := by
  refine MRi.of (by decide) (Nat.le_of_ble_eq_true rfl) ?_
  intro p e s m below meth c hA C0 hr hP hD hS ls hl
  have hl : lv_has ls 4 [(0, .ref h), (1, .ref b1), (2, .int p2), (3, .int p3)] := hl
  have hx := C0.x
  have hb := C0.b
  have hP : va_P D cls9 [(h, oX8 w_now (.int x_arches) (.int x_cats) w_text (.int x_typed) w_row (.int x_rowMany) (.int x_thrown) w_read (.int x_length) (.int x_top) (.int x_at) (.int x_wrong) w_told w_rule w_otherRule (.int x_ruleSize) (.int x_isAsked) w_asked w_undos (.int x_undoMany) w_aside w_then w_hold (.int x_dropped) w_acts w_guarded w_train (.int x_trolleyEnd) w_feltOf w_feltBy (.int x_feltMany) w_many w_heardOf w_heardBy (.int x_heardMany) w_worth (.int x_drawn) (.int x_came) w_kept w_isKept w_keptCame), (b1, aI cT n_b1 f_b1)] s.heap := hP
  have hD : va_D (fun q => cT 6 ≤ q) [(h, oX8 w_now (.int x_arches) (.int x_cats) w_text (.int x_typed) w_row (.int x_rowMany) (.int x_thrown) w_read (.int x_length) (.int x_top) (.int x_at) (.int x_wrong) w_told w_rule w_otherRule (.int x_ruleSize) (.int x_isAsked) w_asked w_undos (.int x_undoMany) w_aside w_then w_hold (.int x_dropped) w_acts w_guarded w_train (.int x_trolleyEnd) w_feltOf w_feltBy (.int x_feltMany) w_many w_heardOf w_heardBy (.int x_heardMany) w_worth (.int x_drawn) (.int x_came) w_kept w_isKept w_keptCame), (b1, aI cT n_b1 f_b1)] := hD
  unfold p_X8_refusesFeed at hg
  refine lv_aload_n hx hb dX8_refusesFeed_0 rfl (lv_at hl 0 rfl) ?_
  refine lv_iload_n hx hb dX8_refusesFeed_1 rfl (lv_at hl 2 rfl) ?_
  refine k_Vxi (rest := []) C0 lk_X8_224 (c_X8_isCat l D cT F h p2 w_now x_arches x_cats w_text x_typed w_row x_rowMany x_thrown w_read x_length x_top x_at x_wrong w_told w_rule w_otherRule x_ruleSize x_isAsked w_asked w_undos x_undoMany w_aside w_then w_hold x_dropped w_acts w_guarded w_train x_trolleyEnd w_feltOf w_feltBy x_feltMany w_many w_heardOf w_heardBy x_heardMany w_worth x_drawn x_came w_kept w_isKept w_keptCame _ hg) hP hD hS hA [0] (by decide +kernel) rfl rfl rfl ⟨Nat.le_of_ble_eq_true rfl, Nat.le_of_ble_eq_true rfl⟩ rfl hl.1 rfl (Nat.le_of_ble_eq_true rfl) dX8_refusesFeed_2 ⟨Nat.le_of_ble_eq_true rfl, Nat.le_of_ble_eq_true rfl⟩ (fun r_2 hg => ?_)
  refine lv_if_eq (tgt := 18) hx hb dX8_refusesFeed_5 (by decide) (fun c_5 => ?_) (fun c_5 => ?_)
  · have hg := hg.1 c_5
    refine lv_iconst (v := (-1 : Int32)) hx hb dX8_refusesFeed_18 (by decide) ?_
    exact k_xiret C0 hr hg dX8_refusesFeed_19
  have hg := hg.2 c_5
  refine lv_iload_n hx hb dX8_refusesFeed_8 rfl (lv_at hl 3 rfl) ?_
  refine lv_iconst (v := (1 : Int32)) hx hb dX8_refusesFeed_9 (by decide) ?_
  refine lv_bipush (v := (9 : Int32)) hx hb dX8_refusesFeed_10 (by decide) ?_
  refine k_Sxi (rest := []) C0 lk_X8_92 (c_X8_in l D cT F p3 (1 : Int32) (9 : Int32) _ hg) hP hD hS hA [] (by decide +kernel) rfl ⟨Nat.le_of_ble_eq_true rfl, Nat.le_of_ble_eq_true rfl⟩ rfl hl.1 rfl (Nat.le_of_ble_eq_true rfl) dX8_refusesFeed_12 ⟨Nat.le_of_ble_eq_true rfl, Nat.le_of_ble_eq_true rfl⟩ (fun r_12 hg => ?_)
  refine lv_if_ne (tgt := 20) hx hb dX8_refusesFeed_15 (by decide) (fun c_15 => ?_) (fun c_15 => ?_)
  · have hg := hg.1 c_15
    refine lv_aload_n hx hb dX8_refusesFeed_20 rfl (lv_at hl 1 rfl) ?_
    refine lv_bipush (v := (44 : Int32)) hx hb dX8_refusesFeed_21 (by decide) ?_
    obtain ⟨g_23, hg⟩ := hg
    refine k_iald C0 hP 1 rfl g_23 dX8_refusesFeed_23 ?_
    refine lv_iload_n hx hb dX8_refusesFeed_24 rfl (lv_at hl 3 rfl) ?_
    refine lv_icmp_ge (tgt := 31) hx hb dX8_refusesFeed_25 (by decide) (fun c_25 => ?_) (fun c_25 => ?_)
    · have hg := hg.1 c_25
      refine lv_aload_n hx hb dX8_refusesFeed_31 rfl (lv_at hl 1 rfl) ?_
      refine lv_bipush (v := (20 : Int32)) hx hb dX8_refusesFeed_32 (by decide) ?_
      refine lv_iload_n hx hb dX8_refusesFeed_34 rfl (lv_at hl 2 rfl) ?_
      refine lv_iadd hx hb dX8_refusesFeed_35 ?_
      obtain ⟨g_36, hg⟩ := hg
      refine k_iald C0 hP 1 rfl g_36 dX8_refusesFeed_36 ?_
      refine lv_iload_n hx hb dX8_refusesFeed_37 rfl (lv_at hl 3 rfl) ?_
      refine lv_iadd hx hb dX8_refusesFeed_38 ?_
      refine lv_bipush (v := (9 : Int32)) hx hb dX8_refusesFeed_39 (by decide) ?_
      refine lv_icmp_le (tgt := 49) hx hb dX8_refusesFeed_41 (by decide) (fun c_41 => ?_) (fun c_41 => ?_)
      · have hg := hg.1 c_41
        refine lv_iconst (v := (0 : Int32)) hx hb dX8_refusesFeed_49 (by decide) ?_
        exact k_xiret C0 hr hg dX8_refusesFeed_50
      have hg := hg.2 c_41
      refine lv_bipush (v := (-3 : Int32)) hx hb dX8_refusesFeed_44 (by decide) ?_
      refine lv_goto (tgt := 50) hx hb dX8_refusesFeed_46 (by decide) ?_
      exact k_xiret C0 hr hg dX8_refusesFeed_50
    have hg := hg.2 c_25
    refine lv_bipush (v := (-2 : Int32)) hx hb dX8_refusesFeed_28 (by decide) ?_
    exact k_xiret C0 hr hg dX8_refusesFeed_30
  have hg := hg.2 c_15
  refine lv_iconst (v := (-1 : Int32)) hx hb dX8_refusesFeed_18 (by decide) ?_
  exact k_xiret C0 hr hg dX8_refusesFeed_19
theorem dX8_goFeed_0 : decode cX8_goFeed 0 = .ok (.aload_n 0, 1) := by decide +kernel
theorem dX8_goFeed_1 : decode cX8_goFeed 1 = .ok (.bipush 44, 2) := by decide +kernel
theorem dX8_goFeed_3 : decode cX8_goFeed 3 = .ok (.dup2, 1) := by decide +kernel
theorem dX8_goFeed_4 : decode cX8_goFeed 4 = .ok (.iaload, 1) := by decide +kernel
theorem dX8_goFeed_5 : decode cX8_goFeed 5 = .ok (.iload_n 2, 1) := by decide +kernel
theorem dX8_goFeed_6 : decode cX8_goFeed 6 = .ok (.isub, 1) := by decide +kernel
theorem dX8_goFeed_7 : decode cX8_goFeed 7 = .ok (.iastore, 1) := by decide +kernel
theorem dX8_goFeed_8 : decode cX8_goFeed 8 = .ok (.aload_n 0, 1) := by decide +kernel
theorem dX8_goFeed_9 : decode cX8_goFeed 9 = .ok (.bipush 20, 2) := by decide +kernel
theorem dX8_goFeed_11 : decode cX8_goFeed 11 = .ok (.iload_n 1, 1) := by decide +kernel
theorem dX8_goFeed_12 : decode cX8_goFeed 12 = .ok (.iadd, 1) := by decide +kernel
theorem dX8_goFeed_13 : decode cX8_goFeed 13 = .ok (.dup2, 1) := by decide +kernel
theorem dX8_goFeed_14 : decode cX8_goFeed 14 = .ok (.iaload, 1) := by decide +kernel
theorem dX8_goFeed_15 : decode cX8_goFeed 15 = .ok (.iload_n 2, 1) := by decide +kernel
theorem dX8_goFeed_16 : decode cX8_goFeed 16 = .ok (.iadd, 1) := by decide +kernel
theorem dX8_goFeed_17 : decode cX8_goFeed 17 = .ok (.iastore, 1) := by decide +kernel
theorem dX8_goFeed_18 : decode cX8_goFeed 18 = .ok (.return_, 1) := by decide +kernel
def p_X8_goFeed (F : Nat) (p1 : Int32) (p2 : Int32) (n_b0 : Nat) (f_b0 : Nat → Int32) (Post : (Nat → Int32) → Prop) : Prop := (vp_in (44 : Int32) n_b0 ∧ (vp_in (44 : Int32) n_b0 ∧ (vp_in ((20 : Int32) + p1) n_b0 ∧ (vp_in ((20 : Int32) + p1) n_b0 ∧ (Post (upd (upd f_b0 (44 : Int32).toNatClampNeg ((f_b0 (44 : Int32).toNatClampNeg) - p2)) ((20 : Int32) + p1).toNatClampNeg (((upd f_b0 (44 : Int32).toNatClampNeg ((f_b0 (44 : Int32).toNatClampNeg) - p2)) ((20 : Int32) + p1).toNatClampNeg) + p2)))))))
set_option maxHeartbeats 4000000 in
set_option maxRecDepth 100000 in
theorem c_X8_goFeed (l : Launch) (D : va_G) (cT : Nat → ClassId) (F : Nat) (b0 : Nat) (p1 : Int32) (p2 : Int32) (n_b0 : Nat) (f_b0 : Nat → Int32) (Post : (Nat → Int32) → Prop) (hg : p_X8_goFeed F p1 p2 n_b0 f_b0 Post) : MWv l D cT yX8_goFeed cX8_goFeed 3 none 0 0 0 0 [.ref b0, .int p1, .int p2] [(b0, aI cT n_b0 f_b0)] Post (fun (u : (Nat → Int32)) => [(b0, aI cT n_b0 u)]) := by
  refine MWv.of (by decide) (Nat.le_of_ble_eq_true rfl) ?_
  intro p e s m below meth c A hA C0 hnm hr hP hD ls hl
  have hl : lv_has ls 3 [(0, .ref b0), (1, .int p1), (2, .int p2)] := hl
  have hx := C0.x
  have hb := C0.b
  have hS : va_S A s.heap s.heap [] := va_S.rf
  have hP : va_P D cls9 [(b0, aI cT n_b0 f_b0)] s.heap := hP
  have hD : va_D A [(b0, aI cT n_b0 f_b0)] := hD
  unfold p_X8_goFeed at hg
  refine lv_aload_n hx hb dX8_goFeed_0 rfl (lv_at hl 0 rfl) ?_
  refine lv_bipush (v := (44 : Int32)) hx hb dX8_goFeed_1 (by decide) ?_
  refine lv_dup2_11 hx hb dX8_goFeed_3 rfl rfl ?_
  obtain ⟨g_4, hg⟩ := hg
  refine k_iald C0 hP 0 rfl g_4 dX8_goFeed_4 ?_
  refine lv_iload_n hx hb dX8_goFeed_5 rfl (lv_at hl 2 rfl) ?_
  refine lv_isub hx hb dX8_goFeed_6 ?_
  obtain ⟨g_7, hg⟩ := hg
  refine k_iast C0 hP hD hS 0 rfl g_7 (ws' := [(b0, aI cT n_b0 (upd f_b0 (44 : Int32).toNatClampNeg ((f_b0 (44 : Int32).toNatClampNeg) - p2)))]) rfl dX8_goFeed_7 (fun H locs hP hD hS => ?_)
  refine lv_aload_n hx hb dX8_goFeed_8 rfl (lv_at hl 0 rfl) ?_
  refine lv_bipush (v := (20 : Int32)) hx hb dX8_goFeed_9 (by decide) ?_
  refine lv_iload_n hx hb dX8_goFeed_11 rfl (lv_at hl 1 rfl) ?_
  refine lv_iadd hx hb dX8_goFeed_12 ?_
  refine lv_dup2_11 hx hb dX8_goFeed_13 rfl rfl ?_
  obtain ⟨g_14, hg⟩ := hg
  refine k_iald C0 hP 0 rfl g_14 dX8_goFeed_14 ?_
  refine lv_iload_n hx hb dX8_goFeed_15 rfl (lv_at hl 2 rfl) ?_
  refine lv_iadd hx hb dX8_goFeed_16 ?_
  obtain ⟨g_17, hg⟩ := hg
  refine k_iast C0 hP hD hS 0 rfl g_17 (ws' := [(b0, aI cT n_b0 (upd (upd f_b0 (44 : Int32).toNatClampNeg ((f_b0 (44 : Int32).toNatClampNeg) - p2)) ((20 : Int32) + p1).toNatClampNeg (((upd f_b0 (44 : Int32).toNatClampNeg ((f_b0 (44 : Int32).toNatClampNeg) - p2)) ((20 : Int32) + p1).toNatClampNeg) + p2)))]) rfl dX8_goFeed_17 (fun H locs hP hD hS => ?_)
  exact k_vret C0 hr (upd (upd f_b0 (44 : Int32).toNatClampNeg ((f_b0 (44 : Int32).toNatClampNeg) - p2)) ((20 : Int32) + p1).toNatClampNeg (((upd f_b0 (44 : Int32).toNatClampNeg ((f_b0 (44 : Int32).toNatClampNeg) - p2)) ((20 : Int32) + p1).toNatClampNeg) + p2)) hg hP hD hS dX8_goFeed_18
theorem dX8_feeds_0 : decode cX8_feeds 0 = .ok (.aload_n 0, 1) := by decide +kernel
theorem dX8_feeds_1 : decode cX8_feeds 1 = .ok (.iconst 0, 1) := by decide +kernel
theorem dX8_feeds_2 : decode cX8_feeds 2 = .ok (.putfield 82, 3) := by decide +kernel
theorem dX8_feeds_5 : decode cX8_feeds 5 = .ok (.aload_n 0, 1) := by decide +kernel
theorem dX8_feeds_6 : decode cX8_feeds 6 = .ok (.aload_n 0, 1) := by decide +kernel
theorem dX8_feeds_7 : decode cX8_feeds 7 = .ok (.getfield 9, 3) := by decide +kernel
theorem dX8_feeds_10 : decode cX8_feeds 10 = .ok (.iload_n 1, 1) := by decide +kernel
theorem dX8_feeds_11 : decode cX8_feeds 11 = .ok (.iload_n 2, 1) := by decide +kernel
theorem dX8_feeds_12 : decode cX8_feeds 12 = .ok (.invokevirtual 257, 3) := by decide +kernel
theorem dX8_feeds_15 : decode cX8_feeds 15 = .ok (.istore_n 3, 1) := by decide +kernel
theorem dX8_feeds_16 : decode cX8_feeds 16 = .ok (.iload_n 3, 1) := by decide +kernel
theorem dX8_feeds_17 : decode cX8_feeds 17 = .ok (.ifCond .ge 5, 3) := by decide +kernel
theorem dX8_feeds_20 : decode cX8_feeds 20 = .ok (.iload_n 3, 1) := by decide +kernel
theorem dX8_feeds_21 : decode cX8_feeds 21 = .ok (.ireturn, 1) := by decide +kernel
theorem dX8_feeds_22 : decode cX8_feeds 22 = .ok (.aload_n 0, 1) := by decide +kernel
theorem dX8_feeds_23 : decode cX8_feeds 23 = .ok (.aload_n 0, 1) := by decide +kernel
theorem dX8_feeds_24 : decode cX8_feeds 24 = .ok (.getfield 9, 3) := by decide +kernel
theorem dX8_feeds_27 : decode cX8_feeds 27 = .ok (.invokevirtual 246, 3) := by decide +kernel
theorem dX8_feeds_30 : decode cX8_feeds 30 = .ok (.aload_n 0, 1) := by decide +kernel
theorem dX8_feeds_31 : decode cX8_feeds 31 = .ok (.getfield 9, 3) := by decide +kernel
theorem dX8_feeds_34 : decode cX8_feeds 34 = .ok (.iload_n 1, 1) := by decide +kernel
theorem dX8_feeds_35 : decode cX8_feeds 35 = .ok (.iload_n 2, 1) := by decide +kernel
theorem dX8_feeds_36 : decode cX8_feeds 36 = .ok (.invokestatic 260, 3) := by decide +kernel
theorem dX8_feeds_39 : decode cX8_feeds 39 = .ok (.aload_n 0, 1) := by decide +kernel
theorem dX8_feeds_40 : decode cX8_feeds 40 = .ok (.getfield 9, 3) := by decide +kernel
theorem dX8_feeds_43 : decode cX8_feeds 43 = .ok (.bipush 20, 2) := by decide +kernel
theorem dX8_feeds_45 : decode cX8_feeds 45 = .ok (.iload_n 1, 1) := by decide +kernel
theorem dX8_feeds_46 : decode cX8_feeds 46 = .ok (.iadd, 1) := by decide +kernel
theorem dX8_feeds_47 : decode cX8_feeds 47 = .ok (.iaload, 1) := by decide +kernel
theorem dX8_feeds_48 : decode cX8_feeds 48 = .ok (.ireturn, 1) := by decide +kernel
def p_X8_feeds (F : Nat) (p1 : Int32) (p2 : Int32) (x_cats : Int32) (x_undoMany : Int32) (f_now : Nat → Int32) (f_undos : Nat → Int32) (Post : Int32 → (Int32 × Int32 × (Nat → Int32) × (Nat → Int32)) → Prop) : Prop := (p_X8_refusesFeed F p1 p2 x_cats 47 f_now (fun (r_12 : Int32) => ((0 ≤ r_12 → (p_X8_remember F x_undoMany f_undos 47 f_now (fun (u_27 : (Int32 × (Nat → Int32))) => (p_X8_goFeed F p1 p2 47 f_now (fun (u_36 : (Nat → Int32)) => (vp_in ((20 : Int32) + p1) 47 ∧ (Post (u_36 ((20 : Int32) + p1).toNatClampNeg) ((0 : Int32), u_27.1, u_36, u_27.2)))))))) ∧ (¬ 0 ≤ r_12 → (Post r_12 ((0 : Int32), x_undoMany, f_now, f_undos))))))
set_option maxHeartbeats 4000000 in
set_option maxRecDepth 100000 in
theorem c_X8_feeds (l : Launch) (D : va_G) (cT : Nat → ClassId) (F : Nat) (h : Nat) (p1 : Int32) (p2 : Int32) (q_now : Nat) (x_arches : Int32) (x_cats : Int32) (w_text : Value) (x_typed : Int32) (w_row : Value) (x_rowMany : Int32) (x_thrown : Int32) (w_read : Value) (x_length : Int32) (x_top : Int32) (x_at : Int32) (x_wrong : Int32) (w_told : Value) (w_rule : Value) (w_otherRule : Value) (x_ruleSize : Int32) (x_isAsked : Int32) (w_asked : Value) (q_undos : Nat) (x_undoMany : Int32) (w_aside : Value) (w_then : Value) (w_hold : Value) (x_dropped : Int32) (w_acts : Value) (w_guarded : Value) (w_train : Value) (x_trolleyEnd : Int32) (w_feltOf : Value) (w_feltBy : Value) (x_feltMany : Int32) (w_many : Value) (w_heardOf : Value) (w_heardBy : Value) (x_heardMany : Int32) (w_worth : Value) (x_drawn : Int32) (x_came : Int32) (w_kept : Value) (w_isKept : Value) (w_keptCame : Value) (f_now : Nat → Int32) (f_undos : Nat → Int32) (Post : Int32 → (Int32 × Int32 × (Nat → Int32) × (Nat → Int32)) → Prop) (hg : p_X8_feeds F p1 p2 x_cats x_undoMany f_now f_undos Post) : MWi l D cT yX8_feeds cX8_feeds 4 (some .int) 3 66 0 0 [.ref h, .int p1, .int p2] [(h, oX8 (.ref q_now) (.int x_arches) (.int x_cats) w_text (.int x_typed) w_row (.int x_rowMany) (.int x_thrown) w_read (.int x_length) (.int x_top) (.int x_at) (.int x_wrong) w_told w_rule w_otherRule (.int x_ruleSize) (.int x_isAsked) w_asked (.ref q_undos) (.int x_undoMany) w_aside w_then w_hold (.int x_dropped) w_acts w_guarded w_train (.int x_trolleyEnd) w_feltOf w_feltBy (.int x_feltMany) w_many w_heardOf w_heardBy (.int x_heardMany) w_worth (.int x_drawn) (.int x_came) w_kept w_isKept w_keptCame), (q_now, aI cT 47 f_now), (q_undos, aI cT 564 f_undos)] Post (fun (u : (Int32 × Int32 × (Nat → Int32) × (Nat → Int32))) => [(h, oX8 (.ref q_now) (.int x_arches) (.int x_cats) w_text (.int x_typed) w_row (.int x_rowMany) (.int u.1) w_read (.int x_length) (.int x_top) (.int x_at) (.int x_wrong) w_told w_rule w_otherRule (.int x_ruleSize) (.int x_isAsked) w_asked (.ref q_undos) (.int u.2.1) w_aside w_then w_hold (.int x_dropped) w_acts w_guarded w_train (.int x_trolleyEnd) w_feltOf w_feltBy (.int x_feltMany) w_many w_heardOf w_heardBy (.int x_heardMany) w_worth (.int x_drawn) (.int x_came) w_kept w_isKept w_keptCame), (q_now, aI cT 47 u.2.2.1), (q_undos, aI cT 564 u.2.2.2)]) := by
  refine MWi.of (by decide) (Nat.le_of_ble_eq_true rfl) ?_
  intro p e s m below meth c A hA C0 hnm hr hP hD ls hl
  have hl : lv_has ls 4 [(0, .ref h), (1, .int p1), (2, .int p2)] := hl
  have hx := C0.x
  have hb := C0.b
  have hS : va_S A s.heap s.heap [] := va_S.rf
  have hP : va_P D cls9 [(h, oX8 (.ref q_now) (.int x_arches) (.int x_cats) w_text (.int x_typed) w_row (.int x_rowMany) (.int x_thrown) w_read (.int x_length) (.int x_top) (.int x_at) (.int x_wrong) w_told w_rule w_otherRule (.int x_ruleSize) (.int x_isAsked) w_asked (.ref q_undos) (.int x_undoMany) w_aside w_then w_hold (.int x_dropped) w_acts w_guarded w_train (.int x_trolleyEnd) w_feltOf w_feltBy (.int x_feltMany) w_many w_heardOf w_heardBy (.int x_heardMany) w_worth (.int x_drawn) (.int x_came) w_kept w_isKept w_keptCame), (q_now, aI cT 47 f_now), (q_undos, aI cT 564 f_undos)] s.heap := hP
  have hD : va_D A [(h, oX8 (.ref q_now) (.int x_arches) (.int x_cats) w_text (.int x_typed) w_row (.int x_rowMany) (.int x_thrown) w_read (.int x_length) (.int x_top) (.int x_at) (.int x_wrong) w_told w_rule w_otherRule (.int x_ruleSize) (.int x_isAsked) w_asked (.ref q_undos) (.int x_undoMany) w_aside w_then w_hold (.int x_dropped) w_acts w_guarded w_train (.int x_trolleyEnd) w_feltOf w_feltBy (.int x_feltMany) w_many w_heardOf w_heardBy (.int x_heardMany) w_worth (.int x_drawn) (.int x_came) w_kept w_isKept w_keptCame), (q_now, aI cT 47 f_now), (q_undos, aI cT 564 f_undos)] := hD
  unfold p_X8_feeds at hg
  refine lv_aload_n hx hb dX8_feeds_0 rfl (lv_at hl 0 rfl) ?_
  refine lv_iconst (v := (0 : Int32)) hx hb dX8_feeds_1 (by decide) ?_
  refine pf_X8_82 C0 hP hD hS 0 rfl (Nat.le_of_ble_eq_true rfl) (ws2 := [(h, oX8 (.ref q_now) (.int x_arches) (.int x_cats) w_text (.int x_typed) w_row (.int x_rowMany) (.int (0 : Int32)) w_read (.int x_length) (.int x_top) (.int x_at) (.int x_wrong) w_told w_rule w_otherRule (.int x_ruleSize) (.int x_isAsked) w_asked (.ref q_undos) (.int x_undoMany) w_aside w_then w_hold (.int x_dropped) w_acts w_guarded w_train (.int x_trolleyEnd) w_feltOf w_feltBy (.int x_feltMany) w_many w_heardOf w_heardBy (.int x_heardMany) w_worth (.int x_drawn) (.int x_came) w_kept w_isKept w_keptCame), (q_now, aI cT 47 f_now), (q_undos, aI cT 564 f_undos)]) rfl dX8_feeds_2 (fun H locs hP hD hS => ?_)
  refine lv_aload_n hx hb dX8_feeds_5 rfl (lv_at hl 0 rfl) ?_
  refine lv_aload_n hx hb dX8_feeds_6 rfl (lv_at hl 0 rfl) ?_
  refine gf_X8_9 C0 hP 0 rfl rfl dX8_feeds_7 ?_
  refine lv_iload_n hx hb dX8_feeds_10 rfl (lv_at hl 1 rfl) ?_
  refine lv_iload_n hx hb dX8_feeds_11 rfl (lv_at hl 2 rfl) ?_
  refine k_Vxi (rest := []) C0 lk_X8_257 (c_X8_refusesFeed l D cT F h q_now p1 p2 (.ref q_now) x_arches x_cats w_text x_typed w_row x_rowMany (0 : Int32) w_read x_length x_top x_at x_wrong w_told w_rule w_otherRule x_ruleSize x_isAsked w_asked (.ref q_undos) x_undoMany w_aside w_then w_hold x_dropped w_acts w_guarded w_train x_trolleyEnd w_feltOf w_feltBy x_feltMany w_many w_heardOf w_heardBy x_heardMany w_worth x_drawn x_came w_kept w_isKept w_keptCame 47 f_now _ hg) hP hD hS hA [0, 1] (by decide +kernel) rfl rfl rfl ⟨Nat.le_of_ble_eq_true rfl, Nat.le_of_ble_eq_true rfl⟩ rfl hl.1 rfl (Nat.le_of_ble_eq_true rfl) dX8_feeds_12 ⟨Nat.le_of_ble_eq_true rfl, Nat.le_of_ble_eq_true rfl⟩ (fun r_12 hg => ?_)
  refine lv_istore_n (lv' := [(3, .int r_12), (0, .ref h), (1, .int p1), (2, .int p2)]) hx hb dX8_feeds_15 rfl hl (by decide) rfl (fun ls hl => ?_)
  refine lv_iload_n hx hb dX8_feeds_16 rfl (lv_at hl 0 rfl) ?_
  refine lv_if_ge (tgt := 22) hx hb dX8_feeds_17 (by decide) (fun c_17 => ?_) (fun c_17 => ?_)
  · have hg := hg.1 c_17
    refine lv_aload_n hx hb dX8_feeds_22 rfl (lv_at hl 1 rfl) ?_
    refine lv_aload_n hx hb dX8_feeds_23 rfl (lv_at hl 1 rfl) ?_
    refine gf_X8_9 C0 hP 0 rfl rfl dX8_feeds_24 ?_
    refine k_Vv (rest := []) (wr := []) (w2 := fun u_27 => [(h, oX8 (.ref q_now) (.int x_arches) (.int x_cats) w_text (.int x_typed) w_row (.int x_rowMany) (.int (0 : Int32)) w_read (.int x_length) (.int x_top) (.int x_at) (.int x_wrong) w_told w_rule w_otherRule (.int x_ruleSize) (.int x_isAsked) w_asked (.ref q_undos) (.int u_27.1) w_aside w_then w_hold (.int x_dropped) w_acts w_guarded w_train (.int x_trolleyEnd) w_feltOf w_feltBy (.int x_feltMany) w_many w_heardOf w_heardBy (.int x_heardMany) w_worth (.int x_drawn) (.int x_came) w_kept w_isKept w_keptCame), (q_undos, aI cT 564 u_27.2), (q_now, aI cT 47 f_now)]) C0 lk_X8_246 (c_X8_remember l D cT F h q_now (.ref q_now) x_arches x_cats w_text x_typed w_row x_rowMany (0 : Int32) w_read x_length x_top x_at x_wrong w_told w_rule w_otherRule x_ruleSize x_isAsked w_asked q_undos x_undoMany w_aside w_then w_hold x_dropped w_acts w_guarded w_train x_trolleyEnd w_feltOf w_feltBy x_feltMany w_many w_heardOf w_heardBy x_heardMany w_worth x_drawn x_came w_kept w_isKept w_keptCame f_undos 47 f_now _ hg) hP hD hS hA [0, 2, 1] [] (by decide +kernel) rfl rfl (fun _ => rfl) rfl rfl ⟨Nat.le_of_ble_eq_true rfl, Nat.le_of_ble_eq_true rfl⟩ rfl hl.1 rfl (Nat.le_of_ble_eq_true rfl) dX8_feeds_27 ⟨Nat.le_of_ble_eq_true rfl, Nat.le_of_ble_eq_true rfl⟩ ?_
    intro u_27 H locs hg hP hD hS
    refine lv_aload_n hx hb dX8_feeds_30 rfl (lv_at hl 1 rfl) ?_
    refine gf_X8_9 C0 hP 0 rfl rfl dX8_feeds_31 ?_
    refine lv_iload_n hx hb dX8_feeds_34 rfl (lv_at hl 2 rfl) ?_
    refine lv_iload_n hx hb dX8_feeds_35 rfl (lv_at hl 3 rfl) ?_
    refine k_Sv (rest := []) (wr := [(h, oX8 (.ref q_now) (.int x_arches) (.int x_cats) w_text (.int x_typed) w_row (.int x_rowMany) (.int (0 : Int32)) w_read (.int x_length) (.int x_top) (.int x_at) (.int x_wrong) w_told w_rule w_otherRule (.int x_ruleSize) (.int x_isAsked) w_asked (.ref q_undos) (.int u_27.1) w_aside w_then w_hold (.int x_dropped) w_acts w_guarded w_train (.int x_trolleyEnd) w_feltOf w_feltBy (.int x_feltMany) w_many w_heardOf w_heardBy (.int x_heardMany) w_worth (.int x_drawn) (.int x_came) w_kept w_isKept w_keptCame), (q_undos, aI cT 564 u_27.2)]) (w2 := fun u_36 => [(h, oX8 (.ref q_now) (.int x_arches) (.int x_cats) w_text (.int x_typed) w_row (.int x_rowMany) (.int (0 : Int32)) w_read (.int x_length) (.int x_top) (.int x_at) (.int x_wrong) w_told w_rule w_otherRule (.int x_ruleSize) (.int x_isAsked) w_asked (.ref q_undos) (.int u_27.1) w_aside w_then w_hold (.int x_dropped) w_acts w_guarded w_train (.int x_trolleyEnd) w_feltOf w_feltBy (.int x_feltMany) w_many w_heardOf w_heardBy (.int x_heardMany) w_worth (.int x_drawn) (.int x_came) w_kept w_isKept w_keptCame), (q_undos, aI cT 564 u_27.2), (q_now, aI cT 47 u_36)]) C0 lk_X8_260 (c_X8_goFeed l D cT F q_now p1 p2 47 f_now _ hg) hP hD hS hA [2] [0, 1] (by decide +kernel) rfl rfl (fun _ => rfl) ⟨Nat.le_of_ble_eq_true rfl, Nat.le_of_ble_eq_true rfl⟩ rfl hl.1 rfl (Nat.le_of_ble_eq_true rfl) dX8_feeds_36 ⟨Nat.le_of_ble_eq_true rfl, Nat.le_of_ble_eq_true rfl⟩ ?_
    intro u_36 H locs hg hP hD hS
    refine lv_aload_n hx hb dX8_feeds_39 rfl (lv_at hl 1 rfl) ?_
    refine gf_X8_9 C0 hP 0 rfl rfl dX8_feeds_40 ?_
    refine lv_bipush (v := (20 : Int32)) hx hb dX8_feeds_43 (by decide) ?_
    refine lv_iload_n hx hb dX8_feeds_45 rfl (lv_at hl 2 rfl) ?_
    refine lv_iadd hx hb dX8_feeds_46 ?_
    obtain ⟨g_47, hg⟩ := hg
    refine k_iald C0 hP 2 rfl g_47 dX8_feeds_47 ?_
    exact k_iret C0 hr ((0 : Int32), u_27.1, u_36, u_27.2) hg (subP hP [0, 2, 1] rfl) (hD.sub [0, 2, 1] (nd2_ok _ (by decide +kernel)) rfl) hS dX8_feeds_48
  have hg := hg.2 c_17
  refine lv_iload_n hx hb dX8_feeds_20 rfl (lv_at hl 0 rfl) ?_
  exact k_iret C0 hr ((0 : Int32), x_undoMany, f_now, f_undos) hg hP hD hS dX8_feeds_21
theorem dX8_refusesPet_0 : decode cX8_refusesPet 0 = .ok (.aload_n 0, 1) := by decide +kernel
theorem dX8_refusesPet_1 : decode cX8_refusesPet 1 = .ok (.iload_n 1, 1) := by decide +kernel
theorem dX8_refusesPet_2 : decode cX8_refusesPet 2 = .ok (.invokevirtual 224, 3) := by decide +kernel
theorem dX8_refusesPet_5 : decode cX8_refusesPet 5 = .ok (.ifCond .ne 5, 3) := by decide +kernel
theorem dX8_refusesPet_8 : decode cX8_refusesPet 8 = .ok (.iconst (-1), 1) := by decide +kernel
theorem dX8_refusesPet_9 : decode cX8_refusesPet 9 = .ok (.ireturn, 1) := by decide +kernel
theorem dX8_refusesPet_10 : decode cX8_refusesPet 10 = .ok (.aload_n 0, 1) := by decide +kernel
theorem dX8_refusesPet_11 : decode cX8_refusesPet 11 = .ok (.getfield 9, 3) := by decide +kernel
theorem dX8_refusesPet_14 : decode cX8_refusesPet 14 = .ok (.bipush 12, 2) := by decide +kernel
theorem dX8_refusesPet_16 : decode cX8_refusesPet 16 = .ok (.iload_n 1, 1) := by decide +kernel
theorem dX8_refusesPet_17 : decode cX8_refusesPet 17 = .ok (.iadd, 1) := by decide +kernel
theorem dX8_refusesPet_18 : decode cX8_refusesPet 18 = .ok (.iaload, 1) := by decide +kernel
theorem dX8_refusesPet_19 : decode cX8_refusesPet 19 = .ok (.bipush 9, 2) := by decide +kernel
theorem dX8_refusesPet_21 : decode cX8_refusesPet 21 = .ok (.if_icmp .ne 8, 3) := by decide +kernel
theorem dX8_refusesPet_24 : decode cX8_refusesPet 24 = .ok (.bipush (-2), 2) := by decide +kernel
theorem dX8_refusesPet_26 : decode cX8_refusesPet 26 = .ok (.goto 4, 3) := by decide +kernel
theorem dX8_refusesPet_29 : decode cX8_refusesPet 29 = .ok (.iconst 0, 1) := by decide +kernel
theorem dX8_refusesPet_30 : decode cX8_refusesPet 30 = .ok (.ireturn, 1) := by decide +kernel
def p_X8_refusesPet (F : Nat) (p1 : Int32) (x_cats : Int32) (f_now : Nat → Int32) (Post : Int32 → Prop) : Prop := (p_X8_isCat F p1 x_cats (fun (r_2 : Int32) => ((¬ r_2 = 0 → (vp_in ((12 : Int32) + p1) 47 ∧ ((¬ (f_now ((12 : Int32) + p1).toNatClampNeg) = (9 : Int32) → (Post (0 : Int32))) ∧ ((f_now ((12 : Int32) + p1).toNatClampNeg) = (9 : Int32) → (Post (-2 : Int32)))))) ∧ (r_2 = 0 → (Post (-1 : Int32))))))
set_option maxHeartbeats 4000000 in
set_option maxRecDepth 100000 in
theorem c_X8_refusesPet (l : Launch) (D : va_G) (cT : Nat → ClassId) (F : Nat) (h : Nat) (p1 : Int32) (q_now : Nat) (x_arches : Int32) (x_cats : Int32) (w_text : Value) (x_typed : Int32) (w_row : Value) (x_rowMany : Int32) (x_thrown : Int32) (w_read : Value) (x_length : Int32) (x_top : Int32) (x_at : Int32) (x_wrong : Int32) (w_told : Value) (w_rule : Value) (w_otherRule : Value) (x_ruleSize : Int32) (x_isAsked : Int32) (w_asked : Value) (w_undos : Value) (x_undoMany : Int32) (w_aside : Value) (w_then : Value) (w_hold : Value) (x_dropped : Int32) (w_acts : Value) (w_guarded : Value) (w_train : Value) (x_trolleyEnd : Int32) (w_feltOf : Value) (w_feltBy : Value) (x_feltMany : Int32) (w_many : Value) (w_heardOf : Value) (w_heardBy : Value) (x_heardMany : Int32) (w_worth : Value) (x_drawn : Int32) (x_came : Int32) (w_kept : Value) (w_isKept : Value) (w_keptCame : Value) (f_now : Nat → Int32) (Post : Int32 → Prop) (hg : p_X8_refusesPet F p1 x_cats f_now Post) : MRi l D cT yX8_refusesPet cX8_refusesPet 2 (some .int) 2 43 [.ref h, .int p1] [(h, oX8 (.ref q_now) (.int x_arches) (.int x_cats) w_text (.int x_typed) w_row (.int x_rowMany) (.int x_thrown) w_read (.int x_length) (.int x_top) (.int x_at) (.int x_wrong) w_told w_rule w_otherRule (.int x_ruleSize) (.int x_isAsked) w_asked w_undos (.int x_undoMany) w_aside w_then w_hold (.int x_dropped) w_acts w_guarded w_train (.int x_trolleyEnd) w_feltOf w_feltBy (.int x_feltMany) w_many w_heardOf w_heardBy (.int x_heardMany) w_worth (.int x_drawn) (.int x_came) w_kept w_isKept w_keptCame), (q_now, aI cT 47 f_now)] Post := by
  refine MRi.of (by decide) (Nat.le_of_ble_eq_true rfl) ?_
  intro p e s m below meth c hA C0 hr hP hD hS ls hl
  have hl : lv_has ls 2 [(0, .ref h), (1, .int p1)] := hl
  have hx := C0.x
  have hb := C0.b
  have hP : va_P D cls9 [(h, oX8 (.ref q_now) (.int x_arches) (.int x_cats) w_text (.int x_typed) w_row (.int x_rowMany) (.int x_thrown) w_read (.int x_length) (.int x_top) (.int x_at) (.int x_wrong) w_told w_rule w_otherRule (.int x_ruleSize) (.int x_isAsked) w_asked w_undos (.int x_undoMany) w_aside w_then w_hold (.int x_dropped) w_acts w_guarded w_train (.int x_trolleyEnd) w_feltOf w_feltBy (.int x_feltMany) w_many w_heardOf w_heardBy (.int x_heardMany) w_worth (.int x_drawn) (.int x_came) w_kept w_isKept w_keptCame), (q_now, aI cT 47 f_now)] s.heap := hP
  have hD : va_D (fun q => cT 6 ≤ q) [(h, oX8 (.ref q_now) (.int x_arches) (.int x_cats) w_text (.int x_typed) w_row (.int x_rowMany) (.int x_thrown) w_read (.int x_length) (.int x_top) (.int x_at) (.int x_wrong) w_told w_rule w_otherRule (.int x_ruleSize) (.int x_isAsked) w_asked w_undos (.int x_undoMany) w_aside w_then w_hold (.int x_dropped) w_acts w_guarded w_train (.int x_trolleyEnd) w_feltOf w_feltBy (.int x_feltMany) w_many w_heardOf w_heardBy (.int x_heardMany) w_worth (.int x_drawn) (.int x_came) w_kept w_isKept w_keptCame), (q_now, aI cT 47 f_now)] := hD
  unfold p_X8_refusesPet at hg
  refine lv_aload_n hx hb dX8_refusesPet_0 rfl (lv_at hl 0 rfl) ?_
  refine lv_iload_n hx hb dX8_refusesPet_1 rfl (lv_at hl 1 rfl) ?_
  refine k_Vxi (rest := []) C0 lk_X8_224 (c_X8_isCat l D cT F h p1 (.ref q_now) x_arches x_cats w_text x_typed w_row x_rowMany x_thrown w_read x_length x_top x_at x_wrong w_told w_rule w_otherRule x_ruleSize x_isAsked w_asked w_undos x_undoMany w_aside w_then w_hold x_dropped w_acts w_guarded w_train x_trolleyEnd w_feltOf w_feltBy x_feltMany w_many w_heardOf w_heardBy x_heardMany w_worth x_drawn x_came w_kept w_isKept w_keptCame _ hg) hP hD hS hA [0] (by decide +kernel) rfl rfl rfl ⟨Nat.le_of_ble_eq_true rfl, Nat.le_of_ble_eq_true rfl⟩ rfl hl.1 rfl (Nat.le_of_ble_eq_true rfl) dX8_refusesPet_2 ⟨Nat.le_of_ble_eq_true rfl, Nat.le_of_ble_eq_true rfl⟩ (fun r_2 hg => ?_)
  refine lv_if_ne (tgt := 10) hx hb dX8_refusesPet_5 (by decide) (fun c_5 => ?_) (fun c_5 => ?_)
  · have hg := hg.1 c_5
    refine lv_aload_n hx hb dX8_refusesPet_10 rfl (lv_at hl 0 rfl) ?_
    refine gf_X8_9 C0 hP 0 rfl rfl dX8_refusesPet_11 ?_
    refine lv_bipush (v := (12 : Int32)) hx hb dX8_refusesPet_14 (by decide) ?_
    refine lv_iload_n hx hb dX8_refusesPet_16 rfl (lv_at hl 1 rfl) ?_
    refine lv_iadd hx hb dX8_refusesPet_17 ?_
    obtain ⟨g_18, hg⟩ := hg
    refine k_iald C0 hP 1 rfl g_18 dX8_refusesPet_18 ?_
    refine lv_bipush (v := (9 : Int32)) hx hb dX8_refusesPet_19 (by decide) ?_
    refine lv_icmp_ne (tgt := 29) hx hb dX8_refusesPet_21 (by decide) (fun c_21 => ?_) (fun c_21 => ?_)
    · have hg := hg.1 c_21
      refine lv_iconst (v := (0 : Int32)) hx hb dX8_refusesPet_29 (by decide) ?_
      exact k_xiret C0 hr hg dX8_refusesPet_30
    have hg := hg.2 c_21
    refine lv_bipush (v := (-2 : Int32)) hx hb dX8_refusesPet_24 (by decide) ?_
    refine lv_goto (tgt := 30) hx hb dX8_refusesPet_26 (by decide) ?_
    exact k_xiret C0 hr hg dX8_refusesPet_30
  have hg := hg.2 c_5
  refine lv_iconst (v := (-1 : Int32)) hx hb dX8_refusesPet_8 (by decide) ?_
  exact k_xiret C0 hr hg dX8_refusesPet_9
theorem dX8_pets_0 : decode cX8_pets 0 = .ok (.aload_n 0, 1) := by decide +kernel
theorem dX8_pets_1 : decode cX8_pets 1 = .ok (.iconst 0, 1) := by decide +kernel
theorem dX8_pets_2 : decode cX8_pets 2 = .ok (.putfield 82, 3) := by decide +kernel
theorem dX8_pets_5 : decode cX8_pets 5 = .ok (.aload_n 0, 1) := by decide +kernel
theorem dX8_pets_6 : decode cX8_pets 6 = .ok (.iload_n 1, 1) := by decide +kernel
theorem dX8_pets_7 : decode cX8_pets 7 = .ok (.invokevirtual 264, 3) := by decide +kernel
theorem dX8_pets_10 : decode cX8_pets 10 = .ok (.istore_n 2, 1) := by decide +kernel
theorem dX8_pets_11 : decode cX8_pets 11 = .ok (.iload_n 2, 1) := by decide +kernel
theorem dX8_pets_12 : decode cX8_pets 12 = .ok (.ifCond .ge 5, 3) := by decide +kernel
theorem dX8_pets_15 : decode cX8_pets 15 = .ok (.iload_n 2, 1) := by decide +kernel
theorem dX8_pets_16 : decode cX8_pets 16 = .ok (.ireturn, 1) := by decide +kernel
theorem dX8_pets_17 : decode cX8_pets 17 = .ok (.aload_n 0, 1) := by decide +kernel
theorem dX8_pets_18 : decode cX8_pets 18 = .ok (.aload_n 0, 1) := by decide +kernel
theorem dX8_pets_19 : decode cX8_pets 19 = .ok (.getfield 9, 3) := by decide +kernel
theorem dX8_pets_22 : decode cX8_pets 22 = .ok (.invokevirtual 246, 3) := by decide +kernel
theorem dX8_pets_25 : decode cX8_pets 25 = .ok (.aload_n 0, 1) := by decide +kernel
theorem dX8_pets_26 : decode cX8_pets 26 = .ok (.getfield 9, 3) := by decide +kernel
theorem dX8_pets_29 : decode cX8_pets 29 = .ok (.bipush 12, 2) := by decide +kernel
theorem dX8_pets_31 : decode cX8_pets 31 = .ok (.iload_n 1, 1) := by decide +kernel
theorem dX8_pets_32 : decode cX8_pets 32 = .ok (.iadd, 1) := by decide +kernel
theorem dX8_pets_33 : decode cX8_pets 33 = .ok (.dup2, 1) := by decide +kernel
theorem dX8_pets_34 : decode cX8_pets 34 = .ok (.iaload, 1) := by decide +kernel
theorem dX8_pets_35 : decode cX8_pets 35 = .ok (.iconst 1, 1) := by decide +kernel
theorem dX8_pets_36 : decode cX8_pets 36 = .ok (.iadd, 1) := by decide +kernel
theorem dX8_pets_37 : decode cX8_pets 37 = .ok (.iastore, 1) := by decide +kernel
theorem dX8_pets_38 : decode cX8_pets 38 = .ok (.aload_n 0, 1) := by decide +kernel
theorem dX8_pets_39 : decode cX8_pets 39 = .ok (.getfield 9, 3) := by decide +kernel
theorem dX8_pets_42 : decode cX8_pets 42 = .ok (.bipush 12, 2) := by decide +kernel
theorem dX8_pets_44 : decode cX8_pets 44 = .ok (.iload_n 1, 1) := by decide +kernel
theorem dX8_pets_45 : decode cX8_pets 45 = .ok (.iadd, 1) := by decide +kernel
theorem dX8_pets_46 : decode cX8_pets 46 = .ok (.iaload, 1) := by decide +kernel
theorem dX8_pets_47 : decode cX8_pets 47 = .ok (.ireturn, 1) := by decide +kernel
def p_X8_pets (F : Nat) (p1 : Int32) (x_cats : Int32) (x_undoMany : Int32) (f_now : Nat → Int32) (f_undos : Nat → Int32) (Post : Int32 → (Int32 × Int32 × (Nat → Int32) × (Nat → Int32)) → Prop) : Prop := (p_X8_refusesPet F p1 x_cats f_now (fun (r_7 : Int32) => ((0 ≤ r_7 → (p_X8_remember F x_undoMany f_undos 47 f_now (fun (u_22 : (Int32 × (Nat → Int32))) => (vp_in ((12 : Int32) + p1) 47 ∧ (vp_in ((12 : Int32) + p1) 47 ∧ (vp_in ((12 : Int32) + p1) 47 ∧ (Post ((upd f_now ((12 : Int32) + p1).toNatClampNeg ((f_now ((12 : Int32) + p1).toNatClampNeg) + (1 : Int32))) ((12 : Int32) + p1).toNatClampNeg) ((0 : Int32), u_22.1, (upd f_now ((12 : Int32) + p1).toNatClampNeg ((f_now ((12 : Int32) + p1).toNatClampNeg) + (1 : Int32))), u_22.2)))))))) ∧ (¬ 0 ≤ r_7 → (Post r_7 ((0 : Int32), x_undoMany, f_now, f_undos))))))
set_option maxHeartbeats 4000000 in
set_option maxRecDepth 100000 in
theorem c_X8_pets (l : Launch) (D : va_G) (cT : Nat → ClassId) (F : Nat) (h : Nat) (p1 : Int32) (q_now : Nat) (x_arches : Int32) (x_cats : Int32) (w_text : Value) (x_typed : Int32) (w_row : Value) (x_rowMany : Int32) (x_thrown : Int32) (w_read : Value) (x_length : Int32) (x_top : Int32) (x_at : Int32) (x_wrong : Int32) (w_told : Value) (w_rule : Value) (w_otherRule : Value) (x_ruleSize : Int32) (x_isAsked : Int32) (w_asked : Value) (q_undos : Nat) (x_undoMany : Int32) (w_aside : Value) (w_then : Value) (w_hold : Value) (x_dropped : Int32) (w_acts : Value) (w_guarded : Value) (w_train : Value) (x_trolleyEnd : Int32) (w_feltOf : Value) (w_feltBy : Value) (x_feltMany : Int32) (w_many : Value) (w_heardOf : Value) (w_heardBy : Value) (x_heardMany : Int32) (w_worth : Value) (x_drawn : Int32) (x_came : Int32) (w_kept : Value) (w_isKept : Value) (w_keptCame : Value) (f_now : Nat → Int32) (f_undos : Nat → Int32) (Post : Int32 → (Int32 × Int32 × (Nat → Int32) × (Nat → Int32)) → Prop) (hg : p_X8_pets F p1 x_cats x_undoMany f_now f_undos Post) : MWi l D cT yX8_pets cX8_pets 3 (some .int) 3 64 0 0 [.ref h, .int p1] [(h, oX8 (.ref q_now) (.int x_arches) (.int x_cats) w_text (.int x_typed) w_row (.int x_rowMany) (.int x_thrown) w_read (.int x_length) (.int x_top) (.int x_at) (.int x_wrong) w_told w_rule w_otherRule (.int x_ruleSize) (.int x_isAsked) w_asked (.ref q_undos) (.int x_undoMany) w_aside w_then w_hold (.int x_dropped) w_acts w_guarded w_train (.int x_trolleyEnd) w_feltOf w_feltBy (.int x_feltMany) w_many w_heardOf w_heardBy (.int x_heardMany) w_worth (.int x_drawn) (.int x_came) w_kept w_isKept w_keptCame), (q_now, aI cT 47 f_now), (q_undos, aI cT 564 f_undos)] Post (fun (u : (Int32 × Int32 × (Nat → Int32) × (Nat → Int32))) => [(h, oX8 (.ref q_now) (.int x_arches) (.int x_cats) w_text (.int x_typed) w_row (.int x_rowMany) (.int u.1) w_read (.int x_length) (.int x_top) (.int x_at) (.int x_wrong) w_told w_rule w_otherRule (.int x_ruleSize) (.int x_isAsked) w_asked (.ref q_undos) (.int u.2.1) w_aside w_then w_hold (.int x_dropped) w_acts w_guarded w_train (.int x_trolleyEnd) w_feltOf w_feltBy (.int x_feltMany) w_many w_heardOf w_heardBy (.int x_heardMany) w_worth (.int x_drawn) (.int x_came) w_kept w_isKept w_keptCame), (q_now, aI cT 47 u.2.2.1), (q_undos, aI cT 564 u.2.2.2)]) := by
  refine MWi.of (by decide) (Nat.le_of_ble_eq_true rfl) ?_
  intro p e s m below meth c A hA C0 hnm hr hP hD ls hl
  have hl : lv_has ls 3 [(0, .ref h), (1, .int p1)] := hl
  have hx := C0.x
  have hb := C0.b
  have hS : va_S A s.heap s.heap [] := va_S.rf
  have hP : va_P D cls9 [(h, oX8 (.ref q_now) (.int x_arches) (.int x_cats) w_text (.int x_typed) w_row (.int x_rowMany) (.int x_thrown) w_read (.int x_length) (.int x_top) (.int x_at) (.int x_wrong) w_told w_rule w_otherRule (.int x_ruleSize) (.int x_isAsked) w_asked (.ref q_undos) (.int x_undoMany) w_aside w_then w_hold (.int x_dropped) w_acts w_guarded w_train (.int x_trolleyEnd) w_feltOf w_feltBy (.int x_feltMany) w_many w_heardOf w_heardBy (.int x_heardMany) w_worth (.int x_drawn) (.int x_came) w_kept w_isKept w_keptCame), (q_now, aI cT 47 f_now), (q_undos, aI cT 564 f_undos)] s.heap := hP
  have hD : va_D A [(h, oX8 (.ref q_now) (.int x_arches) (.int x_cats) w_text (.int x_typed) w_row (.int x_rowMany) (.int x_thrown) w_read (.int x_length) (.int x_top) (.int x_at) (.int x_wrong) w_told w_rule w_otherRule (.int x_ruleSize) (.int x_isAsked) w_asked (.ref q_undos) (.int x_undoMany) w_aside w_then w_hold (.int x_dropped) w_acts w_guarded w_train (.int x_trolleyEnd) w_feltOf w_feltBy (.int x_feltMany) w_many w_heardOf w_heardBy (.int x_heardMany) w_worth (.int x_drawn) (.int x_came) w_kept w_isKept w_keptCame), (q_now, aI cT 47 f_now), (q_undos, aI cT 564 f_undos)] := hD
  unfold p_X8_pets at hg
  refine lv_aload_n hx hb dX8_pets_0 rfl (lv_at hl 0 rfl) ?_
  refine lv_iconst (v := (0 : Int32)) hx hb dX8_pets_1 (by decide) ?_
  refine pf_X8_82 C0 hP hD hS 0 rfl (Nat.le_of_ble_eq_true rfl) (ws2 := [(h, oX8 (.ref q_now) (.int x_arches) (.int x_cats) w_text (.int x_typed) w_row (.int x_rowMany) (.int (0 : Int32)) w_read (.int x_length) (.int x_top) (.int x_at) (.int x_wrong) w_told w_rule w_otherRule (.int x_ruleSize) (.int x_isAsked) w_asked (.ref q_undos) (.int x_undoMany) w_aside w_then w_hold (.int x_dropped) w_acts w_guarded w_train (.int x_trolleyEnd) w_feltOf w_feltBy (.int x_feltMany) w_many w_heardOf w_heardBy (.int x_heardMany) w_worth (.int x_drawn) (.int x_came) w_kept w_isKept w_keptCame), (q_now, aI cT 47 f_now), (q_undos, aI cT 564 f_undos)]) rfl dX8_pets_2 (fun H locs hP hD hS => ?_)
  refine lv_aload_n hx hb dX8_pets_5 rfl (lv_at hl 0 rfl) ?_
  refine lv_iload_n hx hb dX8_pets_6 rfl (lv_at hl 1 rfl) ?_
  refine k_Vxi (rest := []) C0 lk_X8_264 (c_X8_refusesPet l D cT F h p1 q_now x_arches x_cats w_text x_typed w_row x_rowMany (0 : Int32) w_read x_length x_top x_at x_wrong w_told w_rule w_otherRule x_ruleSize x_isAsked w_asked (.ref q_undos) x_undoMany w_aside w_then w_hold x_dropped w_acts w_guarded w_train x_trolleyEnd w_feltOf w_feltBy x_feltMany w_many w_heardOf w_heardBy x_heardMany w_worth x_drawn x_came w_kept w_isKept w_keptCame f_now _ hg) hP hD hS hA [0, 1] (by decide +kernel) rfl rfl rfl ⟨Nat.le_of_ble_eq_true rfl, Nat.le_of_ble_eq_true rfl⟩ rfl hl.1 rfl (Nat.le_of_ble_eq_true rfl) dX8_pets_7 ⟨Nat.le_of_ble_eq_true rfl, Nat.le_of_ble_eq_true rfl⟩ (fun r_7 hg => ?_)
  refine lv_istore_n (lv' := [(2, .int r_7), (0, .ref h), (1, .int p1)]) hx hb dX8_pets_10 rfl hl (by decide) rfl (fun ls hl => ?_)
  refine lv_iload_n hx hb dX8_pets_11 rfl (lv_at hl 0 rfl) ?_
  refine lv_if_ge (tgt := 17) hx hb dX8_pets_12 (by decide) (fun c_12 => ?_) (fun c_12 => ?_)
  · have hg := hg.1 c_12
    refine lv_aload_n hx hb dX8_pets_17 rfl (lv_at hl 1 rfl) ?_
    refine lv_aload_n hx hb dX8_pets_18 rfl (lv_at hl 1 rfl) ?_
    refine gf_X8_9 C0 hP 0 rfl rfl dX8_pets_19 ?_
    refine k_Vv (rest := []) (wr := []) (w2 := fun u_22 => [(h, oX8 (.ref q_now) (.int x_arches) (.int x_cats) w_text (.int x_typed) w_row (.int x_rowMany) (.int (0 : Int32)) w_read (.int x_length) (.int x_top) (.int x_at) (.int x_wrong) w_told w_rule w_otherRule (.int x_ruleSize) (.int x_isAsked) w_asked (.ref q_undos) (.int u_22.1) w_aside w_then w_hold (.int x_dropped) w_acts w_guarded w_train (.int x_trolleyEnd) w_feltOf w_feltBy (.int x_feltMany) w_many w_heardOf w_heardBy (.int x_heardMany) w_worth (.int x_drawn) (.int x_came) w_kept w_isKept w_keptCame), (q_undos, aI cT 564 u_22.2), (q_now, aI cT 47 f_now)]) C0 lk_X8_246 (c_X8_remember l D cT F h q_now (.ref q_now) x_arches x_cats w_text x_typed w_row x_rowMany (0 : Int32) w_read x_length x_top x_at x_wrong w_told w_rule w_otherRule x_ruleSize x_isAsked w_asked q_undos x_undoMany w_aside w_then w_hold x_dropped w_acts w_guarded w_train x_trolleyEnd w_feltOf w_feltBy x_feltMany w_many w_heardOf w_heardBy x_heardMany w_worth x_drawn x_came w_kept w_isKept w_keptCame f_undos 47 f_now _ hg) hP hD hS hA [0, 2, 1] [] (by decide +kernel) rfl rfl (fun _ => rfl) rfl rfl ⟨Nat.le_of_ble_eq_true rfl, Nat.le_of_ble_eq_true rfl⟩ rfl hl.1 rfl (Nat.le_of_ble_eq_true rfl) dX8_pets_22 ⟨Nat.le_of_ble_eq_true rfl, Nat.le_of_ble_eq_true rfl⟩ ?_
    intro u_22 H locs hg hP hD hS
    refine lv_aload_n hx hb dX8_pets_25 rfl (lv_at hl 1 rfl) ?_
    refine gf_X8_9 C0 hP 0 rfl rfl dX8_pets_26 ?_
    refine lv_bipush (v := (12 : Int32)) hx hb dX8_pets_29 (by decide) ?_
    refine lv_iload_n hx hb dX8_pets_31 rfl (lv_at hl 2 rfl) ?_
    refine lv_iadd hx hb dX8_pets_32 ?_
    refine lv_dup2_11 hx hb dX8_pets_33 rfl rfl ?_
    obtain ⟨g_34, hg⟩ := hg
    refine k_iald C0 hP 2 rfl g_34 dX8_pets_34 ?_
    refine lv_iconst (v := (1 : Int32)) hx hb dX8_pets_35 (by decide) ?_
    refine lv_iadd hx hb dX8_pets_36 ?_
    obtain ⟨g_37, hg⟩ := hg
    refine k_iast C0 hP hD hS 2 rfl g_37 (ws' := [(h, oX8 (.ref q_now) (.int x_arches) (.int x_cats) w_text (.int x_typed) w_row (.int x_rowMany) (.int (0 : Int32)) w_read (.int x_length) (.int x_top) (.int x_at) (.int x_wrong) w_told w_rule w_otherRule (.int x_ruleSize) (.int x_isAsked) w_asked (.ref q_undos) (.int u_22.1) w_aside w_then w_hold (.int x_dropped) w_acts w_guarded w_train (.int x_trolleyEnd) w_feltOf w_feltBy (.int x_feltMany) w_many w_heardOf w_heardBy (.int x_heardMany) w_worth (.int x_drawn) (.int x_came) w_kept w_isKept w_keptCame), (q_undos, aI cT 564 u_22.2), (q_now, aI cT 47 (upd f_now ((12 : Int32) + p1).toNatClampNeg ((f_now ((12 : Int32) + p1).toNatClampNeg) + (1 : Int32))))]) rfl dX8_pets_37 (fun H locs hP hD hS => ?_)
    refine lv_aload_n hx hb dX8_pets_38 rfl (lv_at hl 1 rfl) ?_
    refine gf_X8_9 C0 hP 0 rfl rfl dX8_pets_39 ?_
    refine lv_bipush (v := (12 : Int32)) hx hb dX8_pets_42 (by decide) ?_
    refine lv_iload_n hx hb dX8_pets_44 rfl (lv_at hl 2 rfl) ?_
    refine lv_iadd hx hb dX8_pets_45 ?_
    obtain ⟨g_46, hg⟩ := hg
    refine k_iald C0 hP 2 rfl g_46 dX8_pets_46 ?_
    exact k_iret C0 hr ((0 : Int32), u_22.1, (upd f_now ((12 : Int32) + p1).toNatClampNeg ((f_now ((12 : Int32) + p1).toNatClampNeg) + (1 : Int32))), u_22.2) hg (subP hP [0, 2, 1] rfl) (hD.sub [0, 2, 1] (nd2_ok _ (by decide +kernel)) rfl) hS dX8_pets_47
  have hg := hg.2 c_12
  refine lv_iload_n hx hb dX8_pets_15 rfl (lv_at hl 0 rfl) ?_
  exact k_iret C0 hr ((0 : Int32), x_undoMany, f_now, f_undos) hg hP hD hS dX8_pets_16
theorem dX8_canGrieve_0 : decode cX8_canGrieve 0 = .ok (.aload_n 0, 1) := by decide +kernel
theorem dX8_canGrieve_1 : decode cX8_canGrieve 1 = .ok (.iload_n 1, 1) := by decide +kernel
theorem dX8_canGrieve_2 : decode cX8_canGrieve 2 = .ok (.invokevirtual 224, 3) := by decide +kernel
theorem dX8_canGrieve_5 : decode cX8_canGrieve 5 = .ok (.ifCond .eq 17, 3) := by decide +kernel
theorem dX8_canGrieve_8 : decode cX8_canGrieve 8 = .ok (.iload_n 2, 1) := by decide +kernel
theorem dX8_canGrieve_9 : decode cX8_canGrieve 9 = .ok (.iconst 1, 1) := by decide +kernel
theorem dX8_canGrieve_10 : decode cX8_canGrieve 10 = .ok (.bipush 9, 2) := by decide +kernel
theorem dX8_canGrieve_12 : decode cX8_canGrieve 12 = .ok (.invokestatic 92, 3) := by decide +kernel
theorem dX8_canGrieve_15 : decode cX8_canGrieve 15 = .ok (.ifCond .eq 7, 3) := by decide +kernel
theorem dX8_canGrieve_18 : decode cX8_canGrieve 18 = .ok (.iconst 1, 1) := by decide +kernel
theorem dX8_canGrieve_19 : decode cX8_canGrieve 19 = .ok (.goto 4, 3) := by decide +kernel
theorem dX8_canGrieve_22 : decode cX8_canGrieve 22 = .ok (.iconst 0, 1) := by decide +kernel
theorem dX8_canGrieve_23 : decode cX8_canGrieve 23 = .ok (.ireturn, 1) := by decide +kernel
def p_X8_canGrieve (F : Nat) (p1 : Int32) (p2 : Int32) (x_cats : Int32) (Post : Int32 → Prop) : Prop := (p_X8_isCat F p1 x_cats (fun (r_2 : Int32) => ((r_2 = 0 → (Post (0 : Int32))) ∧ (¬ r_2 = 0 → (p_X8_in F p2 (1 : Int32) (9 : Int32) (fun (r_12 : Int32) => ((r_12 = 0 → (Post (0 : Int32))) ∧ (¬ r_12 = 0 → (Post (1 : Int32))))))))))
set_option maxHeartbeats 4000000 in
set_option maxRecDepth 100000 in
theorem c_X8_canGrieve (l : Launch) (D : va_G) (cT : Nat → ClassId) (F : Nat) (h : Nat) (p1 : Int32) (p2 : Int32) (w_now : Value) (x_arches : Int32) (x_cats : Int32) (w_text : Value) (x_typed : Int32) (w_row : Value) (x_rowMany : Int32) (x_thrown : Int32) (w_read : Value) (x_length : Int32) (x_top : Int32) (x_at : Int32) (x_wrong : Int32) (w_told : Value) (w_rule : Value) (w_otherRule : Value) (x_ruleSize : Int32) (x_isAsked : Int32) (w_asked : Value) (w_undos : Value) (x_undoMany : Int32) (w_aside : Value) (w_then : Value) (w_hold : Value) (x_dropped : Int32) (w_acts : Value) (w_guarded : Value) (w_train : Value) (x_trolleyEnd : Int32) (w_feltOf : Value) (w_feltBy : Value) (x_feltMany : Int32) (w_many : Value) (w_heardOf : Value) (w_heardBy : Value) (x_heardMany : Int32) (w_worth : Value) (x_drawn : Int32) (x_came : Int32) (w_kept : Value) (w_isKept : Value) (w_keptCame : Value) (Post : Int32 → Prop) (hg : p_X8_canGrieve F p1 p2 x_cats Post) : MRi l D cT yX8_canGrieve cX8_canGrieve 3 (some .boolean) 2 43 [.ref h, .int p1, .int p2] [(h, oX8 w_now (.int x_arches) (.int x_cats) w_text (.int x_typed) w_row (.int x_rowMany) (.int x_thrown) w_read (.int x_length) (.int x_top) (.int x_at) (.int x_wrong) w_told w_rule w_otherRule (.int x_ruleSize) (.int x_isAsked) w_asked w_undos (.int x_undoMany) w_aside w_then w_hold (.int x_dropped) w_acts w_guarded w_train (.int x_trolleyEnd) w_feltOf w_feltBy (.int x_feltMany) w_many w_heardOf w_heardBy (.int x_heardMany) w_worth (.int x_drawn) (.int x_came) w_kept w_isKept w_keptCame)] Post := by
  refine MRi.of (by decide) (Nat.le_of_ble_eq_true rfl) ?_
  intro p e s m below meth c hA C0 hr hP hD hS ls hl
  have hl : lv_has ls 3 [(0, .ref h), (1, .int p1), (2, .int p2)] := hl
  have hx := C0.x
  have hb := C0.b
  have hP : va_P D cls9 [(h, oX8 w_now (.int x_arches) (.int x_cats) w_text (.int x_typed) w_row (.int x_rowMany) (.int x_thrown) w_read (.int x_length) (.int x_top) (.int x_at) (.int x_wrong) w_told w_rule w_otherRule (.int x_ruleSize) (.int x_isAsked) w_asked w_undos (.int x_undoMany) w_aside w_then w_hold (.int x_dropped) w_acts w_guarded w_train (.int x_trolleyEnd) w_feltOf w_feltBy (.int x_feltMany) w_many w_heardOf w_heardBy (.int x_heardMany) w_worth (.int x_drawn) (.int x_came) w_kept w_isKept w_keptCame)] s.heap := hP
  have hD : va_D (fun q => cT 6 ≤ q) [(h, oX8 w_now (.int x_arches) (.int x_cats) w_text (.int x_typed) w_row (.int x_rowMany) (.int x_thrown) w_read (.int x_length) (.int x_top) (.int x_at) (.int x_wrong) w_told w_rule w_otherRule (.int x_ruleSize) (.int x_isAsked) w_asked w_undos (.int x_undoMany) w_aside w_then w_hold (.int x_dropped) w_acts w_guarded w_train (.int x_trolleyEnd) w_feltOf w_feltBy (.int x_feltMany) w_many w_heardOf w_heardBy (.int x_heardMany) w_worth (.int x_drawn) (.int x_came) w_kept w_isKept w_keptCame)] := hD
  unfold p_X8_canGrieve at hg
  refine lv_aload_n hx hb dX8_canGrieve_0 rfl (lv_at hl 0 rfl) ?_
  refine lv_iload_n hx hb dX8_canGrieve_1 rfl (lv_at hl 1 rfl) ?_
  refine k_Vxi (rest := []) C0 lk_X8_224 (c_X8_isCat l D cT F h p1 w_now x_arches x_cats w_text x_typed w_row x_rowMany x_thrown w_read x_length x_top x_at x_wrong w_told w_rule w_otherRule x_ruleSize x_isAsked w_asked w_undos x_undoMany w_aside w_then w_hold x_dropped w_acts w_guarded w_train x_trolleyEnd w_feltOf w_feltBy x_feltMany w_many w_heardOf w_heardBy x_heardMany w_worth x_drawn x_came w_kept w_isKept w_keptCame _ hg) hP hD hS hA [0] (by decide +kernel) rfl rfl rfl ⟨Nat.le_of_ble_eq_true rfl, Nat.le_of_ble_eq_true rfl⟩ rfl hl.1 rfl (Nat.le_of_ble_eq_true rfl) dX8_canGrieve_2 ⟨Nat.le_of_ble_eq_true rfl, Nat.le_of_ble_eq_true rfl⟩ (fun r_2 hg => ?_)
  refine lv_if_eq (tgt := 22) hx hb dX8_canGrieve_5 (by decide) (fun c_5 => ?_) (fun c_5 => ?_)
  · have hg := hg.1 c_5
    refine lv_iconst (v := (0 : Int32)) hx hb dX8_canGrieve_22 (by decide) ?_
    exact k_xzret C0 hr (Or.inl rfl) hg dX8_canGrieve_23
  have hg := hg.2 c_5
  refine lv_iload_n hx hb dX8_canGrieve_8 rfl (lv_at hl 2 rfl) ?_
  refine lv_iconst (v := (1 : Int32)) hx hb dX8_canGrieve_9 (by decide) ?_
  refine lv_bipush (v := (9 : Int32)) hx hb dX8_canGrieve_10 (by decide) ?_
  refine k_Sxi (rest := []) C0 lk_X8_92 (c_X8_in l D cT F p2 (1 : Int32) (9 : Int32) _ hg) hP hD hS hA [] (by decide +kernel) rfl ⟨Nat.le_of_ble_eq_true rfl, Nat.le_of_ble_eq_true rfl⟩ rfl hl.1 rfl (Nat.le_of_ble_eq_true rfl) dX8_canGrieve_12 ⟨Nat.le_of_ble_eq_true rfl, Nat.le_of_ble_eq_true rfl⟩ (fun r_12 hg => ?_)
  refine lv_if_eq (tgt := 22) hx hb dX8_canGrieve_15 (by decide) (fun c_15 => ?_) (fun c_15 => ?_)
  · have hg := hg.1 c_15
    refine lv_iconst (v := (0 : Int32)) hx hb dX8_canGrieve_22 (by decide) ?_
    exact k_xzret C0 hr (Or.inl rfl) hg dX8_canGrieve_23
  have hg := hg.2 c_15
  refine lv_iconst (v := (1 : Int32)) hx hb dX8_canGrieve_18 (by decide) ?_
  refine lv_goto (tgt := 23) hx hb dX8_canGrieve_19 (by decide) ?_
  exact k_xzret C0 hr (Or.inr rfl) hg dX8_canGrieve_23
theorem dX8_goGrieve_0 : decode cX8_goGrieve 0 = .ok (.aload_n 0, 1) := by decide +kernel
theorem dX8_goGrieve_1 : decode cX8_goGrieve 1 = .ok (.bipush 28, 2) := by decide +kernel
theorem dX8_goGrieve_3 : decode cX8_goGrieve 3 = .ok (.iload_n 1, 1) := by decide +kernel
theorem dX8_goGrieve_4 : decode cX8_goGrieve 4 = .ok (.iadd, 1) := by decide +kernel
theorem dX8_goGrieve_5 : decode cX8_goGrieve 5 = .ok (.bipush 9, 2) := by decide +kernel
theorem dX8_goGrieve_7 : decode cX8_goGrieve 7 = .ok (.aload_n 0, 1) := by decide +kernel
theorem dX8_goGrieve_8 : decode cX8_goGrieve 8 = .ok (.bipush 28, 2) := by decide +kernel
theorem dX8_goGrieve_10 : decode cX8_goGrieve 10 = .ok (.iload_n 1, 1) := by decide +kernel
theorem dX8_goGrieve_11 : decode cX8_goGrieve 11 = .ok (.iadd, 1) := by decide +kernel
theorem dX8_goGrieve_12 : decode cX8_goGrieve 12 = .ok (.iaload, 1) := by decide +kernel
theorem dX8_goGrieve_13 : decode cX8_goGrieve 13 = .ok (.iload_n 2, 1) := by decide +kernel
theorem dX8_goGrieve_14 : decode cX8_goGrieve 14 = .ok (.iadd, 1) := by decide +kernel
theorem dX8_goGrieve_15 : decode cX8_goGrieve 15 = .ok (.invokestatic 189, 3) := by decide +kernel
theorem dX8_goGrieve_18 : decode cX8_goGrieve 18 = .ok (.iastore, 1) := by decide +kernel
theorem dX8_goGrieve_19 : decode cX8_goGrieve 19 = .ok (.return_, 1) := by decide +kernel
def p_X8_goGrieve (F : Nat) (p1 : Int32) (p2 : Int32) (n_b0 : Nat) (f_b0 : Nat → Int32) (Post : (Nat → Int32) → Prop) : Prop := (vp_in ((28 : Int32) + p1) n_b0 ∧ (vp_in ((28 : Int32) + p1) n_b0 ∧ (Post (upd f_b0 ((28 : Int32) + p1).toNatClampNeg (if ((f_b0 ((28 : Int32) + p1).toNatClampNeg) + p2) < (9 : Int32) then ((f_b0 ((28 : Int32) + p1).toNatClampNeg) + p2) else (9 : Int32))))))
set_option maxHeartbeats 4000000 in
set_option maxRecDepth 100000 in
theorem c_X8_goGrieve (l : Launch) (D : va_G) (cT : Nat → ClassId) (F : Nat) (b0 : Nat) (p1 : Int32) (p2 : Int32) (n_b0 : Nat) (f_b0 : Nat → Int32) (Post : (Nat → Int32) → Prop) (hg : p_X8_goGrieve F p1 p2 n_b0 f_b0 Post) : MWv l D cT yX8_goGrieve cX8_goGrieve 3 none 1 30 0 0 [.ref b0, .int p1, .int p2] [(b0, aI cT n_b0 f_b0)] Post (fun (u : (Nat → Int32)) => [(b0, aI cT n_b0 u)]) := by
  refine MWv.of (by decide) (Nat.le_of_ble_eq_true rfl) ?_
  intro p e s m below meth c A hA C0 hnm hr hP hD ls hl
  have hl : lv_has ls 3 [(0, .ref b0), (1, .int p1), (2, .int p2)] := hl
  have hx := C0.x
  have hb := C0.b
  have hS : va_S A s.heap s.heap [] := va_S.rf
  have hP : va_P D cls9 [(b0, aI cT n_b0 f_b0)] s.heap := hP
  have hD : va_D A [(b0, aI cT n_b0 f_b0)] := hD
  unfold p_X8_goGrieve at hg
  refine lv_aload_n hx hb dX8_goGrieve_0 rfl (lv_at hl 0 rfl) ?_
  refine lv_bipush (v := (28 : Int32)) hx hb dX8_goGrieve_1 (by decide) ?_
  refine lv_iload_n hx hb dX8_goGrieve_3 rfl (lv_at hl 1 rfl) ?_
  refine lv_iadd hx hb dX8_goGrieve_4 ?_
  refine lv_bipush (v := (9 : Int32)) hx hb dX8_goGrieve_5 (by decide) ?_
  refine lv_aload_n hx hb dX8_goGrieve_7 rfl (lv_at hl 0 rfl) ?_
  refine lv_bipush (v := (28 : Int32)) hx hb dX8_goGrieve_8 (by decide) ?_
  refine lv_iload_n hx hb dX8_goGrieve_10 rfl (lv_at hl 1 rfl) ?_
  refine lv_iadd hx hb dX8_goGrieve_11 ?_
  obtain ⟨g_12, hg⟩ := hg
  refine k_iald C0 hP 0 rfl g_12 dX8_goGrieve_12 ?_
  refine lv_iload_n hx hb dX8_goGrieve_13 rfl (lv_at hl 2 rfl) ?_
  refine lv_iadd hx hb dX8_goGrieve_14 ?_
  refine k_min C0 w5_184 hl.1 (Nat.le_of_ble_eq_true rfl) (Nat.le_of_ble_eq_true rfl) (Nat.le_of_ble_eq_true rfl) (Nat.le_of_ble_eq_true rfl) dX8_goGrieve_15 ?_
  obtain ⟨g_18, hg⟩ := hg
  refine k_iast C0 hP hD hS 0 rfl g_18 (ws' := [(b0, aI cT n_b0 (upd f_b0 ((28 : Int32) + p1).toNatClampNeg (if ((f_b0 ((28 : Int32) + p1).toNatClampNeg) + p2) < (9 : Int32) then ((f_b0 ((28 : Int32) + p1).toNatClampNeg) + p2) else (9 : Int32))))]) rfl dX8_goGrieve_18 (fun H locs hP hD hS => ?_)
  exact k_vret C0 hr (upd f_b0 ((28 : Int32) + p1).toNatClampNeg (if ((f_b0 ((28 : Int32) + p1).toNatClampNeg) + p2) < (9 : Int32) then ((f_b0 ((28 : Int32) + p1).toNatClampNeg) + p2) else (9 : Int32))) hg hP hD hS dX8_goGrieve_19
theorem dX8_grieves_0 : decode cX8_grieves 0 = .ok (.aload_n 0, 1) := by decide +kernel
theorem dX8_grieves_1 : decode cX8_grieves 1 = .ok (.iconst 0, 1) := by decide +kernel
theorem dX8_grieves_2 : decode cX8_grieves 2 = .ok (.putfield 82, 3) := by decide +kernel
theorem dX8_grieves_5 : decode cX8_grieves 5 = .ok (.aload_n 0, 1) := by decide +kernel
theorem dX8_grieves_6 : decode cX8_grieves 6 = .ok (.iload_n 1, 1) := by decide +kernel
theorem dX8_grieves_7 : decode cX8_grieves 7 = .ok (.iload_n 2, 1) := by decide +kernel
theorem dX8_grieves_8 : decode cX8_grieves 8 = .ok (.invokevirtual 267, 3) := by decide +kernel
theorem dX8_grieves_11 : decode cX8_grieves 11 = .ok (.ifCond .ne 5, 3) := by decide +kernel
theorem dX8_grieves_14 : decode cX8_grieves 14 = .ok (.iconst (-1), 1) := by decide +kernel
theorem dX8_grieves_15 : decode cX8_grieves 15 = .ok (.ireturn, 1) := by decide +kernel
theorem dX8_grieves_16 : decode cX8_grieves 16 = .ok (.aload_n 0, 1) := by decide +kernel
theorem dX8_grieves_17 : decode cX8_grieves 17 = .ok (.aload_n 0, 1) := by decide +kernel
theorem dX8_grieves_18 : decode cX8_grieves 18 = .ok (.getfield 9, 3) := by decide +kernel
theorem dX8_grieves_21 : decode cX8_grieves 21 = .ok (.invokevirtual 246, 3) := by decide +kernel
theorem dX8_grieves_24 : decode cX8_grieves 24 = .ok (.aload_n 0, 1) := by decide +kernel
theorem dX8_grieves_25 : decode cX8_grieves 25 = .ok (.getfield 9, 3) := by decide +kernel
theorem dX8_grieves_28 : decode cX8_grieves 28 = .ok (.iload_n 1, 1) := by decide +kernel
theorem dX8_grieves_29 : decode cX8_grieves 29 = .ok (.iload_n 2, 1) := by decide +kernel
theorem dX8_grieves_30 : decode cX8_grieves 30 = .ok (.invokestatic 271, 3) := by decide +kernel
theorem dX8_grieves_33 : decode cX8_grieves 33 = .ok (.aload_n 0, 1) := by decide +kernel
theorem dX8_grieves_34 : decode cX8_grieves 34 = .ok (.getfield 9, 3) := by decide +kernel
theorem dX8_grieves_37 : decode cX8_grieves 37 = .ok (.bipush 28, 2) := by decide +kernel
theorem dX8_grieves_39 : decode cX8_grieves 39 = .ok (.iload_n 1, 1) := by decide +kernel
theorem dX8_grieves_40 : decode cX8_grieves 40 = .ok (.iadd, 1) := by decide +kernel
theorem dX8_grieves_41 : decode cX8_grieves 41 = .ok (.iaload, 1) := by decide +kernel
theorem dX8_grieves_42 : decode cX8_grieves 42 = .ok (.ireturn, 1) := by decide +kernel
def p_X8_grieves (F : Nat) (p1 : Int32) (p2 : Int32) (x_cats : Int32) (x_undoMany : Int32) (f_undos : Nat → Int32) (f_now : Nat → Int32) (Post : Int32 → (Int32 × Int32 × (Nat → Int32) × (Nat → Int32)) → Prop) : Prop := (p_X8_canGrieve F p1 p2 x_cats (fun (r_8 : Int32) => ((¬ r_8 = 0 → (p_X8_remember F x_undoMany f_undos 47 f_now (fun (u_21 : (Int32 × (Nat → Int32))) => (p_X8_goGrieve F p1 p2 47 f_now (fun (u_30 : (Nat → Int32)) => (vp_in ((28 : Int32) + p1) 47 ∧ (Post (u_30 ((28 : Int32) + p1).toNatClampNeg) ((0 : Int32), u_21.1, u_21.2, u_30)))))))) ∧ (r_8 = 0 → (Post (-1 : Int32) ((0 : Int32), x_undoMany, f_undos, f_now))))))
set_option maxHeartbeats 4000000 in
set_option maxRecDepth 100000 in
theorem c_X8_grieves (l : Launch) (D : va_G) (cT : Nat → ClassId) (F : Nat) (h : Nat) (p1 : Int32) (p2 : Int32) (q_now : Nat) (x_arches : Int32) (x_cats : Int32) (w_text : Value) (x_typed : Int32) (w_row : Value) (x_rowMany : Int32) (x_thrown : Int32) (w_read : Value) (x_length : Int32) (x_top : Int32) (x_at : Int32) (x_wrong : Int32) (w_told : Value) (w_rule : Value) (w_otherRule : Value) (x_ruleSize : Int32) (x_isAsked : Int32) (w_asked : Value) (q_undos : Nat) (x_undoMany : Int32) (w_aside : Value) (w_then : Value) (w_hold : Value) (x_dropped : Int32) (w_acts : Value) (w_guarded : Value) (w_train : Value) (x_trolleyEnd : Int32) (w_feltOf : Value) (w_feltBy : Value) (x_feltMany : Int32) (w_many : Value) (w_heardOf : Value) (w_heardBy : Value) (x_heardMany : Int32) (w_worth : Value) (x_drawn : Int32) (x_came : Int32) (w_kept : Value) (w_isKept : Value) (w_keptCame : Value) (f_undos : Nat → Int32) (f_now : Nat → Int32) (Post : Int32 → (Int32 × Int32 × (Nat → Int32) × (Nat → Int32)) → Prop) (hg : p_X8_grieves F p1 p2 x_cats x_undoMany f_undos f_now Post) : MWi l D cT yX8_grieves cX8_grieves 3 (some .int) 3 65 0 0 [.ref h, .int p1, .int p2] [(h, oX8 (.ref q_now) (.int x_arches) (.int x_cats) w_text (.int x_typed) w_row (.int x_rowMany) (.int x_thrown) w_read (.int x_length) (.int x_top) (.int x_at) (.int x_wrong) w_told w_rule w_otherRule (.int x_ruleSize) (.int x_isAsked) w_asked (.ref q_undos) (.int x_undoMany) w_aside w_then w_hold (.int x_dropped) w_acts w_guarded w_train (.int x_trolleyEnd) w_feltOf w_feltBy (.int x_feltMany) w_many w_heardOf w_heardBy (.int x_heardMany) w_worth (.int x_drawn) (.int x_came) w_kept w_isKept w_keptCame), (q_undos, aI cT 564 f_undos), (q_now, aI cT 47 f_now)] Post (fun (u : (Int32 × Int32 × (Nat → Int32) × (Nat → Int32))) => [(h, oX8 (.ref q_now) (.int x_arches) (.int x_cats) w_text (.int x_typed) w_row (.int x_rowMany) (.int u.1) w_read (.int x_length) (.int x_top) (.int x_at) (.int x_wrong) w_told w_rule w_otherRule (.int x_ruleSize) (.int x_isAsked) w_asked (.ref q_undos) (.int u.2.1) w_aside w_then w_hold (.int x_dropped) w_acts w_guarded w_train (.int x_trolleyEnd) w_feltOf w_feltBy (.int x_feltMany) w_many w_heardOf w_heardBy (.int x_heardMany) w_worth (.int x_drawn) (.int x_came) w_kept w_isKept w_keptCame), (q_undos, aI cT 564 u.2.2.1), (q_now, aI cT 47 u.2.2.2)]) := by
  refine MWi.of (by decide) (Nat.le_of_ble_eq_true rfl) ?_
  intro p e s m below meth c A hA C0 hnm hr hP hD ls hl
  have hl : lv_has ls 3 [(0, .ref h), (1, .int p1), (2, .int p2)] := hl
  have hx := C0.x
  have hb := C0.b
  have hS : va_S A s.heap s.heap [] := va_S.rf
  have hP : va_P D cls9 [(h, oX8 (.ref q_now) (.int x_arches) (.int x_cats) w_text (.int x_typed) w_row (.int x_rowMany) (.int x_thrown) w_read (.int x_length) (.int x_top) (.int x_at) (.int x_wrong) w_told w_rule w_otherRule (.int x_ruleSize) (.int x_isAsked) w_asked (.ref q_undos) (.int x_undoMany) w_aside w_then w_hold (.int x_dropped) w_acts w_guarded w_train (.int x_trolleyEnd) w_feltOf w_feltBy (.int x_feltMany) w_many w_heardOf w_heardBy (.int x_heardMany) w_worth (.int x_drawn) (.int x_came) w_kept w_isKept w_keptCame), (q_undos, aI cT 564 f_undos), (q_now, aI cT 47 f_now)] s.heap := hP
  have hD : va_D A [(h, oX8 (.ref q_now) (.int x_arches) (.int x_cats) w_text (.int x_typed) w_row (.int x_rowMany) (.int x_thrown) w_read (.int x_length) (.int x_top) (.int x_at) (.int x_wrong) w_told w_rule w_otherRule (.int x_ruleSize) (.int x_isAsked) w_asked (.ref q_undos) (.int x_undoMany) w_aside w_then w_hold (.int x_dropped) w_acts w_guarded w_train (.int x_trolleyEnd) w_feltOf w_feltBy (.int x_feltMany) w_many w_heardOf w_heardBy (.int x_heardMany) w_worth (.int x_drawn) (.int x_came) w_kept w_isKept w_keptCame), (q_undos, aI cT 564 f_undos), (q_now, aI cT 47 f_now)] := hD
  unfold p_X8_grieves at hg
  refine lv_aload_n hx hb dX8_grieves_0 rfl (lv_at hl 0 rfl) ?_
  refine lv_iconst (v := (0 : Int32)) hx hb dX8_grieves_1 (by decide) ?_
  refine pf_X8_82 C0 hP hD hS 0 rfl (Nat.le_of_ble_eq_true rfl) (ws2 := [(h, oX8 (.ref q_now) (.int x_arches) (.int x_cats) w_text (.int x_typed) w_row (.int x_rowMany) (.int (0 : Int32)) w_read (.int x_length) (.int x_top) (.int x_at) (.int x_wrong) w_told w_rule w_otherRule (.int x_ruleSize) (.int x_isAsked) w_asked (.ref q_undos) (.int x_undoMany) w_aside w_then w_hold (.int x_dropped) w_acts w_guarded w_train (.int x_trolleyEnd) w_feltOf w_feltBy (.int x_feltMany) w_many w_heardOf w_heardBy (.int x_heardMany) w_worth (.int x_drawn) (.int x_came) w_kept w_isKept w_keptCame), (q_undos, aI cT 564 f_undos), (q_now, aI cT 47 f_now)]) rfl dX8_grieves_2 (fun H locs hP hD hS => ?_)
  refine lv_aload_n hx hb dX8_grieves_5 rfl (lv_at hl 0 rfl) ?_
  refine lv_iload_n hx hb dX8_grieves_6 rfl (lv_at hl 1 rfl) ?_
  refine lv_iload_n hx hb dX8_grieves_7 rfl (lv_at hl 2 rfl) ?_
  refine k_Vxi (rest := []) C0 lk_X8_267 (c_X8_canGrieve l D cT F h p1 p2 (.ref q_now) x_arches x_cats w_text x_typed w_row x_rowMany (0 : Int32) w_read x_length x_top x_at x_wrong w_told w_rule w_otherRule x_ruleSize x_isAsked w_asked (.ref q_undos) x_undoMany w_aside w_then w_hold x_dropped w_acts w_guarded w_train x_trolleyEnd w_feltOf w_feltBy x_feltMany w_many w_heardOf w_heardBy x_heardMany w_worth x_drawn x_came w_kept w_isKept w_keptCame _ hg) hP hD hS hA [0] (by decide +kernel) rfl rfl rfl ⟨Nat.le_of_ble_eq_true rfl, Nat.le_of_ble_eq_true rfl⟩ rfl hl.1 rfl (Nat.le_of_ble_eq_true rfl) dX8_grieves_8 ⟨Nat.le_of_ble_eq_true rfl, Nat.le_of_ble_eq_true rfl⟩ (fun r_8 hg => ?_)
  refine lv_if_ne (tgt := 16) hx hb dX8_grieves_11 (by decide) (fun c_11 => ?_) (fun c_11 => ?_)
  · have hg := hg.1 c_11
    refine lv_aload_n hx hb dX8_grieves_16 rfl (lv_at hl 0 rfl) ?_
    refine lv_aload_n hx hb dX8_grieves_17 rfl (lv_at hl 0 rfl) ?_
    refine gf_X8_9 C0 hP 0 rfl rfl dX8_grieves_18 ?_
    refine k_Vv (rest := []) (wr := []) (w2 := fun u_21 => [(h, oX8 (.ref q_now) (.int x_arches) (.int x_cats) w_text (.int x_typed) w_row (.int x_rowMany) (.int (0 : Int32)) w_read (.int x_length) (.int x_top) (.int x_at) (.int x_wrong) w_told w_rule w_otherRule (.int x_ruleSize) (.int x_isAsked) w_asked (.ref q_undos) (.int u_21.1) w_aside w_then w_hold (.int x_dropped) w_acts w_guarded w_train (.int x_trolleyEnd) w_feltOf w_feltBy (.int x_feltMany) w_many w_heardOf w_heardBy (.int x_heardMany) w_worth (.int x_drawn) (.int x_came) w_kept w_isKept w_keptCame), (q_undos, aI cT 564 u_21.2), (q_now, aI cT 47 f_now)]) C0 lk_X8_246 (c_X8_remember l D cT F h q_now (.ref q_now) x_arches x_cats w_text x_typed w_row x_rowMany (0 : Int32) w_read x_length x_top x_at x_wrong w_told w_rule w_otherRule x_ruleSize x_isAsked w_asked q_undos x_undoMany w_aside w_then w_hold x_dropped w_acts w_guarded w_train x_trolleyEnd w_feltOf w_feltBy x_feltMany w_many w_heardOf w_heardBy x_heardMany w_worth x_drawn x_came w_kept w_isKept w_keptCame f_undos 47 f_now _ hg) hP hD hS hA [0, 1, 2] [] (by decide +kernel) rfl rfl (fun _ => rfl) rfl rfl ⟨Nat.le_of_ble_eq_true rfl, Nat.le_of_ble_eq_true rfl⟩ rfl hl.1 rfl (Nat.le_of_ble_eq_true rfl) dX8_grieves_21 ⟨Nat.le_of_ble_eq_true rfl, Nat.le_of_ble_eq_true rfl⟩ ?_
    intro u_21 H locs hg hP hD hS
    refine lv_aload_n hx hb dX8_grieves_24 rfl (lv_at hl 0 rfl) ?_
    refine gf_X8_9 C0 hP 0 rfl rfl dX8_grieves_25 ?_
    refine lv_iload_n hx hb dX8_grieves_28 rfl (lv_at hl 1 rfl) ?_
    refine lv_iload_n hx hb dX8_grieves_29 rfl (lv_at hl 2 rfl) ?_
    refine k_Sv (rest := []) (wr := [(h, oX8 (.ref q_now) (.int x_arches) (.int x_cats) w_text (.int x_typed) w_row (.int x_rowMany) (.int (0 : Int32)) w_read (.int x_length) (.int x_top) (.int x_at) (.int x_wrong) w_told w_rule w_otherRule (.int x_ruleSize) (.int x_isAsked) w_asked (.ref q_undos) (.int u_21.1) w_aside w_then w_hold (.int x_dropped) w_acts w_guarded w_train (.int x_trolleyEnd) w_feltOf w_feltBy (.int x_feltMany) w_many w_heardOf w_heardBy (.int x_heardMany) w_worth (.int x_drawn) (.int x_came) w_kept w_isKept w_keptCame), (q_undos, aI cT 564 u_21.2)]) (w2 := fun u_30 => [(h, oX8 (.ref q_now) (.int x_arches) (.int x_cats) w_text (.int x_typed) w_row (.int x_rowMany) (.int (0 : Int32)) w_read (.int x_length) (.int x_top) (.int x_at) (.int x_wrong) w_told w_rule w_otherRule (.int x_ruleSize) (.int x_isAsked) w_asked (.ref q_undos) (.int u_21.1) w_aside w_then w_hold (.int x_dropped) w_acts w_guarded w_train (.int x_trolleyEnd) w_feltOf w_feltBy (.int x_feltMany) w_many w_heardOf w_heardBy (.int x_heardMany) w_worth (.int x_drawn) (.int x_came) w_kept w_isKept w_keptCame), (q_undos, aI cT 564 u_21.2), (q_now, aI cT 47 u_30)]) C0 lk_X8_271 (c_X8_goGrieve l D cT F q_now p1 p2 47 f_now _ hg) hP hD hS hA [2] [0, 1] (by decide +kernel) rfl rfl (fun _ => rfl) ⟨Nat.le_of_ble_eq_true rfl, Nat.le_of_ble_eq_true rfl⟩ rfl hl.1 rfl (Nat.le_of_ble_eq_true rfl) dX8_grieves_30 ⟨Nat.le_of_ble_eq_true rfl, Nat.le_of_ble_eq_true rfl⟩ ?_
    intro u_30 H locs hg hP hD hS
    refine lv_aload_n hx hb dX8_grieves_33 rfl (lv_at hl 0 rfl) ?_
    refine gf_X8_9 C0 hP 0 rfl rfl dX8_grieves_34 ?_
    refine lv_bipush (v := (28 : Int32)) hx hb dX8_grieves_37 (by decide) ?_
    refine lv_iload_n hx hb dX8_grieves_39 rfl (lv_at hl 1 rfl) ?_
    refine lv_iadd hx hb dX8_grieves_40 ?_
    obtain ⟨g_41, hg⟩ := hg
    refine k_iald C0 hP 2 rfl g_41 dX8_grieves_41 ?_
    exact k_iret C0 hr ((0 : Int32), u_21.1, u_21.2, u_30) hg hP hD hS dX8_grieves_42
  have hg := hg.2 c_11
  refine lv_iconst (v := (-1 : Int32)) hx hb dX8_grieves_14 (by decide) ?_
  exact k_iret C0 hr ((0 : Int32), x_undoMany, f_undos, f_now) hg hP hD hS dX8_grieves_15
theorem dX8_refusesSet_0 : decode cX8_refusesSet 0 = .ok (.aload_n 0, 1) := by decide +kernel
theorem dX8_refusesSet_1 : decode cX8_refusesSet 1 = .ok (.iload_n 1, 1) := by decide +kernel
theorem dX8_refusesSet_2 : decode cX8_refusesSet 2 = .ok (.invokevirtual 224, 3) := by decide +kernel
theorem dX8_refusesSet_5 : decode cX8_refusesSet 5 = .ok (.ifCond .eq 11, 3) := by decide +kernel
theorem dX8_refusesSet_8 : decode cX8_refusesSet 8 = .ok (.aload_n 0, 1) := by decide +kernel
theorem dX8_refusesSet_9 : decode cX8_refusesSet 9 = .ok (.iload_n 2, 1) := by decide +kernel
theorem dX8_refusesSet_10 : decode cX8_refusesSet 10 = .ok (.invokevirtual 214, 3) := by decide +kernel
theorem dX8_refusesSet_13 : decode cX8_refusesSet 13 = .ok (.ifCond .ne 5, 3) := by decide +kernel
theorem dX8_refusesSet_16 : decode cX8_refusesSet 16 = .ok (.iconst (-1), 1) := by decide +kernel
theorem dX8_refusesSet_17 : decode cX8_refusesSet 17 = .ok (.ireturn, 1) := by decide +kernel
theorem dX8_refusesSet_18 : decode cX8_refusesSet 18 = .ok (.aload_n 0, 1) := by decide +kernel
theorem dX8_refusesSet_19 : decode cX8_refusesSet 19 = .ok (.getfield 9, 3) := by decide +kernel
theorem dX8_refusesSet_22 : decode cX8_refusesSet 22 = .ok (.bipush 36, 2) := by decide +kernel
theorem dX8_refusesSet_24 : decode cX8_refusesSet 24 = .ok (.iload_n 1, 1) := by decide +kernel
theorem dX8_refusesSet_25 : decode cX8_refusesSet 25 = .ok (.iadd, 1) := by decide +kernel
theorem dX8_refusesSet_26 : decode cX8_refusesSet 26 = .ok (.iaload, 1) := by decide +kernel
theorem dX8_refusesSet_27 : decode cX8_refusesSet 27 = .ok (.iload_n 2, 1) := by decide +kernel
theorem dX8_refusesSet_28 : decode cX8_refusesSet 28 = .ok (.if_icmp .ne 8, 3) := by decide +kernel
theorem dX8_refusesSet_31 : decode cX8_refusesSet 31 = .ok (.bipush (-2), 2) := by decide +kernel
theorem dX8_refusesSet_33 : decode cX8_refusesSet 33 = .ok (.goto 4, 3) := by decide +kernel
theorem dX8_refusesSet_36 : decode cX8_refusesSet 36 = .ok (.iconst 0, 1) := by decide +kernel
theorem dX8_refusesSet_37 : decode cX8_refusesSet 37 = .ok (.ireturn, 1) := by decide +kernel
def p_X8_refusesSet (F : Nat) (p1 : Int32) (p2 : Int32) (x_arches : Int32) (x_cats : Int32) (f_now : Nat → Int32) (Post : Int32 → Prop) : Prop := (p_X8_isCat F p1 x_cats (fun (r_2 : Int32) => ((r_2 = 0 → (Post (-1 : Int32))) ∧ (¬ r_2 = 0 → (p_X8_isArch F p2 x_arches (fun (r_10 : Int32) => ((¬ r_10 = 0 → (vp_in ((36 : Int32) + p1) 47 ∧ ((¬ (f_now ((36 : Int32) + p1).toNatClampNeg) = p2 → (Post (0 : Int32))) ∧ ((f_now ((36 : Int32) + p1).toNatClampNeg) = p2 → (Post (-2 : Int32)))))) ∧ (r_10 = 0 → (Post (-1 : Int32))))))))))
set_option maxHeartbeats 4000000 in
set_option maxRecDepth 100000 in
theorem c_X8_refusesSet (l : Launch) (D : va_G) (cT : Nat → ClassId) (F : Nat) (h : Nat) (p1 : Int32) (p2 : Int32) (q_now : Nat) (x_arches : Int32) (x_cats : Int32) (w_text : Value) (x_typed : Int32) (w_row : Value) (x_rowMany : Int32) (x_thrown : Int32) (w_read : Value) (x_length : Int32) (x_top : Int32) (x_at : Int32) (x_wrong : Int32) (w_told : Value) (w_rule : Value) (w_otherRule : Value) (x_ruleSize : Int32) (x_isAsked : Int32) (w_asked : Value) (w_undos : Value) (x_undoMany : Int32) (w_aside : Value) (w_then : Value) (w_hold : Value) (x_dropped : Int32) (w_acts : Value) (w_guarded : Value) (w_train : Value) (x_trolleyEnd : Int32) (w_feltOf : Value) (w_feltBy : Value) (x_feltMany : Int32) (w_many : Value) (w_heardOf : Value) (w_heardBy : Value) (x_heardMany : Int32) (w_worth : Value) (x_drawn : Int32) (x_came : Int32) (w_kept : Value) (w_isKept : Value) (w_keptCame : Value) (f_now : Nat → Int32) (Post : Int32 → Prop) (hg : p_X8_refusesSet F p1 p2 x_arches x_cats f_now Post) : MRi l D cT yX8_refusesSet cX8_refusesSet 3 (some .int) 2 43 [.ref h, .int p1, .int p2] [(h, oX8 (.ref q_now) (.int x_arches) (.int x_cats) w_text (.int x_typed) w_row (.int x_rowMany) (.int x_thrown) w_read (.int x_length) (.int x_top) (.int x_at) (.int x_wrong) w_told w_rule w_otherRule (.int x_ruleSize) (.int x_isAsked) w_asked w_undos (.int x_undoMany) w_aside w_then w_hold (.int x_dropped) w_acts w_guarded w_train (.int x_trolleyEnd) w_feltOf w_feltBy (.int x_feltMany) w_many w_heardOf w_heardBy (.int x_heardMany) w_worth (.int x_drawn) (.int x_came) w_kept w_isKept w_keptCame), (q_now, aI cT 47 f_now)] Post := by
  refine MRi.of (by decide) (Nat.le_of_ble_eq_true rfl) ?_
  intro p e s m below meth c hA C0 hr hP hD hS ls hl
  have hl : lv_has ls 3 [(0, .ref h), (1, .int p1), (2, .int p2)] := hl
  have hx := C0.x
  have hb := C0.b
  have hP : va_P D cls9 [(h, oX8 (.ref q_now) (.int x_arches) (.int x_cats) w_text (.int x_typed) w_row (.int x_rowMany) (.int x_thrown) w_read (.int x_length) (.int x_top) (.int x_at) (.int x_wrong) w_told w_rule w_otherRule (.int x_ruleSize) (.int x_isAsked) w_asked w_undos (.int x_undoMany) w_aside w_then w_hold (.int x_dropped) w_acts w_guarded w_train (.int x_trolleyEnd) w_feltOf w_feltBy (.int x_feltMany) w_many w_heardOf w_heardBy (.int x_heardMany) w_worth (.int x_drawn) (.int x_came) w_kept w_isKept w_keptCame), (q_now, aI cT 47 f_now)] s.heap := hP
  have hD : va_D (fun q => cT 6 ≤ q) [(h, oX8 (.ref q_now) (.int x_arches) (.int x_cats) w_text (.int x_typed) w_row (.int x_rowMany) (.int x_thrown) w_read (.int x_length) (.int x_top) (.int x_at) (.int x_wrong) w_told w_rule w_otherRule (.int x_ruleSize) (.int x_isAsked) w_asked w_undos (.int x_undoMany) w_aside w_then w_hold (.int x_dropped) w_acts w_guarded w_train (.int x_trolleyEnd) w_feltOf w_feltBy (.int x_feltMany) w_many w_heardOf w_heardBy (.int x_heardMany) w_worth (.int x_drawn) (.int x_came) w_kept w_isKept w_keptCame), (q_now, aI cT 47 f_now)] := hD
  unfold p_X8_refusesSet at hg
  refine lv_aload_n hx hb dX8_refusesSet_0 rfl (lv_at hl 0 rfl) ?_
  refine lv_iload_n hx hb dX8_refusesSet_1 rfl (lv_at hl 1 rfl) ?_
  refine k_Vxi (rest := []) C0 lk_X8_224 (c_X8_isCat l D cT F h p1 (.ref q_now) x_arches x_cats w_text x_typed w_row x_rowMany x_thrown w_read x_length x_top x_at x_wrong w_told w_rule w_otherRule x_ruleSize x_isAsked w_asked w_undos x_undoMany w_aside w_then w_hold x_dropped w_acts w_guarded w_train x_trolleyEnd w_feltOf w_feltBy x_feltMany w_many w_heardOf w_heardBy x_heardMany w_worth x_drawn x_came w_kept w_isKept w_keptCame _ hg) hP hD hS hA [0] (by decide +kernel) rfl rfl rfl ⟨Nat.le_of_ble_eq_true rfl, Nat.le_of_ble_eq_true rfl⟩ rfl hl.1 rfl (Nat.le_of_ble_eq_true rfl) dX8_refusesSet_2 ⟨Nat.le_of_ble_eq_true rfl, Nat.le_of_ble_eq_true rfl⟩ (fun r_2 hg => ?_)
  refine lv_if_eq (tgt := 16) hx hb dX8_refusesSet_5 (by decide) (fun c_5 => ?_) (fun c_5 => ?_)
  · have hg := hg.1 c_5
    refine lv_iconst (v := (-1 : Int32)) hx hb dX8_refusesSet_16 (by decide) ?_
    exact k_xiret C0 hr hg dX8_refusesSet_17
  have hg := hg.2 c_5
  refine lv_aload_n hx hb dX8_refusesSet_8 rfl (lv_at hl 0 rfl) ?_
  refine lv_iload_n hx hb dX8_refusesSet_9 rfl (lv_at hl 2 rfl) ?_
  refine k_Vxi (rest := []) C0 lk_X8_214 (c_X8_isArch l D cT F h p2 (.ref q_now) x_arches x_cats w_text x_typed w_row x_rowMany x_thrown w_read x_length x_top x_at x_wrong w_told w_rule w_otherRule x_ruleSize x_isAsked w_asked w_undos x_undoMany w_aside w_then w_hold x_dropped w_acts w_guarded w_train x_trolleyEnd w_feltOf w_feltBy x_feltMany w_many w_heardOf w_heardBy x_heardMany w_worth x_drawn x_came w_kept w_isKept w_keptCame _ hg) hP hD hS hA [0] (by decide +kernel) rfl rfl rfl ⟨Nat.le_of_ble_eq_true rfl, Nat.le_of_ble_eq_true rfl⟩ rfl hl.1 rfl (Nat.le_of_ble_eq_true rfl) dX8_refusesSet_10 ⟨Nat.le_of_ble_eq_true rfl, Nat.le_of_ble_eq_true rfl⟩ (fun r_10 hg => ?_)
  refine lv_if_ne (tgt := 18) hx hb dX8_refusesSet_13 (by decide) (fun c_13 => ?_) (fun c_13 => ?_)
  · have hg := hg.1 c_13
    refine lv_aload_n hx hb dX8_refusesSet_18 rfl (lv_at hl 0 rfl) ?_
    refine gf_X8_9 C0 hP 0 rfl rfl dX8_refusesSet_19 ?_
    refine lv_bipush (v := (36 : Int32)) hx hb dX8_refusesSet_22 (by decide) ?_
    refine lv_iload_n hx hb dX8_refusesSet_24 rfl (lv_at hl 1 rfl) ?_
    refine lv_iadd hx hb dX8_refusesSet_25 ?_
    obtain ⟨g_26, hg⟩ := hg
    refine k_iald C0 hP 1 rfl g_26 dX8_refusesSet_26 ?_
    refine lv_iload_n hx hb dX8_refusesSet_27 rfl (lv_at hl 2 rfl) ?_
    refine lv_icmp_ne (tgt := 36) hx hb dX8_refusesSet_28 (by decide) (fun c_28 => ?_) (fun c_28 => ?_)
    · have hg := hg.1 c_28
      refine lv_iconst (v := (0 : Int32)) hx hb dX8_refusesSet_36 (by decide) ?_
      exact k_xiret C0 hr hg dX8_refusesSet_37
    have hg := hg.2 c_28
    refine lv_bipush (v := (-2 : Int32)) hx hb dX8_refusesSet_31 (by decide) ?_
    refine lv_goto (tgt := 37) hx hb dX8_refusesSet_33 (by decide) ?_
    exact k_xiret C0 hr hg dX8_refusesSet_37
  have hg := hg.2 c_13
  refine lv_iconst (v := (-1 : Int32)) hx hb dX8_refusesSet_16 (by decide) ?_
  exact k_xiret C0 hr hg dX8_refusesSet_17
theorem dX8_sets_0 : decode cX8_sets 0 = .ok (.aload_n 0, 1) := by decide +kernel
theorem dX8_sets_1 : decode cX8_sets 1 = .ok (.iconst 0, 1) := by decide +kernel
theorem dX8_sets_2 : decode cX8_sets 2 = .ok (.putfield 82, 3) := by decide +kernel
theorem dX8_sets_5 : decode cX8_sets 5 = .ok (.aload_n 0, 1) := by decide +kernel
theorem dX8_sets_6 : decode cX8_sets 6 = .ok (.iload_n 1, 1) := by decide +kernel
theorem dX8_sets_7 : decode cX8_sets 7 = .ok (.iload_n 2, 1) := by decide +kernel
theorem dX8_sets_8 : decode cX8_sets 8 = .ok (.invokevirtual 274, 3) := by decide +kernel
theorem dX8_sets_11 : decode cX8_sets 11 = .ok (.istore_n 3, 1) := by decide +kernel
theorem dX8_sets_12 : decode cX8_sets 12 = .ok (.iload_n 3, 1) := by decide +kernel
theorem dX8_sets_13 : decode cX8_sets 13 = .ok (.ifCond .ge 5, 3) := by decide +kernel
theorem dX8_sets_16 : decode cX8_sets 16 = .ok (.iload_n 3, 1) := by decide +kernel
theorem dX8_sets_17 : decode cX8_sets 17 = .ok (.ireturn, 1) := by decide +kernel
theorem dX8_sets_18 : decode cX8_sets 18 = .ok (.aload_n 0, 1) := by decide +kernel
theorem dX8_sets_19 : decode cX8_sets 19 = .ok (.aload_n 0, 1) := by decide +kernel
theorem dX8_sets_20 : decode cX8_sets 20 = .ok (.getfield 9, 3) := by decide +kernel
theorem dX8_sets_23 : decode cX8_sets 23 = .ok (.invokevirtual 246, 3) := by decide +kernel
theorem dX8_sets_26 : decode cX8_sets 26 = .ok (.aload_n 0, 1) := by decide +kernel
theorem dX8_sets_27 : decode cX8_sets 27 = .ok (.getfield 9, 3) := by decide +kernel
theorem dX8_sets_30 : decode cX8_sets 30 = .ok (.bipush 36, 2) := by decide +kernel
theorem dX8_sets_32 : decode cX8_sets 32 = .ok (.iload_n 1, 1) := by decide +kernel
theorem dX8_sets_33 : decode cX8_sets 33 = .ok (.iadd, 1) := by decide +kernel
theorem dX8_sets_34 : decode cX8_sets 34 = .ok (.iaload, 1) := by decide +kernel
theorem dX8_sets_35 : decode cX8_sets 35 = .ok (.iload_n 2, 1) := by decide +kernel
theorem dX8_sets_36 : decode cX8_sets 36 = .ok (.isub, 1) := by decide +kernel
theorem dX8_sets_37 : decode cX8_sets 37 = .ok (.invokestatic 277, 3) := by decide +kernel
theorem dX8_sets_40 : decode cX8_sets 40 = .ok (.istore 4, 2) := by decide +kernel
theorem dX8_sets_42 : decode cX8_sets 42 = .ok (.aload_n 0, 1) := by decide +kernel
theorem dX8_sets_43 : decode cX8_sets 43 = .ok (.getfield 9, 3) := by decide +kernel
theorem dX8_sets_46 : decode cX8_sets 46 = .ok (.bipush 36, 2) := by decide +kernel
theorem dX8_sets_48 : decode cX8_sets 48 = .ok (.iload_n 1, 1) := by decide +kernel
theorem dX8_sets_49 : decode cX8_sets 49 = .ok (.iadd, 1) := by decide +kernel
theorem dX8_sets_50 : decode cX8_sets 50 = .ok (.iload_n 2, 1) := by decide +kernel
theorem dX8_sets_51 : decode cX8_sets 51 = .ok (.iastore, 1) := by decide +kernel
theorem dX8_sets_52 : decode cX8_sets 52 = .ok (.iload 4, 2) := by decide +kernel
theorem dX8_sets_54 : decode cX8_sets 54 = .ok (.ireturn, 1) := by decide +kernel
def p_X8_sets (F : Nat) (p1 : Int32) (p2 : Int32) (x_arches : Int32) (x_cats : Int32) (x_undoMany : Int32) (f_now : Nat → Int32) (f_undos : Nat → Int32) (Post : Int32 → (Int32 × Int32 × (Nat → Int32) × (Nat → Int32)) → Prop) : Prop := (p_X8_refusesSet F p1 p2 x_arches x_cats f_now (fun (r_8 : Int32) => ((0 ≤ r_8 → (p_X8_remember F x_undoMany f_undos 47 f_now (fun (u_23 : (Int32 × (Nat → Int32))) => (vp_in ((36 : Int32) + p1) 47 ∧ (vp_in ((36 : Int32) + p1) 47 ∧ (Post (if 0 ≤ ((f_now ((36 : Int32) + p1).toNatClampNeg) - p2) then ((f_now ((36 : Int32) + p1).toNatClampNeg) - p2) else 0 - ((f_now ((36 : Int32) + p1).toNatClampNeg) - p2)) ((0 : Int32), u_23.1, (upd f_now ((36 : Int32) + p1).toNatClampNeg p2), u_23.2))))))) ∧ (¬ 0 ≤ r_8 → (Post r_8 ((0 : Int32), x_undoMany, f_now, f_undos))))))
set_option maxHeartbeats 4000000 in
set_option maxRecDepth 100000 in
theorem c_X8_sets (l : Launch) (D : va_G) (cT : Nat → ClassId) (F : Nat) (h : Nat) (p1 : Int32) (p2 : Int32) (q_now : Nat) (x_arches : Int32) (x_cats : Int32) (w_text : Value) (x_typed : Int32) (w_row : Value) (x_rowMany : Int32) (x_thrown : Int32) (w_read : Value) (x_length : Int32) (x_top : Int32) (x_at : Int32) (x_wrong : Int32) (w_told : Value) (w_rule : Value) (w_otherRule : Value) (x_ruleSize : Int32) (x_isAsked : Int32) (w_asked : Value) (q_undos : Nat) (x_undoMany : Int32) (w_aside : Value) (w_then : Value) (w_hold : Value) (x_dropped : Int32) (w_acts : Value) (w_guarded : Value) (w_train : Value) (x_trolleyEnd : Int32) (w_feltOf : Value) (w_feltBy : Value) (x_feltMany : Int32) (w_many : Value) (w_heardOf : Value) (w_heardBy : Value) (x_heardMany : Int32) (w_worth : Value) (x_drawn : Int32) (x_came : Int32) (w_kept : Value) (w_isKept : Value) (w_keptCame : Value) (f_now : Nat → Int32) (f_undos : Nat → Int32) (Post : Int32 → (Int32 × Int32 × (Nat → Int32) × (Nat → Int32)) → Prop) (hg : p_X8_sets F p1 p2 x_arches x_cats x_undoMany f_now f_undos Post) : MWi l D cT yX8_sets cX8_sets 5 (some .int) 3 65 0 0 [.ref h, .int p1, .int p2] [(h, oX8 (.ref q_now) (.int x_arches) (.int x_cats) w_text (.int x_typed) w_row (.int x_rowMany) (.int x_thrown) w_read (.int x_length) (.int x_top) (.int x_at) (.int x_wrong) w_told w_rule w_otherRule (.int x_ruleSize) (.int x_isAsked) w_asked (.ref q_undos) (.int x_undoMany) w_aside w_then w_hold (.int x_dropped) w_acts w_guarded w_train (.int x_trolleyEnd) w_feltOf w_feltBy (.int x_feltMany) w_many w_heardOf w_heardBy (.int x_heardMany) w_worth (.int x_drawn) (.int x_came) w_kept w_isKept w_keptCame), (q_now, aI cT 47 f_now), (q_undos, aI cT 564 f_undos)] Post (fun (u : (Int32 × Int32 × (Nat → Int32) × (Nat → Int32))) => [(h, oX8 (.ref q_now) (.int x_arches) (.int x_cats) w_text (.int x_typed) w_row (.int x_rowMany) (.int u.1) w_read (.int x_length) (.int x_top) (.int x_at) (.int x_wrong) w_told w_rule w_otherRule (.int x_ruleSize) (.int x_isAsked) w_asked (.ref q_undos) (.int u.2.1) w_aside w_then w_hold (.int x_dropped) w_acts w_guarded w_train (.int x_trolleyEnd) w_feltOf w_feltBy (.int x_feltMany) w_many w_heardOf w_heardBy (.int x_heardMany) w_worth (.int x_drawn) (.int x_came) w_kept w_isKept w_keptCame), (q_now, aI cT 47 u.2.2.1), (q_undos, aI cT 564 u.2.2.2)]) := by
  refine MWi.of (by decide) (Nat.le_of_ble_eq_true rfl) ?_
  intro p e s m below meth c A hA C0 hnm hr hP hD ls hl
  have hl : lv_has ls 5 [(0, .ref h), (1, .int p1), (2, .int p2)] := hl
  have hx := C0.x
  have hb := C0.b
  have hS : va_S A s.heap s.heap [] := va_S.rf
  have hP : va_P D cls9 [(h, oX8 (.ref q_now) (.int x_arches) (.int x_cats) w_text (.int x_typed) w_row (.int x_rowMany) (.int x_thrown) w_read (.int x_length) (.int x_top) (.int x_at) (.int x_wrong) w_told w_rule w_otherRule (.int x_ruleSize) (.int x_isAsked) w_asked (.ref q_undos) (.int x_undoMany) w_aside w_then w_hold (.int x_dropped) w_acts w_guarded w_train (.int x_trolleyEnd) w_feltOf w_feltBy (.int x_feltMany) w_many w_heardOf w_heardBy (.int x_heardMany) w_worth (.int x_drawn) (.int x_came) w_kept w_isKept w_keptCame), (q_now, aI cT 47 f_now), (q_undos, aI cT 564 f_undos)] s.heap := hP
  have hD : va_D A [(h, oX8 (.ref q_now) (.int x_arches) (.int x_cats) w_text (.int x_typed) w_row (.int x_rowMany) (.int x_thrown) w_read (.int x_length) (.int x_top) (.int x_at) (.int x_wrong) w_told w_rule w_otherRule (.int x_ruleSize) (.int x_isAsked) w_asked (.ref q_undos) (.int x_undoMany) w_aside w_then w_hold (.int x_dropped) w_acts w_guarded w_train (.int x_trolleyEnd) w_feltOf w_feltBy (.int x_feltMany) w_many w_heardOf w_heardBy (.int x_heardMany) w_worth (.int x_drawn) (.int x_came) w_kept w_isKept w_keptCame), (q_now, aI cT 47 f_now), (q_undos, aI cT 564 f_undos)] := hD
  unfold p_X8_sets at hg
  refine lv_aload_n hx hb dX8_sets_0 rfl (lv_at hl 0 rfl) ?_
  refine lv_iconst (v := (0 : Int32)) hx hb dX8_sets_1 (by decide) ?_
  refine pf_X8_82 C0 hP hD hS 0 rfl (Nat.le_of_ble_eq_true rfl) (ws2 := [(h, oX8 (.ref q_now) (.int x_arches) (.int x_cats) w_text (.int x_typed) w_row (.int x_rowMany) (.int (0 : Int32)) w_read (.int x_length) (.int x_top) (.int x_at) (.int x_wrong) w_told w_rule w_otherRule (.int x_ruleSize) (.int x_isAsked) w_asked (.ref q_undos) (.int x_undoMany) w_aside w_then w_hold (.int x_dropped) w_acts w_guarded w_train (.int x_trolleyEnd) w_feltOf w_feltBy (.int x_feltMany) w_many w_heardOf w_heardBy (.int x_heardMany) w_worth (.int x_drawn) (.int x_came) w_kept w_isKept w_keptCame), (q_now, aI cT 47 f_now), (q_undos, aI cT 564 f_undos)]) rfl dX8_sets_2 (fun H locs hP hD hS => ?_)
  refine lv_aload_n hx hb dX8_sets_5 rfl (lv_at hl 0 rfl) ?_
  refine lv_iload_n hx hb dX8_sets_6 rfl (lv_at hl 1 rfl) ?_
  refine lv_iload_n hx hb dX8_sets_7 rfl (lv_at hl 2 rfl) ?_
  refine k_Vxi (rest := []) C0 lk_X8_274 (c_X8_refusesSet l D cT F h p1 p2 q_now x_arches x_cats w_text x_typed w_row x_rowMany (0 : Int32) w_read x_length x_top x_at x_wrong w_told w_rule w_otherRule x_ruleSize x_isAsked w_asked (.ref q_undos) x_undoMany w_aside w_then w_hold x_dropped w_acts w_guarded w_train x_trolleyEnd w_feltOf w_feltBy x_feltMany w_many w_heardOf w_heardBy x_heardMany w_worth x_drawn x_came w_kept w_isKept w_keptCame f_now _ hg) hP hD hS hA [0, 1] (by decide +kernel) rfl rfl rfl ⟨Nat.le_of_ble_eq_true rfl, Nat.le_of_ble_eq_true rfl⟩ rfl hl.1 rfl (Nat.le_of_ble_eq_true rfl) dX8_sets_8 ⟨Nat.le_of_ble_eq_true rfl, Nat.le_of_ble_eq_true rfl⟩ (fun r_8 hg => ?_)
  refine lv_istore_n (lv' := [(3, .int r_8), (0, .ref h), (1, .int p1), (2, .int p2)]) hx hb dX8_sets_11 rfl hl (by decide) rfl (fun ls hl => ?_)
  refine lv_iload_n hx hb dX8_sets_12 rfl (lv_at hl 0 rfl) ?_
  refine lv_if_ge (tgt := 18) hx hb dX8_sets_13 (by decide) (fun c_13 => ?_) (fun c_13 => ?_)
  · have hg := hg.1 c_13
    refine lv_aload_n hx hb dX8_sets_18 rfl (lv_at hl 1 rfl) ?_
    refine lv_aload_n hx hb dX8_sets_19 rfl (lv_at hl 1 rfl) ?_
    refine gf_X8_9 C0 hP 0 rfl rfl dX8_sets_20 ?_
    refine k_Vv (rest := []) (wr := []) (w2 := fun u_23 => [(h, oX8 (.ref q_now) (.int x_arches) (.int x_cats) w_text (.int x_typed) w_row (.int x_rowMany) (.int (0 : Int32)) w_read (.int x_length) (.int x_top) (.int x_at) (.int x_wrong) w_told w_rule w_otherRule (.int x_ruleSize) (.int x_isAsked) w_asked (.ref q_undos) (.int u_23.1) w_aside w_then w_hold (.int x_dropped) w_acts w_guarded w_train (.int x_trolleyEnd) w_feltOf w_feltBy (.int x_feltMany) w_many w_heardOf w_heardBy (.int x_heardMany) w_worth (.int x_drawn) (.int x_came) w_kept w_isKept w_keptCame), (q_undos, aI cT 564 u_23.2), (q_now, aI cT 47 f_now)]) C0 lk_X8_246 (c_X8_remember l D cT F h q_now (.ref q_now) x_arches x_cats w_text x_typed w_row x_rowMany (0 : Int32) w_read x_length x_top x_at x_wrong w_told w_rule w_otherRule x_ruleSize x_isAsked w_asked q_undos x_undoMany w_aside w_then w_hold x_dropped w_acts w_guarded w_train x_trolleyEnd w_feltOf w_feltBy x_feltMany w_many w_heardOf w_heardBy x_heardMany w_worth x_drawn x_came w_kept w_isKept w_keptCame f_undos 47 f_now _ hg) hP hD hS hA [0, 2, 1] [] (by decide +kernel) rfl rfl (fun _ => rfl) rfl rfl ⟨Nat.le_of_ble_eq_true rfl, Nat.le_of_ble_eq_true rfl⟩ rfl hl.1 rfl (Nat.le_of_ble_eq_true rfl) dX8_sets_23 ⟨Nat.le_of_ble_eq_true rfl, Nat.le_of_ble_eq_true rfl⟩ ?_
    intro u_23 H locs hg hP hD hS
    refine lv_aload_n hx hb dX8_sets_26 rfl (lv_at hl 1 rfl) ?_
    refine gf_X8_9 C0 hP 0 rfl rfl dX8_sets_27 ?_
    refine lv_bipush (v := (36 : Int32)) hx hb dX8_sets_30 (by decide) ?_
    refine lv_iload_n hx hb dX8_sets_32 rfl (lv_at hl 2 rfl) ?_
    refine lv_iadd hx hb dX8_sets_33 ?_
    obtain ⟨g_34, hg⟩ := hg
    refine k_iald C0 hP 2 rfl g_34 dX8_sets_34 ?_
    refine lv_iload_n hx hb dX8_sets_35 rfl (lv_at hl 3 rfl) ?_
    refine lv_isub hx hb dX8_sets_36 ?_
    refine k_abs C0 w6_26 hl.1 (Nat.le_of_ble_eq_true rfl) (Nat.le_of_ble_eq_true rfl) (Nat.le_of_ble_eq_true rfl) (Nat.le_of_ble_eq_true rfl) dX8_sets_37 ?_
    refine lv_istore (lv' := [(4, .int (if 0 ≤ ((f_now ((36 : Int32) + p1).toNatClampNeg) - p2) then ((f_now ((36 : Int32) + p1).toNatClampNeg) - p2) else 0 - ((f_now ((36 : Int32) + p1).toNatClampNeg) - p2))), (3, .int r_8), (0, .ref h), (1, .int p1), (2, .int p2)]) hx hb dX8_sets_40 hl (by decide) rfl (fun ls hl => ?_)
    refine lv_aload_n hx hb dX8_sets_42 rfl (lv_at hl 2 rfl) ?_
    refine gf_X8_9 C0 hP 0 rfl rfl dX8_sets_43 ?_
    refine lv_bipush (v := (36 : Int32)) hx hb dX8_sets_46 (by decide) ?_
    refine lv_iload_n hx hb dX8_sets_48 rfl (lv_at hl 3 rfl) ?_
    refine lv_iadd hx hb dX8_sets_49 ?_
    refine lv_iload_n hx hb dX8_sets_50 rfl (lv_at hl 4 rfl) ?_
    obtain ⟨g_51, hg⟩ := hg
    refine k_iast C0 hP hD hS 2 rfl g_51 (ws' := [(h, oX8 (.ref q_now) (.int x_arches) (.int x_cats) w_text (.int x_typed) w_row (.int x_rowMany) (.int (0 : Int32)) w_read (.int x_length) (.int x_top) (.int x_at) (.int x_wrong) w_told w_rule w_otherRule (.int x_ruleSize) (.int x_isAsked) w_asked (.ref q_undos) (.int u_23.1) w_aside w_then w_hold (.int x_dropped) w_acts w_guarded w_train (.int x_trolleyEnd) w_feltOf w_feltBy (.int x_feltMany) w_many w_heardOf w_heardBy (.int x_heardMany) w_worth (.int x_drawn) (.int x_came) w_kept w_isKept w_keptCame), (q_undos, aI cT 564 u_23.2), (q_now, aI cT 47 (upd f_now ((36 : Int32) + p1).toNatClampNeg p2))]) rfl dX8_sets_51 (fun H locs hP hD hS => ?_)
    refine lv_iload hx hb dX8_sets_52 (lv_at hl 0 rfl) ?_
    exact k_iret C0 hr ((0 : Int32), u_23.1, (upd f_now ((36 : Int32) + p1).toNatClampNeg p2), u_23.2) hg (subP hP [0, 2, 1] rfl) (hD.sub [0, 2, 1] (nd2_ok _ (by decide +kernel)) rfl) hS dX8_sets_54
  have hg := hg.2 c_13
  refine lv_iload_n hx hb dX8_sets_16 rfl (lv_at hl 0 rfl) ?_
  exact k_iret C0 hr ((0 : Int32), x_undoMany, f_now, f_undos) hg hP hD hS dX8_sets_17
theorem dX8_refusesLoad_0 : decode cX8_refusesLoad 0 = .ok (.aload_n 0, 1) := by decide +kernel
theorem dX8_refusesLoad_1 : decode cX8_refusesLoad 1 = .ok (.iload_n 1, 1) := by decide +kernel
theorem dX8_refusesLoad_2 : decode cX8_refusesLoad 2 = .ok (.invokevirtual 214, 3) := by decide +kernel
theorem dX8_refusesLoad_5 : decode cX8_refusesLoad 5 = .ok (.ifCond .eq 13, 3) := by decide +kernel
theorem dX8_refusesLoad_8 : decode cX8_refusesLoad 8 = .ok (.iload_n 2, 1) := by decide +kernel
theorem dX8_refusesLoad_9 : decode cX8_refusesLoad 9 = .ok (.iconst 0, 1) := by decide +kernel
theorem dX8_refusesLoad_10 : decode cX8_refusesLoad 10 = .ok (.bipush 9, 2) := by decide +kernel
theorem dX8_refusesLoad_12 : decode cX8_refusesLoad 12 = .ok (.invokestatic 92, 3) := by decide +kernel
theorem dX8_refusesLoad_15 : decode cX8_refusesLoad 15 = .ok (.ifCond .ne 5, 3) := by decide +kernel
theorem dX8_refusesLoad_18 : decode cX8_refusesLoad 18 = .ok (.iconst (-1), 1) := by decide +kernel
theorem dX8_refusesLoad_19 : decode cX8_refusesLoad 19 = .ok (.ireturn, 1) := by decide +kernel
theorem dX8_refusesLoad_20 : decode cX8_refusesLoad 20 = .ok (.aload_n 0, 1) := by decide +kernel
theorem dX8_refusesLoad_21 : decode cX8_refusesLoad 21 = .ok (.getfield 9, 3) := by decide +kernel
theorem dX8_refusesLoad_24 : decode cX8_refusesLoad 24 = .ok (.iload_n 1, 1) := by decide +kernel
theorem dX8_refusesLoad_25 : decode cX8_refusesLoad 25 = .ok (.iaload, 1) := by decide +kernel
theorem dX8_refusesLoad_26 : decode cX8_refusesLoad 26 = .ok (.iload_n 2, 1) := by decide +kernel
theorem dX8_refusesLoad_27 : decode cX8_refusesLoad 27 = .ok (.if_icmp .ne 8, 3) := by decide +kernel
theorem dX8_refusesLoad_30 : decode cX8_refusesLoad 30 = .ok (.bipush (-2), 2) := by decide +kernel
theorem dX8_refusesLoad_32 : decode cX8_refusesLoad 32 = .ok (.goto 4, 3) := by decide +kernel
theorem dX8_refusesLoad_35 : decode cX8_refusesLoad 35 = .ok (.iconst 0, 1) := by decide +kernel
theorem dX8_refusesLoad_36 : decode cX8_refusesLoad 36 = .ok (.ireturn, 1) := by decide +kernel
def p_X8_refusesLoad (F : Nat) (p1 : Int32) (p2 : Int32) (x_arches : Int32) (f_now : Nat → Int32) (Post : Int32 → Prop) : Prop := (p_X8_isArch F p1 x_arches (fun (r_2 : Int32) => ((r_2 = 0 → (Post (-1 : Int32))) ∧ (¬ r_2 = 0 → (p_X8_in F p2 (0 : Int32) (9 : Int32) (fun (r_12 : Int32) => ((¬ r_12 = 0 → (vp_in p1 47 ∧ ((¬ (f_now p1.toNatClampNeg) = p2 → (Post (0 : Int32))) ∧ ((f_now p1.toNatClampNeg) = p2 → (Post (-2 : Int32)))))) ∧ (r_12 = 0 → (Post (-1 : Int32))))))))))
set_option maxHeartbeats 4000000 in
set_option maxRecDepth 100000 in
theorem c_X8_refusesLoad (l : Launch) (D : va_G) (cT : Nat → ClassId) (F : Nat) (h : Nat) (p1 : Int32) (p2 : Int32) (q_now : Nat) (x_arches : Int32) (x_cats : Int32) (w_text : Value) (x_typed : Int32) (w_row : Value) (x_rowMany : Int32) (x_thrown : Int32) (w_read : Value) (x_length : Int32) (x_top : Int32) (x_at : Int32) (x_wrong : Int32) (w_told : Value) (w_rule : Value) (w_otherRule : Value) (x_ruleSize : Int32) (x_isAsked : Int32) (w_asked : Value) (w_undos : Value) (x_undoMany : Int32) (w_aside : Value) (w_then : Value) (w_hold : Value) (x_dropped : Int32) (w_acts : Value) (w_guarded : Value) (w_train : Value) (x_trolleyEnd : Int32) (w_feltOf : Value) (w_feltBy : Value) (x_feltMany : Int32) (w_many : Value) (w_heardOf : Value) (w_heardBy : Value) (x_heardMany : Int32) (w_worth : Value) (x_drawn : Int32) (x_came : Int32) (w_kept : Value) (w_isKept : Value) (w_keptCame : Value) (f_now : Nat → Int32) (Post : Int32 → Prop) (hg : p_X8_refusesLoad F p1 p2 x_arches f_now Post) : MRi l D cT yX8_refusesLoad cX8_refusesLoad 3 (some .int) 2 43 [.ref h, .int p1, .int p2] [(h, oX8 (.ref q_now) (.int x_arches) (.int x_cats) w_text (.int x_typed) w_row (.int x_rowMany) (.int x_thrown) w_read (.int x_length) (.int x_top) (.int x_at) (.int x_wrong) w_told w_rule w_otherRule (.int x_ruleSize) (.int x_isAsked) w_asked w_undos (.int x_undoMany) w_aside w_then w_hold (.int x_dropped) w_acts w_guarded w_train (.int x_trolleyEnd) w_feltOf w_feltBy (.int x_feltMany) w_many w_heardOf w_heardBy (.int x_heardMany) w_worth (.int x_drawn) (.int x_came) w_kept w_isKept w_keptCame), (q_now, aI cT 47 f_now)] Post := by
  refine MRi.of (by decide) (Nat.le_of_ble_eq_true rfl) ?_
  intro p e s m below meth c hA C0 hr hP hD hS ls hl
  have hl : lv_has ls 3 [(0, .ref h), (1, .int p1), (2, .int p2)] := hl
  have hx := C0.x
  have hb := C0.b
  have hP : va_P D cls9 [(h, oX8 (.ref q_now) (.int x_arches) (.int x_cats) w_text (.int x_typed) w_row (.int x_rowMany) (.int x_thrown) w_read (.int x_length) (.int x_top) (.int x_at) (.int x_wrong) w_told w_rule w_otherRule (.int x_ruleSize) (.int x_isAsked) w_asked w_undos (.int x_undoMany) w_aside w_then w_hold (.int x_dropped) w_acts w_guarded w_train (.int x_trolleyEnd) w_feltOf w_feltBy (.int x_feltMany) w_many w_heardOf w_heardBy (.int x_heardMany) w_worth (.int x_drawn) (.int x_came) w_kept w_isKept w_keptCame), (q_now, aI cT 47 f_now)] s.heap := hP
  have hD : va_D (fun q => cT 6 ≤ q) [(h, oX8 (.ref q_now) (.int x_arches) (.int x_cats) w_text (.int x_typed) w_row (.int x_rowMany) (.int x_thrown) w_read (.int x_length) (.int x_top) (.int x_at) (.int x_wrong) w_told w_rule w_otherRule (.int x_ruleSize) (.int x_isAsked) w_asked w_undos (.int x_undoMany) w_aside w_then w_hold (.int x_dropped) w_acts w_guarded w_train (.int x_trolleyEnd) w_feltOf w_feltBy (.int x_feltMany) w_many w_heardOf w_heardBy (.int x_heardMany) w_worth (.int x_drawn) (.int x_came) w_kept w_isKept w_keptCame), (q_now, aI cT 47 f_now)] := hD
  unfold p_X8_refusesLoad at hg
  refine lv_aload_n hx hb dX8_refusesLoad_0 rfl (lv_at hl 0 rfl) ?_
  refine lv_iload_n hx hb dX8_refusesLoad_1 rfl (lv_at hl 1 rfl) ?_
  refine k_Vxi (rest := []) C0 lk_X8_214 (c_X8_isArch l D cT F h p1 (.ref q_now) x_arches x_cats w_text x_typed w_row x_rowMany x_thrown w_read x_length x_top x_at x_wrong w_told w_rule w_otherRule x_ruleSize x_isAsked w_asked w_undos x_undoMany w_aside w_then w_hold x_dropped w_acts w_guarded w_train x_trolleyEnd w_feltOf w_feltBy x_feltMany w_many w_heardOf w_heardBy x_heardMany w_worth x_drawn x_came w_kept w_isKept w_keptCame _ hg) hP hD hS hA [0] (by decide +kernel) rfl rfl rfl ⟨Nat.le_of_ble_eq_true rfl, Nat.le_of_ble_eq_true rfl⟩ rfl hl.1 rfl (Nat.le_of_ble_eq_true rfl) dX8_refusesLoad_2 ⟨Nat.le_of_ble_eq_true rfl, Nat.le_of_ble_eq_true rfl⟩ (fun r_2 hg => ?_)
  refine lv_if_eq (tgt := 18) hx hb dX8_refusesLoad_5 (by decide) (fun c_5 => ?_) (fun c_5 => ?_)
  · have hg := hg.1 c_5
    refine lv_iconst (v := (-1 : Int32)) hx hb dX8_refusesLoad_18 (by decide) ?_
    exact k_xiret C0 hr hg dX8_refusesLoad_19
  have hg := hg.2 c_5
  refine lv_iload_n hx hb dX8_refusesLoad_8 rfl (lv_at hl 2 rfl) ?_
  refine lv_iconst (v := (0 : Int32)) hx hb dX8_refusesLoad_9 (by decide) ?_
  refine lv_bipush (v := (9 : Int32)) hx hb dX8_refusesLoad_10 (by decide) ?_
  refine k_Sxi (rest := []) C0 lk_X8_92 (c_X8_in l D cT F p2 (0 : Int32) (9 : Int32) _ hg) hP hD hS hA [] (by decide +kernel) rfl ⟨Nat.le_of_ble_eq_true rfl, Nat.le_of_ble_eq_true rfl⟩ rfl hl.1 rfl (Nat.le_of_ble_eq_true rfl) dX8_refusesLoad_12 ⟨Nat.le_of_ble_eq_true rfl, Nat.le_of_ble_eq_true rfl⟩ (fun r_12 hg => ?_)
  refine lv_if_ne (tgt := 20) hx hb dX8_refusesLoad_15 (by decide) (fun c_15 => ?_) (fun c_15 => ?_)
  · have hg := hg.1 c_15
    refine lv_aload_n hx hb dX8_refusesLoad_20 rfl (lv_at hl 0 rfl) ?_
    refine gf_X8_9 C0 hP 0 rfl rfl dX8_refusesLoad_21 ?_
    refine lv_iload_n hx hb dX8_refusesLoad_24 rfl (lv_at hl 1 rfl) ?_
    obtain ⟨g_25, hg⟩ := hg
    refine k_iald C0 hP 1 rfl g_25 dX8_refusesLoad_25 ?_
    refine lv_iload_n hx hb dX8_refusesLoad_26 rfl (lv_at hl 2 rfl) ?_
    refine lv_icmp_ne (tgt := 35) hx hb dX8_refusesLoad_27 (by decide) (fun c_27 => ?_) (fun c_27 => ?_)
    · have hg := hg.1 c_27
      refine lv_iconst (v := (0 : Int32)) hx hb dX8_refusesLoad_35 (by decide) ?_
      exact k_xiret C0 hr hg dX8_refusesLoad_36
    have hg := hg.2 c_27
    refine lv_bipush (v := (-2 : Int32)) hx hb dX8_refusesLoad_30 (by decide) ?_
    refine lv_goto (tgt := 36) hx hb dX8_refusesLoad_32 (by decide) ?_
    exact k_xiret C0 hr hg dX8_refusesLoad_36
  have hg := hg.2 c_15
  refine lv_iconst (v := (-1 : Int32)) hx hb dX8_refusesLoad_18 (by decide) ?_
  exact k_xiret C0 hr hg dX8_refusesLoad_19
theorem dX8_loads_0 : decode cX8_loads 0 = .ok (.aload_n 0, 1) := by decide +kernel
theorem dX8_loads_1 : decode cX8_loads 1 = .ok (.iconst 0, 1) := by decide +kernel
theorem dX8_loads_2 : decode cX8_loads 2 = .ok (.putfield 82, 3) := by decide +kernel
theorem dX8_loads_5 : decode cX8_loads 5 = .ok (.aload_n 0, 1) := by decide +kernel
theorem dX8_loads_6 : decode cX8_loads 6 = .ok (.iload_n 1, 1) := by decide +kernel
theorem dX8_loads_7 : decode cX8_loads 7 = .ok (.iload_n 2, 1) := by decide +kernel
theorem dX8_loads_8 : decode cX8_loads 8 = .ok (.invokevirtual 280, 3) := by decide +kernel
theorem dX8_loads_11 : decode cX8_loads 11 = .ok (.istore_n 3, 1) := by decide +kernel
theorem dX8_loads_12 : decode cX8_loads 12 = .ok (.iload_n 3, 1) := by decide +kernel
theorem dX8_loads_13 : decode cX8_loads 13 = .ok (.ifCond .ge 5, 3) := by decide +kernel
theorem dX8_loads_16 : decode cX8_loads 16 = .ok (.iload_n 3, 1) := by decide +kernel
theorem dX8_loads_17 : decode cX8_loads 17 = .ok (.ireturn, 1) := by decide +kernel
theorem dX8_loads_18 : decode cX8_loads 18 = .ok (.aload_n 0, 1) := by decide +kernel
theorem dX8_loads_19 : decode cX8_loads 19 = .ok (.aload_n 0, 1) := by decide +kernel
theorem dX8_loads_20 : decode cX8_loads 20 = .ok (.getfield 9, 3) := by decide +kernel
theorem dX8_loads_23 : decode cX8_loads 23 = .ok (.invokevirtual 246, 3) := by decide +kernel
theorem dX8_loads_26 : decode cX8_loads 26 = .ok (.aload_n 0, 1) := by decide +kernel
theorem dX8_loads_27 : decode cX8_loads 27 = .ok (.getfield 9, 3) := by decide +kernel
theorem dX8_loads_30 : decode cX8_loads 30 = .ok (.iload_n 1, 1) := by decide +kernel
theorem dX8_loads_31 : decode cX8_loads 31 = .ok (.iaload, 1) := by decide +kernel
theorem dX8_loads_32 : decode cX8_loads 32 = .ok (.istore 4, 2) := by decide +kernel
theorem dX8_loads_34 : decode cX8_loads 34 = .ok (.aload_n 0, 1) := by decide +kernel
theorem dX8_loads_35 : decode cX8_loads 35 = .ok (.getfield 9, 3) := by decide +kernel
theorem dX8_loads_38 : decode cX8_loads 38 = .ok (.iload_n 1, 1) := by decide +kernel
theorem dX8_loads_39 : decode cX8_loads 39 = .ok (.iload_n 2, 1) := by decide +kernel
theorem dX8_loads_40 : decode cX8_loads 40 = .ok (.iastore, 1) := by decide +kernel
theorem dX8_loads_41 : decode cX8_loads 41 = .ok (.bipush 10, 2) := by decide +kernel
theorem dX8_loads_43 : decode cX8_loads 43 = .ok (.iload 4, 2) := by decide +kernel
theorem dX8_loads_45 : decode cX8_loads 45 = .ok (.iadd, 1) := by decide +kernel
theorem dX8_loads_46 : decode cX8_loads 46 = .ok (.ireturn, 1) := by decide +kernel
def p_X8_loads (F : Nat) (p1 : Int32) (p2 : Int32) (x_arches : Int32) (x_undoMany : Int32) (f_now : Nat → Int32) (f_undos : Nat → Int32) (Post : Int32 → (Int32 × Int32 × (Nat → Int32) × (Nat → Int32)) → Prop) : Prop := (p_X8_refusesLoad F p1 p2 x_arches f_now (fun (r_8 : Int32) => ((0 ≤ r_8 → (p_X8_remember F x_undoMany f_undos 47 f_now (fun (u_23 : (Int32 × (Nat → Int32))) => (vp_in p1 47 ∧ (vp_in p1 47 ∧ (Post ((10 : Int32) + (f_now p1.toNatClampNeg)) ((0 : Int32), u_23.1, (upd f_now p1.toNatClampNeg p2), u_23.2))))))) ∧ (¬ 0 ≤ r_8 → (Post r_8 ((0 : Int32), x_undoMany, f_now, f_undos))))))
set_option maxHeartbeats 4000000 in
set_option maxRecDepth 100000 in
theorem c_X8_loads (l : Launch) (D : va_G) (cT : Nat → ClassId) (F : Nat) (h : Nat) (p1 : Int32) (p2 : Int32) (q_now : Nat) (x_arches : Int32) (x_cats : Int32) (w_text : Value) (x_typed : Int32) (w_row : Value) (x_rowMany : Int32) (x_thrown : Int32) (w_read : Value) (x_length : Int32) (x_top : Int32) (x_at : Int32) (x_wrong : Int32) (w_told : Value) (w_rule : Value) (w_otherRule : Value) (x_ruleSize : Int32) (x_isAsked : Int32) (w_asked : Value) (q_undos : Nat) (x_undoMany : Int32) (w_aside : Value) (w_then : Value) (w_hold : Value) (x_dropped : Int32) (w_acts : Value) (w_guarded : Value) (w_train : Value) (x_trolleyEnd : Int32) (w_feltOf : Value) (w_feltBy : Value) (x_feltMany : Int32) (w_many : Value) (w_heardOf : Value) (w_heardBy : Value) (x_heardMany : Int32) (w_worth : Value) (x_drawn : Int32) (x_came : Int32) (w_kept : Value) (w_isKept : Value) (w_keptCame : Value) (f_now : Nat → Int32) (f_undos : Nat → Int32) (Post : Int32 → (Int32 × Int32 × (Nat → Int32) × (Nat → Int32)) → Prop) (hg : p_X8_loads F p1 p2 x_arches x_undoMany f_now f_undos Post) : MWi l D cT yX8_loads cX8_loads 5 (some .int) 3 65 0 0 [.ref h, .int p1, .int p2] [(h, oX8 (.ref q_now) (.int x_arches) (.int x_cats) w_text (.int x_typed) w_row (.int x_rowMany) (.int x_thrown) w_read (.int x_length) (.int x_top) (.int x_at) (.int x_wrong) w_told w_rule w_otherRule (.int x_ruleSize) (.int x_isAsked) w_asked (.ref q_undos) (.int x_undoMany) w_aside w_then w_hold (.int x_dropped) w_acts w_guarded w_train (.int x_trolleyEnd) w_feltOf w_feltBy (.int x_feltMany) w_many w_heardOf w_heardBy (.int x_heardMany) w_worth (.int x_drawn) (.int x_came) w_kept w_isKept w_keptCame), (q_now, aI cT 47 f_now), (q_undos, aI cT 564 f_undos)] Post (fun (u : (Int32 × Int32 × (Nat → Int32) × (Nat → Int32))) => [(h, oX8 (.ref q_now) (.int x_arches) (.int x_cats) w_text (.int x_typed) w_row (.int x_rowMany) (.int u.1) w_read (.int x_length) (.int x_top) (.int x_at) (.int x_wrong) w_told w_rule w_otherRule (.int x_ruleSize) (.int x_isAsked) w_asked (.ref q_undos) (.int u.2.1) w_aside w_then w_hold (.int x_dropped) w_acts w_guarded w_train (.int x_trolleyEnd) w_feltOf w_feltBy (.int x_feltMany) w_many w_heardOf w_heardBy (.int x_heardMany) w_worth (.int x_drawn) (.int x_came) w_kept w_isKept w_keptCame), (q_now, aI cT 47 u.2.2.1), (q_undos, aI cT 564 u.2.2.2)]) := by
  refine MWi.of (by decide) (Nat.le_of_ble_eq_true rfl) ?_
  intro p e s m below meth c A hA C0 hnm hr hP hD ls hl
  have hl : lv_has ls 5 [(0, .ref h), (1, .int p1), (2, .int p2)] := hl
  have hx := C0.x
  have hb := C0.b
  have hS : va_S A s.heap s.heap [] := va_S.rf
  have hP : va_P D cls9 [(h, oX8 (.ref q_now) (.int x_arches) (.int x_cats) w_text (.int x_typed) w_row (.int x_rowMany) (.int x_thrown) w_read (.int x_length) (.int x_top) (.int x_at) (.int x_wrong) w_told w_rule w_otherRule (.int x_ruleSize) (.int x_isAsked) w_asked (.ref q_undos) (.int x_undoMany) w_aside w_then w_hold (.int x_dropped) w_acts w_guarded w_train (.int x_trolleyEnd) w_feltOf w_feltBy (.int x_feltMany) w_many w_heardOf w_heardBy (.int x_heardMany) w_worth (.int x_drawn) (.int x_came) w_kept w_isKept w_keptCame), (q_now, aI cT 47 f_now), (q_undos, aI cT 564 f_undos)] s.heap := hP
  have hD : va_D A [(h, oX8 (.ref q_now) (.int x_arches) (.int x_cats) w_text (.int x_typed) w_row (.int x_rowMany) (.int x_thrown) w_read (.int x_length) (.int x_top) (.int x_at) (.int x_wrong) w_told w_rule w_otherRule (.int x_ruleSize) (.int x_isAsked) w_asked (.ref q_undos) (.int x_undoMany) w_aside w_then w_hold (.int x_dropped) w_acts w_guarded w_train (.int x_trolleyEnd) w_feltOf w_feltBy (.int x_feltMany) w_many w_heardOf w_heardBy (.int x_heardMany) w_worth (.int x_drawn) (.int x_came) w_kept w_isKept w_keptCame), (q_now, aI cT 47 f_now), (q_undos, aI cT 564 f_undos)] := hD
  unfold p_X8_loads at hg
  refine lv_aload_n hx hb dX8_loads_0 rfl (lv_at hl 0 rfl) ?_
  refine lv_iconst (v := (0 : Int32)) hx hb dX8_loads_1 (by decide) ?_
  refine pf_X8_82 C0 hP hD hS 0 rfl (Nat.le_of_ble_eq_true rfl) (ws2 := [(h, oX8 (.ref q_now) (.int x_arches) (.int x_cats) w_text (.int x_typed) w_row (.int x_rowMany) (.int (0 : Int32)) w_read (.int x_length) (.int x_top) (.int x_at) (.int x_wrong) w_told w_rule w_otherRule (.int x_ruleSize) (.int x_isAsked) w_asked (.ref q_undos) (.int x_undoMany) w_aside w_then w_hold (.int x_dropped) w_acts w_guarded w_train (.int x_trolleyEnd) w_feltOf w_feltBy (.int x_feltMany) w_many w_heardOf w_heardBy (.int x_heardMany) w_worth (.int x_drawn) (.int x_came) w_kept w_isKept w_keptCame), (q_now, aI cT 47 f_now), (q_undos, aI cT 564 f_undos)]) rfl dX8_loads_2 (fun H locs hP hD hS => ?_)
  refine lv_aload_n hx hb dX8_loads_5 rfl (lv_at hl 0 rfl) ?_
  refine lv_iload_n hx hb dX8_loads_6 rfl (lv_at hl 1 rfl) ?_
  refine lv_iload_n hx hb dX8_loads_7 rfl (lv_at hl 2 rfl) ?_
  refine k_Vxi (rest := []) C0 lk_X8_280 (c_X8_refusesLoad l D cT F h p1 p2 q_now x_arches x_cats w_text x_typed w_row x_rowMany (0 : Int32) w_read x_length x_top x_at x_wrong w_told w_rule w_otherRule x_ruleSize x_isAsked w_asked (.ref q_undos) x_undoMany w_aside w_then w_hold x_dropped w_acts w_guarded w_train x_trolleyEnd w_feltOf w_feltBy x_feltMany w_many w_heardOf w_heardBy x_heardMany w_worth x_drawn x_came w_kept w_isKept w_keptCame f_now _ hg) hP hD hS hA [0, 1] (by decide +kernel) rfl rfl rfl ⟨Nat.le_of_ble_eq_true rfl, Nat.le_of_ble_eq_true rfl⟩ rfl hl.1 rfl (Nat.le_of_ble_eq_true rfl) dX8_loads_8 ⟨Nat.le_of_ble_eq_true rfl, Nat.le_of_ble_eq_true rfl⟩ (fun r_8 hg => ?_)
  refine lv_istore_n (lv' := [(3, .int r_8), (0, .ref h), (1, .int p1), (2, .int p2)]) hx hb dX8_loads_11 rfl hl (by decide) rfl (fun ls hl => ?_)
  refine lv_iload_n hx hb dX8_loads_12 rfl (lv_at hl 0 rfl) ?_
  refine lv_if_ge (tgt := 18) hx hb dX8_loads_13 (by decide) (fun c_13 => ?_) (fun c_13 => ?_)
  · have hg := hg.1 c_13
    refine lv_aload_n hx hb dX8_loads_18 rfl (lv_at hl 1 rfl) ?_
    refine lv_aload_n hx hb dX8_loads_19 rfl (lv_at hl 1 rfl) ?_
    refine gf_X8_9 C0 hP 0 rfl rfl dX8_loads_20 ?_
    refine k_Vv (rest := []) (wr := []) (w2 := fun u_23 => [(h, oX8 (.ref q_now) (.int x_arches) (.int x_cats) w_text (.int x_typed) w_row (.int x_rowMany) (.int (0 : Int32)) w_read (.int x_length) (.int x_top) (.int x_at) (.int x_wrong) w_told w_rule w_otherRule (.int x_ruleSize) (.int x_isAsked) w_asked (.ref q_undos) (.int u_23.1) w_aside w_then w_hold (.int x_dropped) w_acts w_guarded w_train (.int x_trolleyEnd) w_feltOf w_feltBy (.int x_feltMany) w_many w_heardOf w_heardBy (.int x_heardMany) w_worth (.int x_drawn) (.int x_came) w_kept w_isKept w_keptCame), (q_undos, aI cT 564 u_23.2), (q_now, aI cT 47 f_now)]) C0 lk_X8_246 (c_X8_remember l D cT F h q_now (.ref q_now) x_arches x_cats w_text x_typed w_row x_rowMany (0 : Int32) w_read x_length x_top x_at x_wrong w_told w_rule w_otherRule x_ruleSize x_isAsked w_asked q_undos x_undoMany w_aside w_then w_hold x_dropped w_acts w_guarded w_train x_trolleyEnd w_feltOf w_feltBy x_feltMany w_many w_heardOf w_heardBy x_heardMany w_worth x_drawn x_came w_kept w_isKept w_keptCame f_undos 47 f_now _ hg) hP hD hS hA [0, 2, 1] [] (by decide +kernel) rfl rfl (fun _ => rfl) rfl rfl ⟨Nat.le_of_ble_eq_true rfl, Nat.le_of_ble_eq_true rfl⟩ rfl hl.1 rfl (Nat.le_of_ble_eq_true rfl) dX8_loads_23 ⟨Nat.le_of_ble_eq_true rfl, Nat.le_of_ble_eq_true rfl⟩ ?_
    intro u_23 H locs hg hP hD hS
    refine lv_aload_n hx hb dX8_loads_26 rfl (lv_at hl 1 rfl) ?_
    refine gf_X8_9 C0 hP 0 rfl rfl dX8_loads_27 ?_
    refine lv_iload_n hx hb dX8_loads_30 rfl (lv_at hl 2 rfl) ?_
    obtain ⟨g_31, hg⟩ := hg
    refine k_iald C0 hP 2 rfl g_31 dX8_loads_31 ?_
    refine lv_istore (lv' := [(4, .int (f_now p1.toNatClampNeg)), (3, .int r_8), (0, .ref h), (1, .int p1), (2, .int p2)]) hx hb dX8_loads_32 hl (by decide) rfl (fun ls hl => ?_)
    refine lv_aload_n hx hb dX8_loads_34 rfl (lv_at hl 2 rfl) ?_
    refine gf_X8_9 C0 hP 0 rfl rfl dX8_loads_35 ?_
    refine lv_iload_n hx hb dX8_loads_38 rfl (lv_at hl 3 rfl) ?_
    refine lv_iload_n hx hb dX8_loads_39 rfl (lv_at hl 4 rfl) ?_
    obtain ⟨g_40, hg⟩ := hg
    refine k_iast C0 hP hD hS 2 rfl g_40 (ws' := [(h, oX8 (.ref q_now) (.int x_arches) (.int x_cats) w_text (.int x_typed) w_row (.int x_rowMany) (.int (0 : Int32)) w_read (.int x_length) (.int x_top) (.int x_at) (.int x_wrong) w_told w_rule w_otherRule (.int x_ruleSize) (.int x_isAsked) w_asked (.ref q_undos) (.int u_23.1) w_aside w_then w_hold (.int x_dropped) w_acts w_guarded w_train (.int x_trolleyEnd) w_feltOf w_feltBy (.int x_feltMany) w_many w_heardOf w_heardBy (.int x_heardMany) w_worth (.int x_drawn) (.int x_came) w_kept w_isKept w_keptCame), (q_undos, aI cT 564 u_23.2), (q_now, aI cT 47 (upd f_now p1.toNatClampNeg p2))]) rfl dX8_loads_40 (fun H locs hP hD hS => ?_)
    refine lv_bipush (v := (10 : Int32)) hx hb dX8_loads_41 (by decide) ?_
    refine lv_iload hx hb dX8_loads_43 (lv_at hl 0 rfl) ?_
    refine lv_iadd hx hb dX8_loads_45 ?_
    exact k_iret C0 hr ((0 : Int32), u_23.1, (upd f_now p1.toNatClampNeg p2), u_23.2) hg (subP hP [0, 2, 1] rfl) (hD.sub [0, 2, 1] (nd2_ok _ (by decide +kernel)) rfl) hS dX8_loads_46
  have hg := hg.2 c_13
  refine lv_iload_n hx hb dX8_loads_16 rfl (lv_at hl 0 rfl) ?_
  exact k_iret C0 hr ((0 : Int32), x_undoMany, f_now, f_undos) hg hP hD hS dX8_loads_17
theorem dX8_readAct_0 : decode cX8_readAct 0 = .ok (.aload_n 0, 1) := by decide +kernel
theorem dX8_readAct_1 : decode cX8_readAct 1 = .ok (.invokevirtual 125, 3) := by decide +kernel
theorem dX8_readAct_4 : decode cX8_readAct 4 = .ok (.istore_n 2, 1) := by decide +kernel
theorem dX8_readAct_5 : decode cX8_readAct 5 = .ok (.iload_n 2, 1) := by decide +kernel
theorem dX8_readAct_6 : decode cX8_readAct 6 = .ok (.bipush 110, 2) := by decide +kernel
theorem dX8_readAct_8 : decode cX8_readAct 8 = .ok (.if_icmp .eq 42, 3) := by decide +kernel
theorem dX8_readAct_11 : decode cX8_readAct 11 = .ok (.iload_n 2, 1) := by decide +kernel
theorem dX8_readAct_12 : decode cX8_readAct 12 = .ok (.bipush 102, 2) := by decide +kernel
theorem dX8_readAct_14 : decode cX8_readAct 14 = .ok (.if_icmp .eq 36, 3) := by decide +kernel
theorem dX8_readAct_17 : decode cX8_readAct 17 = .ok (.iload_n 2, 1) := by decide +kernel
theorem dX8_readAct_18 : decode cX8_readAct 18 = .ok (.bipush 112, 2) := by decide +kernel
theorem dX8_readAct_20 : decode cX8_readAct 20 = .ok (.if_icmp .eq 30, 3) := by decide +kernel
theorem dX8_readAct_23 : decode cX8_readAct 23 = .ok (.iload_n 2, 1) := by decide +kernel
theorem dX8_readAct_24 : decode cX8_readAct 24 = .ok (.bipush 103, 2) := by decide +kernel
theorem dX8_readAct_26 : decode cX8_readAct 26 = .ok (.if_icmp .eq 24, 3) := by decide +kernel
theorem dX8_readAct_29 : decode cX8_readAct 29 = .ok (.iload_n 2, 1) := by decide +kernel
theorem dX8_readAct_30 : decode cX8_readAct 30 = .ok (.bipush 115, 2) := by decide +kernel
theorem dX8_readAct_32 : decode cX8_readAct 32 = .ok (.if_icmp .eq 18, 3) := by decide +kernel
theorem dX8_readAct_35 : decode cX8_readAct 35 = .ok (.iload_n 2, 1) := by decide +kernel
theorem dX8_readAct_36 : decode cX8_readAct 36 = .ok (.bipush 108, 2) := by decide +kernel
theorem dX8_readAct_38 : decode cX8_readAct 38 = .ok (.if_icmp .eq 12, 3) := by decide +kernel
theorem dX8_readAct_41 : decode cX8_readAct 41 = .ok (.aload_n 0, 1) := by decide +kernel
theorem dX8_readAct_42 : decode cX8_readAct 42 = .ok (.aload_n 0, 1) := by decide +kernel
theorem dX8_readAct_43 : decode cX8_readAct 43 = .ok (.getfield 111, 3) := by decide +kernel
theorem dX8_readAct_46 : decode cX8_readAct 46 = .ok (.invokevirtual 133, 3) := by decide +kernel
theorem dX8_readAct_49 : decode cX8_readAct 49 = .ok (.return_, 1) := by decide +kernel
theorem dX8_readAct_50 : decode cX8_readAct 50 = .ok (.aload_n 0, 1) := by decide +kernel
theorem dX8_readAct_51 : decode cX8_readAct 51 = .ok (.dup, 1) := by decide +kernel
theorem dX8_readAct_52 : decode cX8_readAct 52 = .ok (.getfield 111, 3) := by decide +kernel
theorem dX8_readAct_55 : decode cX8_readAct 55 = .ok (.iconst 1, 1) := by decide +kernel
theorem dX8_readAct_56 : decode cX8_readAct 56 = .ok (.iadd, 1) := by decide +kernel
theorem dX8_readAct_57 : decode cX8_readAct 57 = .ok (.putfield 111, 3) := by decide +kernel
theorem dX8_readAct_60 : decode cX8_readAct 60 = .ok (.aload_n 0, 1) := by decide +kernel
theorem dX8_readAct_61 : decode cX8_readAct 61 = .ok (.getfield 45, 3) := by decide +kernel
theorem dX8_readAct_64 : decode cX8_readAct 64 = .ok (.iload_n 1, 1) := by decide +kernel
theorem dX8_readAct_65 : decode cX8_readAct 65 = .ok (.iload_n 2, 1) := by decide +kernel
theorem dX8_readAct_66 : decode cX8_readAct 66 = .ok (.iastore, 1) := by decide +kernel
theorem dX8_readAct_67 : decode cX8_readAct 67 = .ok (.aload_n 0, 1) := by decide +kernel
theorem dX8_readAct_68 : decode cX8_readAct 68 = .ok (.getfield 45, 3) := by decide +kernel
theorem dX8_readAct_71 : decode cX8_readAct 71 = .ok (.iload_n 1, 1) := by decide +kernel
theorem dX8_readAct_72 : decode cX8_readAct 72 = .ok (.iconst 1, 1) := by decide +kernel
theorem dX8_readAct_73 : decode cX8_readAct 73 = .ok (.iadd, 1) := by decide +kernel
theorem dX8_readAct_74 : decode cX8_readAct 74 = .ok (.aload_n 0, 1) := by decide +kernel
theorem dX8_readAct_75 : decode cX8_readAct 75 = .ok (.bipush 48, 2) := by decide +kernel
theorem dX8_readAct_77 : decode cX8_readAct 77 = .ok (.bipush 10, 2) := by decide +kernel
theorem dX8_readAct_79 : decode cX8_readAct 79 = .ok (.invokevirtual 137, 3) := by decide +kernel
theorem dX8_readAct_82 : decode cX8_readAct 82 = .ok (.iastore, 1) := by decide +kernel
theorem dX8_readAct_83 : decode cX8_readAct 83 = .ok (.iload_n 2, 1) := by decide +kernel
theorem dX8_readAct_84 : decode cX8_readAct 84 = .ok (.bipush 102, 2) := by decide +kernel
theorem dX8_readAct_86 : decode cX8_readAct 86 = .ok (.if_icmp .eq 9, 3) := by decide +kernel
theorem dX8_readAct_89 : decode cX8_readAct 89 = .ok (.iload_n 2, 1) := by decide +kernel
theorem dX8_readAct_90 : decode cX8_readAct 90 = .ok (.bipush 103, 2) := by decide +kernel
theorem dX8_readAct_92 : decode cX8_readAct 92 = .ok (.if_icmp .ne 21, 3) := by decide +kernel
theorem dX8_readAct_95 : decode cX8_readAct 95 = .ok (.aload_n 0, 1) := by decide +kernel
theorem dX8_readAct_96 : decode cX8_readAct 96 = .ok (.getfield 45, 3) := by decide +kernel
theorem dX8_readAct_99 : decode cX8_readAct 99 = .ok (.iload_n 1, 1) := by decide +kernel
theorem dX8_readAct_100 : decode cX8_readAct 100 = .ok (.iconst 2, 1) := by decide +kernel
theorem dX8_readAct_101 : decode cX8_readAct 101 = .ok (.iadd, 1) := by decide +kernel
theorem dX8_readAct_102 : decode cX8_readAct 102 = .ok (.aload_n 0, 1) := by decide +kernel
theorem dX8_readAct_103 : decode cX8_readAct 103 = .ok (.bipush 49, 2) := by decide +kernel
theorem dX8_readAct_105 : decode cX8_readAct 105 = .ok (.bipush 9, 2) := by decide +kernel
theorem dX8_readAct_107 : decode cX8_readAct 107 = .ok (.invokevirtual 137, 3) := by decide +kernel
theorem dX8_readAct_110 : decode cX8_readAct 110 = .ok (.iconst 1, 1) := by decide +kernel
theorem dX8_readAct_111 : decode cX8_readAct 111 = .ok (.iadd, 1) := by decide +kernel
theorem dX8_readAct_112 : decode cX8_readAct 112 = .ok (.iastore, 1) := by decide +kernel
theorem dX8_readAct_113 : decode cX8_readAct 113 = .ok (.iload_n 2, 1) := by decide +kernel
theorem dX8_readAct_114 : decode cX8_readAct 114 = .ok (.bipush 115, 2) := by decide +kernel
theorem dX8_readAct_116 : decode cX8_readAct 116 = .ok (.if_icmp .eq 9, 3) := by decide +kernel
theorem dX8_readAct_119 : decode cX8_readAct 119 = .ok (.iload_n 2, 1) := by decide +kernel
theorem dX8_readAct_120 : decode cX8_readAct 120 = .ok (.bipush 108, 2) := by decide +kernel
theorem dX8_readAct_122 : decode cX8_readAct 122 = .ok (.if_icmp .ne 19, 3) := by decide +kernel
theorem dX8_readAct_125 : decode cX8_readAct 125 = .ok (.aload_n 0, 1) := by decide +kernel
theorem dX8_readAct_126 : decode cX8_readAct 126 = .ok (.getfield 45, 3) := by decide +kernel
theorem dX8_readAct_129 : decode cX8_readAct 129 = .ok (.iload_n 1, 1) := by decide +kernel
theorem dX8_readAct_130 : decode cX8_readAct 130 = .ok (.iconst 2, 1) := by decide +kernel
theorem dX8_readAct_131 : decode cX8_readAct 131 = .ok (.iadd, 1) := by decide +kernel
theorem dX8_readAct_132 : decode cX8_readAct 132 = .ok (.aload_n 0, 1) := by decide +kernel
theorem dX8_readAct_133 : decode cX8_readAct 133 = .ok (.bipush 48, 2) := by decide +kernel
theorem dX8_readAct_135 : decode cX8_readAct 135 = .ok (.bipush 10, 2) := by decide +kernel
theorem dX8_readAct_137 : decode cX8_readAct 137 = .ok (.invokevirtual 137, 3) := by decide +kernel
theorem dX8_readAct_140 : decode cX8_readAct 140 = .ok (.iastore, 1) := by decide +kernel
theorem dX8_readAct_141 : decode cX8_readAct 141 = .ok (.return_, 1) := by decide +kernel
def p_X8_readAct_125 (F : Nat) (p1 : Int32) (x_length : Int32) (x_top : Int32) (n_read : Nat) (f_read : Nat → Int32) (x_at_113 : Int32) (x_wrong_113 : Int32) (f_acts_113 : Nat → Int32) (Post : (Int32 × Int32 × (Nat → Int32)) → Prop) : Prop := (p_X8_oneOf F (48 : Int32) (10 : Int32) x_length x_top x_at_113 x_wrong_113 n_read f_read (fun (r_137 : Int32) (u_137 : (Int32 × Int32)) => (vp_in (p1 + (2 : Int32)) 240 ∧ (Post (u_137.1, u_137.2, (upd f_acts_113 (p1 + (2 : Int32)).toNatClampNeg r_137))))))
def p_X8_readAct_113 (F : Nat) (p1 : Int32) (x_length : Int32) (x_top : Int32) (n_read : Nat) (f_read : Nat → Int32) (r_1 : Int32) (Post : (Int32 × Int32 × (Nat → Int32)) → Prop) (x_at_113 : Int32) (x_wrong_113 : Int32) (f_acts_113 : Nat → Int32) : Prop := ((r_1 = (115 : Int32) → (p_X8_readAct_125 F p1 x_length x_top n_read f_read x_at_113 x_wrong_113 f_acts_113 Post )) ∧ (¬ r_1 = (115 : Int32) → ((¬ r_1 = (108 : Int32) → (Post (x_at_113, x_wrong_113, f_acts_113))) ∧ (r_1 = (108 : Int32) → (p_X8_readAct_125 F p1 x_length x_top n_read f_read x_at_113 x_wrong_113 f_acts_113 Post )))))
def p_X8_readAct_95 (F : Nat) (p1 : Int32) (x_length : Int32) (x_top : Int32) (n_read : Nat) (f_read : Nat → Int32) (f_acts : Nat → Int32) (r_1 : Int32) (r_79 : Int32) (u_79 : (Int32 × Int32)) (Post : (Int32 × Int32 × (Nat → Int32)) → Prop) : Prop := (p_X8_oneOf F (49 : Int32) (9 : Int32) x_length x_top u_79.1 u_79.2 n_read f_read (fun (r_107 : Int32) (u_107 : (Int32 × Int32)) => (vp_in (p1 + (2 : Int32)) 240 ∧ (p_X8_readAct_113 F p1 x_length x_top n_read f_read r_1 Post u_107.1 u_107.2 (upd (upd (upd f_acts p1.toNatClampNeg r_1) (p1 + (1 : Int32)).toNatClampNeg r_79) (p1 + (2 : Int32)).toNatClampNeg (r_107 + (1 : Int32)))))))
def p_X8_readAct_50 (F : Nat) (p1 : Int32) (x_length : Int32) (x_top : Int32) (x_at : Int32) (x_wrong : Int32) (n_read : Nat) (f_read : Nat → Int32) (f_acts : Nat → Int32) (r_1 : Int32) (Post : (Int32 × Int32 × (Nat → Int32)) → Prop) : Prop := (vp_in p1 240 ∧ (p_X8_oneOf F (48 : Int32) (10 : Int32) x_length x_top (x_at + (1 : Int32)) x_wrong n_read f_read (fun (r_79 : Int32) (u_79 : (Int32 × Int32)) => (vp_in (p1 + (1 : Int32)) 240 ∧ ((r_1 = (102 : Int32) → (p_X8_readAct_95 F p1 x_length x_top n_read f_read f_acts r_1 r_79 u_79 Post )) ∧ (¬ r_1 = (102 : Int32) → ((¬ r_1 = (103 : Int32) → (p_X8_readAct_113 F p1 x_length x_top n_read f_read r_1 Post u_79.1 u_79.2 (upd (upd f_acts p1.toNatClampNeg r_1) (p1 + (1 : Int32)).toNatClampNeg r_79))) ∧ (r_1 = (103 : Int32) → (p_X8_readAct_95 F p1 x_length x_top n_read f_read f_acts r_1 r_79 u_79 Post )))))))))
def p_X8_readAct (F : Nat) (p1 : Int32) (x_length : Int32) (x_top : Int32) (x_at : Int32) (x_wrong : Int32) (n_read : Nat) (f_read : Nat → Int32) (f_acts : Nat → Int32) (Post : (Int32 × Int32 × (Nat → Int32)) → Prop) : Prop := (p_X8_here F x_length x_top x_at n_read f_read (fun (r_1 : Int32) => ((r_1 = (110 : Int32) → (p_X8_readAct_50 F p1 x_length x_top x_at x_wrong n_read f_read f_acts r_1 Post )) ∧ (¬ r_1 = (110 : Int32) → ((r_1 = (102 : Int32) → (p_X8_readAct_50 F p1 x_length x_top x_at x_wrong n_read f_read f_acts r_1 Post )) ∧ (¬ r_1 = (102 : Int32) → ((r_1 = (112 : Int32) → (p_X8_readAct_50 F p1 x_length x_top x_at x_wrong n_read f_read f_acts r_1 Post )) ∧ (¬ r_1 = (112 : Int32) → ((r_1 = (103 : Int32) → (p_X8_readAct_50 F p1 x_length x_top x_at x_wrong n_read f_read f_acts r_1 Post )) ∧ (¬ r_1 = (103 : Int32) → ((r_1 = (115 : Int32) → (p_X8_readAct_50 F p1 x_length x_top x_at x_wrong n_read f_read f_acts r_1 Post )) ∧ (¬ r_1 = (115 : Int32) → ((r_1 = (108 : Int32) → (p_X8_readAct_50 F p1 x_length x_top x_at x_wrong n_read f_read f_acts r_1 Post )) ∧ (¬ r_1 = (108 : Int32) → (p_X8_fault F x_at x_wrong (fun (u_46 : Int32) => (Post (x_at, u_46, f_acts))))))))))))))))))
set_option maxHeartbeats 4000000 in
set_option maxRecDepth 100000 in
theorem c_X8_readAct (l : Launch) (D : va_G) (cT : Nat → ClassId) (F : Nat) (h : Nat) (p1 : Int32) (w_now : Value) (x_arches : Int32) (x_cats : Int32) (w_text : Value) (x_typed : Int32) (w_row : Value) (x_rowMany : Int32) (x_thrown : Int32) (q_read : Nat) (x_length : Int32) (x_top : Int32) (x_at : Int32) (x_wrong : Int32) (w_told : Value) (w_rule : Value) (w_otherRule : Value) (x_ruleSize : Int32) (x_isAsked : Int32) (w_asked : Value) (w_undos : Value) (x_undoMany : Int32) (w_aside : Value) (w_then : Value) (w_hold : Value) (x_dropped : Int32) (q_acts : Nat) (w_guarded : Value) (w_train : Value) (x_trolleyEnd : Int32) (w_feltOf : Value) (w_feltBy : Value) (x_feltMany : Int32) (w_many : Value) (w_heardOf : Value) (w_heardBy : Value) (x_heardMany : Int32) (w_worth : Value) (x_drawn : Int32) (x_came : Int32) (w_kept : Value) (w_isKept : Value) (w_keptCame : Value) (n_read : Nat) (f_read : Nat → Int32) (f_acts : Nat → Int32) (Post : (Int32 × Int32 × (Nat → Int32)) → Prop) (hg : p_X8_readAct F p1 x_length x_top x_at x_wrong n_read f_read f_acts Post) : MWv l D cT yX8_readAct cX8_readAct 3 none 3 63 0 0 [.ref h, .int p1] [(h, oX8 w_now (.int x_arches) (.int x_cats) w_text (.int x_typed) w_row (.int x_rowMany) (.int x_thrown) (.ref q_read) (.int x_length) (.int x_top) (.int x_at) (.int x_wrong) w_told w_rule w_otherRule (.int x_ruleSize) (.int x_isAsked) w_asked w_undos (.int x_undoMany) w_aside w_then w_hold (.int x_dropped) (.ref q_acts) w_guarded w_train (.int x_trolleyEnd) w_feltOf w_feltBy (.int x_feltMany) w_many w_heardOf w_heardBy (.int x_heardMany) w_worth (.int x_drawn) (.int x_came) w_kept w_isKept w_keptCame), (q_read, aB cT n_read f_read), (q_acts, aI cT 240 f_acts)] Post (fun (u : (Int32 × Int32 × (Nat → Int32))) => [(h, oX8 w_now (.int x_arches) (.int x_cats) w_text (.int x_typed) w_row (.int x_rowMany) (.int x_thrown) (.ref q_read) (.int x_length) (.int x_top) (.int u.1) (.int u.2.1) w_told w_rule w_otherRule (.int x_ruleSize) (.int x_isAsked) w_asked w_undos (.int x_undoMany) w_aside w_then w_hold (.int x_dropped) (.ref q_acts) w_guarded w_train (.int x_trolleyEnd) w_feltOf w_feltBy (.int x_feltMany) w_many w_heardOf w_heardBy (.int x_heardMany) w_worth (.int x_drawn) (.int x_came) w_kept w_isKept w_keptCame), (q_read, aB cT n_read f_read), (q_acts, aI cT 240 u.2.2)]) := by
  refine MWv.of (by decide) (Nat.le_of_ble_eq_true rfl) ?_
  intro p e s m below meth c A hA C0 hnm hr hP hD ls hl
  have hl : lv_has ls 3 [(0, .ref h), (1, .int p1)] := hl
  have hx := C0.x
  have hb := C0.b
  have hS : va_S A s.heap s.heap [] := va_S.rf
  have hP : va_P D cls9 [(h, oX8 w_now (.int x_arches) (.int x_cats) w_text (.int x_typed) w_row (.int x_rowMany) (.int x_thrown) (.ref q_read) (.int x_length) (.int x_top) (.int x_at) (.int x_wrong) w_told w_rule w_otherRule (.int x_ruleSize) (.int x_isAsked) w_asked w_undos (.int x_undoMany) w_aside w_then w_hold (.int x_dropped) (.ref q_acts) w_guarded w_train (.int x_trolleyEnd) w_feltOf w_feltBy (.int x_feltMany) w_many w_heardOf w_heardBy (.int x_heardMany) w_worth (.int x_drawn) (.int x_came) w_kept w_isKept w_keptCame), (q_read, aB cT n_read f_read), (q_acts, aI cT 240 f_acts)] s.heap := hP
  have hD : va_D A [(h, oX8 w_now (.int x_arches) (.int x_cats) w_text (.int x_typed) w_row (.int x_rowMany) (.int x_thrown) (.ref q_read) (.int x_length) (.int x_top) (.int x_at) (.int x_wrong) w_told w_rule w_otherRule (.int x_ruleSize) (.int x_isAsked) w_asked w_undos (.int x_undoMany) w_aside w_then w_hold (.int x_dropped) (.ref q_acts) w_guarded w_train (.int x_trolleyEnd) w_feltOf w_feltBy (.int x_feltMany) w_many w_heardOf w_heardBy (.int x_heardMany) w_worth (.int x_drawn) (.int x_came) w_kept w_isKept w_keptCame), (q_read, aB cT n_read f_read), (q_acts, aI cT 240 f_acts)] := hD
  have L125 : ∀ (x_at_113 : Int32) (x_wrong_113 : Int32) (f_acts_113 : Nat → Int32) (H : Heap) (locs : List Loc) (ls : Array Slot), p_X8_readAct_125 F p1 x_length x_top n_read f_read x_at_113 x_wrong_113 f_acts_113 Post → va_P D cls9 [(h, oX8 w_now (.int x_arches) (.int x_cats) w_text (.int x_typed) w_row (.int x_rowMany) (.int x_thrown) (.ref q_read) (.int x_length) (.int x_top) (.int x_at_113) (.int x_wrong_113) w_told w_rule w_otherRule (.int x_ruleSize) (.int x_isAsked) w_asked w_undos (.int x_undoMany) w_aside w_then w_hold (.int x_dropped) (.ref q_acts) w_guarded w_train (.int x_trolleyEnd) w_feltOf w_feltBy (.int x_feltMany) w_many w_heardOf w_heardBy (.int x_heardMany) w_worth (.int x_drawn) (.int x_came) w_kept w_isKept w_keptCame), (q_read, aB cT n_read f_read), (q_acts, aI cT 240 f_acts_113)] H → va_D A [(h, oX8 w_now (.int x_arches) (.int x_cats) w_text (.int x_typed) w_row (.int x_rowMany) (.int x_thrown) (.ref q_read) (.int x_length) (.int x_top) (.int x_at_113) (.int x_wrong_113) w_told w_rule w_otherRule (.int x_ruleSize) (.int x_isAsked) w_asked w_undos (.int x_undoMany) w_aside w_then w_hold (.int x_dropped) (.ref q_acts) w_guarded w_train (.int x_trolleyEnd) w_feltOf w_feltBy (.int x_feltMany) w_many w_heardOf w_heardBy (.int x_heardMany) w_worth (.int x_drawn) (.int x_came) w_kept w_isKept w_keptCame), (q_read, aB cT n_read f_read), (q_acts, aI cT 240 f_acts_113)] → va_S A s.heap H locs → lv_has ls 3 [(0, .ref h), (1, .int p1)] → W p l e (rmO 3 63 0 0) s m ([.ref h, .int p1] : List Value).toArray below meth c H locs 0 0 (MQ below (va_Qv Post (cB D A (fun (u : (Int32 × Int32 × (Nat → Int32))) => [(h, oX8 w_now (.int x_arches) (.int x_cats) w_text (.int x_typed) w_row (.int x_rowMany) (.int x_thrown) (.ref q_read) (.int x_length) (.int x_top) (.int u.1) (.int u.2.1) w_told w_rule w_otherRule (.int x_ruleSize) (.int x_isAsked) w_asked w_undos (.int x_undoMany) w_aside w_then w_hold (.int x_dropped) (.ref q_acts) w_guarded w_train (.int x_trolleyEnd) w_feltOf w_feltBy (.int x_feltMany) w_many w_heardOf w_heardBy (.int x_heardMany) w_worth (.int x_drawn) (.int x_came) w_kept w_isKept w_keptCame), (q_read, aB cT n_read f_read), (q_acts, aI cT 240 u.2.2)])) A) ([.ref h, .int p1] : List Value).toArray s 0 0 A) (F0 m 125 ls []) := by
    intro x_at_113 x_wrong_113 f_acts_113 H locs ls hg hP hD hS hl
    unfold p_X8_readAct_125 at hg
    refine lv_aload_n hx hb dX8_readAct_125 rfl (lv_at hl 0 rfl) ?_
    refine gf_X8_45 C0 hP 0 rfl rfl dX8_readAct_126 ?_
    refine lv_iload_n hx hb dX8_readAct_129 rfl (lv_at hl 1 rfl) ?_
    refine lv_iconst (v := (2 : Int32)) hx hb dX8_readAct_130 (by decide) ?_
    refine lv_iadd hx hb dX8_readAct_131 ?_
    refine lv_aload_n hx hb dX8_readAct_132 rfl (lv_at hl 0 rfl) ?_
    refine lv_bipush (v := (48 : Int32)) hx hb dX8_readAct_133 (by decide) ?_
    refine lv_bipush (v := (10 : Int32)) hx hb dX8_readAct_135 (by decide) ?_
    refine k_Vi (rest := [.int (p1 + (2 : Int32)), .ref q_acts]) (wr := [(q_acts, aI cT 240 f_acts_113)]) (w2 := fun u_137 => [(q_acts, aI cT 240 f_acts_113), (h, oX8 w_now (.int x_arches) (.int x_cats) w_text (.int x_typed) w_row (.int x_rowMany) (.int x_thrown) (.ref q_read) (.int x_length) (.int x_top) (.int u_137.1) (.int u_137.2) w_told w_rule w_otherRule (.int x_ruleSize) (.int x_isAsked) w_asked w_undos (.int x_undoMany) w_aside w_then w_hold (.int x_dropped) (.ref q_acts) w_guarded w_train (.int x_trolleyEnd) w_feltOf w_feltBy (.int x_feltMany) w_many w_heardOf w_heardBy (.int x_heardMany) w_worth (.int x_drawn) (.int x_came) w_kept w_isKept w_keptCame), (q_read, aB cT n_read f_read)]) C0 lk_X8_137 (c_X8_oneOf l D cT F h (48 : Int32) (10 : Int32) w_now x_arches x_cats w_text x_typed w_row x_rowMany x_thrown q_read x_length x_top x_at_113 x_wrong_113 w_told w_rule w_otherRule x_ruleSize x_isAsked w_asked w_undos x_undoMany w_aside w_then w_hold x_dropped (.ref q_acts) w_guarded w_train x_trolleyEnd w_feltOf w_feltBy x_feltMany w_many w_heardOf w_heardBy x_heardMany w_worth x_drawn x_came w_kept w_isKept w_keptCame n_read f_read _ hg) hP hD hS hA [0, 1] [2] (by decide +kernel) rfl rfl (fun _ => rfl) rfl rfl ⟨Nat.le_of_ble_eq_true rfl, Nat.le_of_ble_eq_true rfl⟩ rfl hl.1 rfl (Nat.le_of_ble_eq_true rfl) dX8_readAct_137 ⟨Nat.le_of_ble_eq_true rfl, Nat.le_of_ble_eq_true rfl⟩ ?_
    intro r_137 u_137 H locs hg hP hD hS
    obtain ⟨g_140, hg⟩ := hg
    refine k_iast C0 hP hD hS 0 rfl g_140 (ws' := [(q_acts, aI cT 240 (upd f_acts_113 (p1 + (2 : Int32)).toNatClampNeg r_137)), (h, oX8 w_now (.int x_arches) (.int x_cats) w_text (.int x_typed) w_row (.int x_rowMany) (.int x_thrown) (.ref q_read) (.int x_length) (.int x_top) (.int u_137.1) (.int u_137.2) w_told w_rule w_otherRule (.int x_ruleSize) (.int x_isAsked) w_asked w_undos (.int x_undoMany) w_aside w_then w_hold (.int x_dropped) (.ref q_acts) w_guarded w_train (.int x_trolleyEnd) w_feltOf w_feltBy (.int x_feltMany) w_many w_heardOf w_heardBy (.int x_heardMany) w_worth (.int x_drawn) (.int x_came) w_kept w_isKept w_keptCame), (q_read, aB cT n_read f_read)]) rfl dX8_readAct_140 (fun H locs hP hD hS => ?_)
    exact k_vret C0 hr (u_137.1, u_137.2, (upd f_acts_113 (p1 + (2 : Int32)).toNatClampNeg r_137)) hg (subP hP [1, 2, 0] rfl) (hD.sub [1, 2, 0] (nd2_ok _ (by decide +kernel)) rfl) hS dX8_readAct_141
  have L113 : ∀ (r_1 : Int32) (x_at_113 : Int32) (x_wrong_113 : Int32) (f_acts_113 : Nat → Int32) (H : Heap) (locs : List Loc) (ls : Array Slot), p_X8_readAct_113 F p1 x_length x_top n_read f_read r_1 Post x_at_113 x_wrong_113 f_acts_113 → va_P D cls9 [(h, oX8 w_now (.int x_arches) (.int x_cats) w_text (.int x_typed) w_row (.int x_rowMany) (.int x_thrown) (.ref q_read) (.int x_length) (.int x_top) (.int x_at_113) (.int x_wrong_113) w_told w_rule w_otherRule (.int x_ruleSize) (.int x_isAsked) w_asked w_undos (.int x_undoMany) w_aside w_then w_hold (.int x_dropped) (.ref q_acts) w_guarded w_train (.int x_trolleyEnd) w_feltOf w_feltBy (.int x_feltMany) w_many w_heardOf w_heardBy (.int x_heardMany) w_worth (.int x_drawn) (.int x_came) w_kept w_isKept w_keptCame), (q_read, aB cT n_read f_read), (q_acts, aI cT 240 f_acts_113)] H → va_D A [(h, oX8 w_now (.int x_arches) (.int x_cats) w_text (.int x_typed) w_row (.int x_rowMany) (.int x_thrown) (.ref q_read) (.int x_length) (.int x_top) (.int x_at_113) (.int x_wrong_113) w_told w_rule w_otherRule (.int x_ruleSize) (.int x_isAsked) w_asked w_undos (.int x_undoMany) w_aside w_then w_hold (.int x_dropped) (.ref q_acts) w_guarded w_train (.int x_trolleyEnd) w_feltOf w_feltBy (.int x_feltMany) w_many w_heardOf w_heardBy (.int x_heardMany) w_worth (.int x_drawn) (.int x_came) w_kept w_isKept w_keptCame), (q_read, aB cT n_read f_read), (q_acts, aI cT 240 f_acts_113)] → va_S A s.heap H locs → lv_has ls 3 [(0, .ref h), (1, .int p1), (2, .int r_1)] → W p l e (rmO 3 63 0 0) s m ([.ref h, .int p1] : List Value).toArray below meth c H locs 0 0 (MQ below (va_Qv Post (cB D A (fun (u : (Int32 × Int32 × (Nat → Int32))) => [(h, oX8 w_now (.int x_arches) (.int x_cats) w_text (.int x_typed) w_row (.int x_rowMany) (.int x_thrown) (.ref q_read) (.int x_length) (.int x_top) (.int u.1) (.int u.2.1) w_told w_rule w_otherRule (.int x_ruleSize) (.int x_isAsked) w_asked w_undos (.int x_undoMany) w_aside w_then w_hold (.int x_dropped) (.ref q_acts) w_guarded w_train (.int x_trolleyEnd) w_feltOf w_feltBy (.int x_feltMany) w_many w_heardOf w_heardBy (.int x_heardMany) w_worth (.int x_drawn) (.int x_came) w_kept w_isKept w_keptCame), (q_read, aB cT n_read f_read), (q_acts, aI cT 240 u.2.2)])) A) ([.ref h, .int p1] : List Value).toArray s 0 0 A) (F0 m 113 ls []) := by
    intro r_1 x_at_113 x_wrong_113 f_acts_113 H locs ls hg hP hD hS hl
    unfold p_X8_readAct_113 at hg
    refine lv_iload_n hx hb dX8_readAct_113 rfl (lv_at hl 2 rfl) ?_
    refine lv_bipush (v := (115 : Int32)) hx hb dX8_readAct_114 (by decide) ?_
    refine lv_icmp_eq (tgt := 125) hx hb dX8_readAct_116 (by decide) (fun c_116 => ?_) (fun c_116 => ?_)
    · have hg := hg.1 c_116
      exact L125 x_at_113 x_wrong_113 f_acts_113 _ _ _ hg hP hD hS (lv_sub hl [0, 1] rfl)
    have hg := hg.2 c_116
    refine lv_iload_n hx hb dX8_readAct_119 rfl (lv_at hl 2 rfl) ?_
    refine lv_bipush (v := (108 : Int32)) hx hb dX8_readAct_120 (by decide) ?_
    refine lv_icmp_ne (tgt := 141) hx hb dX8_readAct_122 (by decide) (fun c_122 => ?_) (fun c_122 => ?_)
    · have hg := hg.1 c_122
      exact k_vret C0 hr (x_at_113, x_wrong_113, f_acts_113) hg hP hD hS dX8_readAct_141
    have hg := hg.2 c_122
    exact L125 x_at_113 x_wrong_113 f_acts_113 _ _ _ hg hP hD hS (lv_sub hl [0, 1] rfl)
  have L95 : ∀ (r_1 : Int32) (r_79 : Int32) (u_79 : (Int32 × Int32)) (H : Heap) (locs : List Loc) (ls : Array Slot), p_X8_readAct_95 F p1 x_length x_top n_read f_read f_acts r_1 r_79 u_79 Post → va_P D cls9 [(h, oX8 w_now (.int x_arches) (.int x_cats) w_text (.int x_typed) w_row (.int x_rowMany) (.int x_thrown) (.ref q_read) (.int x_length) (.int x_top) (.int u_79.1) (.int u_79.2) w_told w_rule w_otherRule (.int x_ruleSize) (.int x_isAsked) w_asked w_undos (.int x_undoMany) w_aside w_then w_hold (.int x_dropped) (.ref q_acts) w_guarded w_train (.int x_trolleyEnd) w_feltOf w_feltBy (.int x_feltMany) w_many w_heardOf w_heardBy (.int x_heardMany) w_worth (.int x_drawn) (.int x_came) w_kept w_isKept w_keptCame), (q_read, aB cT n_read f_read), (q_acts, aI cT 240 (upd (upd f_acts p1.toNatClampNeg r_1) (p1 + (1 : Int32)).toNatClampNeg r_79))] H → va_D A [(h, oX8 w_now (.int x_arches) (.int x_cats) w_text (.int x_typed) w_row (.int x_rowMany) (.int x_thrown) (.ref q_read) (.int x_length) (.int x_top) (.int u_79.1) (.int u_79.2) w_told w_rule w_otherRule (.int x_ruleSize) (.int x_isAsked) w_asked w_undos (.int x_undoMany) w_aside w_then w_hold (.int x_dropped) (.ref q_acts) w_guarded w_train (.int x_trolleyEnd) w_feltOf w_feltBy (.int x_feltMany) w_many w_heardOf w_heardBy (.int x_heardMany) w_worth (.int x_drawn) (.int x_came) w_kept w_isKept w_keptCame), (q_read, aB cT n_read f_read), (q_acts, aI cT 240 (upd (upd f_acts p1.toNatClampNeg r_1) (p1 + (1 : Int32)).toNatClampNeg r_79))] → va_S A s.heap H locs → lv_has ls 3 [(0, .ref h), (1, .int p1), (2, .int r_1)] → W p l e (rmO 3 63 0 0) s m ([.ref h, .int p1] : List Value).toArray below meth c H locs 0 0 (MQ below (va_Qv Post (cB D A (fun (u : (Int32 × Int32 × (Nat → Int32))) => [(h, oX8 w_now (.int x_arches) (.int x_cats) w_text (.int x_typed) w_row (.int x_rowMany) (.int x_thrown) (.ref q_read) (.int x_length) (.int x_top) (.int u.1) (.int u.2.1) w_told w_rule w_otherRule (.int x_ruleSize) (.int x_isAsked) w_asked w_undos (.int x_undoMany) w_aside w_then w_hold (.int x_dropped) (.ref q_acts) w_guarded w_train (.int x_trolleyEnd) w_feltOf w_feltBy (.int x_feltMany) w_many w_heardOf w_heardBy (.int x_heardMany) w_worth (.int x_drawn) (.int x_came) w_kept w_isKept w_keptCame), (q_read, aB cT n_read f_read), (q_acts, aI cT 240 u.2.2)])) A) ([.ref h, .int p1] : List Value).toArray s 0 0 A) (F0 m 95 ls []) := by
    intro r_1 r_79 u_79 H locs ls hg hP hD hS hl
    unfold p_X8_readAct_95 at hg
    refine lv_aload_n hx hb dX8_readAct_95 rfl (lv_at hl 0 rfl) ?_
    refine gf_X8_45 C0 hP 0 rfl rfl dX8_readAct_96 ?_
    refine lv_iload_n hx hb dX8_readAct_99 rfl (lv_at hl 1 rfl) ?_
    refine lv_iconst (v := (2 : Int32)) hx hb dX8_readAct_100 (by decide) ?_
    refine lv_iadd hx hb dX8_readAct_101 ?_
    refine lv_aload_n hx hb dX8_readAct_102 rfl (lv_at hl 0 rfl) ?_
    refine lv_bipush (v := (49 : Int32)) hx hb dX8_readAct_103 (by decide) ?_
    refine lv_bipush (v := (9 : Int32)) hx hb dX8_readAct_105 (by decide) ?_
    refine k_Vi (rest := [.int (p1 + (2 : Int32)), .ref q_acts]) (wr := [(q_acts, aI cT 240 (upd (upd f_acts p1.toNatClampNeg r_1) (p1 + (1 : Int32)).toNatClampNeg r_79))]) (w2 := fun u_107 => [(q_acts, aI cT 240 (upd (upd f_acts p1.toNatClampNeg r_1) (p1 + (1 : Int32)).toNatClampNeg r_79)), (h, oX8 w_now (.int x_arches) (.int x_cats) w_text (.int x_typed) w_row (.int x_rowMany) (.int x_thrown) (.ref q_read) (.int x_length) (.int x_top) (.int u_107.1) (.int u_107.2) w_told w_rule w_otherRule (.int x_ruleSize) (.int x_isAsked) w_asked w_undos (.int x_undoMany) w_aside w_then w_hold (.int x_dropped) (.ref q_acts) w_guarded w_train (.int x_trolleyEnd) w_feltOf w_feltBy (.int x_feltMany) w_many w_heardOf w_heardBy (.int x_heardMany) w_worth (.int x_drawn) (.int x_came) w_kept w_isKept w_keptCame), (q_read, aB cT n_read f_read)]) C0 lk_X8_137 (c_X8_oneOf l D cT F h (49 : Int32) (9 : Int32) w_now x_arches x_cats w_text x_typed w_row x_rowMany x_thrown q_read x_length x_top u_79.1 u_79.2 w_told w_rule w_otherRule x_ruleSize x_isAsked w_asked w_undos x_undoMany w_aside w_then w_hold x_dropped (.ref q_acts) w_guarded w_train x_trolleyEnd w_feltOf w_feltBy x_feltMany w_many w_heardOf w_heardBy x_heardMany w_worth x_drawn x_came w_kept w_isKept w_keptCame n_read f_read _ hg) hP hD hS hA [0, 1] [2] (by decide +kernel) rfl rfl (fun _ => rfl) rfl rfl ⟨Nat.le_of_ble_eq_true rfl, Nat.le_of_ble_eq_true rfl⟩ rfl hl.1 rfl (Nat.le_of_ble_eq_true rfl) dX8_readAct_107 ⟨Nat.le_of_ble_eq_true rfl, Nat.le_of_ble_eq_true rfl⟩ ?_
    intro r_107 u_107 H locs hg hP hD hS
    refine lv_iconst (v := (1 : Int32)) hx hb dX8_readAct_110 (by decide) ?_
    refine lv_iadd hx hb dX8_readAct_111 ?_
    obtain ⟨g_112, hg⟩ := hg
    refine k_iast C0 hP hD hS 0 rfl g_112 (ws' := [(q_acts, aI cT 240 (upd (upd (upd f_acts p1.toNatClampNeg r_1) (p1 + (1 : Int32)).toNatClampNeg r_79) (p1 + (2 : Int32)).toNatClampNeg (r_107 + (1 : Int32)))), (h, oX8 w_now (.int x_arches) (.int x_cats) w_text (.int x_typed) w_row (.int x_rowMany) (.int x_thrown) (.ref q_read) (.int x_length) (.int x_top) (.int u_107.1) (.int u_107.2) w_told w_rule w_otherRule (.int x_ruleSize) (.int x_isAsked) w_asked w_undos (.int x_undoMany) w_aside w_then w_hold (.int x_dropped) (.ref q_acts) w_guarded w_train (.int x_trolleyEnd) w_feltOf w_feltBy (.int x_feltMany) w_many w_heardOf w_heardBy (.int x_heardMany) w_worth (.int x_drawn) (.int x_came) w_kept w_isKept w_keptCame), (q_read, aB cT n_read f_read)]) rfl dX8_readAct_112 (fun H locs hP hD hS => ?_)
    exact L113 r_1 u_107.1 u_107.2 (upd (upd (upd f_acts p1.toNatClampNeg r_1) (p1 + (1 : Int32)).toNatClampNeg r_79) (p1 + (2 : Int32)).toNatClampNeg (r_107 + (1 : Int32))) _ _ _ hg (subP hP [1, 2, 0] rfl) (hD.sub [1, 2, 0] (nd2_ok _ (by decide +kernel)) rfl) hS hl
  have L50 : ∀ (r_1 : Int32) (H : Heap) (locs : List Loc) (ls : Array Slot), p_X8_readAct_50 F p1 x_length x_top x_at x_wrong n_read f_read f_acts r_1 Post → va_P D cls9 [(h, oX8 w_now (.int x_arches) (.int x_cats) w_text (.int x_typed) w_row (.int x_rowMany) (.int x_thrown) (.ref q_read) (.int x_length) (.int x_top) (.int x_at) (.int x_wrong) w_told w_rule w_otherRule (.int x_ruleSize) (.int x_isAsked) w_asked w_undos (.int x_undoMany) w_aside w_then w_hold (.int x_dropped) (.ref q_acts) w_guarded w_train (.int x_trolleyEnd) w_feltOf w_feltBy (.int x_feltMany) w_many w_heardOf w_heardBy (.int x_heardMany) w_worth (.int x_drawn) (.int x_came) w_kept w_isKept w_keptCame), (q_read, aB cT n_read f_read), (q_acts, aI cT 240 f_acts)] H → va_D A [(h, oX8 w_now (.int x_arches) (.int x_cats) w_text (.int x_typed) w_row (.int x_rowMany) (.int x_thrown) (.ref q_read) (.int x_length) (.int x_top) (.int x_at) (.int x_wrong) w_told w_rule w_otherRule (.int x_ruleSize) (.int x_isAsked) w_asked w_undos (.int x_undoMany) w_aside w_then w_hold (.int x_dropped) (.ref q_acts) w_guarded w_train (.int x_trolleyEnd) w_feltOf w_feltBy (.int x_feltMany) w_many w_heardOf w_heardBy (.int x_heardMany) w_worth (.int x_drawn) (.int x_came) w_kept w_isKept w_keptCame), (q_read, aB cT n_read f_read), (q_acts, aI cT 240 f_acts)] → va_S A s.heap H locs → lv_has ls 3 [(0, .ref h), (1, .int p1), (2, .int r_1)] → W p l e (rmO 3 63 0 0) s m ([.ref h, .int p1] : List Value).toArray below meth c H locs 0 0 (MQ below (va_Qv Post (cB D A (fun (u : (Int32 × Int32 × (Nat → Int32))) => [(h, oX8 w_now (.int x_arches) (.int x_cats) w_text (.int x_typed) w_row (.int x_rowMany) (.int x_thrown) (.ref q_read) (.int x_length) (.int x_top) (.int u.1) (.int u.2.1) w_told w_rule w_otherRule (.int x_ruleSize) (.int x_isAsked) w_asked w_undos (.int x_undoMany) w_aside w_then w_hold (.int x_dropped) (.ref q_acts) w_guarded w_train (.int x_trolleyEnd) w_feltOf w_feltBy (.int x_feltMany) w_many w_heardOf w_heardBy (.int x_heardMany) w_worth (.int x_drawn) (.int x_came) w_kept w_isKept w_keptCame), (q_read, aB cT n_read f_read), (q_acts, aI cT 240 u.2.2)])) A) ([.ref h, .int p1] : List Value).toArray s 0 0 A) (F0 m 50 ls []) := by
    intro r_1 H locs ls hg hP hD hS hl
    unfold p_X8_readAct_50 at hg
    refine lv_aload_n hx hb dX8_readAct_50 rfl (lv_at hl 0 rfl) ?_
    refine lv_dup hx hb dX8_readAct_51 rfl ?_
    refine gf_X8_111 C0 hP 0 rfl rfl dX8_readAct_52 ?_
    refine lv_iconst (v := (1 : Int32)) hx hb dX8_readAct_55 (by decide) ?_
    refine lv_iadd hx hb dX8_readAct_56 ?_
    refine pf_X8_111 C0 hP hD hS 0 rfl (Nat.le_of_ble_eq_true rfl) (ws2 := [(h, oX8 w_now (.int x_arches) (.int x_cats) w_text (.int x_typed) w_row (.int x_rowMany) (.int x_thrown) (.ref q_read) (.int x_length) (.int x_top) (.int (x_at + (1 : Int32))) (.int x_wrong) w_told w_rule w_otherRule (.int x_ruleSize) (.int x_isAsked) w_asked w_undos (.int x_undoMany) w_aside w_then w_hold (.int x_dropped) (.ref q_acts) w_guarded w_train (.int x_trolleyEnd) w_feltOf w_feltBy (.int x_feltMany) w_many w_heardOf w_heardBy (.int x_heardMany) w_worth (.int x_drawn) (.int x_came) w_kept w_isKept w_keptCame), (q_read, aB cT n_read f_read), (q_acts, aI cT 240 f_acts)]) rfl dX8_readAct_57 (fun H locs hP hD hS => ?_)
    refine lv_aload_n hx hb dX8_readAct_60 rfl (lv_at hl 0 rfl) ?_
    refine gf_X8_45 C0 hP 0 rfl rfl dX8_readAct_61 ?_
    refine lv_iload_n hx hb dX8_readAct_64 rfl (lv_at hl 1 rfl) ?_
    refine lv_iload_n hx hb dX8_readAct_65 rfl (lv_at hl 2 rfl) ?_
    obtain ⟨g_66, hg⟩ := hg
    refine k_iast C0 hP hD hS 2 rfl g_66 (ws' := [(h, oX8 w_now (.int x_arches) (.int x_cats) w_text (.int x_typed) w_row (.int x_rowMany) (.int x_thrown) (.ref q_read) (.int x_length) (.int x_top) (.int (x_at + (1 : Int32))) (.int x_wrong) w_told w_rule w_otherRule (.int x_ruleSize) (.int x_isAsked) w_asked w_undos (.int x_undoMany) w_aside w_then w_hold (.int x_dropped) (.ref q_acts) w_guarded w_train (.int x_trolleyEnd) w_feltOf w_feltBy (.int x_feltMany) w_many w_heardOf w_heardBy (.int x_heardMany) w_worth (.int x_drawn) (.int x_came) w_kept w_isKept w_keptCame), (q_read, aB cT n_read f_read), (q_acts, aI cT 240 (upd f_acts p1.toNatClampNeg r_1))]) rfl dX8_readAct_66 (fun H locs hP hD hS => ?_)
    refine lv_aload_n hx hb dX8_readAct_67 rfl (lv_at hl 0 rfl) ?_
    refine gf_X8_45 C0 hP 0 rfl rfl dX8_readAct_68 ?_
    refine lv_iload_n hx hb dX8_readAct_71 rfl (lv_at hl 1 rfl) ?_
    refine lv_iconst (v := (1 : Int32)) hx hb dX8_readAct_72 (by decide) ?_
    refine lv_iadd hx hb dX8_readAct_73 ?_
    refine lv_aload_n hx hb dX8_readAct_74 rfl (lv_at hl 0 rfl) ?_
    refine lv_bipush (v := (48 : Int32)) hx hb dX8_readAct_75 (by decide) ?_
    refine lv_bipush (v := (10 : Int32)) hx hb dX8_readAct_77 (by decide) ?_
    refine k_Vi (rest := [.int (p1 + (1 : Int32)), .ref q_acts]) (wr := [(q_acts, aI cT 240 (upd f_acts p1.toNatClampNeg r_1))]) (w2 := fun u_79 => [(q_acts, aI cT 240 (upd f_acts p1.toNatClampNeg r_1)), (h, oX8 w_now (.int x_arches) (.int x_cats) w_text (.int x_typed) w_row (.int x_rowMany) (.int x_thrown) (.ref q_read) (.int x_length) (.int x_top) (.int u_79.1) (.int u_79.2) w_told w_rule w_otherRule (.int x_ruleSize) (.int x_isAsked) w_asked w_undos (.int x_undoMany) w_aside w_then w_hold (.int x_dropped) (.ref q_acts) w_guarded w_train (.int x_trolleyEnd) w_feltOf w_feltBy (.int x_feltMany) w_many w_heardOf w_heardBy (.int x_heardMany) w_worth (.int x_drawn) (.int x_came) w_kept w_isKept w_keptCame), (q_read, aB cT n_read f_read)]) C0 lk_X8_137 (c_X8_oneOf l D cT F h (48 : Int32) (10 : Int32) w_now x_arches x_cats w_text x_typed w_row x_rowMany x_thrown q_read x_length x_top (x_at + (1 : Int32)) x_wrong w_told w_rule w_otherRule x_ruleSize x_isAsked w_asked w_undos x_undoMany w_aside w_then w_hold x_dropped (.ref q_acts) w_guarded w_train x_trolleyEnd w_feltOf w_feltBy x_feltMany w_many w_heardOf w_heardBy x_heardMany w_worth x_drawn x_came w_kept w_isKept w_keptCame n_read f_read _ hg) hP hD hS hA [0, 1] [2] (by decide +kernel) rfl rfl (fun _ => rfl) rfl rfl ⟨Nat.le_of_ble_eq_true rfl, Nat.le_of_ble_eq_true rfl⟩ rfl hl.1 rfl (Nat.le_of_ble_eq_true rfl) dX8_readAct_79 ⟨Nat.le_of_ble_eq_true rfl, Nat.le_of_ble_eq_true rfl⟩ ?_
    intro r_79 u_79 H locs hg hP hD hS
    obtain ⟨g_82, hg⟩ := hg
    refine k_iast C0 hP hD hS 0 rfl g_82 (ws' := [(q_acts, aI cT 240 (upd (upd f_acts p1.toNatClampNeg r_1) (p1 + (1 : Int32)).toNatClampNeg r_79)), (h, oX8 w_now (.int x_arches) (.int x_cats) w_text (.int x_typed) w_row (.int x_rowMany) (.int x_thrown) (.ref q_read) (.int x_length) (.int x_top) (.int u_79.1) (.int u_79.2) w_told w_rule w_otherRule (.int x_ruleSize) (.int x_isAsked) w_asked w_undos (.int x_undoMany) w_aside w_then w_hold (.int x_dropped) (.ref q_acts) w_guarded w_train (.int x_trolleyEnd) w_feltOf w_feltBy (.int x_feltMany) w_many w_heardOf w_heardBy (.int x_heardMany) w_worth (.int x_drawn) (.int x_came) w_kept w_isKept w_keptCame), (q_read, aB cT n_read f_read)]) rfl dX8_readAct_82 (fun H locs hP hD hS => ?_)
    refine lv_iload_n hx hb dX8_readAct_83 rfl (lv_at hl 2 rfl) ?_
    refine lv_bipush (v := (102 : Int32)) hx hb dX8_readAct_84 (by decide) ?_
    refine lv_icmp_eq (tgt := 95) hx hb dX8_readAct_86 (by decide) (fun c_86 => ?_) (fun c_86 => ?_)
    · have hg := hg.1 c_86
      exact L95 r_1 r_79 u_79 _ _ _ hg (subP hP [1, 2, 0] rfl) (hD.sub [1, 2, 0] (nd2_ok _ (by decide +kernel)) rfl) hS hl
    have hg := hg.2 c_86
    refine lv_iload_n hx hb dX8_readAct_89 rfl (lv_at hl 2 rfl) ?_
    refine lv_bipush (v := (103 : Int32)) hx hb dX8_readAct_90 (by decide) ?_
    refine lv_icmp_ne (tgt := 113) hx hb dX8_readAct_92 (by decide) (fun c_92 => ?_) (fun c_92 => ?_)
    · have hg := hg.1 c_92
      exact L113 r_1 u_79.1 u_79.2 (upd (upd f_acts p1.toNatClampNeg r_1) (p1 + (1 : Int32)).toNatClampNeg r_79) _ _ _ hg (subP hP [1, 2, 0] rfl) (hD.sub [1, 2, 0] (nd2_ok _ (by decide +kernel)) rfl) hS hl
    have hg := hg.2 c_92
    exact L95 r_1 r_79 u_79 _ _ _ hg (subP hP [1, 2, 0] rfl) (hD.sub [1, 2, 0] (nd2_ok _ (by decide +kernel)) rfl) hS hl
  unfold p_X8_readAct at hg
  refine lv_aload_n hx hb dX8_readAct_0 rfl (lv_at hl 0 rfl) ?_
  refine k_Vxi (rest := []) C0 lk_X8_125 (c_X8_here l D cT F h w_now x_arches x_cats w_text x_typed w_row x_rowMany x_thrown q_read x_length x_top x_at x_wrong w_told w_rule w_otherRule x_ruleSize x_isAsked w_asked w_undos x_undoMany w_aside w_then w_hold x_dropped (.ref q_acts) w_guarded w_train x_trolleyEnd w_feltOf w_feltBy x_feltMany w_many w_heardOf w_heardBy x_heardMany w_worth x_drawn x_came w_kept w_isKept w_keptCame n_read f_read _ hg) hP hD hS hA [0, 1] (by decide +kernel) rfl rfl rfl ⟨Nat.le_of_ble_eq_true rfl, Nat.le_of_ble_eq_true rfl⟩ rfl hl.1 rfl (Nat.le_of_ble_eq_true rfl) dX8_readAct_1 ⟨Nat.le_of_ble_eq_true rfl, Nat.le_of_ble_eq_true rfl⟩ (fun r_1 hg => ?_)
  refine lv_istore_n (lv' := [(2, .int r_1), (0, .ref h), (1, .int p1)]) hx hb dX8_readAct_4 rfl hl (by decide) rfl (fun ls hl => ?_)
  refine lv_iload_n hx hb dX8_readAct_5 rfl (lv_at hl 0 rfl) ?_
  refine lv_bipush (v := (110 : Int32)) hx hb dX8_readAct_6 (by decide) ?_
  refine lv_icmp_eq (tgt := 50) hx hb dX8_readAct_8 (by decide) (fun c_8 => ?_) (fun c_8 => ?_)
  · have hg := hg.1 c_8
    exact L50 r_1 _ _ _ hg hP hD hS (lv_sub hl [1, 2, 0] rfl)
  have hg := hg.2 c_8
  refine lv_iload_n hx hb dX8_readAct_11 rfl (lv_at hl 0 rfl) ?_
  refine lv_bipush (v := (102 : Int32)) hx hb dX8_readAct_12 (by decide) ?_
  refine lv_icmp_eq (tgt := 50) hx hb dX8_readAct_14 (by decide) (fun c_14 => ?_) (fun c_14 => ?_)
  · have hg := hg.1 c_14
    exact L50 r_1 _ _ _ hg hP hD hS (lv_sub hl [1, 2, 0] rfl)
  have hg := hg.2 c_14
  refine lv_iload_n hx hb dX8_readAct_17 rfl (lv_at hl 0 rfl) ?_
  refine lv_bipush (v := (112 : Int32)) hx hb dX8_readAct_18 (by decide) ?_
  refine lv_icmp_eq (tgt := 50) hx hb dX8_readAct_20 (by decide) (fun c_20 => ?_) (fun c_20 => ?_)
  · have hg := hg.1 c_20
    exact L50 r_1 _ _ _ hg hP hD hS (lv_sub hl [1, 2, 0] rfl)
  have hg := hg.2 c_20
  refine lv_iload_n hx hb dX8_readAct_23 rfl (lv_at hl 0 rfl) ?_
  refine lv_bipush (v := (103 : Int32)) hx hb dX8_readAct_24 (by decide) ?_
  refine lv_icmp_eq (tgt := 50) hx hb dX8_readAct_26 (by decide) (fun c_26 => ?_) (fun c_26 => ?_)
  · have hg := hg.1 c_26
    exact L50 r_1 _ _ _ hg hP hD hS (lv_sub hl [1, 2, 0] rfl)
  have hg := hg.2 c_26
  refine lv_iload_n hx hb dX8_readAct_29 rfl (lv_at hl 0 rfl) ?_
  refine lv_bipush (v := (115 : Int32)) hx hb dX8_readAct_30 (by decide) ?_
  refine lv_icmp_eq (tgt := 50) hx hb dX8_readAct_32 (by decide) (fun c_32 => ?_) (fun c_32 => ?_)
  · have hg := hg.1 c_32
    exact L50 r_1 _ _ _ hg hP hD hS (lv_sub hl [1, 2, 0] rfl)
  have hg := hg.2 c_32
  refine lv_iload_n hx hb dX8_readAct_35 rfl (lv_at hl 0 rfl) ?_
  refine lv_bipush (v := (108 : Int32)) hx hb dX8_readAct_36 (by decide) ?_
  refine lv_icmp_eq (tgt := 50) hx hb dX8_readAct_38 (by decide) (fun c_38 => ?_) (fun c_38 => ?_)
  · have hg := hg.1 c_38
    exact L50 r_1 _ _ _ hg hP hD hS (lv_sub hl [1, 2, 0] rfl)
  have hg := hg.2 c_38
  refine lv_aload_n hx hb dX8_readAct_41 rfl (lv_at hl 1 rfl) ?_
  refine lv_aload_n hx hb dX8_readAct_42 rfl (lv_at hl 1 rfl) ?_
  refine gf_X8_111 C0 hP 0 rfl rfl dX8_readAct_43 ?_
  refine k_Vv (rest := []) (wr := [(q_read, aB cT n_read f_read), (q_acts, aI cT 240 f_acts)]) (w2 := fun u_46 => [(q_read, aB cT n_read f_read), (q_acts, aI cT 240 f_acts), (h, oX8 w_now (.int x_arches) (.int x_cats) w_text (.int x_typed) w_row (.int x_rowMany) (.int x_thrown) (.ref q_read) (.int x_length) (.int x_top) (.int x_at) (.int u_46) w_told w_rule w_otherRule (.int x_ruleSize) (.int x_isAsked) w_asked w_undos (.int x_undoMany) w_aside w_then w_hold (.int x_dropped) (.ref q_acts) w_guarded w_train (.int x_trolleyEnd) w_feltOf w_feltBy (.int x_feltMany) w_many w_heardOf w_heardBy (.int x_heardMany) w_worth (.int x_drawn) (.int x_came) w_kept w_isKept w_keptCame)]) C0 lk_X8_133 (c_X8_fault l D cT F h x_at w_now x_arches x_cats w_text x_typed w_row x_rowMany x_thrown (.ref q_read) x_length x_top x_at x_wrong w_told w_rule w_otherRule x_ruleSize x_isAsked w_asked w_undos x_undoMany w_aside w_then w_hold x_dropped (.ref q_acts) w_guarded w_train x_trolleyEnd w_feltOf w_feltBy x_feltMany w_many w_heardOf w_heardBy x_heardMany w_worth x_drawn x_came w_kept w_isKept w_keptCame _ hg) hP hD hS hA [0] [1, 2] (by decide +kernel) rfl rfl (fun _ => rfl) rfl rfl ⟨Nat.le_of_ble_eq_true rfl, Nat.le_of_ble_eq_true rfl⟩ rfl hl.1 rfl (Nat.le_of_ble_eq_true rfl) dX8_readAct_46 ⟨Nat.le_of_ble_eq_true rfl, Nat.le_of_ble_eq_true rfl⟩ ?_
  intro u_46 H locs hg hP hD hS
  exact k_vret C0 hr (x_at, u_46, f_acts) hg (subP hP [2, 0, 1] rfl) (hD.sub [2, 0, 1] (nd2_ok _ (by decide +kernel)) rfl) hS dX8_readAct_49
theorem dX8_act_0 : decode cX8_act 0 = .ok (.iload_n 1, 1) := by decide +kernel
theorem dX8_act_1 : decode cX8_act 1 = .ok (.tableswitch 178 102 115 #[82, 133, 178, 178, 178, 178, 178, 178, 71, 178, 108, 178, 178, 155], 71) := by decide +kernel
theorem dX8_act_72 : decode cX8_act 72 = .ok (.aload_n 0, 1) := by decide +kernel
theorem dX8_act_73 : decode cX8_act 73 = .ok (.aload_n 0, 1) := by decide +kernel
theorem dX8_act_74 : decode cX8_act 74 = .ok (.getfield 9, 3) := by decide +kernel
theorem dX8_act_77 : decode cX8_act 77 = .ok (.iload_n 2, 1) := by decide +kernel
theorem dX8_act_78 : decode cX8_act 78 = .ok (.invokevirtual 242, 3) := by decide +kernel
theorem dX8_act_81 : decode cX8_act 81 = .ok (.iconst 1, 1) := by decide +kernel
theorem dX8_act_82 : decode cX8_act 82 = .ok (.ireturn, 1) := by decide +kernel
theorem dX8_act_83 : decode cX8_act 83 = .ok (.aload_n 0, 1) := by decide +kernel
theorem dX8_act_84 : decode cX8_act 84 = .ok (.aload_n 0, 1) := by decide +kernel
theorem dX8_act_85 : decode cX8_act 85 = .ok (.getfield 9, 3) := by decide +kernel
theorem dX8_act_88 : decode cX8_act 88 = .ok (.iload_n 2, 1) := by decide +kernel
theorem dX8_act_89 : decode cX8_act 89 = .ok (.iload_n 3, 1) := by decide +kernel
theorem dX8_act_90 : decode cX8_act 90 = .ok (.invokevirtual 257, 3) := by decide +kernel
theorem dX8_act_93 : decode cX8_act 93 = .ok (.ifCond .ge 5, 3) := by decide +kernel
theorem dX8_act_96 : decode cX8_act 96 = .ok (.iconst 0, 1) := by decide +kernel
theorem dX8_act_97 : decode cX8_act 97 = .ok (.ireturn, 1) := by decide +kernel
theorem dX8_act_98 : decode cX8_act 98 = .ok (.aload_n 0, 1) := by decide +kernel
theorem dX8_act_99 : decode cX8_act 99 = .ok (.getfield 9, 3) := by decide +kernel
theorem dX8_act_102 : decode cX8_act 102 = .ok (.iload_n 2, 1) := by decide +kernel
theorem dX8_act_103 : decode cX8_act 103 = .ok (.iload_n 3, 1) := by decide +kernel
theorem dX8_act_104 : decode cX8_act 104 = .ok (.invokestatic 260, 3) := by decide +kernel
theorem dX8_act_107 : decode cX8_act 107 = .ok (.iconst 1, 1) := by decide +kernel
theorem dX8_act_108 : decode cX8_act 108 = .ok (.ireturn, 1) := by decide +kernel
theorem dX8_act_109 : decode cX8_act 109 = .ok (.aload_n 0, 1) := by decide +kernel
theorem dX8_act_110 : decode cX8_act 110 = .ok (.iload_n 2, 1) := by decide +kernel
theorem dX8_act_111 : decode cX8_act 111 = .ok (.invokevirtual 264, 3) := by decide +kernel
theorem dX8_act_114 : decode cX8_act 114 = .ok (.ifCond .ge 5, 3) := by decide +kernel
theorem dX8_act_117 : decode cX8_act 117 = .ok (.iconst 0, 1) := by decide +kernel
theorem dX8_act_118 : decode cX8_act 118 = .ok (.ireturn, 1) := by decide +kernel
theorem dX8_act_119 : decode cX8_act 119 = .ok (.aload_n 0, 1) := by decide +kernel
theorem dX8_act_120 : decode cX8_act 120 = .ok (.getfield 9, 3) := by decide +kernel
theorem dX8_act_123 : decode cX8_act 123 = .ok (.bipush 12, 2) := by decide +kernel
theorem dX8_act_125 : decode cX8_act 125 = .ok (.iload_n 2, 1) := by decide +kernel
theorem dX8_act_126 : decode cX8_act 126 = .ok (.iadd, 1) := by decide +kernel
theorem dX8_act_127 : decode cX8_act 127 = .ok (.dup2, 1) := by decide +kernel
theorem dX8_act_128 : decode cX8_act 128 = .ok (.iaload, 1) := by decide +kernel
theorem dX8_act_129 : decode cX8_act 129 = .ok (.iconst 1, 1) := by decide +kernel
theorem dX8_act_130 : decode cX8_act 130 = .ok (.iadd, 1) := by decide +kernel
theorem dX8_act_131 : decode cX8_act 131 = .ok (.iastore, 1) := by decide +kernel
theorem dX8_act_132 : decode cX8_act 132 = .ok (.iconst 1, 1) := by decide +kernel
theorem dX8_act_133 : decode cX8_act 133 = .ok (.ireturn, 1) := by decide +kernel
theorem dX8_act_134 : decode cX8_act 134 = .ok (.aload_n 0, 1) := by decide +kernel
theorem dX8_act_135 : decode cX8_act 135 = .ok (.iload_n 2, 1) := by decide +kernel
theorem dX8_act_136 : decode cX8_act 136 = .ok (.iload_n 3, 1) := by decide +kernel
theorem dX8_act_137 : decode cX8_act 137 = .ok (.invokevirtual 267, 3) := by decide +kernel
theorem dX8_act_140 : decode cX8_act 140 = .ok (.ifCond .ne 5, 3) := by decide +kernel
theorem dX8_act_143 : decode cX8_act 143 = .ok (.iconst 0, 1) := by decide +kernel
theorem dX8_act_144 : decode cX8_act 144 = .ok (.ireturn, 1) := by decide +kernel
theorem dX8_act_145 : decode cX8_act 145 = .ok (.aload_n 0, 1) := by decide +kernel
theorem dX8_act_146 : decode cX8_act 146 = .ok (.getfield 9, 3) := by decide +kernel
theorem dX8_act_149 : decode cX8_act 149 = .ok (.iload_n 2, 1) := by decide +kernel
theorem dX8_act_150 : decode cX8_act 150 = .ok (.iload_n 3, 1) := by decide +kernel
theorem dX8_act_151 : decode cX8_act 151 = .ok (.invokestatic 271, 3) := by decide +kernel
theorem dX8_act_154 : decode cX8_act 154 = .ok (.iconst 1, 1) := by decide +kernel
theorem dX8_act_155 : decode cX8_act 155 = .ok (.ireturn, 1) := by decide +kernel
theorem dX8_act_156 : decode cX8_act 156 = .ok (.aload_n 0, 1) := by decide +kernel
theorem dX8_act_157 : decode cX8_act 157 = .ok (.iload_n 2, 1) := by decide +kernel
theorem dX8_act_158 : decode cX8_act 158 = .ok (.iload_n 3, 1) := by decide +kernel
theorem dX8_act_159 : decode cX8_act 159 = .ok (.invokevirtual 274, 3) := by decide +kernel
theorem dX8_act_162 : decode cX8_act 162 = .ok (.ifCond .ge 5, 3) := by decide +kernel
theorem dX8_act_165 : decode cX8_act 165 = .ok (.iconst 0, 1) := by decide +kernel
theorem dX8_act_166 : decode cX8_act 166 = .ok (.ireturn, 1) := by decide +kernel
theorem dX8_act_167 : decode cX8_act 167 = .ok (.aload_n 0, 1) := by decide +kernel
theorem dX8_act_168 : decode cX8_act 168 = .ok (.getfield 9, 3) := by decide +kernel
theorem dX8_act_171 : decode cX8_act 171 = .ok (.bipush 36, 2) := by decide +kernel
theorem dX8_act_173 : decode cX8_act 173 = .ok (.iload_n 2, 1) := by decide +kernel
theorem dX8_act_174 : decode cX8_act 174 = .ok (.iadd, 1) := by decide +kernel
theorem dX8_act_175 : decode cX8_act 175 = .ok (.iload_n 3, 1) := by decide +kernel
theorem dX8_act_176 : decode cX8_act 176 = .ok (.iastore, 1) := by decide +kernel
theorem dX8_act_177 : decode cX8_act 177 = .ok (.iconst 1, 1) := by decide +kernel
theorem dX8_act_178 : decode cX8_act 178 = .ok (.ireturn, 1) := by decide +kernel
theorem dX8_act_179 : decode cX8_act 179 = .ok (.aload_n 0, 1) := by decide +kernel
theorem dX8_act_180 : decode cX8_act 180 = .ok (.iload_n 2, 1) := by decide +kernel
theorem dX8_act_181 : decode cX8_act 181 = .ok (.iload_n 3, 1) := by decide +kernel
theorem dX8_act_182 : decode cX8_act 182 = .ok (.invokevirtual 280, 3) := by decide +kernel
theorem dX8_act_185 : decode cX8_act 185 = .ok (.ifCond .ge 5, 3) := by decide +kernel
theorem dX8_act_188 : decode cX8_act 188 = .ok (.iconst 0, 1) := by decide +kernel
theorem dX8_act_189 : decode cX8_act 189 = .ok (.ireturn, 1) := by decide +kernel
theorem dX8_act_190 : decode cX8_act 190 = .ok (.aload_n 0, 1) := by decide +kernel
theorem dX8_act_191 : decode cX8_act 191 = .ok (.getfield 9, 3) := by decide +kernel
theorem dX8_act_194 : decode cX8_act 194 = .ok (.iload_n 2, 1) := by decide +kernel
theorem dX8_act_195 : decode cX8_act 195 = .ok (.iload_n 3, 1) := by decide +kernel
theorem dX8_act_196 : decode cX8_act 196 = .ok (.iastore, 1) := by decide +kernel
theorem dX8_act_197 : decode cX8_act 197 = .ok (.iconst 1, 1) := by decide +kernel
theorem dX8_act_198 : decode cX8_act 198 = .ok (.ireturn, 1) := by decide +kernel
def p_X8_act (F : Nat) (p1 : Int32) (p2 : Int32) (p3 : Int32) (x_arches : Int32) (x_cats : Int32) (w_read : Value) (x_length : Int32) (x_top : Int32) (x_at : Int32) (x_wrong : Int32) (q_rule : Nat) (x_ruleSize : Int32) (x_isAsked : Int32) (x_dropped : Int32) (f_now : Nat → Int32) (f_asked : Nat → Int32) (f_rule : Nat → Int32) (f_hold : Nat → Int32) (Post : Int32 → (Value × Int32 × Int32 × Int32 × Int32 × Int32 × Int32 × (Nat → Int32) × (Nat → Int32) × (Nat → Int32)) → Prop) : Prop := ((p1 = (102 : Int32) → (p_X8_refusesFeed F p2 p3 x_cats 47 f_now (fun (r_90 : Int32) => ((0 ≤ r_90 → (p_X8_goFeed F p2 p3 47 f_now (fun (u_104 : (Nat → Int32)) => (Post (1 : Int32) (w_read, x_length, x_top, x_at, x_wrong, x_isAsked, x_dropped, u_104, f_asked, f_hold))))) ∧ (¬ 0 ≤ r_90 → (Post (0 : Int32) (w_read, x_length, x_top, x_at, x_wrong, x_isAsked, x_dropped, f_now, f_asked, f_hold))))))) ∧ (¬ p1 = (102 : Int32) → ((p1 = (103 : Int32) → (p_X8_canGrieve F p2 p3 x_cats (fun (r_137 : Int32) => ((¬ r_137 = 0 → (p_X8_goGrieve F p2 p3 47 f_now (fun (u_151 : (Nat → Int32)) => (Post (1 : Int32) (w_read, x_length, x_top, x_at, x_wrong, x_isAsked, x_dropped, u_151, f_asked, f_hold))))) ∧ (r_137 = 0 → (Post (0 : Int32) (w_read, x_length, x_top, x_at, x_wrong, x_isAsked, x_dropped, f_now, f_asked, f_hold))))))) ∧ (¬ p1 = (103 : Int32) → ((p1 = (110 : Int32) → (p_X8_goHours F p2 x_arches x_cats w_read x_length x_top x_at x_wrong q_rule x_ruleSize x_isAsked 47 f_now f_asked f_rule f_hold (fun (u_78 : (Value × Int32 × Int32 × Int32 × Int32 × Int32 × Int32 × (Nat → Int32) × (Nat → Int32) × (Nat → Int32))) => (Post (1 : Int32) (u_78.1, u_78.2.1, u_78.2.2.1, u_78.2.2.2.1, u_78.2.2.2.2.1, u_78.2.2.2.2.2.1, u_78.2.2.2.2.2.2.1, u_78.2.2.2.2.2.2.2.1, u_78.2.2.2.2.2.2.2.2.1, u_78.2.2.2.2.2.2.2.2.2))))) ∧ (¬ p1 = (110 : Int32) → ((p1 = (112 : Int32) → (p_X8_refusesPet F p2 x_cats f_now (fun (r_111 : Int32) => ((0 ≤ r_111 → (vp_in ((12 : Int32) + p2) 47 ∧ (vp_in ((12 : Int32) + p2) 47 ∧ (Post (1 : Int32) (w_read, x_length, x_top, x_at, x_wrong, x_isAsked, x_dropped, (upd f_now ((12 : Int32) + p2).toNatClampNeg ((f_now ((12 : Int32) + p2).toNatClampNeg) + (1 : Int32))), f_asked, f_hold))))) ∧ (¬ 0 ≤ r_111 → (Post (0 : Int32) (w_read, x_length, x_top, x_at, x_wrong, x_isAsked, x_dropped, f_now, f_asked, f_hold))))))) ∧ (¬ p1 = (112 : Int32) → ((p1 = (115 : Int32) → (p_X8_refusesSet F p2 p3 x_arches x_cats f_now (fun (r_159 : Int32) => ((0 ≤ r_159 → (vp_in ((36 : Int32) + p2) 47 ∧ (Post (1 : Int32) (w_read, x_length, x_top, x_at, x_wrong, x_isAsked, x_dropped, (upd f_now ((36 : Int32) + p2).toNatClampNeg p3), f_asked, f_hold)))) ∧ (¬ 0 ≤ r_159 → (Post (0 : Int32) (w_read, x_length, x_top, x_at, x_wrong, x_isAsked, x_dropped, f_now, f_asked, f_hold))))))) ∧ (¬ p1 = (115 : Int32) → (p_X8_refusesLoad F p2 p3 x_arches f_now (fun (r_182 : Int32) => ((0 ≤ r_182 → (vp_in p2 47 ∧ (Post (1 : Int32) (w_read, x_length, x_top, x_at, x_wrong, x_isAsked, x_dropped, (upd f_now p2.toNatClampNeg p3), f_asked, f_hold)))) ∧ (¬ 0 ≤ r_182 → (Post (0 : Int32) (w_read, x_length, x_top, x_at, x_wrong, x_isAsked, x_dropped, f_now, f_asked, f_hold))))))))))))))))
set_option maxHeartbeats 4000000 in
set_option maxRecDepth 100000 in
theorem c_X8_act (l : Launch) (D : va_G) (cT : Nat → ClassId) (F : Nat) (h : Nat) (p1 : Int32) (p2 : Int32) (p3 : Int32) (q_now : Nat) (x_arches : Int32) (x_cats : Int32) (w_text : Value) (x_typed : Int32) (w_row : Value) (x_rowMany : Int32) (x_thrown : Int32) (w_read : Value) (x_length : Int32) (x_top : Int32) (x_at : Int32) (x_wrong : Int32) (w_told : Value) (q_rule : Nat) (w_otherRule : Value) (x_ruleSize : Int32) (x_isAsked : Int32) (q_asked : Nat) (w_undos : Value) (x_undoMany : Int32) (w_aside : Value) (w_then : Value) (q_hold : Nat) (x_dropped : Int32) (w_acts : Value) (w_guarded : Value) (w_train : Value) (x_trolleyEnd : Int32) (w_feltOf : Value) (w_feltBy : Value) (x_feltMany : Int32) (w_many : Value) (w_heardOf : Value) (w_heardBy : Value) (x_heardMany : Int32) (w_worth : Value) (x_drawn : Int32) (x_came : Int32) (w_kept : Value) (w_isKept : Value) (w_keptCame : Value) (f_now : Nat → Int32) (f_asked : Nat → Int32) (f_rule : Nat → Int32) (f_hold : Nat → Int32) (Post : Int32 → (Value × Int32 × Int32 × Int32 × Int32 × Int32 × Int32 × (Nat → Int32) × (Nat → Int32) × (Nat → Int32)) → Prop) (hg : p_X8_act F p1 p2 p3 x_arches x_cats w_read x_length x_top x_at x_wrong q_rule x_ruleSize x_isAsked x_dropped f_now f_asked f_rule f_hold Post) : MWi l D cT yX8_act cX8_act 4 (some .boolean) 327 10219 0 0 [.ref h, .int p1, .int p2, .int p3] [(h, oX8 (.ref q_now) (.int x_arches) (.int x_cats) w_text (.int x_typed) w_row (.int x_rowMany) (.int x_thrown) w_read (.int x_length) (.int x_top) (.int x_at) (.int x_wrong) w_told (.ref q_rule) w_otherRule (.int x_ruleSize) (.int x_isAsked) (.ref q_asked) w_undos (.int x_undoMany) w_aside w_then (.ref q_hold) (.int x_dropped) w_acts w_guarded w_train (.int x_trolleyEnd) w_feltOf w_feltBy (.int x_feltMany) w_many w_heardOf w_heardBy (.int x_heardMany) w_worth (.int x_drawn) (.int x_came) w_kept w_isKept w_keptCame), (q_now, aI cT 47 f_now), (q_asked, aI cT 7 f_asked), (q_rule, aB cT 40 f_rule), (q_hold, aI cT 6 f_hold)] Post (fun (u : (Value × Int32 × Int32 × Int32 × Int32 × Int32 × Int32 × (Nat → Int32) × (Nat → Int32) × (Nat → Int32))) => [(h, oX8 (.ref q_now) (.int x_arches) (.int x_cats) w_text (.int x_typed) w_row (.int x_rowMany) (.int x_thrown) u.1 (.int u.2.1) (.int u.2.2.1) (.int u.2.2.2.1) (.int u.2.2.2.2.1) w_told (.ref q_rule) w_otherRule (.int x_ruleSize) (.int u.2.2.2.2.2.1) (.ref q_asked) w_undos (.int x_undoMany) w_aside w_then (.ref q_hold) (.int u.2.2.2.2.2.2.1) w_acts w_guarded w_train (.int x_trolleyEnd) w_feltOf w_feltBy (.int x_feltMany) w_many w_heardOf w_heardBy (.int x_heardMany) w_worth (.int x_drawn) (.int x_came) w_kept w_isKept w_keptCame), (q_now, aI cT 47 u.2.2.2.2.2.2.2.1), (q_asked, aI cT 7 u.2.2.2.2.2.2.2.2.1), (q_rule, aB cT 40 f_rule), (q_hold, aI cT 6 u.2.2.2.2.2.2.2.2.2)]) := by
  refine MWi.of (by decide) (Nat.le_of_ble_eq_true rfl) ?_
  intro p e s m below meth c A hA C0 hnm hr hP hD ls hl
  have hl : lv_has ls 4 [(0, .ref h), (1, .int p1), (2, .int p2), (3, .int p3)] := hl
  have hx := C0.x
  have hb := C0.b
  have hS : va_S A s.heap s.heap [] := va_S.rf
  have hP : va_P D cls9 [(h, oX8 (.ref q_now) (.int x_arches) (.int x_cats) w_text (.int x_typed) w_row (.int x_rowMany) (.int x_thrown) w_read (.int x_length) (.int x_top) (.int x_at) (.int x_wrong) w_told (.ref q_rule) w_otherRule (.int x_ruleSize) (.int x_isAsked) (.ref q_asked) w_undos (.int x_undoMany) w_aside w_then (.ref q_hold) (.int x_dropped) w_acts w_guarded w_train (.int x_trolleyEnd) w_feltOf w_feltBy (.int x_feltMany) w_many w_heardOf w_heardBy (.int x_heardMany) w_worth (.int x_drawn) (.int x_came) w_kept w_isKept w_keptCame), (q_now, aI cT 47 f_now), (q_asked, aI cT 7 f_asked), (q_rule, aB cT 40 f_rule), (q_hold, aI cT 6 f_hold)] s.heap := hP
  have hD : va_D A [(h, oX8 (.ref q_now) (.int x_arches) (.int x_cats) w_text (.int x_typed) w_row (.int x_rowMany) (.int x_thrown) w_read (.int x_length) (.int x_top) (.int x_at) (.int x_wrong) w_told (.ref q_rule) w_otherRule (.int x_ruleSize) (.int x_isAsked) (.ref q_asked) w_undos (.int x_undoMany) w_aside w_then (.ref q_hold) (.int x_dropped) w_acts w_guarded w_train (.int x_trolleyEnd) w_feltOf w_feltBy (.int x_feltMany) w_many w_heardOf w_heardBy (.int x_heardMany) w_worth (.int x_drawn) (.int x_came) w_kept w_isKept w_keptCame), (q_now, aI cT 47 f_now), (q_asked, aI cT 7 f_asked), (q_rule, aB cT 40 f_rule), (q_hold, aI cT 6 f_hold)] := hD
  unfold p_X8_act at hg
  refine lv_iload_n hx hb dX8_act_0 rfl (lv_at hl 1 rfl) ?_
  rcases Classical.em (p1 = (102 : Int32)) with c_1_102 | c_1_102
  · have hg := hg.1 c_1_102
    refine lv_tableIn (tgt := 83) hx hb dX8_act_1 (by rw [c_1_102]; decide) (by rw [c_1_102]; decide) (by rw [c_1_102]; rfl) (by decide) ?_
    refine lv_aload_n hx hb dX8_act_83 rfl (lv_at hl 0 rfl) ?_
    refine lv_aload_n hx hb dX8_act_84 rfl (lv_at hl 0 rfl) ?_
    refine gf_X8_9 C0 hP 0 rfl rfl dX8_act_85 ?_
    refine lv_iload_n hx hb dX8_act_88 rfl (lv_at hl 2 rfl) ?_
    refine lv_iload_n hx hb dX8_act_89 rfl (lv_at hl 3 rfl) ?_
    refine k_Vxi (rest := []) C0 lk_X8_257 (c_X8_refusesFeed l D cT F h q_now p2 p3 (.ref q_now) x_arches x_cats w_text x_typed w_row x_rowMany x_thrown w_read x_length x_top x_at x_wrong w_told (.ref q_rule) w_otherRule x_ruleSize x_isAsked (.ref q_asked) w_undos x_undoMany w_aside w_then (.ref q_hold) x_dropped w_acts w_guarded w_train x_trolleyEnd w_feltOf w_feltBy x_feltMany w_many w_heardOf w_heardBy x_heardMany w_worth x_drawn x_came w_kept w_isKept w_keptCame 47 f_now _ hg) hP hD hS hA [0, 1] (by decide +kernel) rfl rfl rfl ⟨Nat.le_of_ble_eq_true rfl, Nat.le_of_ble_eq_true rfl⟩ rfl hl.1 rfl (Nat.le_of_ble_eq_true rfl) dX8_act_90 ⟨Nat.le_of_ble_eq_true rfl, Nat.le_of_ble_eq_true rfl⟩ (fun r_90 hg => ?_)
    refine lv_if_ge (tgt := 98) hx hb dX8_act_93 (by decide) (fun c_93 => ?_) (fun c_93 => ?_)
    · have hg := hg.1 c_93
      refine lv_aload_n hx hb dX8_act_98 rfl (lv_at hl 0 rfl) ?_
      refine gf_X8_9 C0 hP 0 rfl rfl dX8_act_99 ?_
      refine lv_iload_n hx hb dX8_act_102 rfl (lv_at hl 2 rfl) ?_
      refine lv_iload_n hx hb dX8_act_103 rfl (lv_at hl 3 rfl) ?_
      refine k_Sv (rest := []) (wr := [(h, oX8 (.ref q_now) (.int x_arches) (.int x_cats) w_text (.int x_typed) w_row (.int x_rowMany) (.int x_thrown) w_read (.int x_length) (.int x_top) (.int x_at) (.int x_wrong) w_told (.ref q_rule) w_otherRule (.int x_ruleSize) (.int x_isAsked) (.ref q_asked) w_undos (.int x_undoMany) w_aside w_then (.ref q_hold) (.int x_dropped) w_acts w_guarded w_train (.int x_trolleyEnd) w_feltOf w_feltBy (.int x_feltMany) w_many w_heardOf w_heardBy (.int x_heardMany) w_worth (.int x_drawn) (.int x_came) w_kept w_isKept w_keptCame), (q_asked, aI cT 7 f_asked), (q_rule, aB cT 40 f_rule), (q_hold, aI cT 6 f_hold)]) (w2 := fun u_104 => [(h, oX8 (.ref q_now) (.int x_arches) (.int x_cats) w_text (.int x_typed) w_row (.int x_rowMany) (.int x_thrown) w_read (.int x_length) (.int x_top) (.int x_at) (.int x_wrong) w_told (.ref q_rule) w_otherRule (.int x_ruleSize) (.int x_isAsked) (.ref q_asked) w_undos (.int x_undoMany) w_aside w_then (.ref q_hold) (.int x_dropped) w_acts w_guarded w_train (.int x_trolleyEnd) w_feltOf w_feltBy (.int x_feltMany) w_many w_heardOf w_heardBy (.int x_heardMany) w_worth (.int x_drawn) (.int x_came) w_kept w_isKept w_keptCame), (q_asked, aI cT 7 f_asked), (q_rule, aB cT 40 f_rule), (q_hold, aI cT 6 f_hold), (q_now, aI cT 47 u_104)]) C0 lk_X8_260 (c_X8_goFeed l D cT F q_now p2 p3 47 f_now _ hg) hP hD hS hA [1] [0, 2, 3, 4] (by decide +kernel) rfl rfl (fun _ => rfl) ⟨Nat.le_of_ble_eq_true rfl, Nat.le_of_ble_eq_true rfl⟩ rfl hl.1 rfl (Nat.le_of_ble_eq_true rfl) dX8_act_104 ⟨Nat.le_of_ble_eq_true rfl, Nat.le_of_ble_eq_true rfl⟩ ?_
      intro u_104 H locs hg hP hD hS
      refine lv_iconst (v := (1 : Int32)) hx hb dX8_act_107 (by decide) ?_
      exact k_zret C0 hr (Or.inr rfl) (w_read, x_length, x_top, x_at, x_wrong, x_isAsked, x_dropped, u_104, f_asked, f_hold) hg (subP hP [0, 4, 1, 2, 3] rfl) (hD.sub [0, 4, 1, 2, 3] (nd2_ok _ (by decide +kernel)) rfl) hS dX8_act_108
    have hg := hg.2 c_93
    refine lv_iconst (v := (0 : Int32)) hx hb dX8_act_96 (by decide) ?_
    exact k_zret C0 hr (Or.inl rfl) (w_read, x_length, x_top, x_at, x_wrong, x_isAsked, x_dropped, f_now, f_asked, f_hold) hg hP hD hS dX8_act_97
  have hg := hg.2 c_1_102
  rcases Classical.em (p1 = (103 : Int32)) with c_1_103 | c_1_103
  · have hg := hg.1 c_1_103
    refine lv_tableIn (tgt := 134) hx hb dX8_act_1 (by rw [c_1_103]; decide) (by rw [c_1_103]; decide) (by rw [c_1_103]; rfl) (by decide) ?_
    refine lv_aload_n hx hb dX8_act_134 rfl (lv_at hl 0 rfl) ?_
    refine lv_iload_n hx hb dX8_act_135 rfl (lv_at hl 2 rfl) ?_
    refine lv_iload_n hx hb dX8_act_136 rfl (lv_at hl 3 rfl) ?_
    refine k_Vxi (rest := []) C0 lk_X8_267 (c_X8_canGrieve l D cT F h p2 p3 (.ref q_now) x_arches x_cats w_text x_typed w_row x_rowMany x_thrown w_read x_length x_top x_at x_wrong w_told (.ref q_rule) w_otherRule x_ruleSize x_isAsked (.ref q_asked) w_undos x_undoMany w_aside w_then (.ref q_hold) x_dropped w_acts w_guarded w_train x_trolleyEnd w_feltOf w_feltBy x_feltMany w_many w_heardOf w_heardBy x_heardMany w_worth x_drawn x_came w_kept w_isKept w_keptCame _ hg) hP hD hS hA [0] (by decide +kernel) rfl rfl rfl ⟨Nat.le_of_ble_eq_true rfl, Nat.le_of_ble_eq_true rfl⟩ rfl hl.1 rfl (Nat.le_of_ble_eq_true rfl) dX8_act_137 ⟨Nat.le_of_ble_eq_true rfl, Nat.le_of_ble_eq_true rfl⟩ (fun r_137 hg => ?_)
    refine lv_if_ne (tgt := 145) hx hb dX8_act_140 (by decide) (fun c_140 => ?_) (fun c_140 => ?_)
    · have hg := hg.1 c_140
      refine lv_aload_n hx hb dX8_act_145 rfl (lv_at hl 0 rfl) ?_
      refine gf_X8_9 C0 hP 0 rfl rfl dX8_act_146 ?_
      refine lv_iload_n hx hb dX8_act_149 rfl (lv_at hl 2 rfl) ?_
      refine lv_iload_n hx hb dX8_act_150 rfl (lv_at hl 3 rfl) ?_
      refine k_Sv (rest := []) (wr := [(h, oX8 (.ref q_now) (.int x_arches) (.int x_cats) w_text (.int x_typed) w_row (.int x_rowMany) (.int x_thrown) w_read (.int x_length) (.int x_top) (.int x_at) (.int x_wrong) w_told (.ref q_rule) w_otherRule (.int x_ruleSize) (.int x_isAsked) (.ref q_asked) w_undos (.int x_undoMany) w_aside w_then (.ref q_hold) (.int x_dropped) w_acts w_guarded w_train (.int x_trolleyEnd) w_feltOf w_feltBy (.int x_feltMany) w_many w_heardOf w_heardBy (.int x_heardMany) w_worth (.int x_drawn) (.int x_came) w_kept w_isKept w_keptCame), (q_asked, aI cT 7 f_asked), (q_rule, aB cT 40 f_rule), (q_hold, aI cT 6 f_hold)]) (w2 := fun u_151 => [(h, oX8 (.ref q_now) (.int x_arches) (.int x_cats) w_text (.int x_typed) w_row (.int x_rowMany) (.int x_thrown) w_read (.int x_length) (.int x_top) (.int x_at) (.int x_wrong) w_told (.ref q_rule) w_otherRule (.int x_ruleSize) (.int x_isAsked) (.ref q_asked) w_undos (.int x_undoMany) w_aside w_then (.ref q_hold) (.int x_dropped) w_acts w_guarded w_train (.int x_trolleyEnd) w_feltOf w_feltBy (.int x_feltMany) w_many w_heardOf w_heardBy (.int x_heardMany) w_worth (.int x_drawn) (.int x_came) w_kept w_isKept w_keptCame), (q_asked, aI cT 7 f_asked), (q_rule, aB cT 40 f_rule), (q_hold, aI cT 6 f_hold), (q_now, aI cT 47 u_151)]) C0 lk_X8_271 (c_X8_goGrieve l D cT F q_now p2 p3 47 f_now _ hg) hP hD hS hA [1] [0, 2, 3, 4] (by decide +kernel) rfl rfl (fun _ => rfl) ⟨Nat.le_of_ble_eq_true rfl, Nat.le_of_ble_eq_true rfl⟩ rfl hl.1 rfl (Nat.le_of_ble_eq_true rfl) dX8_act_151 ⟨Nat.le_of_ble_eq_true rfl, Nat.le_of_ble_eq_true rfl⟩ ?_
      intro u_151 H locs hg hP hD hS
      refine lv_iconst (v := (1 : Int32)) hx hb dX8_act_154 (by decide) ?_
      exact k_zret C0 hr (Or.inr rfl) (w_read, x_length, x_top, x_at, x_wrong, x_isAsked, x_dropped, u_151, f_asked, f_hold) hg (subP hP [0, 4, 1, 2, 3] rfl) (hD.sub [0, 4, 1, 2, 3] (nd2_ok _ (by decide +kernel)) rfl) hS dX8_act_155
    have hg := hg.2 c_140
    refine lv_iconst (v := (0 : Int32)) hx hb dX8_act_143 (by decide) ?_
    exact k_zret C0 hr (Or.inl rfl) (w_read, x_length, x_top, x_at, x_wrong, x_isAsked, x_dropped, f_now, f_asked, f_hold) hg hP hD hS dX8_act_144
  have hg := hg.2 c_1_103
  rcases Classical.em (p1 = (110 : Int32)) with c_1_110 | c_1_110
  · have hg := hg.1 c_1_110
    refine lv_tableIn (tgt := 72) hx hb dX8_act_1 (by rw [c_1_110]; decide) (by rw [c_1_110]; decide) (by rw [c_1_110]; rfl) (by decide) ?_
    refine lv_aload_n hx hb dX8_act_72 rfl (lv_at hl 0 rfl) ?_
    refine lv_aload_n hx hb dX8_act_73 rfl (lv_at hl 0 rfl) ?_
    refine gf_X8_9 C0 hP 0 rfl rfl dX8_act_74 ?_
    refine lv_iload_n hx hb dX8_act_77 rfl (lv_at hl 2 rfl) ?_
    refine k_Vv (rest := []) (wr := []) (w2 := fun u_78 => [(h, oX8 (.ref q_now) (.int x_arches) (.int x_cats) w_text (.int x_typed) w_row (.int x_rowMany) (.int x_thrown) u_78.1 (.int u_78.2.1) (.int u_78.2.2.1) (.int u_78.2.2.2.1) (.int u_78.2.2.2.2.1) w_told (.ref q_rule) w_otherRule (.int x_ruleSize) (.int u_78.2.2.2.2.2.1) (.ref q_asked) w_undos (.int x_undoMany) w_aside w_then (.ref q_hold) (.int u_78.2.2.2.2.2.2.1) w_acts w_guarded w_train (.int x_trolleyEnd) w_feltOf w_feltBy (.int x_feltMany) w_many w_heardOf w_heardBy (.int x_heardMany) w_worth (.int x_drawn) (.int x_came) w_kept w_isKept w_keptCame), (q_now, aI cT 47 u_78.2.2.2.2.2.2.2.1), (q_asked, aI cT 7 u_78.2.2.2.2.2.2.2.2.1), (q_rule, aB cT 40 f_rule), (q_hold, aI cT 6 u_78.2.2.2.2.2.2.2.2.2)]) C0 lk_X8_242 (c_X8_goHours l D cT F h q_now p2 (.ref q_now) x_arches x_cats w_text x_typed w_row x_rowMany x_thrown w_read x_length x_top x_at x_wrong w_told q_rule w_otherRule x_ruleSize x_isAsked q_asked w_undos x_undoMany w_aside w_then q_hold x_dropped w_acts w_guarded w_train x_trolleyEnd w_feltOf w_feltBy x_feltMany w_many w_heardOf w_heardBy x_heardMany w_worth x_drawn x_came w_kept w_isKept w_keptCame 47 f_now f_asked f_rule f_hold _ hg) hP hD hS hA [0, 1, 2, 3, 4] [] (by decide +kernel) rfl rfl (fun _ => rfl) rfl rfl ⟨Nat.le_of_ble_eq_true rfl, Nat.le_of_ble_eq_true rfl⟩ rfl hl.1 rfl (Nat.le_of_ble_eq_true rfl) dX8_act_78 ⟨Nat.le_of_ble_eq_true rfl, Nat.le_of_ble_eq_true rfl⟩ ?_
    intro u_78 H locs hg hP hD hS
    refine lv_iconst (v := (1 : Int32)) hx hb dX8_act_81 (by decide) ?_
    exact k_zret C0 hr (Or.inr rfl) (u_78.1, u_78.2.1, u_78.2.2.1, u_78.2.2.2.1, u_78.2.2.2.2.1, u_78.2.2.2.2.2.1, u_78.2.2.2.2.2.2.1, u_78.2.2.2.2.2.2.2.1, u_78.2.2.2.2.2.2.2.2.1, u_78.2.2.2.2.2.2.2.2.2) hg hP hD hS dX8_act_82
  have hg := hg.2 c_1_110
  rcases Classical.em (p1 = (112 : Int32)) with c_1_112 | c_1_112
  · have hg := hg.1 c_1_112
    refine lv_tableIn (tgt := 109) hx hb dX8_act_1 (by rw [c_1_112]; decide) (by rw [c_1_112]; decide) (by rw [c_1_112]; rfl) (by decide) ?_
    refine lv_aload_n hx hb dX8_act_109 rfl (lv_at hl 0 rfl) ?_
    refine lv_iload_n hx hb dX8_act_110 rfl (lv_at hl 2 rfl) ?_
    refine k_Vxi (rest := []) C0 lk_X8_264 (c_X8_refusesPet l D cT F h p2 q_now x_arches x_cats w_text x_typed w_row x_rowMany x_thrown w_read x_length x_top x_at x_wrong w_told (.ref q_rule) w_otherRule x_ruleSize x_isAsked (.ref q_asked) w_undos x_undoMany w_aside w_then (.ref q_hold) x_dropped w_acts w_guarded w_train x_trolleyEnd w_feltOf w_feltBy x_feltMany w_many w_heardOf w_heardBy x_heardMany w_worth x_drawn x_came w_kept w_isKept w_keptCame f_now _ hg) hP hD hS hA [0, 1] (by decide +kernel) rfl rfl rfl ⟨Nat.le_of_ble_eq_true rfl, Nat.le_of_ble_eq_true rfl⟩ rfl hl.1 rfl (Nat.le_of_ble_eq_true rfl) dX8_act_111 ⟨Nat.le_of_ble_eq_true rfl, Nat.le_of_ble_eq_true rfl⟩ (fun r_111 hg => ?_)
    refine lv_if_ge (tgt := 119) hx hb dX8_act_114 (by decide) (fun c_114 => ?_) (fun c_114 => ?_)
    · have hg := hg.1 c_114
      refine lv_aload_n hx hb dX8_act_119 rfl (lv_at hl 0 rfl) ?_
      refine gf_X8_9 C0 hP 0 rfl rfl dX8_act_120 ?_
      refine lv_bipush (v := (12 : Int32)) hx hb dX8_act_123 (by decide) ?_
      refine lv_iload_n hx hb dX8_act_125 rfl (lv_at hl 2 rfl) ?_
      refine lv_iadd hx hb dX8_act_126 ?_
      refine lv_dup2_11 hx hb dX8_act_127 rfl rfl ?_
      obtain ⟨g_128, hg⟩ := hg
      refine k_iald C0 hP 1 rfl g_128 dX8_act_128 ?_
      refine lv_iconst (v := (1 : Int32)) hx hb dX8_act_129 (by decide) ?_
      refine lv_iadd hx hb dX8_act_130 ?_
      obtain ⟨g_131, hg⟩ := hg
      refine k_iast C0 hP hD hS 1 rfl g_131 (ws' := [(h, oX8 (.ref q_now) (.int x_arches) (.int x_cats) w_text (.int x_typed) w_row (.int x_rowMany) (.int x_thrown) w_read (.int x_length) (.int x_top) (.int x_at) (.int x_wrong) w_told (.ref q_rule) w_otherRule (.int x_ruleSize) (.int x_isAsked) (.ref q_asked) w_undos (.int x_undoMany) w_aside w_then (.ref q_hold) (.int x_dropped) w_acts w_guarded w_train (.int x_trolleyEnd) w_feltOf w_feltBy (.int x_feltMany) w_many w_heardOf w_heardBy (.int x_heardMany) w_worth (.int x_drawn) (.int x_came) w_kept w_isKept w_keptCame), (q_now, aI cT 47 (upd f_now ((12 : Int32) + p2).toNatClampNeg ((f_now ((12 : Int32) + p2).toNatClampNeg) + (1 : Int32)))), (q_asked, aI cT 7 f_asked), (q_rule, aB cT 40 f_rule), (q_hold, aI cT 6 f_hold)]) rfl dX8_act_131 (fun H locs hP hD hS => ?_)
      refine lv_iconst (v := (1 : Int32)) hx hb dX8_act_132 (by decide) ?_
      exact k_zret C0 hr (Or.inr rfl) (w_read, x_length, x_top, x_at, x_wrong, x_isAsked, x_dropped, (upd f_now ((12 : Int32) + p2).toNatClampNeg ((f_now ((12 : Int32) + p2).toNatClampNeg) + (1 : Int32))), f_asked, f_hold) hg hP hD hS dX8_act_133
    have hg := hg.2 c_114
    refine lv_iconst (v := (0 : Int32)) hx hb dX8_act_117 (by decide) ?_
    exact k_zret C0 hr (Or.inl rfl) (w_read, x_length, x_top, x_at, x_wrong, x_isAsked, x_dropped, f_now, f_asked, f_hold) hg hP hD hS dX8_act_118
  have hg := hg.2 c_1_112
  rcases Classical.em (p1 = (115 : Int32)) with c_1_115 | c_1_115
  · have hg := hg.1 c_1_115
    refine lv_tableIn (tgt := 156) hx hb dX8_act_1 (by rw [c_1_115]; decide) (by rw [c_1_115]; decide) (by rw [c_1_115]; rfl) (by decide) ?_
    refine lv_aload_n hx hb dX8_act_156 rfl (lv_at hl 0 rfl) ?_
    refine lv_iload_n hx hb dX8_act_157 rfl (lv_at hl 2 rfl) ?_
    refine lv_iload_n hx hb dX8_act_158 rfl (lv_at hl 3 rfl) ?_
    refine k_Vxi (rest := []) C0 lk_X8_274 (c_X8_refusesSet l D cT F h p2 p3 q_now x_arches x_cats w_text x_typed w_row x_rowMany x_thrown w_read x_length x_top x_at x_wrong w_told (.ref q_rule) w_otherRule x_ruleSize x_isAsked (.ref q_asked) w_undos x_undoMany w_aside w_then (.ref q_hold) x_dropped w_acts w_guarded w_train x_trolleyEnd w_feltOf w_feltBy x_feltMany w_many w_heardOf w_heardBy x_heardMany w_worth x_drawn x_came w_kept w_isKept w_keptCame f_now _ hg) hP hD hS hA [0, 1] (by decide +kernel) rfl rfl rfl ⟨Nat.le_of_ble_eq_true rfl, Nat.le_of_ble_eq_true rfl⟩ rfl hl.1 rfl (Nat.le_of_ble_eq_true rfl) dX8_act_159 ⟨Nat.le_of_ble_eq_true rfl, Nat.le_of_ble_eq_true rfl⟩ (fun r_159 hg => ?_)
    refine lv_if_ge (tgt := 167) hx hb dX8_act_162 (by decide) (fun c_162 => ?_) (fun c_162 => ?_)
    · have hg := hg.1 c_162
      refine lv_aload_n hx hb dX8_act_167 rfl (lv_at hl 0 rfl) ?_
      refine gf_X8_9 C0 hP 0 rfl rfl dX8_act_168 ?_
      refine lv_bipush (v := (36 : Int32)) hx hb dX8_act_171 (by decide) ?_
      refine lv_iload_n hx hb dX8_act_173 rfl (lv_at hl 2 rfl) ?_
      refine lv_iadd hx hb dX8_act_174 ?_
      refine lv_iload_n hx hb dX8_act_175 rfl (lv_at hl 3 rfl) ?_
      obtain ⟨g_176, hg⟩ := hg
      refine k_iast C0 hP hD hS 1 rfl g_176 (ws' := [(h, oX8 (.ref q_now) (.int x_arches) (.int x_cats) w_text (.int x_typed) w_row (.int x_rowMany) (.int x_thrown) w_read (.int x_length) (.int x_top) (.int x_at) (.int x_wrong) w_told (.ref q_rule) w_otherRule (.int x_ruleSize) (.int x_isAsked) (.ref q_asked) w_undos (.int x_undoMany) w_aside w_then (.ref q_hold) (.int x_dropped) w_acts w_guarded w_train (.int x_trolleyEnd) w_feltOf w_feltBy (.int x_feltMany) w_many w_heardOf w_heardBy (.int x_heardMany) w_worth (.int x_drawn) (.int x_came) w_kept w_isKept w_keptCame), (q_now, aI cT 47 (upd f_now ((36 : Int32) + p2).toNatClampNeg p3)), (q_asked, aI cT 7 f_asked), (q_rule, aB cT 40 f_rule), (q_hold, aI cT 6 f_hold)]) rfl dX8_act_176 (fun H locs hP hD hS => ?_)
      refine lv_iconst (v := (1 : Int32)) hx hb dX8_act_177 (by decide) ?_
      exact k_zret C0 hr (Or.inr rfl) (w_read, x_length, x_top, x_at, x_wrong, x_isAsked, x_dropped, (upd f_now ((36 : Int32) + p2).toNatClampNeg p3), f_asked, f_hold) hg hP hD hS dX8_act_178
    have hg := hg.2 c_162
    refine lv_iconst (v := (0 : Int32)) hx hb dX8_act_165 (by decide) ?_
    exact k_zret C0 hr (Or.inl rfl) (w_read, x_length, x_top, x_at, x_wrong, x_isAsked, x_dropped, f_now, f_asked, f_hold) hg hP hD hS dX8_act_166
  have hg := hg.2 c_1_115
  refine sw_def (x := p1) (lo := 102) (dflt := 178) (tgt := 179) hx hb dX8_act_1 (by decide) (by decide) ?_ ?_
  · intro k hk hx2
    have n_1_102 := ne_toInt (k := 102) (by decide) c_1_102
    have n_1_103 := ne_toInt (k := 103) (by decide) c_1_103
    have n_1_110 := ne_toInt (k := 110) (by decide) c_1_110
    have n_1_112 := ne_toInt (k := 112) (by decide) c_1_112
    have n_1_115 := ne_toInt (k := 115) (by decide) c_1_115
    have hk3 : k < 14 := hk
    match k, hk3 with
    | 0, _ => exact absurd hx2 (by omega)
    | 1, _ => exact absurd hx2 (by omega)
    | 2, _ => rfl
    | 3, _ => rfl
    | 4, _ => rfl
    | 5, _ => rfl
    | 6, _ => rfl
    | 7, _ => rfl
    | 8, _ => exact absurd hx2 (by omega)
    | 9, _ => rfl
    | 10, _ => exact absurd hx2 (by omega)
    | 11, _ => rfl
    | 12, _ => rfl
    | 13, _ => exact absurd hx2 (by omega)
    | k + 14, h => exact absurd h (by omega)
  refine lv_aload_n hx hb dX8_act_179 rfl (lv_at hl 0 rfl) ?_
  refine lv_iload_n hx hb dX8_act_180 rfl (lv_at hl 2 rfl) ?_
  refine lv_iload_n hx hb dX8_act_181 rfl (lv_at hl 3 rfl) ?_
  refine k_Vxi (rest := []) C0 lk_X8_280 (c_X8_refusesLoad l D cT F h p2 p3 q_now x_arches x_cats w_text x_typed w_row x_rowMany x_thrown w_read x_length x_top x_at x_wrong w_told (.ref q_rule) w_otherRule x_ruleSize x_isAsked (.ref q_asked) w_undos x_undoMany w_aside w_then (.ref q_hold) x_dropped w_acts w_guarded w_train x_trolleyEnd w_feltOf w_feltBy x_feltMany w_many w_heardOf w_heardBy x_heardMany w_worth x_drawn x_came w_kept w_isKept w_keptCame f_now _ hg) hP hD hS hA [0, 1] (by decide +kernel) rfl rfl rfl ⟨Nat.le_of_ble_eq_true rfl, Nat.le_of_ble_eq_true rfl⟩ rfl hl.1 rfl (Nat.le_of_ble_eq_true rfl) dX8_act_182 ⟨Nat.le_of_ble_eq_true rfl, Nat.le_of_ble_eq_true rfl⟩ (fun r_182 hg => ?_)
  refine lv_if_ge (tgt := 190) hx hb dX8_act_185 (by decide) (fun c_185 => ?_) (fun c_185 => ?_)
  · have hg := hg.1 c_185
    refine lv_aload_n hx hb dX8_act_190 rfl (lv_at hl 0 rfl) ?_
    refine gf_X8_9 C0 hP 0 rfl rfl dX8_act_191 ?_
    refine lv_iload_n hx hb dX8_act_194 rfl (lv_at hl 2 rfl) ?_
    refine lv_iload_n hx hb dX8_act_195 rfl (lv_at hl 3 rfl) ?_
    obtain ⟨g_196, hg⟩ := hg
    refine k_iast C0 hP hD hS 1 rfl g_196 (ws' := [(h, oX8 (.ref q_now) (.int x_arches) (.int x_cats) w_text (.int x_typed) w_row (.int x_rowMany) (.int x_thrown) w_read (.int x_length) (.int x_top) (.int x_at) (.int x_wrong) w_told (.ref q_rule) w_otherRule (.int x_ruleSize) (.int x_isAsked) (.ref q_asked) w_undos (.int x_undoMany) w_aside w_then (.ref q_hold) (.int x_dropped) w_acts w_guarded w_train (.int x_trolleyEnd) w_feltOf w_feltBy (.int x_feltMany) w_many w_heardOf w_heardBy (.int x_heardMany) w_worth (.int x_drawn) (.int x_came) w_kept w_isKept w_keptCame), (q_now, aI cT 47 (upd f_now p2.toNatClampNeg p3)), (q_asked, aI cT 7 f_asked), (q_rule, aB cT 40 f_rule), (q_hold, aI cT 6 f_hold)]) rfl dX8_act_196 (fun H locs hP hD hS => ?_)
    refine lv_iconst (v := (1 : Int32)) hx hb dX8_act_197 (by decide) ?_
    exact k_zret C0 hr (Or.inr rfl) (w_read, x_length, x_top, x_at, x_wrong, x_isAsked, x_dropped, (upd f_now p2.toNatClampNeg p3), f_asked, f_hold) hg hP hD hS dX8_act_198
  have hg := hg.2 c_185
  refine lv_iconst (v := (0 : Int32)) hx hb dX8_act_188 (by decide) ?_
  exact k_zret C0 hr (Or.inl rfl) (w_read, x_length, x_top, x_at, x_wrong, x_isAsked, x_dropped, f_now, f_asked, f_hold) hg hP hD hS dX8_act_189
theorem dX8_night_0 : decode cX8_night 0 = .ok (.aload_n 0, 1) := by decide +kernel
theorem dX8_night_1 : decode cX8_night 1 = .ok (.iconst 0, 1) := by decide +kernel
theorem dX8_night_2 : decode cX8_night 2 = .ok (.putfield 82, 3) := by decide +kernel
theorem dX8_night_5 : decode cX8_night 5 = .ok (.aload_n 0, 1) := by decide +kernel
theorem dX8_night_6 : decode cX8_night 6 = .ok (.bipush 60, 2) := by decide +kernel
theorem dX8_night_8 : decode cX8_night 8 = .ok (.invokevirtual 147, 3) := by decide +kernel
theorem dX8_night_11 : decode cX8_night 11 = .ok (.iconst 0, 1) := by decide +kernel
theorem dX8_night_12 : decode cX8_night 12 = .ok (.istore_n 1, 1) := by decide +kernel
theorem dX8_night_13 : decode cX8_night 13 = .ok (.aload_n 0, 1) := by decide +kernel
theorem dX8_night_14 : decode cX8_night 14 = .ok (.invokevirtual 121, 3) := by decide +kernel
theorem dX8_night_17 : decode cX8_night 17 = .ok (.ifCond .eq 27, 3) := by decide +kernel
theorem dX8_night_20 : decode cX8_night 20 = .ok (.aload_n 0, 1) := by decide +kernel
theorem dX8_night_21 : decode cX8_night 21 = .ok (.getfield 111, 3) := by decide +kernel
theorem dX8_night_24 : decode cX8_night 24 = .ok (.aload_n 0, 1) := by decide +kernel
theorem dX8_night_25 : decode cX8_night 25 = .ok (.getfield 105, 3) := by decide +kernel
theorem dX8_night_28 : decode cX8_night 28 = .ok (.if_icmp .ge 16, 3) := by decide +kernel
theorem dX8_night_31 : decode cX8_night 31 = .ok (.aload_n 0, 1) := by decide +kernel
theorem dX8_night_32 : decode cX8_night 32 = .ok (.iconst 3, 1) := by decide +kernel
theorem dX8_night_33 : decode cX8_night 33 = .ok (.iload_n 1, 1) := by decide +kernel
theorem dX8_night_34 : decode cX8_night 34 = .ok (.imul, 1) := by decide +kernel
theorem dX8_night_35 : decode cX8_night 35 = .ok (.invokevirtual 283, 3) := by decide +kernel
theorem dX8_night_38 : decode cX8_night 38 = .ok (.iinc 1 1, 3) := by decide +kernel
theorem dX8_night_41 : decode cX8_night 41 = .ok (.goto (-28), 3) := by decide +kernel
theorem dX8_night_44 : decode cX8_night 44 = .ok (.aload_n 0, 1) := by decide +kernel
theorem dX8_night_45 : decode cX8_night 45 = .ok (.invokevirtual 150, 3) := by decide +kernel
theorem dX8_night_48 : decode cX8_night 48 = .ok (.ifCond .ne 10, 3) := by decide +kernel
theorem dX8_night_51 : decode cX8_night 51 = .ok (.iconst (-1), 1) := by decide +kernel
theorem dX8_night_52 : decode cX8_night 52 = .ok (.aload_n 0, 1) := by decide +kernel
theorem dX8_night_53 : decode cX8_night 53 = .ok (.getfield 114, 3) := by decide +kernel
theorem dX8_night_56 : decode cX8_night 56 = .ok (.isub, 1) := by decide +kernel
theorem dX8_night_57 : decode cX8_night 57 = .ok (.ireturn, 1) := by decide +kernel
theorem dX8_night_58 : decode cX8_night 58 = .ok (.aload_n 0, 1) := by decide +kernel
theorem dX8_night_59 : decode cX8_night 59 = .ok (.getfield 9, 3) := by decide +kernel
theorem dX8_night_62 : decode cX8_night 62 = .ok (.aload_n 0, 1) := by decide +kernel
theorem dX8_night_63 : decode cX8_night 63 = .ok (.getfield 36, 3) := by decide +kernel
theorem dX8_night_66 : decode cX8_night 66 = .ok (.iconst 0, 1) := by decide +kernel
theorem dX8_night_67 : decode cX8_night 67 = .ok (.invokestatic 231, 3) := by decide +kernel
theorem dX8_night_70 : decode cX8_night 70 = .ok (.iconst 0, 1) := by decide +kernel
theorem dX8_night_71 : decode cX8_night 71 = .ok (.istore_n 2, 1) := by decide +kernel
theorem dX8_night_72 : decode cX8_night 72 = .ok (.iload_n 2, 1) := by decide +kernel
theorem dX8_night_73 : decode cX8_night 73 = .ok (.iload_n 1, 1) := by decide +kernel
theorem dX8_night_74 : decode cX8_night 74 = .ok (.if_icmp .ge 44, 3) := by decide +kernel
theorem dX8_night_77 : decode cX8_night 77 = .ok (.aload_n 0, 1) := by decide +kernel
theorem dX8_night_78 : decode cX8_night 78 = .ok (.aload_n 0, 1) := by decide +kernel
theorem dX8_night_79 : decode cX8_night 79 = .ok (.getfield 45, 3) := by decide +kernel
theorem dX8_night_82 : decode cX8_night 82 = .ok (.iconst 3, 1) := by decide +kernel
theorem dX8_night_83 : decode cX8_night 83 = .ok (.iload_n 2, 1) := by decide +kernel
theorem dX8_night_84 : decode cX8_night 84 = .ok (.imul, 1) := by decide +kernel
theorem dX8_night_85 : decode cX8_night 85 = .ok (.iaload, 1) := by decide +kernel
theorem dX8_night_86 : decode cX8_night 86 = .ok (.aload_n 0, 1) := by decide +kernel
theorem dX8_night_87 : decode cX8_night 87 = .ok (.getfield 45, 3) := by decide +kernel
theorem dX8_night_90 : decode cX8_night 90 = .ok (.iconst 3, 1) := by decide +kernel
theorem dX8_night_91 : decode cX8_night 91 = .ok (.iload_n 2, 1) := by decide +kernel
theorem dX8_night_92 : decode cX8_night 92 = .ok (.imul, 1) := by decide +kernel
theorem dX8_night_93 : decode cX8_night 93 = .ok (.iconst 1, 1) := by decide +kernel
theorem dX8_night_94 : decode cX8_night 94 = .ok (.iadd, 1) := by decide +kernel
theorem dX8_night_95 : decode cX8_night 95 = .ok (.iaload, 1) := by decide +kernel
theorem dX8_night_96 : decode cX8_night 96 = .ok (.aload_n 0, 1) := by decide +kernel
theorem dX8_night_97 : decode cX8_night 97 = .ok (.getfield 45, 3) := by decide +kernel
theorem dX8_night_100 : decode cX8_night 100 = .ok (.iconst 3, 1) := by decide +kernel
theorem dX8_night_101 : decode cX8_night 101 = .ok (.iload_n 2, 1) := by decide +kernel
theorem dX8_night_102 : decode cX8_night 102 = .ok (.imul, 1) := by decide +kernel
theorem dX8_night_103 : decode cX8_night 103 = .ok (.iconst 2, 1) := by decide +kernel
theorem dX8_night_104 : decode cX8_night 104 = .ok (.iadd, 1) := by decide +kernel
theorem dX8_night_105 : decode cX8_night 105 = .ok (.iaload, 1) := by decide +kernel
theorem dX8_night_106 : decode cX8_night 106 = .ok (.invokevirtual 286, 3) := by decide +kernel
theorem dX8_night_109 : decode cX8_night 109 = .ok (.ifCond .eq 9, 3) := by decide +kernel
theorem dX8_night_112 : decode cX8_night 112 = .ok (.iinc 2 1, 3) := by decide +kernel
theorem dX8_night_115 : decode cX8_night 115 = .ok (.goto (-43), 3) := by decide +kernel
theorem dX8_night_118 : decode cX8_night 118 = .ok (.iload_n 2, 1) := by decide +kernel
theorem dX8_night_119 : decode cX8_night 119 = .ok (.ifCond .le 11, 3) := by decide +kernel
theorem dX8_night_122 : decode cX8_night 122 = .ok (.aload_n 0, 1) := by decide +kernel
theorem dX8_night_123 : decode cX8_night 123 = .ok (.aload_n 0, 1) := by decide +kernel
theorem dX8_night_124 : decode cX8_night 124 = .ok (.getfield 36, 3) := by decide +kernel
theorem dX8_night_127 : decode cX8_night 127 = .ok (.invokevirtual 246, 3) := by decide +kernel
theorem dX8_night_130 : decode cX8_night 130 = .ok (.aload_n 0, 1) := by decide +kernel
theorem dX8_night_131 : decode cX8_night 131 = .ok (.iconst 0, 1) := by decide +kernel
theorem dX8_night_132 : decode cX8_night 132 = .ok (.putfield 86, 3) := by decide +kernel
theorem dX8_night_135 : decode cX8_night 135 = .ok (.aload_n 0, 1) := by decide +kernel
theorem dX8_night_136 : decode cX8_night 136 = .ok (.iload_n 2, 1) := by decide +kernel
theorem dX8_night_137 : decode cX8_night 137 = .ok (.iload_n 1, 1) := by decide +kernel
theorem dX8_night_138 : decode cX8_night 138 = .ok (.if_icmp .ge 7, 3) := by decide +kernel
theorem dX8_night_141 : decode cX8_night 141 = .ok (.lconst 1, 1) := by decide +kernel
theorem dX8_night_142 : decode cX8_night 142 = .ok (.goto 4, 3) := by decide +kernel
theorem dX8_night_145 : decode cX8_night 145 = .ok (.lconst 0, 1) := by decide +kernel
theorem dX8_night_146 : decode cX8_night 146 = .ok (.invokevirtual 249, 3) := by decide +kernel
theorem dX8_night_149 : decode cX8_night 149 = .ok (.aload_n 0, 1) := by decide +kernel
theorem dX8_night_150 : decode cX8_night 150 = .ok (.aload_n 0, 1) := by decide +kernel
theorem dX8_night_151 : decode cX8_night 151 = .ok (.aload_n 0, 1) := by decide +kernel
theorem dX8_night_152 : decode cX8_night 152 = .ok (.getfield 9, 3) := by decide +kernel
theorem dX8_night_155 : decode cX8_night 155 = .ok (.invokevirtual 253, 3) := by decide +kernel
theorem dX8_night_158 : decode cX8_night 158 = .ok (.i2l, 1) := by decide +kernel
theorem dX8_night_159 : decode cX8_night 159 = .ok (.invokevirtual 249, 3) := by decide +kernel
theorem dX8_night_162 : decode cX8_night 162 = .ok (.iload_n 2, 1) := by decide +kernel
theorem dX8_night_163 : decode cX8_night 163 = .ok (.ireturn, 1) := by decide +kernel
def p_X8_night_146 (F : Nat) (x_arches : Int32) (f_row : Nat → Int64) (u_8 : (Int32 × Int32 × Int32 × Int32 × Int32)) (u_67 : (Nat → Int32)) (x_read_118 : Value) (x_length_118 : Int32) (x_top_118 : Int32) (x_at_118 : Int32) (x_wrong_118 : Int32) (x_isAsked_118 : Int32) (x_dropped_118 : Int32) (f_now_118 : Nat → Int32) (f_asked_118 : Nat → Int32) (f_hold_118 : Nat → Int32) (x_undoMany_130 : Int32) (f_undos_130 : Nat → Int32) (f_acts_13 : Nat → Int32) (y2_72 : Int32) (Post : Int32 → (Int32 × Int32 × Int32 × Value × Int32 × Int32 × Int32 × Int32 × Int32 × Int32 × Int32 × (Nat → Int32) × (Nat → Int32) × (Nat → Int32) × (Nat → Int32) × (Nat → Int32) × (Nat → Int32) × (Nat → Int64)) → Prop) (s1_146 : Int64) : Prop := (p_X8_tell F s1_146 (0 : Int32) f_row (fun (u_146 : (Int32 × (Nat → Int64))) => (p_X8_sags F x_arches 47 f_now_118 (fun (r_155 : Int32) => (p_X8_tell F (r_155.toInt64) u_146.1 u_146.2 (fun (u_159 : (Int32 × (Nat → Int64))) => (Post y2_72 (u_8.1, u_159.1, (0 : Int32), x_read_118, x_length_118, x_top_118, x_at_118, x_wrong_118, x_isAsked_118, x_undoMany_130, x_dropped_118, f_acts_13, f_now_118, u_67, f_asked_118, f_hold_118, f_undos_130, u_159.2))))))))
def p_X8_night_130 (F : Nat) (x_arches : Int32) (f_row : Nat → Int64) (u_8 : (Int32 × Int32 × Int32 × Int32 × Int32)) (u_67 : (Nat → Int32)) (x_read_118 : Value) (x_length_118 : Int32) (x_top_118 : Int32) (x_at_118 : Int32) (x_wrong_118 : Int32) (x_isAsked_118 : Int32) (x_dropped_118 : Int32) (f_now_118 : Nat → Int32) (f_asked_118 : Nat → Int32) (f_hold_118 : Nat → Int32) (y1_13 : Int32) (f_acts_13 : Nat → Int32) (y2_72 : Int32) (Post : Int32 → (Int32 × Int32 × Int32 × Value × Int32 × Int32 × Int32 × Int32 × Int32 × Int32 × Int32 × (Nat → Int32) × (Nat → Int32) × (Nat → Int32) × (Nat → Int32) × (Nat → Int32) × (Nat → Int32) × (Nat → Int64)) → Prop) (x_undoMany_130 : Int32) (f_undos_130 : Nat → Int32) : Prop := ((y1_13 ≤ y2_72 → (p_X8_night_146 F x_arches f_row u_8 u_67 x_read_118 x_length_118 x_top_118 x_at_118 x_wrong_118 x_isAsked_118 x_dropped_118 f_now_118 f_asked_118 f_hold_118 x_undoMany_130 f_undos_130 f_acts_13 y2_72 Post (0 : Int64))) ∧ (¬ y1_13 ≤ y2_72 → (p_X8_night_146 F x_arches f_row u_8 u_67 x_read_118 x_length_118 x_top_118 x_at_118 x_wrong_118 x_isAsked_118 x_dropped_118 f_now_118 f_asked_118 f_hold_118 x_undoMany_130 f_undos_130 f_acts_13 y2_72 Post (1 : Int64))))
def p_X8_night_118 (F : Nat) (x_arches : Int32) (x_undoMany : Int32) (f_undos : Nat → Int32) (f_row : Nat → Int64) (u_8 : (Int32 × Int32 × Int32 × Int32 × Int32)) (u_67 : (Nat → Int32)) (y1_13 : Int32) (f_acts_13 : Nat → Int32) (y2_72 : Int32) (Post : Int32 → (Int32 × Int32 × Int32 × Value × Int32 × Int32 × Int32 × Int32 × Int32 × Int32 × Int32 × (Nat → Int32) × (Nat → Int32) × (Nat → Int32) × (Nat → Int32) × (Nat → Int32) × (Nat → Int32) × (Nat → Int64)) → Prop) (x_read_118 : Value) (x_length_118 : Int32) (x_top_118 : Int32) (x_at_118 : Int32) (x_wrong_118 : Int32) (x_isAsked_118 : Int32) (x_dropped_118 : Int32) (f_now_118 : Nat → Int32) (f_asked_118 : Nat → Int32) (f_hold_118 : Nat → Int32) : Prop := ((y2_72 ≤ 0 → (p_X8_night_130 F x_arches f_row u_8 u_67 x_read_118 x_length_118 x_top_118 x_at_118 x_wrong_118 x_isAsked_118 x_dropped_118 f_now_118 f_asked_118 f_hold_118 y1_13 f_acts_13 y2_72 Post x_undoMany f_undos)) ∧ (¬ y2_72 ≤ 0 → (p_X8_remember F x_undoMany f_undos 47 u_67 (fun (u_127 : (Int32 × (Nat → Int32))) => (p_X8_night_130 F x_arches f_row u_8 u_67 x_read_118 x_length_118 x_top_118 x_at_118 x_wrong_118 x_isAsked_118 x_dropped_118 f_now_118 f_asked_118 f_hold_118 y1_13 f_acts_13 y2_72 Post u_127.1 u_127.2)))))
noncomputable def p_X8_night_72 (F : Nat) (x_arches : Int32) (x_cats : Int32) (q_rule : Nat) (x_ruleSize : Int32) (x_undoMany : Int32) (f_rule : Nat → Int32) (f_undos : Nat → Int32) (f_row : Nat → Int64) (u_8 : (Int32 × Int32 × Int32 × Int32 × Int32)) (u_67 : (Nat → Int32)) (y1_13 : Int32) (f_acts_13 : Nat → Int32) (Post : Int32 → (Int32 × Int32 × Int32 × Value × Int32 × Int32 × Int32 × Int32 × Int32 × Int32 × Int32 × (Nat → Int32) × (Nat → Int32) × (Nat → Int32) × (Nat → Int32) × (Nat → Int32) × (Nat → Int32) × (Nat → Int64)) → Prop) (n : Nat) : Int32 → Value → Int32 → Int32 → Int32 → Int32 → Int32 → Int32 → (Nat → Int32) → (Nat → Int32) → (Nat → Int32) → Prop := Nat.rec (motive := fun _ => Int32 → Value → Int32 → Int32 → Int32 → Int32 → Int32 → Int32 → (Nat → Int32) → (Nat → Int32) → (Nat → Int32) → Prop) (fun _ _ _ _ _ _ _ _ _ _ _ => False) (fun _ k72 => fun (y2_72 : Int32) (x_read_72 : Value) (x_length_72 : Int32) (x_top_72 : Int32) (x_at_72 : Int32) (x_wrong_72 : Int32) (x_isAsked_72 : Int32) (x_dropped_72 : Int32) (f_now_72 : Nat → Int32) (f_asked_72 : Nat → Int32) (f_hold_72 : Nat → Int32) => ((y1_13 ≤ y2_72 → (p_X8_night_118 F x_arches x_undoMany f_undos f_row u_8 u_67 y1_13 f_acts_13 y2_72 Post x_read_72 x_length_72 x_top_72 x_at_72 x_wrong_72 x_isAsked_72 x_dropped_72 f_now_72 f_asked_72 f_hold_72)) ∧ (¬ y1_13 ≤ y2_72 → (vp_in ((3 : Int32) * y2_72) 240 ∧ (vp_in (((3 : Int32) * y2_72) + (1 : Int32)) 240 ∧ (vp_in (((3 : Int32) * y2_72) + (2 : Int32)) 240 ∧ (p_X8_act F (f_acts_13 ((3 : Int32) * y2_72).toNatClampNeg) (f_acts_13 (((3 : Int32) * y2_72) + (1 : Int32)).toNatClampNeg) (f_acts_13 (((3 : Int32) * y2_72) + (2 : Int32)).toNatClampNeg) x_arches x_cats x_read_72 x_length_72 x_top_72 x_at_72 x_wrong_72 q_rule x_ruleSize x_isAsked_72 x_dropped_72 f_now_72 f_asked_72 f_rule f_hold_72 (fun (r_106 : Int32) (u_106 : (Value × Int32 × Int32 × Int32 × Int32 × Int32 × Int32 × (Nat → Int32) × (Nat → Int32) × (Nat → Int32))) => ((r_106 = 0 → (p_X8_night_118 F x_arches x_undoMany f_undos f_row u_8 u_67 y1_13 f_acts_13 y2_72 Post u_106.1 u_106.2.1 u_106.2.2.1 u_106.2.2.2.1 u_106.2.2.2.2.1 u_106.2.2.2.2.2.1 u_106.2.2.2.2.2.2.1 u_106.2.2.2.2.2.2.2.1 u_106.2.2.2.2.2.2.2.2.1 u_106.2.2.2.2.2.2.2.2.2)) ∧ (¬ r_106 = 0 → (k72 (y2_72 + (1 : Int32)) u_106.1 u_106.2.1 u_106.2.2.1 u_106.2.2.2.1 u_106.2.2.2.2.1 u_106.2.2.2.2.2.1 u_106.2.2.2.2.2.2.1 u_106.2.2.2.2.2.2.2.1 u_106.2.2.2.2.2.2.2.2.1 u_106.2.2.2.2.2.2.2.2.2))))))))))) n
theorem p_X8_night_72_s (F : Nat) (x_arches : Int32) (x_cats : Int32) (q_rule : Nat) (x_ruleSize : Int32) (x_undoMany : Int32) (f_rule : Nat → Int32) (f_undos : Nat → Int32) (f_row : Nat → Int64) (u_8 : (Int32 × Int32 × Int32 × Int32 × Int32)) (u_67 : (Nat → Int32)) (y1_13 : Int32) (f_acts_13 : Nat → Int32) (Post : Int32 → (Int32 × Int32 × Int32 × Value × Int32 × Int32 × Int32 × Int32 × Int32 × Int32 × Int32 × (Nat → Int32) × (Nat → Int32) × (Nat → Int32) × (Nat → Int32) × (Nat → Int32) × (Nat → Int32) × (Nat → Int64)) → Prop) (n : Nat) (y2_72 : Int32) (x_read_72 : Value) (x_length_72 : Int32) (x_top_72 : Int32) (x_at_72 : Int32) (x_wrong_72 : Int32) (x_isAsked_72 : Int32) (x_dropped_72 : Int32) (f_now_72 : Nat → Int32) (f_asked_72 : Nat → Int32) (f_hold_72 : Nat → Int32) : p_X8_night_72 F x_arches x_cats q_rule x_ruleSize x_undoMany f_rule f_undos f_row u_8 u_67 y1_13 f_acts_13 Post (n + 1) y2_72 x_read_72 x_length_72 x_top_72 x_at_72 x_wrong_72 x_isAsked_72 x_dropped_72 f_now_72 f_asked_72 f_hold_72 = ((y1_13 ≤ y2_72 → (p_X8_night_118 F x_arches x_undoMany f_undos f_row u_8 u_67 y1_13 f_acts_13 y2_72 Post x_read_72 x_length_72 x_top_72 x_at_72 x_wrong_72 x_isAsked_72 x_dropped_72 f_now_72 f_asked_72 f_hold_72)) ∧ (¬ y1_13 ≤ y2_72 → (vp_in ((3 : Int32) * y2_72) 240 ∧ (vp_in (((3 : Int32) * y2_72) + (1 : Int32)) 240 ∧ (vp_in (((3 : Int32) * y2_72) + (2 : Int32)) 240 ∧ (p_X8_act F (f_acts_13 ((3 : Int32) * y2_72).toNatClampNeg) (f_acts_13 (((3 : Int32) * y2_72) + (1 : Int32)).toNatClampNeg) (f_acts_13 (((3 : Int32) * y2_72) + (2 : Int32)).toNatClampNeg) x_arches x_cats x_read_72 x_length_72 x_top_72 x_at_72 x_wrong_72 q_rule x_ruleSize x_isAsked_72 x_dropped_72 f_now_72 f_asked_72 f_rule f_hold_72 (fun (r_106 : Int32) (u_106 : (Value × Int32 × Int32 × Int32 × Int32 × Int32 × Int32 × (Nat → Int32) × (Nat → Int32) × (Nat → Int32))) => ((r_106 = 0 → (p_X8_night_118 F x_arches x_undoMany f_undos f_row u_8 u_67 y1_13 f_acts_13 y2_72 Post u_106.1 u_106.2.1 u_106.2.2.1 u_106.2.2.2.1 u_106.2.2.2.2.1 u_106.2.2.2.2.2.1 u_106.2.2.2.2.2.2.1 u_106.2.2.2.2.2.2.2.1 u_106.2.2.2.2.2.2.2.2.1 u_106.2.2.2.2.2.2.2.2.2)) ∧ (¬ r_106 = 0 → ((p_X8_night_72 F x_arches x_cats q_rule x_ruleSize x_undoMany f_rule f_undos f_row u_8 u_67 y1_13 f_acts_13 Post n) (y2_72 + (1 : Int32)) u_106.1 u_106.2.1 u_106.2.2.1 u_106.2.2.2.1 u_106.2.2.2.2.1 u_106.2.2.2.2.2.1 u_106.2.2.2.2.2.2.1 u_106.2.2.2.2.2.2.2.1 u_106.2.2.2.2.2.2.2.2.1 u_106.2.2.2.2.2.2.2.2.2)))))))))) := rfl
def p_X8_night_44 (F : Nat) (x_arches : Int32) (x_cats : Int32) (q_text : Nat) (x_rowMany : Int32) (q_rule : Nat) (x_ruleSize : Int32) (x_isAsked : Int32) (x_undoMany : Int32) (x_dropped : Int32) (f_now : Nat → Int32) (f_aside : Nat → Int32) (f_asked : Nat → Int32) (f_rule : Nat → Int32) (f_hold : Nat → Int32) (f_undos : Nat → Int32) (f_row : Nat → Int64) (u_8 : (Int32 × Int32 × Int32 × Int32 × Int32)) (y1_13 : Int32) (x_at_13 : Int32) (x_wrong_13 : Int32) (f_acts_13 : Nat → Int32) (Post : Int32 → (Int32 × Int32 × Int32 × Value × Int32 × Int32 × Int32 × Int32 × Int32 × Int32 × Int32 × (Nat → Int32) × (Nat → Int32) × (Nat → Int32) × (Nat → Int32) × (Nat → Int32) × (Nat → Int32) × (Nat → Int64)) → Prop) : Prop := (p_X8_wasRight F u_8.2.1 x_at_13 x_wrong_13 (fun (r_45 : Int32) (u_45 : Int32) => ((¬ r_45 = 0 → (p_X8_lay F (0 : Int32) 47 f_now 47 f_aside (fun (u_67 : (Nat → Int32)) => (p_X8_night_72 F x_arches x_cats q_rule x_ruleSize x_undoMany f_rule f_undos f_row u_8 u_67 y1_13 f_acts_13 Post F (0 : Int32) (.ref q_text) u_8.2.1 u_8.2.2.1 x_at_13 u_45 x_isAsked x_dropped f_now f_asked f_hold)))) ∧ (r_45 = 0 → (Post ((-1 : Int32) - u_45) (u_8.1, x_rowMany, (0 : Int32), .ref q_text, u_8.2.1, u_8.2.2.1, x_at_13, u_45, x_isAsked, x_undoMany, x_dropped, f_acts_13, f_now, f_aside, f_asked, f_hold, f_undos, f_row))))))
noncomputable def p_X8_night_13 (F : Nat) (x_arches : Int32) (x_cats : Int32) (q_text : Nat) (x_rowMany : Int32) (q_rule : Nat) (x_ruleSize : Int32) (x_isAsked : Int32) (x_undoMany : Int32) (x_dropped : Int32) (f_text : Nat → Int32) (f_now : Nat → Int32) (f_aside : Nat → Int32) (f_asked : Nat → Int32) (f_rule : Nat → Int32) (f_hold : Nat → Int32) (f_undos : Nat → Int32) (f_row : Nat → Int64) (u_8 : (Int32 × Int32 × Int32 × Int32 × Int32)) (Post : Int32 → (Int32 × Int32 × Int32 × Value × Int32 × Int32 × Int32 × Int32 × Int32 × Int32 × Int32 × (Nat → Int32) × (Nat → Int32) × (Nat → Int32) × (Nat → Int32) × (Nat → Int32) × (Nat → Int32) × (Nat → Int64)) → Prop) (n : Nat) : Int32 → Int32 → Int32 → (Nat → Int32) → Prop := Nat.rec (motive := fun _ => Int32 → Int32 → Int32 → (Nat → Int32) → Prop) (fun _ _ _ _ => False) (fun _ k13 => fun (y1_13 : Int32) (x_at_13 : Int32) (x_wrong_13 : Int32) (f_acts_13 : Nat → Int32) => (p_X8_fine F x_wrong_13 (fun (r_14 : Int32) => ((r_14 = 0 → (p_X8_night_44 F x_arches x_cats q_text x_rowMany q_rule x_ruleSize x_isAsked x_undoMany x_dropped f_now f_aside f_asked f_rule f_hold f_undos f_row u_8 y1_13 x_at_13 x_wrong_13 f_acts_13 Post )) ∧ (¬ r_14 = 0 → ((u_8.2.1 ≤ x_at_13 → (p_X8_night_44 F x_arches x_cats q_text x_rowMany q_rule x_ruleSize x_isAsked x_undoMany x_dropped f_now f_aside f_asked f_rule f_hold f_undos f_row u_8 y1_13 x_at_13 x_wrong_13 f_acts_13 Post )) ∧ (¬ u_8.2.1 ≤ x_at_13 → (p_X8_readAct F ((3 : Int32) * y1_13) u_8.2.1 u_8.2.2.1 x_at_13 x_wrong_13 80 f_text f_acts_13 (fun (u_35 : (Int32 × Int32 × (Nat → Int32))) => (k13 (y1_13 + (1 : Int32)) u_35.1 u_35.2.1 u_35.2.2)))))))))) n
theorem p_X8_night_13_s (F : Nat) (x_arches : Int32) (x_cats : Int32) (q_text : Nat) (x_rowMany : Int32) (q_rule : Nat) (x_ruleSize : Int32) (x_isAsked : Int32) (x_undoMany : Int32) (x_dropped : Int32) (f_text : Nat → Int32) (f_now : Nat → Int32) (f_aside : Nat → Int32) (f_asked : Nat → Int32) (f_rule : Nat → Int32) (f_hold : Nat → Int32) (f_undos : Nat → Int32) (f_row : Nat → Int64) (u_8 : (Int32 × Int32 × Int32 × Int32 × Int32)) (Post : Int32 → (Int32 × Int32 × Int32 × Value × Int32 × Int32 × Int32 × Int32 × Int32 × Int32 × Int32 × (Nat → Int32) × (Nat → Int32) × (Nat → Int32) × (Nat → Int32) × (Nat → Int32) × (Nat → Int32) × (Nat → Int64)) → Prop) (n : Nat) (y1_13 : Int32) (x_at_13 : Int32) (x_wrong_13 : Int32) (f_acts_13 : Nat → Int32) : p_X8_night_13 F x_arches x_cats q_text x_rowMany q_rule x_ruleSize x_isAsked x_undoMany x_dropped f_text f_now f_aside f_asked f_rule f_hold f_undos f_row u_8 Post (n + 1) y1_13 x_at_13 x_wrong_13 f_acts_13 = (p_X8_fine F x_wrong_13 (fun (r_14 : Int32) => ((r_14 = 0 → (p_X8_night_44 F x_arches x_cats q_text x_rowMany q_rule x_ruleSize x_isAsked x_undoMany x_dropped f_now f_aside f_asked f_rule f_hold f_undos f_row u_8 y1_13 x_at_13 x_wrong_13 f_acts_13 Post )) ∧ (¬ r_14 = 0 → ((u_8.2.1 ≤ x_at_13 → (p_X8_night_44 F x_arches x_cats q_text x_rowMany q_rule x_ruleSize x_isAsked x_undoMany x_dropped f_now f_aside f_asked f_rule f_hold f_undos f_row u_8 y1_13 x_at_13 x_wrong_13 f_acts_13 Post )) ∧ (¬ u_8.2.1 ≤ x_at_13 → (p_X8_readAct F ((3 : Int32) * y1_13) u_8.2.1 u_8.2.2.1 x_at_13 x_wrong_13 80 f_text f_acts_13 (fun (u_35 : (Int32 × Int32 × (Nat → Int32))) => ((p_X8_night_13 F x_arches x_cats q_text x_rowMany q_rule x_ruleSize x_isAsked x_undoMany x_dropped f_text f_now f_aside f_asked f_rule f_hold f_undos f_row u_8 Post n) (y1_13 + (1 : Int32)) u_35.1 u_35.2.1 u_35.2.2))))))))) := rfl
def p_X8_night (F : Nat) (x_arches : Int32) (x_cats : Int32) (q_text : Nat) (x_typed : Int32) (x_rowMany : Int32) (q_rule : Nat) (x_ruleSize : Int32) (x_isAsked : Int32) (x_undoMany : Int32) (x_dropped : Int32) (f_text : Nat → Int32) (f_acts : Nat → Int32) (f_now : Nat → Int32) (f_aside : Nat → Int32) (f_asked : Nat → Int32) (f_rule : Nat → Int32) (f_hold : Nat → Int32) (f_undos : Nat → Int32) (f_row : Nat → Int64) (Post : Int32 → (Int32 × Int32 × Int32 × Value × Int32 × Int32 × Int32 × Int32 × Int32 × Int32 × Int32 × (Nat → Int32) × (Nat → Int32) × (Nat → Int32) × (Nat → Int32) × (Nat → Int32) × (Nat → Int32) × (Nat → Int64)) → Prop) : Prop := (p_X8_beginText F (60 : Int32) x_typed (fun (u_8 : (Int32 × Int32 × Int32 × Int32 × Int32)) => (p_X8_night_13 F x_arches x_cats q_text x_rowMany q_rule x_ruleSize x_isAsked x_undoMany x_dropped f_text f_now f_aside f_asked f_rule f_hold f_undos f_row u_8 Post F (0 : Int32) u_8.2.2.2.1 u_8.2.2.2.2 f_acts)))
set_option maxHeartbeats 4000000 in
set_option maxRecDepth 100000 in
theorem c_X8_night (l : Launch) (D : va_G) (cT : Nat → ClassId) (F : Nat) (h : Nat) (q_now : Nat) (x_arches : Int32) (x_cats : Int32) (q_text : Nat) (x_typed : Int32) (q_row : Nat) (x_rowMany : Int32) (x_thrown : Int32) (w_read : Value) (x_length : Int32) (x_top : Int32) (x_at : Int32) (x_wrong : Int32) (w_told : Value) (q_rule : Nat) (w_otherRule : Value) (x_ruleSize : Int32) (x_isAsked : Int32) (q_asked : Nat) (q_undos : Nat) (x_undoMany : Int32) (q_aside : Nat) (w_then : Value) (q_hold : Nat) (x_dropped : Int32) (q_acts : Nat) (w_guarded : Value) (w_train : Value) (x_trolleyEnd : Int32) (w_feltOf : Value) (w_feltBy : Value) (x_feltMany : Int32) (w_many : Value) (w_heardOf : Value) (w_heardBy : Value) (x_heardMany : Int32) (w_worth : Value) (x_drawn : Int32) (x_came : Int32) (w_kept : Value) (w_isKept : Value) (w_keptCame : Value) (f_text : Nat → Int32) (f_acts : Nat → Int32) (f_now : Nat → Int32) (f_aside : Nat → Int32) (f_asked : Nat → Int32) (f_rule : Nat → Int32) (f_hold : Nat → Int32) (f_undos : Nat → Int32) (f_row : Nat → Int64) (Post : Int32 → (Int32 × Int32 × Int32 × Value × Int32 × Int32 × Int32 × Int32 × Int32 × Int32 × Int32 × (Nat → Int32) × (Nat → Int32) × (Nat → Int32) × (Nat → Int32) × (Nat → Int32) × (Nat → Int32) × (Nat → Int64)) → Prop) (hg : p_X8_night F x_arches x_cats q_text x_typed x_rowMany q_rule x_ruleSize x_isAsked x_undoMany x_dropped f_text f_acts f_now f_aside f_asked f_rule f_hold f_undos f_row Post) : MWi l D cT yX8_night cX8_night 3 (some .int) 328 10242 0 0 [.ref h] [(h, oX8 (.ref q_now) (.int x_arches) (.int x_cats) (.ref q_text) (.int x_typed) (.ref q_row) (.int x_rowMany) (.int x_thrown) w_read (.int x_length) (.int x_top) (.int x_at) (.int x_wrong) w_told (.ref q_rule) w_otherRule (.int x_ruleSize) (.int x_isAsked) (.ref q_asked) (.ref q_undos) (.int x_undoMany) (.ref q_aside) w_then (.ref q_hold) (.int x_dropped) (.ref q_acts) w_guarded w_train (.int x_trolleyEnd) w_feltOf w_feltBy (.int x_feltMany) w_many w_heardOf w_heardBy (.int x_heardMany) w_worth (.int x_drawn) (.int x_came) w_kept w_isKept w_keptCame), (q_text, aB cT 80 f_text), (q_acts, aI cT 240 f_acts), (q_now, aI cT 47 f_now), (q_aside, aI cT 47 f_aside), (q_asked, aI cT 7 f_asked), (q_rule, aB cT 40 f_rule), (q_hold, aI cT 6 f_hold), (q_undos, aI cT 564 f_undos), (q_row, aJ cT 16 f_row)] Post (fun (u : (Int32 × Int32 × Int32 × Value × Int32 × Int32 × Int32 × Int32 × Int32 × Int32 × Int32 × (Nat → Int32) × (Nat → Int32) × (Nat → Int32) × (Nat → Int32) × (Nat → Int32) × (Nat → Int32) × (Nat → Int64))) => [(h, oX8 (.ref q_now) (.int x_arches) (.int x_cats) (.ref q_text) (.int u.1) (.ref q_row) (.int u.2.1) (.int u.2.2.1) u.2.2.2.1 (.int u.2.2.2.2.1) (.int u.2.2.2.2.2.1) (.int u.2.2.2.2.2.2.1) (.int u.2.2.2.2.2.2.2.1) w_told (.ref q_rule) w_otherRule (.int x_ruleSize) (.int u.2.2.2.2.2.2.2.2.1) (.ref q_asked) (.ref q_undos) (.int u.2.2.2.2.2.2.2.2.2.1) (.ref q_aside) w_then (.ref q_hold) (.int u.2.2.2.2.2.2.2.2.2.2.1) (.ref q_acts) w_guarded w_train (.int x_trolleyEnd) w_feltOf w_feltBy (.int x_feltMany) w_many w_heardOf w_heardBy (.int x_heardMany) w_worth (.int x_drawn) (.int x_came) w_kept w_isKept w_keptCame), (q_text, aB cT 80 f_text), (q_acts, aI cT 240 u.2.2.2.2.2.2.2.2.2.2.2.1), (q_now, aI cT 47 u.2.2.2.2.2.2.2.2.2.2.2.2.1), (q_aside, aI cT 47 u.2.2.2.2.2.2.2.2.2.2.2.2.2.1), (q_asked, aI cT 7 u.2.2.2.2.2.2.2.2.2.2.2.2.2.2.1), (q_rule, aB cT 40 f_rule), (q_hold, aI cT 6 u.2.2.2.2.2.2.2.2.2.2.2.2.2.2.2.1), (q_undos, aI cT 564 u.2.2.2.2.2.2.2.2.2.2.2.2.2.2.2.2.1), (q_row, aJ cT 16 u.2.2.2.2.2.2.2.2.2.2.2.2.2.2.2.2.2)]) := by
  refine MWi.of (by decide) (Nat.le_of_ble_eq_true rfl) ?_
  intro p e s m below meth c A hA C0 hnm hr hP hD ls hl
  have hl : lv_has ls 3 [(0, .ref h)] := hl
  have hx := C0.x
  have hb := C0.b
  have hS : va_S A s.heap s.heap [] := va_S.rf
  have hP : va_P D cls9 [(h, oX8 (.ref q_now) (.int x_arches) (.int x_cats) (.ref q_text) (.int x_typed) (.ref q_row) (.int x_rowMany) (.int x_thrown) w_read (.int x_length) (.int x_top) (.int x_at) (.int x_wrong) w_told (.ref q_rule) w_otherRule (.int x_ruleSize) (.int x_isAsked) (.ref q_asked) (.ref q_undos) (.int x_undoMany) (.ref q_aside) w_then (.ref q_hold) (.int x_dropped) (.ref q_acts) w_guarded w_train (.int x_trolleyEnd) w_feltOf w_feltBy (.int x_feltMany) w_many w_heardOf w_heardBy (.int x_heardMany) w_worth (.int x_drawn) (.int x_came) w_kept w_isKept w_keptCame), (q_text, aB cT 80 f_text), (q_acts, aI cT 240 f_acts), (q_now, aI cT 47 f_now), (q_aside, aI cT 47 f_aside), (q_asked, aI cT 7 f_asked), (q_rule, aB cT 40 f_rule), (q_hold, aI cT 6 f_hold), (q_undos, aI cT 564 f_undos), (q_row, aJ cT 16 f_row)] s.heap := hP
  have hD : va_D A [(h, oX8 (.ref q_now) (.int x_arches) (.int x_cats) (.ref q_text) (.int x_typed) (.ref q_row) (.int x_rowMany) (.int x_thrown) w_read (.int x_length) (.int x_top) (.int x_at) (.int x_wrong) w_told (.ref q_rule) w_otherRule (.int x_ruleSize) (.int x_isAsked) (.ref q_asked) (.ref q_undos) (.int x_undoMany) (.ref q_aside) w_then (.ref q_hold) (.int x_dropped) (.ref q_acts) w_guarded w_train (.int x_trolleyEnd) w_feltOf w_feltBy (.int x_feltMany) w_many w_heardOf w_heardBy (.int x_heardMany) w_worth (.int x_drawn) (.int x_came) w_kept w_isKept w_keptCame), (q_text, aB cT 80 f_text), (q_acts, aI cT 240 f_acts), (q_now, aI cT 47 f_now), (q_aside, aI cT 47 f_aside), (q_asked, aI cT 7 f_asked), (q_rule, aB cT 40 f_rule), (q_hold, aI cT 6 f_hold), (q_undos, aI cT 564 f_undos), (q_row, aJ cT 16 f_row)] := hD
  have L146 : ∀ (u_8 : (Int32 × Int32 × Int32 × Int32 × Int32)) (u_67 : (Nat → Int32)) (x_read_118 : Value) (x_length_118 : Int32) (x_top_118 : Int32) (x_at_118 : Int32) (x_wrong_118 : Int32) (x_isAsked_118 : Int32) (x_dropped_118 : Int32) (f_now_118 : Nat → Int32) (f_asked_118 : Nat → Int32) (f_hold_118 : Nat → Int32) (x_undoMany_130 : Int32) (f_undos_130 : Nat → Int32) (f_acts_13 : Nat → Int32) (y2_72 : Int32) (s1_146 : Int64) (H : Heap) (locs : List Loc) (ls : Array Slot), p_X8_night_146 F x_arches f_row u_8 u_67 x_read_118 x_length_118 x_top_118 x_at_118 x_wrong_118 x_isAsked_118 x_dropped_118 f_now_118 f_asked_118 f_hold_118 x_undoMany_130 f_undos_130 f_acts_13 y2_72 Post s1_146 → va_P D cls9 [(h, oX8 (.ref q_now) (.int x_arches) (.int x_cats) (.ref q_text) (.int u_8.1) (.ref q_row) (.int (0 : Int32)) (.int (0 : Int32)) x_read_118 (.int x_length_118) (.int x_top_118) (.int x_at_118) (.int x_wrong_118) w_told (.ref q_rule) w_otherRule (.int x_ruleSize) (.int x_isAsked_118) (.ref q_asked) (.ref q_undos) (.int x_undoMany_130) (.ref q_aside) w_then (.ref q_hold) (.int x_dropped_118) (.ref q_acts) w_guarded w_train (.int x_trolleyEnd) w_feltOf w_feltBy (.int x_feltMany) w_many w_heardOf w_heardBy (.int x_heardMany) w_worth (.int x_drawn) (.int x_came) w_kept w_isKept w_keptCame), (q_text, aB cT 80 f_text), (q_acts, aI cT 240 f_acts_13), (q_now, aI cT 47 f_now_118), (q_aside, aI cT 47 u_67), (q_asked, aI cT 7 f_asked_118), (q_rule, aB cT 40 f_rule), (q_hold, aI cT 6 f_hold_118), (q_undos, aI cT 564 f_undos_130), (q_row, aJ cT 16 f_row)] H → va_D A [(h, oX8 (.ref q_now) (.int x_arches) (.int x_cats) (.ref q_text) (.int u_8.1) (.ref q_row) (.int (0 : Int32)) (.int (0 : Int32)) x_read_118 (.int x_length_118) (.int x_top_118) (.int x_at_118) (.int x_wrong_118) w_told (.ref q_rule) w_otherRule (.int x_ruleSize) (.int x_isAsked_118) (.ref q_asked) (.ref q_undos) (.int x_undoMany_130) (.ref q_aside) w_then (.ref q_hold) (.int x_dropped_118) (.ref q_acts) w_guarded w_train (.int x_trolleyEnd) w_feltOf w_feltBy (.int x_feltMany) w_many w_heardOf w_heardBy (.int x_heardMany) w_worth (.int x_drawn) (.int x_came) w_kept w_isKept w_keptCame), (q_text, aB cT 80 f_text), (q_acts, aI cT 240 f_acts_13), (q_now, aI cT 47 f_now_118), (q_aside, aI cT 47 u_67), (q_asked, aI cT 7 f_asked_118), (q_rule, aB cT 40 f_rule), (q_hold, aI cT 6 f_hold_118), (q_undos, aI cT 564 f_undos_130), (q_row, aJ cT 16 f_row)] → va_S A s.heap H locs → lv_has ls 3 [(0, .ref h), (2, .int y2_72)] → W p l e (rmO 328 10242 0 0) s m ([.ref h] : List Value).toArray below meth c H locs 0 0 (MQ below (va_Qi Post (cB D A (fun (u : (Int32 × Int32 × Int32 × Value × Int32 × Int32 × Int32 × Int32 × Int32 × Int32 × Int32 × (Nat → Int32) × (Nat → Int32) × (Nat → Int32) × (Nat → Int32) × (Nat → Int32) × (Nat → Int32) × (Nat → Int64))) => [(h, oX8 (.ref q_now) (.int x_arches) (.int x_cats) (.ref q_text) (.int u.1) (.ref q_row) (.int u.2.1) (.int u.2.2.1) u.2.2.2.1 (.int u.2.2.2.2.1) (.int u.2.2.2.2.2.1) (.int u.2.2.2.2.2.2.1) (.int u.2.2.2.2.2.2.2.1) w_told (.ref q_rule) w_otherRule (.int x_ruleSize) (.int u.2.2.2.2.2.2.2.2.1) (.ref q_asked) (.ref q_undos) (.int u.2.2.2.2.2.2.2.2.2.1) (.ref q_aside) w_then (.ref q_hold) (.int u.2.2.2.2.2.2.2.2.2.2.1) (.ref q_acts) w_guarded w_train (.int x_trolleyEnd) w_feltOf w_feltBy (.int x_feltMany) w_many w_heardOf w_heardBy (.int x_heardMany) w_worth (.int x_drawn) (.int x_came) w_kept w_isKept w_keptCame), (q_text, aB cT 80 f_text), (q_acts, aI cT 240 u.2.2.2.2.2.2.2.2.2.2.2.1), (q_now, aI cT 47 u.2.2.2.2.2.2.2.2.2.2.2.2.1), (q_aside, aI cT 47 u.2.2.2.2.2.2.2.2.2.2.2.2.2.1), (q_asked, aI cT 7 u.2.2.2.2.2.2.2.2.2.2.2.2.2.2.1), (q_rule, aB cT 40 f_rule), (q_hold, aI cT 6 u.2.2.2.2.2.2.2.2.2.2.2.2.2.2.2.1), (q_undos, aI cT 564 u.2.2.2.2.2.2.2.2.2.2.2.2.2.2.2.2.1), (q_row, aJ cT 16 u.2.2.2.2.2.2.2.2.2.2.2.2.2.2.2.2.2)])) A) ([.ref h] : List Value).toArray s 0 0 A) (F0 m 146 ls [.long s1_146, .ref h]) := by
    intro u_8 u_67 x_read_118 x_length_118 x_top_118 x_at_118 x_wrong_118 x_isAsked_118 x_dropped_118 f_now_118 f_asked_118 f_hold_118 x_undoMany_130 f_undos_130 f_acts_13 y2_72 s1_146 H locs ls hg hP hD hS hl
    unfold p_X8_night_146 at hg
    refine k_Vv (rest := []) (wr := [(q_text, aB cT 80 f_text), (q_acts, aI cT 240 f_acts_13), (q_now, aI cT 47 f_now_118), (q_aside, aI cT 47 u_67), (q_asked, aI cT 7 f_asked_118), (q_rule, aB cT 40 f_rule), (q_hold, aI cT 6 f_hold_118), (q_undos, aI cT 564 f_undos_130)]) (w2 := fun u_146 => [(q_text, aB cT 80 f_text), (q_acts, aI cT 240 f_acts_13), (q_now, aI cT 47 f_now_118), (q_aside, aI cT 47 u_67), (q_asked, aI cT 7 f_asked_118), (q_rule, aB cT 40 f_rule), (q_hold, aI cT 6 f_hold_118), (q_undos, aI cT 564 f_undos_130), (h, oX8 (.ref q_now) (.int x_arches) (.int x_cats) (.ref q_text) (.int u_8.1) (.ref q_row) (.int u_146.1) (.int (0 : Int32)) x_read_118 (.int x_length_118) (.int x_top_118) (.int x_at_118) (.int x_wrong_118) w_told (.ref q_rule) w_otherRule (.int x_ruleSize) (.int x_isAsked_118) (.ref q_asked) (.ref q_undos) (.int x_undoMany_130) (.ref q_aside) w_then (.ref q_hold) (.int x_dropped_118) (.ref q_acts) w_guarded w_train (.int x_trolleyEnd) w_feltOf w_feltBy (.int x_feltMany) w_many w_heardOf w_heardBy (.int x_heardMany) w_worth (.int x_drawn) (.int x_came) w_kept w_isKept w_keptCame), (q_row, aJ cT 16 u_146.2)]) C0 lk_X8_249 (c_X8_tell l D cT F h s1_146 (.ref q_now) x_arches x_cats (.ref q_text) u_8.1 q_row (0 : Int32) (0 : Int32) x_read_118 x_length_118 x_top_118 x_at_118 x_wrong_118 w_told (.ref q_rule) w_otherRule x_ruleSize x_isAsked_118 (.ref q_asked) (.ref q_undos) x_undoMany_130 (.ref q_aside) w_then (.ref q_hold) x_dropped_118 (.ref q_acts) w_guarded w_train x_trolleyEnd w_feltOf w_feltBy x_feltMany w_many w_heardOf w_heardBy x_heardMany w_worth x_drawn x_came w_kept w_isKept w_keptCame f_row _ hg) hP hD hS hA [0, 9] [1, 2, 3, 4, 5, 6, 7, 8] (by decide +kernel) rfl rfl (fun _ => rfl) rfl rfl ⟨Nat.le_of_ble_eq_true rfl, Nat.le_of_ble_eq_true rfl⟩ rfl hl.1 rfl (Nat.le_of_ble_eq_true rfl) dX8_night_146 ⟨Nat.le_of_ble_eq_true rfl, Nat.le_of_ble_eq_true rfl⟩ ?_
    intro u_146 H locs hg hP hD hS
    refine lv_aload_n hx hb dX8_night_149 rfl (lv_at hl 0 rfl) ?_
    refine lv_aload_n hx hb dX8_night_150 rfl (lv_at hl 0 rfl) ?_
    refine lv_aload_n hx hb dX8_night_151 rfl (lv_at hl 0 rfl) ?_
    refine gf_X8_9 C0 hP 8 rfl rfl dX8_night_152 ?_
    refine k_Vxi (rest := [.ref h]) C0 lk_X8_253 (c_X8_sags l D cT F h q_now (.ref q_now) x_arches x_cats (.ref q_text) u_8.1 (.ref q_row) u_146.1 (0 : Int32) x_read_118 x_length_118 x_top_118 x_at_118 x_wrong_118 w_told (.ref q_rule) w_otherRule x_ruleSize x_isAsked_118 (.ref q_asked) (.ref q_undos) x_undoMany_130 (.ref q_aside) w_then (.ref q_hold) x_dropped_118 (.ref q_acts) w_guarded w_train x_trolleyEnd w_feltOf w_feltBy x_feltMany w_many w_heardOf w_heardBy x_heardMany w_worth x_drawn x_came w_kept w_isKept w_keptCame 47 f_now_118 _ hg) hP hD hS hA [8, 2] (by decide +kernel) rfl rfl rfl ⟨Nat.le_of_ble_eq_true rfl, Nat.le_of_ble_eq_true rfl⟩ rfl hl.1 rfl (Nat.le_of_ble_eq_true rfl) dX8_night_155 ⟨Nat.le_of_ble_eq_true rfl, Nat.le_of_ble_eq_true rfl⟩ (fun r_155 hg => ?_)
    refine lv_i2l (v := (r_155.toInt64)) hx hb dX8_night_158 rfl ?_
    refine k_Vv (rest := []) (wr := [(q_text, aB cT 80 f_text), (q_acts, aI cT 240 f_acts_13), (q_now, aI cT 47 f_now_118), (q_aside, aI cT 47 u_67), (q_asked, aI cT 7 f_asked_118), (q_rule, aB cT 40 f_rule), (q_hold, aI cT 6 f_hold_118), (q_undos, aI cT 564 f_undos_130)]) (w2 := fun u_159 => [(q_text, aB cT 80 f_text), (q_acts, aI cT 240 f_acts_13), (q_now, aI cT 47 f_now_118), (q_aside, aI cT 47 u_67), (q_asked, aI cT 7 f_asked_118), (q_rule, aB cT 40 f_rule), (q_hold, aI cT 6 f_hold_118), (q_undos, aI cT 564 f_undos_130), (h, oX8 (.ref q_now) (.int x_arches) (.int x_cats) (.ref q_text) (.int u_8.1) (.ref q_row) (.int u_159.1) (.int (0 : Int32)) x_read_118 (.int x_length_118) (.int x_top_118) (.int x_at_118) (.int x_wrong_118) w_told (.ref q_rule) w_otherRule (.int x_ruleSize) (.int x_isAsked_118) (.ref q_asked) (.ref q_undos) (.int x_undoMany_130) (.ref q_aside) w_then (.ref q_hold) (.int x_dropped_118) (.ref q_acts) w_guarded w_train (.int x_trolleyEnd) w_feltOf w_feltBy (.int x_feltMany) w_many w_heardOf w_heardBy (.int x_heardMany) w_worth (.int x_drawn) (.int x_came) w_kept w_isKept w_keptCame), (q_row, aJ cT 16 u_159.2)]) C0 lk_X8_249 (c_X8_tell l D cT F h (r_155.toInt64) (.ref q_now) x_arches x_cats (.ref q_text) u_8.1 q_row u_146.1 (0 : Int32) x_read_118 x_length_118 x_top_118 x_at_118 x_wrong_118 w_told (.ref q_rule) w_otherRule x_ruleSize x_isAsked_118 (.ref q_asked) (.ref q_undos) x_undoMany_130 (.ref q_aside) w_then (.ref q_hold) x_dropped_118 (.ref q_acts) w_guarded w_train x_trolleyEnd w_feltOf w_feltBy x_feltMany w_many w_heardOf w_heardBy x_heardMany w_worth x_drawn x_came w_kept w_isKept w_keptCame u_146.2 _ hg) hP hD hS hA [8, 9] [0, 1, 2, 3, 4, 5, 6, 7] (by decide +kernel) rfl rfl (fun _ => rfl) rfl rfl ⟨Nat.le_of_ble_eq_true rfl, Nat.le_of_ble_eq_true rfl⟩ rfl hl.1 rfl (Nat.le_of_ble_eq_true rfl) dX8_night_159 ⟨Nat.le_of_ble_eq_true rfl, Nat.le_of_ble_eq_true rfl⟩ ?_
    intro u_159 H locs hg hP hD hS
    refine lv_iload_n hx hb dX8_night_162 rfl (lv_at hl 1 rfl) ?_
    exact k_iret C0 hr (u_8.1, u_159.1, (0 : Int32), x_read_118, x_length_118, x_top_118, x_at_118, x_wrong_118, x_isAsked_118, x_undoMany_130, x_dropped_118, f_acts_13, f_now_118, u_67, f_asked_118, f_hold_118, f_undos_130, u_159.2) hg (subP hP [8, 0, 1, 2, 3, 4, 5, 6, 7, 9] rfl) (hD.sub [8, 0, 1, 2, 3, 4, 5, 6, 7, 9] (nd2_ok _ (by decide +kernel)) rfl) hS dX8_night_163
  have L130 : ∀ (u_8 : (Int32 × Int32 × Int32 × Int32 × Int32)) (u_67 : (Nat → Int32)) (x_read_118 : Value) (x_length_118 : Int32) (x_top_118 : Int32) (x_at_118 : Int32) (x_wrong_118 : Int32) (x_isAsked_118 : Int32) (x_dropped_118 : Int32) (f_now_118 : Nat → Int32) (f_asked_118 : Nat → Int32) (f_hold_118 : Nat → Int32) (y1_13 : Int32) (f_acts_13 : Nat → Int32) (y2_72 : Int32) (x_undoMany_130 : Int32) (f_undos_130 : Nat → Int32) (H : Heap) (locs : List Loc) (ls : Array Slot), p_X8_night_130 F x_arches f_row u_8 u_67 x_read_118 x_length_118 x_top_118 x_at_118 x_wrong_118 x_isAsked_118 x_dropped_118 f_now_118 f_asked_118 f_hold_118 y1_13 f_acts_13 y2_72 Post x_undoMany_130 f_undos_130 → va_P D cls9 [(h, oX8 (.ref q_now) (.int x_arches) (.int x_cats) (.ref q_text) (.int u_8.1) (.ref q_row) (.int x_rowMany) (.int (0 : Int32)) x_read_118 (.int x_length_118) (.int x_top_118) (.int x_at_118) (.int x_wrong_118) w_told (.ref q_rule) w_otherRule (.int x_ruleSize) (.int x_isAsked_118) (.ref q_asked) (.ref q_undos) (.int x_undoMany_130) (.ref q_aside) w_then (.ref q_hold) (.int x_dropped_118) (.ref q_acts) w_guarded w_train (.int x_trolleyEnd) w_feltOf w_feltBy (.int x_feltMany) w_many w_heardOf w_heardBy (.int x_heardMany) w_worth (.int x_drawn) (.int x_came) w_kept w_isKept w_keptCame), (q_text, aB cT 80 f_text), (q_acts, aI cT 240 f_acts_13), (q_now, aI cT 47 f_now_118), (q_aside, aI cT 47 u_67), (q_asked, aI cT 7 f_asked_118), (q_rule, aB cT 40 f_rule), (q_hold, aI cT 6 f_hold_118), (q_undos, aI cT 564 f_undos_130), (q_row, aJ cT 16 f_row)] H → va_D A [(h, oX8 (.ref q_now) (.int x_arches) (.int x_cats) (.ref q_text) (.int u_8.1) (.ref q_row) (.int x_rowMany) (.int (0 : Int32)) x_read_118 (.int x_length_118) (.int x_top_118) (.int x_at_118) (.int x_wrong_118) w_told (.ref q_rule) w_otherRule (.int x_ruleSize) (.int x_isAsked_118) (.ref q_asked) (.ref q_undos) (.int x_undoMany_130) (.ref q_aside) w_then (.ref q_hold) (.int x_dropped_118) (.ref q_acts) w_guarded w_train (.int x_trolleyEnd) w_feltOf w_feltBy (.int x_feltMany) w_many w_heardOf w_heardBy (.int x_heardMany) w_worth (.int x_drawn) (.int x_came) w_kept w_isKept w_keptCame), (q_text, aB cT 80 f_text), (q_acts, aI cT 240 f_acts_13), (q_now, aI cT 47 f_now_118), (q_aside, aI cT 47 u_67), (q_asked, aI cT 7 f_asked_118), (q_rule, aB cT 40 f_rule), (q_hold, aI cT 6 f_hold_118), (q_undos, aI cT 564 f_undos_130), (q_row, aJ cT 16 f_row)] → va_S A s.heap H locs → lv_has ls 3 [(0, .ref h), (1, .int y1_13), (2, .int y2_72)] → W p l e (rmO 328 10242 0 0) s m ([.ref h] : List Value).toArray below meth c H locs 0 0 (MQ below (va_Qi Post (cB D A (fun (u : (Int32 × Int32 × Int32 × Value × Int32 × Int32 × Int32 × Int32 × Int32 × Int32 × Int32 × (Nat → Int32) × (Nat → Int32) × (Nat → Int32) × (Nat → Int32) × (Nat → Int32) × (Nat → Int32) × (Nat → Int64))) => [(h, oX8 (.ref q_now) (.int x_arches) (.int x_cats) (.ref q_text) (.int u.1) (.ref q_row) (.int u.2.1) (.int u.2.2.1) u.2.2.2.1 (.int u.2.2.2.2.1) (.int u.2.2.2.2.2.1) (.int u.2.2.2.2.2.2.1) (.int u.2.2.2.2.2.2.2.1) w_told (.ref q_rule) w_otherRule (.int x_ruleSize) (.int u.2.2.2.2.2.2.2.2.1) (.ref q_asked) (.ref q_undos) (.int u.2.2.2.2.2.2.2.2.2.1) (.ref q_aside) w_then (.ref q_hold) (.int u.2.2.2.2.2.2.2.2.2.2.1) (.ref q_acts) w_guarded w_train (.int x_trolleyEnd) w_feltOf w_feltBy (.int x_feltMany) w_many w_heardOf w_heardBy (.int x_heardMany) w_worth (.int x_drawn) (.int x_came) w_kept w_isKept w_keptCame), (q_text, aB cT 80 f_text), (q_acts, aI cT 240 u.2.2.2.2.2.2.2.2.2.2.2.1), (q_now, aI cT 47 u.2.2.2.2.2.2.2.2.2.2.2.2.1), (q_aside, aI cT 47 u.2.2.2.2.2.2.2.2.2.2.2.2.2.1), (q_asked, aI cT 7 u.2.2.2.2.2.2.2.2.2.2.2.2.2.2.1), (q_rule, aB cT 40 f_rule), (q_hold, aI cT 6 u.2.2.2.2.2.2.2.2.2.2.2.2.2.2.2.1), (q_undos, aI cT 564 u.2.2.2.2.2.2.2.2.2.2.2.2.2.2.2.2.1), (q_row, aJ cT 16 u.2.2.2.2.2.2.2.2.2.2.2.2.2.2.2.2.2)])) A) ([.ref h] : List Value).toArray s 0 0 A) (F0 m 130 ls []) := by
    intro u_8 u_67 x_read_118 x_length_118 x_top_118 x_at_118 x_wrong_118 x_isAsked_118 x_dropped_118 f_now_118 f_asked_118 f_hold_118 y1_13 f_acts_13 y2_72 x_undoMany_130 f_undos_130 H locs ls hg hP hD hS hl
    unfold p_X8_night_130 at hg
    refine lv_aload_n hx hb dX8_night_130 rfl (lv_at hl 0 rfl) ?_
    refine lv_iconst (v := (0 : Int32)) hx hb dX8_night_131 (by decide) ?_
    refine pf_X8_86 C0 hP hD hS 0 rfl (Nat.le_of_ble_eq_true rfl) (ws2 := [(h, oX8 (.ref q_now) (.int x_arches) (.int x_cats) (.ref q_text) (.int u_8.1) (.ref q_row) (.int (0 : Int32)) (.int (0 : Int32)) x_read_118 (.int x_length_118) (.int x_top_118) (.int x_at_118) (.int x_wrong_118) w_told (.ref q_rule) w_otherRule (.int x_ruleSize) (.int x_isAsked_118) (.ref q_asked) (.ref q_undos) (.int x_undoMany_130) (.ref q_aside) w_then (.ref q_hold) (.int x_dropped_118) (.ref q_acts) w_guarded w_train (.int x_trolleyEnd) w_feltOf w_feltBy (.int x_feltMany) w_many w_heardOf w_heardBy (.int x_heardMany) w_worth (.int x_drawn) (.int x_came) w_kept w_isKept w_keptCame), (q_text, aB cT 80 f_text), (q_acts, aI cT 240 f_acts_13), (q_now, aI cT 47 f_now_118), (q_aside, aI cT 47 u_67), (q_asked, aI cT 7 f_asked_118), (q_rule, aB cT 40 f_rule), (q_hold, aI cT 6 f_hold_118), (q_undos, aI cT 564 f_undos_130), (q_row, aJ cT 16 f_row)]) rfl dX8_night_132 (fun H locs hP hD hS => ?_)
    refine lv_aload_n hx hb dX8_night_135 rfl (lv_at hl 0 rfl) ?_
    refine lv_iload_n hx hb dX8_night_136 rfl (lv_at hl 2 rfl) ?_
    refine lv_iload_n hx hb dX8_night_137 rfl (lv_at hl 1 rfl) ?_
    refine lv_icmp_ge (tgt := 145) hx hb dX8_night_138 (by decide) (fun c_138 => ?_) (fun c_138 => ?_)
    · have hg := hg.1 c_138
      refine lv_lconst (v := (0 : Int64)) hx hb dX8_night_145 (by decide) ?_
      exact L146 u_8 u_67 x_read_118 x_length_118 x_top_118 x_at_118 x_wrong_118 x_isAsked_118 x_dropped_118 f_now_118 f_asked_118 f_hold_118 x_undoMany_130 f_undos_130 f_acts_13 y2_72 (0 : Int64) _ _ _ hg hP hD hS (lv_sub hl [0, 2] rfl)
    have hg := hg.2 c_138
    refine lv_lconst (v := (1 : Int64)) hx hb dX8_night_141 (by decide) ?_
    refine lv_goto (tgt := 146) hx hb dX8_night_142 (by decide) ?_
    exact L146 u_8 u_67 x_read_118 x_length_118 x_top_118 x_at_118 x_wrong_118 x_isAsked_118 x_dropped_118 f_now_118 f_asked_118 f_hold_118 x_undoMany_130 f_undos_130 f_acts_13 y2_72 (1 : Int64) _ _ _ hg hP hD hS (lv_sub hl [0, 2] rfl)
  have L118 : ∀ (u_8 : (Int32 × Int32 × Int32 × Int32 × Int32)) (u_67 : (Nat → Int32)) (y1_13 : Int32) (f_acts_13 : Nat → Int32) (y2_72 : Int32) (x_read_118 : Value) (x_length_118 : Int32) (x_top_118 : Int32) (x_at_118 : Int32) (x_wrong_118 : Int32) (x_isAsked_118 : Int32) (x_dropped_118 : Int32) (f_now_118 : Nat → Int32) (f_asked_118 : Nat → Int32) (f_hold_118 : Nat → Int32) (H : Heap) (locs : List Loc) (ls : Array Slot), p_X8_night_118 F x_arches x_undoMany f_undos f_row u_8 u_67 y1_13 f_acts_13 y2_72 Post x_read_118 x_length_118 x_top_118 x_at_118 x_wrong_118 x_isAsked_118 x_dropped_118 f_now_118 f_asked_118 f_hold_118 → va_P D cls9 [(h, oX8 (.ref q_now) (.int x_arches) (.int x_cats) (.ref q_text) (.int u_8.1) (.ref q_row) (.int x_rowMany) (.int (0 : Int32)) x_read_118 (.int x_length_118) (.int x_top_118) (.int x_at_118) (.int x_wrong_118) w_told (.ref q_rule) w_otherRule (.int x_ruleSize) (.int x_isAsked_118) (.ref q_asked) (.ref q_undos) (.int x_undoMany) (.ref q_aside) w_then (.ref q_hold) (.int x_dropped_118) (.ref q_acts) w_guarded w_train (.int x_trolleyEnd) w_feltOf w_feltBy (.int x_feltMany) w_many w_heardOf w_heardBy (.int x_heardMany) w_worth (.int x_drawn) (.int x_came) w_kept w_isKept w_keptCame), (q_text, aB cT 80 f_text), (q_acts, aI cT 240 f_acts_13), (q_now, aI cT 47 f_now_118), (q_aside, aI cT 47 u_67), (q_asked, aI cT 7 f_asked_118), (q_rule, aB cT 40 f_rule), (q_hold, aI cT 6 f_hold_118), (q_undos, aI cT 564 f_undos), (q_row, aJ cT 16 f_row)] H → va_D A [(h, oX8 (.ref q_now) (.int x_arches) (.int x_cats) (.ref q_text) (.int u_8.1) (.ref q_row) (.int x_rowMany) (.int (0 : Int32)) x_read_118 (.int x_length_118) (.int x_top_118) (.int x_at_118) (.int x_wrong_118) w_told (.ref q_rule) w_otherRule (.int x_ruleSize) (.int x_isAsked_118) (.ref q_asked) (.ref q_undos) (.int x_undoMany) (.ref q_aside) w_then (.ref q_hold) (.int x_dropped_118) (.ref q_acts) w_guarded w_train (.int x_trolleyEnd) w_feltOf w_feltBy (.int x_feltMany) w_many w_heardOf w_heardBy (.int x_heardMany) w_worth (.int x_drawn) (.int x_came) w_kept w_isKept w_keptCame), (q_text, aB cT 80 f_text), (q_acts, aI cT 240 f_acts_13), (q_now, aI cT 47 f_now_118), (q_aside, aI cT 47 u_67), (q_asked, aI cT 7 f_asked_118), (q_rule, aB cT 40 f_rule), (q_hold, aI cT 6 f_hold_118), (q_undos, aI cT 564 f_undos), (q_row, aJ cT 16 f_row)] → va_S A s.heap H locs → lv_has ls 3 [(0, .ref h), (1, .int y1_13), (2, .int y2_72)] → W p l e (rmO 328 10242 0 0) s m ([.ref h] : List Value).toArray below meth c H locs 0 0 (MQ below (va_Qi Post (cB D A (fun (u : (Int32 × Int32 × Int32 × Value × Int32 × Int32 × Int32 × Int32 × Int32 × Int32 × Int32 × (Nat → Int32) × (Nat → Int32) × (Nat → Int32) × (Nat → Int32) × (Nat → Int32) × (Nat → Int32) × (Nat → Int64))) => [(h, oX8 (.ref q_now) (.int x_arches) (.int x_cats) (.ref q_text) (.int u.1) (.ref q_row) (.int u.2.1) (.int u.2.2.1) u.2.2.2.1 (.int u.2.2.2.2.1) (.int u.2.2.2.2.2.1) (.int u.2.2.2.2.2.2.1) (.int u.2.2.2.2.2.2.2.1) w_told (.ref q_rule) w_otherRule (.int x_ruleSize) (.int u.2.2.2.2.2.2.2.2.1) (.ref q_asked) (.ref q_undos) (.int u.2.2.2.2.2.2.2.2.2.1) (.ref q_aside) w_then (.ref q_hold) (.int u.2.2.2.2.2.2.2.2.2.2.1) (.ref q_acts) w_guarded w_train (.int x_trolleyEnd) w_feltOf w_feltBy (.int x_feltMany) w_many w_heardOf w_heardBy (.int x_heardMany) w_worth (.int x_drawn) (.int x_came) w_kept w_isKept w_keptCame), (q_text, aB cT 80 f_text), (q_acts, aI cT 240 u.2.2.2.2.2.2.2.2.2.2.2.1), (q_now, aI cT 47 u.2.2.2.2.2.2.2.2.2.2.2.2.1), (q_aside, aI cT 47 u.2.2.2.2.2.2.2.2.2.2.2.2.2.1), (q_asked, aI cT 7 u.2.2.2.2.2.2.2.2.2.2.2.2.2.2.1), (q_rule, aB cT 40 f_rule), (q_hold, aI cT 6 u.2.2.2.2.2.2.2.2.2.2.2.2.2.2.2.1), (q_undos, aI cT 564 u.2.2.2.2.2.2.2.2.2.2.2.2.2.2.2.2.1), (q_row, aJ cT 16 u.2.2.2.2.2.2.2.2.2.2.2.2.2.2.2.2.2)])) A) ([.ref h] : List Value).toArray s 0 0 A) (F0 m 118 ls []) := by
    intro u_8 u_67 y1_13 f_acts_13 y2_72 x_read_118 x_length_118 x_top_118 x_at_118 x_wrong_118 x_isAsked_118 x_dropped_118 f_now_118 f_asked_118 f_hold_118 H locs ls hg hP hD hS hl
    unfold p_X8_night_118 at hg
    refine lv_iload_n hx hb dX8_night_118 rfl (lv_at hl 2 rfl) ?_
    refine lv_if_le (tgt := 130) hx hb dX8_night_119 (by decide) (fun c_119 => ?_) (fun c_119 => ?_)
    · have hg := hg.1 c_119
      exact L130 u_8 u_67 x_read_118 x_length_118 x_top_118 x_at_118 x_wrong_118 x_isAsked_118 x_dropped_118 f_now_118 f_asked_118 f_hold_118 y1_13 f_acts_13 y2_72 x_undoMany f_undos _ _ _ hg hP hD hS hl
    have hg := hg.2 c_119
    refine lv_aload_n hx hb dX8_night_122 rfl (lv_at hl 0 rfl) ?_
    refine lv_aload_n hx hb dX8_night_123 rfl (lv_at hl 0 rfl) ?_
    refine gf_X8_36 C0 hP 0 rfl rfl dX8_night_124 ?_
    refine k_Vv (rest := []) (wr := [(q_text, aB cT 80 f_text), (q_acts, aI cT 240 f_acts_13), (q_now, aI cT 47 f_now_118), (q_asked, aI cT 7 f_asked_118), (q_rule, aB cT 40 f_rule), (q_hold, aI cT 6 f_hold_118), (q_row, aJ cT 16 f_row)]) (w2 := fun u_127 => [(q_text, aB cT 80 f_text), (q_acts, aI cT 240 f_acts_13), (q_now, aI cT 47 f_now_118), (q_asked, aI cT 7 f_asked_118), (q_rule, aB cT 40 f_rule), (q_hold, aI cT 6 f_hold_118), (q_row, aJ cT 16 f_row), (h, oX8 (.ref q_now) (.int x_arches) (.int x_cats) (.ref q_text) (.int u_8.1) (.ref q_row) (.int x_rowMany) (.int (0 : Int32)) x_read_118 (.int x_length_118) (.int x_top_118) (.int x_at_118) (.int x_wrong_118) w_told (.ref q_rule) w_otherRule (.int x_ruleSize) (.int x_isAsked_118) (.ref q_asked) (.ref q_undos) (.int u_127.1) (.ref q_aside) w_then (.ref q_hold) (.int x_dropped_118) (.ref q_acts) w_guarded w_train (.int x_trolleyEnd) w_feltOf w_feltBy (.int x_feltMany) w_many w_heardOf w_heardBy (.int x_heardMany) w_worth (.int x_drawn) (.int x_came) w_kept w_isKept w_keptCame), (q_undos, aI cT 564 u_127.2), (q_aside, aI cT 47 u_67)]) C0 lk_X8_246 (c_X8_remember l D cT F h q_aside (.ref q_now) x_arches x_cats (.ref q_text) u_8.1 (.ref q_row) x_rowMany (0 : Int32) x_read_118 x_length_118 x_top_118 x_at_118 x_wrong_118 w_told (.ref q_rule) w_otherRule x_ruleSize x_isAsked_118 (.ref q_asked) q_undos x_undoMany (.ref q_aside) w_then (.ref q_hold) x_dropped_118 (.ref q_acts) w_guarded w_train x_trolleyEnd w_feltOf w_feltBy x_feltMany w_many w_heardOf w_heardBy x_heardMany w_worth x_drawn x_came w_kept w_isKept w_keptCame f_undos 47 u_67 _ hg) hP hD hS hA [0, 8, 4] [1, 2, 3, 5, 6, 7, 9] (by decide +kernel) rfl rfl (fun _ => rfl) rfl rfl ⟨Nat.le_of_ble_eq_true rfl, Nat.le_of_ble_eq_true rfl⟩ rfl hl.1 rfl (Nat.le_of_ble_eq_true rfl) dX8_night_127 ⟨Nat.le_of_ble_eq_true rfl, Nat.le_of_ble_eq_true rfl⟩ ?_
    intro u_127 H locs hg hP hD hS
    exact L130 u_8 u_67 x_read_118 x_length_118 x_top_118 x_at_118 x_wrong_118 x_isAsked_118 x_dropped_118 f_now_118 f_asked_118 f_hold_118 y1_13 f_acts_13 y2_72 u_127.1 u_127.2 _ _ _ hg (subP hP [7, 0, 1, 2, 9, 3, 4, 5, 8, 6] rfl) (hD.sub [7, 0, 1, 2, 9, 3, 4, 5, 8, 6] (nd2_ok _ (by decide +kernel)) rfl) hS hl
  have L72 : ∀ (u_8 : (Int32 × Int32 × Int32 × Int32 × Int32)) (u_67 : (Nat → Int32)) (y1_13 : Int32) (f_acts_13 : Nat → Int32) (n72 : Nat) (y2_72 : Int32) (x_read_72 : Value) (x_length_72 : Int32) (x_top_72 : Int32) (x_at_72 : Int32) (x_wrong_72 : Int32) (x_isAsked_72 : Int32) (x_dropped_72 : Int32) (f_now_72 : Nat → Int32) (f_asked_72 : Nat → Int32) (f_hold_72 : Nat → Int32) (H : Heap) (locs : List Loc) (ls : Array Slot), p_X8_night_72 F x_arches x_cats q_rule x_ruleSize x_undoMany f_rule f_undos f_row u_8 u_67 y1_13 f_acts_13 Post n72 y2_72 x_read_72 x_length_72 x_top_72 x_at_72 x_wrong_72 x_isAsked_72 x_dropped_72 f_now_72 f_asked_72 f_hold_72 → va_P D cls9 [(h, oX8 (.ref q_now) (.int x_arches) (.int x_cats) (.ref q_text) (.int u_8.1) (.ref q_row) (.int x_rowMany) (.int (0 : Int32)) x_read_72 (.int x_length_72) (.int x_top_72) (.int x_at_72) (.int x_wrong_72) w_told (.ref q_rule) w_otherRule (.int x_ruleSize) (.int x_isAsked_72) (.ref q_asked) (.ref q_undos) (.int x_undoMany) (.ref q_aside) w_then (.ref q_hold) (.int x_dropped_72) (.ref q_acts) w_guarded w_train (.int x_trolleyEnd) w_feltOf w_feltBy (.int x_feltMany) w_many w_heardOf w_heardBy (.int x_heardMany) w_worth (.int x_drawn) (.int x_came) w_kept w_isKept w_keptCame), (q_text, aB cT 80 f_text), (q_acts, aI cT 240 f_acts_13), (q_now, aI cT 47 f_now_72), (q_aside, aI cT 47 u_67), (q_asked, aI cT 7 f_asked_72), (q_rule, aB cT 40 f_rule), (q_hold, aI cT 6 f_hold_72), (q_undos, aI cT 564 f_undos), (q_row, aJ cT 16 f_row)] H → va_D A [(h, oX8 (.ref q_now) (.int x_arches) (.int x_cats) (.ref q_text) (.int u_8.1) (.ref q_row) (.int x_rowMany) (.int (0 : Int32)) x_read_72 (.int x_length_72) (.int x_top_72) (.int x_at_72) (.int x_wrong_72) w_told (.ref q_rule) w_otherRule (.int x_ruleSize) (.int x_isAsked_72) (.ref q_asked) (.ref q_undos) (.int x_undoMany) (.ref q_aside) w_then (.ref q_hold) (.int x_dropped_72) (.ref q_acts) w_guarded w_train (.int x_trolleyEnd) w_feltOf w_feltBy (.int x_feltMany) w_many w_heardOf w_heardBy (.int x_heardMany) w_worth (.int x_drawn) (.int x_came) w_kept w_isKept w_keptCame), (q_text, aB cT 80 f_text), (q_acts, aI cT 240 f_acts_13), (q_now, aI cT 47 f_now_72), (q_aside, aI cT 47 u_67), (q_asked, aI cT 7 f_asked_72), (q_rule, aB cT 40 f_rule), (q_hold, aI cT 6 f_hold_72), (q_undos, aI cT 564 f_undos), (q_row, aJ cT 16 f_row)] → va_S A s.heap H locs → lv_has ls 3 [(0, .ref h), (1, .int y1_13), (2, .int y2_72)] → W p l e (rmO 328 10242 0 0) s m ([.ref h] : List Value).toArray below meth c H locs 0 0 (MQ below (va_Qi Post (cB D A (fun (u : (Int32 × Int32 × Int32 × Value × Int32 × Int32 × Int32 × Int32 × Int32 × Int32 × Int32 × (Nat → Int32) × (Nat → Int32) × (Nat → Int32) × (Nat → Int32) × (Nat → Int32) × (Nat → Int32) × (Nat → Int64))) => [(h, oX8 (.ref q_now) (.int x_arches) (.int x_cats) (.ref q_text) (.int u.1) (.ref q_row) (.int u.2.1) (.int u.2.2.1) u.2.2.2.1 (.int u.2.2.2.2.1) (.int u.2.2.2.2.2.1) (.int u.2.2.2.2.2.2.1) (.int u.2.2.2.2.2.2.2.1) w_told (.ref q_rule) w_otherRule (.int x_ruleSize) (.int u.2.2.2.2.2.2.2.2.1) (.ref q_asked) (.ref q_undos) (.int u.2.2.2.2.2.2.2.2.2.1) (.ref q_aside) w_then (.ref q_hold) (.int u.2.2.2.2.2.2.2.2.2.2.1) (.ref q_acts) w_guarded w_train (.int x_trolleyEnd) w_feltOf w_feltBy (.int x_feltMany) w_many w_heardOf w_heardBy (.int x_heardMany) w_worth (.int x_drawn) (.int x_came) w_kept w_isKept w_keptCame), (q_text, aB cT 80 f_text), (q_acts, aI cT 240 u.2.2.2.2.2.2.2.2.2.2.2.1), (q_now, aI cT 47 u.2.2.2.2.2.2.2.2.2.2.2.2.1), (q_aside, aI cT 47 u.2.2.2.2.2.2.2.2.2.2.2.2.2.1), (q_asked, aI cT 7 u.2.2.2.2.2.2.2.2.2.2.2.2.2.2.1), (q_rule, aB cT 40 f_rule), (q_hold, aI cT 6 u.2.2.2.2.2.2.2.2.2.2.2.2.2.2.2.1), (q_undos, aI cT 564 u.2.2.2.2.2.2.2.2.2.2.2.2.2.2.2.2.1), (q_row, aJ cT 16 u.2.2.2.2.2.2.2.2.2.2.2.2.2.2.2.2.2)])) A) ([.ref h] : List Value).toArray s 0 0 A) (F0 m 72 ls []) := by
    intro u_8 u_67 y1_13 f_acts_13 n72
    induction n72 with
    | zero =>
      intro y2_72 x_read_72 x_length_72 x_top_72 x_at_72 x_wrong_72 x_isAsked_72 x_dropped_72 f_now_72 f_asked_72 f_hold_72 H locs ls hg hP hD hS hl
      exact False.elim hg
    | succ n72 ih72 =>
      intro y2_72 x_read_72 x_length_72 x_top_72 x_at_72 x_wrong_72 x_isAsked_72 x_dropped_72 f_now_72 f_asked_72 f_hold_72 H locs ls hg hP hD hS hl
      rw [p_X8_night_72_s] at hg
      refine lv_iload_n hx hb dX8_night_72 rfl (lv_at hl 2 rfl) ?_
      refine lv_iload_n hx hb dX8_night_73 rfl (lv_at hl 1 rfl) ?_
      refine lv_icmp_ge (tgt := 118) hx hb dX8_night_74 (by decide) (fun c_74 => ?_) (fun c_74 => ?_)
      · have hg := hg.1 c_74
        exact L118 u_8 u_67 y1_13 f_acts_13 y2_72 x_read_72 x_length_72 x_top_72 x_at_72 x_wrong_72 x_isAsked_72 x_dropped_72 f_now_72 f_asked_72 f_hold_72 _ _ _ hg hP hD hS hl
      have hg := hg.2 c_74
      refine lv_aload_n hx hb dX8_night_77 rfl (lv_at hl 0 rfl) ?_
      refine lv_aload_n hx hb dX8_night_78 rfl (lv_at hl 0 rfl) ?_
      refine gf_X8_45 C0 hP 0 rfl rfl dX8_night_79 ?_
      refine lv_iconst (v := (3 : Int32)) hx hb dX8_night_82 (by decide) ?_
      refine lv_iload_n hx hb dX8_night_83 rfl (lv_at hl 2 rfl) ?_
      refine lv_imul hx hb dX8_night_84 ?_
      obtain ⟨g_85, hg⟩ := hg
      refine k_iald C0 hP 2 rfl g_85 dX8_night_85 ?_
      refine lv_aload_n hx hb dX8_night_86 rfl (lv_at hl 0 rfl) ?_
      refine gf_X8_45 C0 hP 0 rfl rfl dX8_night_87 ?_
      refine lv_iconst (v := (3 : Int32)) hx hb dX8_night_90 (by decide) ?_
      refine lv_iload_n hx hb dX8_night_91 rfl (lv_at hl 2 rfl) ?_
      refine lv_imul hx hb dX8_night_92 ?_
      refine lv_iconst (v := (1 : Int32)) hx hb dX8_night_93 (by decide) ?_
      refine lv_iadd hx hb dX8_night_94 ?_
      obtain ⟨g_95, hg⟩ := hg
      refine k_iald C0 hP 2 rfl g_95 dX8_night_95 ?_
      refine lv_aload_n hx hb dX8_night_96 rfl (lv_at hl 0 rfl) ?_
      refine gf_X8_45 C0 hP 0 rfl rfl dX8_night_97 ?_
      refine lv_iconst (v := (3 : Int32)) hx hb dX8_night_100 (by decide) ?_
      refine lv_iload_n hx hb dX8_night_101 rfl (lv_at hl 2 rfl) ?_
      refine lv_imul hx hb dX8_night_102 ?_
      refine lv_iconst (v := (2 : Int32)) hx hb dX8_night_103 (by decide) ?_
      refine lv_iadd hx hb dX8_night_104 ?_
      obtain ⟨g_105, hg⟩ := hg
      refine k_iald C0 hP 2 rfl g_105 dX8_night_105 ?_
      refine k_Vi (rest := []) (wr := [(q_text, aB cT 80 f_text), (q_acts, aI cT 240 f_acts_13), (q_aside, aI cT 47 u_67), (q_undos, aI cT 564 f_undos), (q_row, aJ cT 16 f_row)]) (w2 := fun u_106 => [(q_text, aB cT 80 f_text), (q_acts, aI cT 240 f_acts_13), (q_aside, aI cT 47 u_67), (q_undos, aI cT 564 f_undos), (q_row, aJ cT 16 f_row), (h, oX8 (.ref q_now) (.int x_arches) (.int x_cats) (.ref q_text) (.int u_8.1) (.ref q_row) (.int x_rowMany) (.int (0 : Int32)) u_106.1 (.int u_106.2.1) (.int u_106.2.2.1) (.int u_106.2.2.2.1) (.int u_106.2.2.2.2.1) w_told (.ref q_rule) w_otherRule (.int x_ruleSize) (.int u_106.2.2.2.2.2.1) (.ref q_asked) (.ref q_undos) (.int x_undoMany) (.ref q_aside) w_then (.ref q_hold) (.int u_106.2.2.2.2.2.2.1) (.ref q_acts) w_guarded w_train (.int x_trolleyEnd) w_feltOf w_feltBy (.int x_feltMany) w_many w_heardOf w_heardBy (.int x_heardMany) w_worth (.int x_drawn) (.int x_came) w_kept w_isKept w_keptCame), (q_now, aI cT 47 u_106.2.2.2.2.2.2.2.1), (q_asked, aI cT 7 u_106.2.2.2.2.2.2.2.2.1), (q_rule, aB cT 40 f_rule), (q_hold, aI cT 6 u_106.2.2.2.2.2.2.2.2.2)]) C0 lk_X8_286 (c_X8_act l D cT F h (f_acts_13 ((3 : Int32) * y2_72).toNatClampNeg) (f_acts_13 (((3 : Int32) * y2_72) + (1 : Int32)).toNatClampNeg) (f_acts_13 (((3 : Int32) * y2_72) + (2 : Int32)).toNatClampNeg) q_now x_arches x_cats (.ref q_text) u_8.1 (.ref q_row) x_rowMany (0 : Int32) x_read_72 x_length_72 x_top_72 x_at_72 x_wrong_72 w_told q_rule w_otherRule x_ruleSize x_isAsked_72 q_asked (.ref q_undos) x_undoMany (.ref q_aside) w_then q_hold x_dropped_72 (.ref q_acts) w_guarded w_train x_trolleyEnd w_feltOf w_feltBy x_feltMany w_many w_heardOf w_heardBy x_heardMany w_worth x_drawn x_came w_kept w_isKept w_keptCame f_now_72 f_asked_72 f_rule f_hold_72 _ hg) hP hD hS hA [0, 3, 5, 6, 7] [1, 2, 4, 8, 9] (by decide +kernel) rfl rfl (fun _ => rfl) rfl rfl ⟨Nat.le_of_ble_eq_true rfl, Nat.le_of_ble_eq_true rfl⟩ rfl hl.1 rfl (Nat.le_of_ble_eq_true rfl) dX8_night_106 ⟨Nat.le_of_ble_eq_true rfl, Nat.le_of_ble_eq_true rfl⟩ ?_
      intro r_106 u_106 H locs hg hP hD hS
      refine lv_if_eq (tgt := 118) hx hb dX8_night_109 (by decide) (fun c_109 => ?_) (fun c_109 => ?_)
      · have hg := hg.1 c_109
        exact L118 u_8 u_67 y1_13 f_acts_13 y2_72 u_106.1 u_106.2.1 u_106.2.2.1 u_106.2.2.2.1 u_106.2.2.2.2.1 u_106.2.2.2.2.2.1 u_106.2.2.2.2.2.2.1 u_106.2.2.2.2.2.2.2.1 u_106.2.2.2.2.2.2.2.2.1 u_106.2.2.2.2.2.2.2.2.2 _ _ _ hg (subP hP [5, 0, 1, 6, 2, 7, 8, 9, 3, 4] rfl) (hD.sub [5, 0, 1, 6, 2, 7, 8, 9, 3, 4] (nd2_ok _ (by decide +kernel)) rfl) hS hl
      have hg := hg.2 c_109
      refine lv_iinc (v := (y2_72 + (1 : Int32))) (lv' := [(2, .int (y2_72 + (1 : Int32))), (0, .ref h), (1, .int y1_13)]) hx hb dX8_night_112 hl (k := 2) rfl rfl (by decide) rfl (fun ls hl => ?_)
      refine lv_goto (tgt := 72) hx hb dX8_night_115 (by decide) ?_
      exact ih72 (y2_72 + (1 : Int32)) u_106.1 u_106.2.1 u_106.2.2.1 u_106.2.2.2.1 u_106.2.2.2.2.1 u_106.2.2.2.2.2.1 u_106.2.2.2.2.2.2.1 u_106.2.2.2.2.2.2.2.1 u_106.2.2.2.2.2.2.2.2.1 u_106.2.2.2.2.2.2.2.2.2 _ _ _ hg (subP hP [5, 0, 1, 6, 2, 7, 8, 9, 3, 4] rfl) (hD.sub [5, 0, 1, 6, 2, 7, 8, 9, 3, 4] (nd2_ok _ (by decide +kernel)) rfl) hS (lv_sub hl [1, 2, 0] rfl)
  have L44 : ∀ (u_8 : (Int32 × Int32 × Int32 × Int32 × Int32)) (y1_13 : Int32) (x_at_13 : Int32) (x_wrong_13 : Int32) (f_acts_13 : Nat → Int32) (H : Heap) (locs : List Loc) (ls : Array Slot), p_X8_night_44 F x_arches x_cats q_text x_rowMany q_rule x_ruleSize x_isAsked x_undoMany x_dropped f_now f_aside f_asked f_rule f_hold f_undos f_row u_8 y1_13 x_at_13 x_wrong_13 f_acts_13 Post → va_P D cls9 [(h, oX8 (.ref q_now) (.int x_arches) (.int x_cats) (.ref q_text) (.int u_8.1) (.ref q_row) (.int x_rowMany) (.int (0 : Int32)) (.ref q_text) (.int u_8.2.1) (.int u_8.2.2.1) (.int x_at_13) (.int x_wrong_13) w_told (.ref q_rule) w_otherRule (.int x_ruleSize) (.int x_isAsked) (.ref q_asked) (.ref q_undos) (.int x_undoMany) (.ref q_aside) w_then (.ref q_hold) (.int x_dropped) (.ref q_acts) w_guarded w_train (.int x_trolleyEnd) w_feltOf w_feltBy (.int x_feltMany) w_many w_heardOf w_heardBy (.int x_heardMany) w_worth (.int x_drawn) (.int x_came) w_kept w_isKept w_keptCame), (q_text, aB cT 80 f_text), (q_acts, aI cT 240 f_acts_13), (q_now, aI cT 47 f_now), (q_aside, aI cT 47 f_aside), (q_asked, aI cT 7 f_asked), (q_rule, aB cT 40 f_rule), (q_hold, aI cT 6 f_hold), (q_undos, aI cT 564 f_undos), (q_row, aJ cT 16 f_row)] H → va_D A [(h, oX8 (.ref q_now) (.int x_arches) (.int x_cats) (.ref q_text) (.int u_8.1) (.ref q_row) (.int x_rowMany) (.int (0 : Int32)) (.ref q_text) (.int u_8.2.1) (.int u_8.2.2.1) (.int x_at_13) (.int x_wrong_13) w_told (.ref q_rule) w_otherRule (.int x_ruleSize) (.int x_isAsked) (.ref q_asked) (.ref q_undos) (.int x_undoMany) (.ref q_aside) w_then (.ref q_hold) (.int x_dropped) (.ref q_acts) w_guarded w_train (.int x_trolleyEnd) w_feltOf w_feltBy (.int x_feltMany) w_many w_heardOf w_heardBy (.int x_heardMany) w_worth (.int x_drawn) (.int x_came) w_kept w_isKept w_keptCame), (q_text, aB cT 80 f_text), (q_acts, aI cT 240 f_acts_13), (q_now, aI cT 47 f_now), (q_aside, aI cT 47 f_aside), (q_asked, aI cT 7 f_asked), (q_rule, aB cT 40 f_rule), (q_hold, aI cT 6 f_hold), (q_undos, aI cT 564 f_undos), (q_row, aJ cT 16 f_row)] → va_S A s.heap H locs → lv_has ls 3 [(0, .ref h), (1, .int y1_13)] → W p l e (rmO 328 10242 0 0) s m ([.ref h] : List Value).toArray below meth c H locs 0 0 (MQ below (va_Qi Post (cB D A (fun (u : (Int32 × Int32 × Int32 × Value × Int32 × Int32 × Int32 × Int32 × Int32 × Int32 × Int32 × (Nat → Int32) × (Nat → Int32) × (Nat → Int32) × (Nat → Int32) × (Nat → Int32) × (Nat → Int32) × (Nat → Int64))) => [(h, oX8 (.ref q_now) (.int x_arches) (.int x_cats) (.ref q_text) (.int u.1) (.ref q_row) (.int u.2.1) (.int u.2.2.1) u.2.2.2.1 (.int u.2.2.2.2.1) (.int u.2.2.2.2.2.1) (.int u.2.2.2.2.2.2.1) (.int u.2.2.2.2.2.2.2.1) w_told (.ref q_rule) w_otherRule (.int x_ruleSize) (.int u.2.2.2.2.2.2.2.2.1) (.ref q_asked) (.ref q_undos) (.int u.2.2.2.2.2.2.2.2.2.1) (.ref q_aside) w_then (.ref q_hold) (.int u.2.2.2.2.2.2.2.2.2.2.1) (.ref q_acts) w_guarded w_train (.int x_trolleyEnd) w_feltOf w_feltBy (.int x_feltMany) w_many w_heardOf w_heardBy (.int x_heardMany) w_worth (.int x_drawn) (.int x_came) w_kept w_isKept w_keptCame), (q_text, aB cT 80 f_text), (q_acts, aI cT 240 u.2.2.2.2.2.2.2.2.2.2.2.1), (q_now, aI cT 47 u.2.2.2.2.2.2.2.2.2.2.2.2.1), (q_aside, aI cT 47 u.2.2.2.2.2.2.2.2.2.2.2.2.2.1), (q_asked, aI cT 7 u.2.2.2.2.2.2.2.2.2.2.2.2.2.2.1), (q_rule, aB cT 40 f_rule), (q_hold, aI cT 6 u.2.2.2.2.2.2.2.2.2.2.2.2.2.2.2.1), (q_undos, aI cT 564 u.2.2.2.2.2.2.2.2.2.2.2.2.2.2.2.2.1), (q_row, aJ cT 16 u.2.2.2.2.2.2.2.2.2.2.2.2.2.2.2.2.2)])) A) ([.ref h] : List Value).toArray s 0 0 A) (F0 m 44 ls []) := by
    intro u_8 y1_13 x_at_13 x_wrong_13 f_acts_13 H locs ls hg hP hD hS hl
    unfold p_X8_night_44 at hg
    refine lv_aload_n hx hb dX8_night_44 rfl (lv_at hl 0 rfl) ?_
    refine k_Vi (rest := []) (wr := [(q_text, aB cT 80 f_text), (q_acts, aI cT 240 f_acts_13), (q_now, aI cT 47 f_now), (q_aside, aI cT 47 f_aside), (q_asked, aI cT 7 f_asked), (q_rule, aB cT 40 f_rule), (q_hold, aI cT 6 f_hold), (q_undos, aI cT 564 f_undos), (q_row, aJ cT 16 f_row)]) (w2 := fun u_45 => [(q_text, aB cT 80 f_text), (q_acts, aI cT 240 f_acts_13), (q_now, aI cT 47 f_now), (q_aside, aI cT 47 f_aside), (q_asked, aI cT 7 f_asked), (q_rule, aB cT 40 f_rule), (q_hold, aI cT 6 f_hold), (q_undos, aI cT 564 f_undos), (q_row, aJ cT 16 f_row), (h, oX8 (.ref q_now) (.int x_arches) (.int x_cats) (.ref q_text) (.int u_8.1) (.ref q_row) (.int x_rowMany) (.int (0 : Int32)) (.ref q_text) (.int u_8.2.1) (.int u_8.2.2.1) (.int x_at_13) (.int u_45) w_told (.ref q_rule) w_otherRule (.int x_ruleSize) (.int x_isAsked) (.ref q_asked) (.ref q_undos) (.int x_undoMany) (.ref q_aside) w_then (.ref q_hold) (.int x_dropped) (.ref q_acts) w_guarded w_train (.int x_trolleyEnd) w_feltOf w_feltBy (.int x_feltMany) w_many w_heardOf w_heardBy (.int x_heardMany) w_worth (.int x_drawn) (.int x_came) w_kept w_isKept w_keptCame)]) C0 lk_X8_150 (c_X8_wasRight l D cT F h (.ref q_now) x_arches x_cats (.ref q_text) u_8.1 (.ref q_row) x_rowMany (0 : Int32) (.ref q_text) u_8.2.1 u_8.2.2.1 x_at_13 x_wrong_13 w_told (.ref q_rule) w_otherRule x_ruleSize x_isAsked (.ref q_asked) (.ref q_undos) x_undoMany (.ref q_aside) w_then (.ref q_hold) x_dropped (.ref q_acts) w_guarded w_train x_trolleyEnd w_feltOf w_feltBy x_feltMany w_many w_heardOf w_heardBy x_heardMany w_worth x_drawn x_came w_kept w_isKept w_keptCame _ hg) hP hD hS hA [0] [1, 2, 3, 4, 5, 6, 7, 8, 9] (by decide +kernel) rfl rfl (fun _ => rfl) rfl rfl ⟨Nat.le_of_ble_eq_true rfl, Nat.le_of_ble_eq_true rfl⟩ rfl hl.1 rfl (Nat.le_of_ble_eq_true rfl) dX8_night_45 ⟨Nat.le_of_ble_eq_true rfl, Nat.le_of_ble_eq_true rfl⟩ ?_
    intro r_45 u_45 H locs hg hP hD hS
    refine lv_if_ne (tgt := 58) hx hb dX8_night_48 (by decide) (fun c_48 => ?_) (fun c_48 => ?_)
    · have hg := hg.1 c_48
      refine lv_aload_n hx hb dX8_night_58 rfl (lv_at hl 0 rfl) ?_
      refine gf_X8_9 C0 hP 9 rfl rfl dX8_night_59 ?_
      refine lv_aload_n hx hb dX8_night_62 rfl (lv_at hl 0 rfl) ?_
      refine gf_X8_36 C0 hP 9 rfl rfl dX8_night_63 ?_
      refine lv_iconst (v := (0 : Int32)) hx hb dX8_night_66 (by decide) ?_
      refine k_Sv (rest := []) (wr := [(q_text, aB cT 80 f_text), (q_acts, aI cT 240 f_acts_13), (q_asked, aI cT 7 f_asked), (q_rule, aB cT 40 f_rule), (q_hold, aI cT 6 f_hold), (q_undos, aI cT 564 f_undos), (q_row, aJ cT 16 f_row), (h, oX8 (.ref q_now) (.int x_arches) (.int x_cats) (.ref q_text) (.int u_8.1) (.ref q_row) (.int x_rowMany) (.int (0 : Int32)) (.ref q_text) (.int u_8.2.1) (.int u_8.2.2.1) (.int x_at_13) (.int u_45) w_told (.ref q_rule) w_otherRule (.int x_ruleSize) (.int x_isAsked) (.ref q_asked) (.ref q_undos) (.int x_undoMany) (.ref q_aside) w_then (.ref q_hold) (.int x_dropped) (.ref q_acts) w_guarded w_train (.int x_trolleyEnd) w_feltOf w_feltBy (.int x_feltMany) w_many w_heardOf w_heardBy (.int x_heardMany) w_worth (.int x_drawn) (.int x_came) w_kept w_isKept w_keptCame)]) (w2 := fun u_67 => [(q_text, aB cT 80 f_text), (q_acts, aI cT 240 f_acts_13), (q_asked, aI cT 7 f_asked), (q_rule, aB cT 40 f_rule), (q_hold, aI cT 6 f_hold), (q_undos, aI cT 564 f_undos), (q_row, aJ cT 16 f_row), (h, oX8 (.ref q_now) (.int x_arches) (.int x_cats) (.ref q_text) (.int u_8.1) (.ref q_row) (.int x_rowMany) (.int (0 : Int32)) (.ref q_text) (.int u_8.2.1) (.int u_8.2.2.1) (.int x_at_13) (.int u_45) w_told (.ref q_rule) w_otherRule (.int x_ruleSize) (.int x_isAsked) (.ref q_asked) (.ref q_undos) (.int x_undoMany) (.ref q_aside) w_then (.ref q_hold) (.int x_dropped) (.ref q_acts) w_guarded w_train (.int x_trolleyEnd) w_feltOf w_feltBy (.int x_feltMany) w_many w_heardOf w_heardBy (.int x_heardMany) w_worth (.int x_drawn) (.int x_came) w_kept w_isKept w_keptCame), (q_now, aI cT 47 f_now), (q_aside, aI cT 47 u_67)]) C0 lk_X8_231 (c_X8_lay l D cT F q_now q_aside (0 : Int32) 47 f_now 47 f_aside _ hg) hP hD hS hA [2, 3] [0, 1, 4, 5, 6, 7, 8, 9] (by decide +kernel) rfl rfl (fun _ => rfl) ⟨Nat.le_of_ble_eq_true rfl, Nat.le_of_ble_eq_true rfl⟩ rfl hl.1 rfl (Nat.le_of_ble_eq_true rfl) dX8_night_67 ⟨Nat.le_of_ble_eq_true rfl, Nat.le_of_ble_eq_true rfl⟩ ?_
      intro u_67 H locs hg hP hD hS
      refine lv_iconst (v := (0 : Int32)) hx hb dX8_night_70 (by decide) ?_
      refine lv_istore_n (lv' := [(2, .int (0 : Int32)), (0, .ref h), (1, .int y1_13)]) hx hb dX8_night_71 rfl hl (by decide) rfl (fun ls hl => ?_)
      exact L72 u_8 u_67 y1_13 f_acts_13 F (0 : Int32) (.ref q_text) u_8.2.1 u_8.2.2.1 x_at_13 u_45 x_isAsked x_dropped f_now f_asked f_hold _ _ _ hg (subP hP [7, 0, 1, 8, 9, 2, 3, 4, 5, 6] rfl) (hD.sub [7, 0, 1, 8, 9, 2, 3, 4, 5, 6] (nd2_ok _ (by decide +kernel)) rfl) hS (lv_sub hl [1, 2, 0] rfl)
    have hg := hg.2 c_48
    refine lv_iconst (v := (-1 : Int32)) hx hb dX8_night_51 (by decide) ?_
    refine lv_aload_n hx hb dX8_night_52 rfl (lv_at hl 0 rfl) ?_
    refine gf_X8_114 C0 hP 9 rfl rfl dX8_night_53 ?_
    refine lv_isub hx hb dX8_night_56 ?_
    exact k_iret C0 hr (u_8.1, x_rowMany, (0 : Int32), .ref q_text, u_8.2.1, u_8.2.2.1, x_at_13, u_45, x_isAsked, x_undoMany, x_dropped, f_acts_13, f_now, f_aside, f_asked, f_hold, f_undos, f_row) hg (subP hP [9, 0, 1, 2, 3, 4, 5, 6, 7, 8] rfl) (hD.sub [9, 0, 1, 2, 3, 4, 5, 6, 7, 8] (nd2_ok _ (by decide +kernel)) rfl) hS dX8_night_57
  have L13 : ∀ (u_8 : (Int32 × Int32 × Int32 × Int32 × Int32)) (n13 : Nat) (y1_13 : Int32) (x_at_13 : Int32) (x_wrong_13 : Int32) (f_acts_13 : Nat → Int32) (H : Heap) (locs : List Loc) (ls : Array Slot), p_X8_night_13 F x_arches x_cats q_text x_rowMany q_rule x_ruleSize x_isAsked x_undoMany x_dropped f_text f_now f_aside f_asked f_rule f_hold f_undos f_row u_8 Post n13 y1_13 x_at_13 x_wrong_13 f_acts_13 → va_P D cls9 [(h, oX8 (.ref q_now) (.int x_arches) (.int x_cats) (.ref q_text) (.int u_8.1) (.ref q_row) (.int x_rowMany) (.int (0 : Int32)) (.ref q_text) (.int u_8.2.1) (.int u_8.2.2.1) (.int x_at_13) (.int x_wrong_13) w_told (.ref q_rule) w_otherRule (.int x_ruleSize) (.int x_isAsked) (.ref q_asked) (.ref q_undos) (.int x_undoMany) (.ref q_aside) w_then (.ref q_hold) (.int x_dropped) (.ref q_acts) w_guarded w_train (.int x_trolleyEnd) w_feltOf w_feltBy (.int x_feltMany) w_many w_heardOf w_heardBy (.int x_heardMany) w_worth (.int x_drawn) (.int x_came) w_kept w_isKept w_keptCame), (q_text, aB cT 80 f_text), (q_acts, aI cT 240 f_acts_13), (q_now, aI cT 47 f_now), (q_aside, aI cT 47 f_aside), (q_asked, aI cT 7 f_asked), (q_rule, aB cT 40 f_rule), (q_hold, aI cT 6 f_hold), (q_undos, aI cT 564 f_undos), (q_row, aJ cT 16 f_row)] H → va_D A [(h, oX8 (.ref q_now) (.int x_arches) (.int x_cats) (.ref q_text) (.int u_8.1) (.ref q_row) (.int x_rowMany) (.int (0 : Int32)) (.ref q_text) (.int u_8.2.1) (.int u_8.2.2.1) (.int x_at_13) (.int x_wrong_13) w_told (.ref q_rule) w_otherRule (.int x_ruleSize) (.int x_isAsked) (.ref q_asked) (.ref q_undos) (.int x_undoMany) (.ref q_aside) w_then (.ref q_hold) (.int x_dropped) (.ref q_acts) w_guarded w_train (.int x_trolleyEnd) w_feltOf w_feltBy (.int x_feltMany) w_many w_heardOf w_heardBy (.int x_heardMany) w_worth (.int x_drawn) (.int x_came) w_kept w_isKept w_keptCame), (q_text, aB cT 80 f_text), (q_acts, aI cT 240 f_acts_13), (q_now, aI cT 47 f_now), (q_aside, aI cT 47 f_aside), (q_asked, aI cT 7 f_asked), (q_rule, aB cT 40 f_rule), (q_hold, aI cT 6 f_hold), (q_undos, aI cT 564 f_undos), (q_row, aJ cT 16 f_row)] → va_S A s.heap H locs → lv_has ls 3 [(0, .ref h), (1, .int y1_13)] → W p l e (rmO 328 10242 0 0) s m ([.ref h] : List Value).toArray below meth c H locs 0 0 (MQ below (va_Qi Post (cB D A (fun (u : (Int32 × Int32 × Int32 × Value × Int32 × Int32 × Int32 × Int32 × Int32 × Int32 × Int32 × (Nat → Int32) × (Nat → Int32) × (Nat → Int32) × (Nat → Int32) × (Nat → Int32) × (Nat → Int32) × (Nat → Int64))) => [(h, oX8 (.ref q_now) (.int x_arches) (.int x_cats) (.ref q_text) (.int u.1) (.ref q_row) (.int u.2.1) (.int u.2.2.1) u.2.2.2.1 (.int u.2.2.2.2.1) (.int u.2.2.2.2.2.1) (.int u.2.2.2.2.2.2.1) (.int u.2.2.2.2.2.2.2.1) w_told (.ref q_rule) w_otherRule (.int x_ruleSize) (.int u.2.2.2.2.2.2.2.2.1) (.ref q_asked) (.ref q_undos) (.int u.2.2.2.2.2.2.2.2.2.1) (.ref q_aside) w_then (.ref q_hold) (.int u.2.2.2.2.2.2.2.2.2.2.1) (.ref q_acts) w_guarded w_train (.int x_trolleyEnd) w_feltOf w_feltBy (.int x_feltMany) w_many w_heardOf w_heardBy (.int x_heardMany) w_worth (.int x_drawn) (.int x_came) w_kept w_isKept w_keptCame), (q_text, aB cT 80 f_text), (q_acts, aI cT 240 u.2.2.2.2.2.2.2.2.2.2.2.1), (q_now, aI cT 47 u.2.2.2.2.2.2.2.2.2.2.2.2.1), (q_aside, aI cT 47 u.2.2.2.2.2.2.2.2.2.2.2.2.2.1), (q_asked, aI cT 7 u.2.2.2.2.2.2.2.2.2.2.2.2.2.2.1), (q_rule, aB cT 40 f_rule), (q_hold, aI cT 6 u.2.2.2.2.2.2.2.2.2.2.2.2.2.2.2.1), (q_undos, aI cT 564 u.2.2.2.2.2.2.2.2.2.2.2.2.2.2.2.2.1), (q_row, aJ cT 16 u.2.2.2.2.2.2.2.2.2.2.2.2.2.2.2.2.2)])) A) ([.ref h] : List Value).toArray s 0 0 A) (F0 m 13 ls []) := by
    intro u_8 n13
    induction n13 with
    | zero =>
      intro y1_13 x_at_13 x_wrong_13 f_acts_13 H locs ls hg hP hD hS hl
      exact False.elim hg
    | succ n13 ih13 =>
      intro y1_13 x_at_13 x_wrong_13 f_acts_13 H locs ls hg hP hD hS hl
      rw [p_X8_night_13_s] at hg
      refine lv_aload_n hx hb dX8_night_13 rfl (lv_at hl 0 rfl) ?_
      refine k_Vxi (rest := []) C0 lk_X8_121 (c_X8_fine l D cT F h (.ref q_now) x_arches x_cats (.ref q_text) u_8.1 (.ref q_row) x_rowMany (0 : Int32) (.ref q_text) u_8.2.1 u_8.2.2.1 x_at_13 x_wrong_13 w_told (.ref q_rule) w_otherRule x_ruleSize x_isAsked (.ref q_asked) (.ref q_undos) x_undoMany (.ref q_aside) w_then (.ref q_hold) x_dropped (.ref q_acts) w_guarded w_train x_trolleyEnd w_feltOf w_feltBy x_feltMany w_many w_heardOf w_heardBy x_heardMany w_worth x_drawn x_came w_kept w_isKept w_keptCame _ hg) hP hD hS hA [0] (by decide +kernel) rfl rfl rfl ⟨Nat.le_of_ble_eq_true rfl, Nat.le_of_ble_eq_true rfl⟩ rfl hl.1 rfl (Nat.le_of_ble_eq_true rfl) dX8_night_14 ⟨Nat.le_of_ble_eq_true rfl, Nat.le_of_ble_eq_true rfl⟩ (fun r_14 hg => ?_)
      refine lv_if_eq (tgt := 44) hx hb dX8_night_17 (by decide) (fun c_17 => ?_) (fun c_17 => ?_)
      · have hg := hg.1 c_17
        exact L44 u_8 y1_13 x_at_13 x_wrong_13 f_acts_13 _ _ _ hg hP hD hS hl
      have hg := hg.2 c_17
      refine lv_aload_n hx hb dX8_night_20 rfl (lv_at hl 0 rfl) ?_
      refine gf_X8_111 C0 hP 0 rfl rfl dX8_night_21 ?_
      refine lv_aload_n hx hb dX8_night_24 rfl (lv_at hl 0 rfl) ?_
      refine gf_X8_105 C0 hP 0 rfl rfl dX8_night_25 ?_
      refine lv_icmp_ge (tgt := 44) hx hb dX8_night_28 (by decide) (fun c_28 => ?_) (fun c_28 => ?_)
      · have hg := hg.1 c_28
        exact L44 u_8 y1_13 x_at_13 x_wrong_13 f_acts_13 _ _ _ hg hP hD hS hl
      have hg := hg.2 c_28
      refine lv_aload_n hx hb dX8_night_31 rfl (lv_at hl 0 rfl) ?_
      refine lv_iconst (v := (3 : Int32)) hx hb dX8_night_32 (by decide) ?_
      refine lv_iload_n hx hb dX8_night_33 rfl (lv_at hl 1 rfl) ?_
      refine lv_imul hx hb dX8_night_34 ?_
      refine k_Vv (rest := []) (wr := [(q_now, aI cT 47 f_now), (q_aside, aI cT 47 f_aside), (q_asked, aI cT 7 f_asked), (q_rule, aB cT 40 f_rule), (q_hold, aI cT 6 f_hold), (q_undos, aI cT 564 f_undos), (q_row, aJ cT 16 f_row)]) (w2 := fun u_35 => [(q_now, aI cT 47 f_now), (q_aside, aI cT 47 f_aside), (q_asked, aI cT 7 f_asked), (q_rule, aB cT 40 f_rule), (q_hold, aI cT 6 f_hold), (q_undos, aI cT 564 f_undos), (q_row, aJ cT 16 f_row), (h, oX8 (.ref q_now) (.int x_arches) (.int x_cats) (.ref q_text) (.int u_8.1) (.ref q_row) (.int x_rowMany) (.int (0 : Int32)) (.ref q_text) (.int u_8.2.1) (.int u_8.2.2.1) (.int u_35.1) (.int u_35.2.1) w_told (.ref q_rule) w_otherRule (.int x_ruleSize) (.int x_isAsked) (.ref q_asked) (.ref q_undos) (.int x_undoMany) (.ref q_aside) w_then (.ref q_hold) (.int x_dropped) (.ref q_acts) w_guarded w_train (.int x_trolleyEnd) w_feltOf w_feltBy (.int x_feltMany) w_many w_heardOf w_heardBy (.int x_heardMany) w_worth (.int x_drawn) (.int x_came) w_kept w_isKept w_keptCame), (q_text, aB cT 80 f_text), (q_acts, aI cT 240 u_35.2.2)]) C0 lk_X8_283 (c_X8_readAct l D cT F h ((3 : Int32) * y1_13) (.ref q_now) x_arches x_cats (.ref q_text) u_8.1 (.ref q_row) x_rowMany (0 : Int32) q_text u_8.2.1 u_8.2.2.1 x_at_13 x_wrong_13 w_told (.ref q_rule) w_otherRule x_ruleSize x_isAsked (.ref q_asked) (.ref q_undos) x_undoMany (.ref q_aside) w_then (.ref q_hold) x_dropped q_acts w_guarded w_train x_trolleyEnd w_feltOf w_feltBy x_feltMany w_many w_heardOf w_heardBy x_heardMany w_worth x_drawn x_came w_kept w_isKept w_keptCame 80 f_text f_acts_13 _ hg) hP hD hS hA [0, 1, 2] [3, 4, 5, 6, 7, 8, 9] (by decide +kernel) rfl rfl (fun _ => rfl) rfl rfl ⟨Nat.le_of_ble_eq_true rfl, Nat.le_of_ble_eq_true rfl⟩ rfl hl.1 rfl (Nat.le_of_ble_eq_true rfl) dX8_night_35 ⟨Nat.le_of_ble_eq_true rfl, Nat.le_of_ble_eq_true rfl⟩ ?_
      intro u_35 H locs hg hP hD hS
      refine lv_iinc (v := (y1_13 + (1 : Int32))) (lv' := [(1, .int (y1_13 + (1 : Int32))), (0, .ref h)]) hx hb dX8_night_38 hl (k := 1) rfl rfl (by decide) rfl (fun ls hl => ?_)
      refine lv_goto (tgt := 13) hx hb dX8_night_41 (by decide) ?_
      exact ih13 (y1_13 + (1 : Int32)) u_35.1 u_35.2.1 u_35.2.2 _ _ _ hg (subP hP [7, 8, 9, 0, 1, 2, 3, 4, 5, 6] rfl) (hD.sub [7, 8, 9, 0, 1, 2, 3, 4, 5, 6] (nd2_ok _ (by decide +kernel)) rfl) hS (lv_sub hl [1, 0] rfl)
  unfold p_X8_night at hg
  refine lv_aload_n hx hb dX8_night_0 rfl (lv_at hl 0 rfl) ?_
  refine lv_iconst (v := (0 : Int32)) hx hb dX8_night_1 (by decide) ?_
  refine pf_X8_82 C0 hP hD hS 0 rfl (Nat.le_of_ble_eq_true rfl) (ws2 := [(h, oX8 (.ref q_now) (.int x_arches) (.int x_cats) (.ref q_text) (.int x_typed) (.ref q_row) (.int x_rowMany) (.int (0 : Int32)) w_read (.int x_length) (.int x_top) (.int x_at) (.int x_wrong) w_told (.ref q_rule) w_otherRule (.int x_ruleSize) (.int x_isAsked) (.ref q_asked) (.ref q_undos) (.int x_undoMany) (.ref q_aside) w_then (.ref q_hold) (.int x_dropped) (.ref q_acts) w_guarded w_train (.int x_trolleyEnd) w_feltOf w_feltBy (.int x_feltMany) w_many w_heardOf w_heardBy (.int x_heardMany) w_worth (.int x_drawn) (.int x_came) w_kept w_isKept w_keptCame), (q_text, aB cT 80 f_text), (q_acts, aI cT 240 f_acts), (q_now, aI cT 47 f_now), (q_aside, aI cT 47 f_aside), (q_asked, aI cT 7 f_asked), (q_rule, aB cT 40 f_rule), (q_hold, aI cT 6 f_hold), (q_undos, aI cT 564 f_undos), (q_row, aJ cT 16 f_row)]) rfl dX8_night_2 (fun H locs hP hD hS => ?_)
  refine lv_aload_n hx hb dX8_night_5 rfl (lv_at hl 0 rfl) ?_
  refine lv_bipush (v := (60 : Int32)) hx hb dX8_night_6 (by decide) ?_
  refine k_Vv (rest := []) (wr := [(q_text, aB cT 80 f_text), (q_acts, aI cT 240 f_acts), (q_now, aI cT 47 f_now), (q_aside, aI cT 47 f_aside), (q_asked, aI cT 7 f_asked), (q_rule, aB cT 40 f_rule), (q_hold, aI cT 6 f_hold), (q_undos, aI cT 564 f_undos), (q_row, aJ cT 16 f_row)]) (w2 := fun u_8 => [(q_text, aB cT 80 f_text), (q_acts, aI cT 240 f_acts), (q_now, aI cT 47 f_now), (q_aside, aI cT 47 f_aside), (q_asked, aI cT 7 f_asked), (q_rule, aB cT 40 f_rule), (q_hold, aI cT 6 f_hold), (q_undos, aI cT 564 f_undos), (q_row, aJ cT 16 f_row), (h, oX8 (.ref q_now) (.int x_arches) (.int x_cats) (.ref q_text) (.int u_8.1) (.ref q_row) (.int x_rowMany) (.int (0 : Int32)) (.ref q_text) (.int u_8.2.1) (.int u_8.2.2.1) (.int u_8.2.2.2.1) (.int u_8.2.2.2.2) w_told (.ref q_rule) w_otherRule (.int x_ruleSize) (.int x_isAsked) (.ref q_asked) (.ref q_undos) (.int x_undoMany) (.ref q_aside) w_then (.ref q_hold) (.int x_dropped) (.ref q_acts) w_guarded w_train (.int x_trolleyEnd) w_feltOf w_feltBy (.int x_feltMany) w_many w_heardOf w_heardBy (.int x_heardMany) w_worth (.int x_drawn) (.int x_came) w_kept w_isKept w_keptCame)]) C0 lk_X8_147 (c_X8_beginText l D cT F h (60 : Int32) (.ref q_now) x_arches x_cats q_text x_typed (.ref q_row) x_rowMany (0 : Int32) w_read x_length x_top x_at x_wrong w_told (.ref q_rule) w_otherRule x_ruleSize x_isAsked (.ref q_asked) (.ref q_undos) x_undoMany (.ref q_aside) w_then (.ref q_hold) x_dropped (.ref q_acts) w_guarded w_train x_trolleyEnd w_feltOf w_feltBy x_feltMany w_many w_heardOf w_heardBy x_heardMany w_worth x_drawn x_came w_kept w_isKept w_keptCame _ hg) hP hD hS hA [0] [1, 2, 3, 4, 5, 6, 7, 8, 9] (by decide +kernel) rfl rfl (fun _ => rfl) rfl rfl ⟨Nat.le_of_ble_eq_true rfl, Nat.le_of_ble_eq_true rfl⟩ rfl hl.1 rfl (Nat.le_of_ble_eq_true rfl) dX8_night_8 ⟨Nat.le_of_ble_eq_true rfl, Nat.le_of_ble_eq_true rfl⟩ ?_
  intro u_8 H locs hg hP hD hS
  refine lv_iconst (v := (0 : Int32)) hx hb dX8_night_11 (by decide) ?_
  refine lv_istore_n (lv' := [(1, .int (0 : Int32)), (0, .ref h)]) hx hb dX8_night_12 rfl hl (by decide) rfl (fun ls hl => ?_)
  exact L13 u_8 F (0 : Int32) u_8.2.2.2.1 u_8.2.2.2.2 f_acts _ _ _ hg (subP hP [9, 0, 1, 2, 3, 4, 5, 6, 7, 8] rfl) (hD.sub [9, 0, 1, 2, 3, 4, 5, 6, 7, 8] (nd2_ok _ (by decide +kernel)) rfl) hS (lv_sub hl [1, 0] rfl)
