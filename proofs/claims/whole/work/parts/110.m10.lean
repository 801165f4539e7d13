theorem dX8_letterOf_0 : decode cX8_letterOf 0 = .ok (.iload_n 0, 1) := by decide +kernel
theorem dX8_letterOf_1 : decode cX8_letterOf 1 = .ok (.bipush 106, 2) := by decide +kernel
theorem dX8_letterOf_3 : decode cX8_letterOf 3 = .ok (.if_icmp .ne 7, 3) := by decide +kernel
theorem dX8_letterOf_6 : decode cX8_letterOf 6 = .ok (.iconst 0, 1) := by decide +kernel
theorem dX8_letterOf_7 : decode cX8_letterOf 7 = .ok (.goto 65, 3) := by decide +kernel
theorem dX8_letterOf_10 : decode cX8_letterOf 10 = .ok (.iload_n 0, 1) := by decide +kernel
theorem dX8_letterOf_11 : decode cX8_letterOf 11 = .ok (.bipush 98, 2) := by decide +kernel
theorem dX8_letterOf_13 : decode cX8_letterOf 13 = .ok (.if_icmp .ne 7, 3) := by decide +kernel
theorem dX8_letterOf_16 : decode cX8_letterOf 16 = .ok (.iconst 1, 1) := by decide +kernel
theorem dX8_letterOf_17 : decode cX8_letterOf 17 = .ok (.goto 55, 3) := by decide +kernel
theorem dX8_letterOf_20 : decode cX8_letterOf 20 = .ok (.iload_n 0, 1) := by decide +kernel
theorem dX8_letterOf_21 : decode cX8_letterOf 21 = .ok (.bipush 103, 2) := by decide +kernel
theorem dX8_letterOf_23 : decode cX8_letterOf 23 = .ok (.if_icmp .ne 7, 3) := by decide +kernel
theorem dX8_letterOf_26 : decode cX8_letterOf 26 = .ok (.iconst 2, 1) := by decide +kernel
theorem dX8_letterOf_27 : decode cX8_letterOf 27 = .ok (.goto 45, 3) := by decide +kernel
theorem dX8_letterOf_30 : decode cX8_letterOf 30 = .ok (.iload_n 0, 1) := by decide +kernel
theorem dX8_letterOf_31 : decode cX8_letterOf 31 = .ok (.bipush 107, 2) := by decide +kernel
theorem dX8_letterOf_33 : decode cX8_letterOf 33 = .ok (.if_icmp .ne 7, 3) := by decide +kernel
theorem dX8_letterOf_36 : decode cX8_letterOf 36 = .ok (.iconst 3, 1) := by decide +kernel
theorem dX8_letterOf_37 : decode cX8_letterOf 37 = .ok (.goto 35, 3) := by decide +kernel
theorem dX8_letterOf_40 : decode cX8_letterOf 40 = .ok (.iload_n 0, 1) := by decide +kernel
theorem dX8_letterOf_41 : decode cX8_letterOf 41 = .ok (.bipush 108, 2) := by decide +kernel
theorem dX8_letterOf_43 : decode cX8_letterOf 43 = .ok (.if_icmp .ne 7, 3) := by decide +kernel
theorem dX8_letterOf_46 : decode cX8_letterOf 46 = .ok (.iconst 4, 1) := by decide +kernel
theorem dX8_letterOf_47 : decode cX8_letterOf 47 = .ok (.goto 25, 3) := by decide +kernel
theorem dX8_letterOf_50 : decode cX8_letterOf 50 = .ok (.iload_n 0, 1) := by decide +kernel
theorem dX8_letterOf_51 : decode cX8_letterOf 51 = .ok (.bipush 115, 2) := by decide +kernel
theorem dX8_letterOf_53 : decode cX8_letterOf 53 = .ok (.if_icmp .ne 7, 3) := by decide +kernel
theorem dX8_letterOf_56 : decode cX8_letterOf 56 = .ok (.iconst 5, 1) := by decide +kernel
theorem dX8_letterOf_57 : decode cX8_letterOf 57 = .ok (.goto 15, 3) := by decide +kernel
theorem dX8_letterOf_60 : decode cX8_letterOf 60 = .ok (.iload_n 0, 1) := by decide +kernel
theorem dX8_letterOf_61 : decode cX8_letterOf 61 = .ok (.bipush 110, 2) := by decide +kernel
theorem dX8_letterOf_63 : decode cX8_letterOf 63 = .ok (.if_icmp .ne 8, 3) := by decide +kernel
theorem dX8_letterOf_66 : decode cX8_letterOf 66 = .ok (.bipush 6, 2) := by decide +kernel
theorem dX8_letterOf_68 : decode cX8_letterOf 68 = .ok (.goto 4, 3) := by decide +kernel
theorem dX8_letterOf_71 : decode cX8_letterOf 71 = .ok (.iconst (-1), 1) := by decide +kernel
theorem dX8_letterOf_72 : decode cX8_letterOf 72 = .ok (.ireturn, 1) := by decide +kernel
def p_X8_letterOf (F : Nat) (p0 : Int32) (Post : Int32 → Prop) : Prop := ((¬ p0 = (106 : Int32) → ((¬ p0 = (98 : Int32) → ((¬ p0 = (103 : Int32) → ((¬ p0 = (107 : Int32) → ((¬ p0 = (108 : Int32) → ((¬ p0 = (115 : Int32) → ((¬ p0 = (110 : Int32) → (Post (-1 : Int32))) ∧ (p0 = (110 : Int32) → (Post (6 : Int32))))) ∧ (p0 = (115 : Int32) → (Post (5 : Int32))))) ∧ (p0 = (108 : Int32) → (Post (4 : Int32))))) ∧ (p0 = (107 : Int32) → (Post (3 : Int32))))) ∧ (p0 = (103 : Int32) → (Post (2 : Int32))))) ∧ (p0 = (98 : Int32) → (Post (1 : Int32))))) ∧ (p0 = (106 : Int32) → (Post (0 : Int32))))
set_option maxHeartbeats 4000000 in
set_option maxRecDepth 100000 in
theorem c_X8_letterOf (l : Launch) (D : va_G) (cT : Nat → ClassId) (F : Nat) (p0 : Int32) (Post : Int32 → Prop) (hg : p_X8_letterOf F p0 Post) : MRi l D cT yX8_letterOf cX8_letterOf 1 (some .int) 0 0 [.int p0] [] Post := by
  refine MRi.of (by decide) (Nat.le_of_ble_eq_true rfl) ?_
  intro p e s m below meth c C0 hr hP hD ls hl
  have hl : lv_has ls 1 [(0, .int p0)] := hl
  have hx := C0.x
  have hb := C0.b
  have hP : va_P D cls9 [] s.heap := hP
  have hD : va_D (fun _ => True) [] := hD
  unfold p_X8_letterOf at hg
  refine lv_iload_n hx hb dX8_letterOf_0 rfl (lv_at hl 0 rfl) ?_
  refine lv_bipush (v := (106 : Int32)) hx hb dX8_letterOf_1 (by decide) ?_
  refine lv_icmp_ne (tgt := 10) hx hb dX8_letterOf_3 (by decide) (fun c_3 => ?_) (fun c_3 => ?_)
  · have hg := hg.1 c_3
    refine lv_iload_n hx hb dX8_letterOf_10 rfl (lv_at hl 0 rfl) ?_
    refine lv_bipush (v := (98 : Int32)) hx hb dX8_letterOf_11 (by decide) ?_
    refine lv_icmp_ne (tgt := 20) hx hb dX8_letterOf_13 (by decide) (fun c_13 => ?_) (fun c_13 => ?_)
    · have hg := hg.1 c_13
      refine lv_iload_n hx hb dX8_letterOf_20 rfl (lv_at hl 0 rfl) ?_
      refine lv_bipush (v := (103 : Int32)) hx hb dX8_letterOf_21 (by decide) ?_
      refine lv_icmp_ne (tgt := 30) hx hb dX8_letterOf_23 (by decide) (fun c_23 => ?_) (fun c_23 => ?_)
      · have hg := hg.1 c_23
        refine lv_iload_n hx hb dX8_letterOf_30 rfl (lv_at hl 0 rfl) ?_
        refine lv_bipush (v := (107 : Int32)) hx hb dX8_letterOf_31 (by decide) ?_
        refine lv_icmp_ne (tgt := 40) hx hb dX8_letterOf_33 (by decide) (fun c_33 => ?_) (fun c_33 => ?_)
        · have hg := hg.1 c_33
          refine lv_iload_n hx hb dX8_letterOf_40 rfl (lv_at hl 0 rfl) ?_
          refine lv_bipush (v := (108 : Int32)) hx hb dX8_letterOf_41 (by decide) ?_
          refine lv_icmp_ne (tgt := 50) hx hb dX8_letterOf_43 (by decide) (fun c_43 => ?_) (fun c_43 => ?_)
          · have hg := hg.1 c_43
            refine lv_iload_n hx hb dX8_letterOf_50 rfl (lv_at hl 0 rfl) ?_
            refine lv_bipush (v := (115 : Int32)) hx hb dX8_letterOf_51 (by decide) ?_
            refine lv_icmp_ne (tgt := 60) hx hb dX8_letterOf_53 (by decide) (fun c_53 => ?_) (fun c_53 => ?_)
            · have hg := hg.1 c_53
              refine lv_iload_n hx hb dX8_letterOf_60 rfl (lv_at hl 0 rfl) ?_
              refine lv_bipush (v := (110 : Int32)) hx hb dX8_letterOf_61 (by decide) ?_
              refine lv_icmp_ne (tgt := 71) hx hb dX8_letterOf_63 (by decide) (fun c_63 => ?_) (fun c_63 => ?_)
              · have hg := hg.1 c_63
                refine lv_iconst (v := (-1 : Int32)) hx hb dX8_letterOf_71 (by decide) ?_
                exact k_xiret C0 hr hg dX8_letterOf_72
              have hg := hg.2 c_63
              refine lv_bipush (v := (6 : Int32)) hx hb dX8_letterOf_66 (by decide) ?_
              refine lv_goto (tgt := 72) hx hb dX8_letterOf_68 (by decide) ?_
              exact k_xiret C0 hr hg dX8_letterOf_72
            have hg := hg.2 c_53
            refine lv_iconst (v := (5 : Int32)) hx hb dX8_letterOf_56 (by decide) ?_
            refine lv_goto (tgt := 72) hx hb dX8_letterOf_57 (by decide) ?_
            exact k_xiret C0 hr hg dX8_letterOf_72
          have hg := hg.2 c_43
          refine lv_iconst (v := (4 : Int32)) hx hb dX8_letterOf_46 (by decide) ?_
          refine lv_goto (tgt := 72) hx hb dX8_letterOf_47 (by decide) ?_
          exact k_xiret C0 hr hg dX8_letterOf_72
        have hg := hg.2 c_33
        refine lv_iconst (v := (3 : Int32)) hx hb dX8_letterOf_36 (by decide) ?_
        refine lv_goto (tgt := 72) hx hb dX8_letterOf_37 (by decide) ?_
        exact k_xiret C0 hr hg dX8_letterOf_72
      have hg := hg.2 c_23
      refine lv_iconst (v := (2 : Int32)) hx hb dX8_letterOf_26 (by decide) ?_
      refine lv_goto (tgt := 72) hx hb dX8_letterOf_27 (by decide) ?_
      exact k_xiret C0 hr hg dX8_letterOf_72
    have hg := hg.2 c_13
    refine lv_iconst (v := (1 : Int32)) hx hb dX8_letterOf_16 (by decide) ?_
    refine lv_goto (tgt := 72) hx hb dX8_letterOf_17 (by decide) ?_
    exact k_xiret C0 hr hg dX8_letterOf_72
  have hg := hg.2 c_3
  refine lv_iconst (v := (0 : Int32)) hx hb dX8_letterOf_6 (by decide) ?_
  refine lv_goto (tgt := 72) hx hb dX8_letterOf_7 (by decide) ?_
  exact k_xiret C0 hr hg dX8_letterOf_72
theorem dX8_there_0 : decode cX8_there 0 = .ok (.iconst 0, 1) := by decide +kernel
theorem dX8_there_1 : decode cX8_there 1 = .ok (.istore_n 3, 1) := by decide +kernel
theorem dX8_there_2 : decode cX8_there 2 = .ok (.iconst 0, 1) := by decide +kernel
theorem dX8_there_3 : decode cX8_there 3 = .ok (.istore 4, 2) := by decide +kernel
theorem dX8_there_5 : decode cX8_there 5 = .ok (.iload 4, 2) := by decide +kernel
theorem dX8_there_7 : decode cX8_there 7 = .ok (.aload_n 0, 1) := by decide +kernel
theorem dX8_there_8 : decode cX8_there 8 = .ok (.getfield 96, 3) := by decide +kernel
theorem dX8_there_11 : decode cX8_there 11 = .ok (.if_icmp .ge 31, 3) := by decide +kernel
theorem dX8_there_14 : decode cX8_there 14 = .ok (.iload_n 3, 1) := by decide +kernel
theorem dX8_there_15 : decode cX8_there 15 = .ok (.aload_n 1, 1) := by decide +kernel
theorem dX8_there_16 : decode cX8_there 16 = .ok (.bipush 36, 2) := by decide +kernel
theorem dX8_there_18 : decode cX8_there 18 = .ok (.iload 4, 2) := by decide +kernel
theorem dX8_there_20 : decode cX8_there 20 = .ok (.iadd, 1) := by decide +kernel
theorem dX8_there_21 : decode cX8_there 21 = .ok (.iaload, 1) := by decide +kernel
theorem dX8_there_22 : decode cX8_there 22 = .ok (.iload_n 2, 1) := by decide +kernel
theorem dX8_there_23 : decode cX8_there 23 = .ok (.if_icmp .ne 10, 3) := by decide +kernel
theorem dX8_there_26 : decode cX8_there 26 = .ok (.iconst 1, 1) := by decide +kernel
theorem dX8_there_27 : decode cX8_there 27 = .ok (.iload 4, 2) := by decide +kernel
theorem dX8_there_29 : decode cX8_there 29 = .ok (.ishl, 1) := by decide +kernel
theorem dX8_there_30 : decode cX8_there 30 = .ok (.goto 4, 3) := by decide +kernel
theorem dX8_there_33 : decode cX8_there 33 = .ok (.iconst 0, 1) := by decide +kernel
theorem dX8_there_34 : decode cX8_there 34 = .ok (.ior, 1) := by decide +kernel
theorem dX8_there_35 : decode cX8_there 35 = .ok (.istore_n 3, 1) := by decide +kernel
theorem dX8_there_36 : decode cX8_there 36 = .ok (.iinc 4 1, 3) := by decide +kernel
theorem dX8_there_39 : decode cX8_there 39 = .ok (.goto (-34), 3) := by decide +kernel
theorem dX8_there_42 : decode cX8_there 42 = .ok (.iload_n 3, 1) := by decide +kernel
theorem dX8_there_43 : decode cX8_there 43 = .ok (.ireturn, 1) := by decide +kernel
def p_X8_there_34 (F : Nat) (y4_5 : Int32) (y3_5 : Int32) (k5 : Int32 → Int32 → Prop) (Post : Int32 → Prop) (s1_34 : Int32) : Prop := (k5 (y4_5 + (1 : Int32)) (y3_5 ||| s1_34))
noncomputable def p_X8_there_5 (F : Nat) (p2 : Int32) (x_cats : Int32) (n_b1 : Nat) (f_b1 : Nat → Int32) (Post : Int32 → Prop) (n : Nat) : Int32 → Int32 → Prop := Nat.rec (motive := fun _ => Int32 → Int32 → Prop) (fun _ _ => False) (fun _ k5 => fun (y4_5 : Int32) (y3_5 : Int32) => ((x_cats ≤ y4_5 → (Post y3_5)) ∧ (¬ x_cats ≤ y4_5 → (vp_in ((36 : Int32) + y4_5) n_b1 ∧ ((¬ (f_b1 ((36 : Int32) + y4_5).toNatClampNeg) = p2 → (p_X8_there_34 F y4_5 y3_5 k5 Post (0 : Int32))) ∧ ((f_b1 ((36 : Int32) + y4_5).toNatClampNeg) = p2 → (p_X8_there_34 F y4_5 y3_5 k5 Post ((1 : Int32) <<< (y4_5 &&& 31))))))))) n
theorem p_X8_there_5_s (F : Nat) (p2 : Int32) (x_cats : Int32) (n_b1 : Nat) (f_b1 : Nat → Int32) (Post : Int32 → Prop) (n : Nat) (y4_5 : Int32) (y3_5 : Int32) : p_X8_there_5 F p2 x_cats n_b1 f_b1 Post (n + 1) y4_5 y3_5 = ((x_cats ≤ y4_5 → (Post y3_5)) ∧ (¬ x_cats ≤ y4_5 → (vp_in ((36 : Int32) + y4_5) n_b1 ∧ ((¬ (f_b1 ((36 : Int32) + y4_5).toNatClampNeg) = p2 → (p_X8_there_34 F y4_5 y3_5 (p_X8_there_5 F p2 x_cats n_b1 f_b1 Post n) Post (0 : Int32))) ∧ ((f_b1 ((36 : Int32) + y4_5).toNatClampNeg) = p2 → (p_X8_there_34 F y4_5 y3_5 (p_X8_there_5 F p2 x_cats n_b1 f_b1 Post n) Post ((1 : Int32) <<< (y4_5 &&& 31)))))))) := rfl
def p_X8_there (F : Nat) (p2 : Int32) (x_cats : Int32) (n_b1 : Nat) (f_b1 : Nat → Int32) (Post : Int32 → Prop) : Prop := (p_X8_there_5 F p2 x_cats n_b1 f_b1 Post F (0 : Int32) (0 : Int32))
set_option maxHeartbeats 4000000 in
set_option maxRecDepth 100000 in
theorem c_X8_there (l : Launch) (D : va_G) (cT : Nat → ClassId) (F : Nat) (h : Nat) (b1 : Nat) (p2 : Int32) (w_now : Value) (x_arches : Int32) (x_cats : Int32) (w_text : Value) (x_typed : Int32) (w_row : Value) (x_rowMany : Int32) (x_thrown : Int32) (w_read : Value) (x_length : Int32) (x_top : Int32) (x_at : Int32) (x_wrong : Int32) (w_told : Value) (w_rule : Value) (w_otherRule : Value) (x_ruleSize : Int32) (x_isAsked : Int32) (w_asked : Value) (w_undos : Value) (x_undoMany : Int32) (w_aside : Value) (w_then : Value) (w_hold : Value) (x_dropped : Int32) (w_acts : Value) (w_guarded : Value) (w_train : Value) (x_trolleyEnd : Int32) (w_feltOf : Value) (w_feltBy : Value) (x_feltMany : Int32) (w_many : Value) (w_heardOf : Value) (w_heardBy : Value) (x_heardMany : Int32) (w_worth : Value) (x_drawn : Int32) (x_came : Int32) (w_kept : Value) (w_isKept : Value) (w_keptCame : Value) (n_b1 : Nat) (f_b1 : Nat → Int32) (Post : Int32 → Prop) (hg : p_X8_there F p2 x_cats n_b1 f_b1 Post) : MRi l D cT yX8_there cX8_there 5 (some .int) 0 0 [.ref h, .ref b1, .int p2] [(h, oX8 w_now (.int x_arches) (.int x_cats) w_text (.int x_typed) w_row (.int x_rowMany) (.int x_thrown) w_read (.int x_length) (.int x_top) (.int x_at) (.int x_wrong) w_told w_rule w_otherRule (.int x_ruleSize) (.int x_isAsked) w_asked w_undos (.int x_undoMany) w_aside w_then w_hold (.int x_dropped) w_acts w_guarded w_train (.int x_trolleyEnd) w_feltOf w_feltBy (.int x_feltMany) w_many w_heardOf w_heardBy (.int x_heardMany) w_worth (.int x_drawn) (.int x_came) w_kept w_isKept w_keptCame), (b1, aI cT n_b1 f_b1)] Post := by
  refine MRi.of (by decide) (Nat.le_of_ble_eq_true rfl) ?_
  intro p e s m below meth c C0 hr hP hD ls hl
  have hl : lv_has ls 5 [(0, .ref h), (1, .ref b1), (2, .int p2)] := hl
  have hx := C0.x
  have hb := C0.b
  have hP : va_P D cls9 [(h, oX8 w_now (.int x_arches) (.int x_cats) w_text (.int x_typed) w_row (.int x_rowMany) (.int x_thrown) w_read (.int x_length) (.int x_top) (.int x_at) (.int x_wrong) w_told w_rule w_otherRule (.int x_ruleSize) (.int x_isAsked) w_asked w_undos (.int x_undoMany) w_aside w_then w_hold (.int x_dropped) w_acts w_guarded w_train (.int x_trolleyEnd) w_feltOf w_feltBy (.int x_feltMany) w_many w_heardOf w_heardBy (.int x_heardMany) w_worth (.int x_drawn) (.int x_came) w_kept w_isKept w_keptCame), (b1, aI cT n_b1 f_b1)] s.heap := hP
  have hD : va_D (fun _ => True) [(h, oX8 w_now (.int x_arches) (.int x_cats) w_text (.int x_typed) w_row (.int x_rowMany) (.int x_thrown) w_read (.int x_length) (.int x_top) (.int x_at) (.int x_wrong) w_told w_rule w_otherRule (.int x_ruleSize) (.int x_isAsked) w_asked w_undos (.int x_undoMany) w_aside w_then w_hold (.int x_dropped) w_acts w_guarded w_train (.int x_trolleyEnd) w_feltOf w_feltBy (.int x_feltMany) w_many w_heardOf w_heardBy (.int x_heardMany) w_worth (.int x_drawn) (.int x_came) w_kept w_isKept w_keptCame), (b1, aI cT n_b1 f_b1)] := hD
  have L5 : ∀ (n5 : Nat) (y4_5 : Int32) (y3_5 : Int32) (ls : Array Slot), p_X8_there_5 F p2 x_cats n_b1 f_b1 Post n5 y4_5 y3_5 → lv_has ls 5 [(0, .ref h), (1, .ref b1), (2, .int p2), (3, .int y3_5), (4, .int y4_5)] → W p l e (rmO 0 0 0 0) s m ([.ref h, .ref b1, .int p2] : List Value).toArray below meth c s.heap [] 0 0 (MQ below (vp_Si Post) ([.ref h, .ref b1, .int p2] : List Value).toArray s 0 0 (fun _ => False)) (F0 m 5 ls []) := by
    intro n5
    induction n5 with
    | zero =>
      intro y4_5 y3_5 ls hg hl
      exact False.elim hg
    | succ n5 ih5 =>
      have L34 : ∀ (y4_5 : Int32) (y3_5 : Int32) (s1_34 : Int32) (ls : Array Slot), p_X8_there_34 F y4_5 y3_5 (p_X8_there_5 F p2 x_cats n_b1 f_b1 Post n5) Post s1_34 → lv_has ls 5 [(0, .ref h), (1, .ref b1), (2, .int p2), (4, .int y4_5)] → W p l e (rmO 0 0 0 0) s m ([.ref h, .ref b1, .int p2] : List Value).toArray below meth c s.heap [] 0 0 (MQ below (vp_Si Post) ([.ref h, .ref b1, .int p2] : List Value).toArray s 0 0 (fun _ => False)) (F0 m 34 ls [.int s1_34, .int y3_5]) := by
        intro y4_5 y3_5 s1_34 ls hg hl
        unfold p_X8_there_34 at hg
        refine lv_ior hx hb dX8_there_34 ?_
        refine lv_istore_n (lv' := [(3, .int (y3_5 ||| s1_34)), (0, .ref h), (1, .ref b1), (2, .int p2), (4, .int y4_5)]) hx hb dX8_there_35 rfl hl (by decide) rfl (fun ls hl => ?_)
        refine lv_iinc (v := (y4_5 + (1 : Int32))) (lv' := [(4, .int (y4_5 + (1 : Int32))), (3, .int (y3_5 ||| s1_34)), (0, .ref h), (1, .ref b1), (2, .int p2)]) hx hb dX8_there_36 hl (k := 4) rfl rfl (by decide) rfl (fun ls hl => ?_)
        refine lv_goto (tgt := 5) hx hb dX8_there_39 (by decide) ?_
        exact ih5 (y4_5 + (1 : Int32)) (y3_5 ||| s1_34) _ hg (lv_sub hl [2, 3, 4, 1, 0] rfl)
      intro y4_5 y3_5 ls hg hl
      rw [p_X8_there_5_s] at hg
      refine lv_iload hx hb dX8_there_5 (lv_at hl 4 rfl) ?_
      refine lv_aload_n hx hb dX8_there_7 rfl (lv_at hl 0 rfl) ?_
      refine gf_X8_96 C0 hP 0 rfl rfl dX8_there_8 ?_
      refine lv_icmp_ge (tgt := 42) hx hb dX8_there_11 (by decide) (fun c_11 => ?_) (fun c_11 => ?_)
      · have hg := hg.1 c_11
        refine lv_iload_n hx hb dX8_there_42 rfl (lv_at hl 3 rfl) ?_
        exact k_xiret C0 hr hg dX8_there_43
      have hg := hg.2 c_11
      refine lv_iload_n hx hb dX8_there_14 rfl (lv_at hl 3 rfl) ?_
      refine lv_aload_n hx hb dX8_there_15 rfl (lv_at hl 1 rfl) ?_
      refine lv_bipush (v := (36 : Int32)) hx hb dX8_there_16 (by decide) ?_
      refine lv_iload hx hb dX8_there_18 (lv_at hl 4 rfl) ?_
      refine lv_iadd hx hb dX8_there_20 ?_
      obtain ⟨g_21, hg⟩ := hg
      refine k_iald C0 hP 1 rfl g_21 dX8_there_21 ?_
      refine lv_iload_n hx hb dX8_there_22 rfl (lv_at hl 2 rfl) ?_
      refine lv_icmp_ne (tgt := 33) hx hb dX8_there_23 (by decide) (fun c_23 => ?_) (fun c_23 => ?_)
      · have hg := hg.1 c_23
        refine lv_iconst (v := (0 : Int32)) hx hb dX8_there_33 (by decide) ?_
        exact L34 y4_5 y3_5 (0 : Int32) _ hg (lv_sub hl [0, 1, 2, 4] rfl)
      have hg := hg.2 c_23
      refine lv_iconst (v := (1 : Int32)) hx hb dX8_there_26 (by decide) ?_
      refine lv_iload hx hb dX8_there_27 (lv_at hl 4 rfl) ?_
      refine lv_ishl hx hb dX8_there_29 ?_
      refine lv_goto (tgt := 34) hx hb dX8_there_30 (by decide) ?_
      exact L34 y4_5 y3_5 ((1 : Int32) <<< (y4_5 &&& 31)) _ hg (lv_sub hl [0, 1, 2, 4] rfl)
  unfold p_X8_there at hg
  refine lv_iconst (v := (0 : Int32)) hx hb dX8_there_0 (by decide) ?_
  refine lv_istore_n (lv' := [(3, .int (0 : Int32)), (0, .ref h), (1, .ref b1), (2, .int p2)]) hx hb dX8_there_1 rfl hl (by decide) rfl (fun ls hl => ?_)
  refine lv_iconst (v := (0 : Int32)) hx hb dX8_there_2 (by decide) ?_
  refine lv_istore (lv' := [(4, .int (0 : Int32)), (3, .int (0 : Int32)), (0, .ref h), (1, .ref b1), (2, .int p2)]) hx hb dX8_there_3 hl (by decide) rfl (fun ls hl => ?_)
  exact L5 F (0 : Int32) (0 : Int32) _ hg (lv_sub hl [2, 3, 4, 1, 0] rfl)
theorem dX8_sumOf_0 : decode cX8_sumOf 0 = .ok (.iconst 0, 1) := by decide +kernel
theorem dX8_sumOf_1 : decode cX8_sumOf 1 = .ok (.istore_n 3, 1) := by decide +kernel
theorem dX8_sumOf_2 : decode cX8_sumOf 2 = .ok (.iconst 0, 1) := by decide +kernel
theorem dX8_sumOf_3 : decode cX8_sumOf 3 = .ok (.istore 4, 2) := by decide +kernel
theorem dX8_sumOf_5 : decode cX8_sumOf 5 = .ok (.iload 4, 2) := by decide +kernel
theorem dX8_sumOf_7 : decode cX8_sumOf 7 = .ok (.iload_n 2, 1) := by decide +kernel
theorem dX8_sumOf_8 : decode cX8_sumOf 8 = .ok (.if_icmp .ge 18, 3) := by decide +kernel
theorem dX8_sumOf_11 : decode cX8_sumOf 11 = .ok (.iload_n 3, 1) := by decide +kernel
theorem dX8_sumOf_12 : decode cX8_sumOf 12 = .ok (.aload_n 0, 1) := by decide +kernel
theorem dX8_sumOf_13 : decode cX8_sumOf 13 = .ok (.iload_n 1, 1) := by decide +kernel
theorem dX8_sumOf_14 : decode cX8_sumOf 14 = .ok (.iload 4, 2) := by decide +kernel
theorem dX8_sumOf_16 : decode cX8_sumOf 16 = .ok (.iadd, 1) := by decide +kernel
theorem dX8_sumOf_17 : decode cX8_sumOf 17 = .ok (.iaload, 1) := by decide +kernel
theorem dX8_sumOf_18 : decode cX8_sumOf 18 = .ok (.iadd, 1) := by decide +kernel
theorem dX8_sumOf_19 : decode cX8_sumOf 19 = .ok (.istore_n 3, 1) := by decide +kernel
theorem dX8_sumOf_20 : decode cX8_sumOf 20 = .ok (.iinc 4 1, 3) := by decide +kernel
theorem dX8_sumOf_23 : decode cX8_sumOf 23 = .ok (.goto (-18), 3) := by decide +kernel
theorem dX8_sumOf_26 : decode cX8_sumOf 26 = .ok (.iload_n 3, 1) := by decide +kernel
theorem dX8_sumOf_27 : decode cX8_sumOf 27 = .ok (.ireturn, 1) := by decide +kernel
noncomputable def p_X8_sumOf_5 (F : Nat) (p1 : Int32) (p2 : Int32) (n_b0 : Nat) (f_b0 : Nat → Int32) (Post : Int32 → Prop) (n : Nat) : Int32 → Int32 → Prop := Nat.rec (motive := fun _ => Int32 → Int32 → Prop) (fun _ _ => False) (fun _ k5 => fun (y4_5 : Int32) (y3_5 : Int32) => ((p2 ≤ y4_5 → (Post y3_5)) ∧ (¬ p2 ≤ y4_5 → (vp_in (p1 + y4_5) n_b0 ∧ (k5 (y4_5 + (1 : Int32)) (y3_5 + (f_b0 (p1 + y4_5).toNatClampNeg))))))) n
theorem p_X8_sumOf_5_s (F : Nat) (p1 : Int32) (p2 : Int32) (n_b0 : Nat) (f_b0 : Nat → Int32) (Post : Int32 → Prop) (n : Nat) (y4_5 : Int32) (y3_5 : Int32) : p_X8_sumOf_5 F p1 p2 n_b0 f_b0 Post (n + 1) y4_5 y3_5 = ((p2 ≤ y4_5 → (Post y3_5)) ∧ (¬ p2 ≤ y4_5 → (vp_in (p1 + y4_5) n_b0 ∧ ((p_X8_sumOf_5 F p1 p2 n_b0 f_b0 Post n) (y4_5 + (1 : Int32)) (y3_5 + (f_b0 (p1 + y4_5).toNatClampNeg)))))) := rfl
def p_X8_sumOf (F : Nat) (p1 : Int32) (p2 : Int32) (n_b0 : Nat) (f_b0 : Nat → Int32) (Post : Int32 → Prop) : Prop := (p_X8_sumOf_5 F p1 p2 n_b0 f_b0 Post F (0 : Int32) (0 : Int32))
set_option maxHeartbeats 4000000 in
set_option maxRecDepth 100000 in
theorem c_X8_sumOf (l : Launch) (D : va_G) (cT : Nat → ClassId) (F : Nat) (b0 : Nat) (p1 : Int32) (p2 : Int32) (n_b0 : Nat) (f_b0 : Nat → Int32) (Post : Int32 → Prop) (hg : p_X8_sumOf F p1 p2 n_b0 f_b0 Post) : MRi l D cT yX8_sumOf cX8_sumOf 5 (some .int) 0 0 [.ref b0, .int p1, .int p2] [(b0, aI cT n_b0 f_b0)] Post := by
  refine MRi.of (by decide) (Nat.le_of_ble_eq_true rfl) ?_
  intro p e s m below meth c C0 hr hP hD ls hl
  have hl : lv_has ls 5 [(0, .ref b0), (1, .int p1), (2, .int p2)] := hl
  have hx := C0.x
  have hb := C0.b
  have hP : va_P D cls9 [(b0, aI cT n_b0 f_b0)] s.heap := hP
  have hD : va_D (fun _ => True) [(b0, aI cT n_b0 f_b0)] := hD
  have L5 : ∀ (n5 : Nat) (y4_5 : Int32) (y3_5 : Int32) (ls : Array Slot), p_X8_sumOf_5 F p1 p2 n_b0 f_b0 Post n5 y4_5 y3_5 → lv_has ls 5 [(0, .ref b0), (1, .int p1), (2, .int p2), (3, .int y3_5), (4, .int y4_5)] → W p l e (rmO 0 0 0 0) s m ([.ref b0, .int p1, .int p2] : List Value).toArray below meth c s.heap [] 0 0 (MQ below (vp_Si Post) ([.ref b0, .int p1, .int p2] : List Value).toArray s 0 0 (fun _ => False)) (F0 m 5 ls []) := by
    intro n5
    induction n5 with
    | zero =>
      intro y4_5 y3_5 ls hg hl
      exact False.elim hg
    | succ n5 ih5 =>
      intro y4_5 y3_5 ls hg hl
      rw [p_X8_sumOf_5_s] at hg
      refine lv_iload hx hb dX8_sumOf_5 (lv_at hl 4 rfl) ?_
      refine lv_iload_n hx hb dX8_sumOf_7 rfl (lv_at hl 2 rfl) ?_
      refine lv_icmp_ge (tgt := 26) hx hb dX8_sumOf_8 (by decide) (fun c_8 => ?_) (fun c_8 => ?_)
      · have hg := hg.1 c_8
        refine lv_iload_n hx hb dX8_sumOf_26 rfl (lv_at hl 3 rfl) ?_
        exact k_xiret C0 hr hg dX8_sumOf_27
      have hg := hg.2 c_8
      refine lv_iload_n hx hb dX8_sumOf_11 rfl (lv_at hl 3 rfl) ?_
      refine lv_aload_n hx hb dX8_sumOf_12 rfl (lv_at hl 0 rfl) ?_
      refine lv_iload_n hx hb dX8_sumOf_13 rfl (lv_at hl 1 rfl) ?_
      refine lv_iload hx hb dX8_sumOf_14 (lv_at hl 4 rfl) ?_
      refine lv_iadd hx hb dX8_sumOf_16 ?_
      obtain ⟨g_17, hg⟩ := hg
      refine k_iald C0 hP 0 rfl g_17 dX8_sumOf_17 ?_
      refine lv_iadd hx hb dX8_sumOf_18 ?_
      refine lv_istore_n (lv' := [(3, .int (y3_5 + (f_b0 (p1 + y4_5).toNatClampNeg))), (0, .ref b0), (1, .int p1), (2, .int p2), (4, .int y4_5)]) hx hb dX8_sumOf_19 rfl hl (by decide) rfl (fun ls hl => ?_)
      refine lv_iinc (v := (y4_5 + (1 : Int32))) (lv' := [(4, .int (y4_5 + (1 : Int32))), (3, .int (y3_5 + (f_b0 (p1 + y4_5).toNatClampNeg))), (0, .ref b0), (1, .int p1), (2, .int p2)]) hx hb dX8_sumOf_20 hl (k := 4) rfl rfl (by decide) rfl (fun ls hl => ?_)
      refine lv_goto (tgt := 5) hx hb dX8_sumOf_23 (by decide) ?_
      exact ih5 (y4_5 + (1 : Int32)) (y3_5 + (f_b0 (p1 + y4_5).toNatClampNeg)) _ hg (lv_sub hl [2, 3, 4, 1, 0] rfl)
  unfold p_X8_sumOf at hg
  refine lv_iconst (v := (0 : Int32)) hx hb dX8_sumOf_0 (by decide) ?_
  refine lv_istore_n (lv' := [(3, .int (0 : Int32)), (0, .ref b0), (1, .int p1), (2, .int p2)]) hx hb dX8_sumOf_1 rfl hl (by decide) rfl (fun ls hl => ?_)
  refine lv_iconst (v := (0 : Int32)) hx hb dX8_sumOf_2 (by decide) ?_
  refine lv_istore (lv' := [(4, .int (0 : Int32)), (3, .int (0 : Int32)), (0, .ref b0), (1, .int p1), (2, .int p2)]) hx hb dX8_sumOf_3 hl (by decide) rfl (fun ls hl => ?_)
  exact L5 F (0 : Int32) (0 : Int32) _ hg (lv_sub hl [2, 3, 4, 1, 0] rfl)
theorem dX8_sags_0 : decode cX8_sags 0 = .ok (.aload_n 1, 1) := by decide +kernel
theorem dX8_sags_1 : decode cX8_sags 1 = .ok (.bipush 6, 2) := by decide +kernel
theorem dX8_sags_3 : decode cX8_sags 3 = .ok (.aload_n 0, 1) := by decide +kernel
theorem dX8_sags_4 : decode cX8_sags 4 = .ok (.getfield 89, 3) := by decide +kernel
theorem dX8_sags_7 : decode cX8_sags 7 = .ok (.invokestatic 227, 3) := by decide +kernel
theorem dX8_sags_10 : decode cX8_sags 10 = .ok (.ireturn, 1) := by decide +kernel
def p_X8_sags (F : Nat) (x_arches : Int32) (n_b1 : Nat) (f_b1 : Nat → Int32) (Post : Int32 → Prop) : Prop := (p_X8_sumOf F (6 : Int32) x_arches n_b1 f_b1 (fun (r_7 : Int32) => (Post r_7)))
set_option maxHeartbeats 4000000 in
set_option maxRecDepth 100000 in
theorem c_X8_sags (l : Launch) (D : va_G) (cT : Nat → ClassId) (F : Nat) (h : Nat) (b1 : Nat) (w_now : Value) (x_arches : Int32) (x_cats : Int32) (w_text : Value) (x_typed : Int32) (w_row : Value) (x_rowMany : Int32) (x_thrown : Int32) (w_read : Value) (x_length : Int32) (x_top : Int32) (x_at : Int32) (x_wrong : Int32) (w_told : Value) (w_rule : Value) (w_otherRule : Value) (x_ruleSize : Int32) (x_isAsked : Int32) (w_asked : Value) (w_undos : Value) (x_undoMany : Int32) (w_aside : Value) (w_then : Value) (w_hold : Value) (x_dropped : Int32) (w_acts : Value) (w_guarded : Value) (w_train : Value) (x_trolleyEnd : Int32) (w_feltOf : Value) (w_feltBy : Value) (x_feltMany : Int32) (w_many : Value) (w_heardOf : Value) (w_heardBy : Value) (x_heardMany : Int32) (w_worth : Value) (x_drawn : Int32) (x_came : Int32) (w_kept : Value) (w_isKept : Value) (w_keptCame : Value) (n_b1 : Nat) (f_b1 : Nat → Int32) (Post : Int32 → Prop) (hg : p_X8_sags F x_arches n_b1 f_b1 Post) : MRi l D cT yX8_sags cX8_sags 2 (some .int) 1 24 [.ref h, .ref b1] [(h, oX8 w_now (.int x_arches) (.int x_cats) w_text (.int x_typed) w_row (.int x_rowMany) (.int x_thrown) w_read (.int x_length) (.int x_top) (.int x_at) (.int x_wrong) w_told w_rule w_otherRule (.int x_ruleSize) (.int x_isAsked) w_asked w_undos (.int x_undoMany) w_aside w_then w_hold (.int x_dropped) w_acts w_guarded w_train (.int x_trolleyEnd) w_feltOf w_feltBy (.int x_feltMany) w_many w_heardOf w_heardBy (.int x_heardMany) w_worth (.int x_drawn) (.int x_came) w_kept w_isKept w_keptCame), (b1, aI cT n_b1 f_b1)] Post := by
  refine MRi.of (by decide) (Nat.le_of_ble_eq_true rfl) ?_
  intro p e s m below meth c C0 hr hP hD ls hl
  have hl : lv_has ls 2 [(0, .ref h), (1, .ref b1)] := hl
  have hx := C0.x
  have hb := C0.b
  have hP : va_P D cls9 [(h, oX8 w_now (.int x_arches) (.int x_cats) w_text (.int x_typed) w_row (.int x_rowMany) (.int x_thrown) w_read (.int x_length) (.int x_top) (.int x_at) (.int x_wrong) w_told w_rule w_otherRule (.int x_ruleSize) (.int x_isAsked) w_asked w_undos (.int x_undoMany) w_aside w_then w_hold (.int x_dropped) w_acts w_guarded w_train (.int x_trolleyEnd) w_feltOf w_feltBy (.int x_feltMany) w_many w_heardOf w_heardBy (.int x_heardMany) w_worth (.int x_drawn) (.int x_came) w_kept w_isKept w_keptCame), (b1, aI cT n_b1 f_b1)] s.heap := hP
  have hD : va_D (fun _ => True) [(h, oX8 w_now (.int x_arches) (.int x_cats) w_text (.int x_typed) w_row (.int x_rowMany) (.int x_thrown) w_read (.int x_length) (.int x_top) (.int x_at) (.int x_wrong) w_told w_rule w_otherRule (.int x_ruleSize) (.int x_isAsked) w_asked w_undos (.int x_undoMany) w_aside w_then w_hold (.int x_dropped) w_acts w_guarded w_train (.int x_trolleyEnd) w_feltOf w_feltBy (.int x_feltMany) w_many w_heardOf w_heardBy (.int x_heardMany) w_worth (.int x_drawn) (.int x_came) w_kept w_isKept w_keptCame), (b1, aI cT n_b1 f_b1)] := hD
  unfold p_X8_sags at hg
  refine lv_aload_n hx hb dX8_sags_0 rfl (lv_at hl 1 rfl) ?_
  refine lv_bipush (v := (6 : Int32)) hx hb dX8_sags_1 (by decide) ?_
  refine lv_aload_n hx hb dX8_sags_3 rfl (lv_at hl 0 rfl) ?_
  refine gf_X8_89 C0 hP 0 rfl rfl dX8_sags_4 ?_
  refine k_Sxi (rest := []) C0 lk_X8_227 (c_X8_sumOf l D cT F b1 (6 : Int32) x_arches n_b1 f_b1 _ hg) hP hD [1] (by decide +kernel) rfl ⟨Nat.le_of_ble_eq_true rfl, Nat.le_of_ble_eq_true rfl⟩ rfl hl.1 rfl (Nat.le_of_ble_eq_true rfl) dX8_sags_7 ⟨Nat.le_of_ble_eq_true rfl, Nat.le_of_ble_eq_true rfl⟩ (fun r_7 hg => ?_)
  exact k_xiret C0 hr hg dX8_sags_10
theorem dX8_sheet_0 : decode cX8_sheet 0 = .ok (.aload_n 0, 1) := by decide +kernel
theorem dX8_sheet_1 : decode cX8_sheet 1 = .ok (.iconst 0, 1) := by decide +kernel
theorem dX8_sheet_2 : decode cX8_sheet 2 = .ok (.putfield 82, 3) := by decide +kernel
theorem dX8_sheet_5 : decode cX8_sheet 5 = .ok (.iload_n 1, 1) := by decide +kernel
theorem dX8_sheet_6 : decode cX8_sheet 6 = .ok (.iconst 0, 1) := by decide +kernel
theorem dX8_sheet_7 : decode cX8_sheet 7 = .ok (.iconst 3, 1) := by decide +kernel
theorem dX8_sheet_8 : decode cX8_sheet 8 = .ok (.invokestatic 92, 3) := by decide +kernel
theorem dX8_sheet_11 : decode cX8_sheet 11 = .ok (.ifCond .eq 9, 3) := by decide +kernel
theorem dX8_sheet_14 : decode cX8_sheet 14 = .ok (.iload_n 2, 1) := by decide +kernel
theorem dX8_sheet_15 : decode cX8_sheet 15 = .ok (.bipush 6, 2) := by decide +kernel
theorem dX8_sheet_17 : decode cX8_sheet 17 = .ok (.if_icmp .le 5, 3) := by decide +kernel
theorem dX8_sheet_20 : decode cX8_sheet 20 = .ok (.iconst (-1), 1) := by decide +kernel
theorem dX8_sheet_21 : decode cX8_sheet 21 = .ok (.ireturn, 1) := by decide +kernel
theorem dX8_sheet_22 : decode cX8_sheet 22 = .ok (.iload_n 1, 1) := by decide +kernel
theorem dX8_sheet_23 : decode cX8_sheet 23 = .ok (.iconst 3, 1) := by decide +kernel
theorem dX8_sheet_24 : decode cX8_sheet 24 = .ok (.if_icmp .ge 10, 3) := by decide +kernel
theorem dX8_sheet_27 : decode cX8_sheet 27 = .ok (.iload_n 2, 1) := by decide +kernel
theorem dX8_sheet_28 : decode cX8_sheet 28 = .ok (.ifCond .ge 6, 3) := by decide +kernel
theorem dX8_sheet_31 : decode cX8_sheet 31 = .ok (.bipush (-2), 2) := by decide +kernel
theorem dX8_sheet_33 : decode cX8_sheet 33 = .ok (.ireturn, 1) := by decide +kernel
theorem dX8_sheet_34 : decode cX8_sheet 34 = .ok (.iload_n 3, 1) := by decide +kernel
theorem dX8_sheet_35 : decode cX8_sheet 35 = .ok (.istore 5, 2) := by decide +kernel
theorem dX8_sheet_37 : decode cX8_sheet 37 = .ok (.iconst 0, 1) := by decide +kernel
theorem dX8_sheet_38 : decode cX8_sheet 38 = .ok (.istore 6, 2) := by decide +kernel
theorem dX8_sheet_40 : decode cX8_sheet 40 = .ok (.iload 6, 2) := by decide +kernel
theorem dX8_sheet_42 : decode cX8_sheet 42 = .ok (.aload_n 0, 1) := by decide +kernel
theorem dX8_sheet_43 : decode cX8_sheet 43 = .ok (.getfield 89, 3) := by decide +kernel
theorem dX8_sheet_46 : decode cX8_sheet 46 = .ok (.if_icmp .ge 74, 3) := by decide +kernel
theorem dX8_sheet_49 : decode cX8_sheet 49 = .ok (.iload_n 1, 1) := by decide +kernel
theorem dX8_sheet_50 : decode cX8_sheet 50 = .ok (.ifCond .ne 9, 3) := by decide +kernel
theorem dX8_sheet_53 : decode cX8_sheet 53 = .ok (.iload 5, 2) := by decide +kernel
theorem dX8_sheet_55 : decode cX8_sheet 55 = .ok (.i2b, 1) := by decide +kernel
theorem dX8_sheet_56 : decode cX8_sheet 56 = .ok (.goto 16, 3) := by decide +kernel
theorem dX8_sheet_59 : decode cX8_sheet 59 = .ok (.iload_n 1, 1) := by decide +kernel
theorem dX8_sheet_60 : decode cX8_sheet 60 = .ok (.iconst 1, 1) := by decide +kernel
theorem dX8_sheet_61 : decode cX8_sheet 61 = .ok (.if_icmp .ne 9, 3) := by decide +kernel
theorem dX8_sheet_64 : decode cX8_sheet 64 = .ok (.iload 5, 2) := by decide +kernel
theorem dX8_sheet_66 : decode cX8_sheet 66 = .ok (.i2s, 1) := by decide +kernel
theorem dX8_sheet_67 : decode cX8_sheet 67 = .ok (.goto 5, 3) := by decide +kernel
theorem dX8_sheet_70 : decode cX8_sheet 70 = .ok (.iload 5, 2) := by decide +kernel
theorem dX8_sheet_72 : decode cX8_sheet 72 = .ok (.istore 7, 2) := by decide +kernel
theorem dX8_sheet_74 : decode cX8_sheet 74 = .ok (.aload_n 0, 1) := by decide +kernel
theorem dX8_sheet_75 : decode cX8_sheet 75 = .ok (.getfield 9, 3) := by decide +kernel
theorem dX8_sheet_78 : decode cX8_sheet 78 = .ok (.iload 6, 2) := by decide +kernel
theorem dX8_sheet_80 : decode cX8_sheet 80 = .ok (.iload_n 1, 1) := by decide +kernel
theorem dX8_sheet_81 : decode cX8_sheet 81 = .ok (.iconst 3, 1) := by decide +kernel
theorem dX8_sheet_82 : decode cX8_sheet 82 = .ok (.if_icmp .eq 9, 3) := by decide +kernel
theorem dX8_sheet_85 : decode cX8_sheet 85 = .ok (.iload 6, 2) := by decide +kernel
theorem dX8_sheet_87 : decode cX8_sheet 87 = .ok (.iload_n 2, 1) := by decide +kernel
theorem dX8_sheet_88 : decode cX8_sheet 88 = .ok (.if_icmp .lt 7, 3) := by decide +kernel
theorem dX8_sheet_91 : decode cX8_sheet 91 = .ok (.iconst 0, 1) := by decide +kernel
theorem dX8_sheet_92 : decode cX8_sheet 92 = .ok (.goto 14, 3) := by decide +kernel
theorem dX8_sheet_95 : decode cX8_sheet 95 = .ok (.iconst 0, 1) := by decide +kernel
theorem dX8_sheet_96 : decode cX8_sheet 96 = .ok (.bipush 9, 2) := by decide +kernel
theorem dX8_sheet_98 : decode cX8_sheet 98 = .ok (.iload 7, 2) := by decide +kernel
theorem dX8_sheet_100 : decode cX8_sheet 100 = .ok (.invokestatic 189, 3) := by decide +kernel
theorem dX8_sheet_103 : decode cX8_sheet 103 = .ok (.invokestatic 195, 3) := by decide +kernel
theorem dX8_sheet_106 : decode cX8_sheet 106 = .ok (.iastore, 1) := by decide +kernel
theorem dX8_sheet_107 : decode cX8_sheet 107 = .ok (.iload 5, 2) := by decide +kernel
theorem dX8_sheet_109 : decode cX8_sheet 109 = .ok (.iload 4, 2) := by decide +kernel
theorem dX8_sheet_111 : decode cX8_sheet 111 = .ok (.iadd, 1) := by decide +kernel
theorem dX8_sheet_112 : decode cX8_sheet 112 = .ok (.istore 5, 2) := by decide +kernel
theorem dX8_sheet_114 : decode cX8_sheet 114 = .ok (.iinc 6 1, 3) := by decide +kernel
theorem dX8_sheet_117 : decode cX8_sheet 117 = .ok (.goto (-77), 3) := by decide +kernel
theorem dX8_sheet_120 : decode cX8_sheet 120 = .ok (.iload_n 1, 1) := by decide +kernel
theorem dX8_sheet_121 : decode cX8_sheet 121 = .ok (.iconst 3, 1) := by decide +kernel
theorem dX8_sheet_122 : decode cX8_sheet 122 = .ok (.if_icmp .ne 8, 3) := by decide +kernel
theorem dX8_sheet_125 : decode cX8_sheet 125 = .ok (.bipush (-3), 2) := by decide +kernel
theorem dX8_sheet_127 : decode cX8_sheet 127 = .ok (.goto 15, 3) := by decide +kernel
theorem dX8_sheet_130 : decode cX8_sheet 130 = .ok (.aload_n 0, 1) := by decide +kernel
theorem dX8_sheet_131 : decode cX8_sheet 131 = .ok (.getfield 9, 3) := by decide +kernel
theorem dX8_sheet_134 : decode cX8_sheet 134 = .ok (.iconst 0, 1) := by decide +kernel
theorem dX8_sheet_135 : decode cX8_sheet 135 = .ok (.aload_n 0, 1) := by decide +kernel
theorem dX8_sheet_136 : decode cX8_sheet 136 = .ok (.getfield 89, 3) := by decide +kernel
theorem dX8_sheet_139 : decode cX8_sheet 139 = .ok (.invokestatic 227, 3) := by decide +kernel
theorem dX8_sheet_142 : decode cX8_sheet 142 = .ok (.ireturn, 1) := by decide +kernel
def p_X8_sheet_106 (F : Nat) (p4 : Int32) (y6_40 : Int32) (y5_40 : Int32) (f_now_40 : Nat → Int32) (k40 : Int32 → Int32 → (Nat → Int32) → Prop) (Post : Int32 → (Int32 × (Nat → Int32)) → Prop) (s2_106 : Int32) : Prop := (vp_in y6_40 47 ∧ (k40 (y6_40 + (1 : Int32)) (y5_40 + p4) (upd f_now_40 y6_40.toNatClampNeg s2_106)))
def p_X8_sheet_91 (F : Nat) (p4 : Int32) (y6_40 : Int32) (y5_40 : Int32) (f_now_40 : Nat → Int32) (k40 : Int32 → Int32 → (Nat → Int32) → Prop) (Post : Int32 → (Int32 × (Nat → Int32)) → Prop) : Prop := (p_X8_sheet_106 F p4 y6_40 y5_40 f_now_40 k40 Post (0 : Int32))
def p_X8_sheet_72 (F : Nat) (p1 : Int32) (p2 : Int32) (p4 : Int32) (y6_40 : Int32) (y5_40 : Int32) (f_now_40 : Nat → Int32) (k40 : Int32 → Int32 → (Nat → Int32) → Prop) (Post : Int32 → (Int32 × (Nat → Int32)) → Prop) (s0_72 : Int32) : Prop := ((p1 = (3 : Int32) → (p_X8_sheet_91 F p4 y6_40 y5_40 f_now_40 k40 Post )) ∧ (¬ p1 = (3 : Int32) → ((y6_40 < p2 → (p_X8_sheet_106 F p4 y6_40 y5_40 f_now_40 k40 Post (if (0 : Int32) < (if s0_72 < (9 : Int32) then s0_72 else (9 : Int32)) then (if s0_72 < (9 : Int32) then s0_72 else (9 : Int32)) else (0 : Int32)))) ∧ (¬ y6_40 < p2 → (p_X8_sheet_91 F p4 y6_40 y5_40 f_now_40 k40 Post )))))
noncomputable def p_X8_sheet_40 (F : Nat) (p1 : Int32) (p2 : Int32) (p4 : Int32) (x_arches : Int32) (Post : Int32 → (Int32 × (Nat → Int32)) → Prop) (n : Nat) : Int32 → Int32 → (Nat → Int32) → Prop := Nat.rec (motive := fun _ => Int32 → Int32 → (Nat → Int32) → Prop) (fun _ _ _ => False) (fun _ k40 => fun (y6_40 : Int32) (y5_40 : Int32) (f_now_40 : Nat → Int32) => ((x_arches ≤ y6_40 → ((¬ p1 = (3 : Int32) → (p_X8_sumOf F (0 : Int32) x_arches 47 f_now_40 (fun (r_139 : Int32) => (Post r_139 ((0 : Int32), f_now_40))))) ∧ (p1 = (3 : Int32) → (Post (-3 : Int32) ((0 : Int32), f_now_40))))) ∧ (¬ x_arches ≤ y6_40 → ((¬ p1 = 0 → ((¬ p1 = (1 : Int32) → (p_X8_sheet_72 F p1 p2 p4 y6_40 y5_40 f_now_40 k40 Post y5_40)) ∧ (p1 = (1 : Int32) → (p_X8_sheet_72 F p1 p2 p4 y6_40 y5_40 f_now_40 k40 Post (y5_40.toInt16.toInt32))))) ∧ (p1 = 0 → (p_X8_sheet_72 F p1 p2 p4 y6_40 y5_40 f_now_40 k40 Post (y5_40.toInt8.toInt32))))))) n
theorem p_X8_sheet_40_s (F : Nat) (p1 : Int32) (p2 : Int32) (p4 : Int32) (x_arches : Int32) (Post : Int32 → (Int32 × (Nat → Int32)) → Prop) (n : Nat) (y6_40 : Int32) (y5_40 : Int32) (f_now_40 : Nat → Int32) : p_X8_sheet_40 F p1 p2 p4 x_arches Post (n + 1) y6_40 y5_40 f_now_40 = ((x_arches ≤ y6_40 → ((¬ p1 = (3 : Int32) → (p_X8_sumOf F (0 : Int32) x_arches 47 f_now_40 (fun (r_139 : Int32) => (Post r_139 ((0 : Int32), f_now_40))))) ∧ (p1 = (3 : Int32) → (Post (-3 : Int32) ((0 : Int32), f_now_40))))) ∧ (¬ x_arches ≤ y6_40 → ((¬ p1 = 0 → ((¬ p1 = (1 : Int32) → (p_X8_sheet_72 F p1 p2 p4 y6_40 y5_40 f_now_40 (p_X8_sheet_40 F p1 p2 p4 x_arches Post n) Post y5_40)) ∧ (p1 = (1 : Int32) → (p_X8_sheet_72 F p1 p2 p4 y6_40 y5_40 f_now_40 (p_X8_sheet_40 F p1 p2 p4 x_arches Post n) Post (y5_40.toInt16.toInt32))))) ∧ (p1 = 0 → (p_X8_sheet_72 F p1 p2 p4 y6_40 y5_40 f_now_40 (p_X8_sheet_40 F p1 p2 p4 x_arches Post n) Post (y5_40.toInt8.toInt32)))))) := rfl
def p_X8_sheet_34 (F : Nat) (p1 : Int32) (p2 : Int32) (p3 : Int32) (p4 : Int32) (x_arches : Int32) (f_now : Nat → Int32) (Post : Int32 → (Int32 × (Nat → Int32)) → Prop) : Prop := (p_X8_sheet_40 F p1 p2 p4 x_arches Post F (0 : Int32) p3 f_now)
def p_X8_sheet (F : Nat) (p1 : Int32) (p2 : Int32) (p3 : Int32) (p4 : Int32) (x_arches : Int32) (f_now : Nat → Int32) (Post : Int32 → (Int32 × (Nat → Int32)) → Prop) : Prop := (p_X8_in F p1 (0 : Int32) (3 : Int32) (fun (r_8 : Int32) => ((r_8 = 0 → (Post (-1 : Int32) ((0 : Int32), f_now))) ∧ (¬ r_8 = 0 → ((p2 ≤ (6 : Int32) → (((3 : Int32) ≤ p1 → (p_X8_sheet_34 F p1 p2 p3 p4 x_arches f_now Post )) ∧ (¬ (3 : Int32) ≤ p1 → ((0 ≤ p2 → (p_X8_sheet_34 F p1 p2 p3 p4 x_arches f_now Post )) ∧ (¬ 0 ≤ p2 → (Post (-2 : Int32) ((0 : Int32), f_now))))))) ∧ (¬ p2 ≤ (6 : Int32) → (Post (-1 : Int32) ((0 : Int32), f_now))))))))
set_option maxHeartbeats 4000000 in
set_option maxRecDepth 100000 in
theorem c_X8_sheet (l : Launch) (D : va_G) (cT : Nat → ClassId) (F : Nat) (h : Nat) (p1 : Int32) (p2 : Int32) (p3 : Int32) (p4 : Int32) (q_now : Nat) (x_arches : Int32) (x_cats : Int32) (w_text : Value) (x_typed : Int32) (w_row : Value) (x_rowMany : Int32) (x_thrown : Int32) (w_read : Value) (x_length : Int32) (x_top : Int32) (x_at : Int32) (x_wrong : Int32) (w_told : Value) (w_rule : Value) (w_otherRule : Value) (x_ruleSize : Int32) (x_isAsked : Int32) (w_asked : Value) (w_undos : Value) (x_undoMany : Int32) (w_aside : Value) (w_then : Value) (w_hold : Value) (x_dropped : Int32) (w_acts : Value) (w_guarded : Value) (w_train : Value) (x_trolleyEnd : Int32) (w_feltOf : Value) (w_feltBy : Value) (x_feltMany : Int32) (w_many : Value) (w_heardOf : Value) (w_heardBy : Value) (x_heardMany : Int32) (w_worth : Value) (x_drawn : Int32) (x_came : Int32) (w_kept : Value) (w_isKept : Value) (w_keptCame : Value) (f_now : Nat → Int32) (Post : Int32 → (Int32 × (Nat → Int32)) → Prop) (hg : p_X8_sheet F p1 p2 p3 p4 x_arches f_now Post) : MWi l D cT yX8_sheet cX8_sheet 8 (some .int) 1 30 0 0 [.ref h, .int p1, .int p2, .int p3, .int p4] [(h, oX8 (.ref q_now) (.int x_arches) (.int x_cats) w_text (.int x_typed) w_row (.int x_rowMany) (.int x_thrown) w_read (.int x_length) (.int x_top) (.int x_at) (.int x_wrong) w_told w_rule w_otherRule (.int x_ruleSize) (.int x_isAsked) w_asked w_undos (.int x_undoMany) w_aside w_then w_hold (.int x_dropped) w_acts w_guarded w_train (.int x_trolleyEnd) w_feltOf w_feltBy (.int x_feltMany) w_many w_heardOf w_heardBy (.int x_heardMany) w_worth (.int x_drawn) (.int x_came) w_kept w_isKept w_keptCame), (q_now, aI cT 47 f_now)] Post (fun (u : (Int32 × (Nat → Int32))) => [(h, oX8 (.ref q_now) (.int x_arches) (.int x_cats) w_text (.int x_typed) w_row (.int x_rowMany) (.int u.1) w_read (.int x_length) (.int x_top) (.int x_at) (.int x_wrong) w_told w_rule w_otherRule (.int x_ruleSize) (.int x_isAsked) w_asked w_undos (.int x_undoMany) w_aside w_then w_hold (.int x_dropped) w_acts w_guarded w_train (.int x_trolleyEnd) w_feltOf w_feltBy (.int x_feltMany) w_many w_heardOf w_heardBy (.int x_heardMany) w_worth (.int x_drawn) (.int x_came) w_kept w_isKept w_keptCame), (q_now, aI cT 47 u.2)]) := by
  refine MWi.of (by decide) (Nat.le_of_ble_eq_true rfl) ?_
  intro p e s m below meth c A hA C0 hnm hr hP hD ls hl
  have hl : lv_has ls 8 [(0, .ref h), (1, .int p1), (2, .int p2), (3, .int p3), (4, .int p4)] := hl
  have hx := C0.x
  have hb := C0.b
  have hS : va_S A s.heap s.heap [] := va_S.rf
  have hP : va_P D cls9 [(h, oX8 (.ref q_now) (.int x_arches) (.int x_cats) w_text (.int x_typed) w_row (.int x_rowMany) (.int x_thrown) w_read (.int x_length) (.int x_top) (.int x_at) (.int x_wrong) w_told w_rule w_otherRule (.int x_ruleSize) (.int x_isAsked) w_asked w_undos (.int x_undoMany) w_aside w_then w_hold (.int x_dropped) w_acts w_guarded w_train (.int x_trolleyEnd) w_feltOf w_feltBy (.int x_feltMany) w_many w_heardOf w_heardBy (.int x_heardMany) w_worth (.int x_drawn) (.int x_came) w_kept w_isKept w_keptCame), (q_now, aI cT 47 f_now)] s.heap := hP
  have hD : va_D A [(h, oX8 (.ref q_now) (.int x_arches) (.int x_cats) w_text (.int x_typed) w_row (.int x_rowMany) (.int x_thrown) w_read (.int x_length) (.int x_top) (.int x_at) (.int x_wrong) w_told w_rule w_otherRule (.int x_ruleSize) (.int x_isAsked) w_asked w_undos (.int x_undoMany) w_aside w_then w_hold (.int x_dropped) w_acts w_guarded w_train (.int x_trolleyEnd) w_feltOf w_feltBy (.int x_feltMany) w_many w_heardOf w_heardBy (.int x_heardMany) w_worth (.int x_drawn) (.int x_came) w_kept w_isKept w_keptCame), (q_now, aI cT 47 f_now)] := hD
  have L40 : ∀ (n40 : Nat) (y6_40 : Int32) (y5_40 : Int32) (f_now_40 : Nat → Int32) (H : Heap) (locs : List Loc) (ls : Array Slot), p_X8_sheet_40 F p1 p2 p4 x_arches Post n40 y6_40 y5_40 f_now_40 → va_P D cls9 [(h, oX8 (.ref q_now) (.int x_arches) (.int x_cats) w_text (.int x_typed) w_row (.int x_rowMany) (.int (0 : Int32)) w_read (.int x_length) (.int x_top) (.int x_at) (.int x_wrong) w_told w_rule w_otherRule (.int x_ruleSize) (.int x_isAsked) w_asked w_undos (.int x_undoMany) w_aside w_then w_hold (.int x_dropped) w_acts w_guarded w_train (.int x_trolleyEnd) w_feltOf w_feltBy (.int x_feltMany) w_many w_heardOf w_heardBy (.int x_heardMany) w_worth (.int x_drawn) (.int x_came) w_kept w_isKept w_keptCame), (q_now, aI cT 47 f_now_40)] H → va_D A [(h, oX8 (.ref q_now) (.int x_arches) (.int x_cats) w_text (.int x_typed) w_row (.int x_rowMany) (.int (0 : Int32)) w_read (.int x_length) (.int x_top) (.int x_at) (.int x_wrong) w_told w_rule w_otherRule (.int x_ruleSize) (.int x_isAsked) w_asked w_undos (.int x_undoMany) w_aside w_then w_hold (.int x_dropped) w_acts w_guarded w_train (.int x_trolleyEnd) w_feltOf w_feltBy (.int x_feltMany) w_many w_heardOf w_heardBy (.int x_heardMany) w_worth (.int x_drawn) (.int x_came) w_kept w_isKept w_keptCame), (q_now, aI cT 47 f_now_40)] → va_S A s.heap H locs → lv_has ls 8 [(0, .ref h), (1, .int p1), (2, .int p2), (4, .int p4), (5, .int y5_40), (6, .int y6_40)] → W p l e (rmO 1 30 0 0) s m ([.ref h, .int p1, .int p2, .int p3, .int p4] : List Value).toArray below meth c H locs 0 0 (MQ below (va_Qi Post (cB D A (fun (u : (Int32 × (Nat → Int32))) => [(h, oX8 (.ref q_now) (.int x_arches) (.int x_cats) w_text (.int x_typed) w_row (.int x_rowMany) (.int u.1) w_read (.int x_length) (.int x_top) (.int x_at) (.int x_wrong) w_told w_rule w_otherRule (.int x_ruleSize) (.int x_isAsked) w_asked w_undos (.int x_undoMany) w_aside w_then w_hold (.int x_dropped) w_acts w_guarded w_train (.int x_trolleyEnd) w_feltOf w_feltBy (.int x_feltMany) w_many w_heardOf w_heardBy (.int x_heardMany) w_worth (.int x_drawn) (.int x_came) w_kept w_isKept w_keptCame), (q_now, aI cT 47 u.2)])) A) ([.ref h, .int p1, .int p2, .int p3, .int p4] : List Value).toArray s 0 0 A) (F0 m 40 ls []) := by
    intro n40
    induction n40 with
    | zero =>
      intro y6_40 y5_40 f_now_40 H locs ls hg hP hD hS hl
      exact False.elim hg
    | succ n40 ih40 =>
      have L106 : ∀ (y6_40 : Int32) (y5_40 : Int32) (f_now_40 : Nat → Int32) (s2_106 : Int32) (H : Heap) (locs : List Loc) (ls : Array Slot), p_X8_sheet_106 F p4 y6_40 y5_40 f_now_40 (p_X8_sheet_40 F p1 p2 p4 x_arches Post n40) Post s2_106 → va_P D cls9 [(h, oX8 (.ref q_now) (.int x_arches) (.int x_cats) w_text (.int x_typed) w_row (.int x_rowMany) (.int (0 : Int32)) w_read (.int x_length) (.int x_top) (.int x_at) (.int x_wrong) w_told w_rule w_otherRule (.int x_ruleSize) (.int x_isAsked) w_asked w_undos (.int x_undoMany) w_aside w_then w_hold (.int x_dropped) w_acts w_guarded w_train (.int x_trolleyEnd) w_feltOf w_feltBy (.int x_feltMany) w_many w_heardOf w_heardBy (.int x_heardMany) w_worth (.int x_drawn) (.int x_came) w_kept w_isKept w_keptCame), (q_now, aI cT 47 f_now_40)] H → va_D A [(h, oX8 (.ref q_now) (.int x_arches) (.int x_cats) w_text (.int x_typed) w_row (.int x_rowMany) (.int (0 : Int32)) w_read (.int x_length) (.int x_top) (.int x_at) (.int x_wrong) w_told w_rule w_otherRule (.int x_ruleSize) (.int x_isAsked) w_asked w_undos (.int x_undoMany) w_aside w_then w_hold (.int x_dropped) w_acts w_guarded w_train (.int x_trolleyEnd) w_feltOf w_feltBy (.int x_feltMany) w_many w_heardOf w_heardBy (.int x_heardMany) w_worth (.int x_drawn) (.int x_came) w_kept w_isKept w_keptCame), (q_now, aI cT 47 f_now_40)] → va_S A s.heap H locs → lv_has ls 8 [(0, .ref h), (1, .int p1), (2, .int p2), (4, .int p4), (5, .int y5_40), (6, .int y6_40)] → W p l e (rmO 1 30 0 0) s m ([.ref h, .int p1, .int p2, .int p3, .int p4] : List Value).toArray below meth c H locs 0 0 (MQ below (va_Qi Post (cB D A (fun (u : (Int32 × (Nat → Int32))) => [(h, oX8 (.ref q_now) (.int x_arches) (.int x_cats) w_text (.int x_typed) w_row (.int x_rowMany) (.int u.1) w_read (.int x_length) (.int x_top) (.int x_at) (.int x_wrong) w_told w_rule w_otherRule (.int x_ruleSize) (.int x_isAsked) w_asked w_undos (.int x_undoMany) w_aside w_then w_hold (.int x_dropped) w_acts w_guarded w_train (.int x_trolleyEnd) w_feltOf w_feltBy (.int x_feltMany) w_many w_heardOf w_heardBy (.int x_heardMany) w_worth (.int x_drawn) (.int x_came) w_kept w_isKept w_keptCame), (q_now, aI cT 47 u.2)])) A) ([.ref h, .int p1, .int p2, .int p3, .int p4] : List Value).toArray s 0 0 A) (F0 m 106 ls [.int s2_106, .int y6_40, .ref q_now]) := by
        intro y6_40 y5_40 f_now_40 s2_106 H locs ls hg hP hD hS hl
        unfold p_X8_sheet_106 at hg
        obtain ⟨g_106, hg⟩ := hg
        refine k_iast C0 hP hD hS 1 rfl g_106 (ws' := [(h, oX8 (.ref q_now) (.int x_arches) (.int x_cats) w_text (.int x_typed) w_row (.int x_rowMany) (.int (0 : Int32)) w_read (.int x_length) (.int x_top) (.int x_at) (.int x_wrong) w_told w_rule w_otherRule (.int x_ruleSize) (.int x_isAsked) w_asked w_undos (.int x_undoMany) w_aside w_then w_hold (.int x_dropped) w_acts w_guarded w_train (.int x_trolleyEnd) w_feltOf w_feltBy (.int x_feltMany) w_many w_heardOf w_heardBy (.int x_heardMany) w_worth (.int x_drawn) (.int x_came) w_kept w_isKept w_keptCame), (q_now, aI cT 47 (upd f_now_40 y6_40.toNatClampNeg s2_106))]) rfl dX8_sheet_106 (fun H locs hP hD hS => ?_)
        refine lv_iload hx hb dX8_sheet_107 (lv_at hl 4 rfl) ?_
        refine lv_iload hx hb dX8_sheet_109 (lv_at hl 3 rfl) ?_
        refine lv_iadd hx hb dX8_sheet_111 ?_
        refine lv_istore (lv' := [(5, .int (y5_40 + p4)), (0, .ref h), (1, .int p1), (2, .int p2), (4, .int p4), (6, .int y6_40)]) hx hb dX8_sheet_112 hl (by decide) rfl (fun ls hl => ?_)
        refine lv_iinc (v := (y6_40 + (1 : Int32))) (lv' := [(6, .int (y6_40 + (1 : Int32))), (5, .int (y5_40 + p4)), (0, .ref h), (1, .int p1), (2, .int p2), (4, .int p4)]) hx hb dX8_sheet_114 hl (k := 5) rfl rfl (by decide) rfl (fun ls hl => ?_)
        refine lv_goto (tgt := 40) hx hb dX8_sheet_117 (by decide) ?_
        exact ih40 (y6_40 + (1 : Int32)) (y5_40 + p4) (upd f_now_40 y6_40.toNatClampNeg s2_106) _ _ _ hg hP hD hS (lv_sub hl [2, 3, 4, 5, 1, 0] rfl)
      have L91 : ∀ (y6_40 : Int32) (y5_40 : Int32) (f_now_40 : Nat → Int32) (H : Heap) (locs : List Loc) (ls : Array Slot), p_X8_sheet_91 F p4 y6_40 y5_40 f_now_40 (p_X8_sheet_40 F p1 p2 p4 x_arches Post n40) Post → va_P D cls9 [(h, oX8 (.ref q_now) (.int x_arches) (.int x_cats) w_text (.int x_typed) w_row (.int x_rowMany) (.int (0 : Int32)) w_read (.int x_length) (.int x_top) (.int x_at) (.int x_wrong) w_told w_rule w_otherRule (.int x_ruleSize) (.int x_isAsked) w_asked w_undos (.int x_undoMany) w_aside w_then w_hold (.int x_dropped) w_acts w_guarded w_train (.int x_trolleyEnd) w_feltOf w_feltBy (.int x_feltMany) w_many w_heardOf w_heardBy (.int x_heardMany) w_worth (.int x_drawn) (.int x_came) w_kept w_isKept w_keptCame), (q_now, aI cT 47 f_now_40)] H → va_D A [(h, oX8 (.ref q_now) (.int x_arches) (.int x_cats) w_text (.int x_typed) w_row (.int x_rowMany) (.int (0 : Int32)) w_read (.int x_length) (.int x_top) (.int x_at) (.int x_wrong) w_told w_rule w_otherRule (.int x_ruleSize) (.int x_isAsked) w_asked w_undos (.int x_undoMany) w_aside w_then w_hold (.int x_dropped) w_acts w_guarded w_train (.int x_trolleyEnd) w_feltOf w_feltBy (.int x_feltMany) w_many w_heardOf w_heardBy (.int x_heardMany) w_worth (.int x_drawn) (.int x_came) w_kept w_isKept w_keptCame), (q_now, aI cT 47 f_now_40)] → va_S A s.heap H locs → lv_has ls 8 [(0, .ref h), (1, .int p1), (2, .int p2), (4, .int p4), (5, .int y5_40), (6, .int y6_40)] → W p l e (rmO 1 30 0 0) s m ([.ref h, .int p1, .int p2, .int p3, .int p4] : List Value).toArray below meth c H locs 0 0 (MQ below (va_Qi Post (cB D A (fun (u : (Int32 × (Nat → Int32))) => [(h, oX8 (.ref q_now) (.int x_arches) (.int x_cats) w_text (.int x_typed) w_row (.int x_rowMany) (.int u.1) w_read (.int x_length) (.int x_top) (.int x_at) (.int x_wrong) w_told w_rule w_otherRule (.int x_ruleSize) (.int x_isAsked) w_asked w_undos (.int x_undoMany) w_aside w_then w_hold (.int x_dropped) w_acts w_guarded w_train (.int x_trolleyEnd) w_feltOf w_feltBy (.int x_feltMany) w_many w_heardOf w_heardBy (.int x_heardMany) w_worth (.int x_drawn) (.int x_came) w_kept w_isKept w_keptCame), (q_now, aI cT 47 u.2)])) A) ([.ref h, .int p1, .int p2, .int p3, .int p4] : List Value).toArray s 0 0 A) (F0 m 91 ls [.int y6_40, .ref q_now]) := by
        intro y6_40 y5_40 f_now_40 H locs ls hg hP hD hS hl
        unfold p_X8_sheet_91 at hg
        refine lv_iconst (v := (0 : Int32)) hx hb dX8_sheet_91 (by decide) ?_
        refine lv_goto (tgt := 106) hx hb dX8_sheet_92 (by decide) ?_
        exact L106 y6_40 y5_40 f_now_40 (0 : Int32) _ _ _ hg hP hD hS hl
      have L72 : ∀ (y6_40 : Int32) (y5_40 : Int32) (f_now_40 : Nat → Int32) (s0_72 : Int32) (H : Heap) (locs : List Loc) (ls : Array Slot), p_X8_sheet_72 F p1 p2 p4 y6_40 y5_40 f_now_40 (p_X8_sheet_40 F p1 p2 p4 x_arches Post n40) Post s0_72 → va_P D cls9 [(h, oX8 (.ref q_now) (.int x_arches) (.int x_cats) w_text (.int x_typed) w_row (.int x_rowMany) (.int (0 : Int32)) w_read (.int x_length) (.int x_top) (.int x_at) (.int x_wrong) w_told w_rule w_otherRule (.int x_ruleSize) (.int x_isAsked) w_asked w_undos (.int x_undoMany) w_aside w_then w_hold (.int x_dropped) w_acts w_guarded w_train (.int x_trolleyEnd) w_feltOf w_feltBy (.int x_feltMany) w_many w_heardOf w_heardBy (.int x_heardMany) w_worth (.int x_drawn) (.int x_came) w_kept w_isKept w_keptCame), (q_now, aI cT 47 f_now_40)] H → va_D A [(h, oX8 (.ref q_now) (.int x_arches) (.int x_cats) w_text (.int x_typed) w_row (.int x_rowMany) (.int (0 : Int32)) w_read (.int x_length) (.int x_top) (.int x_at) (.int x_wrong) w_told w_rule w_otherRule (.int x_ruleSize) (.int x_isAsked) w_asked w_undos (.int x_undoMany) w_aside w_then w_hold (.int x_dropped) w_acts w_guarded w_train (.int x_trolleyEnd) w_feltOf w_feltBy (.int x_feltMany) w_many w_heardOf w_heardBy (.int x_heardMany) w_worth (.int x_drawn) (.int x_came) w_kept w_isKept w_keptCame), (q_now, aI cT 47 f_now_40)] → va_S A s.heap H locs → lv_has ls 8 [(0, .ref h), (1, .int p1), (2, .int p2), (4, .int p4), (5, .int y5_40), (6, .int y6_40)] → W p l e (rmO 1 30 0 0) s m ([.ref h, .int p1, .int p2, .int p3, .int p4] : List Value).toArray below meth c H locs 0 0 (MQ below (va_Qi Post (cB D A (fun (u : (Int32 × (Nat → Int32))) => [(h, oX8 (.ref q_now) (.int x_arches) (.int x_cats) w_text (.int x_typed) w_row (.int x_rowMany) (.int u.1) w_read (.int x_length) (.int x_top) (.int x_at) (.int x_wrong) w_told w_rule w_otherRule (.int x_ruleSize) (.int x_isAsked) w_asked w_undos (.int x_undoMany) w_aside w_then w_hold (.int x_dropped) w_acts w_guarded w_train (.int x_trolleyEnd) w_feltOf w_feltBy (.int x_feltMany) w_many w_heardOf w_heardBy (.int x_heardMany) w_worth (.int x_drawn) (.int x_came) w_kept w_isKept w_keptCame), (q_now, aI cT 47 u.2)])) A) ([.ref h, .int p1, .int p2, .int p3, .int p4] : List Value).toArray s 0 0 A) (F0 m 72 ls [.int s0_72]) := by
        intro y6_40 y5_40 f_now_40 s0_72 H locs ls hg hP hD hS hl
        unfold p_X8_sheet_72 at hg
        refine lv_istore (lv' := [(7, .int s0_72), (0, .ref h), (1, .int p1), (2, .int p2), (4, .int p4), (5, .int y5_40), (6, .int y6_40)]) hx hb dX8_sheet_72 hl (by decide) rfl (fun ls hl => ?_)
        refine lv_aload_n hx hb dX8_sheet_74 rfl (lv_at hl 1 rfl) ?_
        refine gf_X8_9 C0 hP 0 rfl rfl dX8_sheet_75 ?_
        refine lv_iload hx hb dX8_sheet_78 (lv_at hl 6 rfl) ?_
        refine lv_iload_n hx hb dX8_sheet_80 rfl (lv_at hl 2 rfl) ?_
        refine lv_iconst (v := (3 : Int32)) hx hb dX8_sheet_81 (by decide) ?_
        refine lv_icmp_eq (tgt := 91) hx hb dX8_sheet_82 (by decide) (fun c_82 => ?_) (fun c_82 => ?_)
        · have hg := hg.1 c_82
          exact L91 y6_40 y5_40 f_now_40 _ _ _ hg hP hD hS (lv_sub hl [1, 2, 3, 4, 5, 6] rfl)
        have hg := hg.2 c_82
        refine lv_iload hx hb dX8_sheet_85 (lv_at hl 6 rfl) ?_
        refine lv_iload_n hx hb dX8_sheet_87 rfl (lv_at hl 3 rfl) ?_
        refine lv_icmp_lt (tgt := 95) hx hb dX8_sheet_88 (by decide) (fun c_88 => ?_) (fun c_88 => ?_)
        · have hg := hg.1 c_88
          refine lv_iconst (v := (0 : Int32)) hx hb dX8_sheet_95 (by decide) ?_
          refine lv_bipush (v := (9 : Int32)) hx hb dX8_sheet_96 (by decide) ?_
          refine lv_iload hx hb dX8_sheet_98 (lv_at hl 0 rfl) ?_
          refine k_min C0 w5_181 hl.1 (Nat.le_of_ble_eq_true rfl) (Nat.le_of_ble_eq_true rfl) (Nat.le_of_ble_eq_true rfl) (Nat.le_of_ble_eq_true rfl) dX8_sheet_100 ?_
          refine k_max C0 w5_182 hl.1 (Nat.le_of_ble_eq_true rfl) (Nat.le_of_ble_eq_true rfl) (Nat.le_of_ble_eq_true rfl) (Nat.le_of_ble_eq_true rfl) dX8_sheet_103 ?_
          exact L106 y6_40 y5_40 f_now_40 (if (0 : Int32) < (if s0_72 < (9 : Int32) then s0_72 else (9 : Int32)) then (if s0_72 < (9 : Int32) then s0_72 else (9 : Int32)) else (0 : Int32)) _ _ _ hg hP hD hS (lv_sub hl [1, 2, 3, 4, 5, 6] rfl)
        have hg := hg.2 c_88
        exact L91 y6_40 y5_40 f_now_40 _ _ _ hg hP hD hS (lv_sub hl [1, 2, 3, 4, 5, 6] rfl)
      intro y6_40 y5_40 f_now_40 H locs ls hg hP hD hS hl
      rw [p_X8_sheet_40_s] at hg
      refine lv_iload hx hb dX8_sheet_40 (lv_at hl 5 rfl) ?_
      refine lv_aload_n hx hb dX8_sheet_42 rfl (lv_at hl 0 rfl) ?_
      refine gf_X8_89 C0 hP 0 rfl rfl dX8_sheet_43 ?_
      refine lv_icmp_ge (tgt := 120) hx hb dX8_sheet_46 (by decide) (fun c_46 => ?_) (fun c_46 => ?_)
      · have hg := hg.1 c_46
        refine lv_iload_n hx hb dX8_sheet_120 rfl (lv_at hl 1 rfl) ?_
        refine lv_iconst (v := (3 : Int32)) hx hb dX8_sheet_121 (by decide) ?_
        refine lv_icmp_ne (tgt := 130) hx hb dX8_sheet_122 (by decide) (fun c_122 => ?_) (fun c_122 => ?_)
        · have hg := hg.1 c_122
          refine lv_aload_n hx hb dX8_sheet_130 rfl (lv_at hl 0 rfl) ?_
          refine gf_X8_9 C0 hP 0 rfl rfl dX8_sheet_131 ?_
          refine lv_iconst (v := (0 : Int32)) hx hb dX8_sheet_134 (by decide) ?_
          refine lv_aload_n hx hb dX8_sheet_135 rfl (lv_at hl 0 rfl) ?_
          refine gf_X8_89 C0 hP 0 rfl rfl dX8_sheet_136 ?_
          refine k_Sxi (rest := []) C0 lk_X8_227 (c_X8_sumOf l D cT F q_now (0 : Int32) x_arches 47 f_now_40 _ hg) hP hD [1] (by decide +kernel) rfl ⟨Nat.le_of_ble_eq_true rfl, Nat.le_of_ble_eq_true rfl⟩ rfl hl.1 rfl (Nat.le_of_ble_eq_true rfl) dX8_sheet_139 ⟨Nat.le_of_ble_eq_true rfl, Nat.le_of_ble_eq_true rfl⟩ (fun r_139 hg => ?_)
          exact k_iret C0 hr ((0 : Int32), f_now_40) hg hP hD hS dX8_sheet_142
        have hg := hg.2 c_122
        refine lv_bipush (v := (-3 : Int32)) hx hb dX8_sheet_125 (by decide) ?_
        refine lv_goto (tgt := 142) hx hb dX8_sheet_127 (by decide) ?_
        exact k_iret C0 hr ((0 : Int32), f_now_40) hg hP hD hS dX8_sheet_142
      have hg := hg.2 c_46
      refine lv_iload_n hx hb dX8_sheet_49 rfl (lv_at hl 1 rfl) ?_
      refine lv_if_ne (tgt := 59) hx hb dX8_sheet_50 (by decide) (fun c_50 => ?_) (fun c_50 => ?_)
      · have hg := hg.1 c_50
        refine lv_iload_n hx hb dX8_sheet_59 rfl (lv_at hl 1 rfl) ?_
        refine lv_iconst (v := (1 : Int32)) hx hb dX8_sheet_60 (by decide) ?_
        refine lv_icmp_ne (tgt := 70) hx hb dX8_sheet_61 (by decide) (fun c_61 => ?_) (fun c_61 => ?_)
        · have hg := hg.1 c_61
          refine lv_iload hx hb dX8_sheet_70 (lv_at hl 4 rfl) ?_
          exact L72 y6_40 y5_40 f_now_40 y5_40 _ _ _ hg hP hD hS hl
        have hg := hg.2 c_61
        refine lv_iload hx hb dX8_sheet_64 (lv_at hl 4 rfl) ?_
        refine lv_i2s (v := (y5_40.toInt16.toInt32)) hx hb dX8_sheet_66 rfl ?_
        refine lv_goto (tgt := 72) hx hb dX8_sheet_67 (by decide) ?_
        exact L72 y6_40 y5_40 f_now_40 (y5_40.toInt16.toInt32) _ _ _ hg hP hD hS hl
      have hg := hg.2 c_50
      refine lv_iload hx hb dX8_sheet_53 (lv_at hl 4 rfl) ?_
      refine lv_i2b (v := (y5_40.toInt8.toInt32)) hx hb dX8_sheet_55 rfl ?_
      refine lv_goto (tgt := 72) hx hb dX8_sheet_56 (by decide) ?_
      exact L72 y6_40 y5_40 f_now_40 (y5_40.toInt8.toInt32) _ _ _ hg hP hD hS hl
  have L34 : ∀ (H : Heap) (locs : List Loc) (ls : Array Slot), p_X8_sheet_34 F p1 p2 p3 p4 x_arches f_now Post → va_P D cls9 [(h, oX8 (.ref q_now) (.int x_arches) (.int x_cats) w_text (.int x_typed) w_row (.int x_rowMany) (.int (0 : Int32)) w_read (.int x_length) (.int x_top) (.int x_at) (.int x_wrong) w_told w_rule w_otherRule (.int x_ruleSize) (.int x_isAsked) w_asked w_undos (.int x_undoMany) w_aside w_then w_hold (.int x_dropped) w_acts w_guarded w_train (.int x_trolleyEnd) w_feltOf w_feltBy (.int x_feltMany) w_many w_heardOf w_heardBy (.int x_heardMany) w_worth (.int x_drawn) (.int x_came) w_kept w_isKept w_keptCame), (q_now, aI cT 47 f_now)] H → va_D A [(h, oX8 (.ref q_now) (.int x_arches) (.int x_cats) w_text (.int x_typed) w_row (.int x_rowMany) (.int (0 : Int32)) w_read (.int x_length) (.int x_top) (.int x_at) (.int x_wrong) w_told w_rule w_otherRule (.int x_ruleSize) (.int x_isAsked) w_asked w_undos (.int x_undoMany) w_aside w_then w_hold (.int x_dropped) w_acts w_guarded w_train (.int x_trolleyEnd) w_feltOf w_feltBy (.int x_feltMany) w_many w_heardOf w_heardBy (.int x_heardMany) w_worth (.int x_drawn) (.int x_came) w_kept w_isKept w_keptCame), (q_now, aI cT 47 f_now)] → va_S A s.heap H locs → lv_has ls 8 [(0, .ref h), (1, .int p1), (2, .int p2), (3, .int p3), (4, .int p4)] → W p l e (rmO 1 30 0 0) s m ([.ref h, .int p1, .int p2, .int p3, .int p4] : List Value).toArray below meth c H locs 0 0 (MQ below (va_Qi Post (cB D A (fun (u : (Int32 × (Nat → Int32))) => [(h, oX8 (.ref q_now) (.int x_arches) (.int x_cats) w_text (.int x_typed) w_row (.int x_rowMany) (.int u.1) w_read (.int x_length) (.int x_top) (.int x_at) (.int x_wrong) w_told w_rule w_otherRule (.int x_ruleSize) (.int x_isAsked) w_asked w_undos (.int x_undoMany) w_aside w_then w_hold (.int x_dropped) w_acts w_guarded w_train (.int x_trolleyEnd) w_feltOf w_feltBy (.int x_feltMany) w_many w_heardOf w_heardBy (.int x_heardMany) w_worth (.int x_drawn) (.int x_came) w_kept w_isKept w_keptCame), (q_now, aI cT 47 u.2)])) A) ([.ref h, .int p1, .int p2, .int p3, .int p4] : List Value).toArray s 0 0 A) (F0 m 34 ls []) := by
    intro H locs ls hg hP hD hS hl
    unfold p_X8_sheet_34 at hg
    refine lv_iload_n hx hb dX8_sheet_34 rfl (lv_at hl 3 rfl) ?_
    refine lv_istore (lv' := [(5, .int p3), (0, .ref h), (1, .int p1), (2, .int p2), (3, .int p3), (4, .int p4)]) hx hb dX8_sheet_35 hl (by decide) rfl (fun ls hl => ?_)
    refine lv_iconst (v := (0 : Int32)) hx hb dX8_sheet_37 (by decide) ?_
    refine lv_istore (lv' := [(6, .int (0 : Int32)), (5, .int p3), (0, .ref h), (1, .int p1), (2, .int p2), (3, .int p3), (4, .int p4)]) hx hb dX8_sheet_38 hl (by decide) rfl (fun ls hl => ?_)
    exact L40 F (0 : Int32) p3 f_now _ _ _ hg hP hD hS (lv_sub hl [2, 3, 4, 6, 1, 0] rfl)
  unfold p_X8_sheet at hg
  refine lv_aload_n hx hb dX8_sheet_0 rfl (lv_at hl 0 rfl) ?_
  refine lv_iconst (v := (0 : Int32)) hx hb dX8_sheet_1 (by decide) ?_
  refine pf_X8_82 C0 hP hD hS 0 rfl (Nat.le_of_ble_eq_true rfl) (ws2 := [(h, oX8 (.ref q_now) (.int x_arches) (.int x_cats) w_text (.int x_typed) w_row (.int x_rowMany) (.int (0 : Int32)) w_read (.int x_length) (.int x_top) (.int x_at) (.int x_wrong) w_told w_rule w_otherRule (.int x_ruleSize) (.int x_isAsked) w_asked w_undos (.int x_undoMany) w_aside w_then w_hold (.int x_dropped) w_acts w_guarded w_train (.int x_trolleyEnd) w_feltOf w_feltBy (.int x_feltMany) w_many w_heardOf w_heardBy (.int x_heardMany) w_worth (.int x_drawn) (.int x_came) w_kept w_isKept w_keptCame), (q_now, aI cT 47 f_now)]) rfl dX8_sheet_2 (fun H locs hP hD hS => ?_)
  refine lv_iload_n hx hb dX8_sheet_5 rfl (lv_at hl 1 rfl) ?_
  refine lv_iconst (v := (0 : Int32)) hx hb dX8_sheet_6 (by decide) ?_
  refine lv_iconst (v := (3 : Int32)) hx hb dX8_sheet_7 (by decide) ?_
  refine k_Sxi (rest := []) C0 lk_X8_92 (c_X8_in l D cT F p1 (0 : Int32) (3 : Int32) _ hg) hP hD [] (by decide +kernel) rfl ⟨Nat.le_of_ble_eq_true rfl, Nat.le_of_ble_eq_true rfl⟩ rfl hl.1 rfl (Nat.le_of_ble_eq_true rfl) dX8_sheet_8 ⟨Nat.le_of_ble_eq_true rfl, Nat.le_of_ble_eq_true rfl⟩ (fun r_8 hg => ?_)
  refine lv_if_eq (tgt := 20) hx hb dX8_sheet_11 (by decide) (fun c_11 => ?_) (fun c_11 => ?_)
  · have hg := hg.1 c_11
    refine lv_iconst (v := (-1 : Int32)) hx hb dX8_sheet_20 (by decide) ?_
    exact k_iret C0 hr ((0 : Int32), f_now) hg hP hD hS dX8_sheet_21
  have hg := hg.2 c_11
  refine lv_iload_n hx hb dX8_sheet_14 rfl (lv_at hl 2 rfl) ?_
  refine lv_bipush (v := (6 : Int32)) hx hb dX8_sheet_15 (by decide) ?_
  refine lv_icmp_le (tgt := 22) hx hb dX8_sheet_17 (by decide) (fun c_17 => ?_) (fun c_17 => ?_)
  · have hg := hg.1 c_17
    refine lv_iload_n hx hb dX8_sheet_22 rfl (lv_at hl 1 rfl) ?_
    refine lv_iconst (v := (3 : Int32)) hx hb dX8_sheet_23 (by decide) ?_
    refine lv_icmp_ge (tgt := 34) hx hb dX8_sheet_24 (by decide) (fun c_24 => ?_) (fun c_24 => ?_)
    · have hg := hg.1 c_24
      exact L34 _ _ _ hg hP hD hS hl
    have hg := hg.2 c_24
    refine lv_iload_n hx hb dX8_sheet_27 rfl (lv_at hl 2 rfl) ?_
    refine lv_if_ge (tgt := 34) hx hb dX8_sheet_28 (by decide) (fun c_28 => ?_) (fun c_28 => ?_)
    · have hg := hg.1 c_28
      exact L34 _ _ _ hg hP hD hS hl
    have hg := hg.2 c_28
    refine lv_bipush (v := (-2 : Int32)) hx hb dX8_sheet_31 (by decide) ?_
    exact k_iret C0 hr ((0 : Int32), f_now) hg hP hD hS dX8_sheet_33
  have hg := hg.2 c_17
  refine lv_iconst (v := (-1 : Int32)) hx hb dX8_sheet_20 (by decide) ?_
  exact k_iret C0 hr ((0 : Int32), f_now) hg hP hD hS dX8_sheet_21
theorem dX8_lay_0 : decode cX8_lay 0 = .ok (.iconst 0, 1) := by decide +kernel
theorem dX8_lay_1 : decode cX8_lay 1 = .ok (.istore_n 3, 1) := by decide +kernel
theorem dX8_lay_2 : decode cX8_lay 2 = .ok (.iload_n 3, 1) := by decide +kernel
theorem dX8_lay_3 : decode cX8_lay 3 = .ok (.bipush 47, 2) := by decide +kernel
theorem dX8_lay_5 : decode cX8_lay 5 = .ok (.if_icmp .ge 17, 3) := by decide +kernel
theorem dX8_lay_8 : decode cX8_lay 8 = .ok (.aload_n 1, 1) := by decide +kernel
theorem dX8_lay_9 : decode cX8_lay 9 = .ok (.iload_n 2, 1) := by decide +kernel
theorem dX8_lay_10 : decode cX8_lay 10 = .ok (.iload_n 3, 1) := by decide +kernel
theorem dX8_lay_11 : decode cX8_lay 11 = .ok (.iadd, 1) := by decide +kernel
theorem dX8_lay_12 : decode cX8_lay 12 = .ok (.aload_n 0, 1) := by decide +kernel
theorem dX8_lay_13 : decode cX8_lay 13 = .ok (.iload_n 3, 1) := by decide +kernel
theorem dX8_lay_14 : decode cX8_lay 14 = .ok (.iaload, 1) := by decide +kernel
theorem dX8_lay_15 : decode cX8_lay 15 = .ok (.iastore, 1) := by decide +kernel
theorem dX8_lay_16 : decode cX8_lay 16 = .ok (.iinc 3 1, 3) := by decide +kernel
theorem dX8_lay_19 : decode cX8_lay 19 = .ok (.goto (-17), 3) := by decide +kernel
theorem dX8_lay_22 : decode cX8_lay 22 = .ok (.return_, 1) := by decide +kernel
noncomputable def p_X8_lay_2 (F : Nat) (p2 : Int32) (n_b0 : Nat) (f_b0 : Nat → Int32) (n_b1 : Nat) (Post : (Nat → Int32) → Prop) (n : Nat) : Int32 → (Nat → Int32) → Prop := Nat.rec (motive := fun _ => Int32 → (Nat → Int32) → Prop) (fun _ _ => False) (fun _ k2 => fun (y3_2 : Int32) (f_b1_2 : Nat → Int32) => (((47 : Int32) ≤ y3_2 → (Post f_b1_2)) ∧ (¬ (47 : Int32) ≤ y3_2 → (vp_in y3_2 n_b0 ∧ (vp_in (p2 + y3_2) n_b1 ∧ (k2 (y3_2 + (1 : Int32)) (upd f_b1_2 (p2 + y3_2).toNatClampNeg (f_b0 y3_2.toNatClampNeg)))))))) n
theorem p_X8_lay_2_s (F : Nat) (p2 : Int32) (n_b0 : Nat) (f_b0 : Nat → Int32) (n_b1 : Nat) (Post : (Nat → Int32) → Prop) (n : Nat) (y3_2 : Int32) (f_b1_2 : Nat → Int32) : p_X8_lay_2 F p2 n_b0 f_b0 n_b1 Post (n + 1) y3_2 f_b1_2 = (((47 : Int32) ≤ y3_2 → (Post f_b1_2)) ∧ (¬ (47 : Int32) ≤ y3_2 → (vp_in y3_2 n_b0 ∧ (vp_in (p2 + y3_2) n_b1 ∧ ((p_X8_lay_2 F p2 n_b0 f_b0 n_b1 Post n) (y3_2 + (1 : Int32)) (upd f_b1_2 (p2 + y3_2).toNatClampNeg (f_b0 y3_2.toNatClampNeg))))))) := rfl
def p_X8_lay (F : Nat) (p2 : Int32) (n_b0 : Nat) (f_b0 : Nat → Int32) (n_b1 : Nat) (f_b1 : Nat → Int32) (Post : (Nat → Int32) → Prop) : Prop := (p_X8_lay_2 F p2 n_b0 f_b0 n_b1 Post F (0 : Int32) f_b1)
set_option maxHeartbeats 4000000 in
set_option maxRecDepth 100000 in
theorem c_X8_lay (l : Launch) (D : va_G) (cT : Nat → ClassId) (F : Nat) (b0 : Nat) (b1 : Nat) (p2 : Int32) (n_b0 : Nat) (f_b0 : Nat → Int32) (n_b1 : Nat) (f_b1 : Nat → Int32) (Post : (Nat → Int32) → Prop) (hg : p_X8_lay F p2 n_b0 f_b0 n_b1 f_b1 Post) : MWv l D cT yX8_lay cX8_lay 4 none 0 0 0 0 [.ref b0, .ref b1, .int p2] [(b0, aI cT n_b0 f_b0), (b1, aI cT n_b1 f_b1)] Post (fun (u : (Nat → Int32)) => [(b0, aI cT n_b0 f_b0), (b1, aI cT n_b1 u)]) := by
  refine MWv.of (by decide) (Nat.le_of_ble_eq_true rfl) ?_
  intro p e s m below meth c A hA C0 hnm hr hP hD ls hl
  have hl : lv_has ls 4 [(0, .ref b0), (1, .ref b1), (2, .int p2)] := hl
  have hx := C0.x
  have hb := C0.b
  have hS : va_S A s.heap s.heap [] := va_S.rf
  have hP : va_P D cls9 [(b0, aI cT n_b0 f_b0), (b1, aI cT n_b1 f_b1)] s.heap := hP
  have hD : va_D A [(b0, aI cT n_b0 f_b0), (b1, aI cT n_b1 f_b1)] := hD
  have L2 : ∀ (n2 : Nat) (y3_2 : Int32) (f_b1_2 : Nat → Int32) (H : Heap) (locs : List Loc) (ls : Array Slot), p_X8_lay_2 F p2 n_b0 f_b0 n_b1 Post n2 y3_2 f_b1_2 → va_P D cls9 [(b0, aI cT n_b0 f_b0), (b1, aI cT n_b1 f_b1_2)] H → va_D A [(b0, aI cT n_b0 f_b0), (b1, aI cT n_b1 f_b1_2)] → va_S A s.heap H locs → lv_has ls 4 [(0, .ref b0), (1, .ref b1), (2, .int p2), (3, .int y3_2)] → W p l e (rmO 0 0 0 0) s m ([.ref b0, .ref b1, .int p2] : List Value).toArray below meth c H locs 0 0 (MQ below (va_Qv Post (cB D A (fun (u : (Nat → Int32)) => [(b0, aI cT n_b0 f_b0), (b1, aI cT n_b1 u)])) A) ([.ref b0, .ref b1, .int p2] : List Value).toArray s 0 0 A) (F0 m 2 ls []) := by
    intro n2
    induction n2 with
    | zero =>
      intro y3_2 f_b1_2 H locs ls hg hP hD hS hl
      exact False.elim hg
    | succ n2 ih2 =>
      intro y3_2 f_b1_2 H locs ls hg hP hD hS hl
      rw [p_X8_lay_2_s] at hg
      refine lv_iload_n hx hb dX8_lay_2 rfl (lv_at hl 3 rfl) ?_
      refine lv_bipush (v := (47 : Int32)) hx hb dX8_lay_3 (by decide) ?_
      refine lv_icmp_ge (tgt := 22) hx hb dX8_lay_5 (by decide) (fun c_5 => ?_) (fun c_5 => ?_)
      · have hg := hg.1 c_5
        exact k_vret C0 hr f_b1_2 hg hP hD hS dX8_lay_22
      have hg := hg.2 c_5
      refine lv_aload_n hx hb dX8_lay_8 rfl (lv_at hl 1 rfl) ?_
      refine lv_iload_n hx hb dX8_lay_9 rfl (lv_at hl 2 rfl) ?_
      refine lv_iload_n hx hb dX8_lay_10 rfl (lv_at hl 3 rfl) ?_
      refine lv_iadd hx hb dX8_lay_11 ?_
      refine lv_aload_n hx hb dX8_lay_12 rfl (lv_at hl 0 rfl) ?_
      refine lv_iload_n hx hb dX8_lay_13 rfl (lv_at hl 3 rfl) ?_
      obtain ⟨g_14, hg⟩ := hg
      refine k_iald C0 hP 0 rfl g_14 dX8_lay_14 ?_
      obtain ⟨g_15, hg⟩ := hg
      refine k_iast C0 hP hD hS 1 rfl g_15 (ws' := [(b0, aI cT n_b0 f_b0), (b1, aI cT n_b1 (upd f_b1_2 (p2 + y3_2).toNatClampNeg (f_b0 y3_2.toNatClampNeg)))]) rfl dX8_lay_15 (fun H locs hP hD hS => ?_)
      refine lv_iinc (v := (y3_2 + (1 : Int32))) (lv' := [(3, .int (y3_2 + (1 : Int32))), (0, .ref b0), (1, .ref b1), (2, .int p2)]) hx hb dX8_lay_16 hl (k := 3) rfl rfl (by decide) rfl (fun ls hl => ?_)
      refine lv_goto (tgt := 2) hx hb dX8_lay_19 (by decide) ?_
      exact ih2 (y3_2 + (1 : Int32)) (upd f_b1_2 (p2 + y3_2).toNatClampNeg (f_b0 y3_2.toNatClampNeg)) _ _ _ hg hP hD hS (lv_sub hl [1, 2, 3, 0] rfl)
  unfold p_X8_lay at hg
  refine lv_iconst (v := (0 : Int32)) hx hb dX8_lay_0 (by decide) ?_
  refine lv_istore_n (lv' := [(3, .int (0 : Int32)), (0, .ref b0), (1, .ref b1), (2, .int p2)]) hx hb dX8_lay_1 rfl hl (by decide) rfl (fun ls hl => ?_)
  exact L2 F (0 : Int32) f_b1 _ _ _ hg hP hD hS (lv_sub hl [1, 2, 3, 0] rfl)
theorem dX8_remember_0 : decode cX8_remember 0 = .ok (.aload_n 0, 1) := by decide +kernel
theorem dX8_remember_1 : decode cX8_remember 1 = .ok (.getfield 141, 3) := by decide +kernel
theorem dX8_remember_4 : decode cX8_remember 4 = .ok (.bipush 12, 2) := by decide +kernel
theorem dX8_remember_6 : decode cX8_remember 6 = .ok (.if_icmp .ne 43, 3) := by decide +kernel
theorem dX8_remember_9 : decode cX8_remember 9 = .ok (.iconst 0, 1) := by decide +kernel
theorem dX8_remember_10 : decode cX8_remember 10 = .ok (.istore_n 2, 1) := by decide +kernel
theorem dX8_remember_11 : decode cX8_remember 11 = .ok (.iload_n 2, 1) := by decide +kernel
theorem dX8_remember_12 : decode cX8_remember 12 = .ok (.sipush 517, 3) := by decide +kernel
theorem dX8_remember_15 : decode cX8_remember 15 = .ok (.if_icmp .ge 24, 3) := by decide +kernel
theorem dX8_remember_18 : decode cX8_remember 18 = .ok (.aload_n 0, 1) := by decide +kernel
theorem dX8_remember_19 : decode cX8_remember 19 = .ok (.getfield 33, 3) := by decide +kernel
theorem dX8_remember_22 : decode cX8_remember 22 = .ok (.iload_n 2, 1) := by decide +kernel
theorem dX8_remember_23 : decode cX8_remember 23 = .ok (.aload_n 0, 1) := by decide +kernel
theorem dX8_remember_24 : decode cX8_remember 24 = .ok (.getfield 33, 3) := by decide +kernel
theorem dX8_remember_27 : decode cX8_remember 27 = .ok (.iload_n 2, 1) := by decide +kernel
theorem dX8_remember_28 : decode cX8_remember 28 = .ok (.bipush 47, 2) := by decide +kernel
theorem dX8_remember_30 : decode cX8_remember 30 = .ok (.iadd, 1) := by decide +kernel
theorem dX8_remember_31 : decode cX8_remember 31 = .ok (.iaload, 1) := by decide +kernel
theorem dX8_remember_32 : decode cX8_remember 32 = .ok (.iastore, 1) := by decide +kernel
theorem dX8_remember_33 : decode cX8_remember 33 = .ok (.iinc 2 1, 3) := by decide +kernel
theorem dX8_remember_36 : decode cX8_remember 36 = .ok (.goto (-25), 3) := by decide +kernel
theorem dX8_remember_39 : decode cX8_remember 39 = .ok (.aload_n 0, 1) := by decide +kernel
theorem dX8_remember_40 : decode cX8_remember 40 = .ok (.dup, 1) := by decide +kernel
theorem dX8_remember_41 : decode cX8_remember 41 = .ok (.getfield 141, 3) := by decide +kernel
theorem dX8_remember_44 : decode cX8_remember 44 = .ok (.iconst 1, 1) := by decide +kernel
theorem dX8_remember_45 : decode cX8_remember 45 = .ok (.isub, 1) := by decide +kernel
theorem dX8_remember_46 : decode cX8_remember 46 = .ok (.putfield 141, 3) := by decide +kernel
theorem dX8_remember_49 : decode cX8_remember 49 = .ok (.aload_n 1, 1) := by decide +kernel
theorem dX8_remember_50 : decode cX8_remember 50 = .ok (.aload_n 0, 1) := by decide +kernel
theorem dX8_remember_51 : decode cX8_remember 51 = .ok (.getfield 33, 3) := by decide +kernel
theorem dX8_remember_54 : decode cX8_remember 54 = .ok (.bipush 47, 2) := by decide +kernel
theorem dX8_remember_56 : decode cX8_remember 56 = .ok (.aload_n 0, 1) := by decide +kernel
theorem dX8_remember_57 : decode cX8_remember 57 = .ok (.getfield 141, 3) := by decide +kernel
theorem dX8_remember_60 : decode cX8_remember 60 = .ok (.imul, 1) := by decide +kernel
theorem dX8_remember_61 : decode cX8_remember 61 = .ok (.invokestatic 231, 3) := by decide +kernel
theorem dX8_remember_64 : decode cX8_remember 64 = .ok (.aload_n 0, 1) := by decide +kernel
theorem dX8_remember_65 : decode cX8_remember 65 = .ok (.dup, 1) := by decide +kernel
theorem dX8_remember_66 : decode cX8_remember 66 = .ok (.getfield 141, 3) := by decide +kernel
theorem dX8_remember_69 : decode cX8_remember 69 = .ok (.iconst 1, 1) := by decide +kernel
theorem dX8_remember_70 : decode cX8_remember 70 = .ok (.iadd, 1) := by decide +kernel
theorem dX8_remember_71 : decode cX8_remember 71 = .ok (.putfield 141, 3) := by decide +kernel
theorem dX8_remember_74 : decode cX8_remember 74 = .ok (.return_, 1) := by decide +kernel
def p_X8_remember_49 (F : Nat) (n_b1 : Nat) (f_b1 : Nat → Int32) (Post : (Int32 × (Nat → Int32)) → Prop) (x_undoMany_49 : Int32) (f_undos_49 : Nat → Int32) : Prop := (p_X8_lay F ((47 : Int32) * x_undoMany_49) n_b1 f_b1 564 f_undos_49 (fun (u_61 : (Nat → Int32)) => (Post ((x_undoMany_49 + (1 : Int32)), u_61))))
noncomputable def p_X8_remember_11 (F : Nat) (x_undoMany : Int32) (n_b1 : Nat) (f_b1 : Nat → Int32) (Post : (Int32 × (Nat → Int32)) → Prop) (n : Nat) : Int32 → (Nat → Int32) → Prop := Nat.rec (motive := fun _ => Int32 → (Nat → Int32) → Prop) (fun _ _ => False) (fun _ k11 => fun (y2_11 : Int32) (f_undos_11 : Nat → Int32) => (((517 : Int32) ≤ y2_11 → (p_X8_remember_49 F n_b1 f_b1 Post (x_undoMany - (1 : Int32)) f_undos_11)) ∧ (¬ (517 : Int32) ≤ y2_11 → (vp_in (y2_11 + (47 : Int32)) 564 ∧ (vp_in y2_11 564 ∧ (k11 (y2_11 + (1 : Int32)) (upd f_undos_11 y2_11.toNatClampNeg (f_undos_11 (y2_11 + (47 : Int32)).toNatClampNeg)))))))) n
theorem p_X8_remember_11_s (F : Nat) (x_undoMany : Int32) (n_b1 : Nat) (f_b1 : Nat → Int32) (Post : (Int32 × (Nat → Int32)) → Prop) (n : Nat) (y2_11 : Int32) (f_undos_11 : Nat → Int32) : p_X8_remember_11 F x_undoMany n_b1 f_b1 Post (n + 1) y2_11 f_undos_11 = (((517 : Int32) ≤ y2_11 → (p_X8_remember_49 F n_b1 f_b1 Post (x_undoMany - (1 : Int32)) f_undos_11)) ∧ (¬ (517 : Int32) ≤ y2_11 → (vp_in (y2_11 + (47 : Int32)) 564 ∧ (vp_in y2_11 564 ∧ ((p_X8_remember_11 F x_undoMany n_b1 f_b1 Post n) (y2_11 + (1 : Int32)) (upd f_undos_11 y2_11.toNatClampNeg (f_undos_11 (y2_11 + (47 : Int32)).toNatClampNeg))))))) := rfl
def p_X8_remember (F : Nat) (x_undoMany : Int32) (f_undos : Nat → Int32) (n_b1 : Nat) (f_b1 : Nat → Int32) (Post : (Int32 × (Nat → Int32)) → Prop) : Prop := ((¬ x_undoMany = (12 : Int32) → (p_X8_remember_49 F n_b1 f_b1 Post x_undoMany f_undos)) ∧ (x_undoMany = (12 : Int32) → (p_X8_remember_11 F x_undoMany n_b1 f_b1 Post F (0 : Int32) f_undos)))
set_option maxHeartbeats 4000000 in
set_option maxRecDepth 100000 in
theorem c_X8_remember (l : Launch) (D : va_G) (cT : Nat → ClassId) (F : Nat) (h : Nat) (b1 : Nat) (w_now : Value) (x_arches : Int32) (x_cats : Int32) (w_text : Value) (x_typed : Int32) (w_row : Value) (x_rowMany : Int32) (x_thrown : Int32) (w_read : Value) (x_length : Int32) (x_top : Int32) (x_at : Int32) (x_wrong : Int32) (w_told : Value) (w_rule : Value) (w_otherRule : Value) (x_ruleSize : Int32) (x_isAsked : Int32) (w_asked : Value) (q_undos : Nat) (x_undoMany : Int32) (w_aside : Value) (w_then : Value) (w_hold : Value) (x_dropped : Int32) (w_acts : Value) (w_guarded : Value) (w_train : Value) (x_trolleyEnd : Int32) (w_feltOf : Value) (w_feltBy : Value) (x_feltMany : Int32) (w_many : Value) (w_heardOf : Value) (w_heardBy : Value) (x_heardMany : Int32) (w_worth : Value) (x_drawn : Int32) (x_came : Int32) (w_kept : Value) (w_isKept : Value) (w_keptCame : Value) (f_undos : Nat → Int32) (n_b1 : Nat) (f_b1 : Nat → Int32) (Post : (Int32 × (Nat → Int32)) → Prop) (hg : p_X8_remember F x_undoMany f_undos n_b1 f_b1 Post) : MWv l D cT yX8_remember cX8_remember 3 none 1 23 0 0 [.ref h, .ref b1] [(h, oX8 w_now (.int x_arches) (.int x_cats) w_text (.int x_typed) w_row (.int x_rowMany) (.int x_thrown) w_read (.int x_length) (.int x_top) (.int x_at) (.int x_wrong) w_told w_rule w_otherRule (.int x_ruleSize) (.int x_isAsked) w_asked (.ref q_undos) (.int x_undoMany) w_aside w_then w_hold (.int x_dropped) w_acts w_guarded w_train (.int x_trolleyEnd) w_feltOf w_feltBy (.int x_feltMany) w_many w_heardOf w_heardBy (.int x_heardMany) w_worth (.int x_drawn) (.int x_came) w_kept w_isKept w_keptCame), (q_undos, aI cT 564 f_undos), (b1, aI cT n_b1 f_b1)] Post (fun (u : (Int32 × (Nat → Int32))) => [(h, oX8 w_now (.int x_arches) (.int x_cats) w_text (.int x_typed) w_row (.int x_rowMany) (.int x_thrown) w_read (.int x_length) (.int x_top) (.int x_at) (.int x_wrong) w_told w_rule w_otherRule (.int x_ruleSize) (.int x_isAsked) w_asked (.ref q_undos) (.int u.1) w_aside w_then w_hold (.int x_dropped) w_acts w_guarded w_train (.int x_trolleyEnd) w_feltOf w_feltBy (.int x_feltMany) w_many w_heardOf w_heardBy (.int x_heardMany) w_worth (.int x_drawn) (.int x_came) w_kept w_isKept w_keptCame), (q_undos, aI cT 564 u.2), (b1, aI cT n_b1 f_b1)]) := by
  refine MWv.of (by decide) (Nat.le_of_ble_eq_true rfl) ?_
  intro p e s m below meth c A hA C0 hnm hr hP hD ls hl
  have hl : lv_has ls 3 [(0, .ref h), (1, .ref b1)] := hl
  have hx := C0.x
  have hb := C0.b
  have hS : va_S A s.heap s.heap [] := va_S.rf
  have hP : va_P D cls9 [(h, oX8 w_now (.int x_arches) (.int x_cats) w_text (.int x_typed) w_row (.int x_rowMany) (.int x_thrown) w_read (.int x_length) (.int x_top) (.int x_at) (.int x_wrong) w_told w_rule w_otherRule (.int x_ruleSize) (.int x_isAsked) w_asked (.ref q_undos) (.int x_undoMany) w_aside w_then w_hold (.int x_dropped) w_acts w_guarded w_train (.int x_trolleyEnd) w_feltOf w_feltBy (.int x_feltMany) w_many w_heardOf w_heardBy (.int x_heardMany) w_worth (.int x_drawn) (.int x_came) w_kept w_isKept w_keptCame), (q_undos, aI cT 564 f_undos), (b1, aI cT n_b1 f_b1)] s.heap := hP
  have hD : va_D A [(h, oX8 w_now (.int x_arches) (.int x_cats) w_text (.int x_typed) w_row (.int x_rowMany) (.int x_thrown) w_read (.int x_length) (.int x_top) (.int x_at) (.int x_wrong) w_told w_rule w_otherRule (.int x_ruleSize) (.int x_isAsked) w_asked (.ref q_undos) (.int x_undoMany) w_aside w_then w_hold (.int x_dropped) w_acts w_guarded w_train (.int x_trolleyEnd) w_feltOf w_feltBy (.int x_feltMany) w_many w_heardOf w_heardBy (.int x_heardMany) w_worth (.int x_drawn) (.int x_came) w_kept w_isKept w_keptCame), (q_undos, aI cT 564 f_undos), (b1, aI cT n_b1 f_b1)] := hD
  have L49 : ∀ (x_undoMany_49 : Int32) (f_undos_49 : Nat → Int32) (H : Heap) (locs : List Loc) (ls : Array Slot), p_X8_remember_49 F n_b1 f_b1 Post x_undoMany_49 f_undos_49 → va_P D cls9 [(h, oX8 w_now (.int x_arches) (.int x_cats) w_text (.int x_typed) w_row (.int x_rowMany) (.int x_thrown) w_read (.int x_length) (.int x_top) (.int x_at) (.int x_wrong) w_told w_rule w_otherRule (.int x_ruleSize) (.int x_isAsked) w_asked (.ref q_undos) (.int x_undoMany_49) w_aside w_then w_hold (.int x_dropped) w_acts w_guarded w_train (.int x_trolleyEnd) w_feltOf w_feltBy (.int x_feltMany) w_many w_heardOf w_heardBy (.int x_heardMany) w_worth (.int x_drawn) (.int x_came) w_kept w_isKept w_keptCame), (q_undos, aI cT 564 f_undos_49), (b1, aI cT n_b1 f_b1)] H → va_D A [(h, oX8 w_now (.int x_arches) (.int x_cats) w_text (.int x_typed) w_row (.int x_rowMany) (.int x_thrown) w_read (.int x_length) (.int x_top) (.int x_at) (.int x_wrong) w_told w_rule w_otherRule (.int x_ruleSize) (.int x_isAsked) w_asked (.ref q_undos) (.int x_undoMany_49) w_aside w_then w_hold (.int x_dropped) w_acts w_guarded w_train (.int x_trolleyEnd) w_feltOf w_feltBy (.int x_feltMany) w_many w_heardOf w_heardBy (.int x_heardMany) w_worth (.int x_drawn) (.int x_came) w_kept w_isKept w_keptCame), (q_undos, aI cT 564 f_undos_49), (b1, aI cT n_b1 f_b1)] → va_S A s.heap H locs → lv_has ls 3 [(0, .ref h), (1, .ref b1)] → W p l e (rmO 1 23 0 0) s m ([.ref h, .ref b1] : List Value).toArray below meth c H locs 0 0 (MQ below (va_Qv Post (cB D A (fun (u : (Int32 × (Nat → Int32))) => [(h, oX8 w_now (.int x_arches) (.int x_cats) w_text (.int x_typed) w_row (.int x_rowMany) (.int x_thrown) w_read (.int x_length) (.int x_top) (.int x_at) (.int x_wrong) w_told w_rule w_otherRule (.int x_ruleSize) (.int x_isAsked) w_asked (.ref q_undos) (.int u.1) w_aside w_then w_hold (.int x_dropped) w_acts w_guarded w_train (.int x_trolleyEnd) w_feltOf w_feltBy (.int x_feltMany) w_many w_heardOf w_heardBy (.int x_heardMany) w_worth (.int x_drawn) (.int x_came) w_kept w_isKept w_keptCame), (q_undos, aI cT 564 u.2), (b1, aI cT n_b1 f_b1)])) A) ([.ref h, .ref b1] : List Value).toArray s 0 0 A) (F0 m 49 ls []) := by
    intro x_undoMany_49 f_undos_49 H locs ls hg hP hD hS hl
    unfold p_X8_remember_49 at hg
    refine lv_aload_n hx hb dX8_remember_49 rfl (lv_at hl 1 rfl) ?_
    refine lv_aload_n hx hb dX8_remember_50 rfl (lv_at hl 0 rfl) ?_
    refine gf_X8_33 C0 hP 0 rfl rfl dX8_remember_51 ?_
    refine lv_bipush (v := (47 : Int32)) hx hb dX8_remember_54 (by decide) ?_
    refine lv_aload_n hx hb dX8_remember_56 rfl (lv_at hl 0 rfl) ?_
    refine gf_X8_141 C0 hP 0 rfl rfl dX8_remember_57 ?_
    refine lv_imul hx hb dX8_remember_60 ?_
    refine k_Sv (rest := []) (wr := [(h, oX8 w_now (.int x_arches) (.int x_cats) w_text (.int x_typed) w_row (.int x_rowMany) (.int x_thrown) w_read (.int x_length) (.int x_top) (.int x_at) (.int x_wrong) w_told w_rule w_otherRule (.int x_ruleSize) (.int x_isAsked) w_asked (.ref q_undos) (.int x_undoMany_49) w_aside w_then w_hold (.int x_dropped) w_acts w_guarded w_train (.int x_trolleyEnd) w_feltOf w_feltBy (.int x_feltMany) w_many w_heardOf w_heardBy (.int x_heardMany) w_worth (.int x_drawn) (.int x_came) w_kept w_isKept w_keptCame)]) (w2 := fun u_61 => [(h, oX8 w_now (.int x_arches) (.int x_cats) w_text (.int x_typed) w_row (.int x_rowMany) (.int x_thrown) w_read (.int x_length) (.int x_top) (.int x_at) (.int x_wrong) w_told w_rule w_otherRule (.int x_ruleSize) (.int x_isAsked) w_asked (.ref q_undos) (.int x_undoMany_49) w_aside w_then w_hold (.int x_dropped) w_acts w_guarded w_train (.int x_trolleyEnd) w_feltOf w_feltBy (.int x_feltMany) w_many w_heardOf w_heardBy (.int x_heardMany) w_worth (.int x_drawn) (.int x_came) w_kept w_isKept w_keptCame), (b1, aI cT n_b1 f_b1), (q_undos, aI cT 564 u_61)]) C0 lk_X8_231 (c_X8_lay l D cT F b1 q_undos ((47 : Int32) * x_undoMany_49) n_b1 f_b1 564 f_undos_49 _ hg) hP hD hS hA [2, 1] [0] (by decide +kernel) rfl rfl (fun _ => rfl) ⟨Nat.le_of_ble_eq_true rfl, Nat.le_of_ble_eq_true rfl⟩ rfl hl.1 rfl (Nat.le_of_ble_eq_true rfl) dX8_remember_61 ⟨Nat.le_of_ble_eq_true rfl, Nat.le_of_ble_eq_true rfl⟩ ?_
    intro u_61 H locs hg hP hD hS
    refine lv_aload_n hx hb dX8_remember_64 rfl (lv_at hl 0 rfl) ?_
    refine lv_dup hx hb dX8_remember_65 rfl ?_
    refine gf_X8_141 C0 hP 0 rfl rfl dX8_remember_66 ?_
    refine lv_iconst (v := (1 : Int32)) hx hb dX8_remember_69 (by decide) ?_
    refine lv_iadd hx hb dX8_remember_70 ?_
    refine pf_X8_141 C0 hP hD hS 0 rfl (Nat.le_of_ble_eq_true rfl) (ws2 := [(h, oX8 w_now (.int x_arches) (.int x_cats) w_text (.int x_typed) w_row (.int x_rowMany) (.int x_thrown) w_read (.int x_length) (.int x_top) (.int x_at) (.int x_wrong) w_told w_rule w_otherRule (.int x_ruleSize) (.int x_isAsked) w_asked (.ref q_undos) (.int (x_undoMany_49 + (1 : Int32))) w_aside w_then w_hold (.int x_dropped) w_acts w_guarded w_train (.int x_trolleyEnd) w_feltOf w_feltBy (.int x_feltMany) w_many w_heardOf w_heardBy (.int x_heardMany) w_worth (.int x_drawn) (.int x_came) w_kept w_isKept w_keptCame), (b1, aI cT n_b1 f_b1), (q_undos, aI cT 564 u_61)]) rfl dX8_remember_71 (fun H locs hP hD hS => ?_)
    exact k_vret C0 hr ((x_undoMany_49 + (1 : Int32)), u_61) hg (subP hP [0, 2, 1] rfl) (hD.sub [0, 2, 1] (nd2_ok _ (by decide +kernel)) rfl) hS dX8_remember_74
  have L11 : ∀ (n11 : Nat) (y2_11 : Int32) (f_undos_11 : Nat → Int32) (H : Heap) (locs : List Loc) (ls : Array Slot), p_X8_remember_11 F x_undoMany n_b1 f_b1 Post n11 y2_11 f_undos_11 → va_P D cls9 [(h, oX8 w_now (.int x_arches) (.int x_cats) w_text (.int x_typed) w_row (.int x_rowMany) (.int x_thrown) w_read (.int x_length) (.int x_top) (.int x_at) (.int x_wrong) w_told w_rule w_otherRule (.int x_ruleSize) (.int x_isAsked) w_asked (.ref q_undos) (.int x_undoMany) w_aside w_then w_hold (.int x_dropped) w_acts w_guarded w_train (.int x_trolleyEnd) w_feltOf w_feltBy (.int x_feltMany) w_many w_heardOf w_heardBy (.int x_heardMany) w_worth (.int x_drawn) (.int x_came) w_kept w_isKept w_keptCame), (q_undos, aI cT 564 f_undos_11), (b1, aI cT n_b1 f_b1)] H → va_D A [(h, oX8 w_now (.int x_arches) (.int x_cats) w_text (.int x_typed) w_row (.int x_rowMany) (.int x_thrown) w_read (.int x_length) (.int x_top) (.int x_at) (.int x_wrong) w_told w_rule w_otherRule (.int x_ruleSize) (.int x_isAsked) w_asked (.ref q_undos) (.int x_undoMany) w_aside w_then w_hold (.int x_dropped) w_acts w_guarded w_train (.int x_trolleyEnd) w_feltOf w_feltBy (.int x_feltMany) w_many w_heardOf w_heardBy (.int x_heardMany) w_worth (.int x_drawn) (.int x_came) w_kept w_isKept w_keptCame), (q_undos, aI cT 564 f_undos_11), (b1, aI cT n_b1 f_b1)] → va_S A s.heap H locs → lv_has ls 3 [(0, .ref h), (1, .ref b1), (2, .int y2_11)] → W p l e (rmO 1 23 0 0) s m ([.ref h, .ref b1] : List Value).toArray below meth c H locs 0 0 (MQ below (va_Qv Post (cB D A (fun (u : (Int32 × (Nat → Int32))) => [(h, oX8 w_now (.int x_arches) (.int x_cats) w_text (.int x_typed) w_row (.int x_rowMany) (.int x_thrown) w_read (.int x_length) (.int x_top) (.int x_at) (.int x_wrong) w_told w_rule w_otherRule (.int x_ruleSize) (.int x_isAsked) w_asked (.ref q_undos) (.int u.1) w_aside w_then w_hold (.int x_dropped) w_acts w_guarded w_train (.int x_trolleyEnd) w_feltOf w_feltBy (.int x_feltMany) w_many w_heardOf w_heardBy (.int x_heardMany) w_worth (.int x_drawn) (.int x_came) w_kept w_isKept w_keptCame), (q_undos, aI cT 564 u.2), (b1, aI cT n_b1 f_b1)])) A) ([.ref h, .ref b1] : List Value).toArray s 0 0 A) (F0 m 11 ls []) := by
    intro n11
    induction n11 with
    | zero =>
      intro y2_11 f_undos_11 H locs ls hg hP hD hS hl
      exact False.elim hg
    | succ n11 ih11 =>
      intro y2_11 f_undos_11 H locs ls hg hP hD hS hl
      rw [p_X8_remember_11_s] at hg
      refine lv_iload_n hx hb dX8_remember_11 rfl (lv_at hl 2 rfl) ?_
      refine lv_sipush (v := (517 : Int32)) hx hb dX8_remember_12 (by decide) ?_
      refine lv_icmp_ge (tgt := 39) hx hb dX8_remember_15 (by decide) (fun c_15 => ?_) (fun c_15 => ?_)
      · have hg := hg.1 c_15
        refine lv_aload_n hx hb dX8_remember_39 rfl (lv_at hl 0 rfl) ?_
        refine lv_dup hx hb dX8_remember_40 rfl ?_
        refine gf_X8_141 C0 hP 0 rfl rfl dX8_remember_41 ?_
        refine lv_iconst (v := (1 : Int32)) hx hb dX8_remember_44 (by decide) ?_
        refine lv_isub hx hb dX8_remember_45 ?_
        refine pf_X8_141 C0 hP hD hS 0 rfl (Nat.le_of_ble_eq_true rfl) (ws2 := [(h, oX8 w_now (.int x_arches) (.int x_cats) w_text (.int x_typed) w_row (.int x_rowMany) (.int x_thrown) w_read (.int x_length) (.int x_top) (.int x_at) (.int x_wrong) w_told w_rule w_otherRule (.int x_ruleSize) (.int x_isAsked) w_asked (.ref q_undos) (.int (x_undoMany - (1 : Int32))) w_aside w_then w_hold (.int x_dropped) w_acts w_guarded w_train (.int x_trolleyEnd) w_feltOf w_feltBy (.int x_feltMany) w_many w_heardOf w_heardBy (.int x_heardMany) w_worth (.int x_drawn) (.int x_came) w_kept w_isKept w_keptCame), (q_undos, aI cT 564 f_undos_11), (b1, aI cT n_b1 f_b1)]) rfl dX8_remember_46 (fun H locs hP hD hS => ?_)
        exact L49 (x_undoMany - (1 : Int32)) f_undos_11 _ _ _ hg hP hD hS (lv_sub hl [0, 1] rfl)
      have hg := hg.2 c_15
      refine lv_aload_n hx hb dX8_remember_18 rfl (lv_at hl 0 rfl) ?_
      refine gf_X8_33 C0 hP 0 rfl rfl dX8_remember_19 ?_
      refine lv_iload_n hx hb dX8_remember_22 rfl (lv_at hl 2 rfl) ?_
      refine lv_aload_n hx hb dX8_remember_23 rfl (lv_at hl 0 rfl) ?_
      refine gf_X8_33 C0 hP 0 rfl rfl dX8_remember_24 ?_
      refine lv_iload_n hx hb dX8_remember_27 rfl (lv_at hl 2 rfl) ?_
      refine lv_bipush (v := (47 : Int32)) hx hb dX8_remember_28 (by decide) ?_
      refine lv_iadd hx hb dX8_remember_30 ?_
      obtain ⟨g_31, hg⟩ := hg
      refine k_iald C0 hP 1 rfl g_31 dX8_remember_31 ?_
      obtain ⟨g_32, hg⟩ := hg
      refine k_iast C0 hP hD hS 1 rfl g_32 (ws' := [(h, oX8 w_now (.int x_arches) (.int x_cats) w_text (.int x_typed) w_row (.int x_rowMany) (.int x_thrown) w_read (.int x_length) (.int x_top) (.int x_at) (.int x_wrong) w_told w_rule w_otherRule (.int x_ruleSize) (.int x_isAsked) w_asked (.ref q_undos) (.int x_undoMany) w_aside w_then w_hold (.int x_dropped) w_acts w_guarded w_train (.int x_trolleyEnd) w_feltOf w_feltBy (.int x_feltMany) w_many w_heardOf w_heardBy (.int x_heardMany) w_worth (.int x_drawn) (.int x_came) w_kept w_isKept w_keptCame), (q_undos, aI cT 564 (upd f_undos_11 y2_11.toNatClampNeg (f_undos_11 (y2_11 + (47 : Int32)).toNatClampNeg))), (b1, aI cT n_b1 f_b1)]) rfl dX8_remember_32 (fun H locs hP hD hS => ?_)
      refine lv_iinc (v := (y2_11 + (1 : Int32))) (lv' := [(2, .int (y2_11 + (1 : Int32))), (0, .ref h), (1, .ref b1)]) hx hb dX8_remember_33 hl (k := 2) rfl rfl (by decide) rfl (fun ls hl => ?_)
      refine lv_goto (tgt := 11) hx hb dX8_remember_36 (by decide) ?_
      exact ih11 (y2_11 + (1 : Int32)) (upd f_undos_11 y2_11.toNatClampNeg (f_undos_11 (y2_11 + (47 : Int32)).toNatClampNeg)) _ _ _ hg hP hD hS (lv_sub hl [1, 2, 0] rfl)
  unfold p_X8_remember at hg
  refine lv_aload_n hx hb dX8_remember_0 rfl (lv_at hl 0 rfl) ?_
  refine gf_X8_141 C0 hP 0 rfl rfl dX8_remember_1 ?_
  refine lv_bipush (v := (12 : Int32)) hx hb dX8_remember_4 (by decide) ?_
  refine lv_icmp_ne (tgt := 49) hx hb dX8_remember_6 (by decide) (fun c_6 => ?_) (fun c_6 => ?_)
  · have hg := hg.1 c_6
    exact L49 x_undoMany f_undos _ _ _ hg hP hD hS hl
  have hg := hg.2 c_6
  refine lv_iconst (v := (0 : Int32)) hx hb dX8_remember_9 (by decide) ?_
  refine lv_istore_n (lv' := [(2, .int (0 : Int32)), (0, .ref h), (1, .ref b1)]) hx hb dX8_remember_10 rfl hl (by decide) rfl (fun ls hl => ?_)
  exact L11 F (0 : Int32) f_undos _ _ _ hg hP hD hS (lv_sub hl [1, 2, 0] rfl)
theorem dX8_refusesFeed_0 : decode cX8_refusesFeed 0 = .ok (.aload_n 0, 1) := by decide +kernel
theorem dX8_refusesFeed_1 : decode cX8_refusesFeed 1 = .ok (.iload_n 2, 1) := by decide +kernel
theorem dX8_refusesFeed_2 : decode cX8_refusesFeed 2 = .ok (.invokevirtual 224, 3) := by decide +kernel
theorem dX8_refusesFeed_5 : decode cX8_refusesFeed 5 = .ok (.ifCond .eq 13, 3) := by decide +kernel
theorem dX8_refusesFeed_8 : decode cX8_refusesFeed 8 = .ok (.iload_n 3, 1) := by decide +kernel
theorem dX8_refusesFeed_9 : decode cX8_refusesFeed 9 = .ok (.iconst 1, 1) := by decide +kernel
theorem dX8_refusesFeed_10 : decode cX8_refusesFeed 10 = .ok (.bipush 9, 2) := by decide +kernel
theorem dX8_refusesFeed_12 : decode cX8_refusesFeed 12 = .ok (.invokestatic 92, 3) := by decide +kernel
theorem dX8_refusesFeed_15 : decode cX8_refusesFeed 15 = .ok (.ifCond .ne 5, 3) := by decide +kernel
theorem dX8_refusesFeed_18 : decode cX8_refusesFeed 18 = .ok (.iconst (-1), 1) := by decide +kernel
theorem dX8_refusesFeed_19 : decode cX8_refusesFeed 19 = .ok (.ireturn, 1) := by decide +kernel
theorem dX8_refusesFeed_20 : decode cX8_refusesFeed 20 = .ok (.aload_n 1, 1) := by decide +kernel
theorem dX8_refusesFeed_21 : decode cX8_refusesFeed 21 = .ok (.bipush 44, 2) := by decide +kernel
theorem dX8_refusesFeed_23 : decode cX8_refusesFeed 23 = .ok (.iaload, 1) := by decide +kernel
theorem dX8_refusesFeed_24 : decode cX8_refusesFeed 24 = .ok (.iload_n 3, 1) := by decide +kernel
theorem dX8_refusesFeed_25 : decode cX8_refusesFeed 25 = .ok (.if_icmp .ge 6, 3) := by decide +kernel
theorem dX8_refusesFeed_28 : decode cX8_refusesFeed 28 = .ok (.bipush (-2), 2) := by decide +kernel
theorem dX8_refusesFeed_30 : decode cX8_refusesFeed 30 = .ok (.ireturn, 1) := by decide +kernel
theorem dX8_refusesFeed_31 : decode cX8_refusesFeed 31 = .ok (.aload_n 1, 1) := by decide +kernel
theorem dX8_refusesFeed_32 : decode cX8_refusesFeed 32 = .ok (.bipush 20, 2) := by decide +kernel
theorem dX8_refusesFeed_34 : decode cX8_refusesFeed 34 = .ok (.iload_n 2, 1) := by decide +kernel
theorem dX8_refusesFeed_35 : decode cX8_refusesFeed 35 = .ok (.iadd, 1) := by decide +kernel
theorem dX8_refusesFeed_36 : decode cX8_refusesFeed 36 = .ok (.iaload, 1) := by decide +kernel
theorem dX8_refusesFeed_37 : decode cX8_refusesFeed 37 = .ok (.iload_n 3, 1) := by decide +kernel
theorem dX8_refusesFeed_38 : decode cX8_refusesFeed 38 = .ok (.iadd, 1) := by decide +kernel
theorem dX8_refusesFeed_39 : decode cX8_refusesFeed 39 = .ok (.bipush 9, 2) := by decide +kernel
theorem dX8_refusesFeed_41 : decode cX8_refusesFeed 41 = .ok (.if_icmp .le 8, 3) := by decide +kernel
theorem dX8_refusesFeed_44 : decode cX8_refusesFeed 44 = .ok (.bipush (-3), 2) := by decide +kernel
theorem dX8_refusesFeed_46 : decode cX8_refusesFeed 46 = .ok (.goto 4, 3) := by decide +kernel
theorem dX8_refusesFeed_49 : decode cX8_refusesFeed 49 = .ok (.iconst 0, 1) := by decide +kernel
theorem dX8_refusesFeed_50 : decode cX8_refusesFeed 50 = .ok (.ireturn, 1) := by decide +kernel
def p_X8_refusesFeed (F : Nat) (p2 : Int32) (p3 : Int32) (x_cats : Int32) (n_b1 : Nat) (f_b1 : Nat → Int32) (Post : Int32 → Prop) : Prop := (p_X8_isCat F p2 x_cats (fun (r_2 : Int32) => ((r_2 = 0 → (Post (-1 : Int32))) ∧ (¬ r_2 = 0 → (p_X8_in F p3 (1 : Int32) (9 : Int32) (fun (r_12 : Int32) => ((¬ r_12 = 0 → (vp_in (44 : Int32) n_b1 ∧ ((p3 ≤ (f_b1 (44 : Int32).toNatClampNeg) → (vp_in ((20 : Int32) + p2) n_b1 ∧ ((((f_b1 ((20 : Int32) + p2).toNatClampNeg) + p3) ≤ (9 : Int32) → (Post (0 : Int32))) ∧ (¬ ((f_b1 ((20 : Int32) + p2).toNatClampNeg) + p3) ≤ (9 : Int32) → (Post (-3 : Int32)))))) ∧ (¬ p3 ≤ (f_b1 (44 : Int32).toNatClampNeg) → (Post (-2 : Int32)))))) ∧ (r_12 = 0 → (Post (-1 : Int32))))))))))
set_option maxHeartbeats 4000000 in
set_option maxRecDepth 100000 in
theorem c_X8_refusesFeed (l : Launch) (D : va_G) (cT : Nat → ClassId) (F : Nat) (h : Nat) (b1 : Nat) (p2 : Int32) (p3 : Int32) (w_now : Value) (x_arches : Int32) (x_cats : Int32) (w_text : Value) (x_typed : Int32) (w_row : Value) (x_rowMany : Int32) (x_thrown : Int32) (w_read : Value) (x_length : Int32) (x_top : Int32) (x_at : Int32) (x_wrong : Int32) (w_told : Value) (w_rule : Value) (w_otherRule : Value) (x_ruleSize : Int32) (x_isAsked : Int32) (w_asked : Value) (w_undos : Value) (x_undoMany : Int32) (w_aside : Value) (w_then : Value) (w_hold : Value) (x_dropped : Int32) (w_acts : Value) (w_guarded : Value) (w_train : Value) (x_trolleyEnd : Int32) (w_feltOf : Value) (w_feltBy : Value) (x_feltMany : Int32) (w_many : Value) (w_heardOf : Value) (w_heardBy : Value) (x_heardMany : Int32) (w_worth : Value) (x_drawn : Int32) (x_came : Int32) (w_kept : Value) (w_isKept : Value) (w_keptCame : Value) (n_b1 : Nat) (f_b1 : Nat → Int32) (Post : Int32 → Prop) (hg : p_X8_refusesFeed F p2 p3 x_cats n_b1 f_b1 Post) : MRi l D cT yX8_refusesFeed cX8_refusesFeed 4 (some .int) 2 43 [.ref h, .ref b1, .int p2, .int p3] [(h, oX8 w_now (.int x_arches) (.int x_cats) w_text (.int x_typed) w_row (.int x_rowMany) (.int x_thrown) w_read (.int x_length) (.int x_top) (.int x_at) (.int x_wrong) w_told w_rule w_otherRule (.int x_ruleSize) (.int x_isAsked) w_asked w_undos (.int x_undoMany) w_aside w_then w_hold (.int x_dropped) w_acts w_guarded w_train (.int x_trolleyEnd) w_feltOf w_feltBy (.int x_feltMany) w_many w_heardOf w_heardBy (.int x_heardMany) w_worth (.int x_drawn) (.int x_came) w_kept w_isKept w_keptCame), (b1, aI cT n_b1 f_b1)] Post := by
  refine MRi.of (by decide) (Nat.le_of_ble_eq_true rfl) ?_
  intro p e s m below meth c C0 hr hP hD ls hl
  have hl : lv_has ls 4 [(0, .ref h), (1, .ref b1), (2, .int p2), (3, .int p3)] := hl
  have hx := C0.x
  have hb := C0.b
  have hP : va_P D cls9 [(h, oX8 w_now (.int x_arches) (.int x_cats) w_text (.int x_typed) w_row (.int x_rowMany) (.int x_thrown) w_read (.int x_length) (.int x_top) (.int x_at) (.int x_wrong) w_told w_rule w_otherRule (.int x_ruleSize) (.int x_isAsked) w_asked w_undos (.int x_undoMany) w_aside w_then w_hold (.int x_dropped) w_acts w_guarded w_train (.int x_trolleyEnd) w_feltOf w_feltBy (.int x_feltMany) w_many w_heardOf w_heardBy (.int x_heardMany) w_worth (.int x_drawn) (.int x_came) w_kept w_isKept w_keptCame), (b1, aI cT n_b1 f_b1)] s.heap := hP
  have hD : va_D (fun _ => True) [(h, oX8 w_now (.int x_arches) (.int x_cats) w_text (.int x_typed) w_row (.int x_rowMany) (.int x_thrown) w_read (.int x_length) (.int x_top) (.int x_at) (.int x_wrong) w_told w_rule w_otherRule (.int x_ruleSize) (.int x_isAsked) w_asked w_undos (.int x_undoMany) w_aside w_then w_hold (.int x_dropped) w_acts w_guarded w_train (.int x_trolleyEnd) w_feltOf w_feltBy (.int x_feltMany) w_many w_heardOf w_heardBy (.int x_heardMany) w_worth (.int x_drawn) (.int x_came) w_kept w_isKept w_keptCame), (b1, aI cT n_b1 f_b1)] := hD
  unfold p_X8_refusesFeed at hg
  refine lv_aload_n hx hb dX8_refusesFeed_0 rfl (lv_at hl 0 rfl) ?_
  refine lv_iload_n hx hb dX8_refusesFeed_1 rfl (lv_at hl 2 rfl) ?_
  refine k_Vxi (rest := []) C0 lk_X8_224 (c_X8_isCat l D cT F h p2 w_now x_arches x_cats w_text x_typed w_row x_rowMany x_thrown w_read x_length x_top x_at x_wrong w_told w_rule w_otherRule x_ruleSize x_isAsked w_asked w_undos x_undoMany w_aside w_then w_hold x_dropped w_acts w_guarded w_train x_trolleyEnd w_feltOf w_feltBy x_feltMany w_many w_heardOf w_heardBy x_heardMany w_worth x_drawn x_came w_kept w_isKept w_keptCame _ hg) hP hD [0] (by decide +kernel) rfl rfl rfl ⟨Nat.le_of_ble_eq_true rfl, Nat.le_of_ble_eq_true rfl⟩ rfl hl.1 rfl (Nat.le_of_ble_eq_true rfl) dX8_refusesFeed_2 ⟨Nat.le_of_ble_eq_true rfl, Nat.le_of_ble_eq_true rfl⟩ (fun r_2 hg => ?_)
  refine lv_if_eq (tgt := 18) hx hb dX8_refusesFeed_5 (by decide) (fun c_5 => ?_) (fun c_5 => ?_)
  · have hg := hg.1 c_5
    refine lv_iconst (v := (-1 : Int32)) hx hb dX8_refusesFeed_18 (by decide) ?_
    exact k_xiret C0 hr hg dX8_refusesFeed_19
  have hg := hg.2 c_5
  refine lv_iload_n hx hb dX8_refusesFeed_8 rfl (lv_at hl 3 rfl) ?_
  refine lv_iconst (v := (1 : Int32)) hx hb dX8_refusesFeed_9 (by decide) ?_
  refine lv_bipush (v := (9 : Int32)) hx hb dX8_refusesFeed_10 (by decide) ?_
  refine k_Sxi (rest := []) C0 lk_X8_92 (c_X8_in l D cT F p3 (1 : Int32) (9 : Int32) _ hg) hP hD [] (by decide +kernel) rfl ⟨Nat.le_of_ble_eq_true rfl, Nat.le_of_ble_eq_true rfl⟩ rfl hl.1 rfl (Nat.le_of_ble_eq_true rfl) dX8_refusesFeed_12 ⟨Nat.le_of_ble_eq_true rfl, Nat.le_of_ble_eq_true rfl⟩ (fun r_12 hg => ?_)
  refine lv_if_ne (tgt := 20) hx hb dX8_refusesFeed_15 (by decide) (fun c_15 => ?_) (fun c_15 => ?_)
  · have hg := hg.1 c_15
    refine lv_aload_n hx hb dX8_refusesFeed_20 rfl (lv_at hl 1 rfl) ?_
    refine lv_bipush (v := (44 : Int32)) hx hb dX8_refusesFeed_21 (by decide) ?_
    obtain ⟨g_23, hg⟩ := hg
    refine k_iald C0 hP 1 rfl g_23 dX8_refusesFeed_23 ?_
    refine lv_iload_n hx hb dX8_refusesFeed_24 rfl (lv_at hl 3 rfl) ?_
    refine lv_icmp_ge (tgt := 31) hx hb dX8_refusesFeed_25 (by decide) (fun c_25 => ?_) (fun c_25 => ?_)
    · have hg := hg.1 c_25
      refine lv_aload_n hx hb dX8_refusesFeed_31 rfl (lv_at hl 1 rfl) ?_
      refine lv_bipush (v := (20 : Int32)) hx hb dX8_refusesFeed_32 (by decide) ?_
      refine lv_iload_n hx hb dX8_refusesFeed_34 rfl (lv_at hl 2 rfl) ?_
      refine lv_iadd hx hb dX8_refusesFeed_35 ?_
      obtain ⟨g_36, hg⟩ := hg
      refine k_iald C0 hP 1 rfl g_36 dX8_refusesFeed_36 ?_
      refine lv_iload_n hx hb dX8_refusesFeed_37 rfl (lv_at hl 3 rfl) ?_
      refine lv_iadd hx hb dX8_refusesFeed_38 ?_
      refine lv_bipush (v := (9 : Int32)) hx hb dX8_refusesFeed_39 (by decide) ?_
      refine lv_icmp_le (tgt := 49) hx hb dX8_refusesFeed_41 (by decide) (fun c_41 => ?_) (fun c_41 => ?_)
      · have hg := hg.1 c_41
        refine lv_iconst (v := (0 : Int32)) hx hb dX8_refusesFeed_49 (by decide) ?_
        exact k_xiret C0 hr hg dX8_refusesFeed_50
      have hg := hg.2 c_41
      refine lv_bipush (v := (-3 : Int32)) hx hb dX8_refusesFeed_44 (by decide) ?_
      refine lv_goto (tgt := 50) hx hb dX8_refusesFeed_46 (by decide) ?_
      exact k_xiret C0 hr hg dX8_refusesFeed_50
    have hg := hg.2 c_25
    refine lv_bipush (v := (-2 : Int32)) hx hb dX8_refusesFeed_28 (by decide) ?_
    exact k_xiret C0 hr hg dX8_refusesFeed_30
  have hg := hg.2 c_15
  refine lv_iconst (v := (-1 : Int32)) hx hb dX8_refusesFeed_18 (by decide) ?_
  exact k_xiret C0 hr hg dX8_refusesFeed_19
theorem dX8_goFeed_0 : decode cX8_goFeed 0 = .ok (.aload_n 0, 1) := by decide +kernel
theorem dX8_goFeed_1 : decode cX8_goFeed 1 = .ok (.bipush 44, 2) := by decide +kernel
theorem dX8_goFeed_3 : decode cX8_goFeed 3 = .ok (.dup2, 1) := by decide +kernel
theorem dX8_goFeed_4 : decode cX8_goFeed 4 = .ok (.iaload, 1) := by decide +kernel
theorem dX8_goFeed_5 : decode cX8_goFeed 5 = .ok (.iload_n 2, 1) := by decide +kernel
theorem dX8_goFeed_6 : decode cX8_goFeed 6 = .ok (.isub, 1) := by decide +kernel
theorem dX8_goFeed_7 : decode cX8_goFeed 7 = .ok (.iastore, 1) := by decide +kernel
theorem dX8_goFeed_8 : decode cX8_goFeed 8 = .ok (.aload_n 0, 1) := by decide +kernel
theorem dX8_goFeed_9 : decode cX8_goFeed 9 = .ok (.bipush 20, 2) := by decide +kernel
theorem dX8_goFeed_11 : decode cX8_goFeed 11 = .ok (.iload_n 1, 1) := by decide +kernel
theorem dX8_goFeed_12 : decode cX8_goFeed 12 = .ok (.iadd, 1) := by decide +kernel
theorem dX8_goFeed_13 : decode cX8_goFeed 13 = .ok (.dup2, 1) := by decide +kernel
theorem dX8_goFeed_14 : decode cX8_goFeed 14 = .ok (.iaload, 1) := by decide +kernel
theorem dX8_goFeed_15 : decode cX8_goFeed 15 = .ok (.iload_n 2, 1) := by decide +kernel
theorem dX8_goFeed_16 : decode cX8_goFeed 16 = .ok (.iadd, 1) := by decide +kernel
theorem dX8_goFeed_17 : decode cX8_goFeed 17 = .ok (.iastore, 1) := by decide +kernel
theorem dX8_goFeed_18 : decode cX8_goFeed 18 = .ok (.return_, 1) := by decide +kernel
def p_X8_goFeed (F : Nat) (p1 : Int32) (p2 : Int32) (n_b0 : Nat) (f_b0 : Nat → Int32) (Post : (Nat → Int32) → Prop) : Prop := (vp_in (44 : Int32) n_b0 ∧ (vp_in (44 : Int32) n_b0 ∧ (vp_in ((20 : Int32) + p1) n_b0 ∧ (vp_in ((20 : Int32) + p1) n_b0 ∧ (Post (upd (upd f_b0 (44 : Int32).toNatClampNeg ((f_b0 (44 : Int32).toNatClampNeg) - p2)) ((20 : Int32) + p1).toNatClampNeg (((upd f_b0 (44 : Int32).toNatClampNeg ((f_b0 (44 : Int32).toNatClampNeg) - p2)) ((20 : Int32) + p1).toNatClampNeg) + p2)))))))
set_option maxHeartbeats 4000000 in
set_option maxRecDepth 100000 in
theorem c_X8_goFeed (l : Launch) (D : va_G) (cT : Nat → ClassId) (F : Nat) (b0 : Nat) (p1 : Int32) (p2 : Int32) (n_b0 : Nat) (f_b0 : Nat → Int32) (Post : (Nat → Int32) → Prop) (hg : p_X8_goFeed F p1 p2 n_b0 f_b0 Post) : MWv l D cT yX8_goFeed cX8_goFeed 3 none 0 0 0 0 [.ref b0, .int p1, .int p2] [(b0, aI cT n_b0 f_b0)] Post (fun (u : (Nat → Int32)) => [(b0, aI cT n_b0 u)]) := by
  refine MWv.of (by decide) (Nat.le_of_ble_eq_true rfl) ?_
  intro p e s m below meth c A hA C0 hnm hr hP hD ls hl
  have hl : lv_has ls 3 [(0, .ref b0), (1, .int p1), (2, .int p2)] := hl
  have hx := C0.x
  have hb := C0.b
  have hS : va_S A s.heap s.heap [] := va_S.rf
  have hP : va_P D cls9 [(b0, aI cT n_b0 f_b0)] s.heap := hP
  have hD : va_D A [(b0, aI cT n_b0 f_b0)] := hD
  unfold p_X8_goFeed at hg
  refine lv_aload_n hx hb dX8_goFeed_0 rfl (lv_at hl 0 rfl) ?_
  refine lv_bipush (v := (44 : Int32)) hx hb dX8_goFeed_1 (by decide) ?_
  refine lv_dup2_11 hx hb dX8_goFeed_3 rfl rfl ?_
  obtain ⟨g_4, hg⟩ := hg
  refine k_iald C0 hP 0 rfl g_4 dX8_goFeed_4 ?_
  refine lv_iload_n hx hb dX8_goFeed_5 rfl (lv_at hl 2 rfl) ?_
  refine lv_isub hx hb dX8_goFeed_6 ?_
  obtain ⟨g_7, hg⟩ := hg
  refine k_iast C0 hP hD hS 0 rfl g_7 (ws' := [(b0, aI cT n_b0 (upd f_b0 (44 : Int32).toNatClampNeg ((f_b0 (44 : Int32).toNatClampNeg) - p2)))]) rfl dX8_goFeed_7 (fun H locs hP hD hS => ?_)
  refine lv_aload_n hx hb dX8_goFeed_8 rfl (lv_at hl 0 rfl) ?_
  refine lv_bipush (v := (20 : Int32)) hx hb dX8_goFeed_9 (by decide) ?_
  refine lv_iload_n hx hb dX8_goFeed_11 rfl (lv_at hl 1 rfl) ?_
  refine lv_iadd hx hb dX8_goFeed_12 ?_
  refine lv_dup2_11 hx hb dX8_goFeed_13 rfl rfl ?_
  obtain ⟨g_14, hg⟩ := hg
  refine k_iald C0 hP 0 rfl g_14 dX8_goFeed_14 ?_
  refine lv_iload_n hx hb dX8_goFeed_15 rfl (lv_at hl 2 rfl) ?_
  refine lv_iadd hx hb dX8_goFeed_16 ?_
  obtain ⟨g_17, hg⟩ := hg
  refine k_iast C0 hP hD hS 0 rfl g_17 (ws' := [(b0, aI cT n_b0 (upd (upd f_b0 (44 : Int32).toNatClampNeg ((f_b0 (44 : Int32).toNatClampNeg) - p2)) ((20 : Int32) + p1).toNatClampNeg (((upd f_b0 (44 : Int32).toNatClampNeg ((f_b0 (44 : Int32).toNatClampNeg) - p2)) ((20 : Int32) + p1).toNatClampNeg) + p2)))]) rfl dX8_goFeed_17 (fun H locs hP hD hS => ?_)
  exact k_vret C0 hr (upd (upd f_b0 (44 : Int32).toNatClampNeg ((f_b0 (44 : Int32).toNatClampNeg) - p2)) ((20 : Int32) + p1).toNatClampNeg (((upd f_b0 (44 : Int32).toNatClampNeg ((f_b0 (44 : Int32).toNatClampNeg) - p2)) ((20 : Int32) + p1).toNatClampNeg) + p2)) hg hP hD hS dX8_goFeed_18
theorem dX8_feeds_0 : decode cX8_feeds 0 = .ok (.aload_n 0, 1) := by decide +kernel
theorem dX8_feeds_1 : decode cX8_feeds 1 = .ok (.iconst 0, 1) := by decide +kernel
theorem dX8_feeds_2 : decode cX8_feeds 2 = .ok (.putfield 82, 3) := by decide +kernel
theorem dX8_feeds_5 : decode cX8_feeds 5 = .ok (.aload_n 0, 1) := by decide +kernel
theorem dX8_feeds_6 : decode cX8_feeds 6 = .ok (.aload_n 0, 1) := by decide +kernel
theorem dX8_feeds_7 : decode cX8_feeds 7 = .ok (.getfield 9, 3) := by decide +kernel
theorem dX8_feeds_10 : decode cX8_feeds 10 = .ok (.iload_n 1, 1) := by decide +kernel
theorem dX8_feeds_11 : decode cX8_feeds 11 = .ok (.iload_n 2, 1) := by decide +kernel
theorem dX8_feeds_12 : decode cX8_feeds 12 = .ok (.invokevirtual 257, 3) := by decide +kernel
theorem dX8_feeds_15 : decode cX8_feeds 15 = .ok (.istore_n 3, 1) := by decide +kernel
theorem dX8_feeds_16 : decode cX8_feeds 16 = .ok (.iload_n 3, 1) := by decide +kernel
theorem dX8_feeds_17 : decode cX8_feeds 17 = .ok (.ifCond .ge 5, 3) := by decide +kernel
theorem dX8_feeds_20 : decode cX8_feeds 20 = .ok (.iload_n 3, 1) := by decide +kernel
theorem dX8_feeds_21 : decode cX8_feeds 21 = .ok (.ireturn, 1) := by decide +kernel
theorem dX8_feeds_22 : decode cX8_feeds 22 = .ok (.aload_n 0, 1) := by decide +kernel
theorem dX8_feeds_23 : decode cX8_feeds 23 = .ok (.aload_n 0, 1) := by decide +kernel
theorem dX8_feeds_24 : decode cX8_feeds 24 = .ok (.getfield 9, 3) := by decide +kernel
theorem dX8_feeds_27 : decode cX8_feeds 27 = .ok (.invokevirtual 246, 3) := by decide +kernel
theorem dX8_feeds_30 : decode cX8_feeds 30 = .ok (.aload_n 0, 1) := by decide +kernel
theorem dX8_feeds_31 : decode cX8_feeds 31 = .ok (.getfield 9, 3) := by decide +kernel
theorem dX8_feeds_34 : decode cX8_feeds 34 = .ok (.iload_n 1, 1) := by decide +kernel
theorem dX8_feeds_35 : decode cX8_feeds 35 = .ok (.iload_n 2, 1) := by decide +kernel
theorem dX8_feeds_36 : decode cX8_feeds 36 = .ok (.invokestatic 260, 3) := by decide +kernel
theorem dX8_feeds_39 : decode cX8_feeds 39 = .ok (.aload_n 0, 1) := by decide +kernel
theorem dX8_feeds_40 : decode cX8_feeds 40 = .ok (.getfield 9, 3) := by decide +kernel
theorem dX8_feeds_43 : decode cX8_feeds 43 = .ok (.bipush 20, 2) := by decide +kernel
theorem dX8_feeds_45 : decode cX8_feeds 45 = .ok (.iload_n 1, 1) := by decide +kernel
theorem dX8_feeds_46 : decode cX8_feeds 46 = .ok (.iadd, 1) := by decide +kernel
theorem dX8_feeds_47 : decode cX8_feeds 47 = .ok (.iaload, 1) := by decide +kernel
theorem dX8_feeds_48 : decode cX8_feeds 48 = .ok (.ireturn, 1) := by decide +kernel
def p_X8_feeds (F : Nat) (p1 : Int32) (p2 : Int32) (x_cats : Int32) (x_undoMany : Int32) (f_now : Nat → Int32) (f_undos : Nat → Int32) (Post : Int32 → (Int32 × Int32 × (Nat → Int32) × (Nat → Int32)) → Prop) : Prop := (p_X8_refusesFeed F p1 p2 x_cats 47 f_now (fun (r_12 : Int32) => ((0 ≤ r_12 → (p_X8_remember F x_undoMany f_undos 47 f_now (fun (u_27 : (Int32 × (Nat → Int32))) => (p_X8_goFeed F p1 p2 47 f_now (fun (u_36 : (Nat → Int32)) => (vp_in ((20 : Int32) + p1) 47 ∧ (Post (u_36 ((20 : Int32) + p1).toNatClampNeg) ((0 : Int32), u_27.1, u_36, u_27.2)))))))) ∧ (¬ 0 ≤ r_12 → (Post r_12 ((0 : Int32), x_undoMany, f_now, f_undos))))))
set_option maxHeartbeats 4000000 in
set_option maxRecDepth 100000 in
theorem c_X8_feeds (l : Launch) (D : va_G) (cT : Nat → ClassId) (F : Nat) (h : Nat) (p1 : Int32) (p2 : Int32) (q_now : Nat) (x_arches : Int32) (x_cats : Int32) (w_text : Value) (x_typed : Int32) (w_row : Value) (x_rowMany : Int32) (x_thrown : Int32) (w_read : Value) (x_length : Int32) (x_top : Int32) (x_at : Int32) (x_wrong : Int32) (w_told : Value) (w_rule : Value) (w_otherRule : Value) (x_ruleSize : Int32) (x_isAsked : Int32) (w_asked : Value) (q_undos : Nat) (x_undoMany : Int32) (w_aside : Value) (w_then : Value) (w_hold : Value) (x_dropped : Int32) (w_acts : Value) (w_guarded : Value) (w_train : Value) (x_trolleyEnd : Int32) (w_feltOf : Value) (w_feltBy : Value) (x_feltMany : Int32) (w_many : Value) (w_heardOf : Value) (w_heardBy : Value) (x_heardMany : Int32) (w_worth : Value) (x_drawn : Int32) (x_came : Int32) (w_kept : Value) (w_isKept : Value) (w_keptCame : Value) (f_now : Nat → Int32) (f_undos : Nat → Int32) (Post : Int32 → (Int32 × Int32 × (Nat → Int32) × (Nat → Int32)) → Prop) (hg : p_X8_feeds F p1 p2 x_cats x_undoMany f_now f_undos Post) : MWi l D cT yX8_feeds cX8_feeds 4 (some .int) 3 66 0 0 [.ref h, .int p1, .int p2] [(h, oX8 (.ref q_now) (.int x_arches) (.int x_cats) w_text (.int x_typed) w_row (.int x_rowMany) (.int x_thrown) w_read (.int x_length) (.int x_top) (.int x_at) (.int x_wrong) w_told w_rule w_otherRule (.int x_ruleSize) (.int x_isAsked) w_asked (.ref q_undos) (.int x_undoMany) w_aside w_then w_hold (.int x_dropped) w_acts w_guarded w_train (.int x_trolleyEnd) w_feltOf w_feltBy (.int x_feltMany) w_many w_heardOf w_heardBy (.int x_heardMany) w_worth (.int x_drawn) (.int x_came) w_kept w_isKept w_keptCame), (q_now, aI cT 47 f_now), (q_undos, aI cT 564 f_undos)] Post (fun (u : (Int32 × Int32 × (Nat → Int32) × (Nat → Int32))) => [(h, oX8 (.ref q_now) (.int x_arches) (.int x_cats) w_text (.int x_typed) w_row (.int x_rowMany) (.int u.1) w_read (.int x_length) (.int x_top) (.int x_at) (.int x_wrong) w_told w_rule w_otherRule (.int x_ruleSize) (.int x_isAsked) w_asked (.ref q_undos) (.int u.2.1) w_aside w_then w_hold (.int x_dropped) w_acts w_guarded w_train (.int x_trolleyEnd) w_feltOf w_feltBy (.int x_feltMany) w_many w_heardOf w_heardBy (.int x_heardMany) w_worth (.int x_drawn) (.int x_came) w_kept w_isKept w_keptCame), (q_now, aI cT 47 u.2.2.1), (q_undos, aI cT 564 u.2.2.2)]) := by
  refine MWi.of (by decide) (Nat.le_of_ble_eq_true rfl) ?_
  intro p e s m below meth c A hA C0 hnm hr hP hD ls hl
  have hl : lv_has ls 4 [(0, .ref h), (1, .int p1), (2, .int p2)] := hl
  have hx := C0.x
  have hb := C0.b
  have hS : va_S A s.heap s.heap [] := va_S.rf
  have hP : va_P D cls9 [(h, oX8 (.ref q_now) (.int x_arches) (.int x_cats) w_text (.int x_typed) w_row (.int x_rowMany) (.int x_thrown) w_read (.int x_length) (.int x_top) (.int x_at) (.int x_wrong) w_told w_rule w_otherRule (.int x_ruleSize) (.int x_isAsked) w_asked (.ref q_undos) (.int x_undoMany) w_aside w_then w_hold (.int x_dropped) w_acts w_guarded w_train (.int x_trolleyEnd) w_feltOf w_feltBy (.int x_feltMany) w_many w_heardOf w_heardBy (.int x_heardMany) w_worth (.int x_drawn) (.int x_came) w_kept w_isKept w_keptCame), (q_now, aI cT 47 f_now), (q_undos, aI cT 564 f_undos)] s.heap := hP
  have hD : va_D A [(h, oX8 (.ref q_now) (.int x_arches) (.int x_cats) w_text (.int x_typed) w_row (.int x_rowMany) (.int x_thrown) w_read (.int x_length) (.int x_top) (.int x_at) (.int x_wrong) w_told w_rule w_otherRule (.int x_ruleSize) (.int x_isAsked) w_asked (.ref q_undos) (.int x_undoMany) w_aside w_then w_hold (.int x_dropped) w_acts w_guarded w_train (.int x_trolleyEnd) w_feltOf w_feltBy (.int x_feltMany) w_many w_heardOf w_heardBy (.int x_heardMany) w_worth (.int x_drawn) (.int x_came) w_kept w_isKept w_keptCame), (q_now, aI cT 47 f_now), (q_undos, aI cT 564 f_undos)] := hD
  unfold p_X8_feeds at hg
  refine lv_aload_n hx hb dX8_feeds_0 rfl (lv_at hl 0 rfl) ?_
  refine lv_iconst (v := (0 : Int32)) hx hb dX8_feeds_1 (by decide) ?_
  refine pf_X8_82 C0 hP hD hS 0 rfl (Nat.le_of_ble_eq_true rfl) (ws2 := [(h, oX8 (.ref q_now) (.int x_arches) (.int x_cats) w_text (.int x_typed) w_row (.int x_rowMany) (.int (0 : Int32)) w_read (.int x_length) (.int x_top) (.int x_at) (.int x_wrong) w_told w_rule w_otherRule (.int x_ruleSize) (.int x_isAsked) w_asked (.ref q_undos) (.int x_undoMany) w_aside w_then w_hold (.int x_dropped) w_acts w_guarded w_train (.int x_trolleyEnd) w_feltOf w_feltBy (.int x_feltMany) w_many w_heardOf w_heardBy (.int x_heardMany) w_worth (.int x_drawn) (.int x_came) w_kept w_isKept w_keptCame), (q_now, aI cT 47 f_now), (q_undos, aI cT 564 f_undos)]) rfl dX8_feeds_2 (fun H locs hP hD hS => ?_)
  refine lv_aload_n hx hb dX8_feeds_5 rfl (lv_at hl 0 rfl) ?_
  refine lv_aload_n hx hb dX8_feeds_6 rfl (lv_at hl 0 rfl) ?_
  refine gf_X8_9 C0 hP 0 rfl rfl dX8_feeds_7 ?_
  refine lv_iload_n hx hb dX8_feeds_10 rfl (lv_at hl 1 rfl) ?_
  refine lv_iload_n hx hb dX8_feeds_11 rfl (lv_at hl 2 rfl) ?_
  refine k_Vxi (rest := []) C0 lk_X8_257 (c_X8_refusesFeed l D cT F h q_now p1 p2 (.ref q_now) x_arches x_cats w_text x_typed w_row x_rowMany (0 : Int32) w_read x_length x_top x_at x_wrong w_told w_rule w_otherRule x_ruleSize x_isAsked w_asked (.ref q_undos) x_undoMany w_aside w_then w_hold x_dropped w_acts w_guarded w_train x_trolleyEnd w_feltOf w_feltBy x_feltMany w_many w_heardOf w_heardBy x_heardMany w_worth x_drawn x_came w_kept w_isKept w_keptCame 47 f_now _ hg) hP hD [0, 1] (by decide +kernel) rfl rfl rfl ⟨Nat.le_of_ble_eq_true rfl, Nat.le_of_ble_eq_true rfl⟩ rfl hl.1 rfl (Nat.le_of_ble_eq_true rfl) dX8_feeds_12 ⟨Nat.le_of_ble_eq_true rfl, Nat.le_of_ble_eq_true rfl⟩ (fun r_12 hg => ?_)
  refine lv_istore_n (lv' := [(3, .int r_12), (0, .ref h), (1, .int p1), (2, .int p2)]) hx hb dX8_feeds_15 rfl hl (by decide) rfl (fun ls hl => ?_)
  refine lv_iload_n hx hb dX8_feeds_16 rfl (lv_at hl 0 rfl) ?_
  refine lv_if_ge (tgt := 22) hx hb dX8_feeds_17 (by decide) (fun c_17 => ?_) (fun c_17 => ?_)
  · have hg := hg.1 c_17
    refine lv_aload_n hx hb dX8_feeds_22 rfl (lv_at hl 1 rfl) ?_
    refine lv_aload_n hx hb dX8_feeds_23 rfl (lv_at hl 1 rfl) ?_
    refine gf_X8_9 C0 hP 0 rfl rfl dX8_feeds_24 ?_
    refine k_Vv (rest := []) (wr := []) (w2 := fun u_27 => [(h, oX8 (.ref q_now) (.int x_arches) (.int x_cats) w_text (.int x_typed) w_row (.int x_rowMany) (.int (0 : Int32)) w_read (.int x_length) (.int x_top) (.int x_at) (.int x_wrong) w_told w_rule w_otherRule (.int x_ruleSize) (.int x_isAsked) w_asked (.ref q_undos) (.int u_27.1) w_aside w_then w_hold (.int x_dropped) w_acts w_guarded w_train (.int x_trolleyEnd) w_feltOf w_feltBy (.int x_feltMany) w_many w_heardOf w_heardBy (.int x_heardMany) w_worth (.int x_drawn) (.int x_came) w_kept w_isKept w_keptCame), (q_undos, aI cT 564 u_27.2), (q_now, aI cT 47 f_now)]) C0 lk_X8_246 (c_X8_remember l D cT F h q_now (.ref q_now) x_arches x_cats w_text x_typed w_row x_rowMany (0 : Int32) w_read x_length x_top x_at x_wrong w_told w_rule w_otherRule x_ruleSize x_isAsked w_asked q_undos x_undoMany w_aside w_then w_hold x_dropped w_acts w_guarded w_train x_trolleyEnd w_feltOf w_feltBy x_feltMany w_many w_heardOf w_heardBy x_heardMany w_worth x_drawn x_came w_kept w_isKept w_keptCame f_undos 47 f_now _ hg) hP hD hS hA [0, 2, 1] [] (by decide +kernel) rfl rfl (fun _ => rfl) rfl rfl ⟨Nat.le_of_ble_eq_true rfl, Nat.le_of_ble_eq_true rfl⟩ rfl hl.1 rfl (Nat.le_of_ble_eq_true rfl) dX8_feeds_27 ⟨Nat.le_of_ble_eq_true rfl, Nat.le_of_ble_eq_true rfl⟩ ?_
    intro u_27 H locs hg hP hD hS
    refine lv_aload_n hx hb dX8_feeds_30 rfl (lv_at hl 1 rfl) ?_
    refine gf_X8_9 C0 hP 0 rfl rfl dX8_feeds_31 ?_
    refine lv_iload_n hx hb dX8_feeds_34 rfl (lv_at hl 2 rfl) ?_
    refine lv_iload_n hx hb dX8_feeds_35 rfl (lv_at hl 3 rfl) ?_
    refine k_Sv (rest := []) (wr := [(h, oX8 (.ref q_now) (.int x_arches) (.int x_cats) w_text (.int x_typed) w_row (.int x_rowMany) (.int (0 : Int32)) w_read (.int x_length) (.int x_top) (.int x_at) (.int x_wrong) w_told w_rule w_otherRule (.int x_ruleSize) (.int x_isAsked) w_asked (.ref q_undos) (.int u_27.1) w_aside w_then w_hold (.int x_dropped) w_acts w_guarded w_train (.int x_trolleyEnd) w_feltOf w_feltBy (.int x_feltMany) w_many w_heardOf w_heardBy (.int x_heardMany) w_worth (.int x_drawn) (.int x_came) w_kept w_isKept w_keptCame), (q_undos, aI cT 564 u_27.2)]) (w2 := fun u_36 => [(h, oX8 (.ref q_now) (.int x_arches) (.int x_cats) w_text (.int x_typed) w_row (.int x_rowMany) (.int (0 : Int32)) w_read (.int x_length) (.int x_top) (.int x_at) (.int x_wrong) w_told w_rule w_otherRule (.int x_ruleSize) (.int x_isAsked) w_asked (.ref q_undos) (.int u_27.1) w_aside w_then w_hold (.int x_dropped) w_acts w_guarded w_train (.int x_trolleyEnd) w_feltOf w_feltBy (.int x_feltMany) w_many w_heardOf w_heardBy (.int x_heardMany) w_worth (.int x_drawn) (.int x_came) w_kept w_isKept w_keptCame), (q_undos, aI cT 564 u_27.2), (q_now, aI cT 47 u_36)]) C0 lk_X8_260 (c_X8_goFeed l D cT F q_now p1 p2 47 f_now _ hg) hP hD hS hA [2] [0, 1] (by decide +kernel) rfl rfl (fun _ => rfl) ⟨Nat.le_of_ble_eq_true rfl, Nat.le_of_ble_eq_true rfl⟩ rfl hl.1 rfl (Nat.le_of_ble_eq_true rfl) dX8_feeds_36 ⟨Nat.le_of_ble_eq_true rfl, Nat.le_of_ble_eq_true rfl⟩ ?_
    intro u_36 H locs hg hP hD hS
    refine lv_aload_n hx hb dX8_feeds_39 rfl (lv_at hl 1 rfl) ?_
    refine gf_X8_9 C0 hP 0 rfl rfl dX8_feeds_40 ?_
    refine lv_bipush (v := (20 : Int32)) hx hb dX8_feeds_43 (by decide) ?_
    refine lv_iload_n hx hb dX8_feeds_45 rfl (lv_at hl 2 rfl) ?_
    refine lv_iadd hx hb dX8_feeds_46 ?_
    obtain ⟨g_47, hg⟩ := hg
    refine k_iald C0 hP 2 rfl g_47 dX8_feeds_47 ?_
    exact k_iret C0 hr ((0 : Int32), u_27.1, u_36, u_27.2) hg (subP hP [0, 2, 1] rfl) (hD.sub [0, 2, 1] (nd2_ok _ (by decide +kernel)) rfl) hS dX8_feeds_48
  have hg := hg.2 c_17
  refine lv_iload_n hx hb dX8_feeds_20 rfl (lv_at hl 0 rfl) ?_
  exact k_iret C0 hr ((0 : Int32), x_undoMany, f_now, f_undos) hg hP hD hS dX8_feeds_21
theorem dX8_refusesPet_0 : decode cX8_refusesPet 0 = .ok (.aload_n 0, 1) := by decide +kernel
theorem dX8_refusesPet_1 : decode cX8_refusesPet 1 = .ok (.iload_n 1, 1) := by decide +kernel
theorem dX8_refusesPet_2 : decode cX8_refusesPet 2 = .ok (.invokevirtual 224, 3) := by decide +kernel
theorem dX8_refusesPet_5 : decode cX8_refusesPet 5 = .ok (.ifCond .ne 5, 3) := by decide +kernel
theorem dX8_refusesPet_8 : decode cX8_refusesPet 8 = .ok (.iconst (-1), 1) := by decide +kernel
theorem dX8_refusesPet_9 : decode cX8_refusesPet 9 = .ok (.ireturn, 1) := by decide +kernel
theorem dX8_refusesPet_10 : decode cX8_refusesPet 10 = .ok (.aload_n 0, 1) := by decide +kernel
theorem dX8_refusesPet_11 : decode cX8_refusesPet 11 = .ok (.getfield 9, 3) := by decide +kernel
theorem dX8_refusesPet_14 : decode cX8_refusesPet 14 = .ok (.bipush 12, 2) := by decide +kernel
theorem dX8_refusesPet_16 : decode cX8_refusesPet 16 = .ok (.iload_n 1, 1) := by decide +kernel
theorem dX8_refusesPet_17 : decode cX8_refusesPet 17 = .ok (.iadd, 1) := by decide +kernel
theorem dX8_refusesPet_18 : decode cX8_refusesPet 18 = .ok (.iaload, 1) := by decide +kernel
theorem dX8_refusesPet_19 : decode cX8_refusesPet 19 = .ok (.bipush 9, 2) := by decide +kernel
theorem dX8_refusesPet_21 : decode cX8_refusesPet 21 = .ok (.if_icmp .ne 8, 3) := by decide +kernel
theorem dX8_refusesPet_24 : decode cX8_refusesPet 24 = .ok (.bipush (-2), 2) := by decide +kernel
theorem dX8_refusesPet_26 : decode cX8_refusesPet 26 = .ok (.goto 4, 3) := by decide +kernel
theorem dX8_refusesPet_29 : decode cX8_refusesPet 29 = .ok (.iconst 0, 1) := by decide +kernel
theorem dX8_refusesPet_30 : decode cX8_refusesPet 30 = .ok (.ireturn, 1) := by decide +kernel
def p_X8_refusesPet (F : Nat) (p1 : Int32) (x_cats : Int32) (f_now : Nat → Int32) (Post : Int32 → Prop) : Prop := (p_X8_isCat F p1 x_cats (fun (r_2 : Int32) => ((¬ r_2 = 0 → (vp_in ((12 : Int32) + p1) 47 ∧ ((¬ (f_now ((12 : Int32) + p1).toNatClampNeg) = (9 : Int32) → (Post (0 : Int32))) ∧ ((f_now ((12 : Int32) + p1).toNatClampNeg) = (9 : Int32) → (Post (-2 : Int32)))))) ∧ (r_2 = 0 → (Post (-1 : Int32))))))
set_option maxHeartbeats 4000000 in
set_option maxRecDepth 100000 in
theorem c_X8_refusesPet (l : Launch) (D : va_G) (cT : Nat → ClassId) (F : Nat) (h : Nat) (p1 : Int32) (q_now : Nat) (x_arches : Int32) (x_cats : Int32) (w_text : Value) (x_typed : Int32) (w_row : Value) (x_rowMany : Int32) (x_thrown : Int32) (w_read : Value) (x_length : Int32) (x_top : Int32) (x_at : Int32) (x_wrong : Int32) (w_told : Value) (w_rule : Value) (w_otherRule : Value) (x_ruleSize : Int32) (x_isAsked : Int32) (w_asked : Value) (w_undos : Value) (x_undoMany : Int32) (w_aside : Value) (w_then : Value) (w_hold : Value) (x_dropped : Int32) (w_acts : Value) (w_guarded : Value) (w_train : Value) (x_trolleyEnd : Int32) (w_feltOf : Value) (w_feltBy : Value) (x_feltMany : Int32) (w_many : Value) (w_heardOf : Value) (w_heardBy : Value) (x_heardMany : Int32) (w_worth : Value) (x_drawn : Int32) (x_came : Int32) (w_kept : Value) (w_isKept : Value) (w_keptCame : Value) (f_now : Nat → Int32) (Post : Int32 → Prop) (hg : p_X8_refusesPet F p1 x_cats f_now Post) : MRi l D cT yX8_refusesPet cX8_refusesPet 2 (some .int) 2 43 [.ref h, .int p1] [(h, oX8 (.ref q_now) (.int x_arches) (.int x_cats) w_text (.int x_typed) w_row (.int x_rowMany) (.int x_thrown) w_read (.int x_length) (.int x_top) (.int x_at) (.int x_wrong) w_told w_rule w_otherRule (.int x_ruleSize) (.int x_isAsked) w_asked w_undos (.int x_undoMany) w_aside w_then w_hold (.int x_dropped) w_acts w_guarded w_train (.int x_trolleyEnd) w_feltOf w_feltBy (.int x_feltMany) w_many w_heardOf w_heardBy (.int x_heardMany) w_worth (.int x_drawn) (.int x_came) w_kept w_isKept w_keptCame), (q_now, aI cT 47 f_now)] Post := by
  refine MRi.of (by decide) (Nat.le_of_ble_eq_true rfl) ?_
  intro p e s m below meth c C0 hr hP hD ls hl
  have hl : lv_has ls 2 [(0, .ref h), (1, .int p1)] := hl
  have hx := C0.x
  have hb := C0.b
  have hP : va_P D cls9 [(h, oX8 (.ref q_now) (.int x_arches) (.int x_cats) w_text (.int x_typed) w_row (.int x_rowMany) (.int x_thrown) w_read (.int x_length) (.int x_top) (.int x_at) (.int x_wrong) w_told w_rule w_otherRule (.int x_ruleSize) (.int x_isAsked) w_asked w_undos (.int x_undoMany) w_aside w_then w_hold (.int x_dropped) w_acts w_guarded w_train (.int x_trolleyEnd) w_feltOf w_feltBy (.int x_feltMany) w_many w_heardOf w_heardBy (.int x_heardMany) w_worth (.int x_drawn) (.int x_came) w_kept w_isKept w_keptCame), (q_now, aI cT 47 f_now)] s.heap := hP
  have hD : va_D (fun _ => True) [(h, oX8 (.ref q_now) (.int x_arches) (.int x_cats) w_text (.int x_typed) w_row (.int x_rowMany) (.int x_thrown) w_read (.int x_length) (.int x_top) (.int x_at) (.int x_wrong) w_told w_rule w_otherRule (.int x_ruleSize) (.int x_isAsked) w_asked w_undos (.int x_undoMany) w_aside w_then w_hold (.int x_dropped) w_acts w_guarded w_train (.int x_trolleyEnd) w_feltOf w_feltBy (.int x_feltMany) w_many w_heardOf w_heardBy (.int x_heardMany) w_worth (.int x_drawn) (.int x_came) w_kept w_isKept w_keptCame), (q_now, aI cT 47 f_now)] := hD
  unfold p_X8_refusesPet at hg
  refine lv_aload_n hx hb dX8_refusesPet_0 rfl (lv_at hl 0 rfl) ?_
  refine lv_iload_n hx hb dX8_refusesPet_1 rfl (lv_at hl 1 rfl) ?_
  refine k_Vxi (rest := []) C0 lk_X8_224 (c_X8_isCat l D cT F h p1 (.ref q_now) x_arches x_cats w_text x_typed w_row x_rowMany x_thrown w_read x_length x_top x_at x_wrong w_told w_rule w_otherRule x_ruleSize x_isAsked w_asked w_undos x_undoMany w_aside w_then w_hold x_dropped w_acts w_guarded w_train x_trolleyEnd w_feltOf w_feltBy x_feltMany w_many w_heardOf w_heardBy x_heardMany w_worth x_drawn x_came w_kept w_isKept w_keptCame _ hg) hP hD [0] (by decide +kernel) rfl rfl rfl ⟨Nat.le_of_ble_eq_true rfl, Nat.le_of_ble_eq_true rfl⟩ rfl hl.1 rfl (Nat.le_of_ble_eq_true rfl) dX8_refusesPet_2 ⟨Nat.le_of_ble_eq_true rfl, Nat.le_of_ble_eq_true rfl⟩ (fun r_2 hg => ?_)
  refine lv_if_ne (tgt := 10) hx hb dX8_refusesPet_5 (by decide) (fun c_5 => ?_) (fun c_5 => ?_)
  · have hg := hg.1 c_5
    refine lv_aload_n hx hb dX8_refusesPet_10 rfl (lv_at hl 0 rfl) ?_
    refine gf_X8_9 C0 hP 0 rfl rfl dX8_refusesPet_11 ?_
    refine lv_bipush (v := (12 : Int32)) hx hb dX8_refusesPet_14 (by decide) ?_
    refine lv_iload_n hx hb dX8_refusesPet_16 rfl (lv_at hl 1 rfl) ?_
    refine lv_iadd hx hb dX8_refusesPet_17 ?_
    obtain ⟨g_18, hg⟩ := hg
    refine k_iald C0 hP 1 rfl g_18 dX8_refusesPet_18 ?_
    refine lv_bipush (v := (9 : Int32)) hx hb dX8_refusesPet_19 (by decide) ?_
    refine lv_icmp_ne (tgt := 29) hx hb dX8_refusesPet_21 (by decide) (fun c_21 => ?_) (fun c_21 => ?_)
    · have hg := hg.1 c_21
      refine lv_iconst (v := (0 : Int32)) hx hb dX8_refusesPet_29 (by decide) ?_
      exact k_xiret C0 hr hg dX8_refusesPet_30
    have hg := hg.2 c_21
    refine lv_bipush (v := (-2 : Int32)) hx hb dX8_refusesPet_24 (by decide) ?_
    refine lv_goto (tgt := 30) hx hb dX8_refusesPet_26 (by decide) ?_
    exact k_xiret C0 hr hg dX8_refusesPet_30
  have hg := hg.2 c_5
  refine lv_iconst (v := (-1 : Int32)) hx hb dX8_refusesPet_8 (by decide) ?_
  exact k_xiret C0 hr hg dX8_refusesPet_9
theorem dX8_pets_0 : decode cX8_pets 0 = .ok (.aload_n 0, 1) := by decide +kernel
theorem dX8_pets_1 : decode cX8_pets 1 = .ok (.iconst 0, 1) := by decide +kernel
theorem dX8_pets_2 : decode cX8_pets 2 = .ok (.putfield 82, 3) := by decide +kernel
theorem dX8_pets_5 : decode cX8_pets 5 = .ok (.aload_n 0, 1) := by decide +kernel
theorem dX8_pets_6 : decode cX8_pets 6 = .ok (.iload_n 1, 1) := by decide +kernel
theorem dX8_pets_7 : decode cX8_pets 7 = .ok (.invokevirtual 264, 3) := by decide +kernel
theorem dX8_pets_10 : decode cX8_pets 10 = .ok (.istore_n 2, 1) := by decide +kernel
theorem dX8_pets_11 : decode cX8_pets 11 = .ok (.iload_n 2, 1) := by decide +kernel
theorem dX8_pets_12 : decode cX8_pets 12 = .ok (.ifCond .ge 5, 3) := by decide +kernel
theorem dX8_pets_15 : decode cX8_pets 15 = .ok (.iload_n 2, 1) := by decide +kernel
theorem dX8_pets_16 : decode cX8_pets 16 = .ok (.ireturn, 1) := by decide +kernel
theorem dX8_pets_17 : decode cX8_pets 17 = .ok (.aload_n 0, 1) := by decide +kernel
theorem dX8_pets_18 : decode cX8_pets 18 = .ok (.aload_n 0, 1) := by decide +kernel
theorem dX8_pets_19 : decode cX8_pets 19 = .ok (.getfield 9, 3) := by decide +kernel
theorem dX8_pets_22 : decode cX8_pets 22 = .ok (.invokevirtual 246, 3) := by decide +kernel
theorem dX8_pets_25 : decode cX8_pets 25 = .ok (.aload_n 0, 1) := by decide +kernel
theorem dX8_pets_26 : decode cX8_pets 26 = .ok (.getfield 9, 3) := by decide +kernel
theorem dX8_pets_29 : decode cX8_pets 29 = .ok (.bipush 12, 2) := by decide +kernel
theorem dX8_pets_31 : decode cX8_pets 31 = .ok (.iload_n 1, 1) := by decide +kernel
theorem dX8_pets_32 : decode cX8_pets 32 = .ok (.iadd, 1) := by decide +kernel
theorem dX8_pets_33 : decode cX8_pets 33 = .ok (.dup2, 1) := by decide +kernel
theorem dX8_pets_34 : decode cX8_pets 34 = .ok (.iaload, 1) := by decide +kernel
theorem dX8_pets_35 : decode cX8_pets 35 = .ok (.iconst 1, 1) := by decide +kernel
theorem dX8_pets_36 : decode cX8_pets 36 = .ok (.iadd, 1) := by decide +kernel
theorem dX8_pets_37 : decode cX8_pets 37 = .ok (.iastore, 1) := by decide +kernel
theorem dX8_pets_38 : decode cX8_pets 38 = .ok (.aload_n 0, 1) := by decide +kernel
theorem dX8_pets_39 : decode cX8_pets 39 = .ok (.getfield 9, 3) := by decide +kernel
theorem dX8_pets_42 : decode cX8_pets 42 = .ok (.bipush 12, 2) := by decide +kernel
theorem dX8_pets_44 : decode cX8_pets 44 = .ok (.iload_n 1, 1) := by decide +kernel
theorem dX8_pets_45 : decode cX8_pets 45 = .ok (.iadd, 1) := by decide +kernel
theorem dX8_pets_46 : decode cX8_pets 46 = .ok (.iaload, 1) := by decide +kernel
theorem dX8_pets_47 : decode cX8_pets 47 = .ok (.ireturn, 1) := by decide +kernel
def p_X8_pets (F : Nat) (p1 : Int32) (x_cats : Int32) (x_undoMany : Int32) (f_now : Nat → Int32) (f_undos : Nat → Int32) (Post : Int32 → (Int32 × Int32 × (Nat → Int32) × (Nat → Int32)) → Prop) : Prop := (p_X8_refusesPet F p1 x_cats f_now (fun (r_7 : Int32) => ((0 ≤ r_7 → (p_X8_remember F x_undoMany f_undos 47 f_now (fun (u_22 : (Int32 × (Nat → Int32))) => (vp_in ((12 : Int32) + p1) 47 ∧ (vp_in ((12 : Int32) + p1) 47 ∧ (vp_in ((12 : Int32) + p1) 47 ∧ (Post ((upd f_now ((12 : Int32) + p1).toNatClampNeg ((f_now ((12 : Int32) + p1).toNatClampNeg) + (1 : Int32))) ((12 : Int32) + p1).toNatClampNeg) ((0 : Int32), u_22.1, (upd f_now ((12 : Int32) + p1).toNatClampNeg ((f_now ((12 : Int32) + p1).toNatClampNeg) + (1 : Int32))), u_22.2)))))))) ∧ (¬ 0 ≤ r_7 → (Post r_7 ((0 : Int32), x_undoMany, f_now, f_undos))))))
set_option maxHeartbeats 4000000 in
set_option maxRecDepth 100000 in
theorem c_X8_pets (l : Launch) (D : va_G) (cT : Nat → ClassId) (F : Nat) (h : Nat) (p1 : Int32) (q_now : Nat) (x_arches : Int32) (x_cats : Int32) (w_text : Value) (x_typed : Int32) (w_row : Value) (x_rowMany : Int32) (x_thrown : Int32) (w_read : Value) (x_length : Int32) (x_top : Int32) (x_at : Int32) (x_wrong : Int32) (w_told : Value) (w_rule : Value) (w_otherRule : Value) (x_ruleSize : Int32) (x_isAsked : Int32) (w_asked : Value) (q_undos : Nat) (x_undoMany : Int32) (w_aside : Value) (w_then : Value) (w_hold : Value) (x_dropped : Int32) (w_acts : Value) (w_guarded : Value) (w_train : Value) (x_trolleyEnd : Int32) (w_feltOf : Value) (w_feltBy : Value) (x_feltMany : Int32) (w_many : Value) (w_heardOf : Value) (w_heardBy : Value) (x_heardMany : Int32) (w_worth : Value) (x_drawn : Int32) (x_came : Int32) (w_kept : Value) (w_isKept : Value) (w_keptCame : Value) (f_now : Nat → Int32) (f_undos : Nat → Int32) (Post : Int32 → (Int32 × Int32 × (Nat → Int32) × (Nat → Int32)) → Prop) (hg : p_X8_pets F p1 x_cats x_undoMany f_now f_undos Post) : MWi l D cT yX8_pets cX8_pets 3 (some .int) 3 64 0 0 [.ref h, .int p1] [(h, oX8 (.ref q_now) (.int x_arches) (.int x_cats) w_text (.int x_typed) w_row (.int x_rowMany) (.int x_thrown) w_read (.int x_length) (.int x_top) (.int x_at) (.int x_wrong) w_told w_rule w_otherRule (.int x_ruleSize) (.int x_isAsked) w_asked (.ref q_undos) (.int x_undoMany) w_aside w_then w_hold (.int x_dropped) w_acts w_guarded w_train (.int x_trolleyEnd) w_feltOf w_feltBy (.int x_feltMany) w_many w_heardOf w_heardBy (.int x_heardMany) w_worth (.int x_drawn) (.int x_came) w_kept w_isKept w_keptCame), (q_now, aI cT 47 f_now), (q_undos, aI cT 564 f_undos)] Post (fun (u : (Int32 × Int32 × (Nat → Int32) × (Nat → Int32))) => [(h, oX8 (.ref q_now) (.int x_arches) (.int x_cats) w_text (.int x_typed) w_row (.int x_rowMany) (.int u.1) w_read (.int x_length) (.int x_top) (.int x_at) (.int x_wrong) w_told w_rule w_otherRule (.int x_ruleSize) (.int x_isAsked) w_asked (.ref q_undos) (.int u.2.1) w_aside w_then w_hold (.int x_dropped) w_acts w_guarded w_train (.int x_trolleyEnd) w_feltOf w_feltBy (.int x_feltMany) w_many w_heardOf w_heardBy (.int x_heardMany) w_worth (.int x_drawn) (.int x_came) w_kept w_isKept w_keptCame), (q_now, aI cT 47 u.2.2.1), (q_undos, aI cT 564 u.2.2.2)]) := by
  refine MWi.of (by decide) (Nat.le_of_ble_eq_true rfl) ?_
  intro p e s m below meth c A hA C0 hnm hr hP hD ls hl
  have hl : lv_has ls 3 [(0, .ref h), (1, .int p1)] := hl
  have hx := C0.x
  have hb := C0.b
  have hS : va_S A s.heap s.heap [] := va_S.rf
  have hP : va_P D cls9 [(h, oX8 (.ref q_now) (.int x_arches) (.int x_cats) w_text (.int x_typed) w_row (.int x_rowMany) (.int x_thrown) w_read (.int x_length) (.int x_top) (.int x_at) (.int x_wrong) w_told w_rule w_otherRule (.int x_ruleSize) (.int x_isAsked) w_asked (.ref q_undos) (.int x_undoMany) w_aside w_then w_hold (.int x_dropped) w_acts w_guarded w_train (.int x_trolleyEnd) w_feltOf w_feltBy (.int x_feltMany) w_many w_heardOf w_heardBy (.int x_heardMany) w_worth (.int x_drawn) (.int x_came) w_kept w_isKept w_keptCame), (q_now, aI cT 47 f_now), (q_undos, aI cT 564 f_undos)] s.heap := hP
  have hD : va_D A [(h, oX8 (.ref q_now) (.int x_arches) (.int x_cats) w_text (.int x_typed) w_row (.int x_rowMany) (.int x_thrown) w_read (.int x_length) (.int x_top) (.int x_at) (.int x_wrong) w_told w_rule w_otherRule (.int x_ruleSize) (.int x_isAsked) w_asked (.ref q_undos) (.int x_undoMany) w_aside w_then w_hold (.int x_dropped) w_acts w_guarded w_train (.int x_trolleyEnd) w_feltOf w_feltBy (.int x_feltMany) w_many w_heardOf w_heardBy (.int x_heardMany) w_worth (.int x_drawn) (.int x_came) w_kept w_isKept w_keptCame), (q_now, aI cT 47 f_now), (q_undos, aI cT 564 f_undos)] := hD
  unfold p_X8_pets at hg
  refine lv_aload_n hx hb dX8_pets_0 rfl (lv_at hl 0 rfl) ?_
  refine lv_iconst (v := (0 : Int32)) hx hb dX8_pets_1 (by decide) ?_
  refine pf_X8_82 C0 hP hD hS 0 rfl (Nat.le_of_ble_eq_true rfl) (ws2 := [(h, oX8 (.ref q_now) (.int x_arches) (.int x_cats) w_text (.int x_typed) w_row (.int x_rowMany) (.int (0 : Int32)) w_read (.int x_length) (.int x_top) (.int x_at) (.int x_wrong) w_told w_rule w_otherRule (.int x_ruleSize) (.int x_isAsked) w_asked (.ref q_undos) (.int x_undoMany) w_aside w_then w_hold (.int x_dropped) w_acts w_guarded w_train (.int x_trolleyEnd) w_feltOf w_feltBy (.int x_feltMany) w_many w_heardOf w_heardBy (.int x_heardMany) w_worth (.int x_drawn) (.int x_came) w_kept w_isKept w_keptCame), (q_now, aI cT 47 f_now), (q_undos, aI cT 564 f_undos)]) rfl dX8_pets_2 (fun H locs hP hD hS => ?_)
  refine lv_aload_n hx hb dX8_pets_5 rfl (lv_at hl 0 rfl) ?_
  refine lv_iload_n hx hb dX8_pets_6 rfl (lv_at hl 1 rfl) ?_
  refine k_Vxi (rest := []) C0 lk_X8_264 (c_X8_refusesPet l D cT F h p1 q_now x_arches x_cats w_text x_typed w_row x_rowMany (0 : Int32) w_read x_length x_top x_at x_wrong w_told w_rule w_otherRule x_ruleSize x_isAsked w_asked (.ref q_undos) x_undoMany w_aside w_then w_hold x_dropped w_acts w_guarded w_train x_trolleyEnd w_feltOf w_feltBy x_feltMany w_many w_heardOf w_heardBy x_heardMany w_worth x_drawn x_came w_kept w_isKept w_keptCame f_now _ hg) hP hD [0, 1] (by decide +kernel) rfl rfl rfl ⟨Nat.le_of_ble_eq_true rfl, Nat.le_of_ble_eq_true rfl⟩ rfl hl.1 rfl (Nat.le_of_ble_eq_true rfl) dX8_pets_7 ⟨Nat.le_of_ble_eq_true rfl, Nat.le_of_ble_eq_true rfl⟩ (fun r_7 hg => ?_)
  refine lv_istore_n (lv' := [(2, .int r_7), (0, .ref h), (1, .int p1)]) hx hb dX8_pets_10 rfl hl (by decide) rfl (fun ls hl => ?_)
  refine lv_iload_n hx hb dX8_pets_11 rfl (lv_at hl 0 rfl) ?_
  refine lv_if_ge (tgt := 17) hx hb dX8_pets_12 (by decide) (fun c_12 => ?_) (fun c_12 => ?_)
  · have hg := hg.1 c_12
    refine lv_aload_n hx hb dX8_pets_17 rfl (lv_at hl 1 rfl) ?_
    refine lv_aload_n hx hb dX8_pets_18 rfl (lv_at hl 1 rfl) ?_
    refine gf_X8_9 C0 hP 0 rfl rfl dX8_pets_19 ?_
    refine k_Vv (rest := []) (wr := []) (w2 := fun u_22 => [(h, oX8 (.ref q_now) (.int x_arches) (.int x_cats) w_text (.int x_typed) w_row (.int x_rowMany) (.int (0 : Int32)) w_read (.int x_length) (.int x_top) (.int x_at) (.int x_wrong) w_told w_rule w_otherRule (.int x_ruleSize) (.int x_isAsked) w_asked (.ref q_undos) (.int u_22.1) w_aside w_then w_hold (.int x_dropped) w_acts w_guarded w_train (.int x_trolleyEnd) w_feltOf w_feltBy (.int x_feltMany) w_many w_heardOf w_heardBy (.int x_heardMany) w_worth (.int x_drawn) (.int x_came) w_kept w_isKept w_keptCame), (q_undos, aI cT 564 u_22.2), (q_now, aI cT 47 f_now)]) C0 lk_X8_246 (c_X8_remember l D cT F h q_now (.ref q_now) x_arches x_cats w_text x_typed w_row x_rowMany (0 : Int32) w_read x_length x_top x_at x_wrong w_told w_rule w_otherRule x_ruleSize x_isAsked w_asked q_undos x_undoMany w_aside w_then w_hold x_dropped w_acts w_guarded w_train x_trolleyEnd w_feltOf w_feltBy x_feltMany w_many w_heardOf w_heardBy x_heardMany w_worth x_drawn x_came w_kept w_isKept w_keptCame f_undos 47 f_now _ hg) hP hD hS hA [0, 2, 1] [] (by decide +kernel) rfl rfl (fun _ => rfl) rfl rfl ⟨Nat.le_of_ble_eq_true rfl, Nat.le_of_ble_eq_true rfl⟩ rfl hl.1 rfl (Nat.le_of_ble_eq_true rfl) dX8_pets_22 ⟨Nat.le_of_ble_eq_true rfl, Nat.le_of_ble_eq_true rfl⟩ ?_
    intro u_22 H locs hg hP hD hS
    refine lv_aload_n hx hb dX8_pets_25 rfl (lv_at hl 1 rfl) ?_
    refine gf_X8_9 C0 hP 0 rfl rfl dX8_pets_26 ?_
    refine lv_bipush (v := (12 : Int32)) hx hb dX8_pets_29 (by decide) ?_
    refine lv_iload_n hx hb dX8_pets_31 rfl (lv_at hl 2 rfl) ?_
    refine lv_iadd hx hb dX8_pets_32 ?_
    refine lv_dup2_11 hx hb dX8_pets_33 rfl rfl ?_
    obtain ⟨g_34, hg⟩ := hg
    refine k_iald C0 hP 2 rfl g_34 dX8_pets_34 ?_
    refine lv_iconst (v := (1 : Int32)) hx hb dX8_pets_35 (by decide) ?_
    refine lv_iadd hx hb dX8_pets_36 ?_
    obtain ⟨g_37, hg⟩ := hg
    refine k_iast C0 hP hD hS 2 rfl g_37 (ws' := [(h, oX8 (.ref q_now) (.int x_arches) (.int x_cats) w_text (.int x_typed) w_row (.int x_rowMany) (.int (0 : Int32)) w_read (.int x_length) (.int x_top) (.int x_at) (.int x_wrong) w_told w_rule w_otherRule (.int x_ruleSize) (.int x_isAsked) w_asked (.ref q_undos) (.int u_22.1) w_aside w_then w_hold (.int x_dropped) w_acts w_guarded w_train (.int x_trolleyEnd) w_feltOf w_feltBy (.int x_feltMany) w_many w_heardOf w_heardBy (.int x_heardMany) w_worth (.int x_drawn) (.int x_came) w_kept w_isKept w_keptCame), (q_undos, aI cT 564 u_22.2), (q_now, aI cT 47 (upd f_now ((12 : Int32) + p1).toNatClampNeg ((f_now ((12 : Int32) + p1).toNatClampNeg) + (1 : Int32))))]) rfl dX8_pets_37 (fun H locs hP hD hS => ?_)
    refine lv_aload_n hx hb dX8_pets_38 rfl (lv_at hl 1 rfl) ?_
    refine gf_X8_9 C0 hP 0 rfl rfl dX8_pets_39 ?_
    refine lv_bipush (v := (12 : Int32)) hx hb dX8_pets_42 (by decide) ?_
    refine lv_iload_n hx hb dX8_pets_44 rfl (lv_at hl 2 rfl) ?_
    refine lv_iadd hx hb dX8_pets_45 ?_
    obtain ⟨g_46, hg⟩ := hg
    refine k_iald C0 hP 2 rfl g_46 dX8_pets_46 ?_
    exact k_iret C0 hr ((0 : Int32), u_22.1, (upd f_now ((12 : Int32) + p1).toNatClampNeg ((f_now ((12 : Int32) + p1).toNatClampNeg) + (1 : Int32))), u_22.2) hg (subP hP [0, 2, 1] rfl) (hD.sub [0, 2, 1] (nd2_ok _ (by decide +kernel)) rfl) hS dX8_pets_47
  have hg := hg.2 c_12
  refine lv_iload_n hx hb dX8_pets_15 rfl (lv_at hl 0 rfl) ?_
  exact k_iret C0 hr ((0 : Int32), x_undoMany, f_now, f_undos) hg hP hD hS dX8_pets_16
theorem dX8_canGrieve_0 : decode cX8_canGrieve 0 = .ok (.aload_n 0, 1) := by decide +kernel
theorem dX8_canGrieve_1 : decode cX8_canGrieve 1 = .ok (.iload_n 1, 1) := by decide +kernel
theorem dX8_canGrieve_2 : decode cX8_canGrieve 2 = .ok (.invokevirtual 224, 3) := by decide +kernel
theorem dX8_canGrieve_5 : decode cX8_canGrieve 5 = .ok (.ifCond .eq 17, 3) := by decide +kernel
theorem dX8_canGrieve_8 : decode cX8_canGrieve 8 = .ok (.iload_n 2, 1) := by decide +kernel
theorem dX8_canGrieve_9 : decode cX8_canGrieve 9 = .ok (.iconst 1, 1) := by decide +kernel
theorem dX8_canGrieve_10 : decode cX8_canGrieve 10 = .ok (.bipush 9, 2) := by decide +kernel
theorem dX8_canGrieve_12 : decode cX8_canGrieve 12 = .ok (.invokestatic 92, 3) := by decide +kernel
theorem dX8_canGrieve_15 : decode cX8_canGrieve 15 = .ok (.ifCond .eq 7, 3) := by decide +kernel
theorem dX8_canGrieve_18 : decode cX8_canGrieve 18 = .ok (.iconst 1, 1) := by decide +kernel
theorem dX8_canGrieve_19 : decode cX8_canGrieve 19 = .ok (.goto 4, 3) := by decide +kernel
theorem dX8_canGrieve_22 : decode cX8_canGrieve 22 = .ok (.iconst 0, 1) := by decide +kernel
theorem dX8_canGrieve_23 : decode cX8_canGrieve 23 = .ok (.ireturn, 1) := by decide +kernel
def p_X8_canGrieve (F : Nat) (p1 : Int32) (p2 : Int32) (x_cats : Int32) (Post : Int32 → Prop) : Prop := (p_X8_isCat F p1 x_cats (fun (r_2 : Int32) => ((r_2 = 0 → (Post (0 : Int32))) ∧ (¬ r_2 = 0 → (p_X8_in F p2 (1 : Int32) (9 : Int32) (fun (r_12 : Int32) => ((r_12 = 0 → (Post (0 : Int32))) ∧ (¬ r_12 = 0 → (Post (1 : Int32))))))))))
set_option maxHeartbeats 4000000 in
set_option maxRecDepth 100000 in
theorem c_X8_canGrieve (l : Launch) (D : va_G) (cT : Nat → ClassId) (F : Nat) (h : Nat) (p1 : Int32) (p2 : Int32) (w_now : Value) (x_arches : Int32) (x_cats : Int32) (w_text : Value) (x_typed : Int32) (w_row : Value) (x_rowMany : Int32) (x_thrown : Int32) (w_read : Value) (x_length : Int32) (x_top : Int32) (x_at : Int32) (x_wrong : Int32) (w_told : Value) (w_rule : Value) (w_otherRule : Value) (x_ruleSize : Int32) (x_isAsked : Int32) (w_asked : Value) (w_undos : Value) (x_undoMany : Int32) (w_aside : Value) (w_then : Value) (w_hold : Value) (x_dropped : Int32) (w_acts : Value) (w_guarded : Value) (w_train : Value) (x_trolleyEnd : Int32) (w_feltOf : Value) (w_feltBy : Value) (x_feltMany : Int32) (w_many : Value) (w_heardOf : Value) (w_heardBy : Value) (x_heardMany : Int32) (w_worth : Value) (x_drawn : Int32) (x_came : Int32) (w_kept : Value) (w_isKept : Value) (w_keptCame : Value) (Post : Int32 → Prop) (hg : p_X8_canGrieve F p1 p2 x_cats Post) : MRi l D cT yX8_canGrieve cX8_canGrieve 3 (some .boolean) 2 43 [.ref h, .int p1, .int p2] [(h, oX8 w_now (.int x_arches) (.int x_cats) w_text (.int x_typed) w_row (.int x_rowMany) (.int x_thrown) w_read (.int x_length) (.int x_top) (.int x_at) (.int x_wrong) w_told w_rule w_otherRule (.int x_ruleSize) (.int x_isAsked) w_asked w_undos (.int x_undoMany) w_aside w_then w_hold (.int x_dropped) w_acts w_guarded w_train (.int x_trolleyEnd) w_feltOf w_feltBy (.int x_feltMany) w_many w_heardOf w_heardBy (.int x_heardMany) w_worth (.int x_drawn) (.int x_came) w_kept w_isKept w_keptCame)] Post := by
  refine MRi.of (by decide) (Nat.le_of_ble_eq_true rfl) ?_
  intro p e s m below meth c C0 hr hP hD ls hl
  have hl : lv_has ls 3 [(0, .ref h), (1, .int p1), (2, .int p2)] := hl
  have hx := C0.x
  have hb := C0.b
  have hP : va_P D cls9 [(h, oX8 w_now (.int x_arches) (.int x_cats) w_text (.int x_typed) w_row (.int x_rowMany) (.int x_thrown) w_read (.int x_length) (.int x_top) (.int x_at) (.int x_wrong) w_told w_rule w_otherRule (.int x_ruleSize) (.int x_isAsked) w_asked w_undos (.int x_undoMany) w_aside w_then w_hold (.int x_dropped) w_acts w_guarded w_train (.int x_trolleyEnd) w_feltOf w_feltBy (.int x_feltMany) w_many w_heardOf w_heardBy (.int x_heardMany) w_worth (.int x_drawn) (.int x_came) w_kept w_isKept w_keptCame)] s.heap := hP
  have hD : va_D (fun _ => True) [(h, oX8 w_now (.int x_arches) (.int x_cats) w_text (.int x_typed) w_row (.int x_rowMany) (.int x_thrown) w_read (.int x_length) (.int x_top) (.int x_at) (.int x_wrong) w_told w_rule w_otherRule (.int x_ruleSize) (.int x_isAsked) w_asked w_undos (.int x_undoMany) w_aside w_then w_hold (.int x_dropped) w_acts w_guarded w_train (.int x_trolleyEnd) w_feltOf w_feltBy (.int x_feltMany) w_many w_heardOf w_heardBy (.int x_heardMany) w_worth (.int x_drawn) (.int x_came) w_kept w_isKept w_keptCame)] := hD
  unfold p_X8_canGrieve at hg
  refine lv_aload_n hx hb dX8_canGrieve_0 rfl (lv_at hl 0 rfl) ?_
  refine lv_iload_n hx hb dX8_canGrieve_1 rfl (lv_at hl 1 rfl) ?_
  refine k_Vxi (rest := []) C0 lk_X8_224 (c_X8_isCat l D cT F h p1 w_now x_arches x_cats w_text x_typed w_row x_rowMany x_thrown w_read x_length x_top x_at x_wrong w_told w_rule w_otherRule x_ruleSize x_isAsked w_asked w_undos x_undoMany w_aside w_then w_hold x_dropped w_acts w_guarded w_train x_trolleyEnd w_feltOf w_feltBy x_feltMany w_many w_heardOf w_heardBy x_heardMany w_worth x_drawn x_came w_kept w_isKept w_keptCame _ hg) hP hD [0] (by decide +kernel) rfl rfl rfl ⟨Nat.le_of_ble_eq_true rfl, Nat.le_of_ble_eq_true rfl⟩ rfl hl.1 rfl (Nat.le_of_ble_eq_true rfl) dX8_canGrieve_2 ⟨Nat.le_of_ble_eq_true rfl, Nat.le_of_ble_eq_true rfl⟩ (fun r_2 hg => ?_)
  refine lv_if_eq (tgt := 22) hx hb dX8_canGrieve_5 (by decide) (fun c_5 => ?_) (fun c_5 => ?_)
  · have hg := hg.1 c_5
    refine lv_iconst (v := (0 : Int32)) hx hb dX8_canGrieve_22 (by decide) ?_
    exact k_xzret C0 hr (Or.inl rfl) hg dX8_canGrieve_23
  have hg := hg.2 c_5
  refine lv_iload_n hx hb dX8_canGrieve_8 rfl (lv_at hl 2 rfl) ?_
  refine lv_iconst (v := (1 : Int32)) hx hb dX8_canGrieve_9 (by decide) ?_
  refine lv_bipush (v := (9 : Int32)) hx hb dX8_canGrieve_10 (by decide) ?_
  refine k_Sxi (rest := []) C0 lk_X8_92 (c_X8_in l D cT F p2 (1 : Int32) (9 : Int32) _ hg) hP hD [] (by decide +kernel) rfl ⟨Nat.le_of_ble_eq_true rfl, Nat.le_of_ble_eq_true rfl⟩ rfl hl.1 rfl (Nat.le_of_ble_eq_true rfl) dX8_canGrieve_12 ⟨Nat.le_of_ble_eq_true rfl, Nat.le_of_ble_eq_true rfl⟩ (fun r_12 hg => ?_)
  refine lv_if_eq (tgt := 22) hx hb dX8_canGrieve_15 (by decide) (fun c_15 => ?_) (fun c_15 => ?_)
  · have hg := hg.1 c_15
    refine lv_iconst (v := (0 : Int32)) hx hb dX8_canGrieve_22 (by decide) ?_
    exact k_xzret C0 hr (Or.inl rfl) hg dX8_canGrieve_23
  have hg := hg.2 c_15
  refine lv_iconst (v := (1 : Int32)) hx hb dX8_canGrieve_18 (by decide) ?_
  refine lv_goto (tgt := 23) hx hb dX8_canGrieve_19 (by decide) ?_
  exact k_xzret C0 hr (Or.inr rfl) hg dX8_canGrieve_23
theorem dX8_goGrieve_0 : decode cX8_goGrieve 0 = .ok (.aload_n 0, 1) := by decide +kernel
theorem dX8_goGrieve_1 : decode cX8_goGrieve 1 = .ok (.bipush 28, 2) := by decide +kernel
theorem dX8_goGrieve_3 : decode cX8_goGrieve 3 = .ok (.iload_n 1, 1) := by decide +kernel
theorem dX8_goGrieve_4 : decode cX8_goGrieve 4 = .ok (.iadd, 1) := by decide +kernel
theorem dX8_goGrieve_5 : decode cX8_goGrieve 5 = .ok (.bipush 9, 2) := by decide +kernel
theorem dX8_goGrieve_7 : decode cX8_goGrieve 7 = .ok (.aload_n 0, 1) := by decide +kernel
theorem dX8_goGrieve_8 : decode cX8_goGrieve 8 = .ok (.bipush 28, 2) := by decide +kernel
theorem dX8_goGrieve_10 : decode cX8_goGrieve 10 = .ok (.iload_n 1, 1) := by decide +kernel
theorem dX8_goGrieve_11 : decode cX8_goGrieve 11 = .ok (.iadd, 1) := by decide +kernel
theorem dX8_goGrieve_12 : decode cX8_goGrieve 12 = .ok (.iaload, 1) := by decide +kernel
theorem dX8_goGrieve_13 : decode cX8_goGrieve 13 = .ok (.iload_n 2, 1) := by decide +kernel
theorem dX8_goGrieve_14 : decode cX8_goGrieve 14 = .ok (.iadd, 1) := by decide +kernel
theorem dX8_goGrieve_15 : decode cX8_goGrieve 15 = .ok (.invokestatic 189, 3) := by decide +kernel
theorem dX8_goGrieve_18 : decode cX8_goGrieve 18 = .ok (.iastore, 1) := by decide +kernel
theorem dX8_goGrieve_19 : decode cX8_goGrieve 19 = .ok (.return_, 1) := by decide +kernel
def p_X8_goGrieve (F : Nat) (p1 : Int32) (p2 : Int32) (n_b0 : Nat) (f_b0 : Nat → Int32) (Post : (Nat → Int32) → Prop) : Prop := (vp_in ((28 : Int32) + p1) n_b0 ∧ (vp_in ((28 : Int32) + p1) n_b0 ∧ (Post (upd f_b0 ((28 : Int32) + p1).toNatClampNeg (if ((f_b0 ((28 : Int32) + p1).toNatClampNeg) + p2) < (9 : Int32) then ((f_b0 ((28 : Int32) + p1).toNatClampNeg) + p2) else (9 : Int32))))))
set_option maxHeartbeats 4000000 in
set_option maxRecDepth 100000 in
theorem c_X8_goGrieve (l : Launch) (D : va_G) (cT : Nat → ClassId) (F : Nat) (b0 : Nat) (p1 : Int32) (p2 : Int32) (n_b0 : Nat) (f_b0 : Nat → Int32) (Post : (Nat → Int32) → Prop) (hg : p_X8_goGrieve F p1 p2 n_b0 f_b0 Post) : MWv l D cT yX8_goGrieve cX8_goGrieve 3 none 1 30 0 0 [.ref b0, .int p1, .int p2] [(b0, aI cT n_b0 f_b0)] Post (fun (u : (Nat → Int32)) => [(b0, aI cT n_b0 u)]) := by
  refine MWv.of (by decide) (Nat.le_of_ble_eq_true rfl) ?_
  intro p e s m below meth c A hA C0 hnm hr hP hD ls hl
  have hl : lv_has ls 3 [(0, .ref b0), (1, .int p1), (2, .int p2)] := hl
  have hx := C0.x
  have hb := C0.b
  have hS : va_S A s.heap s.heap [] := va_S.rf
  have hP : va_P D cls9 [(b0, aI cT n_b0 f_b0)] s.heap := hP
  have hD : va_D A [(b0, aI cT n_b0 f_b0)] := hD
  unfold p_X8_goGrieve at hg
  refine lv_aload_n hx hb dX8_goGrieve_0 rfl (lv_at hl 0 rfl) ?_
  refine lv_bipush (v := (28 : Int32)) hx hb dX8_goGrieve_1 (by decide) ?_
  refine lv_iload_n hx hb dX8_goGrieve_3 rfl (lv_at hl 1 rfl) ?_
  refine lv_iadd hx hb dX8_goGrieve_4 ?_
  refine lv_bipush (v := (9 : Int32)) hx hb dX8_goGrieve_5 (by decide) ?_
  refine lv_aload_n hx hb dX8_goGrieve_7 rfl (lv_at hl 0 rfl) ?_
  refine lv_bipush (v := (28 : Int32)) hx hb dX8_goGrieve_8 (by decide) ?_
  refine lv_iload_n hx hb dX8_goGrieve_10 rfl (lv_at hl 1 rfl) ?_
  refine lv_iadd hx hb dX8_goGrieve_11 ?_
  obtain ⟨g_12, hg⟩ := hg
  refine k_iald C0 hP 0 rfl g_12 dX8_goGrieve_12 ?_
  refine lv_iload_n hx hb dX8_goGrieve_13 rfl (lv_at hl 2 rfl) ?_
  refine lv_iadd hx hb dX8_goGrieve_14 ?_
  refine k_min C0 w5_181 hl.1 (Nat.le_of_ble_eq_true rfl) (Nat.le_of_ble_eq_true rfl) (Nat.le_of_ble_eq_true rfl) (Nat.le_of_ble_eq_true rfl) dX8_goGrieve_15 ?_
  obtain ⟨g_18, hg⟩ := hg
  refine k_iast C0 hP hD hS 0 rfl g_18 (ws' := [(b0, aI cT n_b0 (upd f_b0 ((28 : Int32) + p1).toNatClampNeg (if ((f_b0 ((28 : Int32) + p1).toNatClampNeg) + p2) < (9 : Int32) then ((f_b0 ((28 : Int32) + p1).toNatClampNeg) + p2) else (9 : Int32))))]) rfl dX8_goGrieve_18 (fun H locs hP hD hS => ?_)
  exact k_vret C0 hr (upd f_b0 ((28 : Int32) + p1).toNatClampNeg (if ((f_b0 ((28 : Int32) + p1).toNatClampNeg) + p2) < (9 : Int32) then ((f_b0 ((28 : Int32) + p1).toNatClampNeg) + p2) else (9 : Int32))) hg hP hD hS dX8_goGrieve_19
theorem dX8_grieves_0 : decode cX8_grieves 0 = .ok (.aload_n 0, 1) := by decide +kernel
theorem dX8_grieves_1 : decode cX8_grieves 1 = .ok (.iconst 0, 1) := by decide +kernel
theorem dX8_grieves_2 : decode cX8_grieves 2 = .ok (.putfield 82, 3) := by decide +kernel
theorem dX8_grieves_5 : decode cX8_grieves 5 = .ok (.aload_n 0, 1) := by decide +kernel
theorem dX8_grieves_6 : decode cX8_grieves 6 = .ok (.iload_n 1, 1) := by decide +kernel
theorem dX8_grieves_7 : decode cX8_grieves 7 = .ok (.iload_n 2, 1) := by decide +kernel
theorem dX8_grieves_8 : decode cX8_grieves 8 = .ok (.invokevirtual 267, 3) := by decide +kernel
theorem dX8_grieves_11 : decode cX8_grieves 11 = .ok (.ifCond .ne 5, 3) := by decide +kernel
theorem dX8_grieves_14 : decode cX8_grieves 14 = .ok (.iconst (-1), 1) := by decide +kernel
theorem dX8_grieves_15 : decode cX8_grieves 15 = .ok (.ireturn, 1) := by decide +kernel
theorem dX8_grieves_16 : decode cX8_grieves 16 = .ok (.aload_n 0, 1) := by decide +kernel
theorem dX8_grieves_17 : decode cX8_grieves 17 = .ok (.aload_n 0, 1) := by decide +kernel
theorem dX8_grieves_18 : decode cX8_grieves 18 = .ok (.getfield 9, 3) := by decide +kernel
theorem dX8_grieves_21 : decode cX8_grieves 21 = .ok (.invokevirtual 246, 3) := by decide +kernel
theorem dX8_grieves_24 : decode cX8_grieves 24 = .ok (.aload_n 0, 1) := by decide +kernel
theorem dX8_grieves_25 : decode cX8_grieves 25 = .ok (.getfield 9, 3) := by decide +kernel
theorem dX8_grieves_28 : decode cX8_grieves 28 = .ok (.iload_n 1, 1) := by decide +kernel
theorem dX8_grieves_29 : decode cX8_grieves 29 = .ok (.iload_n 2, 1) := by decide +kernel
theorem dX8_grieves_30 : decode cX8_grieves 30 = .ok (.invokestatic 271, 3) := by decide +kernel
theorem dX8_grieves_33 : decode cX8_grieves 33 = .ok (.aload_n 0, 1) := by decide +kernel
theorem dX8_grieves_34 : decode cX8_grieves 34 = .ok (.getfield 9, 3) := by decide +kernel
theorem dX8_grieves_37 : decode cX8_grieves 37 = .ok (.bipush 28, 2) := by decide +kernel
theorem dX8_grieves_39 : decode cX8_grieves 39 = .ok (.iload_n 1, 1) := by decide +kernel
theorem dX8_grieves_40 : decode cX8_grieves 40 = .ok (.iadd, 1) := by decide +kernel
theorem dX8_grieves_41 : decode cX8_grieves 41 = .ok (.iaload, 1) := by decide +kernel
theorem dX8_grieves_42 : decode cX8_grieves 42 = .ok (.ireturn, 1) := by decide +kernel
def p_X8_grieves (F : Nat) (p1 : Int32) (p2 : Int32) (x_cats : Int32) (x_undoMany : Int32) (f_undos : Nat → Int32) (f_now : Nat → Int32) (Post : Int32 → (Int32 × Int32 × (Nat → Int32) × (Nat → Int32)) → Prop) : Prop := (p_X8_canGrieve F p1 p2 x_cats (fun (r_8 : Int32) => ((¬ r_8 = 0 → (p_X8_remember F x_undoMany f_undos 47 f_now (fun (u_21 : (Int32 × (Nat → Int32))) => (p_X8_goGrieve F p1 p2 47 f_now (fun (u_30 : (Nat → Int32)) => (vp_in ((28 : Int32) + p1) 47 ∧ (Post (u_30 ((28 : Int32) + p1).toNatClampNeg) ((0 : Int32), u_21.1, u_21.2, u_30)))))))) ∧ (r_8 = 0 → (Post (-1 : Int32) ((0 : Int32), x_undoMany, f_undos, f_now))))))
set_option maxHeartbeats 4000000 in
set_option maxRecDepth 100000 in
theorem c_X8_grieves (l : Launch) (D : va_G) (cT : Nat → ClassId) (F : Nat) (h : Nat) (p1 : Int32) (p2 : Int32) (q_now : Nat) (x_arches : Int32) (x_cats : Int32) (w_text : Value) (x_typed : Int32) (w_row : Value) (x_rowMany : Int32) (x_thrown : Int32) (w_read : Value) (x_length : Int32) (x_top : Int32) (x_at : Int32) (x_wrong : Int32) (w_told : Value) (w_rule : Value) (w_otherRule : Value) (x_ruleSize : Int32) (x_isAsked : Int32) (w_asked : Value) (q_undos : Nat) (x_undoMany : Int32) (w_aside : Value) (w_then : Value) (w_hold : Value) (x_dropped : Int32) (w_acts : Value) (w_guarded : Value) (w_train : Value) (x_trolleyEnd : Int32) (w_feltOf : Value) (w_feltBy : Value) (x_feltMany : Int32) (w_many : Value) (w_heardOf : Value) (w_heardBy : Value) (x_heardMany : Int32) (w_worth : Value) (x_drawn : Int32) (x_came : Int32) (w_kept : Value) (w_isKept : Value) (w_keptCame : Value) (f_undos : Nat → Int32) (f_now : Nat → Int32) (Post : Int32 → (Int32 × Int32 × (Nat → Int32) × (Nat → Int32)) → Prop) (hg : p_X8_grieves F p1 p2 x_cats x_undoMany f_undos f_now Post) : MWi l D cT yX8_grieves cX8_grieves 3 (some .int) 3 65 0 0 [.ref h, .int p1, .int p2] [(h, oX8 (.ref q_now) (.int x_arches) (.int x_cats) w_text (.int x_typed) w_row (.int x_rowMany) (.int x_thrown) w_read (.int x_length) (.int x_top) (.int x_at) (.int x_wrong) w_told w_rule w_otherRule (.int x_ruleSize) (.int x_isAsked) w_asked (.ref q_undos) (.int x_undoMany) w_aside w_then w_hold (.int x_dropped) w_acts w_guarded w_train (.int x_trolleyEnd) w_feltOf w_feltBy (.int x_feltMany) w_many w_heardOf w_heardBy (.int x_heardMany) w_worth (.int x_drawn) (.int x_came) w_kept w_isKept w_keptCame), (q_undos, aI cT 564 f_undos), (q_now, aI cT 47 f_now)] Post (fun (u : (Int32 × Int32 × (Nat → Int32) × (Nat → Int32))) => [(h, oX8 (.ref q_now) (.int x_arches) (.int x_cats) w_text (.int x_typed) w_row (.int x_rowMany) (.int u.1) w_read (.int x_length) (.int x_top) (.int x_at) (.int x_wrong) w_told w_rule w_otherRule (.int x_ruleSize) (.int x_isAsked) w_asked (.ref q_undos) (.int u.2.1) w_aside w_then w_hold (.int x_dropped) w_acts w_guarded w_train (.int x_trolleyEnd) w_feltOf w_feltBy (.int x_feltMany) w_many w_heardOf w_heardBy (.int x_heardMany) w_worth (.int x_drawn) (.int x_came) w_kept w_isKept w_keptCame), (q_undos, aI cT 564 u.2.2.1), (q_now, aI cT 47 u.2.2.2)]) := by
  refine MWi.of (by decide) (Nat.le_of_ble_eq_true rfl) ?_
  intro p e s m below meth c A hA C0 hnm hr hP hD ls hl
  have hl : lv_has ls 3 [(0, .ref h), (1, .int p1), (2, .int p2)] := hl
  have hx := C0.x
  have hb := C0.b
  have hS : va_S A s.heap s.heap [] := va_S.rf
  have hP : va_P D cls9 [(h, oX8 (.ref q_now) (.int x_arches) (.int x_cats) w_text (.int x_typed) w_row (.int x_rowMany) (.int x_thrown) w_read (.int x_length) (.int x_top) (.int x_at) (.int x_wrong) w_told w_rule w_otherRule (.int x_ruleSize) (.int x_isAsked) w_asked (.ref q_undos) (.int x_undoMany) w_aside w_then w_hold (.int x_dropped) w_acts w_guarded w_train (.int x_trolleyEnd) w_feltOf w_feltBy (.int x_feltMany) w_many w_heardOf w_heardBy (.int x_heardMany) w_worth (.int x_drawn) (.int x_came) w_kept w_isKept w_keptCame), (q_undos, aI cT 564 f_undos), (q_now, aI cT 47 f_now)] s.heap := hP
  have hD : va_D A [(h, oX8 (.ref q_now) (.int x_arches) (.int x_cats) w_text (.int x_typed) w_row (.int x_rowMany) (.int x_thrown) w_read (.int x_length) (.int x_top) (.int x_at) (.int x_wrong) w_told w_rule w_otherRule (.int x_ruleSize) (.int x_isAsked) w_asked (.ref q_undos) (.int x_undoMany) w_aside w_then w_hold (.int x_dropped) w_acts w_guarded w_train (.int x_trolleyEnd) w_feltOf w_feltBy (.int x_feltMany) w_many w_heardOf w_heardBy (.int x_heardMany) w_worth (.int x_drawn) (.int x_came) w_kept w_isKept w_keptCame), (q_undos, aI cT 564 f_undos), (q_now, aI cT 47 f_now)] := hD
  unfold p_X8_grieves at hg
  refine lv_aload_n hx hb dX8_grieves_0 rfl (lv_at hl 0 rfl) ?_
  refine lv_iconst (v := (0 : Int32)) hx hb dX8_grieves_1 (by decide) ?_
  refine pf_X8_82 C0 hP hD hS 0 rfl (Nat.le_of_ble_eq_true rfl) (ws2 := [(h, oX8 (.ref q_now) (.int x_arches) (.int x_cats) w_text (.int x_typed) w_row (.int x_rowMany) (.int (0 : Int32)) w_read (.int x_length) (.int x_top) (.int x_at) (.int x_wrong) w_told w_rule w_otherRule (.int x_ruleSize) (.int x_isAsked) w_asked (.ref q_undos) (.int x_undoMany) w_aside w_then w_hold (.int x_dropped) w_acts w_guarded w_train (.int x_trolleyEnd) w_feltOf w_feltBy (.int x_feltMany) w_many w_heardOf w_heardBy (.int x_heardMany) w_worth (.int x_drawn) (.int x_came) w_kept w_isKept w_keptCame), (q_undos, aI cT 564 f_undos), (q_now, aI cT 47 f_now)]) rfl dX8_grieves_2 (fun H locs hP hD hS => ?_)
  refine lv_aload_n hx hb dX8_grieves_5 rfl (lv_at hl 0 rfl) ?_
  refine lv_iload_n hx hb dX8_grieves_6 rfl (lv_at hl 1 rfl) ?_
  refine lv_iload_n hx hb dX8_grieves_7 rfl (lv_at hl 2 rfl) ?_
  refine k_Vxi (rest := []) C0 lk_X8_267 (c_X8_canGrieve l D cT F h p1 p2 (.ref q_now) x_arches x_cats w_text x_typed w_row x_rowMany (0 : Int32) w_read x_length x_top x_at x_wrong w_told w_rule w_otherRule x_ruleSize x_isAsked w_asked (.ref q_undos) x_undoMany w_aside w_then w_hold x_dropped w_acts w_guarded w_train x_trolleyEnd w_feltOf w_feltBy x_feltMany w_many w_heardOf w_heardBy x_heardMany w_worth x_drawn x_came w_kept w_isKept w_keptCame _ hg) hP hD [0] (by decide +kernel) rfl rfl rfl ⟨Nat.le_of_ble_eq_true rfl, Nat.le_of_ble_eq_true rfl⟩ rfl hl.1 rfl (Nat.le_of_ble_eq_true rfl) dX8_grieves_8 ⟨Nat.le_of_ble_eq_true rfl, Nat.le_of_ble_eq_true rfl⟩ (fun r_8 hg => ?_)
  refine lv_if_ne (tgt := 16) hx hb dX8_grieves_11 (by decide) (fun c_11 => ?_) (fun c_11 => ?_)
  · have hg := hg.1 c_11
    refine lv_aload_n hx hb dX8_grieves_16 rfl (lv_at hl 0 rfl) ?_
    refine lv_aload_n hx hb dX8_grieves_17 rfl (lv_at hl 0 rfl) ?_
    refine gf_X8_9 C0 hP 0 rfl rfl dX8_grieves_18 ?_
    refine k_Vv (rest := []) (wr := []) (w2 := fun u_21 => [(h, oX8 (.ref q_now) (.int x_arches) (.int x_cats) w_text (.int x_typed) w_row (.int x_rowMany) (.int (0 : Int32)) w_read (.int x_length) (.int x_top) (.int x_at) (.int x_wrong) w_told w_rule w_otherRule (.int x_ruleSize) (.int x_isAsked) w_asked (.ref q_undos) (.int u_21.1) w_aside w_then w_hold (.int x_dropped) w_acts w_guarded w_train (.int x_trolleyEnd) w_feltOf w_feltBy (.int x_feltMany) w_many w_heardOf w_heardBy (.int x_heardMany) w_worth (.int x_drawn) (.int x_came) w_kept w_isKept w_keptCame), (q_undos, aI cT 564 u_21.2), (q_now, aI cT 47 f_now)]) C0 lk_X8_246 (c_X8_remember l D cT F h q_now (.ref q_now) x_arches x_cats w_text x_typed w_row x_rowMany (0 : Int32) w_read x_length x_top x_at x_wrong w_told w_rule w_otherRule x_ruleSize x_isAsked w_asked q_undos x_undoMany w_aside w_then w_hold x_dropped w_acts w_guarded w_train x_trolleyEnd w_feltOf w_feltBy x_feltMany w_many w_heardOf w_heardBy x_heardMany w_worth x_drawn x_came w_kept w_isKept w_keptCame f_undos 47 f_now _ hg) hP hD hS hA [0, 1, 2] [] (by decide +kernel) rfl rfl (fun _ => rfl) rfl rfl ⟨Nat.le_of_ble_eq_true rfl, Nat.le_of_ble_eq_true rfl⟩ rfl hl.1 rfl (Nat.le_of_ble_eq_true rfl) dX8_grieves_21 ⟨Nat.le_of_ble_eq_true rfl, Nat.le_of_ble_eq_true rfl⟩ ?_
    intro u_21 H locs hg hP hD hS
    refine lv_aload_n hx hb dX8_grieves_24 rfl (lv_at hl 0 rfl) ?_
    refine gf_X8_9 C0 hP 0 rfl rfl dX8_grieves_25 ?_
    refine lv_iload_n hx hb dX8_grieves_28 rfl (lv_at hl 1 rfl) ?_
    refine lv_iload_n hx hb dX8_grieves_29 rfl (lv_at hl 2 rfl) ?_
    refine k_Sv (rest := []) (wr := [(h, oX8 (.ref q_now) (.int x_arches) (.int x_cats) w_text (.int x_typed) w_row (.int x_rowMany) (.int (0 : Int32)) w_read (.int x_length) (.int x_top) (.int x_at) (.int x_wrong) w_told w_rule w_otherRule (.int x_ruleSize) (.int x_isAsked) w_asked (.ref q_undos) (.int u_21.1) w_aside w_then w_hold (.int x_dropped) w_acts w_guarded w_train (.int x_trolleyEnd) w_feltOf w_feltBy (.int x_feltMany) w_many w_heardOf w_heardBy (.int x_heardMany) w_worth (.int x_drawn) (.int x_came) w_kept w_isKept w_keptCame), (q_undos, aI cT 564 u_21.2)]) (w2 := fun u_30 => [(h, oX8 (.ref q_now) (.int x_arches) (.int x_cats) w_text (.int x_typed) w_row (.int x_rowMany) (.int (0 : Int32)) w_read (.int x_length) (.int x_top) (.int x_at) (.int x_wrong) w_told w_rule w_otherRule (.int x_ruleSize) (.int x_isAsked) w_asked (.ref q_undos) (.int u_21.1) w_aside w_then w_hold (.int x_dropped) w_acts w_guarded w_train (.int x_trolleyEnd) w_feltOf w_feltBy (.int x_feltMany) w_many w_heardOf w_heardBy (.int x_heardMany) w_worth (.int x_drawn) (.int x_came) w_kept w_isKept w_keptCame), (q_undos, aI cT 564 u_21.2), (q_now, aI cT 47 u_30)]) C0 lk_X8_271 (c_X8_goGrieve l D cT F q_now p1 p2 47 f_now _ hg) hP hD hS hA [2] [0, 1] (by decide +kernel) rfl rfl (fun _ => rfl) ⟨Nat.le_of_ble_eq_true rfl, Nat.le_of_ble_eq_true rfl⟩ rfl hl.1 rfl (Nat.le_of_ble_eq_true rfl) dX8_grieves_30 ⟨Nat.le_of_ble_eq_true rfl, Nat.le_of_ble_eq_true rfl⟩ ?_
    intro u_30 H locs hg hP hD hS
    refine lv_aload_n hx hb dX8_grieves_33 rfl (lv_at hl 0 rfl) ?_
    refine gf_X8_9 C0 hP 0 rfl rfl dX8_grieves_34 ?_
    refine lv_bipush (v := (28 : Int32)) hx hb dX8_grieves_37 (by decide) ?_
    refine lv_iload_n hx hb dX8_grieves_39 rfl (lv_at hl 1 rfl) ?_
    refine lv_iadd hx hb dX8_grieves_40 ?_
    obtain ⟨g_41, hg⟩ := hg
    refine k_iald C0 hP 2 rfl g_41 dX8_grieves_41 ?_
    exact k_iret C0 hr ((0 : Int32), u_21.1, u_21.2, u_30) hg hP hD hS dX8_grieves_42
  have hg := hg.2 c_11
  refine lv_iconst (v := (-1 : Int32)) hx hb dX8_grieves_14 (by decide) ?_
  exact k_iret C0 hr ((0 : Int32), x_undoMany, f_undos, f_now) hg hP hD hS dX8_grieves_15
theorem dX8_refusesSet_0 : decode cX8_refusesSet 0 = .ok (.aload_n 0, 1) := by decide +kernel
theorem dX8_refusesSet_1 : decode cX8_refusesSet 1 = .ok (.iload_n 1, 1) := by decide +kernel
theorem dX8_refusesSet_2 : decode cX8_refusesSet 2 = .ok (.invokevirtual 224, 3) := by decide +kernel
theorem dX8_refusesSet_5 : decode cX8_refusesSet 5 = .ok (.ifCond .eq 11, 3) := by decide +kernel
theorem dX8_refusesSet_8 : decode cX8_refusesSet 8 = .ok (.aload_n 0, 1) := by decide +kernel
theorem dX8_refusesSet_9 : decode cX8_refusesSet 9 = .ok (.iload_n 2, 1) := by decide +kernel
theorem dX8_refusesSet_10 : decode cX8_refusesSet 10 = .ok (.invokevirtual 214, 3) := by decide +kernel
theorem dX8_refusesSet_13 : decode cX8_refusesSet 13 = .ok (.ifCond .ne 5, 3) := by decide +kernel
theorem dX8_refusesSet_16 : decode cX8_refusesSet 16 = .ok (.iconst (-1), 1) := by decide +kernel
theorem dX8_refusesSet_17 : decode cX8_refusesSet 17 = .ok (.ireturn, 1) := by decide +kernel
theorem dX8_refusesSet_18 : decode cX8_refusesSet 18 = .ok (.aload_n 0, 1) := by decide +kernel
theorem dX8_refusesSet_19 : decode cX8_refusesSet 19 = .ok (.getfield 9, 3) := by decide +kernel
theorem dX8_refusesSet_22 : decode cX8_refusesSet 22 = .ok (.bipush 36, 2) := by decide +kernel
theorem dX8_refusesSet_24 : decode cX8_refusesSet 24 = .ok (.iload_n 1, 1) := by decide +kernel
theorem dX8_refusesSet_25 : decode cX8_refusesSet 25 = .ok (.iadd, 1) := by decide +kernel
theorem dX8_refusesSet_26 : decode cX8_refusesSet 26 = .ok (.iaload, 1) := by decide +kernel
theorem dX8_refusesSet_27 : decode cX8_refusesSet 27 = .ok (.iload_n 2, 1) := by decide +kernel
theorem dX8_refusesSet_28 : decode cX8_refusesSet 28 = .ok (.if_icmp .ne 8, 3) := by decide +kernel
theorem dX8_refusesSet_31 : decode cX8_refusesSet 31 = .ok (.bipush (-2), 2) := by decide +kernel
theorem dX8_refusesSet_33 : decode cX8_refusesSet 33 = .ok (.goto 4, 3) := by decide +kernel
theorem dX8_refusesSet_36 : decode cX8_refusesSet 36 = .ok (.iconst 0, 1) := by decide +kernel
theorem dX8_refusesSet_37 : decode cX8_refusesSet 37 = .ok (.ireturn, 1) := by decide +kernel
def p_X8_refusesSet (F : Nat) (p1 : Int32) (p2 : Int32) (x_arches : Int32) (x_cats : Int32) (f_now : Nat → Int32) (Post : Int32 → Prop) : Prop := (p_X8_isCat F p1 x_cats (fun (r_2 : Int32) => ((r_2 = 0 → (Post (-1 : Int32))) ∧ (¬ r_2 = 0 → (p_X8_isArch F p2 x_arches (fun (r_10 : Int32) => ((¬ r_10 = 0 → (vp_in ((36 : Int32) + p1) 47 ∧ ((¬ (f_now ((36 : Int32) + p1).toNatClampNeg) = p2 → (Post (0 : Int32))) ∧ ((f_now ((36 : Int32) + p1).toNatClampNeg) = p2 → (Post (-2 : Int32)))))) ∧ (r_10 = 0 → (Post (-1 : Int32))))))))))
set_option maxHeartbeats 4000000 in
set_option maxRecDepth 100000 in
theorem c_X8_refusesSet (l : Launch) (D : va_G) (cT : Nat → ClassId) (F : Nat) (h : Nat) (p1 : Int32) (p2 : Int32) (q_now : Nat) (x_arches : Int32) (x_cats : Int32) (w_text : Value) (x_typed : Int32) (w_row : Value) (x_rowMany : Int32) (x_thrown : Int32) (w_read : Value) (x_length : Int32) (x_top : Int32) (x_at : Int32) (x_wrong : Int32) (w_told : Value) (w_rule : Value) (w_otherRule : Value) (x_ruleSize : Int32) (x_isAsked : Int32) (w_asked : Value) (w_undos : Value) (x_undoMany : Int32) (w_aside : Value) (w_then : Value) (w_hold : Value) (x_dropped : Int32) (w_acts : Value) (w_guarded : Value) (w_train : Value) (x_trolleyEnd : Int32) (w_feltOf : Value) (w_feltBy : Value) (x_feltMany : Int32) (w_many : Value) (w_heardOf : Value) (w_heardBy : Value) (x_heardMany : Int32) (w_worth : Value) (x_drawn : Int32) (x_came : Int32) (w_kept : Value) (w_isKept : Value) (w_keptCame : Value) (f_now : Nat → Int32) (Post : Int32 → Prop) (hg : p_X8_refusesSet F p1 p2 x_arches x_cats f_now Post) : MRi l D cT yX8_refusesSet cX8_refusesSet 3 (some .int) 2 43 [.ref h, .int p1, .int p2] [(h, oX8 (.ref q_now) (.int x_arches) (.int x_cats) w_text (.int x_typed) w_row (.int x_rowMany) (.int x_thrown) w_read (.int x_length) (.int x_top) (.int x_at) (.int x_wrong) w_told w_rule w_otherRule (.int x_ruleSize) (.int x_isAsked) w_asked w_undos (.int x_undoMany) w_aside w_then w_hold (.int x_dropped) w_acts w_guarded w_train (.int x_trolleyEnd) w_feltOf w_feltBy (.int x_feltMany) w_many w_heardOf w_heardBy (.int x_heardMany) w_worth (.int x_drawn) (.int x_came) w_kept w_isKept w_keptCame), (q_now, aI cT 47 f_now)] Post := by
  refine MRi.of (by decide) (Nat.le_of_ble_eq_true rfl) ?_
  intro p e s m below meth c C0 hr hP hD ls hl
  have hl : lv_has ls 3 [(0, .ref h), (1, .int p1), (2, .int p2)] := hl
  have hx := C0.x
  have hb := C0.b
  have hP : va_P D cls9 [(h, oX8 (.ref q_now) (.int x_arches) (.int x_cats) w_text (.int x_typed) w_row (.int x_rowMany) (.int x_thrown) w_read (.int x_length) (.int x_top) (.int x_at) (.int x_wrong) w_told w_rule w_otherRule (.int x_ruleSize) (.int x_isAsked) w_asked w_undos (.int x_undoMany) w_aside w_then w_hold (.int x_dropped) w_acts w_guarded w_train (.int x_trolleyEnd) w_feltOf w_feltBy (.int x_feltMany) w_many w_heardOf w_heardBy (.int x_heardMany) w_worth (.int x_drawn) (.int x_came) w_kept w_isKept w_keptCame), (q_now, aI cT 47 f_now)] s.heap := hP
  have hD : va_D (fun _ => True) [(h, oX8 (.ref q_now) (.int x_arches) (.int x_cats) w_text (.int x_typed) w_row (.int x_rowMany) (.int x_thrown) w_read (.int x_length) (.int x_top) (.int x_at) (.int x_wrong) w_told w_rule w_otherRule (.int x_ruleSize) (.int x_isAsked) w_asked w_undos (.int x_undoMany) w_aside w_then w_hold (.int x_dropped) w_acts w_guarded w_train (.int x_trolleyEnd) w_feltOf w_feltBy (.int x_feltMany) w_many w_heardOf w_heardBy (.int x_heardMany) w_worth (.int x_drawn) (.int x_came) w_kept w_isKept w_keptCame), (q_now, aI cT 47 f_now)] := hD
  unfold p_X8_refusesSet at hg
  refine lv_aload_n hx hb dX8_refusesSet_0 rfl (lv_at hl 0 rfl) ?_
  refine lv_iload_n hx hb dX8_refusesSet_1 rfl (lv_at hl 1 rfl) ?_
  refine k_Vxi (rest := []) C0 lk_X8_224 (c_X8_isCat l D cT F h p1 (.ref q_now) x_arches x_cats w_text x_typed w_row x_rowMany x_thrown w_read x_length x_top x_at x_wrong w_told w_rule w_otherRule x_ruleSize x_isAsked w_asked w_undos x_undoMany w_aside w_then w_hold x_dropped w_acts w_guarded w_train x_trolleyEnd w_feltOf w_feltBy x_feltMany w_many w_heardOf w_heardBy x_heardMany w_worth x_drawn x_came w_kept w_isKept w_keptCame _ hg) hP hD [0] (by decide +kernel) rfl rfl rfl ⟨Nat.le_of_ble_eq_true rfl, Nat.le_of_ble_eq_true rfl⟩ rfl hl.1 rfl (Nat.le_of_ble_eq_true rfl) dX8_refusesSet_2 ⟨Nat.le_of_ble_eq_true rfl, Nat.le_of_ble_eq_true rfl⟩ (fun r_2 hg => ?_)
  refine lv_if_eq (tgt := 16) hx hb dX8_refusesSet_5 (by decide) (fun c_5 => ?_) (fun c_5 => ?_)
  · have hg := hg.1 c_5
    refine lv_iconst (v := (-1 : Int32)) hx hb dX8_refusesSet_16 (by decide) ?_
    exact k_xiret C0 hr hg dX8_refusesSet_17
  have hg := hg.2 c_5
  refine lv_aload_n hx hb dX8_refusesSet_8 rfl (lv_at hl 0 rfl) ?_
  refine lv_iload_n hx hb dX8_refusesSet_9 rfl (lv_at hl 2 rfl) ?_
  refine k_Vxi (rest := []) C0 lk_X8_214 (c_X8_isArch l D cT F h p2 (.ref q_now) x_arches x_cats w_text x_typed w_row x_rowMany x_thrown w_read x_length x_top x_at x_wrong w_told w_rule w_otherRule x_ruleSize x_isAsked w_asked w_undos x_undoMany w_aside w_then w_hold x_dropped w_acts w_guarded w_train x_trolleyEnd w_feltOf w_feltBy x_feltMany w_many w_heardOf w_heardBy x_heardMany w_worth x_drawn x_came w_kept w_isKept w_keptCame _ hg) hP hD [0] (by decide +kernel) rfl rfl rfl ⟨Nat.le_of_ble_eq_true rfl, Nat.le_of_ble_eq_true rfl⟩ rfl hl.1 rfl (Nat.le_of_ble_eq_true rfl) dX8_refusesSet_10 ⟨Nat.le_of_ble_eq_true rfl, Nat.le_of_ble_eq_true rfl⟩ (fun r_10 hg => ?_)
  refine lv_if_ne (tgt := 18) hx hb dX8_refusesSet_13 (by decide) (fun c_13 => ?_) (fun c_13 => ?_)
  · have hg := hg.1 c_13
    refine lv_aload_n hx hb dX8_refusesSet_18 rfl (lv_at hl 0 rfl) ?_
    refine gf_X8_9 C0 hP 0 rfl rfl dX8_refusesSet_19 ?_
    refine lv_bipush (v := (36 : Int32)) hx hb dX8_refusesSet_22 (by decide) ?_
    refine lv_iload_n hx hb dX8_refusesSet_24 rfl (lv_at hl 1 rfl) ?_
    refine lv_iadd hx hb dX8_refusesSet_25 ?_
    obtain ⟨g_26, hg⟩ := hg
    refine k_iald C0 hP 1 rfl g_26 dX8_refusesSet_26 ?_
    refine lv_iload_n hx hb dX8_refusesSet_27 rfl (lv_at hl 2 rfl) ?_
    refine lv_icmp_ne (tgt := 36) hx hb dX8_refusesSet_28 (by decide) (fun c_28 => ?_) (fun c_28 => ?_)
    · have hg := hg.1 c_28
      refine lv_iconst (v := (0 : Int32)) hx hb dX8_refusesSet_36 (by decide) ?_
      exact k_xiret C0 hr hg dX8_refusesSet_37
    have hg := hg.2 c_28
    refine lv_bipush (v := (-2 : Int32)) hx hb dX8_refusesSet_31 (by decide) ?_
    refine lv_goto (tgt := 37) hx hb dX8_refusesSet_33 (by decide) ?_
    exact k_xiret C0 hr hg dX8_refusesSet_37
  have hg := hg.2 c_13
  refine lv_iconst (v := (-1 : Int32)) hx hb dX8_refusesSet_16 (by decide) ?_
  exact k_xiret C0 hr hg dX8_refusesSet_17
theorem dX8_sets_0 : decode cX8_sets 0 = .ok (.aload_n 0, 1) := by decide +kernel
theorem dX8_sets_1 : decode cX8_sets 1 = .ok (.iconst 0, 1) := by decide +kernel
theorem dX8_sets_2 : decode cX8_sets 2 = .ok (.putfield 82, 3) := by decide +kernel
theorem dX8_sets_5 : decode cX8_sets 5 = .ok (.aload_n 0, 1) := by decide +kernel
theorem dX8_sets_6 : decode cX8_sets 6 = .ok (.iload_n 1, 1) := by decide +kernel
theorem dX8_sets_7 : decode cX8_sets 7 = .ok (.iload_n 2, 1) := by decide +kernel
theorem dX8_sets_8 : decode cX8_sets 8 = .ok (.invokevirtual 274, 3) := by decide +kernel
theorem dX8_sets_11 : decode cX8_sets 11 = .ok (.istore_n 3, 1) := by decide +kernel
theorem dX8_sets_12 : decode cX8_sets 12 = .ok (.iload_n 3, 1) := by decide +kernel
theorem dX8_sets_13 : decode cX8_sets 13 = .ok (.ifCond .ge 5, 3) := by decide +kernel
theorem dX8_sets_16 : decode cX8_sets 16 = .ok (.iload_n 3, 1) := by decide +kernel
theorem dX8_sets_17 : decode cX8_sets 17 = .ok (.ireturn, 1) := by decide +kernel
theorem dX8_sets_18 : decode cX8_sets 18 = .ok (.aload_n 0, 1) := by decide +kernel
theorem dX8_sets_19 : decode cX8_sets 19 = .ok (.aload_n 0, 1) := by decide +kernel
theorem dX8_sets_20 : decode cX8_sets 20 = .ok (.getfield 9, 3) := by decide +kernel
theorem dX8_sets_23 : decode cX8_sets 23 = .ok (.invokevirtual 246, 3) := by decide +kernel
theorem dX8_sets_26 : decode cX8_sets 26 = .ok (.aload_n 0, 1) := by decide +kernel
theorem dX8_sets_27 : decode cX8_sets 27 = .ok (.getfield 9, 3) := by decide +kernel
theorem dX8_sets_30 : decode cX8_sets 30 = .ok (.bipush 36, 2) := by decide +kernel
theorem dX8_sets_32 : decode cX8_sets 32 = .ok (.iload_n 1, 1) := by decide +kernel
theorem dX8_sets_33 : decode cX8_sets 33 = .ok (.iadd, 1) := by decide +kernel
theorem dX8_sets_34 : decode cX8_sets 34 = .ok (.iaload, 1) := by decide +kernel
theorem dX8_sets_35 : decode cX8_sets 35 = .ok (.iload_n 2, 1) := by decide +kernel
theorem dX8_sets_36 : decode cX8_sets 36 = .ok (.isub, 1) := by decide +kernel
theorem dX8_sets_37 : decode cX8_sets 37 = .ok (.invokestatic 277, 3) := by decide +kernel
theorem dX8_sets_40 : decode cX8_sets 40 = .ok (.istore 4, 2) := by decide +kernel
theorem dX8_sets_42 : decode cX8_sets 42 = .ok (.aload_n 0, 1) := by decide +kernel
theorem dX8_sets_43 : decode cX8_sets 43 = .ok (.getfield 9, 3) := by decide +kernel
theorem dX8_sets_46 : decode cX8_sets 46 = .ok (.bipush 36, 2) := by decide +kernel
theorem dX8_sets_48 : decode cX8_sets 48 = .ok (.iload_n 1, 1) := by decide +kernel
theorem dX8_sets_49 : decode cX8_sets 49 = .ok (.iadd, 1) := by decide +kernel
theorem dX8_sets_50 : decode cX8_sets 50 = .ok (.iload_n 2, 1) := by decide +kernel
theorem dX8_sets_51 : decode cX8_sets 51 = .ok (.iastore, 1) := by decide +kernel
theorem dX8_sets_52 : decode cX8_sets 52 = .ok (.iload 4, 2) := by decide +kernel
theorem dX8_sets_54 : decode cX8_sets 54 = .ok (.ireturn, 1) := by decide +kernel
def p_X8_sets (F : Nat) (p1 : Int32) (p2 : Int32) (x_arches : Int32) (x_cats : Int32) (x_undoMany : Int32) (f_now : Nat → Int32) (f_undos : Nat → Int32) (Post : Int32 → (Int32 × Int32 × (Nat → Int32) × (Nat → Int32)) → Prop) : Prop := (p_X8_refusesSet F p1 p2 x_arches x_cats f_now (fun (r_8 : Int32) => ((0 ≤ r_8 → (p_X8_remember F x_undoMany f_undos 47 f_now (fun (u_23 : (Int32 × (Nat → Int32))) => (vp_in ((36 : Int32) + p1) 47 ∧ (vp_in ((36 : Int32) + p1) 47 ∧ (Post (if 0 ≤ ((f_now ((36 : Int32) + p1).toNatClampNeg) - p2) then ((f_now ((36 : Int32) + p1).toNatClampNeg) - p2) else 0 - ((f_now ((36 : Int32) + p1).toNatClampNeg) - p2)) ((0 : Int32), u_23.1, (upd f_now ((36 : Int32) + p1).toNatClampNeg p2), u_23.2))))))) ∧ (¬ 0 ≤ r_8 → (Post r_8 ((0 : Int32), x_undoMany, f_now, f_undos))))))
set_option maxHeartbeats 4000000 in
set_option maxRecDepth 100000 in
theorem c_X8_sets (l : Launch) (D : va_G) (cT : Nat → ClassId) (F : Nat) (h : Nat) (p1 : Int32) (p2 : Int32) (q_now : Nat) (x_arches : Int32) (x_cats : Int32) (w_text : Value) (x_typed : Int32) (w_row : Value) (x_rowMany : Int32) (x_thrown : Int32) (w_read : Value) (x_length : Int32) (x_top : Int32) (x_at : Int32) (x_wrong : Int32) (w_told : Value) (w_rule : Value) (w_otherRule : Value) (x_ruleSize : Int32) (x_isAsked : Int32) (w_asked : Value) (q_undos : Nat) (x_undoMany : Int32) (w_aside : Value) (w_then : Value) (w_hold : Value) (x_dropped : Int32) (w_acts : Value) (w_guarded : Value) (w_train : Value) (x_trolleyEnd : Int32) (w_feltOf : Value) (w_feltBy : Value) (x_feltMany : Int32) (w_many : Value) (w_heardOf : Value) (w_heardBy : Value) (x_heardMany : Int32) (w_worth : Value) (x_drawn : Int32) (x_came : Int32) (w_kept : Value) (w_isKept : Value) (w_keptCame : Value) (f_now : Nat → Int32) (f_undos : Nat → Int32) (Post : Int32 → (Int32 × Int32 × (Nat → Int32) × (Nat → Int32)) → Prop) (hg : p_X8_sets F p1 p2 x_arches x_cats x_undoMany f_now f_undos Post) : MWi l D cT yX8_sets cX8_sets 5 (some .int) 3 65 0 0 [.ref h, .int p1, .int p2] [(h, oX8 (.ref q_now) (.int x_arches) (.int x_cats) w_text (.int x_typed) w_row (.int x_rowMany) (.int x_thrown) w_read (.int x_length) (.int x_top) (.int x_at) (.int x_wrong) w_told w_rule w_otherRule (.int x_ruleSize) (.int x_isAsked) w_asked (.ref q_undos) (.int x_undoMany) w_aside w_then w_hold (.int x_dropped) w_acts w_guarded w_train (.int x_trolleyEnd) w_feltOf w_feltBy (.int x_feltMany) w_many w_heardOf w_heardBy (.int x_heardMany) w_worth (.int x_drawn) (.int x_came) w_kept w_isKept w_keptCame), (q_now, aI cT 47 f_now), (q_undos, aI cT 564 f_undos)] Post (fun (u : (Int32 × Int32 × (Nat → Int32) × (Nat → Int32))) => [(h, oX8 (.ref q_now) (.int x_arches) (.int x_cats) w_text (.int x_typed) w_row (.int x_rowMany) (.int u.1) w_read (.int x_length) (.int x_top) (.int x_at) (.int x_wrong) w_told w_rule w_otherRule (.int x_ruleSize) (.int x_isAsked) w_asked (.ref q_undos) (.int u.2.1) w_aside w_then w_hold (.int x_dropped) w_acts w_guarded w_train (.int x_trolleyEnd) w_feltOf w_feltBy (.int x_feltMany) w_many w_heardOf w_heardBy (.int x_heardMany) w_worth (.int x_drawn) (.int x_came) w_kept w_isKept w_keptCame), (q_now, aI cT 47 u.2.2.1), (q_undos, aI cT 564 u.2.2.2)]) := by
  refine MWi.of (by decide) (Nat.le_of_ble_eq_true rfl) ?_
  intro p e s m below meth c A hA C0 hnm hr hP hD ls hl
  have hl : lv_has ls 5 [(0, .ref h), (1, .int p1), (2, .int p2)] := hl
  have hx := C0.x
  have hb := C0.b
  have hS : va_S A s.heap s.heap [] := va_S.rf
  have hP : va_P D cls9 [(h, oX8 (.ref q_now) (.int x_arches) (.int x_cats) w_text (.int x_typed) w_row (.int x_rowMany) (.int x_thrown) w_read (.int x_length) (.int x_top) (.int x_at) (.int x_wrong) w_told w_rule w_otherRule (.int x_ruleSize) (.int x_isAsked) w_asked (.ref q_undos) (.int x_undoMany) w_aside w_then w_hold (.int x_dropped) w_acts w_guarded w_train (.int x_trolleyEnd) w_feltOf w_feltBy (.int x_feltMany) w_many w_heardOf w_heardBy (.int x_heardMany) w_worth (.int x_drawn) (.int x_came) w_kept w_isKept w_keptCame), (q_now, aI cT 47 f_now), (q_undos, aI cT 564 f_undos)] s.heap := hP
  have hD : va_D A [(h, oX8 (.ref q_now) (.int x_arches) (.int x_cats) w_text (.int x_typed) w_row (.int x_rowMany) (.int x_thrown) w_read (.int x_length) (.int x_top) (.int x_at) (.int x_wrong) w_told w_rule w_otherRule (.int x_ruleSize) (.int x_isAsked) w_asked (.ref q_undos) (.int x_undoMany) w_aside w_then w_hold (.int x_dropped) w_acts w_guarded w_train (.int x_trolleyEnd) w_feltOf w_feltBy (.int x_feltMany) w_many w_heardOf w_heardBy (.int x_heardMany) w_worth (.int x_drawn) (.int x_came) w_kept w_isKept w_keptCame), (q_now, aI cT 47 f_now), (q_undos, aI cT 564 f_undos)] := hD
  unfold p_X8_sets at hg
  refine lv_aload_n hx hb dX8_sets_0 rfl (lv_at hl 0 rfl) ?_
  refine lv_iconst (v := (0 : Int32)) hx hb dX8_sets_1 (by decide) ?_
  refine pf_X8_82 C0 hP hD hS 0 rfl (Nat.le_of_ble_eq_true rfl) (ws2 := [(h, oX8 (.ref q_now) (.int x_arches) (.int x_cats) w_text (.int x_typed) w_row (.int x_rowMany) (.int (0 : Int32)) w_read (.int x_length) (.int x_top) (.int x_at) (.int x_wrong) w_told w_rule w_otherRule (.int x_ruleSize) (.int x_isAsked) w_asked (.ref q_undos) (.int x_undoMany) w_aside w_then w_hold (.int x_dropped) w_acts w_guarded w_train (.int x_trolleyEnd) w_feltOf w_feltBy (.int x_feltMany) w_many w_heardOf w_heardBy (.int x_heardMany) w_worth (.int x_drawn) (.int x_came) w_kept w_isKept w_keptCame), (q_now, aI cT 47 f_now), (q_undos, aI cT 564 f_undos)]) rfl dX8_sets_2 (fun H locs hP hD hS => ?_)
  refine lv_aload_n hx hb dX8_sets_5 rfl (lv_at hl 0 rfl) ?_
  refine lv_iload_n hx hb dX8_sets_6 rfl (lv_at hl 1 rfl) ?_
  refine lv_iload_n hx hb dX8_sets_7 rfl (lv_at hl 2 rfl) ?_
  refine k_Vxi (rest := []) C0 lk_X8_274 (c_X8_refusesSet l D cT F h p1 p2 q_now x_arches x_cats w_text x_typed w_row x_rowMany (0 : Int32) w_read x_length x_top x_at x_wrong w_told w_rule w_otherRule x_ruleSize x_isAsked w_asked (.ref q_undos) x_undoMany w_aside w_then w_hold x_dropped w_acts w_guarded w_train x_trolleyEnd w_feltOf w_feltBy x_feltMany w_many w_heardOf w_heardBy x_heardMany w_worth x_drawn x_came w_kept w_isKept w_keptCame f_now _ hg) hP hD [0, 1] (by decide +kernel) rfl rfl rfl ⟨Nat.le_of_ble_eq_true rfl, Nat.le_of_ble_eq_true rfl⟩ rfl hl.1 rfl (Nat.le_of_ble_eq_true rfl) dX8_sets_8 ⟨Nat.le_of_ble_eq_true rfl, Nat.le_of_ble_eq_true rfl⟩ (fun r_8 hg => ?_)
  refine lv_istore_n (lv' := [(3, .int r_8), (0, .ref h), (1, .int p1), (2, .int p2)]) hx hb dX8_sets_11 rfl hl (by decide) rfl (fun ls hl => ?_)
  refine lv_iload_n hx hb dX8_sets_12 rfl (lv_at hl 0 rfl) ?_
  refine lv_if_ge (tgt := 18) hx hb dX8_sets_13 (by decide) (fun c_13 => ?_) (fun c_13 => ?_)
  · have hg := hg.1 c_13
    refine lv_aload_n hx hb dX8_sets_18 rfl (lv_at hl 1 rfl) ?_
    refine lv_aload_n hx hb dX8_sets_19 rfl (lv_at hl 1 rfl) ?_
    refine gf_X8_9 C0 hP 0 rfl rfl dX8_sets_20 ?_
    refine k_Vv (rest := []) (wr := []) (w2 := fun u_23 => [(h, oX8 (.ref q_now) (.int x_arches) (.int x_cats) w_text (.int x_typed) w_row (.int x_rowMany) (.int (0 : Int32)) w_read (.int x_length) (.int x_top) (.int x_at) (.int x_wrong) w_told w_rule w_otherRule (.int x_ruleSize) (.int x_isAsked) w_asked (.ref q_undos) (.int u_23.1) w_aside w_then w_hold (.int x_dropped) w_acts w_guarded w_train (.int x_trolleyEnd) w_feltOf w_feltBy (.int x_feltMany) w_many w_heardOf w_heardBy (.int x_heardMany) w_worth (.int x_drawn) (.int x_came) w_kept w_isKept w_keptCame), (q_undos, aI cT 564 u_23.2), (q_now, aI cT 47 f_now)]) C0 lk_X8_246 (c_X8_remember l D cT F h q_now (.ref q_now) x_arches x_cats w_text x_typed w_row x_rowMany (0 : Int32) w_read x_length x_top x_at x_wrong w_told w_rule w_otherRule x_ruleSize x_isAsked w_asked q_undos x_undoMany w_aside w_then w_hold x_dropped w_acts w_guarded w_train x_trolleyEnd w_feltOf w_feltBy x_feltMany w_many w_heardOf w_heardBy x_heardMany w_worth x_drawn x_came w_kept w_isKept w_keptCame f_undos 47 f_now _ hg) hP hD hS hA [0, 2, 1] [] (by decide +kernel) rfl rfl (fun _ => rfl) rfl rfl ⟨Nat.le_of_ble_eq_true rfl, Nat.le_of_ble_eq_true rfl⟩ rfl hl.1 rfl (Nat.le_of_ble_eq_true rfl) dX8_sets_23 ⟨Nat.le_of_ble_eq_true rfl, Nat.le_of_ble_eq_true rfl⟩ ?_
    intro u_23 H locs hg hP hD hS
    refine lv_aload_n hx hb dX8_sets_26 rfl (lv_at hl 1 rfl) ?_
    refine gf_X8_9 C0 hP 0 rfl rfl dX8_sets_27 ?_
    refine lv_bipush (v := (36 : Int32)) hx hb dX8_sets_30 (by decide) ?_
    refine lv_iload_n hx hb dX8_sets_32 rfl (lv_at hl 2 rfl) ?_
    refine lv_iadd hx hb dX8_sets_33 ?_
    obtain ⟨g_34, hg⟩ := hg
    refine k_iald C0 hP 2 rfl g_34 dX8_sets_34 ?_
    refine lv_iload_n hx hb dX8_sets_35 rfl (lv_at hl 3 rfl) ?_
    refine lv_isub hx hb dX8_sets_36 ?_
    refine k_abs C0 w6_23 hl.1 (Nat.le_of_ble_eq_true rfl) (Nat.le_of_ble_eq_true rfl) (Nat.le_of_ble_eq_true rfl) (Nat.le_of_ble_eq_true rfl) dX8_sets_37 ?_
    refine lv_istore (lv' := [(4, .int (if 0 ≤ ((f_now ((36 : Int32) + p1).toNatClampNeg) - p2) then ((f_now ((36 : Int32) + p1).toNatClampNeg) - p2) else 0 - ((f_now ((36 : Int32) + p1).toNatClampNeg) - p2))), (3, .int r_8), (0, .ref h), (1, .int p1), (2, .int p2)]) hx hb dX8_sets_40 hl (by decide) rfl (fun ls hl => ?_)
    refine lv_aload_n hx hb dX8_sets_42 rfl (lv_at hl 2 rfl) ?_
    refine gf_X8_9 C0 hP 0 rfl rfl dX8_sets_43 ?_
    refine lv_bipush (v := (36 : Int32)) hx hb dX8_sets_46 (by decide) ?_
    refine lv_iload_n hx hb dX8_sets_48 rfl (lv_at hl 3 rfl) ?_
    refine lv_iadd hx hb dX8_sets_49 ?_
    refine lv_iload_n hx hb dX8_sets_50 rfl (lv_at hl 4 rfl) ?_
    obtain ⟨g_51, hg⟩ := hg
    refine k_iast C0 hP hD hS 2 rfl g_51 (ws' := [(h, oX8 (.ref q_now) (.int x_arches) (.int x_cats) w_text (.int x_typed) w_row (.int x_rowMany) (.int (0 : Int32)) w_read (.int x_length) (.int x_top) (.int x_at) (.int x_wrong) w_told w_rule w_otherRule (.int x_ruleSize) (.int x_isAsked) w_asked (.ref q_undos) (.int u_23.1) w_aside w_then w_hold (.int x_dropped) w_acts w_guarded w_train (.int x_trolleyEnd) w_feltOf w_feltBy (.int x_feltMany) w_many w_heardOf w_heardBy (.int x_heardMany) w_worth (.int x_drawn) (.int x_came) w_kept w_isKept w_keptCame), (q_undos, aI cT 564 u_23.2), (q_now, aI cT 47 (upd f_now ((36 : Int32) + p1).toNatClampNeg p2))]) rfl dX8_sets_51 (fun H locs hP hD hS => ?_)
    refine lv_iload hx hb dX8_sets_52 (lv_at hl 0 rfl) ?_
    exact k_iret C0 hr ((0 : Int32), u_23.1, (upd f_now ((36 : Int32) + p1).toNatClampNeg p2), u_23.2) hg (subP hP [0, 2, 1] rfl) (hD.sub [0, 2, 1] (nd2_ok _ (by decide +kernel)) rfl) hS dX8_sets_54
  have hg := hg.2 c_13
  refine lv_iload_n hx hb dX8_sets_16 rfl (lv_at hl 0 rfl) ?_
  exact k_iret C0 hr ((0 : Int32), x_undoMany, f_now, f_undos) hg hP hD hS dX8_sets_17
theorem dX8_refusesLoad_0 : decode cX8_refusesLoad 0 = .ok (.aload_n 0, 1) := by decide +kernel
theorem dX8_refusesLoad_1 : decode cX8_refusesLoad 1 = .ok (.iload_n 1, 1) := by decide +kernel
theorem dX8_refusesLoad_2 : decode cX8_refusesLoad 2 = .ok (.invokevirtual 214, 3) := by decide +kernel
theorem dX8_refusesLoad_5 : decode cX8_refusesLoad 5 = .ok (.ifCond .eq 13, 3) := by decide +kernel
theorem dX8_refusesLoad_8 : decode cX8_refusesLoad 8 = .ok (.iload_n 2, 1) := by decide +kernel
theorem dX8_refusesLoad_9 : decode cX8_refusesLoad 9 = .ok (.iconst 0, 1) := by decide +kernel
theorem dX8_refusesLoad_10 : decode cX8_refusesLoad 10 = .ok (.bipush 9, 2) := by decide +kernel
theorem dX8_refusesLoad_12 : decode cX8_refusesLoad 12 = .ok (.invokestatic 92, 3) := by decide +kernel
theorem dX8_refusesLoad_15 : decode cX8_refusesLoad 15 = .ok (.ifCond .ne 5, 3) := by decide +kernel
theorem dX8_refusesLoad_18 : decode cX8_refusesLoad 18 = .ok (.iconst (-1), 1) := by decide +kernel
theorem dX8_refusesLoad_19 : decode cX8_refusesLoad 19 = .ok (.ireturn, 1) := by decide +kernel
theorem dX8_refusesLoad_20 : decode cX8_refusesLoad 20 = .ok (.aload_n 0, 1) := by decide +kernel
theorem dX8_refusesLoad_21 : decode cX8_refusesLoad 21 = .ok (.getfield 9, 3) := by decide +kernel
theorem dX8_refusesLoad_24 : decode cX8_refusesLoad 24 = .ok (.iload_n 1, 1) := by decide +kernel
theorem dX8_refusesLoad_25 : decode cX8_refusesLoad 25 = .ok (.iaload, 1) := by decide +kernel
theorem dX8_refusesLoad_26 : decode cX8_refusesLoad 26 = .ok (.iload_n 2, 1) := by decide +kernel
theorem dX8_refusesLoad_27 : decode cX8_refusesLoad 27 = .ok (.if_icmp .ne 8, 3) := by decide +kernel
theorem dX8_refusesLoad_30 : decode cX8_refusesLoad 30 = .ok (.bipush (-2), 2) := by decide +kernel
theorem dX8_refusesLoad_32 : decode cX8_refusesLoad 32 = .ok (.goto 4, 3) := by decide +kernel
theorem dX8_refusesLoad_35 : decode cX8_refusesLoad 35 = .ok (.iconst 0, 1) := by decide +kernel
theorem dX8_refusesLoad_36 : decode cX8_refusesLoad 36 = .ok (.ireturn, 1) := by decide +kernel
def p_X8_refusesLoad (F : Nat) (p1 : Int32) (p2 : Int32) (x_arches : Int32) (f_now : Nat → Int32) (Post : Int32 → Prop) : Prop := (p_X8_isArch F p1 x_arches (fun (r_2 : Int32) => ((r_2 = 0 → (Post (-1 : Int32))) ∧ (¬ r_2 = 0 → (p_X8_in F p2 (0 : Int32) (9 : Int32) (fun (r_12 : Int32) => ((¬ r_12 = 0 → (vp_in p1 47 ∧ ((¬ (f_now p1.toNatClampNeg) = p2 → (Post (0 : Int32))) ∧ ((f_now p1.toNatClampNeg) = p2 → (Post (-2 : Int32)))))) ∧ (r_12 = 0 → (Post (-1 : Int32))))))))))
set_option maxHeartbeats 4000000 in
set_option maxRecDepth 100000 in
theorem c_X8_refusesLoad (l : Launch) (D : va_G) (cT : Nat → ClassId) (F : Nat) (h : Nat) (p1 : Int32) (p2 : Int32) (q_now : Nat) (x_arches : Int32) (x_cats : Int32) (w_text : Value) (x_typed : Int32) (w_row : Value) (x_rowMany : Int32) (x_thrown : Int32) (w_read : Value) (x_length : Int32) (x_top : Int32) (x_at : Int32) (x_wrong : Int32) (w_told : Value) (w_rule : Value) (w_otherRule : Value) (x_ruleSize : Int32) (x_isAsked : Int32) (w_asked : Value) (w_undos : Value) (x_undoMany : Int32) (w_aside : Value) (w_then : Value) (w_hold : Value) (x_dropped : Int32) (w_acts : Value) (w_guarded : Value) (w_train : Value) (x_trolleyEnd : Int32) (w_feltOf : Value) (w_feltBy : Value) (x_feltMany : Int32) (w_many : Value) (w_heardOf : Value) (w_heardBy : Value) (x_heardMany : Int32) (w_worth : Value) (x_drawn : Int32) (x_came : Int32) (w_kept : Value) (w_isKept : Value) (w_keptCame : Value) (f_now : Nat → Int32) (Post : Int32 → Prop) (hg : p_X8_refusesLoad F p1 p2 x_arches f_now Post) : MRi l D cT yX8_refusesLoad cX8_refusesLoad 3 (some .int) 2 43 [.ref h, .int p1, .int p2] [(h, oX8 (.ref q_now) (.int x_arches) (.int x_cats) w_text (.int x_typed) w_row (.int x_rowMany) (.int x_thrown) w_read (.int x_length) (.int x_top) (.int x_at) (.int x_wrong) w_told w_rule w_otherRule (.int x_ruleSize) (.int x_isAsked) w_asked w_undos (.int x_undoMany) w_aside w_then w_hold (.int x_dropped) w_acts w_guarded w_train (.int x_trolleyEnd) w_feltOf w_feltBy (.int x_feltMany) w_many w_heardOf w_heardBy (.int x_heardMany) w_worth (.int x_drawn) (.int x_came) w_kept w_isKept w_keptCame), (q_now, aI cT 47 f_now)] Post := by
  refine MRi.of (by decide) (Nat.le_of_ble_eq_true rfl) ?_
  intro p e s m below meth c C0 hr hP hD ls hl
  have hl : lv_has ls 3 [(0, .ref h), (1, .int p1), (2, .int p2)] := hl
  have hx := C0.x
  have hb := C0.b
  have hP : va_P D cls9 [(h, oX8 (.ref q_now) (.int x_arches) (.int x_cats) w_text (.int x_typed) w_row (.int x_rowMany) (.int x_thrown) w_read (.int x_length) (.int x_top) (.int x_at) (.int x_wrong) w_told w_rule w_otherRule (.int x_ruleSize) (.int x_isAsked) w_asked w_undos (.int x_undoMany) w_aside w_then w_hold (.int x_dropped) w_acts w_guarded w_train (.int x_trolleyEnd) w_feltOf w_feltBy (.int x_feltMany) w_many w_heardOf w_heardBy (.int x_heardMany) w_worth (.int x_drawn) (.int x_came) w_kept w_isKept w_keptCame), (q_now, aI cT 47 f_now)] s.heap := hP
  have hD : va_D (fun _ => True) [(h, oX8 (.ref q_now) (.int x_arches) (.int x_cats) w_text (.int x_typed) w_row (.int x_rowMany) (.int x_thrown) w_read (.int x_length) (.int x_top) (.int x_at) (.int x_wrong) w_told w_rule w_otherRule (.int x_ruleSize) (.int x_isAsked) w_asked w_undos (.int x_undoMany) w_aside w_then w_hold (.int x_dropped) w_acts w_guarded w_train (.int x_trolleyEnd) w_feltOf w_feltBy (.int x_feltMany) w_many w_heardOf w_heardBy (.int x_heardMany) w_worth (.int x_drawn) (.int x_came) w_kept w_isKept w_keptCame), (q_now, aI cT 47 f_now)] := hD
  unfold p_X8_refusesLoad at hg
  refine lv_aload_n hx hb dX8_refusesLoad_0 rfl (lv_at hl 0 rfl) ?_
  refine lv_iload_n hx hb dX8_refusesLoad_1 rfl (lv_at hl 1 rfl) ?_
  refine k_Vxi (rest := []) C0 lk_X8_214 (c_X8_isArch l D cT F h p1 (.ref q_now) x_arches x_cats w_text x_typed w_row x_rowMany x_thrown w_read x_length x_top x_at x_wrong w_told w_rule w_otherRule x_ruleSize x_isAsked w_asked w_undos x_undoMany w_aside w_then w_hold x_dropped w_acts w_guarded w_train x_trolleyEnd w_feltOf w_feltBy x_feltMany w_many w_heardOf w_heardBy x_heardMany w_worth x_drawn x_came w_kept w_isKept w_keptCame _ hg) hP hD [0] (by decide +kernel) rfl rfl rfl ⟨Nat.le_of_ble_eq_true rfl, Nat.le_of_ble_eq_true rfl⟩ rfl hl.1 rfl (Nat.le_of_ble_eq_true rfl) dX8_refusesLoad_2 ⟨Nat.le_of_ble_eq_true rfl, Nat.le_of_ble_eq_true rfl⟩ (fun r_2 hg => ?_)
  refine lv_if_eq (tgt := 18) hx hb dX8_refusesLoad_5 (by decide) (fun c_5 => ?_) (fun c_5 => ?_)
  · have hg := hg.1 c_5
    refine lv_iconst (v := (-1 : Int32)) hx hb dX8_refusesLoad_18 (by decide) ?_
    exact k_xiret C0 hr hg dX8_refusesLoad_19
  have hg := hg.2 c_5
  refine lv_iload_n hx hb dX8_refusesLoad_8 rfl (lv_at hl 2 rfl) ?_
  refine lv_iconst (v := (0 : Int32)) hx hb dX8_refusesLoad_9 (by decide) ?_
  refine lv_bipush (v := (9 : Int32)) hx hb dX8_refusesLoad_10 (by decide) ?_
  refine k_Sxi (rest := []) C0 lk_X8_92 (c_X8_in l D cT F p2 (0 : Int32) (9 : Int32) _ hg) hP hD [] (by decide +kernel) rfl ⟨Nat.le_of_ble_eq_true rfl, Nat.le_of_ble_eq_true rfl⟩ rfl hl.1 rfl (Nat.le_of_ble_eq_true rfl) dX8_refusesLoad_12 ⟨Nat.le_of_ble_eq_true rfl, Nat.le_of_ble_eq_true rfl⟩ (fun r_12 hg => ?_)
  refine lv_if_ne (tgt := 20) hx hb dX8_refusesLoad_15 (by decide) (fun c_15 => ?_) (fun c_15 => ?_)
  · have hg := hg.1 c_15
    refine lv_aload_n hx hb dX8_refusesLoad_20 rfl (lv_at hl 0 rfl) ?_
    refine gf_X8_9 C0 hP 0 rfl rfl dX8_refusesLoad_21 ?_
    refine lv_iload_n hx hb dX8_refusesLoad_24 rfl (lv_at hl 1 rfl) ?_
    obtain ⟨g_25, hg⟩ := hg
    refine k_iald C0 hP 1 rfl g_25 dX8_refusesLoad_25 ?_
    refine lv_iload_n hx hb dX8_refusesLoad_26 rfl (lv_at hl 2 rfl) ?_
    refine lv_icmp_ne (tgt := 35) hx hb dX8_refusesLoad_27 (by decide) (fun c_27 => ?_) (fun c_27 => ?_)
    · have hg := hg.1 c_27
      refine lv_iconst (v := (0 : Int32)) hx hb dX8_refusesLoad_35 (by decide) ?_
      exact k_xiret C0 hr hg dX8_refusesLoad_36
    have hg := hg.2 c_27
    refine lv_bipush (v := (-2 : Int32)) hx hb dX8_refusesLoad_30 (by decide) ?_
    refine lv_goto (tgt := 36) hx hb dX8_refusesLoad_32 (by decide) ?_
    exact k_xiret C0 hr hg dX8_refusesLoad_36
  have hg := hg.2 c_15
  refine lv_iconst (v := (-1 : Int32)) hx hb dX8_refusesLoad_18 (by decide) ?_
  exact k_xiret C0 hr hg dX8_refusesLoad_19
theorem dX8_loads_0 : decode cX8_loads 0 = .ok (.aload_n 0, 1) := by decide +kernel
theorem dX8_loads_1 : decode cX8_loads 1 = .ok (.iconst 0, 1) := by decide +kernel
theorem dX8_loads_2 : decode cX8_loads 2 = .ok (.putfield 82, 3) := by decide +kernel
theorem dX8_loads_5 : decode cX8_loads 5 = .ok (.aload_n 0, 1) := by decide +kernel
theorem dX8_loads_6 : decode cX8_loads 6 = .ok (.iload_n 1, 1) := by decide +kernel
theorem dX8_loads_7 : decode cX8_loads 7 = .ok (.iload_n 2, 1) := by decide +kernel
theorem dX8_loads_8 : decode cX8_loads 8 = .ok (.invokevirtual 280, 3) := by decide +kernel
theorem dX8_loads_11 : decode cX8_loads 11 = .ok (.istore_n 3, 1) := by decide +kernel
theorem dX8_loads_12 : decode cX8_loads 12 = .ok (.iload_n 3, 1) := by decide +kernel
theorem dX8_loads_13 : decode cX8_loads 13 = .ok (.ifCond .ge 5, 3) := by decide +kernel
theorem dX8_loads_16 : decode cX8_loads 16 = .ok (.iload_n 3, 1) := by decide +kernel
theorem dX8_loads_17 : decode cX8_loads 17 = .ok (.ireturn, 1) := by decide +kernel
theorem dX8_loads_18 : decode cX8_loads 18 = .ok (.aload_n 0, 1) := by decide +kernel
theorem dX8_loads_19 : decode cX8_loads 19 = .ok (.aload_n 0, 1) := by decide +kernel
theorem dX8_loads_20 : decode cX8_loads 20 = .ok (.getfield 9, 3) := by decide +kernel
theorem dX8_loads_23 : decode cX8_loads 23 = .ok (.invokevirtual 246, 3) := by decide +kernel
theorem dX8_loads_26 : decode cX8_loads 26 = .ok (.aload_n 0, 1) := by decide +kernel
theorem dX8_loads_27 : decode cX8_loads 27 = .ok (.getfield 9, 3) := by decide +kernel
theorem dX8_loads_30 : decode cX8_loads 30 = .ok (.iload_n 1, 1) := by decide +kernel
theorem dX8_loads_31 : decode cX8_loads 31 = .ok (.iaload, 1) := by decide +kernel
theorem dX8_loads_32 : decode cX8_loads 32 = .ok (.istore 4, 2) := by decide +kernel
theorem dX8_loads_34 : decode cX8_loads 34 = .ok (.aload_n 0, 1) := by decide +kernel
theorem dX8_loads_35 : decode cX8_loads 35 = .ok (.getfield 9, 3) := by decide +kernel
theorem dX8_loads_38 : decode cX8_loads 38 = .ok (.iload_n 1, 1) := by decide +kernel
theorem dX8_loads_39 : decode cX8_loads 39 = .ok (.iload_n 2, 1) := by decide +kernel
theorem dX8_loads_40 : decode cX8_loads 40 = .ok (.iastore, 1) := by decide +kernel
theorem dX8_loads_41 : decode cX8_loads 41 = .ok (.bipush 10, 2) := by decide +kernel
theorem dX8_loads_43 : decode cX8_loads 43 = .ok (.iload 4, 2) := by decide +kernel
theorem dX8_loads_45 : decode cX8_loads 45 = .ok (.iadd, 1) := by decide +kernel
theorem dX8_loads_46 : decode cX8_loads 46 = .ok (.ireturn, 1) := by decide +kernel
def p_X8_loads (F : Nat) (p1 : Int32) (p2 : Int32) (x_arches : Int32) (x_undoMany : Int32) (f_now : Nat → Int32) (f_undos : Nat → Int32) (Post : Int32 → (Int32 × Int32 × (Nat → Int32) × (Nat → Int32)) → Prop) : Prop := (p_X8_refusesLoad F p1 p2 x_arches f_now (fun (r_8 : Int32) => ((0 ≤ r_8 → (p_X8_remember F x_undoMany f_undos 47 f_now (fun (u_23 : (Int32 × (Nat → Int32))) => (vp_in p1 47 ∧ (vp_in p1 47 ∧ (Post ((10 : Int32) + (f_now p1.toNatClampNeg)) ((0 : Int32), u_23.1, (upd f_now p1.toNatClampNeg p2), u_23.2))))))) ∧ (¬ 0 ≤ r_8 → (Post r_8 ((0 : Int32), x_undoMany, f_now, f_undos))))))
set_option maxHeartbeats 4000000 in
set_option maxRecDepth 100000 in
theorem c_X8_loads (l : Launch) (D : va_G) (cT : Nat → ClassId) (F : Nat) (h : Nat) (p1 : Int32) (p2 : Int32) (q_now : Nat) (x_arches : Int32) (x_cats : Int32) (w_text : Value) (x_typed : Int32) (w_row : Value) (x_rowMany : Int32) (x_thrown : Int32) (w_read : Value) (x_length : Int32) (x_top : Int32) (x_at : Int32) (x_wrong : Int32) (w_told : Value) (w_rule : Value) (w_otherRule : Value) (x_ruleSize : Int32) (x_isAsked : Int32) (w_asked : Value) (q_undos : Nat) (x_undoMany : Int32) (w_aside : Value) (w_then : Value) (w_hold : Value) (x_dropped : Int32) (w_acts : Value) (w_guarded : Value) (w_train : Value) (x_trolleyEnd : Int32) (w_feltOf : Value) (w_feltBy : Value) (x_feltMany : Int32) (w_many : Value) (w_heardOf : Value) (w_heardBy : Value) (x_heardMany : Int32) (w_worth : Value) (x_drawn : Int32) (x_came : Int32) (w_kept : Value) (w_isKept : Value) (w_keptCame : Value) (f_now : Nat → Int32) (f_undos : Nat → Int32) (Post : Int32 → (Int32 × Int32 × (Nat → Int32) × (Nat → Int32)) → Prop) (hg : p_X8_loads F p1 p2 x_arches x_undoMany f_now f_undos Post) : MWi l D cT yX8_loads cX8_loads 5 (some .int) 3 65 0 0 [.ref h, .int p1, .int p2] [(h, oX8 (.ref q_now) (.int x_arches) (.int x_cats) w_text (.int x_typed) w_row (.int x_rowMany) (.int x_thrown) w_read (.int x_length) (.int x_top) (.int x_at) (.int x_wrong) w_told w_rule w_otherRule (.int x_ruleSize) (.int x_isAsked) w_asked (.ref q_undos) (.int x_undoMany) w_aside w_then w_hold (.int x_dropped) w_acts w_guarded w_train (.int x_trolleyEnd) w_feltOf w_feltBy (.int x_feltMany) w_many w_heardOf w_heardBy (.int x_heardMany) w_worth (.int x_drawn) (.int x_came) w_kept w_isKept w_keptCame), (q_now, aI cT 47 f_now), (q_undos, aI cT 564 f_undos)] Post (fun (u : (Int32 × Int32 × (Nat → Int32) × (Nat → Int32))) => [(h, oX8 (.ref q_now) (.int x_arches) (.int x_cats) w_text (.int x_typed) w_row (.int x_rowMany) (.int u.1) w_read (.int x_length) (.int x_top) (.int x_at) (.int x_wrong) w_told w_rule w_otherRule (.int x_ruleSize) (.int x_isAsked) w_asked (.ref q_undos) (.int u.2.1) w_aside w_then w_hold (.int x_dropped) w_acts w_guarded w_train (.int x_trolleyEnd) w_feltOf w_feltBy (.int x_feltMany) w_many w_heardOf w_heardBy (.int x_heardMany) w_worth (.int x_drawn) (.int x_came) w_kept w_isKept w_keptCame), (q_now, aI cT 47 u.2.2.1), (q_undos, aI cT 564 u.2.2.2)]) := by
  refine MWi.of (by decide) (Nat.le_of_ble_eq_true rfl) ?_
  intro p e s m below meth c A hA C0 hnm hr hP hD ls hl
  have hl : lv_has ls 5 [(0, .ref h), (1, .int p1), (2, .int p2)] := hl
  have hx := C0.x
  have hb := C0.b
  have hS : va_S A s.heap s.heap [] := va_S.rf
  have hP : va_P D cls9 [(h, oX8 (.ref q_now) (.int x_arches) (.int x_cats) w_text (.int x_typed) w_row (.int x_rowMany) (.int x_thrown) w_read (.int x_length) (.int x_top) (.int x_at) (.int x_wrong) w_told w_rule w_otherRule (.int x_ruleSize) (.int x_isAsked) w_asked (.ref q_undos) (.int x_undoMany) w_aside w_then w_hold (.int x_dropped) w_acts w_guarded w_train (.int x_trolleyEnd) w_feltOf w_feltBy (.int x_feltMany) w_many w_heardOf w_heardBy (.int x_heardMany) w_worth (.int x_drawn) (.int x_came) w_kept w_isKept w_keptCame), (q_now, aI cT 47 f_now), (q_undos, aI cT 564 f_undos)] s.heap := hP
  have hD : va_D A [(h, oX8 (.ref q_now) (.int x_arches) (.int x_cats) w_text (.int x_typed) w_row (.int x_rowMany) (.int x_thrown) w_read (.int x_length) (.int x_top) (.int x_at) (.int x_wrong) w_told w_rule w_otherRule (.int x_ruleSize) (.int x_isAsked) w_asked (.ref q_undos) (.int x_undoMany) w_aside w_then w_hold (.int x_dropped) w_acts w_guarded w_train (.int x_trolleyEnd) w_feltOf w_feltBy (.int x_feltMany) w_many w_heardOf w_heardBy (.int x_heardMany) w_worth (.int x_drawn) (.int x_came) w_kept w_isKept w_keptCame), (q_now, aI cT 47 f_now), (q_undos, aI cT 564 f_undos)] := hD
  unfold p_X8_loads at hg
  refine lv_aload_n hx hb dX8_loads_0 rfl (lv_at hl 0 rfl) ?_
  refine lv_iconst (v := (0 : Int32)) hx hb dX8_loads_1 (by decide) ?_
  refine pf_X8_82 C0 hP hD hS 0 rfl (Nat.le_of_ble_eq_true rfl) (ws2 := [(h, oX8 (.ref q_now) (.int x_arches) (.int x_cats) w_text (.int x_typed) w_row (.int x_rowMany) (.int (0 : Int32)) w_read (.int x_length) (.int x_top) (.int x_at) (.int x_wrong) w_told w_rule w_otherRule (.int x_ruleSize) (.int x_isAsked) w_asked (.ref q_undos) (.int x_undoMany) w_aside w_then w_hold (.int x_dropped) w_acts w_guarded w_train (.int x_trolleyEnd) w_feltOf w_feltBy (.int x_feltMany) w_many w_heardOf w_heardBy (.int x_heardMany) w_worth (.int x_drawn) (.int x_came) w_kept w_isKept w_keptCame), (q_now, aI cT 47 f_now), (q_undos, aI cT 564 f_undos)]) rfl dX8_loads_2 (fun H locs hP hD hS => ?_)
  refine lv_aload_n hx hb dX8_loads_5 rfl (lv_at hl 0 rfl) ?_
  refine lv_iload_n hx hb dX8_loads_6 rfl (lv_at hl 1 rfl) ?_
  refine lv_iload_n hx hb dX8_loads_7 rfl (lv_at hl 2 rfl) ?_
  refine k_Vxi (rest := []) C0 lk_X8_280 (c_X8_refusesLoad l D cT F h p1 p2 q_now x_arches x_cats w_text x_typed w_row x_rowMany (0 : Int32) w_read x_length x_top x_at x_wrong w_told w_rule w_otherRule x_ruleSize x_isAsked w_asked (.ref q_undos) x_undoMany w_aside w_then w_hold x_dropped w_acts w_guarded w_train x_trolleyEnd w_feltOf w_feltBy x_feltMany w_many w_heardOf w_heardBy x_heardMany w_worth x_drawn x_came w_kept w_isKept w_keptCame f_now _ hg) hP hD [0, 1] (by decide +kernel) rfl rfl rfl ⟨Nat.le_of_ble_eq_true rfl, Nat.le_of_ble_eq_true rfl⟩ rfl hl.1 rfl (Nat.le_of_ble_eq_true rfl) dX8_loads_8 ⟨Nat.le_of_ble_eq_true rfl, Nat.le_of_ble_eq_true rfl⟩ (fun r_8 hg => ?_)
  refine lv_istore_n (lv' := [(3, .int r_8), (0, .ref h), (1, .int p1), (2, .int p2)]) hx hb dX8_loads_11 rfl hl (by decide) rfl (fun ls hl => ?_)
  refine lv_iload_n hx hb dX8_loads_12 rfl (lv_at hl 0 rfl) ?_
  refine lv_if_ge (tgt := 18) hx hb dX8_loads_13 (by decide) (fun c_13 => ?_) (fun c_13 => ?_)
  · have hg := hg.1 c_13
    refine lv_aload_n hx hb dX8_loads_18 rfl (lv_at hl 1 rfl) ?_
    refine lv_aload_n hx hb dX8_loads_19 rfl (lv_at hl 1 rfl) ?_
    refine gf_X8_9 C0 hP 0 rfl rfl dX8_loads_20 ?_
    refine k_Vv (rest := []) (wr := []) (w2 := fun u_23 => [(h, oX8 (.ref q_now) (.int x_arches) (.int x_cats) w_text (.int x_typed) w_row (.int x_rowMany) (.int (0 : Int32)) w_read (.int x_length) (.int x_top) (.int x_at) (.int x_wrong) w_told w_rule w_otherRule (.int x_ruleSize) (.int x_isAsked) w_asked (.ref q_undos) (.int u_23.1) w_aside w_then w_hold (.int x_dropped) w_acts w_guarded w_train (.int x_trolleyEnd) w_feltOf w_feltBy (.int x_feltMany) w_many w_heardOf w_heardBy (.int x_heardMany) w_worth (.int x_drawn) (.int x_came) w_kept w_isKept w_keptCame), (q_undos, aI cT 564 u_23.2), (q_now, aI cT 47 f_now)]) C0 lk_X8_246 (c_X8_remember l D cT F h q_now (.ref q_now) x_arches x_cats w_text x_typed w_row x_rowMany (0 : Int32) w_read x_length x_top x_at x_wrong w_told w_rule w_otherRule x_ruleSize x_isAsked w_asked q_undos x_undoMany w_aside w_then w_hold x_dropped w_acts w_guarded w_train x_trolleyEnd w_feltOf w_feltBy x_feltMany w_many w_heardOf w_heardBy x_heardMany w_worth x_drawn x_came w_kept w_isKept w_keptCame f_undos 47 f_now _ hg) hP hD hS hA [0, 2, 1] [] (by decide +kernel) rfl rfl (fun _ => rfl) rfl rfl ⟨Nat.le_of_ble_eq_true rfl, Nat.le_of_ble_eq_true rfl⟩ rfl hl.1 rfl (Nat.le_of_ble_eq_true rfl) dX8_loads_23 ⟨Nat.le_of_ble_eq_true rfl, Nat.le_of_ble_eq_true rfl⟩ ?_
    intro u_23 H locs hg hP hD hS
    refine lv_aload_n hx hb dX8_loads_26 rfl (lv_at hl 1 rfl) ?_
    refine gf_X8_9 C0 hP 0 rfl rfl dX8_loads_27 ?_
    refine lv_iload_n hx hb dX8_loads_30 rfl (lv_at hl 2 rfl) ?_
    obtain ⟨g_31, hg⟩ := hg
    refine k_iald C0 hP 2 rfl g_31 dX8_loads_31 ?_
    refine lv_istore (lv' := [(4, .int (f_now p1.toNatClampNeg)), (3, .int r_8), (0, .ref h), (1, .int p1), (2, .int p2)]) hx hb dX8_loads_32 hl (by decide) rfl (fun ls hl => ?_)
    refine lv_aload_n hx hb dX8_loads_34 rfl (lv_at hl 2 rfl) ?_
    refine gf_X8_9 C0 hP 0 rfl rfl dX8_loads_35 ?_
    refine lv_iload_n hx hb dX8_loads_38 rfl (lv_at hl 3 rfl) ?_
    refine lv_iload_n hx hb dX8_loads_39 rfl (lv_at hl 4 rfl) ?_
    obtain ⟨g_40, hg⟩ := hg
    refine k_iast C0 hP hD hS 2 rfl g_40 (ws' := [(h, oX8 (.ref q_now) (.int x_arches) (.int x_cats) w_text (.int x_typed) w_row (.int x_rowMany) (.int (0 : Int32)) w_read (.int x_length) (.int x_top) (.int x_at) (.int x_wrong) w_told w_rule w_otherRule (.int x_ruleSize) (.int x_isAsked) w_asked (.ref q_undos) (.int u_23.1) w_aside w_then w_hold (.int x_dropped) w_acts w_guarded w_train (.int x_trolleyEnd) w_feltOf w_feltBy (.int x_feltMany) w_many w_heardOf w_heardBy (.int x_heardMany) w_worth (.int x_drawn) (.int x_came) w_kept w_isKept w_keptCame), (q_undos, aI cT 564 u_23.2), (q_now, aI cT 47 (upd f_now p1.toNatClampNeg p2))]) rfl dX8_loads_40 (fun H locs hP hD hS => ?_)
    refine lv_bipush (v := (10 : Int32)) hx hb dX8_loads_41 (by decide) ?_
    refine lv_iload hx hb dX8_loads_43 (lv_at hl 0 rfl) ?_
    refine lv_iadd hx hb dX8_loads_45 ?_
    exact k_iret C0 hr ((0 : Int32), u_23.1, (upd f_now p1.toNatClampNeg p2), u_23.2) hg (subP hP [0, 2, 1] rfl) (hD.sub [0, 2, 1] (nd2_ok _ (by decide +kernel)) rfl) hS dX8_loads_46
  have hg := hg.2 c_13
  refine lv_iload_n hx hb dX8_loads_16 rfl (lv_at hl 0 rfl) ?_
  exact k_iret C0 hr ((0 : Int32), x_undoMany, f_now, f_undos) hg hP hD hS dX8_loads_17
