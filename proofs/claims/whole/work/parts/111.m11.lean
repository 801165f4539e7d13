theorem dX8_readAct_0 : decode cX8_readAct 0 = .ok (.aload_n 0, 1) := by decide +kernel
theorem dX8_readAct_1 : decode cX8_readAct 1 = .ok (.invokevirtual 125, 3) := by decide +kernel
theorem dX8_readAct_4 : decode cX8_readAct 4 = .ok (.istore_n 2, 1) := by decide +kernel
theorem dX8_readAct_5 : decode cX8_readAct 5 = .ok (.iload_n 2, 1) := by decide +kernel
theorem dX8_readAct_6 : decode cX8_readAct 6 = .ok (.bipush 110, 2) := by decide +kernel
theorem dX8_readAct_8 : decode cX8_readAct 8 = .ok (.if_icmp .eq 42, 3) := by decide +kernel
theorem dX8_readAct_11 : decode cX8_readAct 11 = .ok (.iload_n 2, 1) := by decide +kernel
theorem dX8_readAct_12 : decode cX8_readAct 12 = .ok (.bipush 102, 2) := by decide +kernel
theorem dX8_readAct_14 : decode cX8_readAct 14 = .ok (.if_icmp .eq 36, 3) := by decide +kernel
theorem dX8_readAct_17 : decode cX8_readAct 17 = .ok (.iload_n 2, 1) := by decide +kernel
theorem dX8_readAct_18 : decode cX8_readAct 18 = .ok (.bipush 112, 2) := by decide +kernel
theorem dX8_readAct_20 : decode cX8_readAct 20 = .ok (.if_icmp .eq 30, 3) := by decide +kernel
theorem dX8_readAct_23 : decode cX8_readAct 23 = .ok (.iload_n 2, 1) := by decide +kernel
theorem dX8_readAct_24 : decode cX8_readAct 24 = .ok (.bipush 103, 2) := by decide +kernel
theorem dX8_readAct_26 : decode cX8_readAct 26 = .ok (.if_icmp .eq 24, 3) := by decide +kernel
theorem dX8_readAct_29 : decode cX8_readAct 29 = .ok (.iload_n 2, 1) := by decide +kernel
theorem dX8_readAct_30 : decode cX8_readAct 30 = .ok (.bipush 115, 2) := by decide +kernel
theorem dX8_readAct_32 : decode cX8_readAct 32 = .ok (.if_icmp .eq 18, 3) := by decide +kernel
theorem dX8_readAct_35 : decode cX8_readAct 35 = .ok (.iload_n 2, 1) := by decide +kernel
theorem dX8_readAct_36 : decode cX8_readAct 36 = .ok (.bipush 108, 2) := by decide +kernel
theorem dX8_readAct_38 : decode cX8_readAct 38 = .ok (.if_icmp .eq 12, 3) := by decide +kernel
theorem dX8_readAct_41 : decode cX8_readAct 41 = .ok (.aload_n 0, 1) := by decide +kernel
theorem dX8_readAct_42 : decode cX8_readAct 42 = .ok (.aload_n 0, 1) := by decide +kernel
theorem dX8_readAct_43 : decode cX8_readAct 43 = .ok (.getfield 111, 3) := by decide +kernel
theorem dX8_readAct_46 : decode cX8_readAct 46 = .ok (.invokevirtual 133, 3) := by decide +kernel
theorem dX8_readAct_49 : decode cX8_readAct 49 = .ok (.return_, 1) := by decide +kernel
theorem dX8_readAct_50 : decode cX8_readAct 50 = .ok (.aload_n 0, 1) := by decide +kernel
theorem dX8_readAct_51 : decode cX8_readAct 51 = .ok (.dup, 1) := by decide +kernel
theorem dX8_readAct_52 : decode cX8_readAct 52 = .ok (.getfield 111, 3) := by decide +kernel
theorem dX8_readAct_55 : decode cX8_readAct 55 = .ok (.iconst 1, 1) := by decide +kernel
theorem dX8_readAct_56 : decode cX8_readAct 56 = .ok (.iadd, 1) := by decide +kernel
theorem dX8_readAct_57 : decode cX8_readAct 57 = .ok (.putfield 111, 3) := by decide +kernel
theorem dX8_readAct_60 : decode cX8_readAct 60 = .ok (.aload_n 0, 1) := by decide +kernel
theorem dX8_readAct_61 : decode cX8_readAct 61 = .ok (.getfield 45, 3) := by decide +kernel
theorem dX8_readAct_64 : decode cX8_readAct 64 = .ok (.iload_n 1, 1) := by decide +kernel
theorem dX8_readAct_65 : decode cX8_readAct 65 = .ok (.iload_n 2, 1) := by decide +kernel
theorem dX8_readAct_66 : decode cX8_readAct 66 = .ok (.iastore, 1) := by decide +kernel
theorem dX8_readAct_67 : decode cX8_readAct 67 = .ok (.aload_n 0, 1) := by decide +kernel
theorem dX8_readAct_68 : decode cX8_readAct 68 = .ok (.getfield 45, 3) := by decide +kernel
theorem dX8_readAct_71 : decode cX8_readAct 71 = .ok (.iload_n 1, 1) := by decide +kernel
theorem dX8_readAct_72 : decode cX8_readAct 72 = .ok (.iconst 1, 1) := by decide +kernel
theorem dX8_readAct_73 : decode cX8_readAct 73 = .ok (.iadd, 1) := by decide +kernel
theorem dX8_readAct_74 : decode cX8_readAct 74 = .ok (.aload_n 0, 1) := by decide +kernel
theorem dX8_readAct_75 : decode cX8_readAct 75 = .ok (.bipush 48, 2) := by decide +kernel
theorem dX8_readAct_77 : decode cX8_readAct 77 = .ok (.bipush 10, 2) := by decide +kernel
theorem dX8_readAct_79 : decode cX8_readAct 79 = .ok (.invokevirtual 137, 3) := by decide +kernel
theorem dX8_readAct_82 : decode cX8_readAct 82 = .ok (.iastore, 1) := by decide +kernel
theorem dX8_readAct_83 : decode cX8_readAct 83 = .ok (.iload_n 2, 1) := by decide +kernel
theorem dX8_readAct_84 : decode cX8_readAct 84 = .ok (.bipush 102, 2) := by decide +kernel
theorem dX8_readAct_86 : decode cX8_readAct 86 = .ok (.if_icmp .eq 9, 3) := by decide +kernel
theorem dX8_readAct_89 : decode cX8_readAct 89 = .ok (.iload_n 2, 1) := by decide +kernel
theorem dX8_readAct_90 : decode cX8_readAct 90 = .ok (.bipush 103, 2) := by decide +kernel
theorem dX8_readAct_92 : decode cX8_readAct 92 = .ok (.if_icmp .ne 21, 3) := by decide +kernel
theorem dX8_readAct_95 : decode cX8_readAct 95 = .ok (.aload_n 0, 1) := by decide +kernel
theorem dX8_readAct_96 : decode cX8_readAct 96 = .ok (.getfield 45, 3) := by decide +kernel
theorem dX8_readAct_99 : decode cX8_readAct 99 = .ok (.iload_n 1, 1) := by decide +kernel
theorem dX8_readAct_100 : decode cX8_readAct 100 = .ok (.iconst 2, 1) := by decide +kernel
theorem dX8_readAct_101 : decode cX8_readAct 101 = .ok (.iadd, 1) := by decide +kernel
theorem dX8_readAct_102 : decode cX8_readAct 102 = .ok (.aload_n 0, 1) := by decide +kernel
theorem dX8_readAct_103 : decode cX8_readAct 103 = .ok (.bipush 49, 2) := by decide +kernel
theorem dX8_readAct_105 : decode cX8_readAct 105 = .ok (.bipush 9, 2) := by decide +kernel
theorem dX8_readAct_107 : decode cX8_readAct 107 = .ok (.invokevirtual 137, 3) := by decide +kernel
theorem dX8_readAct_110 : decode cX8_readAct 110 = .ok (.iconst 1, 1) := by decide +kernel
theorem dX8_readAct_111 : decode cX8_readAct 111 = .ok (.iadd, 1) := by decide +kernel
theorem dX8_readAct_112 : decode cX8_readAct 112 = .ok (.iastore, 1) := by decide +kernel
theorem dX8_readAct_113 : decode cX8_readAct 113 = .ok (.iload_n 2, 1) := by decide +kernel
theorem dX8_readAct_114 : decode cX8_readAct 114 = .ok (.bipush 115, 2) := by decide +kernel
theorem dX8_readAct_116 : decode cX8_readAct 116 = .ok (.if_icmp .eq 9, 3) := by decide +kernel
theorem dX8_readAct_119 : decode cX8_readAct 119 = .ok (.iload_n 2, 1) := by decide +kernel
theorem dX8_readAct_120 : decode cX8_readAct 120 = .ok (.bipush 108, 2) := by decide +kernel
theorem dX8_readAct_122 : decode cX8_readAct 122 = .ok (.if_icmp .ne 19, 3) := by decide +kernel
theorem dX8_readAct_125 : decode cX8_readAct 125 = .ok (.aload_n 0, 1) := by decide +kernel
theorem dX8_readAct_126 : decode cX8_readAct 126 = .ok (.getfield 45, 3) := by decide +kernel
theorem dX8_readAct_129 : decode cX8_readAct 129 = .ok (.iload_n 1, 1) := by decide +kernel
theorem dX8_readAct_130 : decode cX8_readAct 130 = .ok (.iconst 2, 1) := by decide +kernel
theorem dX8_readAct_131 : decode cX8_readAct 131 = .ok (.iadd, 1) := by decide +kernel
theorem dX8_readAct_132 : decode cX8_readAct 132 = .ok (.aload_n 0, 1) := by decide +kernel
theorem dX8_readAct_133 : decode cX8_readAct 133 = .ok (.bipush 48, 2) := by decide +kernel
theorem dX8_readAct_135 : decode cX8_readAct 135 = .ok (.bipush 10, 2) := by decide +kernel
theorem dX8_readAct_137 : decode cX8_readAct 137 = .ok (.invokevirtual 137, 3) := by decide +kernel
theorem dX8_readAct_140 : decode cX8_readAct 140 = .ok (.iastore, 1) := by decide +kernel
theorem dX8_readAct_141 : decode cX8_readAct 141 = .ok (.return_, 1) := by decide +kernel
def p_X8_readAct_125 (F : Nat) (p1 : Int32) (x_length : Int32) (x_top : Int32) (n_read : Nat) (f_read : Nat → Int32) (x_at_113 : Int32) (x_wrong_113 : Int32) (f_acts_113 : Nat → Int32) (Post : (Int32 × Int32 × (Nat → Int32)) → Prop) : Prop := (p_X8_oneOf F (48 : Int32) (10 : Int32) x_length x_top x_at_113 x_wrong_113 n_read f_read (fun (r_137 : Int32) (u_137 : (Int32 × Int32)) => (vp_in (p1 + (2 : Int32)) 240 ∧ (Post (u_137.1, u_137.2, (upd f_acts_113 (p1 + (2 : Int32)).toNatClampNeg r_137))))))
def p_X8_readAct_113 (F : Nat) (p1 : Int32) (x_length : Int32) (x_top : Int32) (n_read : Nat) (f_read : Nat → Int32) (r_1 : Int32) (Post : (Int32 × Int32 × (Nat → Int32)) → Prop) (x_at_113 : Int32) (x_wrong_113 : Int32) (f_acts_113 : Nat → Int32) : Prop := ((r_1 = (115 : Int32) → (p_X8_readAct_125 F p1 x_length x_top n_read f_read x_at_113 x_wrong_113 f_acts_113 Post )) ∧ (¬ r_1 = (115 : Int32) → ((¬ r_1 = (108 : Int32) → (Post (x_at_113, x_wrong_113, f_acts_113))) ∧ (r_1 = (108 : Int32) → (p_X8_readAct_125 F p1 x_length x_top n_read f_read x_at_113 x_wrong_113 f_acts_113 Post )))))
def p_X8_readAct_95 (F : Nat) (p1 : Int32) (x_length : Int32) (x_top : Int32) (n_read : Nat) (f_read : Nat → Int32) (f_acts : Nat → Int32) (r_1 : Int32) (r_79 : Int32) (u_79 : (Int32 × Int32)) (Post : (Int32 × Int32 × (Nat → Int32)) → Prop) : Prop := (p_X8_oneOf F (49 : Int32) (9 : Int32) x_length x_top u_79.1 u_79.2 n_read f_read (fun (r_107 : Int32) (u_107 : (Int32 × Int32)) => (vp_in (p1 + (2 : Int32)) 240 ∧ (p_X8_readAct_113 F p1 x_length x_top n_read f_read r_1 Post u_107.1 u_107.2 (upd (upd (upd f_acts p1.toNatClampNeg r_1) (p1 + (1 : Int32)).toNatClampNeg r_79) (p1 + (2 : Int32)).toNatClampNeg (r_107 + (1 : Int32)))))))
def p_X8_readAct_50 (F : Nat) (p1 : Int32) (x_length : Int32) (x_top : Int32) (x_at : Int32) (x_wrong : Int32) (n_read : Nat) (f_read : Nat → Int32) (f_acts : Nat → Int32) (r_1 : Int32) (Post : (Int32 × Int32 × (Nat → Int32)) → Prop) : Prop := (vp_in p1 240 ∧ (p_X8_oneOf F (48 : Int32) (10 : Int32) x_length x_top (x_at + (1 : Int32)) x_wrong n_read f_read (fun (r_79 : Int32) (u_79 : (Int32 × Int32)) => (vp_in (p1 + (1 : Int32)) 240 ∧ ((r_1 = (102 : Int32) → (p_X8_readAct_95 F p1 x_length x_top n_read f_read f_acts r_1 r_79 u_79 Post )) ∧ (¬ r_1 = (102 : Int32) → ((¬ r_1 = (103 : Int32) → (p_X8_readAct_113 F p1 x_length x_top n_read f_read r_1 Post u_79.1 u_79.2 (upd (upd f_acts p1.toNatClampNeg r_1) (p1 + (1 : Int32)).toNatClampNeg r_79))) ∧ (r_1 = (103 : Int32) → (p_X8_readAct_95 F p1 x_length x_top n_read f_read f_acts r_1 r_79 u_79 Post )))))))))
def p_X8_readAct (F : Nat) (p1 : Int32) (x_length : Int32) (x_top : Int32) (x_at : Int32) (x_wrong : Int32) (n_read : Nat) (f_read : Nat → Int32) (f_acts : Nat → Int32) (Post : (Int32 × Int32 × (Nat → Int32)) → Prop) : Prop := (p_X8_here F x_length x_top x_at n_read f_read (fun (r_1 : Int32) => ((r_1 = (110 : Int32) → (p_X8_readAct_50 F p1 x_length x_top x_at x_wrong n_read f_read f_acts r_1 Post )) ∧ (¬ r_1 = (110 : Int32) → ((r_1 = (102 : Int32) → (p_X8_readAct_50 F p1 x_length x_top x_at x_wrong n_read f_read f_acts r_1 Post )) ∧ (¬ r_1 = (102 : Int32) → ((r_1 = (112 : Int32) → (p_X8_readAct_50 F p1 x_length x_top x_at x_wrong n_read f_read f_acts r_1 Post )) ∧ (¬ r_1 = (112 : Int32) → ((r_1 = (103 : Int32) → (p_X8_readAct_50 F p1 x_length x_top x_at x_wrong n_read f_read f_acts r_1 Post )) ∧ (¬ r_1 = (103 : Int32) → ((r_1 = (115 : Int32) → (p_X8_readAct_50 F p1 x_length x_top x_at x_wrong n_read f_read f_acts r_1 Post )) ∧ (¬ r_1 = (115 : Int32) → ((r_1 = (108 : Int32) → (p_X8_readAct_50 F p1 x_length x_top x_at x_wrong n_read f_read f_acts r_1 Post )) ∧ (¬ r_1 = (108 : Int32) → (p_X8_fault F x_at x_wrong (fun (u_46 : Int32) => (Post (x_at, u_46, f_acts))))))))))))))))))
set_option maxHeartbeats 4000000 in
set_option maxRecDepth 100000 in
theorem c_X8_readAct (l : Launch) (D : va_G) (cT : Nat → ClassId) (F : Nat) (h : Nat) (p1 : Int32) (w_now : Value) (x_arches : Int32) (x_cats : Int32) (w_text : Value) (x_typed : Int32) (w_row : Value) (x_rowMany : Int32) (x_thrown : Int32) (q_read : Nat) (x_length : Int32) (x_top : Int32) (x_at : Int32) (x_wrong : Int32) (w_told : Value) (w_rule : Value) (w_otherRule : Value) (x_ruleSize : Int32) (x_isAsked : Int32) (w_asked : Value) (w_undos : Value) (x_undoMany : Int32) (w_aside : Value) (w_then : Value) (w_hold : Value) (x_dropped : Int32) (q_acts : Nat) (w_guarded : Value) (w_train : Value) (x_trolleyEnd : Int32) (w_feltOf : Value) (w_feltBy : Value) (x_feltMany : Int32) (w_many : Value) (w_heardOf : Value) (w_heardBy : Value) (x_heardMany : Int32) (w_worth : Value) (x_drawn : Int32) (x_came : Int32) (w_kept : Value) (w_isKept : Value) (w_keptCame : Value) (n_read : Nat) (f_read : Nat → Int32) (f_acts : Nat → Int32) (Post : (Int32 × Int32 × (Nat → Int32)) → Prop) (hg : p_X8_readAct F p1 x_length x_top x_at x_wrong n_read f_read f_acts Post) : MWv l D cT yX8_readAct cX8_readAct 3 none 3 63 0 0 [.ref h, .int p1] [(h, oX8 w_now (.int x_arches) (.int x_cats) w_text (.int x_typed) w_row (.int x_rowMany) (.int x_thrown) (.ref q_read) (.int x_length) (.int x_top) (.int x_at) (.int x_wrong) w_told w_rule w_otherRule (.int x_ruleSize) (.int x_isAsked) w_asked w_undos (.int x_undoMany) w_aside w_then w_hold (.int x_dropped) (.ref q_acts) w_guarded w_train (.int x_trolleyEnd) w_feltOf w_feltBy (.int x_feltMany) w_many w_heardOf w_heardBy (.int x_heardMany) w_worth (.int x_drawn) (.int x_came) w_kept w_isKept w_keptCame), (q_read, aB cT n_read f_read), (q_acts, aI cT 240 f_acts)] Post (fun (u : (Int32 × Int32 × (Nat → Int32))) => [(h, oX8 w_now (.int x_arches) (.int x_cats) w_text (.int x_typed) w_row (.int x_rowMany) (.int x_thrown) (.ref q_read) (.int x_length) (.int x_top) (.int u.1) (.int u.2.1) w_told w_rule w_otherRule (.int x_ruleSize) (.int x_isAsked) w_asked w_undos (.int x_undoMany) w_aside w_then w_hold (.int x_dropped) (.ref q_acts) w_guarded w_train (.int x_trolleyEnd) w_feltOf w_feltBy (.int x_feltMany) w_many w_heardOf w_heardBy (.int x_heardMany) w_worth (.int x_drawn) (.int x_came) w_kept w_isKept w_keptCame), (q_read, aB cT n_read f_read), (q_acts, aI cT 240 u.2.2)]) := by
  refine MWv.of (by decide) (Nat.le_of_ble_eq_true rfl) ?_
  intro p e s m below meth c A hA C0 hnm hr hP hD ls hl
  have hl : lv_has ls 3 [(0, .ref h), (1, .int p1)] := hl
  have hx := C0.x
  have hb := C0.b
  have hS : va_S A s.heap s.heap [] := va_S.rf
  have hP : va_P D cls9 [(h, oX8 w_now (.int x_arches) (.int x_cats) w_text (.int x_typed) w_row (.int x_rowMany) (.int x_thrown) (.ref q_read) (.int x_length) (.int x_top) (.int x_at) (.int x_wrong) w_told w_rule w_otherRule (.int x_ruleSize) (.int x_isAsked) w_asked w_undos (.int x_undoMany) w_aside w_then w_hold (.int x_dropped) (.ref q_acts) w_guarded w_train (.int x_trolleyEnd) w_feltOf w_feltBy (.int x_feltMany) w_many w_heardOf w_heardBy (.int x_heardMany) w_worth (.int x_drawn) (.int x_came) w_kept w_isKept w_keptCame), (q_read, aB cT n_read f_read), (q_acts, aI cT 240 f_acts)] s.heap := hP
  have hD : va_D A [(h, oX8 w_now (.int x_arches) (.int x_cats) w_text (.int x_typed) w_row (.int x_rowMany) (.int x_thrown) (.ref q_read) (.int x_length) (.int x_top) (.int x_at) (.int x_wrong) w_told w_rule w_otherRule (.int x_ruleSize) (.int x_isAsked) w_asked w_undos (.int x_undoMany) w_aside w_then w_hold (.int x_dropped) (.ref q_acts) w_guarded w_train (.int x_trolleyEnd) w_feltOf w_feltBy (.int x_feltMany) w_many w_heardOf w_heardBy (.int x_heardMany) w_worth (.int x_drawn) (.int x_came) w_kept w_isKept w_keptCame), (q_read, aB cT n_read f_read), (q_acts, aI cT 240 f_acts)] := hD
  have L125 : ∀ (x_at_113 : Int32) (x_wrong_113 : Int32) (f_acts_113 : Nat → Int32) (H : Heap) (locs : List Loc) (ls : Array Slot), p_X8_readAct_125 F p1 x_length x_top n_read f_read x_at_113 x_wrong_113 f_acts_113 Post → va_P D cls9 [(h, oX8 w_now (.int x_arches) (.int x_cats) w_text (.int x_typed) w_row (.int x_rowMany) (.int x_thrown) (.ref q_read) (.int x_length) (.int x_top) (.int x_at_113) (.int x_wrong_113) w_told w_rule w_otherRule (.int x_ruleSize) (.int x_isAsked) w_asked w_undos (.int x_undoMany) w_aside w_then w_hold (.int x_dropped) (.ref q_acts) w_guarded w_train (.int x_trolleyEnd) w_feltOf w_feltBy (.int x_feltMany) w_many w_heardOf w_heardBy (.int x_heardMany) w_worth (.int x_drawn) (.int x_came) w_kept w_isKept w_keptCame), (q_read, aB cT n_read f_read), (q_acts, aI cT 240 f_acts_113)] H → va_D A [(h, oX8 w_now (.int x_arches) (.int x_cats) w_text (.int x_typed) w_row (.int x_rowMany) (.int x_thrown) (.ref q_read) (.int x_length) (.int x_top) (.int x_at_113) (.int x_wrong_113) w_told w_rule w_otherRule (.int x_ruleSize) (.int x_isAsked) w_asked w_undos (.int x_undoMany) w_aside w_then w_hold (.int x_dropped) (.ref q_acts) w_guarded w_train (.int x_trolleyEnd) w_feltOf w_feltBy (.int x_feltMany) w_many w_heardOf w_heardBy (.int x_heardMany) w_worth (.int x_drawn) (.int x_came) w_kept w_isKept w_keptCame), (q_read, aB cT n_read f_read), (q_acts, aI cT 240 f_acts_113)] → va_S A s.heap H locs → lv_has ls 3 [(0, .ref h), (1, .int p1)] → W p l e (rmO 3 63 0 0) s m ([.ref h, .int p1] : List Value).toArray below meth c H locs 0 0 (MQ below (va_Qv Post (cB D A (fun (u : (Int32 × Int32 × (Nat → Int32))) => [(h, oX8 w_now (.int x_arches) (.int x_cats) w_text (.int x_typed) w_row (.int x_rowMany) (.int x_thrown) (.ref q_read) (.int x_length) (.int x_top) (.int u.1) (.int u.2.1) w_told w_rule w_otherRule (.int x_ruleSize) (.int x_isAsked) w_asked w_undos (.int x_undoMany) w_aside w_then w_hold (.int x_dropped) (.ref q_acts) w_guarded w_train (.int x_trolleyEnd) w_feltOf w_feltBy (.int x_feltMany) w_many w_heardOf w_heardBy (.int x_heardMany) w_worth (.int x_drawn) (.int x_came) w_kept w_isKept w_keptCame), (q_read, aB cT n_read f_read), (q_acts, aI cT 240 u.2.2)])) A) ([.ref h, .int p1] : List Value).toArray s 0 0 A) (F0 m 125 ls []) := by
    intro x_at_113 x_wrong_113 f_acts_113 H locs ls hg hP hD hS hl
    unfold p_X8_readAct_125 at hg
    refine lv_aload_n hx hb dX8_readAct_125 rfl (lv_at hl 0 rfl) ?_
    refine gf_X8_45 C0 hP 0 rfl rfl dX8_readAct_126 ?_
    refine lv_iload_n hx hb dX8_readAct_129 rfl (lv_at hl 1 rfl) ?_
    refine lv_iconst (v := (2 : Int32)) hx hb dX8_readAct_130 (by decide) ?_
    refine lv_iadd hx hb dX8_readAct_131 ?_
    refine lv_aload_n hx hb dX8_readAct_132 rfl (lv_at hl 0 rfl) ?_
    refine lv_bipush (v := (48 : Int32)) hx hb dX8_readAct_133 (by decide) ?_
    refine lv_bipush (v := (10 : Int32)) hx hb dX8_readAct_135 (by decide) ?_
    refine k_Vi (rest := [.int (p1 + (2 : Int32)), .ref q_acts]) (wr := [(q_acts, aI cT 240 f_acts_113)]) (w2 := fun u_137 => [(q_acts, aI cT 240 f_acts_113), (h, oX8 w_now (.int x_arches) (.int x_cats) w_text (.int x_typed) w_row (.int x_rowMany) (.int x_thrown) (.ref q_read) (.int x_length) (.int x_top) (.int u_137.1) (.int u_137.2) w_told w_rule w_otherRule (.int x_ruleSize) (.int x_isAsked) w_asked w_undos (.int x_undoMany) w_aside w_then w_hold (.int x_dropped) (.ref q_acts) w_guarded w_train (.int x_trolleyEnd) w_feltOf w_feltBy (.int x_feltMany) w_many w_heardOf w_heardBy (.int x_heardMany) w_worth (.int x_drawn) (.int x_came) w_kept w_isKept w_keptCame), (q_read, aB cT n_read f_read)]) C0 lk_X8_137 (c_X8_oneOf l D cT F h (48 : Int32) (10 : Int32) w_now x_arches x_cats w_text x_typed w_row x_rowMany x_thrown q_read x_length x_top x_at_113 x_wrong_113 w_told w_rule w_otherRule x_ruleSize x_isAsked w_asked w_undos x_undoMany w_aside w_then w_hold x_dropped (.ref q_acts) w_guarded w_train x_trolleyEnd w_feltOf w_feltBy x_feltMany w_many w_heardOf w_heardBy x_heardMany w_worth x_drawn x_came w_kept w_isKept w_keptCame n_read f_read _ hg) hP hD hS hA [0, 1] [2] (by decide +kernel) rfl rfl (fun _ => rfl) rfl rfl ⟨Nat.le_of_ble_eq_true rfl, Nat.le_of_ble_eq_true rfl⟩ rfl hl.1 rfl (Nat.le_of_ble_eq_true rfl) dX8_readAct_137 ⟨Nat.le_of_ble_eq_true rfl, Nat.le_of_ble_eq_true rfl⟩ ?_
    intro r_137 u_137 H locs hg hP hD hS
    obtain ⟨g_140, hg⟩ := hg
    refine k_iast C0 hP hD hS 0 rfl g_140 (ws' := [(q_acts, aI cT 240 (upd f_acts_113 (p1 + (2 : Int32)).toNatClampNeg r_137)), (h, oX8 w_now (.int x_arches) (.int x_cats) w_text (.int x_typed) w_row (.int x_rowMany) (.int x_thrown) (.ref q_read) (.int x_length) (.int x_top) (.int u_137.1) (.int u_137.2) w_told w_rule w_otherRule (.int x_ruleSize) (.int x_isAsked) w_asked w_undos (.int x_undoMany) w_aside w_then w_hold (.int x_dropped) (.ref q_acts) w_guarded w_train (.int x_trolleyEnd) w_feltOf w_feltBy (.int x_feltMany) w_many w_heardOf w_heardBy (.int x_heardMany) w_worth (.int x_drawn) (.int x_came) w_kept w_isKept w_keptCame), (q_read, aB cT n_read f_read)]) rfl dX8_readAct_140 (fun H locs hP hD hS => ?_)
    exact k_vret C0 hr (u_137.1, u_137.2, (upd f_acts_113 (p1 + (2 : Int32)).toNatClampNeg r_137)) hg (subP hP [1, 2, 0] rfl) (hD.sub [1, 2, 0] (nd2_ok _ (by decide +kernel)) rfl) hS dX8_readAct_141
  have L113 : ∀ (r_1 : Int32) (x_at_113 : Int32) (x_wrong_113 : Int32) (f_acts_113 : Nat → Int32) (H : Heap) (locs : List Loc) (ls : Array Slot), p_X8_readAct_113 F p1 x_length x_top n_read f_read r_1 Post x_at_113 x_wrong_113 f_acts_113 → va_P D cls9 [(h, oX8 w_now (.int x_arches) (.int x_cats) w_text (.int x_typed) w_row (.int x_rowMany) (.int x_thrown) (.ref q_read) (.int x_length) (.int x_top) (.int x_at_113) (.int x_wrong_113) w_told w_rule w_otherRule (.int x_ruleSize) (.int x_isAsked) w_asked w_undos (.int x_undoMany) w_aside w_then w_hold (.int x_dropped) (.ref q_acts) w_guarded w_train (.int x_trolleyEnd) w_feltOf w_feltBy (.int x_feltMany) w_many w_heardOf w_heardBy (.int x_heardMany) w_worth (.int x_drawn) (.int x_came) w_kept w_isKept w_keptCame), (q_read, aB cT n_read f_read), (q_acts, aI cT 240 f_acts_113)] H → va_D A [(h, oX8 w_now (.int x_arches) (.int x_cats) w_text (.int x_typed) w_row (.int x_rowMany) (.int x_thrown) (.ref q_read) (.int x_length) (.int x_top) (.int x_at_113) (.int x_wrong_113) w_told w_rule w_otherRule (.int x_ruleSize) (.int x_isAsked) w_asked w_undos (.int x_undoMany) w_aside w_then w_hold (.int x_dropped) (.ref q_acts) w_guarded w_train (.int x_trolleyEnd) w_feltOf w_feltBy (.int x_feltMany) w_many w_heardOf w_heardBy (.int x_heardMany) w_worth (.int x_drawn) (.int x_came) w_kept w_isKept w_keptCame), (q_read, aB cT n_read f_read), (q_acts, aI cT 240 f_acts_113)] → va_S A s.heap H locs → lv_has ls 3 [(0, .ref h), (1, .int p1), (2, .int r_1)] → W p l e (rmO 3 63 0 0) s m ([.ref h, .int p1] : List Value).toArray below meth c H locs 0 0 (MQ below (va_Qv Post (cB D A (fun (u : (Int32 × Int32 × (Nat → Int32))) => [(h, oX8 w_now (.int x_arches) (.int x_cats) w_text (.int x_typed) w_row (.int x_rowMany) (.int x_thrown) (.ref q_read) (.int x_length) (.int x_top) (.int u.1) (.int u.2.1) w_told w_rule w_otherRule (.int x_ruleSize) (.int x_isAsked) w_asked w_undos (.int x_undoMany) w_aside w_then w_hold (.int x_dropped) (.ref q_acts) w_guarded w_train (.int x_trolleyEnd) w_feltOf w_feltBy (.int x_feltMany) w_many w_heardOf w_heardBy (.int x_heardMany) w_worth (.int x_drawn) (.int x_came) w_kept w_isKept w_keptCame), (q_read, aB cT n_read f_read), (q_acts, aI cT 240 u.2.2)])) A) ([.ref h, .int p1] : List Value).toArray s 0 0 A) (F0 m 113 ls []) := by
    intro r_1 x_at_113 x_wrong_113 f_acts_113 H locs ls hg hP hD hS hl
    unfold p_X8_readAct_113 at hg
    refine lv_iload_n hx hb dX8_readAct_113 rfl (lv_at hl 2 rfl) ?_
    refine lv_bipush (v := (115 : Int32)) hx hb dX8_readAct_114 (by decide) ?_
    refine lv_icmp_eq (tgt := 125) hx hb dX8_readAct_116 (by decide) (fun c_116 => ?_) (fun c_116 => ?_)
    · have hg := hg.1 c_116
      exact L125 x_at_113 x_wrong_113 f_acts_113 _ _ _ hg hP hD hS (lv_sub hl [0, 1] rfl)
    have hg := hg.2 c_116
    refine lv_iload_n hx hb dX8_readAct_119 rfl (lv_at hl 2 rfl) ?_
    refine lv_bipush (v := (108 : Int32)) hx hb dX8_readAct_120 (by decide) ?_
    refine lv_icmp_ne (tgt := 141) hx hb dX8_readAct_122 (by decide) (fun c_122 => ?_) (fun c_122 => ?_)
    · have hg := hg.1 c_122
      exact k_vret C0 hr (x_at_113, x_wrong_113, f_acts_113) hg hP hD hS dX8_readAct_141
    have hg := hg.2 c_122
    exact L125 x_at_113 x_wrong_113 f_acts_113 _ _ _ hg hP hD hS (lv_sub hl [0, 1] rfl)
  have L95 : ∀ (r_1 : Int32) (r_79 : Int32) (u_79 : (Int32 × Int32)) (H : Heap) (locs : List Loc) (ls : Array Slot), p_X8_readAct_95 F p1 x_length x_top n_read f_read f_acts r_1 r_79 u_79 Post → va_P D cls9 [(h, oX8 w_now (.int x_arches) (.int x_cats) w_text (.int x_typed) w_row (.int x_rowMany) (.int x_thrown) (.ref q_read) (.int x_length) (.int x_top) (.int u_79.1) (.int u_79.2) w_told w_rule w_otherRule (.int x_ruleSize) (.int x_isAsked) w_asked w_undos (.int x_undoMany) w_aside w_then w_hold (.int x_dropped) (.ref q_acts) w_guarded w_train (.int x_trolleyEnd) w_feltOf w_feltBy (.int x_feltMany) w_many w_heardOf w_heardBy (.int x_heardMany) w_worth (.int x_drawn) (.int x_came) w_kept w_isKept w_keptCame), (q_read, aB cT n_read f_read), (q_acts, aI cT 240 (upd (upd f_acts p1.toNatClampNeg r_1) (p1 + (1 : Int32)).toNatClampNeg r_79))] H → va_D A [(h, oX8 w_now (.int x_arches) (.int x_cats) w_text (.int x_typed) w_row (.int x_rowMany) (.int x_thrown) (.ref q_read) (.int x_length) (.int x_top) (.int u_79.1) (.int u_79.2) w_told w_rule w_otherRule (.int x_ruleSize) (.int x_isAsked) w_asked w_undos (.int x_undoMany) w_aside w_then w_hold (.int x_dropped) (.ref q_acts) w_guarded w_train (.int x_trolleyEnd) w_feltOf w_feltBy (.int x_feltMany) w_many w_heardOf w_heardBy (.int x_heardMany) w_worth (.int x_drawn) (.int x_came) w_kept w_isKept w_keptCame), (q_read, aB cT n_read f_read), (q_acts, aI cT 240 (upd (upd f_acts p1.toNatClampNeg r_1) (p1 + (1 : Int32)).toNatClampNeg r_79))] → va_S A s.heap H locs → lv_has ls 3 [(0, .ref h), (1, .int p1), (2, .int r_1)] → W p l e (rmO 3 63 0 0) s m ([.ref h, .int p1] : List Value).toArray below meth c H locs 0 0 (MQ below (va_Qv Post (cB D A (fun (u : (Int32 × Int32 × (Nat → Int32))) => [(h, oX8 w_now (.int x_arches) (.int x_cats) w_text (.int x_typed) w_row (.int x_rowMany) (.int x_thrown) (.ref q_read) (.int x_length) (.int x_top) (.int u.1) (.int u.2.1) w_told w_rule w_otherRule (.int x_ruleSize) (.int x_isAsked) w_asked w_undos (.int x_undoMany) w_aside w_then w_hold (.int x_dropped) (.ref q_acts) w_guarded w_train (.int x_trolleyEnd) w_feltOf w_feltBy (.int x_feltMany) w_many w_heardOf w_heardBy (.int x_heardMany) w_worth (.int x_drawn) (.int x_came) w_kept w_isKept w_keptCame), (q_read, aB cT n_read f_read), (q_acts, aI cT 240 u.2.2)])) A) ([.ref h, .int p1] : List Value).toArray s 0 0 A) (F0 m 95 ls []) := by
    intro r_1 r_79 u_79 H locs ls hg hP hD hS hl
    unfold p_X8_readAct_95 at hg
    refine lv_aload_n hx hb dX8_readAct_95 rfl (lv_at hl 0 rfl) ?_
    refine gf_X8_45 C0 hP 0 rfl rfl dX8_readAct_96 ?_
    refine lv_iload_n hx hb dX8_readAct_99 rfl (lv_at hl 1 rfl) ?_
    refine lv_iconst (v := (2 : Int32)) hx hb dX8_readAct_100 (by decide) ?_
    refine lv_iadd hx hb dX8_readAct_101 ?_
    refine lv_aload_n hx hb dX8_readAct_102 rfl (lv_at hl 0 rfl) ?_
    refine lv_bipush (v := (49 : Int32)) hx hb dX8_readAct_103 (by decide) ?_
    refine lv_bipush (v := (9 : Int32)) hx hb dX8_readAct_105 (by decide) ?_
    refine k_Vi (rest := [.int (p1 + (2 : Int32)), .ref q_acts]) (wr := [(q_acts, aI cT 240 (upd (upd f_acts p1.toNatClampNeg r_1) (p1 + (1 : Int32)).toNatClampNeg r_79))]) (w2 := fun u_107 => [(q_acts, aI cT 240 (upd (upd f_acts p1.toNatClampNeg r_1) (p1 + (1 : Int32)).toNatClampNeg r_79)), (h, oX8 w_now (.int x_arches) (.int x_cats) w_text (.int x_typed) w_row (.int x_rowMany) (.int x_thrown) (.ref q_read) (.int x_length) (.int x_top) (.int u_107.1) (.int u_107.2) w_told w_rule w_otherRule (.int x_ruleSize) (.int x_isAsked) w_asked w_undos (.int x_undoMany) w_aside w_then w_hold (.int x_dropped) (.ref q_acts) w_guarded w_train (.int x_trolleyEnd) w_feltOf w_feltBy (.int x_feltMany) w_many w_heardOf w_heardBy (.int x_heardMany) w_worth (.int x_drawn) (.int x_came) w_kept w_isKept w_keptCame), (q_read, aB cT n_read f_read)]) C0 lk_X8_137 (c_X8_oneOf l D cT F h (49 : Int32) (9 : Int32) w_now x_arches x_cats w_text x_typed w_row x_rowMany x_thrown q_read x_length x_top u_79.1 u_79.2 w_told w_rule w_otherRule x_ruleSize x_isAsked w_asked w_undos x_undoMany w_aside w_then w_hold x_dropped (.ref q_acts) w_guarded w_train x_trolleyEnd w_feltOf w_feltBy x_feltMany w_many w_heardOf w_heardBy x_heardMany w_worth x_drawn x_came w_kept w_isKept w_keptCame n_read f_read _ hg) hP hD hS hA [0, 1] [2] (by decide +kernel) rfl rfl (fun _ => rfl) rfl rfl ⟨Nat.le_of_ble_eq_true rfl, Nat.le_of_ble_eq_true rfl⟩ rfl hl.1 rfl (Nat.le_of_ble_eq_true rfl) dX8_readAct_107 ⟨Nat.le_of_ble_eq_true rfl, Nat.le_of_ble_eq_true rfl⟩ ?_
    intro r_107 u_107 H locs hg hP hD hS
    refine lv_iconst (v := (1 : Int32)) hx hb dX8_readAct_110 (by decide) ?_
    refine lv_iadd hx hb dX8_readAct_111 ?_
    obtain ⟨g_112, hg⟩ := hg
    refine k_iast C0 hP hD hS 0 rfl g_112 (ws' := [(q_acts, aI cT 240 (upd (upd (upd f_acts p1.toNatClampNeg r_1) (p1 + (1 : Int32)).toNatClampNeg r_79) (p1 + (2 : Int32)).toNatClampNeg (r_107 + (1 : Int32)))), (h, oX8 w_now (.int x_arches) (.int x_cats) w_text (.int x_typed) w_row (.int x_rowMany) (.int x_thrown) (.ref q_read) (.int x_length) (.int x_top) (.int u_107.1) (.int u_107.2) w_told w_rule w_otherRule (.int x_ruleSize) (.int x_isAsked) w_asked w_undos (.int x_undoMany) w_aside w_then w_hold (.int x_dropped) (.ref q_acts) w_guarded w_train (.int x_trolleyEnd) w_feltOf w_feltBy (.int x_feltMany) w_many w_heardOf w_heardBy (.int x_heardMany) w_worth (.int x_drawn) (.int x_came) w_kept w_isKept w_keptCame), (q_read, aB cT n_read f_read)]) rfl dX8_readAct_112 (fun H locs hP hD hS => ?_)
    exact L113 r_1 u_107.1 u_107.2 (upd (upd (upd f_acts p1.toNatClampNeg r_1) (p1 + (1 : Int32)).toNatClampNeg r_79) (p1 + (2 : Int32)).toNatClampNeg (r_107 + (1 : Int32))) _ _ _ hg (subP hP [1, 2, 0] rfl) (hD.sub [1, 2, 0] (nd2_ok _ (by decide +kernel)) rfl) hS hl
  have L50 : ∀ (r_1 : Int32) (H : Heap) (locs : List Loc) (ls : Array Slot), p_X8_readAct_50 F p1 x_length x_top x_at x_wrong n_read f_read f_acts r_1 Post → va_P D cls9 [(h, oX8 w_now (.int x_arches) (.int x_cats) w_text (.int x_typed) w_row (.int x_rowMany) (.int x_thrown) (.ref q_read) (.int x_length) (.int x_top) (.int x_at) (.int x_wrong) w_told w_rule w_otherRule (.int x_ruleSize) (.int x_isAsked) w_asked w_undos (.int x_undoMany) w_aside w_then w_hold (.int x_dropped) (.ref q_acts) w_guarded w_train (.int x_trolleyEnd) w_feltOf w_feltBy (.int x_feltMany) w_many w_heardOf w_heardBy (.int x_heardMany) w_worth (.int x_drawn) (.int x_came) w_kept w_isKept w_keptCame), (q_read, aB cT n_read f_read), (q_acts, aI cT 240 f_acts)] H → va_D A [(h, oX8 w_now (.int x_arches) (.int x_cats) w_text (.int x_typed) w_row (.int x_rowMany) (.int x_thrown) (.ref q_read) (.int x_length) (.int x_top) (.int x_at) (.int x_wrong) w_told w_rule w_otherRule (.int x_ruleSize) (.int x_isAsked) w_asked w_undos (.int x_undoMany) w_aside w_then w_hold (.int x_dropped) (.ref q_acts) w_guarded w_train (.int x_trolleyEnd) w_feltOf w_feltBy (.int x_feltMany) w_many w_heardOf w_heardBy (.int x_heardMany) w_worth (.int x_drawn) (.int x_came) w_kept w_isKept w_keptCame), (q_read, aB cT n_read f_read), (q_acts, aI cT 240 f_acts)] → va_S A s.heap H locs → lv_has ls 3 [(0, .ref h), (1, .int p1), (2, .int r_1)] → W p l e (rmO 3 63 0 0) s m ([.ref h, .int p1] : List Value).toArray below meth c H locs 0 0 (MQ below (va_Qv Post (cB D A (fun (u : (Int32 × Int32 × (Nat → Int32))) => [(h, oX8 w_now (.int x_arches) (.int x_cats) w_text (.int x_typed) w_row (.int x_rowMany) (.int x_thrown) (.ref q_read) (.int x_length) (.int x_top) (.int u.1) (.int u.2.1) w_told w_rule w_otherRule (.int x_ruleSize) (.int x_isAsked) w_asked w_undos (.int x_undoMany) w_aside w_then w_hold (.int x_dropped) (.ref q_acts) w_guarded w_train (.int x_trolleyEnd) w_feltOf w_feltBy (.int x_feltMany) w_many w_heardOf w_heardBy (.int x_heardMany) w_worth (.int x_drawn) (.int x_came) w_kept w_isKept w_keptCame), (q_read, aB cT n_read f_read), (q_acts, aI cT 240 u.2.2)])) A) ([.ref h, .int p1] : List Value).toArray s 0 0 A) (F0 m 50 ls []) := by
    intro r_1 H locs ls hg hP hD hS hl
    unfold p_X8_readAct_50 at hg
    refine lv_aload_n hx hb dX8_readAct_50 rfl (lv_at hl 0 rfl) ?_
    refine lv_dup hx hb dX8_readAct_51 rfl ?_
    refine gf_X8_111 C0 hP 0 rfl rfl dX8_readAct_52 ?_
    refine lv_iconst (v := (1 : Int32)) hx hb dX8_readAct_55 (by decide) ?_
    refine lv_iadd hx hb dX8_readAct_56 ?_
    refine pf_X8_111 C0 hP hD hS 0 rfl (Nat.le_of_ble_eq_true rfl) (ws2 := [(h, oX8 w_now (.int x_arches) (.int x_cats) w_text (.int x_typed) w_row (.int x_rowMany) (.int x_thrown) (.ref q_read) (.int x_length) (.int x_top) (.int (x_at + (1 : Int32))) (.int x_wrong) w_told w_rule w_otherRule (.int x_ruleSize) (.int x_isAsked) w_asked w_undos (.int x_undoMany) w_aside w_then w_hold (.int x_dropped) (.ref q_acts) w_guarded w_train (.int x_trolleyEnd) w_feltOf w_feltBy (.int x_feltMany) w_many w_heardOf w_heardBy (.int x_heardMany) w_worth (.int x_drawn) (.int x_came) w_kept w_isKept w_keptCame), (q_read, aB cT n_read f_read), (q_acts, aI cT 240 f_acts)]) rfl dX8_readAct_57 (fun H locs hP hD hS => ?_)
    refine lv_aload_n hx hb dX8_readAct_60 rfl (lv_at hl 0 rfl) ?_
    refine gf_X8_45 C0 hP 0 rfl rfl dX8_readAct_61 ?_
    refine lv_iload_n hx hb dX8_readAct_64 rfl (lv_at hl 1 rfl) ?_
    refine lv_iload_n hx hb dX8_readAct_65 rfl (lv_at hl 2 rfl) ?_
    obtain ⟨g_66, hg⟩ := hg
    refine k_iast C0 hP hD hS 2 rfl g_66 (ws' := [(h, oX8 w_now (.int x_arches) (.int x_cats) w_text (.int x_typed) w_row (.int x_rowMany) (.int x_thrown) (.ref q_read) (.int x_length) (.int x_top) (.int (x_at + (1 : Int32))) (.int x_wrong) w_told w_rule w_otherRule (.int x_ruleSize) (.int x_isAsked) w_asked w_undos (.int x_undoMany) w_aside w_then w_hold (.int x_dropped) (.ref q_acts) w_guarded w_train (.int x_trolleyEnd) w_feltOf w_feltBy (.int x_feltMany) w_many w_heardOf w_heardBy (.int x_heardMany) w_worth (.int x_drawn) (.int x_came) w_kept w_isKept w_keptCame), (q_read, aB cT n_read f_read), (q_acts, aI cT 240 (upd f_acts p1.toNatClampNeg r_1))]) rfl dX8_readAct_66 (fun H locs hP hD hS => ?_)
    refine lv_aload_n hx hb dX8_readAct_67 rfl (lv_at hl 0 rfl) ?_
    refine gf_X8_45 C0 hP 0 rfl rfl dX8_readAct_68 ?_
    refine lv_iload_n hx hb dX8_readAct_71 rfl (lv_at hl 1 rfl) ?_
    refine lv_iconst (v := (1 : Int32)) hx hb dX8_readAct_72 (by decide) ?_
    refine lv_iadd hx hb dX8_readAct_73 ?_
    refine lv_aload_n hx hb dX8_readAct_74 rfl (lv_at hl 0 rfl) ?_
    refine lv_bipush (v := (48 : Int32)) hx hb dX8_readAct_75 (by decide) ?_
    refine lv_bipush (v := (10 : Int32)) hx hb dX8_readAct_77 (by decide) ?_
    refine k_Vi (rest := [.int (p1 + (1 : Int32)), .ref q_acts]) (wr := [(q_acts, aI cT 240 (upd f_acts p1.toNatClampNeg r_1))]) (w2 := fun u_79 => [(q_acts, aI cT 240 (upd f_acts p1.toNatClampNeg r_1)), (h, oX8 w_now (.int x_arches) (.int x_cats) w_text (.int x_typed) w_row (.int x_rowMany) (.int x_thrown) (.ref q_read) (.int x_length) (.int x_top) (.int u_79.1) (.int u_79.2) w_told w_rule w_otherRule (.int x_ruleSize) (.int x_isAsked) w_asked w_undos (.int x_undoMany) w_aside w_then w_hold (.int x_dropped) (.ref q_acts) w_guarded w_train (.int x_trolleyEnd) w_feltOf w_feltBy (.int x_feltMany) w_many w_heardOf w_heardBy (.int x_heardMany) w_worth (.int x_drawn) (.int x_came) w_kept w_isKept w_keptCame), (q_read, aB cT n_read f_read)]) C0 lk_X8_137 (c_X8_oneOf l D cT F h (48 : Int32) (10 : Int32) w_now x_arches x_cats w_text x_typed w_row x_rowMany x_thrown q_read x_length x_top (x_at + (1 : Int32)) x_wrong w_told w_rule w_otherRule x_ruleSize x_isAsked w_asked w_undos x_undoMany w_aside w_then w_hold x_dropped (.ref q_acts) w_guarded w_train x_trolleyEnd w_feltOf w_feltBy x_feltMany w_many w_heardOf w_heardBy x_heardMany w_worth x_drawn x_came w_kept w_isKept w_keptCame n_read f_read _ hg) hP hD hS hA [0, 1] [2] (by decide +kernel) rfl rfl (fun _ => rfl) rfl rfl ⟨Nat.le_of_ble_eq_true rfl, Nat.le_of_ble_eq_true rfl⟩ rfl hl.1 rfl (Nat.le_of_ble_eq_true rfl) dX8_readAct_79 ⟨Nat.le_of_ble_eq_true rfl, Nat.le_of_ble_eq_true rfl⟩ ?_
    intro r_79 u_79 H locs hg hP hD hS
    obtain ⟨g_82, hg⟩ := hg
    refine k_iast C0 hP hD hS 0 rfl g_82 (ws' := [(q_acts, aI cT 240 (upd (upd f_acts p1.toNatClampNeg r_1) (p1 + (1 : Int32)).toNatClampNeg r_79)), (h, oX8 w_now (.int x_arches) (.int x_cats) w_text (.int x_typed) w_row (.int x_rowMany) (.int x_thrown) (.ref q_read) (.int x_length) (.int x_top) (.int u_79.1) (.int u_79.2) w_told w_rule w_otherRule (.int x_ruleSize) (.int x_isAsked) w_asked w_undos (.int x_undoMany) w_aside w_then w_hold (.int x_dropped) (.ref q_acts) w_guarded w_train (.int x_trolleyEnd) w_feltOf w_feltBy (.int x_feltMany) w_many w_heardOf w_heardBy (.int x_heardMany) w_worth (.int x_drawn) (.int x_came) w_kept w_isKept w_keptCame), (q_read, aB cT n_read f_read)]) rfl dX8_readAct_82 (fun H locs hP hD hS => ?_)
    refine lv_iload_n hx hb dX8_readAct_83 rfl (lv_at hl 2 rfl) ?_
    refine lv_bipush (v := (102 : Int32)) hx hb dX8_readAct_84 (by decide) ?_
    refine lv_icmp_eq (tgt := 95) hx hb dX8_readAct_86 (by decide) (fun c_86 => ?_) (fun c_86 => ?_)
    · have hg := hg.1 c_86
      exact L95 r_1 r_79 u_79 _ _ _ hg (subP hP [1, 2, 0] rfl) (hD.sub [1, 2, 0] (nd2_ok _ (by decide +kernel)) rfl) hS hl
    have hg := hg.2 c_86
    refine lv_iload_n hx hb dX8_readAct_89 rfl (lv_at hl 2 rfl) ?_
    refine lv_bipush (v := (103 : Int32)) hx hb dX8_readAct_90 (by decide) ?_
    refine lv_icmp_ne (tgt := 113) hx hb dX8_readAct_92 (by decide) (fun c_92 => ?_) (fun c_92 => ?_)
    · have hg := hg.1 c_92
      exact L113 r_1 u_79.1 u_79.2 (upd (upd f_acts p1.toNatClampNeg r_1) (p1 + (1 : Int32)).toNatClampNeg r_79) _ _ _ hg (subP hP [1, 2, 0] rfl) (hD.sub [1, 2, 0] (nd2_ok _ (by decide +kernel)) rfl) hS hl
    have hg := hg.2 c_92
    exact L95 r_1 r_79 u_79 _ _ _ hg (subP hP [1, 2, 0] rfl) (hD.sub [1, 2, 0] (nd2_ok _ (by decide +kernel)) rfl) hS hl
  unfold p_X8_readAct at hg
  refine lv_aload_n hx hb dX8_readAct_0 rfl (lv_at hl 0 rfl) ?_
  refine k_Vxi (rest := []) C0 lk_X8_125 (c_X8_here l D cT F h w_now x_arches x_cats w_text x_typed w_row x_rowMany x_thrown q_read x_length x_top x_at x_wrong w_told w_rule w_otherRule x_ruleSize x_isAsked w_asked w_undos x_undoMany w_aside w_then w_hold x_dropped (.ref q_acts) w_guarded w_train x_trolleyEnd w_feltOf w_feltBy x_feltMany w_many w_heardOf w_heardBy x_heardMany w_worth x_drawn x_came w_kept w_isKept w_keptCame n_read f_read _ hg) hP hD [0, 1] (by decide +kernel) rfl rfl rfl ⟨Nat.le_of_ble_eq_true rfl, Nat.le_of_ble_eq_true rfl⟩ rfl hl.1 rfl (Nat.le_of_ble_eq_true rfl) dX8_readAct_1 ⟨Nat.le_of_ble_eq_true rfl, Nat.le_of_ble_eq_true rfl⟩ (fun r_1 hg => ?_)
  refine lv_istore_n (lv' := [(2, .int r_1), (0, .ref h), (1, .int p1)]) hx hb dX8_readAct_4 rfl hl (by decide) rfl (fun ls hl => ?_)
  refine lv_iload_n hx hb dX8_readAct_5 rfl (lv_at hl 0 rfl) ?_
  refine lv_bipush (v := (110 : Int32)) hx hb dX8_readAct_6 (by decide) ?_
  refine lv_icmp_eq (tgt := 50) hx hb dX8_readAct_8 (by decide) (fun c_8 => ?_) (fun c_8 => ?_)
  · have hg := hg.1 c_8
    exact L50 r_1 _ _ _ hg hP hD hS (lv_sub hl [1, 2, 0] rfl)
  have hg := hg.2 c_8
  refine lv_iload_n hx hb dX8_readAct_11 rfl (lv_at hl 0 rfl) ?_
  refine lv_bipush (v := (102 : Int32)) hx hb dX8_readAct_12 (by decide) ?_
  refine lv_icmp_eq (tgt := 50) hx hb dX8_readAct_14 (by decide) (fun c_14 => ?_) (fun c_14 => ?_)
  · have hg := hg.1 c_14
    exact L50 r_1 _ _ _ hg hP hD hS (lv_sub hl [1, 2, 0] rfl)
  have hg := hg.2 c_14
  refine lv_iload_n hx hb dX8_readAct_17 rfl (lv_at hl 0 rfl) ?_
  refine lv_bipush (v := (112 : Int32)) hx hb dX8_readAct_18 (by decide) ?_
  refine lv_icmp_eq (tgt := 50) hx hb dX8_readAct_20 (by decide) (fun c_20 => ?_) (fun c_20 => ?_)
  · have hg := hg.1 c_20
    exact L50 r_1 _ _ _ hg hP hD hS (lv_sub hl [1, 2, 0] rfl)
  have hg := hg.2 c_20
  refine lv_iload_n hx hb dX8_readAct_23 rfl (lv_at hl 0 rfl) ?_
  refine lv_bipush (v := (103 : Int32)) hx hb dX8_readAct_24 (by decide) ?_
  refine lv_icmp_eq (tgt := 50) hx hb dX8_readAct_26 (by decide) (fun c_26 => ?_) (fun c_26 => ?_)
  · have hg := hg.1 c_26
    exact L50 r_1 _ _ _ hg hP hD hS (lv_sub hl [1, 2, 0] rfl)
  have hg := hg.2 c_26
  refine lv_iload_n hx hb dX8_readAct_29 rfl (lv_at hl 0 rfl) ?_
  refine lv_bipush (v := (115 : Int32)) hx hb dX8_readAct_30 (by decide) ?_
  refine lv_icmp_eq (tgt := 50) hx hb dX8_readAct_32 (by decide) (fun c_32 => ?_) (fun c_32 => ?_)
  · have hg := hg.1 c_32
    exact L50 r_1 _ _ _ hg hP hD hS (lv_sub hl [1, 2, 0] rfl)
  have hg := hg.2 c_32
  refine lv_iload_n hx hb dX8_readAct_35 rfl (lv_at hl 0 rfl) ?_
  refine lv_bipush (v := (108 : Int32)) hx hb dX8_readAct_36 (by decide) ?_
  refine lv_icmp_eq (tgt := 50) hx hb dX8_readAct_38 (by decide) (fun c_38 => ?_) (fun c_38 => ?_)
  · have hg := hg.1 c_38
    exact L50 r_1 _ _ _ hg hP hD hS (lv_sub hl [1, 2, 0] rfl)
  have hg := hg.2 c_38
  refine lv_aload_n hx hb dX8_readAct_41 rfl (lv_at hl 1 rfl) ?_
  refine lv_aload_n hx hb dX8_readAct_42 rfl (lv_at hl 1 rfl) ?_
  refine gf_X8_111 C0 hP 0 rfl rfl dX8_readAct_43 ?_
  refine k_Vv (rest := []) (wr := [(q_read, aB cT n_read f_read), (q_acts, aI cT 240 f_acts)]) (w2 := fun u_46 => [(q_read, aB cT n_read f_read), (q_acts, aI cT 240 f_acts), (h, oX8 w_now (.int x_arches) (.int x_cats) w_text (.int x_typed) w_row (.int x_rowMany) (.int x_thrown) (.ref q_read) (.int x_length) (.int x_top) (.int x_at) (.int u_46) w_told w_rule w_otherRule (.int x_ruleSize) (.int x_isAsked) w_asked w_undos (.int x_undoMany) w_aside w_then w_hold (.int x_dropped) (.ref q_acts) w_guarded w_train (.int x_trolleyEnd) w_feltOf w_feltBy (.int x_feltMany) w_many w_heardOf w_heardBy (.int x_heardMany) w_worth (.int x_drawn) (.int x_came) w_kept w_isKept w_keptCame)]) C0 lk_X8_133 (c_X8_fault l D cT F h x_at w_now x_arches x_cats w_text x_typed w_row x_rowMany x_thrown (.ref q_read) x_length x_top x_at x_wrong w_told w_rule w_otherRule x_ruleSize x_isAsked w_asked w_undos x_undoMany w_aside w_then w_hold x_dropped (.ref q_acts) w_guarded w_train x_trolleyEnd w_feltOf w_feltBy x_feltMany w_many w_heardOf w_heardBy x_heardMany w_worth x_drawn x_came w_kept w_isKept w_keptCame _ hg) hP hD hS hA [0] [1, 2] (by decide +kernel) rfl rfl (fun _ => rfl) rfl rfl ⟨Nat.le_of_ble_eq_true rfl, Nat.le_of_ble_eq_true rfl⟩ rfl hl.1 rfl (Nat.le_of_ble_eq_true rfl) dX8_readAct_46 ⟨Nat.le_of_ble_eq_true rfl, Nat.le_of_ble_eq_true rfl⟩ ?_
  intro u_46 H locs hg hP hD hS
  exact k_vret C0 hr (x_at, u_46, f_acts) hg (subP hP [2, 0, 1] rfl) (hD.sub [2, 0, 1] (nd2_ok _ (by decide +kernel)) rfl) hS dX8_readAct_49
theorem dX8_undo_0 : decode cX8_undo 0 = .ok (.aload_n 0, 1) := by decide +kernel
theorem dX8_undo_1 : decode cX8_undo 1 = .ok (.iconst 0, 1) := by decide +kernel
theorem dX8_undo_2 : decode cX8_undo 2 = .ok (.putfield 82, 3) := by decide +kernel
theorem dX8_undo_5 : decode cX8_undo 5 = .ok (.aload_n 0, 1) := by decide +kernel
theorem dX8_undo_6 : decode cX8_undo 6 = .ok (.getfield 141, 3) := by decide +kernel
theorem dX8_undo_9 : decode cX8_undo 9 = .ok (.ifCond .ne 5, 3) := by decide +kernel
theorem dX8_undo_12 : decode cX8_undo 12 = .ok (.iconst (-1), 1) := by decide +kernel
theorem dX8_undo_13 : decode cX8_undo 13 = .ok (.ireturn, 1) := by decide +kernel
theorem dX8_undo_14 : decode cX8_undo 14 = .ok (.aload_n 0, 1) := by decide +kernel
theorem dX8_undo_15 : decode cX8_undo 15 = .ok (.dup, 1) := by decide +kernel
theorem dX8_undo_16 : decode cX8_undo 16 = .ok (.getfield 141, 3) := by decide +kernel
theorem dX8_undo_19 : decode cX8_undo 19 = .ok (.iconst 1, 1) := by decide +kernel
theorem dX8_undo_20 : decode cX8_undo 20 = .ok (.isub, 1) := by decide +kernel
theorem dX8_undo_21 : decode cX8_undo 21 = .ok (.putfield 141, 3) := by decide +kernel
theorem dX8_undo_24 : decode cX8_undo 24 = .ok (.iconst 0, 1) := by decide +kernel
theorem dX8_undo_25 : decode cX8_undo 25 = .ok (.istore_n 1, 1) := by decide +kernel
theorem dX8_undo_26 : decode cX8_undo 26 = .ok (.iload_n 1, 1) := by decide +kernel
theorem dX8_undo_27 : decode cX8_undo 27 = .ok (.bipush 47, 2) := by decide +kernel
theorem dX8_undo_29 : decode cX8_undo 29 = .ok (.if_icmp .ge 29, 3) := by decide +kernel
theorem dX8_undo_32 : decode cX8_undo 32 = .ok (.aload_n 0, 1) := by decide +kernel
theorem dX8_undo_33 : decode cX8_undo 33 = .ok (.getfield 9, 3) := by decide +kernel
theorem dX8_undo_36 : decode cX8_undo 36 = .ok (.iload_n 1, 1) := by decide +kernel
theorem dX8_undo_37 : decode cX8_undo 37 = .ok (.aload_n 0, 1) := by decide +kernel
theorem dX8_undo_38 : decode cX8_undo 38 = .ok (.getfield 33, 3) := by decide +kernel
theorem dX8_undo_41 : decode cX8_undo 41 = .ok (.bipush 47, 2) := by decide +kernel
theorem dX8_undo_43 : decode cX8_undo 43 = .ok (.aload_n 0, 1) := by decide +kernel
theorem dX8_undo_44 : decode cX8_undo 44 = .ok (.getfield 141, 3) := by decide +kernel
theorem dX8_undo_47 : decode cX8_undo 47 = .ok (.imul, 1) := by decide +kernel
theorem dX8_undo_48 : decode cX8_undo 48 = .ok (.iload_n 1, 1) := by decide +kernel
theorem dX8_undo_49 : decode cX8_undo 49 = .ok (.iadd, 1) := by decide +kernel
theorem dX8_undo_50 : decode cX8_undo 50 = .ok (.iaload, 1) := by decide +kernel
theorem dX8_undo_51 : decode cX8_undo 51 = .ok (.iastore, 1) := by decide +kernel
theorem dX8_undo_52 : decode cX8_undo 52 = .ok (.iinc 1 1, 3) := by decide +kernel
theorem dX8_undo_55 : decode cX8_undo 55 = .ok (.goto (-29), 3) := by decide +kernel
theorem dX8_undo_58 : decode cX8_undo 58 = .ok (.aload_n 0, 1) := by decide +kernel
theorem dX8_undo_59 : decode cX8_undo 59 = .ok (.getfield 141, 3) := by decide +kernel
theorem dX8_undo_62 : decode cX8_undo 62 = .ok (.ireturn, 1) := by decide +kernel
noncomputable def p_X8_undo_26 (F : Nat) (x_undoMany : Int32) (f_undos : Nat → Int32) (Post : Int32 → (Int32 × Int32 × (Nat → Int32)) → Prop) (n : Nat) : Int32 → (Nat → Int32) → Prop := Nat.rec (motive := fun _ => Int32 → (Nat → Int32) → Prop) (fun _ _ => False) (fun _ k26 => fun (y1_26 : Int32) (f_now_26 : Nat → Int32) => (((47 : Int32) ≤ y1_26 → (Post (x_undoMany - (1 : Int32)) ((0 : Int32), (x_undoMany - (1 : Int32)), f_now_26))) ∧ (¬ (47 : Int32) ≤ y1_26 → (vp_in (((47 : Int32) * (x_undoMany - (1 : Int32))) + y1_26) 564 ∧ (vp_in y1_26 47 ∧ (k26 (y1_26 + (1 : Int32)) (upd f_now_26 y1_26.toNatClampNeg (f_undos (((47 : Int32) * (x_undoMany - (1 : Int32))) + y1_26).toNatClampNeg)))))))) n
theorem p_X8_undo_26_s (F : Nat) (x_undoMany : Int32) (f_undos : Nat → Int32) (Post : Int32 → (Int32 × Int32 × (Nat → Int32)) → Prop) (n : Nat) (y1_26 : Int32) (f_now_26 : Nat → Int32) : p_X8_undo_26 F x_undoMany f_undos Post (n + 1) y1_26 f_now_26 = (((47 : Int32) ≤ y1_26 → (Post (x_undoMany - (1 : Int32)) ((0 : Int32), (x_undoMany - (1 : Int32)), f_now_26))) ∧ (¬ (47 : Int32) ≤ y1_26 → (vp_in (((47 : Int32) * (x_undoMany - (1 : Int32))) + y1_26) 564 ∧ (vp_in y1_26 47 ∧ ((p_X8_undo_26 F x_undoMany f_undos Post n) (y1_26 + (1 : Int32)) (upd f_now_26 y1_26.toNatClampNeg (f_undos (((47 : Int32) * (x_undoMany - (1 : Int32))) + y1_26).toNatClampNeg))))))) := rfl
def p_X8_undo (F : Nat) (x_undoMany : Int32) (f_undos : Nat → Int32) (f_now : Nat → Int32) (Post : Int32 → (Int32 × Int32 × (Nat → Int32)) → Prop) : Prop := ((¬ x_undoMany = 0 → (p_X8_undo_26 F x_undoMany f_undos Post F (0 : Int32) f_now)) ∧ (x_undoMany = 0 → (Post (-1 : Int32) ((0 : Int32), x_undoMany, f_now))))
set_option maxHeartbeats 4000000 in
set_option maxRecDepth 100000 in
theorem c_X8_undo (l : Launch) (D : va_G) (cT : Nat → ClassId) (F : Nat) (h : Nat) (q_now : Nat) (x_arches : Int32) (x_cats : Int32) (w_text : Value) (x_typed : Int32) (w_row : Value) (x_rowMany : Int32) (x_thrown : Int32) (w_read : Value) (x_length : Int32) (x_top : Int32) (x_at : Int32) (x_wrong : Int32) (w_told : Value) (w_rule : Value) (w_otherRule : Value) (x_ruleSize : Int32) (x_isAsked : Int32) (w_asked : Value) (q_undos : Nat) (x_undoMany : Int32) (w_aside : Value) (w_then : Value) (w_hold : Value) (x_dropped : Int32) (w_acts : Value) (w_guarded : Value) (w_train : Value) (x_trolleyEnd : Int32) (w_feltOf : Value) (w_feltBy : Value) (x_feltMany : Int32) (w_many : Value) (w_heardOf : Value) (w_heardBy : Value) (x_heardMany : Int32) (w_worth : Value) (x_drawn : Int32) (x_came : Int32) (w_kept : Value) (w_isKept : Value) (w_keptCame : Value) (f_undos : Nat → Int32) (f_now : Nat → Int32) (Post : Int32 → (Int32 × Int32 × (Nat → Int32)) → Prop) (hg : p_X8_undo F x_undoMany f_undos f_now Post) : MWi l D cT yX8_undo cX8_undo 2 (some .int) 0 0 0 0 [.ref h] [(h, oX8 (.ref q_now) (.int x_arches) (.int x_cats) w_text (.int x_typed) w_row (.int x_rowMany) (.int x_thrown) w_read (.int x_length) (.int x_top) (.int x_at) (.int x_wrong) w_told w_rule w_otherRule (.int x_ruleSize) (.int x_isAsked) w_asked (.ref q_undos) (.int x_undoMany) w_aside w_then w_hold (.int x_dropped) w_acts w_guarded w_train (.int x_trolleyEnd) w_feltOf w_feltBy (.int x_feltMany) w_many w_heardOf w_heardBy (.int x_heardMany) w_worth (.int x_drawn) (.int x_came) w_kept w_isKept w_keptCame), (q_undos, aI cT 564 f_undos), (q_now, aI cT 47 f_now)] Post (fun (u : (Int32 × Int32 × (Nat → Int32))) => [(h, oX8 (.ref q_now) (.int x_arches) (.int x_cats) w_text (.int x_typed) w_row (.int x_rowMany) (.int u.1) w_read (.int x_length) (.int x_top) (.int x_at) (.int x_wrong) w_told w_rule w_otherRule (.int x_ruleSize) (.int x_isAsked) w_asked (.ref q_undos) (.int u.2.1) w_aside w_then w_hold (.int x_dropped) w_acts w_guarded w_train (.int x_trolleyEnd) w_feltOf w_feltBy (.int x_feltMany) w_many w_heardOf w_heardBy (.int x_heardMany) w_worth (.int x_drawn) (.int x_came) w_kept w_isKept w_keptCame), (q_undos, aI cT 564 f_undos), (q_now, aI cT 47 u.2.2)]) := by
  refine MWi.of (by decide) (Nat.le_of_ble_eq_true rfl) ?_
  intro p e s m below meth c A hA C0 hnm hr hP hD ls hl
  have hl : lv_has ls 2 [(0, .ref h)] := hl
  have hx := C0.x
  have hb := C0.b
  have hS : va_S A s.heap s.heap [] := va_S.rf
  have hP : va_P D cls9 [(h, oX8 (.ref q_now) (.int x_arches) (.int x_cats) w_text (.int x_typed) w_row (.int x_rowMany) (.int x_thrown) w_read (.int x_length) (.int x_top) (.int x_at) (.int x_wrong) w_told w_rule w_otherRule (.int x_ruleSize) (.int x_isAsked) w_asked (.ref q_undos) (.int x_undoMany) w_aside w_then w_hold (.int x_dropped) w_acts w_guarded w_train (.int x_trolleyEnd) w_feltOf w_feltBy (.int x_feltMany) w_many w_heardOf w_heardBy (.int x_heardMany) w_worth (.int x_drawn) (.int x_came) w_kept w_isKept w_keptCame), (q_undos, aI cT 564 f_undos), (q_now, aI cT 47 f_now)] s.heap := hP
  have hD : va_D A [(h, oX8 (.ref q_now) (.int x_arches) (.int x_cats) w_text (.int x_typed) w_row (.int x_rowMany) (.int x_thrown) w_read (.int x_length) (.int x_top) (.int x_at) (.int x_wrong) w_told w_rule w_otherRule (.int x_ruleSize) (.int x_isAsked) w_asked (.ref q_undos) (.int x_undoMany) w_aside w_then w_hold (.int x_dropped) w_acts w_guarded w_train (.int x_trolleyEnd) w_feltOf w_feltBy (.int x_feltMany) w_many w_heardOf w_heardBy (.int x_heardMany) w_worth (.int x_drawn) (.int x_came) w_kept w_isKept w_keptCame), (q_undos, aI cT 564 f_undos), (q_now, aI cT 47 f_now)] := hD
  have L26 : ∀ (n26 : Nat) (y1_26 : Int32) (f_now_26 : Nat → Int32) (H : Heap) (locs : List Loc) (ls : Array Slot), p_X8_undo_26 F x_undoMany f_undos Post n26 y1_26 f_now_26 → va_P D cls9 [(h, oX8 (.ref q_now) (.int x_arches) (.int x_cats) w_text (.int x_typed) w_row (.int x_rowMany) (.int (0 : Int32)) w_read (.int x_length) (.int x_top) (.int x_at) (.int x_wrong) w_told w_rule w_otherRule (.int x_ruleSize) (.int x_isAsked) w_asked (.ref q_undos) (.int (x_undoMany - (1 : Int32))) w_aside w_then w_hold (.int x_dropped) w_acts w_guarded w_train (.int x_trolleyEnd) w_feltOf w_feltBy (.int x_feltMany) w_many w_heardOf w_heardBy (.int x_heardMany) w_worth (.int x_drawn) (.int x_came) w_kept w_isKept w_keptCame), (q_undos, aI cT 564 f_undos), (q_now, aI cT 47 f_now_26)] H → va_D A [(h, oX8 (.ref q_now) (.int x_arches) (.int x_cats) w_text (.int x_typed) w_row (.int x_rowMany) (.int (0 : Int32)) w_read (.int x_length) (.int x_top) (.int x_at) (.int x_wrong) w_told w_rule w_otherRule (.int x_ruleSize) (.int x_isAsked) w_asked (.ref q_undos) (.int (x_undoMany - (1 : Int32))) w_aside w_then w_hold (.int x_dropped) w_acts w_guarded w_train (.int x_trolleyEnd) w_feltOf w_feltBy (.int x_feltMany) w_many w_heardOf w_heardBy (.int x_heardMany) w_worth (.int x_drawn) (.int x_came) w_kept w_isKept w_keptCame), (q_undos, aI cT 564 f_undos), (q_now, aI cT 47 f_now_26)] → va_S A s.heap H locs → lv_has ls 2 [(0, .ref h), (1, .int y1_26)] → W p l e (rmO 0 0 0 0) s m ([.ref h] : List Value).toArray below meth c H locs 0 0 (MQ below (va_Qi Post (cB D A (fun (u : (Int32 × Int32 × (Nat → Int32))) => [(h, oX8 (.ref q_now) (.int x_arches) (.int x_cats) w_text (.int x_typed) w_row (.int x_rowMany) (.int u.1) w_read (.int x_length) (.int x_top) (.int x_at) (.int x_wrong) w_told w_rule w_otherRule (.int x_ruleSize) (.int x_isAsked) w_asked (.ref q_undos) (.int u.2.1) w_aside w_then w_hold (.int x_dropped) w_acts w_guarded w_train (.int x_trolleyEnd) w_feltOf w_feltBy (.int x_feltMany) w_many w_heardOf w_heardBy (.int x_heardMany) w_worth (.int x_drawn) (.int x_came) w_kept w_isKept w_keptCame), (q_undos, aI cT 564 f_undos), (q_now, aI cT 47 u.2.2)])) A) ([.ref h] : List Value).toArray s 0 0 A) (F0 m 26 ls []) := by
    intro n26
    induction n26 with
    | zero =>
      intro y1_26 f_now_26 H locs ls hg hP hD hS hl
      exact False.elim hg
    | succ n26 ih26 =>
      intro y1_26 f_now_26 H locs ls hg hP hD hS hl
      rw [p_X8_undo_26_s] at hg
      refine lv_iload_n hx hb dX8_undo_26 rfl (lv_at hl 1 rfl) ?_
      refine lv_bipush (v := (47 : Int32)) hx hb dX8_undo_27 (by decide) ?_
      refine lv_icmp_ge (tgt := 58) hx hb dX8_undo_29 (by decide) (fun c_29 => ?_) (fun c_29 => ?_)
      · have hg := hg.1 c_29
        refine lv_aload_n hx hb dX8_undo_58 rfl (lv_at hl 0 rfl) ?_
        refine gf_X8_141 C0 hP 0 rfl rfl dX8_undo_59 ?_
        exact k_iret C0 hr ((0 : Int32), (x_undoMany - (1 : Int32)), f_now_26) hg hP hD hS dX8_undo_62
      have hg := hg.2 c_29
      refine lv_aload_n hx hb dX8_undo_32 rfl (lv_at hl 0 rfl) ?_
      refine gf_X8_9 C0 hP 0 rfl rfl dX8_undo_33 ?_
      refine lv_iload_n hx hb dX8_undo_36 rfl (lv_at hl 1 rfl) ?_
      refine lv_aload_n hx hb dX8_undo_37 rfl (lv_at hl 0 rfl) ?_
      refine gf_X8_33 C0 hP 0 rfl rfl dX8_undo_38 ?_
      refine lv_bipush (v := (47 : Int32)) hx hb dX8_undo_41 (by decide) ?_
      refine lv_aload_n hx hb dX8_undo_43 rfl (lv_at hl 0 rfl) ?_
      refine gf_X8_141 C0 hP 0 rfl rfl dX8_undo_44 ?_
      refine lv_imul hx hb dX8_undo_47 ?_
      refine lv_iload_n hx hb dX8_undo_48 rfl (lv_at hl 1 rfl) ?_
      refine lv_iadd hx hb dX8_undo_49 ?_
      obtain ⟨g_50, hg⟩ := hg
      refine k_iald C0 hP 1 rfl g_50 dX8_undo_50 ?_
      obtain ⟨g_51, hg⟩ := hg
      refine k_iast C0 hP hD hS 2 rfl g_51 (ws' := [(h, oX8 (.ref q_now) (.int x_arches) (.int x_cats) w_text (.int x_typed) w_row (.int x_rowMany) (.int (0 : Int32)) w_read (.int x_length) (.int x_top) (.int x_at) (.int x_wrong) w_told w_rule w_otherRule (.int x_ruleSize) (.int x_isAsked) w_asked (.ref q_undos) (.int (x_undoMany - (1 : Int32))) w_aside w_then w_hold (.int x_dropped) w_acts w_guarded w_train (.int x_trolleyEnd) w_feltOf w_feltBy (.int x_feltMany) w_many w_heardOf w_heardBy (.int x_heardMany) w_worth (.int x_drawn) (.int x_came) w_kept w_isKept w_keptCame), (q_undos, aI cT 564 f_undos), (q_now, aI cT 47 (upd f_now_26 y1_26.toNatClampNeg (f_undos (((47 : Int32) * (x_undoMany - (1 : Int32))) + y1_26).toNatClampNeg)))]) rfl dX8_undo_51 (fun H locs hP hD hS => ?_)
      refine lv_iinc (v := (y1_26 + (1 : Int32))) (lv' := [(1, .int (y1_26 + (1 : Int32))), (0, .ref h)]) hx hb dX8_undo_52 hl (k := 1) rfl rfl (by decide) rfl (fun ls hl => ?_)
      refine lv_goto (tgt := 26) hx hb dX8_undo_55 (by decide) ?_
      exact ih26 (y1_26 + (1 : Int32)) (upd f_now_26 y1_26.toNatClampNeg (f_undos (((47 : Int32) * (x_undoMany - (1 : Int32))) + y1_26).toNatClampNeg)) _ _ _ hg hP hD hS (lv_sub hl [1, 0] rfl)
  unfold p_X8_undo at hg
  refine lv_aload_n hx hb dX8_undo_0 rfl (lv_at hl 0 rfl) ?_
  refine lv_iconst (v := (0 : Int32)) hx hb dX8_undo_1 (by decide) ?_
  refine pf_X8_82 C0 hP hD hS 0 rfl (Nat.le_of_ble_eq_true rfl) (ws2 := [(h, oX8 (.ref q_now) (.int x_arches) (.int x_cats) w_text (.int x_typed) w_row (.int x_rowMany) (.int (0 : Int32)) w_read (.int x_length) (.int x_top) (.int x_at) (.int x_wrong) w_told w_rule w_otherRule (.int x_ruleSize) (.int x_isAsked) w_asked (.ref q_undos) (.int x_undoMany) w_aside w_then w_hold (.int x_dropped) w_acts w_guarded w_train (.int x_trolleyEnd) w_feltOf w_feltBy (.int x_feltMany) w_many w_heardOf w_heardBy (.int x_heardMany) w_worth (.int x_drawn) (.int x_came) w_kept w_isKept w_keptCame), (q_undos, aI cT 564 f_undos), (q_now, aI cT 47 f_now)]) rfl dX8_undo_2 (fun H locs hP hD hS => ?_)
  refine lv_aload_n hx hb dX8_undo_5 rfl (lv_at hl 0 rfl) ?_
  refine gf_X8_141 C0 hP 0 rfl rfl dX8_undo_6 ?_
  refine lv_if_ne (tgt := 14) hx hb dX8_undo_9 (by decide) (fun c_9 => ?_) (fun c_9 => ?_)
  · have hg := hg.1 c_9
    refine lv_aload_n hx hb dX8_undo_14 rfl (lv_at hl 0 rfl) ?_
    refine lv_dup hx hb dX8_undo_15 rfl ?_
    refine gf_X8_141 C0 hP 0 rfl rfl dX8_undo_16 ?_
    refine lv_iconst (v := (1 : Int32)) hx hb dX8_undo_19 (by decide) ?_
    refine lv_isub hx hb dX8_undo_20 ?_
    refine pf_X8_141 C0 hP hD hS 0 rfl (Nat.le_of_ble_eq_true rfl) (ws2 := [(h, oX8 (.ref q_now) (.int x_arches) (.int x_cats) w_text (.int x_typed) w_row (.int x_rowMany) (.int (0 : Int32)) w_read (.int x_length) (.int x_top) (.int x_at) (.int x_wrong) w_told w_rule w_otherRule (.int x_ruleSize) (.int x_isAsked) w_asked (.ref q_undos) (.int (x_undoMany - (1 : Int32))) w_aside w_then w_hold (.int x_dropped) w_acts w_guarded w_train (.int x_trolleyEnd) w_feltOf w_feltBy (.int x_feltMany) w_many w_heardOf w_heardBy (.int x_heardMany) w_worth (.int x_drawn) (.int x_came) w_kept w_isKept w_keptCame), (q_undos, aI cT 564 f_undos), (q_now, aI cT 47 f_now)]) rfl dX8_undo_21 (fun H locs hP hD hS => ?_)
    refine lv_iconst (v := (0 : Int32)) hx hb dX8_undo_24 (by decide) ?_
    refine lv_istore_n (lv' := [(1, .int (0 : Int32)), (0, .ref h)]) hx hb dX8_undo_25 rfl hl (by decide) rfl (fun ls hl => ?_)
    exact L26 F (0 : Int32) f_now _ _ _ hg hP hD hS (lv_sub hl [1, 0] rfl)
  have hg := hg.2 c_9
  refine lv_iconst (v := (-1 : Int32)) hx hb dX8_undo_12 (by decide) ?_
  exact k_iret C0 hr ((0 : Int32), x_undoMany, f_now) hg hP hD hS dX8_undo_13
theorem dX8_lowest_0 : decode cX8_lowest 0 = .ok (.iconst 0, 1) := by decide +kernel
theorem dX8_lowest_1 : decode cX8_lowest 1 = .ok (.istore_n 2, 1) := by decide +kernel
theorem dX8_lowest_2 : decode cX8_lowest 2 = .ok (.iconst 0, 1) := by decide +kernel
theorem dX8_lowest_3 : decode cX8_lowest 3 = .ok (.istore_n 3, 1) := by decide +kernel
theorem dX8_lowest_4 : decode cX8_lowest 4 = .ok (.iload_n 3, 1) := by decide +kernel
theorem dX8_lowest_5 : decode cX8_lowest 5 = .ok (.aload_n 0, 1) := by decide +kernel
theorem dX8_lowest_6 : decode cX8_lowest 6 = .ok (.getfield 89, 3) := by decide +kernel
theorem dX8_lowest_9 : decode cX8_lowest 9 = .ok (.if_icmp .ge 30, 3) := by decide +kernel
theorem dX8_lowest_12 : decode cX8_lowest 12 = .ok (.iload_n 2, 1) := by decide +kernel
theorem dX8_lowest_13 : decode cX8_lowest 13 = .ok (.aload_n 1, 1) := by decide +kernel
theorem dX8_lowest_14 : decode cX8_lowest 14 = .ok (.bipush 6, 2) := by decide +kernel
theorem dX8_lowest_16 : decode cX8_lowest 16 = .ok (.iload_n 3, 1) := by decide +kernel
theorem dX8_lowest_17 : decode cX8_lowest 17 = .ok (.iadd, 1) := by decide +kernel
theorem dX8_lowest_18 : decode cX8_lowest 18 = .ok (.iaload, 1) := by decide +kernel
theorem dX8_lowest_19 : decode cX8_lowest 19 = .ok (.bipush 9, 2) := by decide +kernel
theorem dX8_lowest_21 : decode cX8_lowest 21 = .ok (.if_icmp .ne 9, 3) := by decide +kernel
theorem dX8_lowest_24 : decode cX8_lowest 24 = .ok (.iconst 1, 1) := by decide +kernel
theorem dX8_lowest_25 : decode cX8_lowest 25 = .ok (.iload_n 3, 1) := by decide +kernel
theorem dX8_lowest_26 : decode cX8_lowest 26 = .ok (.ishl, 1) := by decide +kernel
theorem dX8_lowest_27 : decode cX8_lowest 27 = .ok (.goto 4, 3) := by decide +kernel
theorem dX8_lowest_30 : decode cX8_lowest 30 = .ok (.iconst 0, 1) := by decide +kernel
theorem dX8_lowest_31 : decode cX8_lowest 31 = .ok (.ior, 1) := by decide +kernel
theorem dX8_lowest_32 : decode cX8_lowest 32 = .ok (.istore_n 2, 1) := by decide +kernel
theorem dX8_lowest_33 : decode cX8_lowest 33 = .ok (.iinc 3 1, 3) := by decide +kernel
theorem dX8_lowest_36 : decode cX8_lowest 36 = .ok (.goto (-32), 3) := by decide +kernel
theorem dX8_lowest_39 : decode cX8_lowest 39 = .ok (.iload_n 2, 1) := by decide +kernel
theorem dX8_lowest_40 : decode cX8_lowest 40 = .ok (.ireturn, 1) := by decide +kernel
def p_X8_lowest_31 (F : Nat) (y3_4 : Int32) (y2_4 : Int32) (k4 : Int32 → Int32 → Prop) (Post : Int32 → Prop) (s1_31 : Int32) : Prop := (k4 (y3_4 + (1 : Int32)) (y2_4 ||| s1_31))
noncomputable def p_X8_lowest_4 (F : Nat) (x_arches : Int32) (n_b1 : Nat) (f_b1 : Nat → Int32) (Post : Int32 → Prop) (n : Nat) : Int32 → Int32 → Prop := Nat.rec (motive := fun _ => Int32 → Int32 → Prop) (fun _ _ => False) (fun _ k4 => fun (y3_4 : Int32) (y2_4 : Int32) => ((x_arches ≤ y3_4 → (Post y2_4)) ∧ (¬ x_arches ≤ y3_4 → (vp_in ((6 : Int32) + y3_4) n_b1 ∧ ((¬ (f_b1 ((6 : Int32) + y3_4).toNatClampNeg) = (9 : Int32) → (p_X8_lowest_31 F y3_4 y2_4 k4 Post (0 : Int32))) ∧ ((f_b1 ((6 : Int32) + y3_4).toNatClampNeg) = (9 : Int32) → (p_X8_lowest_31 F y3_4 y2_4 k4 Post ((1 : Int32) <<< (y3_4 &&& 31))))))))) n
theorem p_X8_lowest_4_s (F : Nat) (x_arches : Int32) (n_b1 : Nat) (f_b1 : Nat → Int32) (Post : Int32 → Prop) (n : Nat) (y3_4 : Int32) (y2_4 : Int32) : p_X8_lowest_4 F x_arches n_b1 f_b1 Post (n + 1) y3_4 y2_4 = ((x_arches ≤ y3_4 → (Post y2_4)) ∧ (¬ x_arches ≤ y3_4 → (vp_in ((6 : Int32) + y3_4) n_b1 ∧ ((¬ (f_b1 ((6 : Int32) + y3_4).toNatClampNeg) = (9 : Int32) → (p_X8_lowest_31 F y3_4 y2_4 (p_X8_lowest_4 F x_arches n_b1 f_b1 Post n) Post (0 : Int32))) ∧ ((f_b1 ((6 : Int32) + y3_4).toNatClampNeg) = (9 : Int32) → (p_X8_lowest_31 F y3_4 y2_4 (p_X8_lowest_4 F x_arches n_b1 f_b1 Post n) Post ((1 : Int32) <<< (y3_4 &&& 31)))))))) := rfl
def p_X8_lowest (F : Nat) (x_arches : Int32) (n_b1 : Nat) (f_b1 : Nat → Int32) (Post : Int32 → Prop) : Prop := (p_X8_lowest_4 F x_arches n_b1 f_b1 Post F (0 : Int32) (0 : Int32))
set_option maxHeartbeats 4000000 in
set_option maxRecDepth 100000 in
theorem c_X8_lowest (l : Launch) (D : va_G) (cT : Nat → ClassId) (F : Nat) (h : Nat) (b1 : Nat) (w_now : Value) (x_arches : Int32) (x_cats : Int32) (w_text : Value) (x_typed : Int32) (w_row : Value) (x_rowMany : Int32) (x_thrown : Int32) (w_read : Value) (x_length : Int32) (x_top : Int32) (x_at : Int32) (x_wrong : Int32) (w_told : Value) (w_rule : Value) (w_otherRule : Value) (x_ruleSize : Int32) (x_isAsked : Int32) (w_asked : Value) (w_undos : Value) (x_undoMany : Int32) (w_aside : Value) (w_then : Value) (w_hold : Value) (x_dropped : Int32) (w_acts : Value) (w_guarded : Value) (w_train : Value) (x_trolleyEnd : Int32) (w_feltOf : Value) (w_feltBy : Value) (x_feltMany : Int32) (w_many : Value) (w_heardOf : Value) (w_heardBy : Value) (x_heardMany : Int32) (w_worth : Value) (x_drawn : Int32) (x_came : Int32) (w_kept : Value) (w_isKept : Value) (w_keptCame : Value) (n_b1 : Nat) (f_b1 : Nat → Int32) (Post : Int32 → Prop) (hg : p_X8_lowest F x_arches n_b1 f_b1 Post) : MRi l D cT yX8_lowest cX8_lowest 4 (some .int) 0 0 [.ref h, .ref b1] [(h, oX8 w_now (.int x_arches) (.int x_cats) w_text (.int x_typed) w_row (.int x_rowMany) (.int x_thrown) w_read (.int x_length) (.int x_top) (.int x_at) (.int x_wrong) w_told w_rule w_otherRule (.int x_ruleSize) (.int x_isAsked) w_asked w_undos (.int x_undoMany) w_aside w_then w_hold (.int x_dropped) w_acts w_guarded w_train (.int x_trolleyEnd) w_feltOf w_feltBy (.int x_feltMany) w_many w_heardOf w_heardBy (.int x_heardMany) w_worth (.int x_drawn) (.int x_came) w_kept w_isKept w_keptCame), (b1, aI cT n_b1 f_b1)] Post := by
  refine MRi.of (by decide) (Nat.le_of_ble_eq_true rfl) ?_
  intro p e s m below meth c C0 hr hP hD ls hl
  have hl : lv_has ls 4 [(0, .ref h), (1, .ref b1)] := hl
  have hx := C0.x
  have hb := C0.b
  have hP : va_P D cls9 [(h, oX8 w_now (.int x_arches) (.int x_cats) w_text (.int x_typed) w_row (.int x_rowMany) (.int x_thrown) w_read (.int x_length) (.int x_top) (.int x_at) (.int x_wrong) w_told w_rule w_otherRule (.int x_ruleSize) (.int x_isAsked) w_asked w_undos (.int x_undoMany) w_aside w_then w_hold (.int x_dropped) w_acts w_guarded w_train (.int x_trolleyEnd) w_feltOf w_feltBy (.int x_feltMany) w_many w_heardOf w_heardBy (.int x_heardMany) w_worth (.int x_drawn) (.int x_came) w_kept w_isKept w_keptCame), (b1, aI cT n_b1 f_b1)] s.heap := hP
  have hD : va_D (fun _ => True) [(h, oX8 w_now (.int x_arches) (.int x_cats) w_text (.int x_typed) w_row (.int x_rowMany) (.int x_thrown) w_read (.int x_length) (.int x_top) (.int x_at) (.int x_wrong) w_told w_rule w_otherRule (.int x_ruleSize) (.int x_isAsked) w_asked w_undos (.int x_undoMany) w_aside w_then w_hold (.int x_dropped) w_acts w_guarded w_train (.int x_trolleyEnd) w_feltOf w_feltBy (.int x_feltMany) w_many w_heardOf w_heardBy (.int x_heardMany) w_worth (.int x_drawn) (.int x_came) w_kept w_isKept w_keptCame), (b1, aI cT n_b1 f_b1)] := hD
  have L4 : ∀ (n4 : Nat) (y3_4 : Int32) (y2_4 : Int32) (ls : Array Slot), p_X8_lowest_4 F x_arches n_b1 f_b1 Post n4 y3_4 y2_4 → lv_has ls 4 [(0, .ref h), (1, .ref b1), (2, .int y2_4), (3, .int y3_4)] → W p l e (rmO 0 0 0 0) s m ([.ref h, .ref b1] : List Value).toArray below meth c s.heap [] 0 0 (MQ below (vp_Si Post) ([.ref h, .ref b1] : List Value).toArray s 0 0 (fun _ => False)) (F0 m 4 ls []) := by
    intro n4
    induction n4 with
    | zero =>
      intro y3_4 y2_4 ls hg hl
      exact False.elim hg
    | succ n4 ih4 =>
      have L31 : ∀ (y3_4 : Int32) (y2_4 : Int32) (s1_31 : Int32) (ls : Array Slot), p_X8_lowest_31 F y3_4 y2_4 (p_X8_lowest_4 F x_arches n_b1 f_b1 Post n4) Post s1_31 → lv_has ls 4 [(0, .ref h), (1, .ref b1), (3, .int y3_4)] → W p l e (rmO 0 0 0 0) s m ([.ref h, .ref b1] : List Value).toArray below meth c s.heap [] 0 0 (MQ below (vp_Si Post) ([.ref h, .ref b1] : List Value).toArray s 0 0 (fun _ => False)) (F0 m 31 ls [.int s1_31, .int y2_4]) := by
        intro y3_4 y2_4 s1_31 ls hg hl
        unfold p_X8_lowest_31 at hg
        refine lv_ior hx hb dX8_lowest_31 ?_
        refine lv_istore_n (lv' := [(2, .int (y2_4 ||| s1_31)), (0, .ref h), (1, .ref b1), (3, .int y3_4)]) hx hb dX8_lowest_32 rfl hl (by decide) rfl (fun ls hl => ?_)
        refine lv_iinc (v := (y3_4 + (1 : Int32))) (lv' := [(3, .int (y3_4 + (1 : Int32))), (2, .int (y2_4 ||| s1_31)), (0, .ref h), (1, .ref b1)]) hx hb dX8_lowest_33 hl (k := 3) rfl rfl (by decide) rfl (fun ls hl => ?_)
        refine lv_goto (tgt := 4) hx hb dX8_lowest_36 (by decide) ?_
        exact ih4 (y3_4 + (1 : Int32)) (y2_4 ||| s1_31) _ hg (lv_sub hl [2, 3, 1, 0] rfl)
      intro y3_4 y2_4 ls hg hl
      rw [p_X8_lowest_4_s] at hg
      refine lv_iload_n hx hb dX8_lowest_4 rfl (lv_at hl 3 rfl) ?_
      refine lv_aload_n hx hb dX8_lowest_5 rfl (lv_at hl 0 rfl) ?_
      refine gf_X8_89 C0 hP 0 rfl rfl dX8_lowest_6 ?_
      refine lv_icmp_ge (tgt := 39) hx hb dX8_lowest_9 (by decide) (fun c_9 => ?_) (fun c_9 => ?_)
      · have hg := hg.1 c_9
        refine lv_iload_n hx hb dX8_lowest_39 rfl (lv_at hl 2 rfl) ?_
        exact k_xiret C0 hr hg dX8_lowest_40
      have hg := hg.2 c_9
      refine lv_iload_n hx hb dX8_lowest_12 rfl (lv_at hl 2 rfl) ?_
      refine lv_aload_n hx hb dX8_lowest_13 rfl (lv_at hl 1 rfl) ?_
      refine lv_bipush (v := (6 : Int32)) hx hb dX8_lowest_14 (by decide) ?_
      refine lv_iload_n hx hb dX8_lowest_16 rfl (lv_at hl 3 rfl) ?_
      refine lv_iadd hx hb dX8_lowest_17 ?_
      obtain ⟨g_18, hg⟩ := hg
      refine k_iald C0 hP 1 rfl g_18 dX8_lowest_18 ?_
      refine lv_bipush (v := (9 : Int32)) hx hb dX8_lowest_19 (by decide) ?_
      refine lv_icmp_ne (tgt := 30) hx hb dX8_lowest_21 (by decide) (fun c_21 => ?_) (fun c_21 => ?_)
      · have hg := hg.1 c_21
        refine lv_iconst (v := (0 : Int32)) hx hb dX8_lowest_30 (by decide) ?_
        exact L31 y3_4 y2_4 (0 : Int32) _ hg (lv_sub hl [0, 1, 3] rfl)
      have hg := hg.2 c_21
      refine lv_iconst (v := (1 : Int32)) hx hb dX8_lowest_24 (by decide) ?_
      refine lv_iload_n hx hb dX8_lowest_25 rfl (lv_at hl 3 rfl) ?_
      refine lv_ishl hx hb dX8_lowest_26 ?_
      refine lv_goto (tgt := 31) hx hb dX8_lowest_27 (by decide) ?_
      exact L31 y3_4 y2_4 ((1 : Int32) <<< (y3_4 &&& 31)) _ hg (lv_sub hl [0, 1, 3] rfl)
  unfold p_X8_lowest at hg
  refine lv_iconst (v := (0 : Int32)) hx hb dX8_lowest_0 (by decide) ?_
  refine lv_istore_n (lv' := [(2, .int (0 : Int32)), (0, .ref h), (1, .ref b1)]) hx hb dX8_lowest_1 rfl hl (by decide) rfl (fun ls hl => ?_)
  refine lv_iconst (v := (0 : Int32)) hx hb dX8_lowest_2 (by decide) ?_
  refine lv_istore_n (lv' := [(3, .int (0 : Int32)), (2, .int (0 : Int32)), (0, .ref h), (1, .ref b1)]) hx hb dX8_lowest_3 rfl hl (by decide) rfl (fun ls hl => ?_)
  exact L4 F (0 : Int32) (0 : Int32) _ hg (lv_sub hl [2, 3, 1, 0] rfl)
theorem dX8_goTrolley_0 : decode cX8_goTrolley 0 = .ok (.iconst (-1), 1) := by decide +kernel
theorem dX8_goTrolley_1 : decode cX8_goTrolley 1 = .ok (.istore_n 2, 1) := by decide +kernel
theorem dX8_goTrolley_2 : decode cX8_goTrolley 2 = .ok (.iconst (-1), 1) := by decide +kernel
theorem dX8_goTrolley_3 : decode cX8_goTrolley 3 = .ok (.istore_n 3, 1) := by decide +kernel
theorem dX8_goTrolley_4 : decode cX8_goTrolley 4 = .ok (.iconst 0, 1) := by decide +kernel
theorem dX8_goTrolley_5 : decode cX8_goTrolley 5 = .ok (.istore 4, 2) := by decide +kernel
theorem dX8_goTrolley_7 : decode cX8_goTrolley 7 = .ok (.iload 4, 2) := by decide +kernel
theorem dX8_goTrolley_9 : decode cX8_goTrolley 9 = .ok (.aload_n 0, 1) := by decide +kernel
theorem dX8_goTrolley_10 : decode cX8_goTrolley 10 = .ok (.getfield 89, 3) := by decide +kernel
theorem dX8_goTrolley_13 : decode cX8_goTrolley 13 = .ok (.if_icmp .ge 40, 3) := by decide +kernel
theorem dX8_goTrolley_16 : decode cX8_goTrolley 16 = .ok (.aload_n 0, 1) := by decide +kernel
theorem dX8_goTrolley_17 : decode cX8_goTrolley 17 = .ok (.getfield 9, 3) := by decide +kernel
theorem dX8_goTrolley_20 : decode cX8_goTrolley 20 = .ok (.bipush 6, 2) := by decide +kernel
theorem dX8_goTrolley_22 : decode cX8_goTrolley 22 = .ok (.iload 4, 2) := by decide +kernel
theorem dX8_goTrolley_24 : decode cX8_goTrolley 24 = .ok (.iadd, 1) := by decide +kernel
theorem dX8_goTrolley_25 : decode cX8_goTrolley 25 = .ok (.iaload, 1) := by decide +kernel
theorem dX8_goTrolley_26 : decode cX8_goTrolley 26 = .ok (.ifCond .ne 6, 3) := by decide +kernel
theorem dX8_goTrolley_29 : decode cX8_goTrolley 29 = .ok (.goto 18, 3) := by decide +kernel
theorem dX8_goTrolley_32 : decode cX8_goTrolley 32 = .ok (.iload_n 2, 1) := by decide +kernel
theorem dX8_goTrolley_33 : decode cX8_goTrolley 33 = .ok (.iconst (-1), 1) := by decide +kernel
theorem dX8_goTrolley_34 : decode cX8_goTrolley 34 = .ok (.if_icmp .ne 8, 3) := by decide +kernel
theorem dX8_goTrolley_37 : decode cX8_goTrolley 37 = .ok (.iload 4, 2) := by decide +kernel
theorem dX8_goTrolley_39 : decode cX8_goTrolley 39 = .ok (.goto 4, 3) := by decide +kernel
theorem dX8_goTrolley_42 : decode cX8_goTrolley 42 = .ok (.iload_n 2, 1) := by decide +kernel
theorem dX8_goTrolley_43 : decode cX8_goTrolley 43 = .ok (.istore_n 2, 1) := by decide +kernel
theorem dX8_goTrolley_44 : decode cX8_goTrolley 44 = .ok (.iload 4, 2) := by decide +kernel
theorem dX8_goTrolley_46 : decode cX8_goTrolley 46 = .ok (.istore_n 3, 1) := by decide +kernel
theorem dX8_goTrolley_47 : decode cX8_goTrolley 47 = .ok (.iinc 4 1, 3) := by decide +kernel
theorem dX8_goTrolley_50 : decode cX8_goTrolley 50 = .ok (.goto (-43), 3) := by decide +kernel
theorem dX8_goTrolley_53 : decode cX8_goTrolley 53 = .ok (.aload_n 0, 1) := by decide +kernel
theorem dX8_goTrolley_54 : decode cX8_goTrolley 54 = .ok (.iload_n 1, 1) := by decide +kernel
theorem dX8_goTrolley_55 : decode cX8_goTrolley 55 = .ok (.putfield 320, 3) := by decide +kernel
theorem dX8_goTrolley_58 : decode cX8_goTrolley 58 = .ok (.iload_n 2, 1) := by decide +kernel
theorem dX8_goTrolley_59 : decode cX8_goTrolley 59 = .ok (.iconst (-1), 1) := by decide +kernel
theorem dX8_goTrolley_60 : decode cX8_goTrolley 60 = .ok (.if_icmp .ne 5, 3) := by decide +kernel
theorem dX8_goTrolley_63 : decode cX8_goTrolley 63 = .ok (.iconst 0, 1) := by decide +kernel
theorem dX8_goTrolley_64 : decode cX8_goTrolley 64 = .ok (.ireturn, 1) := by decide +kernel
theorem dX8_goTrolley_65 : decode cX8_goTrolley 65 = .ok (.iload_n 1, 1) := by decide +kernel
theorem dX8_goTrolley_66 : decode cX8_goTrolley 66 = .ok (.iload_n 1, 1) := by decide +kernel
theorem dX8_goTrolley_67 : decode cX8_goTrolley 67 = .ok (.iload_n 2, 1) := by decide +kernel
theorem dX8_goTrolley_68 : decode cX8_goTrolley 68 = .ok (.invokestatic 189, 3) := by decide +kernel
theorem dX8_goTrolley_71 : decode cX8_goTrolley 71 = .ok (.isub, 1) := by decide +kernel
theorem dX8_goTrolley_72 : decode cX8_goTrolley 72 = .ok (.invokestatic 277, 3) := by decide +kernel
theorem dX8_goTrolley_75 : decode cX8_goTrolley 75 = .ok (.iload_n 3, 1) := by decide +kernel
theorem dX8_goTrolley_76 : decode cX8_goTrolley 76 = .ok (.iadd, 1) := by decide +kernel
theorem dX8_goTrolley_77 : decode cX8_goTrolley 77 = .ok (.iload_n 1, 1) := by decide +kernel
theorem dX8_goTrolley_78 : decode cX8_goTrolley 78 = .ok (.iload_n 2, 1) := by decide +kernel
theorem dX8_goTrolley_79 : decode cX8_goTrolley 79 = .ok (.invokestatic 189, 3) := by decide +kernel
theorem dX8_goTrolley_82 : decode cX8_goTrolley 82 = .ok (.isub, 1) := by decide +kernel
theorem dX8_goTrolley_83 : decode cX8_goTrolley 83 = .ok (.istore 4, 2) := by decide +kernel
theorem dX8_goTrolley_85 : decode cX8_goTrolley 85 = .ok (.iload_n 1, 1) := by decide +kernel
theorem dX8_goTrolley_86 : decode cX8_goTrolley 86 = .ok (.iload_n 3, 1) := by decide +kernel
theorem dX8_goTrolley_87 : decode cX8_goTrolley 87 = .ok (.invokestatic 195, 3) := by decide +kernel
theorem dX8_goTrolley_90 : decode cX8_goTrolley 90 = .ok (.iload_n 1, 1) := by decide +kernel
theorem dX8_goTrolley_91 : decode cX8_goTrolley 91 = .ok (.isub, 1) := by decide +kernel
theorem dX8_goTrolley_92 : decode cX8_goTrolley 92 = .ok (.invokestatic 277, 3) := by decide +kernel
theorem dX8_goTrolley_95 : decode cX8_goTrolley 95 = .ok (.iload_n 1, 1) := by decide +kernel
theorem dX8_goTrolley_96 : decode cX8_goTrolley 96 = .ok (.iload_n 3, 1) := by decide +kernel
theorem dX8_goTrolley_97 : decode cX8_goTrolley 97 = .ok (.invokestatic 195, 3) := by decide +kernel
theorem dX8_goTrolley_100 : decode cX8_goTrolley 100 = .ok (.iadd, 1) := by decide +kernel
theorem dX8_goTrolley_101 : decode cX8_goTrolley 101 = .ok (.iload_n 2, 1) := by decide +kernel
theorem dX8_goTrolley_102 : decode cX8_goTrolley 102 = .ok (.isub, 1) := by decide +kernel
theorem dX8_goTrolley_103 : decode cX8_goTrolley 103 = .ok (.istore 5, 2) := by decide +kernel
theorem dX8_goTrolley_105 : decode cX8_goTrolley 105 = .ok (.iload_n 1, 1) := by decide +kernel
theorem dX8_goTrolley_106 : decode cX8_goTrolley 106 = .ok (.iload_n 2, 1) := by decide +kernel
theorem dX8_goTrolley_107 : decode cX8_goTrolley 107 = .ok (.if_icmp .gt 9, 3) := by decide +kernel
theorem dX8_goTrolley_110 : decode cX8_goTrolley 110 = .ok (.iload_n 3, 1) := by decide +kernel
theorem dX8_goTrolley_111 : decode cX8_goTrolley 111 = .ok (.iload_n 1, 1) := by decide +kernel
theorem dX8_goTrolley_112 : decode cX8_goTrolley 112 = .ok (.isub, 1) := by decide +kernel
theorem dX8_goTrolley_113 : decode cX8_goTrolley 113 = .ok (.goto 5, 3) := by decide +kernel
theorem dX8_goTrolley_116 : decode cX8_goTrolley 116 = .ok (.iload 4, 2) := by decide +kernel
theorem dX8_goTrolley_118 : decode cX8_goTrolley 118 = .ok (.istore 6, 2) := by decide +kernel
theorem dX8_goTrolley_120 : decode cX8_goTrolley 120 = .ok (.iload_n 1, 1) := by decide +kernel
theorem dX8_goTrolley_121 : decode cX8_goTrolley 121 = .ok (.iload_n 3, 1) := by decide +kernel
theorem dX8_goTrolley_122 : decode cX8_goTrolley 122 = .ok (.if_icmp .lt 9, 3) := by decide +kernel
theorem dX8_goTrolley_125 : decode cX8_goTrolley 125 = .ok (.iload_n 1, 1) := by decide +kernel
theorem dX8_goTrolley_126 : decode cX8_goTrolley 126 = .ok (.iload_n 2, 1) := by decide +kernel
theorem dX8_goTrolley_127 : decode cX8_goTrolley 127 = .ok (.isub, 1) := by decide +kernel
theorem dX8_goTrolley_128 : decode cX8_goTrolley 128 = .ok (.goto 5, 3) := by decide +kernel
theorem dX8_goTrolley_131 : decode cX8_goTrolley 131 = .ok (.iload 5, 2) := by decide +kernel
theorem dX8_goTrolley_133 : decode cX8_goTrolley 133 = .ok (.istore 7, 2) := by decide +kernel
theorem dX8_goTrolley_135 : decode cX8_goTrolley 135 = .ok (.aload_n 0, 1) := by decide +kernel
theorem dX8_goTrolley_136 : decode cX8_goTrolley 136 = .ok (.iload 7, 2) := by decide +kernel
theorem dX8_goTrolley_138 : decode cX8_goTrolley 138 = .ok (.iload 6, 2) := by decide +kernel
theorem dX8_goTrolley_140 : decode cX8_goTrolley 140 = .ok (.if_icmp .gt 7, 3) := by decide +kernel
theorem dX8_goTrolley_143 : decode cX8_goTrolley 143 = .ok (.iload_n 2, 1) := by decide +kernel
theorem dX8_goTrolley_144 : decode cX8_goTrolley 144 = .ok (.goto 4, 3) := by decide +kernel
theorem dX8_goTrolley_147 : decode cX8_goTrolley 147 = .ok (.iload_n 3, 1) := by decide +kernel
theorem dX8_goTrolley_148 : decode cX8_goTrolley 148 = .ok (.putfield 320, 3) := by decide +kernel
theorem dX8_goTrolley_151 : decode cX8_goTrolley 151 = .ok (.iload 7, 2) := by decide +kernel
theorem dX8_goTrolley_153 : decode cX8_goTrolley 153 = .ok (.iload 6, 2) := by decide +kernel
theorem dX8_goTrolley_155 : decode cX8_goTrolley 155 = .ok (.invokestatic 189, 3) := by decide +kernel
theorem dX8_goTrolley_158 : decode cX8_goTrolley 158 = .ok (.ireturn, 1) := by decide +kernel
def p_X8_goTrolley_148 (F : Nat) (s0_118 : Int32) (s0_133 : Int32) (Post : Int32 → Int32 → Prop) (s1_148 : Int32) : Prop := (Post (if s0_118 < s0_133 then s0_118 else s0_133) s1_148)
def p_X8_goTrolley_133 (F : Nat) (s0_118 : Int32) (y3_7 : Int32) (y2_7 : Int32) (Post : Int32 → Int32 → Prop) (s0_133 : Int32) : Prop := ((s0_118 < s0_133 → (p_X8_goTrolley_148 F s0_118 s0_133 Post y3_7)) ∧ (¬ s0_118 < s0_133 → (p_X8_goTrolley_148 F s0_118 s0_133 Post y2_7)))
def p_X8_goTrolley_118 (F : Nat) (p1 : Int32) (y3_7 : Int32) (y2_7 : Int32) (Post : Int32 → Int32 → Prop) (s0_118 : Int32) : Prop := ((p1 < y3_7 → (p_X8_goTrolley_133 F s0_118 y3_7 y2_7 Post (((if 0 ≤ ((if p1 < y3_7 then y3_7 else p1) - p1) then ((if p1 < y3_7 then y3_7 else p1) - p1) else 0 - ((if p1 < y3_7 then y3_7 else p1) - p1)) + (if p1 < y3_7 then y3_7 else p1)) - y2_7))) ∧ (¬ p1 < y3_7 → (p_X8_goTrolley_133 F s0_118 y3_7 y2_7 Post (p1 - y2_7))))
def p_X8_goTrolley_47 (F : Nat) (y4_7 : Int32) (k7 : Int32 → Int32 → Int32 → Prop) (Post : Int32 → Int32 → Prop) (y2_47 : Int32) (y3_47 : Int32) : Prop := (k7 (y4_7 + (1 : Int32)) y3_47 y2_47)
def p_X8_goTrolley_43 (F : Nat) (y4_7 : Int32) (k7 : Int32 → Int32 → Int32 → Prop) (Post : Int32 → Int32 → Prop) (s0_43 : Int32) : Prop := (p_X8_goTrolley_47 F y4_7 k7 Post s0_43 y4_7)
noncomputable def p_X8_goTrolley_7 (F : Nat) (p1 : Int32) (x_arches : Int32) (f_now : Nat → Int32) (Post : Int32 → Int32 → Prop) (n : Nat) : Int32 → Int32 → Int32 → Prop := Nat.rec (motive := fun _ => Int32 → Int32 → Int32 → Prop) (fun _ _ _ => False) (fun _ k7 => fun (y4_7 : Int32) (y3_7 : Int32) (y2_7 : Int32) => ((x_arches ≤ y4_7 → ((¬ y2_7 = (-1 : Int32) → ((y2_7 < p1 → (p_X8_goTrolley_118 F p1 y3_7 y2_7 Post (((if 0 ≤ (p1 - (if y2_7 < p1 then y2_7 else p1)) then (p1 - (if y2_7 < p1 then y2_7 else p1)) else 0 - (p1 - (if y2_7 < p1 then y2_7 else p1))) + y3_7) - (if y2_7 < p1 then y2_7 else p1)))) ∧ (¬ y2_7 < p1 → (p_X8_goTrolley_118 F p1 y3_7 y2_7 Post (y3_7 - p1))))) ∧ (y2_7 = (-1 : Int32) → (Post (0 : Int32) p1)))) ∧ (¬ x_arches ≤ y4_7 → (vp_in ((6 : Int32) + y4_7) 47 ∧ ((¬ (f_now ((6 : Int32) + y4_7).toNatClampNeg) = 0 → ((¬ y2_7 = (-1 : Int32) → (p_X8_goTrolley_43 F y4_7 k7 Post y2_7)) ∧ (y2_7 = (-1 : Int32) → (p_X8_goTrolley_43 F y4_7 k7 Post y4_7)))) ∧ ((f_now ((6 : Int32) + y4_7).toNatClampNeg) = 0 → (p_X8_goTrolley_47 F y4_7 k7 Post y2_7 y3_7))))))) n
theorem p_X8_goTrolley_7_s (F : Nat) (p1 : Int32) (x_arches : Int32) (f_now : Nat → Int32) (Post : Int32 → Int32 → Prop) (n : Nat) (y4_7 : Int32) (y3_7 : Int32) (y2_7 : Int32) : p_X8_goTrolley_7 F p1 x_arches f_now Post (n + 1) y4_7 y3_7 y2_7 = ((x_arches ≤ y4_7 → ((¬ y2_7 = (-1 : Int32) → ((y2_7 < p1 → (p_X8_goTrolley_118 F p1 y3_7 y2_7 Post (((if 0 ≤ (p1 - (if y2_7 < p1 then y2_7 else p1)) then (p1 - (if y2_7 < p1 then y2_7 else p1)) else 0 - (p1 - (if y2_7 < p1 then y2_7 else p1))) + y3_7) - (if y2_7 < p1 then y2_7 else p1)))) ∧ (¬ y2_7 < p1 → (p_X8_goTrolley_118 F p1 y3_7 y2_7 Post (y3_7 - p1))))) ∧ (y2_7 = (-1 : Int32) → (Post (0 : Int32) p1)))) ∧ (¬ x_arches ≤ y4_7 → (vp_in ((6 : Int32) + y4_7) 47 ∧ ((¬ (f_now ((6 : Int32) + y4_7).toNatClampNeg) = 0 → ((¬ y2_7 = (-1 : Int32) → (p_X8_goTrolley_43 F y4_7 (p_X8_goTrolley_7 F p1 x_arches f_now Post n) Post y2_7)) ∧ (y2_7 = (-1 : Int32) → (p_X8_goTrolley_43 F y4_7 (p_X8_goTrolley_7 F p1 x_arches f_now Post n) Post y4_7)))) ∧ ((f_now ((6 : Int32) + y4_7).toNatClampNeg) = 0 → (p_X8_goTrolley_47 F y4_7 (p_X8_goTrolley_7 F p1 x_arches f_now Post n) Post y2_7 y3_7)))))) := rfl
def p_X8_goTrolley (F : Nat) (p1 : Int32) (x_arches : Int32) (f_now : Nat → Int32) (Post : Int32 → Int32 → Prop) : Prop := (p_X8_goTrolley_7 F p1 x_arches f_now Post F (0 : Int32) (-1 : Int32) (-1 : Int32))
set_option maxHeartbeats 4000000 in
set_option maxRecDepth 100000 in
theorem c_X8_goTrolley (l : Launch) (D : va_G) (cT : Nat → ClassId) (F : Nat) (h : Nat) (p1 : Int32) (q_now : Nat) (x_arches : Int32) (x_cats : Int32) (w_text : Value) (x_typed : Int32) (w_row : Value) (x_rowMany : Int32) (x_thrown : Int32) (w_read : Value) (x_length : Int32) (x_top : Int32) (x_at : Int32) (x_wrong : Int32) (w_told : Value) (w_rule : Value) (w_otherRule : Value) (x_ruleSize : Int32) (x_isAsked : Int32) (w_asked : Value) (w_undos : Value) (x_undoMany : Int32) (w_aside : Value) (w_then : Value) (w_hold : Value) (x_dropped : Int32) (w_acts : Value) (w_guarded : Value) (w_train : Value) (x_trolleyEnd : Int32) (w_feltOf : Value) (w_feltBy : Value) (x_feltMany : Int32) (w_many : Value) (w_heardOf : Value) (w_heardBy : Value) (x_heardMany : Int32) (w_worth : Value) (x_drawn : Int32) (x_came : Int32) (w_kept : Value) (w_isKept : Value) (w_keptCame : Value) (f_now : Nat → Int32) (Post : Int32 → Int32 → Prop) (hg : p_X8_goTrolley F p1 x_arches f_now Post) : MWi l D cT yX8_goTrolley cX8_goTrolley 8 (some .int) 1 30 0 0 [.ref h, .int p1] [(h, oX8 (.ref q_now) (.int x_arches) (.int x_cats) w_text (.int x_typed) w_row (.int x_rowMany) (.int x_thrown) w_read (.int x_length) (.int x_top) (.int x_at) (.int x_wrong) w_told w_rule w_otherRule (.int x_ruleSize) (.int x_isAsked) w_asked w_undos (.int x_undoMany) w_aside w_then w_hold (.int x_dropped) w_acts w_guarded w_train (.int x_trolleyEnd) w_feltOf w_feltBy (.int x_feltMany) w_many w_heardOf w_heardBy (.int x_heardMany) w_worth (.int x_drawn) (.int x_came) w_kept w_isKept w_keptCame), (q_now, aI cT 47 f_now)] Post (fun (u : Int32) => [(h, oX8 (.ref q_now) (.int x_arches) (.int x_cats) w_text (.int x_typed) w_row (.int x_rowMany) (.int x_thrown) w_read (.int x_length) (.int x_top) (.int x_at) (.int x_wrong) w_told w_rule w_otherRule (.int x_ruleSize) (.int x_isAsked) w_asked w_undos (.int x_undoMany) w_aside w_then w_hold (.int x_dropped) w_acts w_guarded w_train (.int u) w_feltOf w_feltBy (.int x_feltMany) w_many w_heardOf w_heardBy (.int x_heardMany) w_worth (.int x_drawn) (.int x_came) w_kept w_isKept w_keptCame), (q_now, aI cT 47 f_now)]) := by
  refine MWi.of (by decide) (Nat.le_of_ble_eq_true rfl) ?_
  intro p e s m below meth c A hA C0 hnm hr hP hD ls hl
  have hl : lv_has ls 8 [(0, .ref h), (1, .int p1)] := hl
  have hx := C0.x
  have hb := C0.b
  have hS : va_S A s.heap s.heap [] := va_S.rf
  have hP : va_P D cls9 [(h, oX8 (.ref q_now) (.int x_arches) (.int x_cats) w_text (.int x_typed) w_row (.int x_rowMany) (.int x_thrown) w_read (.int x_length) (.int x_top) (.int x_at) (.int x_wrong) w_told w_rule w_otherRule (.int x_ruleSize) (.int x_isAsked) w_asked w_undos (.int x_undoMany) w_aside w_then w_hold (.int x_dropped) w_acts w_guarded w_train (.int x_trolleyEnd) w_feltOf w_feltBy (.int x_feltMany) w_many w_heardOf w_heardBy (.int x_heardMany) w_worth (.int x_drawn) (.int x_came) w_kept w_isKept w_keptCame), (q_now, aI cT 47 f_now)] s.heap := hP
  have hD : va_D A [(h, oX8 (.ref q_now) (.int x_arches) (.int x_cats) w_text (.int x_typed) w_row (.int x_rowMany) (.int x_thrown) w_read (.int x_length) (.int x_top) (.int x_at) (.int x_wrong) w_told w_rule w_otherRule (.int x_ruleSize) (.int x_isAsked) w_asked w_undos (.int x_undoMany) w_aside w_then w_hold (.int x_dropped) w_acts w_guarded w_train (.int x_trolleyEnd) w_feltOf w_feltBy (.int x_feltMany) w_many w_heardOf w_heardBy (.int x_heardMany) w_worth (.int x_drawn) (.int x_came) w_kept w_isKept w_keptCame), (q_now, aI cT 47 f_now)] := hD
  have L148 : ∀ (s0_118 : Int32) (s0_133 : Int32) (s1_148 : Int32) (H : Heap) (locs : List Loc) (ls : Array Slot), p_X8_goTrolley_148 F s0_118 s0_133 Post s1_148 → va_P D cls9 [(h, oX8 (.ref q_now) (.int x_arches) (.int x_cats) w_text (.int x_typed) w_row (.int x_rowMany) (.int x_thrown) w_read (.int x_length) (.int x_top) (.int x_at) (.int x_wrong) w_told w_rule w_otherRule (.int x_ruleSize) (.int x_isAsked) w_asked w_undos (.int x_undoMany) w_aside w_then w_hold (.int x_dropped) w_acts w_guarded w_train (.int p1) w_feltOf w_feltBy (.int x_feltMany) w_many w_heardOf w_heardBy (.int x_heardMany) w_worth (.int x_drawn) (.int x_came) w_kept w_isKept w_keptCame), (q_now, aI cT 47 f_now)] H → va_D A [(h, oX8 (.ref q_now) (.int x_arches) (.int x_cats) w_text (.int x_typed) w_row (.int x_rowMany) (.int x_thrown) w_read (.int x_length) (.int x_top) (.int x_at) (.int x_wrong) w_told w_rule w_otherRule (.int x_ruleSize) (.int x_isAsked) w_asked w_undos (.int x_undoMany) w_aside w_then w_hold (.int x_dropped) w_acts w_guarded w_train (.int p1) w_feltOf w_feltBy (.int x_feltMany) w_many w_heardOf w_heardBy (.int x_heardMany) w_worth (.int x_drawn) (.int x_came) w_kept w_isKept w_keptCame), (q_now, aI cT 47 f_now)] → va_S A s.heap H locs → lv_has ls 8 [(6, .int s0_118), (7, .int s0_133)] → W p l e (rmO 1 30 0 0) s m ([.ref h, .int p1] : List Value).toArray below meth c H locs 0 0 (MQ below (va_Qi Post (cB D A (fun (u : Int32) => [(h, oX8 (.ref q_now) (.int x_arches) (.int x_cats) w_text (.int x_typed) w_row (.int x_rowMany) (.int x_thrown) w_read (.int x_length) (.int x_top) (.int x_at) (.int x_wrong) w_told w_rule w_otherRule (.int x_ruleSize) (.int x_isAsked) w_asked w_undos (.int x_undoMany) w_aside w_then w_hold (.int x_dropped) w_acts w_guarded w_train (.int u) w_feltOf w_feltBy (.int x_feltMany) w_many w_heardOf w_heardBy (.int x_heardMany) w_worth (.int x_drawn) (.int x_came) w_kept w_isKept w_keptCame), (q_now, aI cT 47 f_now)])) A) ([.ref h, .int p1] : List Value).toArray s 0 0 A) (F0 m 148 ls [.int s1_148, .ref h]) := by
    intro s0_118 s0_133 s1_148 H locs ls hg hP hD hS hl
    unfold p_X8_goTrolley_148 at hg
    refine pf_X8_320 C0 hP hD hS 0 rfl (Nat.le_of_ble_eq_true rfl) (ws2 := [(h, oX8 (.ref q_now) (.int x_arches) (.int x_cats) w_text (.int x_typed) w_row (.int x_rowMany) (.int x_thrown) w_read (.int x_length) (.int x_top) (.int x_at) (.int x_wrong) w_told w_rule w_otherRule (.int x_ruleSize) (.int x_isAsked) w_asked w_undos (.int x_undoMany) w_aside w_then w_hold (.int x_dropped) w_acts w_guarded w_train (.int s1_148) w_feltOf w_feltBy (.int x_feltMany) w_many w_heardOf w_heardBy (.int x_heardMany) w_worth (.int x_drawn) (.int x_came) w_kept w_isKept w_keptCame), (q_now, aI cT 47 f_now)]) rfl dX8_goTrolley_148 (fun H locs hP hD hS => ?_)
    refine lv_iload hx hb dX8_goTrolley_151 (lv_at hl 1 rfl) ?_
    refine lv_iload hx hb dX8_goTrolley_153 (lv_at hl 0 rfl) ?_
    refine k_min C0 w5_181 hl.1 (Nat.le_of_ble_eq_true rfl) (Nat.le_of_ble_eq_true rfl) (Nat.le_of_ble_eq_true rfl) (Nat.le_of_ble_eq_true rfl) dX8_goTrolley_155 ?_
    exact k_iret C0 hr s1_148 hg hP hD hS dX8_goTrolley_158
  have L133 : ∀ (s0_118 : Int32) (y3_7 : Int32) (y2_7 : Int32) (s0_133 : Int32) (H : Heap) (locs : List Loc) (ls : Array Slot), p_X8_goTrolley_133 F s0_118 y3_7 y2_7 Post s0_133 → va_P D cls9 [(h, oX8 (.ref q_now) (.int x_arches) (.int x_cats) w_text (.int x_typed) w_row (.int x_rowMany) (.int x_thrown) w_read (.int x_length) (.int x_top) (.int x_at) (.int x_wrong) w_told w_rule w_otherRule (.int x_ruleSize) (.int x_isAsked) w_asked w_undos (.int x_undoMany) w_aside w_then w_hold (.int x_dropped) w_acts w_guarded w_train (.int p1) w_feltOf w_feltBy (.int x_feltMany) w_many w_heardOf w_heardBy (.int x_heardMany) w_worth (.int x_drawn) (.int x_came) w_kept w_isKept w_keptCame), (q_now, aI cT 47 f_now)] H → va_D A [(h, oX8 (.ref q_now) (.int x_arches) (.int x_cats) w_text (.int x_typed) w_row (.int x_rowMany) (.int x_thrown) w_read (.int x_length) (.int x_top) (.int x_at) (.int x_wrong) w_told w_rule w_otherRule (.int x_ruleSize) (.int x_isAsked) w_asked w_undos (.int x_undoMany) w_aside w_then w_hold (.int x_dropped) w_acts w_guarded w_train (.int p1) w_feltOf w_feltBy (.int x_feltMany) w_many w_heardOf w_heardBy (.int x_heardMany) w_worth (.int x_drawn) (.int x_came) w_kept w_isKept w_keptCame), (q_now, aI cT 47 f_now)] → va_S A s.heap H locs → lv_has ls 8 [(0, .ref h), (2, .int y2_7), (3, .int y3_7), (6, .int s0_118)] → W p l e (rmO 1 30 0 0) s m ([.ref h, .int p1] : List Value).toArray below meth c H locs 0 0 (MQ below (va_Qi Post (cB D A (fun (u : Int32) => [(h, oX8 (.ref q_now) (.int x_arches) (.int x_cats) w_text (.int x_typed) w_row (.int x_rowMany) (.int x_thrown) w_read (.int x_length) (.int x_top) (.int x_at) (.int x_wrong) w_told w_rule w_otherRule (.int x_ruleSize) (.int x_isAsked) w_asked w_undos (.int x_undoMany) w_aside w_then w_hold (.int x_dropped) w_acts w_guarded w_train (.int u) w_feltOf w_feltBy (.int x_feltMany) w_many w_heardOf w_heardBy (.int x_heardMany) w_worth (.int x_drawn) (.int x_came) w_kept w_isKept w_keptCame), (q_now, aI cT 47 f_now)])) A) ([.ref h, .int p1] : List Value).toArray s 0 0 A) (F0 m 133 ls [.int s0_133]) := by
    intro s0_118 y3_7 y2_7 s0_133 H locs ls hg hP hD hS hl
    unfold p_X8_goTrolley_133 at hg
    refine lv_istore (lv' := [(7, .int s0_133), (0, .ref h), (2, .int y2_7), (3, .int y3_7), (6, .int s0_118)]) hx hb dX8_goTrolley_133 hl (by decide) rfl (fun ls hl => ?_)
    refine lv_aload_n hx hb dX8_goTrolley_135 rfl (lv_at hl 1 rfl) ?_
    refine lv_iload hx hb dX8_goTrolley_136 (lv_at hl 0 rfl) ?_
    refine lv_iload hx hb dX8_goTrolley_138 (lv_at hl 4 rfl) ?_
    refine lv_icmp_gt (tgt := 147) hx hb dX8_goTrolley_140 (by decide) (fun c_140 => ?_) (fun c_140 => ?_)
    · have hg := hg.1 c_140
      refine lv_iload_n hx hb dX8_goTrolley_147 rfl (lv_at hl 3 rfl) ?_
      exact L148 s0_118 s0_133 y3_7 _ _ _ hg hP hD hS (lv_sub hl [4, 0] rfl)
    have hg := hg.2 c_140
    refine lv_iload_n hx hb dX8_goTrolley_143 rfl (lv_at hl 2 rfl) ?_
    refine lv_goto (tgt := 148) hx hb dX8_goTrolley_144 (by decide) ?_
    exact L148 s0_118 s0_133 y2_7 _ _ _ hg hP hD hS (lv_sub hl [4, 0] rfl)
  have L118 : ∀ (y3_7 : Int32) (y2_7 : Int32) (s0_118 : Int32) (H : Heap) (locs : List Loc) (ls : Array Slot), p_X8_goTrolley_118 F p1 y3_7 y2_7 Post s0_118 → va_P D cls9 [(h, oX8 (.ref q_now) (.int x_arches) (.int x_cats) w_text (.int x_typed) w_row (.int x_rowMany) (.int x_thrown) w_read (.int x_length) (.int x_top) (.int x_at) (.int x_wrong) w_told w_rule w_otherRule (.int x_ruleSize) (.int x_isAsked) w_asked w_undos (.int x_undoMany) w_aside w_then w_hold (.int x_dropped) w_acts w_guarded w_train (.int p1) w_feltOf w_feltBy (.int x_feltMany) w_many w_heardOf w_heardBy (.int x_heardMany) w_worth (.int x_drawn) (.int x_came) w_kept w_isKept w_keptCame), (q_now, aI cT 47 f_now)] H → va_D A [(h, oX8 (.ref q_now) (.int x_arches) (.int x_cats) w_text (.int x_typed) w_row (.int x_rowMany) (.int x_thrown) w_read (.int x_length) (.int x_top) (.int x_at) (.int x_wrong) w_told w_rule w_otherRule (.int x_ruleSize) (.int x_isAsked) w_asked w_undos (.int x_undoMany) w_aside w_then w_hold (.int x_dropped) w_acts w_guarded w_train (.int p1) w_feltOf w_feltBy (.int x_feltMany) w_many w_heardOf w_heardBy (.int x_heardMany) w_worth (.int x_drawn) (.int x_came) w_kept w_isKept w_keptCame), (q_now, aI cT 47 f_now)] → va_S A s.heap H locs → lv_has ls 8 [(0, .ref h), (1, .int p1), (2, .int y2_7), (3, .int y3_7), (5, .int (((if 0 ≤ ((if p1 < y3_7 then y3_7 else p1) - p1) then ((if p1 < y3_7 then y3_7 else p1) - p1) else 0 - ((if p1 < y3_7 then y3_7 else p1) - p1)) + (if p1 < y3_7 then y3_7 else p1)) - y2_7))] → W p l e (rmO 1 30 0 0) s m ([.ref h, .int p1] : List Value).toArray below meth c H locs 0 0 (MQ below (va_Qi Post (cB D A (fun (u : Int32) => [(h, oX8 (.ref q_now) (.int x_arches) (.int x_cats) w_text (.int x_typed) w_row (.int x_rowMany) (.int x_thrown) w_read (.int x_length) (.int x_top) (.int x_at) (.int x_wrong) w_told w_rule w_otherRule (.int x_ruleSize) (.int x_isAsked) w_asked w_undos (.int x_undoMany) w_aside w_then w_hold (.int x_dropped) w_acts w_guarded w_train (.int u) w_feltOf w_feltBy (.int x_feltMany) w_many w_heardOf w_heardBy (.int x_heardMany) w_worth (.int x_drawn) (.int x_came) w_kept w_isKept w_keptCame), (q_now, aI cT 47 f_now)])) A) ([.ref h, .int p1] : List Value).toArray s 0 0 A) (F0 m 118 ls [.int s0_118]) := by
    intro y3_7 y2_7 s0_118 H locs ls hg hP hD hS hl
    unfold p_X8_goTrolley_118 at hg
    refine lv_istore (lv' := [(6, .int s0_118), (0, .ref h), (1, .int p1), (2, .int y2_7), (3, .int y3_7), (5, .int (((if 0 ≤ ((if p1 < y3_7 then y3_7 else p1) - p1) then ((if p1 < y3_7 then y3_7 else p1) - p1) else 0 - ((if p1 < y3_7 then y3_7 else p1) - p1)) + (if p1 < y3_7 then y3_7 else p1)) - y2_7))]) hx hb dX8_goTrolley_118 hl (by decide) rfl (fun ls hl => ?_)
    refine lv_iload_n hx hb dX8_goTrolley_120 rfl (lv_at hl 2 rfl) ?_
    refine lv_iload_n hx hb dX8_goTrolley_121 rfl (lv_at hl 4 rfl) ?_
    refine lv_icmp_lt (tgt := 131) hx hb dX8_goTrolley_122 (by decide) (fun c_122 => ?_) (fun c_122 => ?_)
    · have hg := hg.1 c_122
      refine lv_iload hx hb dX8_goTrolley_131 (lv_at hl 5 rfl) ?_
      exact L133 s0_118 y3_7 y2_7 (((if 0 ≤ ((if p1 < y3_7 then y3_7 else p1) - p1) then ((if p1 < y3_7 then y3_7 else p1) - p1) else 0 - ((if p1 < y3_7 then y3_7 else p1) - p1)) + (if p1 < y3_7 then y3_7 else p1)) - y2_7) _ _ _ hg hP hD hS (lv_sub hl [1, 3, 4, 0] rfl)
    have hg := hg.2 c_122
    refine lv_iload_n hx hb dX8_goTrolley_125 rfl (lv_at hl 2 rfl) ?_
    refine lv_iload_n hx hb dX8_goTrolley_126 rfl (lv_at hl 3 rfl) ?_
    refine lv_isub hx hb dX8_goTrolley_127 ?_
    refine lv_goto (tgt := 133) hx hb dX8_goTrolley_128 (by decide) ?_
    exact L133 s0_118 y3_7 y2_7 (p1 - y2_7) _ _ _ hg hP hD hS (lv_sub hl [1, 3, 4, 0] rfl)
  have L7 : ∀ (n7 : Nat) (y4_7 : Int32) (y3_7 : Int32) (y2_7 : Int32) (H : Heap) (locs : List Loc) (ls : Array Slot), p_X8_goTrolley_7 F p1 x_arches f_now Post n7 y4_7 y3_7 y2_7 → va_P D cls9 [(h, oX8 (.ref q_now) (.int x_arches) (.int x_cats) w_text (.int x_typed) w_row (.int x_rowMany) (.int x_thrown) w_read (.int x_length) (.int x_top) (.int x_at) (.int x_wrong) w_told w_rule w_otherRule (.int x_ruleSize) (.int x_isAsked) w_asked w_undos (.int x_undoMany) w_aside w_then w_hold (.int x_dropped) w_acts w_guarded w_train (.int x_trolleyEnd) w_feltOf w_feltBy (.int x_feltMany) w_many w_heardOf w_heardBy (.int x_heardMany) w_worth (.int x_drawn) (.int x_came) w_kept w_isKept w_keptCame), (q_now, aI cT 47 f_now)] H → va_D A [(h, oX8 (.ref q_now) (.int x_arches) (.int x_cats) w_text (.int x_typed) w_row (.int x_rowMany) (.int x_thrown) w_read (.int x_length) (.int x_top) (.int x_at) (.int x_wrong) w_told w_rule w_otherRule (.int x_ruleSize) (.int x_isAsked) w_asked w_undos (.int x_undoMany) w_aside w_then w_hold (.int x_dropped) w_acts w_guarded w_train (.int x_trolleyEnd) w_feltOf w_feltBy (.int x_feltMany) w_many w_heardOf w_heardBy (.int x_heardMany) w_worth (.int x_drawn) (.int x_came) w_kept w_isKept w_keptCame), (q_now, aI cT 47 f_now)] → va_S A s.heap H locs → lv_has ls 8 [(0, .ref h), (1, .int p1), (2, .int y2_7), (3, .int y3_7), (4, .int y4_7)] → W p l e (rmO 1 30 0 0) s m ([.ref h, .int p1] : List Value).toArray below meth c H locs 0 0 (MQ below (va_Qi Post (cB D A (fun (u : Int32) => [(h, oX8 (.ref q_now) (.int x_arches) (.int x_cats) w_text (.int x_typed) w_row (.int x_rowMany) (.int x_thrown) w_read (.int x_length) (.int x_top) (.int x_at) (.int x_wrong) w_told w_rule w_otherRule (.int x_ruleSize) (.int x_isAsked) w_asked w_undos (.int x_undoMany) w_aside w_then w_hold (.int x_dropped) w_acts w_guarded w_train (.int u) w_feltOf w_feltBy (.int x_feltMany) w_many w_heardOf w_heardBy (.int x_heardMany) w_worth (.int x_drawn) (.int x_came) w_kept w_isKept w_keptCame), (q_now, aI cT 47 f_now)])) A) ([.ref h, .int p1] : List Value).toArray s 0 0 A) (F0 m 7 ls []) := by
    intro n7
    induction n7 with
    | zero =>
      intro y4_7 y3_7 y2_7 H locs ls hg hP hD hS hl
      exact False.elim hg
    | succ n7 ih7 =>
      have L47 : ∀ (y4_7 : Int32) (y2_47 : Int32) (y3_47 : Int32) (H : Heap) (locs : List Loc) (ls : Array Slot), p_X8_goTrolley_47 F y4_7 (p_X8_goTrolley_7 F p1 x_arches f_now Post n7) Post y2_47 y3_47 → va_P D cls9 [(h, oX8 (.ref q_now) (.int x_arches) (.int x_cats) w_text (.int x_typed) w_row (.int x_rowMany) (.int x_thrown) w_read (.int x_length) (.int x_top) (.int x_at) (.int x_wrong) w_told w_rule w_otherRule (.int x_ruleSize) (.int x_isAsked) w_asked w_undos (.int x_undoMany) w_aside w_then w_hold (.int x_dropped) w_acts w_guarded w_train (.int x_trolleyEnd) w_feltOf w_feltBy (.int x_feltMany) w_many w_heardOf w_heardBy (.int x_heardMany) w_worth (.int x_drawn) (.int x_came) w_kept w_isKept w_keptCame), (q_now, aI cT 47 f_now)] H → va_D A [(h, oX8 (.ref q_now) (.int x_arches) (.int x_cats) w_text (.int x_typed) w_row (.int x_rowMany) (.int x_thrown) w_read (.int x_length) (.int x_top) (.int x_at) (.int x_wrong) w_told w_rule w_otherRule (.int x_ruleSize) (.int x_isAsked) w_asked w_undos (.int x_undoMany) w_aside w_then w_hold (.int x_dropped) w_acts w_guarded w_train (.int x_trolleyEnd) w_feltOf w_feltBy (.int x_feltMany) w_many w_heardOf w_heardBy (.int x_heardMany) w_worth (.int x_drawn) (.int x_came) w_kept w_isKept w_keptCame), (q_now, aI cT 47 f_now)] → va_S A s.heap H locs → lv_has ls 8 [(0, .ref h), (1, .int p1), (2, .int y2_47), (3, .int y3_47), (4, .int y4_7)] → W p l e (rmO 1 30 0 0) s m ([.ref h, .int p1] : List Value).toArray below meth c H locs 0 0 (MQ below (va_Qi Post (cB D A (fun (u : Int32) => [(h, oX8 (.ref q_now) (.int x_arches) (.int x_cats) w_text (.int x_typed) w_row (.int x_rowMany) (.int x_thrown) w_read (.int x_length) (.int x_top) (.int x_at) (.int x_wrong) w_told w_rule w_otherRule (.int x_ruleSize) (.int x_isAsked) w_asked w_undos (.int x_undoMany) w_aside w_then w_hold (.int x_dropped) w_acts w_guarded w_train (.int u) w_feltOf w_feltBy (.int x_feltMany) w_many w_heardOf w_heardBy (.int x_heardMany) w_worth (.int x_drawn) (.int x_came) w_kept w_isKept w_keptCame), (q_now, aI cT 47 f_now)])) A) ([.ref h, .int p1] : List Value).toArray s 0 0 A) (F0 m 47 ls []) := by
        intro y4_7 y2_47 y3_47 H locs ls hg hP hD hS hl
        unfold p_X8_goTrolley_47 at hg
        refine lv_iinc (v := (y4_7 + (1 : Int32))) (lv' := [(4, .int (y4_7 + (1 : Int32))), (0, .ref h), (1, .int p1), (2, .int y2_47), (3, .int y3_47)]) hx hb dX8_goTrolley_47 hl (k := 4) rfl rfl (by decide) rfl (fun ls hl => ?_)
        refine lv_goto (tgt := 7) hx hb dX8_goTrolley_50 (by decide) ?_
        exact ih7 (y4_7 + (1 : Int32)) y3_47 y2_47 _ _ _ hg hP hD hS (lv_sub hl [1, 2, 3, 4, 0] rfl)
      have L43 : ∀ (y4_7 : Int32) (s0_43 : Int32) (H : Heap) (locs : List Loc) (ls : Array Slot), p_X8_goTrolley_43 F y4_7 (p_X8_goTrolley_7 F p1 x_arches f_now Post n7) Post s0_43 → va_P D cls9 [(h, oX8 (.ref q_now) (.int x_arches) (.int x_cats) w_text (.int x_typed) w_row (.int x_rowMany) (.int x_thrown) w_read (.int x_length) (.int x_top) (.int x_at) (.int x_wrong) w_told w_rule w_otherRule (.int x_ruleSize) (.int x_isAsked) w_asked w_undos (.int x_undoMany) w_aside w_then w_hold (.int x_dropped) w_acts w_guarded w_train (.int x_trolleyEnd) w_feltOf w_feltBy (.int x_feltMany) w_many w_heardOf w_heardBy (.int x_heardMany) w_worth (.int x_drawn) (.int x_came) w_kept w_isKept w_keptCame), (q_now, aI cT 47 f_now)] H → va_D A [(h, oX8 (.ref q_now) (.int x_arches) (.int x_cats) w_text (.int x_typed) w_row (.int x_rowMany) (.int x_thrown) w_read (.int x_length) (.int x_top) (.int x_at) (.int x_wrong) w_told w_rule w_otherRule (.int x_ruleSize) (.int x_isAsked) w_asked w_undos (.int x_undoMany) w_aside w_then w_hold (.int x_dropped) w_acts w_guarded w_train (.int x_trolleyEnd) w_feltOf w_feltBy (.int x_feltMany) w_many w_heardOf w_heardBy (.int x_heardMany) w_worth (.int x_drawn) (.int x_came) w_kept w_isKept w_keptCame), (q_now, aI cT 47 f_now)] → va_S A s.heap H locs → lv_has ls 8 [(0, .ref h), (1, .int p1), (4, .int y4_7)] → W p l e (rmO 1 30 0 0) s m ([.ref h, .int p1] : List Value).toArray below meth c H locs 0 0 (MQ below (va_Qi Post (cB D A (fun (u : Int32) => [(h, oX8 (.ref q_now) (.int x_arches) (.int x_cats) w_text (.int x_typed) w_row (.int x_rowMany) (.int x_thrown) w_read (.int x_length) (.int x_top) (.int x_at) (.int x_wrong) w_told w_rule w_otherRule (.int x_ruleSize) (.int x_isAsked) w_asked w_undos (.int x_undoMany) w_aside w_then w_hold (.int x_dropped) w_acts w_guarded w_train (.int u) w_feltOf w_feltBy (.int x_feltMany) w_many w_heardOf w_heardBy (.int x_heardMany) w_worth (.int x_drawn) (.int x_came) w_kept w_isKept w_keptCame), (q_now, aI cT 47 f_now)])) A) ([.ref h, .int p1] : List Value).toArray s 0 0 A) (F0 m 43 ls [.int s0_43]) := by
        intro y4_7 s0_43 H locs ls hg hP hD hS hl
        unfold p_X8_goTrolley_43 at hg
        refine lv_istore_n (lv' := [(2, .int s0_43), (0, .ref h), (1, .int p1), (4, .int y4_7)]) hx hb dX8_goTrolley_43 rfl hl (by decide) rfl (fun ls hl => ?_)
        refine lv_iload hx hb dX8_goTrolley_44 (lv_at hl 3 rfl) ?_
        refine lv_istore_n (lv' := [(3, .int y4_7), (2, .int s0_43), (0, .ref h), (1, .int p1), (4, .int y4_7)]) hx hb dX8_goTrolley_46 rfl hl (by decide) rfl (fun ls hl => ?_)
        exact L47 y4_7 s0_43 y4_7 _ _ _ hg hP hD hS (lv_sub hl [2, 3, 1, 0, 4] rfl)
      intro y4_7 y3_7 y2_7 H locs ls hg hP hD hS hl
      rw [p_X8_goTrolley_7_s] at hg
      refine lv_iload hx hb dX8_goTrolley_7 (lv_at hl 4 rfl) ?_
      refine lv_aload_n hx hb dX8_goTrolley_9 rfl (lv_at hl 0 rfl) ?_
      refine gf_X8_89 C0 hP 0 rfl rfl dX8_goTrolley_10 ?_
      refine lv_icmp_ge (tgt := 53) hx hb dX8_goTrolley_13 (by decide) (fun c_13 => ?_) (fun c_13 => ?_)
      · have hg := hg.1 c_13
        refine lv_aload_n hx hb dX8_goTrolley_53 rfl (lv_at hl 0 rfl) ?_
        refine lv_iload_n hx hb dX8_goTrolley_54 rfl (lv_at hl 1 rfl) ?_
        refine pf_X8_320 C0 hP hD hS 0 rfl (Nat.le_of_ble_eq_true rfl) (ws2 := [(h, oX8 (.ref q_now) (.int x_arches) (.int x_cats) w_text (.int x_typed) w_row (.int x_rowMany) (.int x_thrown) w_read (.int x_length) (.int x_top) (.int x_at) (.int x_wrong) w_told w_rule w_otherRule (.int x_ruleSize) (.int x_isAsked) w_asked w_undos (.int x_undoMany) w_aside w_then w_hold (.int x_dropped) w_acts w_guarded w_train (.int p1) w_feltOf w_feltBy (.int x_feltMany) w_many w_heardOf w_heardBy (.int x_heardMany) w_worth (.int x_drawn) (.int x_came) w_kept w_isKept w_keptCame), (q_now, aI cT 47 f_now)]) rfl dX8_goTrolley_55 (fun H locs hP hD hS => ?_)
        refine lv_iload_n hx hb dX8_goTrolley_58 rfl (lv_at hl 2 rfl) ?_
        refine lv_iconst (v := (-1 : Int32)) hx hb dX8_goTrolley_59 (by decide) ?_
        refine lv_icmp_ne (tgt := 65) hx hb dX8_goTrolley_60 (by decide) (fun c_60 => ?_) (fun c_60 => ?_)
        · have hg := hg.1 c_60
          refine lv_iload_n hx hb dX8_goTrolley_65 rfl (lv_at hl 1 rfl) ?_
          refine lv_iload_n hx hb dX8_goTrolley_66 rfl (lv_at hl 1 rfl) ?_
          refine lv_iload_n hx hb dX8_goTrolley_67 rfl (lv_at hl 2 rfl) ?_
          refine k_min C0 w5_181 hl.1 (Nat.le_of_ble_eq_true rfl) (Nat.le_of_ble_eq_true rfl) (Nat.le_of_ble_eq_true rfl) (Nat.le_of_ble_eq_true rfl) dX8_goTrolley_68 ?_
          refine lv_isub hx hb dX8_goTrolley_71 ?_
          refine k_abs C0 w6_23 hl.1 (Nat.le_of_ble_eq_true rfl) (Nat.le_of_ble_eq_true rfl) (Nat.le_of_ble_eq_true rfl) (Nat.le_of_ble_eq_true rfl) dX8_goTrolley_72 ?_
          refine lv_iload_n hx hb dX8_goTrolley_75 rfl (lv_at hl 3 rfl) ?_
          refine lv_iadd hx hb dX8_goTrolley_76 ?_
          refine lv_iload_n hx hb dX8_goTrolley_77 rfl (lv_at hl 1 rfl) ?_
          refine lv_iload_n hx hb dX8_goTrolley_78 rfl (lv_at hl 2 rfl) ?_
          refine k_min C0 w5_181 hl.1 (Nat.le_of_ble_eq_true rfl) (Nat.le_of_ble_eq_true rfl) (Nat.le_of_ble_eq_true rfl) (Nat.le_of_ble_eq_true rfl) dX8_goTrolley_79 ?_
          refine lv_isub hx hb dX8_goTrolley_82 ?_
          refine lv_istore (lv' := [(4, .int (((if 0 ≤ (p1 - (if y2_7 < p1 then y2_7 else p1)) then (p1 - (if y2_7 < p1 then y2_7 else p1)) else 0 - (p1 - (if y2_7 < p1 then y2_7 else p1))) + y3_7) - (if y2_7 < p1 then y2_7 else p1))), (0, .ref h), (1, .int p1), (2, .int y2_7), (3, .int y3_7)]) hx hb dX8_goTrolley_83 hl (by decide) rfl (fun ls hl => ?_)
          refine lv_iload_n hx hb dX8_goTrolley_85 rfl (lv_at hl 2 rfl) ?_
          refine lv_iload_n hx hb dX8_goTrolley_86 rfl (lv_at hl 4 rfl) ?_
          refine k_max C0 w5_182 hl.1 (Nat.le_of_ble_eq_true rfl) (Nat.le_of_ble_eq_true rfl) (Nat.le_of_ble_eq_true rfl) (Nat.le_of_ble_eq_true rfl) dX8_goTrolley_87 ?_
          refine lv_iload_n hx hb dX8_goTrolley_90 rfl (lv_at hl 2 rfl) ?_
          refine lv_isub hx hb dX8_goTrolley_91 ?_
          refine k_abs C0 w6_23 hl.1 (Nat.le_of_ble_eq_true rfl) (Nat.le_of_ble_eq_true rfl) (Nat.le_of_ble_eq_true rfl) (Nat.le_of_ble_eq_true rfl) dX8_goTrolley_92 ?_
          refine lv_iload_n hx hb dX8_goTrolley_95 rfl (lv_at hl 2 rfl) ?_
          refine lv_iload_n hx hb dX8_goTrolley_96 rfl (lv_at hl 4 rfl) ?_
          refine k_max C0 w5_182 hl.1 (Nat.le_of_ble_eq_true rfl) (Nat.le_of_ble_eq_true rfl) (Nat.le_of_ble_eq_true rfl) (Nat.le_of_ble_eq_true rfl) dX8_goTrolley_97 ?_
          refine lv_iadd hx hb dX8_goTrolley_100 ?_
          refine lv_iload_n hx hb dX8_goTrolley_101 rfl (lv_at hl 3 rfl) ?_
          refine lv_isub hx hb dX8_goTrolley_102 ?_
          refine lv_istore (lv' := [(5, .int (((if 0 ≤ ((if p1 < y3_7 then y3_7 else p1) - p1) then ((if p1 < y3_7 then y3_7 else p1) - p1) else 0 - ((if p1 < y3_7 then y3_7 else p1) - p1)) + (if p1 < y3_7 then y3_7 else p1)) - y2_7)), (4, .int (((if 0 ≤ (p1 - (if y2_7 < p1 then y2_7 else p1)) then (p1 - (if y2_7 < p1 then y2_7 else p1)) else 0 - (p1 - (if y2_7 < p1 then y2_7 else p1))) + y3_7) - (if y2_7 < p1 then y2_7 else p1))), (0, .ref h), (1, .int p1), (2, .int y2_7), (3, .int y3_7)]) hx hb dX8_goTrolley_103 hl (by decide) rfl (fun ls hl => ?_)
          refine lv_iload_n hx hb dX8_goTrolley_105 rfl (lv_at hl 3 rfl) ?_
          refine lv_iload_n hx hb dX8_goTrolley_106 rfl (lv_at hl 4 rfl) ?_
          refine lv_icmp_gt (tgt := 116) hx hb dX8_goTrolley_107 (by decide) (fun c_107 => ?_) (fun c_107 => ?_)
          · have hg := hg.1 c_107
            refine lv_iload hx hb dX8_goTrolley_116 (lv_at hl 1 rfl) ?_
            exact L118 y3_7 y2_7 (((if 0 ≤ (p1 - (if y2_7 < p1 then y2_7 else p1)) then (p1 - (if y2_7 < p1 then y2_7 else p1)) else 0 - (p1 - (if y2_7 < p1 then y2_7 else p1))) + y3_7) - (if y2_7 < p1 then y2_7 else p1)) _ _ _ hg hP hD hS (lv_sub hl [2, 3, 4, 5, 0] rfl)
          have hg := hg.2 c_107
          refine lv_iload_n hx hb dX8_goTrolley_110 rfl (lv_at hl 5 rfl) ?_
          refine lv_iload_n hx hb dX8_goTrolley_111 rfl (lv_at hl 3 rfl) ?_
          refine lv_isub hx hb dX8_goTrolley_112 ?_
          refine lv_goto (tgt := 118) hx hb dX8_goTrolley_113 (by decide) ?_
          exact L118 y3_7 y2_7 (y3_7 - p1) _ _ _ hg hP hD hS (lv_sub hl [2, 3, 4, 5, 0] rfl)
        have hg := hg.2 c_60
        refine lv_iconst (v := (0 : Int32)) hx hb dX8_goTrolley_63 (by decide) ?_
        exact k_iret C0 hr p1 hg hP hD hS dX8_goTrolley_64
      have hg := hg.2 c_13
      refine lv_aload_n hx hb dX8_goTrolley_16 rfl (lv_at hl 0 rfl) ?_
      refine gf_X8_9 C0 hP 0 rfl rfl dX8_goTrolley_17 ?_
      refine lv_bipush (v := (6 : Int32)) hx hb dX8_goTrolley_20 (by decide) ?_
      refine lv_iload hx hb dX8_goTrolley_22 (lv_at hl 4 rfl) ?_
      refine lv_iadd hx hb dX8_goTrolley_24 ?_
      obtain ⟨g_25, hg⟩ := hg
      refine k_iald C0 hP 1 rfl g_25 dX8_goTrolley_25 ?_
      refine lv_if_ne (tgt := 32) hx hb dX8_goTrolley_26 (by decide) (fun c_26 => ?_) (fun c_26 => ?_)
      · have hg := hg.1 c_26
        refine lv_iload_n hx hb dX8_goTrolley_32 rfl (lv_at hl 2 rfl) ?_
        refine lv_iconst (v := (-1 : Int32)) hx hb dX8_goTrolley_33 (by decide) ?_
        refine lv_icmp_ne (tgt := 42) hx hb dX8_goTrolley_34 (by decide) (fun c_34 => ?_) (fun c_34 => ?_)
        · have hg := hg.1 c_34
          refine lv_iload_n hx hb dX8_goTrolley_42 rfl (lv_at hl 2 rfl) ?_
          exact L43 y4_7 y2_7 _ _ _ hg hP hD hS (lv_sub hl [0, 1, 4] rfl)
        have hg := hg.2 c_34
        refine lv_iload hx hb dX8_goTrolley_37 (lv_at hl 4 rfl) ?_
        refine lv_goto (tgt := 43) hx hb dX8_goTrolley_39 (by decide) ?_
        exact L43 y4_7 y4_7 _ _ _ hg hP hD hS (lv_sub hl [0, 1, 4] rfl)
      have hg := hg.2 c_26
      refine lv_goto (tgt := 47) hx hb dX8_goTrolley_29 (by decide) ?_
      exact L47 y4_7 y2_7 y3_7 _ _ _ hg hP hD hS hl
  unfold p_X8_goTrolley at hg
  refine lv_iconst (v := (-1 : Int32)) hx hb dX8_goTrolley_0 (by decide) ?_
  refine lv_istore_n (lv' := [(2, .int (-1 : Int32)), (0, .ref h), (1, .int p1)]) hx hb dX8_goTrolley_1 rfl hl (by decide) rfl (fun ls hl => ?_)
  refine lv_iconst (v := (-1 : Int32)) hx hb dX8_goTrolley_2 (by decide) ?_
  refine lv_istore_n (lv' := [(3, .int (-1 : Int32)), (2, .int (-1 : Int32)), (0, .ref h), (1, .int p1)]) hx hb dX8_goTrolley_3 rfl hl (by decide) rfl (fun ls hl => ?_)
  refine lv_iconst (v := (0 : Int32)) hx hb dX8_goTrolley_4 (by decide) ?_
  refine lv_istore (lv' := [(4, .int (0 : Int32)), (3, .int (-1 : Int32)), (2, .int (-1 : Int32)), (0, .ref h), (1, .int p1)]) hx hb dX8_goTrolley_5 hl (by decide) rfl (fun ls hl => ?_)
  exact L7 F (0 : Int32) (-1 : Int32) (-1 : Int32) _ _ _ hg hP hD hS (lv_sub hl [3, 4, 2, 1, 0] rfl)
theorem dX8_trolley_0 : decode cX8_trolley 0 = .ok (.aload_n 0, 1) := by decide +kernel
theorem dX8_trolley_1 : decode cX8_trolley 1 = .ok (.iconst 0, 1) := by decide +kernel
theorem dX8_trolley_2 : decode cX8_trolley 2 = .ok (.putfield 82, 3) := by decide +kernel
theorem dX8_trolley_5 : decode cX8_trolley 5 = .ok (.aload_n 0, 1) := by decide +kernel
theorem dX8_trolley_6 : decode cX8_trolley 6 = .ok (.iload_n 1, 1) := by decide +kernel
theorem dX8_trolley_7 : decode cX8_trolley 7 = .ok (.invokevirtual 214, 3) := by decide +kernel
theorem dX8_trolley_10 : decode cX8_trolley 10 = .ok (.ifCond .ne 5, 3) := by decide +kernel
theorem dX8_trolley_13 : decode cX8_trolley 13 = .ok (.iconst (-1), 1) := by decide +kernel
theorem dX8_trolley_14 : decode cX8_trolley 14 = .ok (.ireturn, 1) := by decide +kernel
theorem dX8_trolley_15 : decode cX8_trolley 15 = .ok (.aload_n 0, 1) := by decide +kernel
theorem dX8_trolley_16 : decode cX8_trolley 16 = .ok (.iload_n 1, 1) := by decide +kernel
theorem dX8_trolley_17 : decode cX8_trolley 17 = .ok (.invokevirtual 323, 3) := by decide +kernel
theorem dX8_trolley_20 : decode cX8_trolley 20 = .ok (.istore_n 2, 1) := by decide +kernel
theorem dX8_trolley_21 : decode cX8_trolley 21 = .ok (.aload_n 0, 1) := by decide +kernel
theorem dX8_trolley_22 : decode cX8_trolley 22 = .ok (.iconst 0, 1) := by decide +kernel
theorem dX8_trolley_23 : decode cX8_trolley 23 = .ok (.putfield 86, 3) := by decide +kernel
theorem dX8_trolley_26 : decode cX8_trolley 26 = .ok (.aload_n 0, 1) := by decide +kernel
theorem dX8_trolley_27 : decode cX8_trolley 27 = .ok (.aload_n 0, 1) := by decide +kernel
theorem dX8_trolley_28 : decode cX8_trolley 28 = .ok (.getfield 320, 3) := by decide +kernel
theorem dX8_trolley_31 : decode cX8_trolley 31 = .ok (.i2l, 1) := by decide +kernel
theorem dX8_trolley_32 : decode cX8_trolley 32 = .ok (.invokevirtual 249, 3) := by decide +kernel
theorem dX8_trolley_35 : decode cX8_trolley 35 = .ok (.iload_n 2, 1) := by decide +kernel
theorem dX8_trolley_36 : decode cX8_trolley 36 = .ok (.ireturn, 1) := by decide +kernel
def p_X8_trolley (F : Nat) (p1 : Int32) (x_arches : Int32) (x_rowMany : Int32) (x_trolleyEnd : Int32) (f_now : Nat → Int32) (f_row : Nat → Int64) (Post : Int32 → (Int32 × Int32 × Int32 × (Nat → Int64)) → Prop) : Prop := (p_X8_isArch F p1 x_arches (fun (r_7 : Int32) => ((¬ r_7 = 0 → (p_X8_goTrolley F p1 x_arches f_now (fun (r_17 : Int32) (u_17 : Int32) => (p_X8_tell F (u_17.toInt64) (0 : Int32) f_row (fun (u_32 : (Int32 × (Nat → Int64))) => (Post r_17 (u_32.1, (0 : Int32), u_17, u_32.2))))))) ∧ (r_7 = 0 → (Post (-1 : Int32) (x_rowMany, (0 : Int32), x_trolleyEnd, f_row))))))
set_option maxHeartbeats 4000000 in
set_option maxRecDepth 100000 in
theorem c_X8_trolley (l : Launch) (D : va_G) (cT : Nat → ClassId) (F : Nat) (h : Nat) (p1 : Int32) (q_now : Nat) (x_arches : Int32) (x_cats : Int32) (w_text : Value) (x_typed : Int32) (q_row : Nat) (x_rowMany : Int32) (x_thrown : Int32) (w_read : Value) (x_length : Int32) (x_top : Int32) (x_at : Int32) (x_wrong : Int32) (w_told : Value) (w_rule : Value) (w_otherRule : Value) (x_ruleSize : Int32) (x_isAsked : Int32) (w_asked : Value) (w_undos : Value) (x_undoMany : Int32) (w_aside : Value) (w_then : Value) (w_hold : Value) (x_dropped : Int32) (w_acts : Value) (w_guarded : Value) (w_train : Value) (x_trolleyEnd : Int32) (w_feltOf : Value) (w_feltBy : Value) (x_feltMany : Int32) (w_many : Value) (w_heardOf : Value) (w_heardBy : Value) (x_heardMany : Int32) (w_worth : Value) (x_drawn : Int32) (x_came : Int32) (w_kept : Value) (w_isKept : Value) (w_keptCame : Value) (f_now : Nat → Int32) (f_row : Nat → Int64) (Post : Int32 → (Int32 × Int32 × Int32 × (Nat → Int64)) → Prop) (hg : p_X8_trolley F p1 x_arches x_rowMany x_trolleyEnd f_now f_row Post) : MWi l D cT yX8_trolley cX8_trolley 3 (some .int) 2 57 0 0 [.ref h, .int p1] [(h, oX8 (.ref q_now) (.int x_arches) (.int x_cats) w_text (.int x_typed) (.ref q_row) (.int x_rowMany) (.int x_thrown) w_read (.int x_length) (.int x_top) (.int x_at) (.int x_wrong) w_told w_rule w_otherRule (.int x_ruleSize) (.int x_isAsked) w_asked w_undos (.int x_undoMany) w_aside w_then w_hold (.int x_dropped) w_acts w_guarded w_train (.int x_trolleyEnd) w_feltOf w_feltBy (.int x_feltMany) w_many w_heardOf w_heardBy (.int x_heardMany) w_worth (.int x_drawn) (.int x_came) w_kept w_isKept w_keptCame), (q_now, aI cT 47 f_now), (q_row, aJ cT 16 f_row)] Post (fun (u : (Int32 × Int32 × Int32 × (Nat → Int64))) => [(h, oX8 (.ref q_now) (.int x_arches) (.int x_cats) w_text (.int x_typed) (.ref q_row) (.int u.1) (.int u.2.1) w_read (.int x_length) (.int x_top) (.int x_at) (.int x_wrong) w_told w_rule w_otherRule (.int x_ruleSize) (.int x_isAsked) w_asked w_undos (.int x_undoMany) w_aside w_then w_hold (.int x_dropped) w_acts w_guarded w_train (.int u.2.2.1) w_feltOf w_feltBy (.int x_feltMany) w_many w_heardOf w_heardBy (.int x_heardMany) w_worth (.int x_drawn) (.int x_came) w_kept w_isKept w_keptCame), (q_now, aI cT 47 f_now), (q_row, aJ cT 16 u.2.2.2)]) := by
  refine MWi.of (by decide) (Nat.le_of_ble_eq_true rfl) ?_
  intro p e s m below meth c A hA C0 hnm hr hP hD ls hl
  have hl : lv_has ls 3 [(0, .ref h), (1, .int p1)] := hl
  have hx := C0.x
  have hb := C0.b
  have hS : va_S A s.heap s.heap [] := va_S.rf
  have hP : va_P D cls9 [(h, oX8 (.ref q_now) (.int x_arches) (.int x_cats) w_text (.int x_typed) (.ref q_row) (.int x_rowMany) (.int x_thrown) w_read (.int x_length) (.int x_top) (.int x_at) (.int x_wrong) w_told w_rule w_otherRule (.int x_ruleSize) (.int x_isAsked) w_asked w_undos (.int x_undoMany) w_aside w_then w_hold (.int x_dropped) w_acts w_guarded w_train (.int x_trolleyEnd) w_feltOf w_feltBy (.int x_feltMany) w_many w_heardOf w_heardBy (.int x_heardMany) w_worth (.int x_drawn) (.int x_came) w_kept w_isKept w_keptCame), (q_now, aI cT 47 f_now), (q_row, aJ cT 16 f_row)] s.heap := hP
  have hD : va_D A [(h, oX8 (.ref q_now) (.int x_arches) (.int x_cats) w_text (.int x_typed) (.ref q_row) (.int x_rowMany) (.int x_thrown) w_read (.int x_length) (.int x_top) (.int x_at) (.int x_wrong) w_told w_rule w_otherRule (.int x_ruleSize) (.int x_isAsked) w_asked w_undos (.int x_undoMany) w_aside w_then w_hold (.int x_dropped) w_acts w_guarded w_train (.int x_trolleyEnd) w_feltOf w_feltBy (.int x_feltMany) w_many w_heardOf w_heardBy (.int x_heardMany) w_worth (.int x_drawn) (.int x_came) w_kept w_isKept w_keptCame), (q_now, aI cT 47 f_now), (q_row, aJ cT 16 f_row)] := hD
  unfold p_X8_trolley at hg
  refine lv_aload_n hx hb dX8_trolley_0 rfl (lv_at hl 0 rfl) ?_
  refine lv_iconst (v := (0 : Int32)) hx hb dX8_trolley_1 (by decide) ?_
  refine pf_X8_82 C0 hP hD hS 0 rfl (Nat.le_of_ble_eq_true rfl) (ws2 := [(h, oX8 (.ref q_now) (.int x_arches) (.int x_cats) w_text (.int x_typed) (.ref q_row) (.int x_rowMany) (.int (0 : Int32)) w_read (.int x_length) (.int x_top) (.int x_at) (.int x_wrong) w_told w_rule w_otherRule (.int x_ruleSize) (.int x_isAsked) w_asked w_undos (.int x_undoMany) w_aside w_then w_hold (.int x_dropped) w_acts w_guarded w_train (.int x_trolleyEnd) w_feltOf w_feltBy (.int x_feltMany) w_many w_heardOf w_heardBy (.int x_heardMany) w_worth (.int x_drawn) (.int x_came) w_kept w_isKept w_keptCame), (q_now, aI cT 47 f_now), (q_row, aJ cT 16 f_row)]) rfl dX8_trolley_2 (fun H locs hP hD hS => ?_)
  refine lv_aload_n hx hb dX8_trolley_5 rfl (lv_at hl 0 rfl) ?_
  refine lv_iload_n hx hb dX8_trolley_6 rfl (lv_at hl 1 rfl) ?_
  refine k_Vxi (rest := []) C0 lk_X8_214 (c_X8_isArch l D cT F h p1 (.ref q_now) x_arches x_cats w_text x_typed (.ref q_row) x_rowMany (0 : Int32) w_read x_length x_top x_at x_wrong w_told w_rule w_otherRule x_ruleSize x_isAsked w_asked w_undos x_undoMany w_aside w_then w_hold x_dropped w_acts w_guarded w_train x_trolleyEnd w_feltOf w_feltBy x_feltMany w_many w_heardOf w_heardBy x_heardMany w_worth x_drawn x_came w_kept w_isKept w_keptCame _ hg) hP hD [0] (by decide +kernel) rfl rfl rfl ⟨Nat.le_of_ble_eq_true rfl, Nat.le_of_ble_eq_true rfl⟩ rfl hl.1 rfl (Nat.le_of_ble_eq_true rfl) dX8_trolley_7 ⟨Nat.le_of_ble_eq_true rfl, Nat.le_of_ble_eq_true rfl⟩ (fun r_7 hg => ?_)
  refine lv_if_ne (tgt := 15) hx hb dX8_trolley_10 (by decide) (fun c_10 => ?_) (fun c_10 => ?_)
  · have hg := hg.1 c_10
    refine lv_aload_n hx hb dX8_trolley_15 rfl (lv_at hl 0 rfl) ?_
    refine lv_iload_n hx hb dX8_trolley_16 rfl (lv_at hl 1 rfl) ?_
    refine k_Vi (rest := []) (wr := [(q_row, aJ cT 16 f_row)]) (w2 := fun u_17 => [(q_row, aJ cT 16 f_row), (h, oX8 (.ref q_now) (.int x_arches) (.int x_cats) w_text (.int x_typed) (.ref q_row) (.int x_rowMany) (.int (0 : Int32)) w_read (.int x_length) (.int x_top) (.int x_at) (.int x_wrong) w_told w_rule w_otherRule (.int x_ruleSize) (.int x_isAsked) w_asked w_undos (.int x_undoMany) w_aside w_then w_hold (.int x_dropped) w_acts w_guarded w_train (.int u_17) w_feltOf w_feltBy (.int x_feltMany) w_many w_heardOf w_heardBy (.int x_heardMany) w_worth (.int x_drawn) (.int x_came) w_kept w_isKept w_keptCame), (q_now, aI cT 47 f_now)]) C0 lk_X8_323 (c_X8_goTrolley l D cT F h p1 q_now x_arches x_cats w_text x_typed (.ref q_row) x_rowMany (0 : Int32) w_read x_length x_top x_at x_wrong w_told w_rule w_otherRule x_ruleSize x_isAsked w_asked w_undos x_undoMany w_aside w_then w_hold x_dropped w_acts w_guarded w_train x_trolleyEnd w_feltOf w_feltBy x_feltMany w_many w_heardOf w_heardBy x_heardMany w_worth x_drawn x_came w_kept w_isKept w_keptCame f_now _ hg) hP hD hS hA [0, 1] [2] (by decide +kernel) rfl rfl (fun _ => rfl) rfl rfl ⟨Nat.le_of_ble_eq_true rfl, Nat.le_of_ble_eq_true rfl⟩ rfl hl.1 rfl (Nat.le_of_ble_eq_true rfl) dX8_trolley_17 ⟨Nat.le_of_ble_eq_true rfl, Nat.le_of_ble_eq_true rfl⟩ ?_
    intro r_17 u_17 H locs hg hP hD hS
    refine lv_istore_n (lv' := [(2, .int r_17), (0, .ref h), (1, .int p1)]) hx hb dX8_trolley_20 rfl hl (by decide) rfl (fun ls hl => ?_)
    refine lv_aload_n hx hb dX8_trolley_21 rfl (lv_at hl 1 rfl) ?_
    refine lv_iconst (v := (0 : Int32)) hx hb dX8_trolley_22 (by decide) ?_
    refine pf_X8_86 C0 hP hD hS 1 rfl (Nat.le_of_ble_eq_true rfl) (ws2 := [(q_row, aJ cT 16 f_row), (h, oX8 (.ref q_now) (.int x_arches) (.int x_cats) w_text (.int x_typed) (.ref q_row) (.int (0 : Int32)) (.int (0 : Int32)) w_read (.int x_length) (.int x_top) (.int x_at) (.int x_wrong) w_told w_rule w_otherRule (.int x_ruleSize) (.int x_isAsked) w_asked w_undos (.int x_undoMany) w_aside w_then w_hold (.int x_dropped) w_acts w_guarded w_train (.int u_17) w_feltOf w_feltBy (.int x_feltMany) w_many w_heardOf w_heardBy (.int x_heardMany) w_worth (.int x_drawn) (.int x_came) w_kept w_isKept w_keptCame), (q_now, aI cT 47 f_now)]) rfl dX8_trolley_23 (fun H locs hP hD hS => ?_)
    refine lv_aload_n hx hb dX8_trolley_26 rfl (lv_at hl 1 rfl) ?_
    refine lv_aload_n hx hb dX8_trolley_27 rfl (lv_at hl 1 rfl) ?_
    refine gf_X8_320 C0 hP 1 rfl rfl dX8_trolley_28 ?_
    refine lv_i2l (v := (u_17.toInt64)) hx hb dX8_trolley_31 rfl ?_
    refine k_Vv (rest := []) (wr := [(q_now, aI cT 47 f_now)]) (w2 := fun u_32 => [(q_now, aI cT 47 f_now), (h, oX8 (.ref q_now) (.int x_arches) (.int x_cats) w_text (.int x_typed) (.ref q_row) (.int u_32.1) (.int (0 : Int32)) w_read (.int x_length) (.int x_top) (.int x_at) (.int x_wrong) w_told w_rule w_otherRule (.int x_ruleSize) (.int x_isAsked) w_asked w_undos (.int x_undoMany) w_aside w_then w_hold (.int x_dropped) w_acts w_guarded w_train (.int u_17) w_feltOf w_feltBy (.int x_feltMany) w_many w_heardOf w_heardBy (.int x_heardMany) w_worth (.int x_drawn) (.int x_came) w_kept w_isKept w_keptCame), (q_row, aJ cT 16 u_32.2)]) C0 lk_X8_249 (c_X8_tell l D cT F h (u_17.toInt64) (.ref q_now) x_arches x_cats w_text x_typed q_row (0 : Int32) (0 : Int32) w_read x_length x_top x_at x_wrong w_told w_rule w_otherRule x_ruleSize x_isAsked w_asked w_undos x_undoMany w_aside w_then w_hold x_dropped w_acts w_guarded w_train u_17 w_feltOf w_feltBy x_feltMany w_many w_heardOf w_heardBy x_heardMany w_worth x_drawn x_came w_kept w_isKept w_keptCame f_row _ hg) hP hD hS hA [1, 0] [2] (by decide +kernel) rfl rfl (fun _ => rfl) rfl rfl ⟨Nat.le_of_ble_eq_true rfl, Nat.le_of_ble_eq_true rfl⟩ rfl hl.1 rfl (Nat.le_of_ble_eq_true rfl) dX8_trolley_32 ⟨Nat.le_of_ble_eq_true rfl, Nat.le_of_ble_eq_true rfl⟩ ?_
    intro u_32 H locs hg hP hD hS
    refine lv_iload_n hx hb dX8_trolley_35 rfl (lv_at hl 0 rfl) ?_
    exact k_iret C0 hr (u_32.1, (0 : Int32), u_17, u_32.2) hg (subP hP [1, 0, 2] rfl) (hD.sub [1, 0, 2] (nd2_ok _ (by decide +kernel)) rfl) hS dX8_trolley_36
  have hg := hg.2 c_10
  refine lv_iconst (v := (-1 : Int32)) hx hb dX8_trolley_13 (by decide) ?_
  exact k_iret C0 hr (x_rowMany, (0 : Int32), x_trolleyEnd, f_row) hg hP hD hS dX8_trolley_14
theorem dX8_depot_0 : decode cX8_depot 0 = .ok (.aload_n 0, 1) := by decide +kernel
theorem dX8_depot_1 : decode cX8_depot 1 = .ok (.iconst 0, 1) := by decide +kernel
theorem dX8_depot_2 : decode cX8_depot 2 = .ok (.putfield 82, 3) := by decide +kernel
theorem dX8_depot_5 : decode cX8_depot 5 = .ok (.aload_n 0, 1) := by decide +kernel
theorem dX8_depot_6 : decode cX8_depot 6 = .ok (.getfield 89, 3) := by decide +kernel
theorem dX8_depot_9 : decode cX8_depot 9 = .ok (.ifCond .ne 6, 3) := by decide +kernel
theorem dX8_depot_12 : decode cX8_depot 12 = .ok (.bipush (-2), 2) := by decide +kernel
theorem dX8_depot_14 : decode cX8_depot 14 = .ok (.ireturn, 1) := by decide +kernel
theorem dX8_depot_15 : decode cX8_depot 15 = .ok (.iconst 0, 1) := by decide +kernel
theorem dX8_depot_16 : decode cX8_depot 16 = .ok (.istore_n 1, 1) := by decide +kernel
theorem dX8_depot_17 : decode cX8_depot 17 = .ok (.iconst 1, 1) := by decide +kernel
theorem dX8_depot_18 : decode cX8_depot 18 = .ok (.istore_n 2, 1) := by decide +kernel
theorem dX8_depot_19 : decode cX8_depot 19 = .ok (.iload_n 2, 1) := by decide +kernel
theorem dX8_depot_20 : decode cX8_depot 20 = .ok (.aload_n 0, 1) := by decide +kernel
theorem dX8_depot_21 : decode cX8_depot 21 = .ok (.getfield 89, 3) := by decide +kernel
theorem dX8_depot_24 : decode cX8_depot 24 = .ok (.if_icmp .ge 28, 3) := by decide +kernel
theorem dX8_depot_27 : decode cX8_depot 27 = .ok (.aload_n 0, 1) := by decide +kernel
theorem dX8_depot_28 : decode cX8_depot 28 = .ok (.iload_n 2, 1) := by decide +kernel
theorem dX8_depot_29 : decode cX8_depot 29 = .ok (.invokevirtual 323, 3) := by decide +kernel
theorem dX8_depot_32 : decode cX8_depot 32 = .ok (.aload_n 0, 1) := by decide +kernel
theorem dX8_depot_33 : decode cX8_depot 33 = .ok (.iload_n 1, 1) := by decide +kernel
theorem dX8_depot_34 : decode cX8_depot 34 = .ok (.invokevirtual 323, 3) := by decide +kernel
theorem dX8_depot_37 : decode cX8_depot 37 = .ok (.if_icmp .ge 7, 3) := by decide +kernel
theorem dX8_depot_40 : decode cX8_depot 40 = .ok (.iload_n 2, 1) := by decide +kernel
theorem dX8_depot_41 : decode cX8_depot 41 = .ok (.goto 4, 3) := by decide +kernel
theorem dX8_depot_44 : decode cX8_depot 44 = .ok (.iload_n 1, 1) := by decide +kernel
theorem dX8_depot_45 : decode cX8_depot 45 = .ok (.istore_n 1, 1) := by decide +kernel
theorem dX8_depot_46 : decode cX8_depot 46 = .ok (.iinc 2 1, 3) := by decide +kernel
theorem dX8_depot_49 : decode cX8_depot 49 = .ok (.goto (-30), 3) := by decide +kernel
theorem dX8_depot_52 : decode cX8_depot 52 = .ok (.aload_n 0, 1) := by decide +kernel
theorem dX8_depot_53 : decode cX8_depot 53 = .ok (.iconst 0, 1) := by decide +kernel
theorem dX8_depot_54 : decode cX8_depot 54 = .ok (.putfield 86, 3) := by decide +kernel
theorem dX8_depot_57 : decode cX8_depot 57 = .ok (.aload_n 0, 1) := by decide +kernel
theorem dX8_depot_58 : decode cX8_depot 58 = .ok (.aload_n 0, 1) := by decide +kernel
theorem dX8_depot_59 : decode cX8_depot 59 = .ok (.iload_n 1, 1) := by decide +kernel
theorem dX8_depot_60 : decode cX8_depot 60 = .ok (.invokevirtual 323, 3) := by decide +kernel
theorem dX8_depot_63 : decode cX8_depot 63 = .ok (.i2l, 1) := by decide +kernel
theorem dX8_depot_64 : decode cX8_depot 64 = .ok (.invokevirtual 249, 3) := by decide +kernel
theorem dX8_depot_67 : decode cX8_depot 67 = .ok (.iload_n 1, 1) := by decide +kernel
theorem dX8_depot_68 : decode cX8_depot 68 = .ok (.ireturn, 1) := by decide +kernel
def p_X8_depot_45 (F : Nat) (u_34 : Int32) (y2_19 : Int32) (k19 : Int32 → Int32 → Int32 → Prop) (Post : Int32 → (Int32 × Int32 × Int32 × (Nat → Int64)) → Prop) (s0_45 : Int32) : Prop := (k19 (y2_19 + (1 : Int32)) s0_45 u_34)
noncomputable def p_X8_depot_19 (F : Nat) (x_arches : Int32) (f_now : Nat → Int32) (f_row : Nat → Int64) (Post : Int32 → (Int32 × Int32 × Int32 × (Nat → Int64)) → Prop) (n : Nat) : Int32 → Int32 → Int32 → Prop := Nat.rec (motive := fun _ => Int32 → Int32 → Int32 → Prop) (fun _ _ _ => False) (fun _ k19 => fun (y2_19 : Int32) (y1_19 : Int32) (x_trolleyEnd_19 : Int32) => ((x_arches ≤ y2_19 → (p_X8_goTrolley F y1_19 x_arches f_now (fun (r_60 : Int32) (u_60 : Int32) => (p_X8_tell F (r_60.toInt64) (0 : Int32) f_row (fun (u_64 : (Int32 × (Nat → Int64))) => (Post y1_19 (u_64.1, (0 : Int32), u_60, u_64.2))))))) ∧ (¬ x_arches ≤ y2_19 → (p_X8_goTrolley F y2_19 x_arches f_now (fun (r_29 : Int32) (u_29 : Int32) => (p_X8_goTrolley F y1_19 x_arches f_now (fun (r_34 : Int32) (u_34 : Int32) => ((r_34 ≤ r_29 → (p_X8_depot_45 F u_34 y2_19 k19 Post y1_19)) ∧ (¬ r_34 ≤ r_29 → (p_X8_depot_45 F u_34 y2_19 k19 Post y2_19)))))))))) n
theorem p_X8_depot_19_s (F : Nat) (x_arches : Int32) (f_now : Nat → Int32) (f_row : Nat → Int64) (Post : Int32 → (Int32 × Int32 × Int32 × (Nat → Int64)) → Prop) (n : Nat) (y2_19 : Int32) (y1_19 : Int32) (x_trolleyEnd_19 : Int32) : p_X8_depot_19 F x_arches f_now f_row Post (n + 1) y2_19 y1_19 x_trolleyEnd_19 = ((x_arches ≤ y2_19 → (p_X8_goTrolley F y1_19 x_arches f_now (fun (r_60 : Int32) (u_60 : Int32) => (p_X8_tell F (r_60.toInt64) (0 : Int32) f_row (fun (u_64 : (Int32 × (Nat → Int64))) => (Post y1_19 (u_64.1, (0 : Int32), u_60, u_64.2))))))) ∧ (¬ x_arches ≤ y2_19 → (p_X8_goTrolley F y2_19 x_arches f_now (fun (r_29 : Int32) (u_29 : Int32) => (p_X8_goTrolley F y1_19 x_arches f_now (fun (r_34 : Int32) (u_34 : Int32) => ((r_34 ≤ r_29 → (p_X8_depot_45 F u_34 y2_19 (p_X8_depot_19 F x_arches f_now f_row Post n) Post y1_19)) ∧ (¬ r_34 ≤ r_29 → (p_X8_depot_45 F u_34 y2_19 (p_X8_depot_19 F x_arches f_now f_row Post n) Post y2_19))))))))) := rfl
def p_X8_depot (F : Nat) (x_arches : Int32) (x_rowMany : Int32) (x_trolleyEnd : Int32) (f_now : Nat → Int32) (f_row : Nat → Int64) (Post : Int32 → (Int32 × Int32 × Int32 × (Nat → Int64)) → Prop) : Prop := ((¬ x_arches = 0 → (p_X8_depot_19 F x_arches f_now f_row Post F (1 : Int32) (0 : Int32) x_trolleyEnd)) ∧ (x_arches = 0 → (Post (-2 : Int32) (x_rowMany, (0 : Int32), x_trolleyEnd, f_row))))
set_option maxHeartbeats 4000000 in
set_option maxRecDepth 100000 in
theorem c_X8_depot (l : Launch) (D : va_G) (cT : Nat → ClassId) (F : Nat) (h : Nat) (q_now : Nat) (x_arches : Int32) (x_cats : Int32) (w_text : Value) (x_typed : Int32) (q_row : Nat) (x_rowMany : Int32) (x_thrown : Int32) (w_read : Value) (x_length : Int32) (x_top : Int32) (x_at : Int32) (x_wrong : Int32) (w_told : Value) (w_rule : Value) (w_otherRule : Value) (x_ruleSize : Int32) (x_isAsked : Int32) (w_asked : Value) (w_undos : Value) (x_undoMany : Int32) (w_aside : Value) (w_then : Value) (w_hold : Value) (x_dropped : Int32) (w_acts : Value) (w_guarded : Value) (w_train : Value) (x_trolleyEnd : Int32) (w_feltOf : Value) (w_feltBy : Value) (x_feltMany : Int32) (w_many : Value) (w_heardOf : Value) (w_heardBy : Value) (x_heardMany : Int32) (w_worth : Value) (x_drawn : Int32) (x_came : Int32) (w_kept : Value) (w_isKept : Value) (w_keptCame : Value) (f_now : Nat → Int32) (f_row : Nat → Int64) (Post : Int32 → (Int32 × Int32 × Int32 × (Nat → Int64)) → Prop) (hg : p_X8_depot F x_arches x_rowMany x_trolleyEnd f_now f_row Post) : MWi l D cT yX8_depot cX8_depot 3 (some .int) 2 57 0 0 [.ref h] [(h, oX8 (.ref q_now) (.int x_arches) (.int x_cats) w_text (.int x_typed) (.ref q_row) (.int x_rowMany) (.int x_thrown) w_read (.int x_length) (.int x_top) (.int x_at) (.int x_wrong) w_told w_rule w_otherRule (.int x_ruleSize) (.int x_isAsked) w_asked w_undos (.int x_undoMany) w_aside w_then w_hold (.int x_dropped) w_acts w_guarded w_train (.int x_trolleyEnd) w_feltOf w_feltBy (.int x_feltMany) w_many w_heardOf w_heardBy (.int x_heardMany) w_worth (.int x_drawn) (.int x_came) w_kept w_isKept w_keptCame), (q_now, aI cT 47 f_now), (q_row, aJ cT 16 f_row)] Post (fun (u : (Int32 × Int32 × Int32 × (Nat → Int64))) => [(h, oX8 (.ref q_now) (.int x_arches) (.int x_cats) w_text (.int x_typed) (.ref q_row) (.int u.1) (.int u.2.1) w_read (.int x_length) (.int x_top) (.int x_at) (.int x_wrong) w_told w_rule w_otherRule (.int x_ruleSize) (.int x_isAsked) w_asked w_undos (.int x_undoMany) w_aside w_then w_hold (.int x_dropped) w_acts w_guarded w_train (.int u.2.2.1) w_feltOf w_feltBy (.int x_feltMany) w_many w_heardOf w_heardBy (.int x_heardMany) w_worth (.int x_drawn) (.int x_came) w_kept w_isKept w_keptCame), (q_now, aI cT 47 f_now), (q_row, aJ cT 16 u.2.2.2)]) := by
  refine MWi.of (by decide) (Nat.le_of_ble_eq_true rfl) ?_
  intro p e s m below meth c A hA C0 hnm hr hP hD ls hl
  have hl : lv_has ls 3 [(0, .ref h)] := hl
  have hx := C0.x
  have hb := C0.b
  have hS : va_S A s.heap s.heap [] := va_S.rf
  have hP : va_P D cls9 [(h, oX8 (.ref q_now) (.int x_arches) (.int x_cats) w_text (.int x_typed) (.ref q_row) (.int x_rowMany) (.int x_thrown) w_read (.int x_length) (.int x_top) (.int x_at) (.int x_wrong) w_told w_rule w_otherRule (.int x_ruleSize) (.int x_isAsked) w_asked w_undos (.int x_undoMany) w_aside w_then w_hold (.int x_dropped) w_acts w_guarded w_train (.int x_trolleyEnd) w_feltOf w_feltBy (.int x_feltMany) w_many w_heardOf w_heardBy (.int x_heardMany) w_worth (.int x_drawn) (.int x_came) w_kept w_isKept w_keptCame), (q_now, aI cT 47 f_now), (q_row, aJ cT 16 f_row)] s.heap := hP
  have hD : va_D A [(h, oX8 (.ref q_now) (.int x_arches) (.int x_cats) w_text (.int x_typed) (.ref q_row) (.int x_rowMany) (.int x_thrown) w_read (.int x_length) (.int x_top) (.int x_at) (.int x_wrong) w_told w_rule w_otherRule (.int x_ruleSize) (.int x_isAsked) w_asked w_undos (.int x_undoMany) w_aside w_then w_hold (.int x_dropped) w_acts w_guarded w_train (.int x_trolleyEnd) w_feltOf w_feltBy (.int x_feltMany) w_many w_heardOf w_heardBy (.int x_heardMany) w_worth (.int x_drawn) (.int x_came) w_kept w_isKept w_keptCame), (q_now, aI cT 47 f_now), (q_row, aJ cT 16 f_row)] := hD
  have L19 : ∀ (n19 : Nat) (y2_19 : Int32) (y1_19 : Int32) (x_trolleyEnd_19 : Int32) (H : Heap) (locs : List Loc) (ls : Array Slot), p_X8_depot_19 F x_arches f_now f_row Post n19 y2_19 y1_19 x_trolleyEnd_19 → va_P D cls9 [(h, oX8 (.ref q_now) (.int x_arches) (.int x_cats) w_text (.int x_typed) (.ref q_row) (.int x_rowMany) (.int (0 : Int32)) w_read (.int x_length) (.int x_top) (.int x_at) (.int x_wrong) w_told w_rule w_otherRule (.int x_ruleSize) (.int x_isAsked) w_asked w_undos (.int x_undoMany) w_aside w_then w_hold (.int x_dropped) w_acts w_guarded w_train (.int x_trolleyEnd_19) w_feltOf w_feltBy (.int x_feltMany) w_many w_heardOf w_heardBy (.int x_heardMany) w_worth (.int x_drawn) (.int x_came) w_kept w_isKept w_keptCame), (q_now, aI cT 47 f_now), (q_row, aJ cT 16 f_row)] H → va_D A [(h, oX8 (.ref q_now) (.int x_arches) (.int x_cats) w_text (.int x_typed) (.ref q_row) (.int x_rowMany) (.int (0 : Int32)) w_read (.int x_length) (.int x_top) (.int x_at) (.int x_wrong) w_told w_rule w_otherRule (.int x_ruleSize) (.int x_isAsked) w_asked w_undos (.int x_undoMany) w_aside w_then w_hold (.int x_dropped) w_acts w_guarded w_train (.int x_trolleyEnd_19) w_feltOf w_feltBy (.int x_feltMany) w_many w_heardOf w_heardBy (.int x_heardMany) w_worth (.int x_drawn) (.int x_came) w_kept w_isKept w_keptCame), (q_now, aI cT 47 f_now), (q_row, aJ cT 16 f_row)] → va_S A s.heap H locs → lv_has ls 3 [(0, .ref h), (1, .int y1_19), (2, .int y2_19)] → W p l e (rmO 2 57 0 0) s m ([.ref h] : List Value).toArray below meth c H locs 0 0 (MQ below (va_Qi Post (cB D A (fun (u : (Int32 × Int32 × Int32 × (Nat → Int64))) => [(h, oX8 (.ref q_now) (.int x_arches) (.int x_cats) w_text (.int x_typed) (.ref q_row) (.int u.1) (.int u.2.1) w_read (.int x_length) (.int x_top) (.int x_at) (.int x_wrong) w_told w_rule w_otherRule (.int x_ruleSize) (.int x_isAsked) w_asked w_undos (.int x_undoMany) w_aside w_then w_hold (.int x_dropped) w_acts w_guarded w_train (.int u.2.2.1) w_feltOf w_feltBy (.int x_feltMany) w_many w_heardOf w_heardBy (.int x_heardMany) w_worth (.int x_drawn) (.int x_came) w_kept w_isKept w_keptCame), (q_now, aI cT 47 f_now), (q_row, aJ cT 16 u.2.2.2)])) A) ([.ref h] : List Value).toArray s 0 0 A) (F0 m 19 ls []) := by
    intro n19
    induction n19 with
    | zero =>
      intro y2_19 y1_19 x_trolleyEnd_19 H locs ls hg hP hD hS hl
      exact False.elim hg
    | succ n19 ih19 =>
      have L45 : ∀ (u_34 : Int32) (y2_19 : Int32) (s0_45 : Int32) (H : Heap) (locs : List Loc) (ls : Array Slot), p_X8_depot_45 F u_34 y2_19 (p_X8_depot_19 F x_arches f_now f_row Post n19) Post s0_45 → va_P D cls9 [(h, oX8 (.ref q_now) (.int x_arches) (.int x_cats) w_text (.int x_typed) (.ref q_row) (.int x_rowMany) (.int (0 : Int32)) w_read (.int x_length) (.int x_top) (.int x_at) (.int x_wrong) w_told w_rule w_otherRule (.int x_ruleSize) (.int x_isAsked) w_asked w_undos (.int x_undoMany) w_aside w_then w_hold (.int x_dropped) w_acts w_guarded w_train (.int u_34) w_feltOf w_feltBy (.int x_feltMany) w_many w_heardOf w_heardBy (.int x_heardMany) w_worth (.int x_drawn) (.int x_came) w_kept w_isKept w_keptCame), (q_now, aI cT 47 f_now), (q_row, aJ cT 16 f_row)] H → va_D A [(h, oX8 (.ref q_now) (.int x_arches) (.int x_cats) w_text (.int x_typed) (.ref q_row) (.int x_rowMany) (.int (0 : Int32)) w_read (.int x_length) (.int x_top) (.int x_at) (.int x_wrong) w_told w_rule w_otherRule (.int x_ruleSize) (.int x_isAsked) w_asked w_undos (.int x_undoMany) w_aside w_then w_hold (.int x_dropped) w_acts w_guarded w_train (.int u_34) w_feltOf w_feltBy (.int x_feltMany) w_many w_heardOf w_heardBy (.int x_heardMany) w_worth (.int x_drawn) (.int x_came) w_kept w_isKept w_keptCame), (q_now, aI cT 47 f_now), (q_row, aJ cT 16 f_row)] → va_S A s.heap H locs → lv_has ls 3 [(0, .ref h), (2, .int y2_19)] → W p l e (rmO 2 57 0 0) s m ([.ref h] : List Value).toArray below meth c H locs 0 0 (MQ below (va_Qi Post (cB D A (fun (u : (Int32 × Int32 × Int32 × (Nat → Int64))) => [(h, oX8 (.ref q_now) (.int x_arches) (.int x_cats) w_text (.int x_typed) (.ref q_row) (.int u.1) (.int u.2.1) w_read (.int x_length) (.int x_top) (.int x_at) (.int x_wrong) w_told w_rule w_otherRule (.int x_ruleSize) (.int x_isAsked) w_asked w_undos (.int x_undoMany) w_aside w_then w_hold (.int x_dropped) w_acts w_guarded w_train (.int u.2.2.1) w_feltOf w_feltBy (.int x_feltMany) w_many w_heardOf w_heardBy (.int x_heardMany) w_worth (.int x_drawn) (.int x_came) w_kept w_isKept w_keptCame), (q_now, aI cT 47 f_now), (q_row, aJ cT 16 u.2.2.2)])) A) ([.ref h] : List Value).toArray s 0 0 A) (F0 m 45 ls [.int s0_45]) := by
        intro u_34 y2_19 s0_45 H locs ls hg hP hD hS hl
        unfold p_X8_depot_45 at hg
        refine lv_istore_n (lv' := [(1, .int s0_45), (0, .ref h), (2, .int y2_19)]) hx hb dX8_depot_45 rfl hl (by decide) rfl (fun ls hl => ?_)
        refine lv_iinc (v := (y2_19 + (1 : Int32))) (lv' := [(2, .int (y2_19 + (1 : Int32))), (1, .int s0_45), (0, .ref h)]) hx hb dX8_depot_46 hl (k := 2) rfl rfl (by decide) rfl (fun ls hl => ?_)
        refine lv_goto (tgt := 19) hx hb dX8_depot_49 (by decide) ?_
        exact ih19 (y2_19 + (1 : Int32)) s0_45 u_34 _ _ _ hg hP hD hS (lv_sub hl [2, 1, 0] rfl)
      intro y2_19 y1_19 x_trolleyEnd_19 H locs ls hg hP hD hS hl
      rw [p_X8_depot_19_s] at hg
      refine lv_iload_n hx hb dX8_depot_19 rfl (lv_at hl 2 rfl) ?_
      refine lv_aload_n hx hb dX8_depot_20 rfl (lv_at hl 0 rfl) ?_
      refine gf_X8_89 C0 hP 0 rfl rfl dX8_depot_21 ?_
      refine lv_icmp_ge (tgt := 52) hx hb dX8_depot_24 (by decide) (fun c_24 => ?_) (fun c_24 => ?_)
      · have hg := hg.1 c_24
        refine lv_aload_n hx hb dX8_depot_52 rfl (lv_at hl 0 rfl) ?_
        refine lv_iconst (v := (0 : Int32)) hx hb dX8_depot_53 (by decide) ?_
        refine pf_X8_86 C0 hP hD hS 0 rfl (Nat.le_of_ble_eq_true rfl) (ws2 := [(h, oX8 (.ref q_now) (.int x_arches) (.int x_cats) w_text (.int x_typed) (.ref q_row) (.int (0 : Int32)) (.int (0 : Int32)) w_read (.int x_length) (.int x_top) (.int x_at) (.int x_wrong) w_told w_rule w_otherRule (.int x_ruleSize) (.int x_isAsked) w_asked w_undos (.int x_undoMany) w_aside w_then w_hold (.int x_dropped) w_acts w_guarded w_train (.int x_trolleyEnd_19) w_feltOf w_feltBy (.int x_feltMany) w_many w_heardOf w_heardBy (.int x_heardMany) w_worth (.int x_drawn) (.int x_came) w_kept w_isKept w_keptCame), (q_now, aI cT 47 f_now), (q_row, aJ cT 16 f_row)]) rfl dX8_depot_54 (fun H locs hP hD hS => ?_)
        refine lv_aload_n hx hb dX8_depot_57 rfl (lv_at hl 0 rfl) ?_
        refine lv_aload_n hx hb dX8_depot_58 rfl (lv_at hl 0 rfl) ?_
        refine lv_iload_n hx hb dX8_depot_59 rfl (lv_at hl 1 rfl) ?_
        refine k_Vi (rest := [.ref h]) (wr := [(q_row, aJ cT 16 f_row)]) (w2 := fun u_60 => [(q_row, aJ cT 16 f_row), (h, oX8 (.ref q_now) (.int x_arches) (.int x_cats) w_text (.int x_typed) (.ref q_row) (.int (0 : Int32)) (.int (0 : Int32)) w_read (.int x_length) (.int x_top) (.int x_at) (.int x_wrong) w_told w_rule w_otherRule (.int x_ruleSize) (.int x_isAsked) w_asked w_undos (.int x_undoMany) w_aside w_then w_hold (.int x_dropped) w_acts w_guarded w_train (.int u_60) w_feltOf w_feltBy (.int x_feltMany) w_many w_heardOf w_heardBy (.int x_heardMany) w_worth (.int x_drawn) (.int x_came) w_kept w_isKept w_keptCame), (q_now, aI cT 47 f_now)]) C0 lk_X8_323 (c_X8_goTrolley l D cT F h y1_19 q_now x_arches x_cats w_text x_typed (.ref q_row) (0 : Int32) (0 : Int32) w_read x_length x_top x_at x_wrong w_told w_rule w_otherRule x_ruleSize x_isAsked w_asked w_undos x_undoMany w_aside w_then w_hold x_dropped w_acts w_guarded w_train x_trolleyEnd_19 w_feltOf w_feltBy x_feltMany w_many w_heardOf w_heardBy x_heardMany w_worth x_drawn x_came w_kept w_isKept w_keptCame f_now _ hg) hP hD hS hA [0, 1] [2] (by decide +kernel) rfl rfl (fun _ => rfl) rfl rfl ⟨Nat.le_of_ble_eq_true rfl, Nat.le_of_ble_eq_true rfl⟩ rfl hl.1 rfl (Nat.le_of_ble_eq_true rfl) dX8_depot_60 ⟨Nat.le_of_ble_eq_true rfl, Nat.le_of_ble_eq_true rfl⟩ ?_
        intro r_60 u_60 H locs hg hP hD hS
        refine lv_i2l (v := (r_60.toInt64)) hx hb dX8_depot_63 rfl ?_
        refine k_Vv (rest := []) (wr := [(q_now, aI cT 47 f_now)]) (w2 := fun u_64 => [(q_now, aI cT 47 f_now), (h, oX8 (.ref q_now) (.int x_arches) (.int x_cats) w_text (.int x_typed) (.ref q_row) (.int u_64.1) (.int (0 : Int32)) w_read (.int x_length) (.int x_top) (.int x_at) (.int x_wrong) w_told w_rule w_otherRule (.int x_ruleSize) (.int x_isAsked) w_asked w_undos (.int x_undoMany) w_aside w_then w_hold (.int x_dropped) w_acts w_guarded w_train (.int u_60) w_feltOf w_feltBy (.int x_feltMany) w_many w_heardOf w_heardBy (.int x_heardMany) w_worth (.int x_drawn) (.int x_came) w_kept w_isKept w_keptCame), (q_row, aJ cT 16 u_64.2)]) C0 lk_X8_249 (c_X8_tell l D cT F h (r_60.toInt64) (.ref q_now) x_arches x_cats w_text x_typed q_row (0 : Int32) (0 : Int32) w_read x_length x_top x_at x_wrong w_told w_rule w_otherRule x_ruleSize x_isAsked w_asked w_undos x_undoMany w_aside w_then w_hold x_dropped w_acts w_guarded w_train u_60 w_feltOf w_feltBy x_feltMany w_many w_heardOf w_heardBy x_heardMany w_worth x_drawn x_came w_kept w_isKept w_keptCame f_row _ hg) hP hD hS hA [1, 0] [2] (by decide +kernel) rfl rfl (fun _ => rfl) rfl rfl ⟨Nat.le_of_ble_eq_true rfl, Nat.le_of_ble_eq_true rfl⟩ rfl hl.1 rfl (Nat.le_of_ble_eq_true rfl) dX8_depot_64 ⟨Nat.le_of_ble_eq_true rfl, Nat.le_of_ble_eq_true rfl⟩ ?_
        intro u_64 H locs hg hP hD hS
        refine lv_iload_n hx hb dX8_depot_67 rfl (lv_at hl 1 rfl) ?_
        exact k_iret C0 hr (u_64.1, (0 : Int32), u_60, u_64.2) hg (subP hP [1, 0, 2] rfl) (hD.sub [1, 0, 2] (nd2_ok _ (by decide +kernel)) rfl) hS dX8_depot_68
      have hg := hg.2 c_24
      refine lv_aload_n hx hb dX8_depot_27 rfl (lv_at hl 0 rfl) ?_
      refine lv_iload_n hx hb dX8_depot_28 rfl (lv_at hl 2 rfl) ?_
      refine k_Vi (rest := []) (wr := [(q_row, aJ cT 16 f_row)]) (w2 := fun u_29 => [(q_row, aJ cT 16 f_row), (h, oX8 (.ref q_now) (.int x_arches) (.int x_cats) w_text (.int x_typed) (.ref q_row) (.int x_rowMany) (.int (0 : Int32)) w_read (.int x_length) (.int x_top) (.int x_at) (.int x_wrong) w_told w_rule w_otherRule (.int x_ruleSize) (.int x_isAsked) w_asked w_undos (.int x_undoMany) w_aside w_then w_hold (.int x_dropped) w_acts w_guarded w_train (.int u_29) w_feltOf w_feltBy (.int x_feltMany) w_many w_heardOf w_heardBy (.int x_heardMany) w_worth (.int x_drawn) (.int x_came) w_kept w_isKept w_keptCame), (q_now, aI cT 47 f_now)]) C0 lk_X8_323 (c_X8_goTrolley l D cT F h y2_19 q_now x_arches x_cats w_text x_typed (.ref q_row) x_rowMany (0 : Int32) w_read x_length x_top x_at x_wrong w_told w_rule w_otherRule x_ruleSize x_isAsked w_asked w_undos x_undoMany w_aside w_then w_hold x_dropped w_acts w_guarded w_train x_trolleyEnd_19 w_feltOf w_feltBy x_feltMany w_many w_heardOf w_heardBy x_heardMany w_worth x_drawn x_came w_kept w_isKept w_keptCame f_now _ hg) hP hD hS hA [0, 1] [2] (by decide +kernel) rfl rfl (fun _ => rfl) rfl rfl ⟨Nat.le_of_ble_eq_true rfl, Nat.le_of_ble_eq_true rfl⟩ rfl hl.1 rfl (Nat.le_of_ble_eq_true rfl) dX8_depot_29 ⟨Nat.le_of_ble_eq_true rfl, Nat.le_of_ble_eq_true rfl⟩ ?_
      intro r_29 u_29 H locs hg hP hD hS
      refine lv_aload_n hx hb dX8_depot_32 rfl (lv_at hl 0 rfl) ?_
      refine lv_iload_n hx hb dX8_depot_33 rfl (lv_at hl 1 rfl) ?_
      refine k_Vi (rest := [.int r_29]) (wr := [(q_row, aJ cT 16 f_row)]) (w2 := fun u_34 => [(q_row, aJ cT 16 f_row), (h, oX8 (.ref q_now) (.int x_arches) (.int x_cats) w_text (.int x_typed) (.ref q_row) (.int x_rowMany) (.int (0 : Int32)) w_read (.int x_length) (.int x_top) (.int x_at) (.int x_wrong) w_told w_rule w_otherRule (.int x_ruleSize) (.int x_isAsked) w_asked w_undos (.int x_undoMany) w_aside w_then w_hold (.int x_dropped) w_acts w_guarded w_train (.int u_34) w_feltOf w_feltBy (.int x_feltMany) w_many w_heardOf w_heardBy (.int x_heardMany) w_worth (.int x_drawn) (.int x_came) w_kept w_isKept w_keptCame), (q_now, aI cT 47 f_now)]) C0 lk_X8_323 (c_X8_goTrolley l D cT F h y1_19 q_now x_arches x_cats w_text x_typed (.ref q_row) x_rowMany (0 : Int32) w_read x_length x_top x_at x_wrong w_told w_rule w_otherRule x_ruleSize x_isAsked w_asked w_undos x_undoMany w_aside w_then w_hold x_dropped w_acts w_guarded w_train u_29 w_feltOf w_feltBy x_feltMany w_many w_heardOf w_heardBy x_heardMany w_worth x_drawn x_came w_kept w_isKept w_keptCame f_now _ hg) hP hD hS hA [1, 2] [0] (by decide +kernel) rfl rfl (fun _ => rfl) rfl rfl ⟨Nat.le_of_ble_eq_true rfl, Nat.le_of_ble_eq_true rfl⟩ rfl hl.1 rfl (Nat.le_of_ble_eq_true rfl) dX8_depot_34 ⟨Nat.le_of_ble_eq_true rfl, Nat.le_of_ble_eq_true rfl⟩ ?_
      intro r_34 u_34 H locs hg hP hD hS
      refine lv_icmp_ge (tgt := 44) hx hb dX8_depot_37 (by decide) (fun c_37 => ?_) (fun c_37 => ?_)
      · have hg := hg.1 c_37
        refine lv_iload_n hx hb dX8_depot_44 rfl (lv_at hl 1 rfl) ?_
        exact L45 u_34 y2_19 y1_19 _ _ _ hg (subP hP [1, 2, 0] rfl) (hD.sub [1, 2, 0] (nd2_ok _ (by decide +kernel)) rfl) hS (lv_sub hl [0, 2] rfl)
      have hg := hg.2 c_37
      refine lv_iload_n hx hb dX8_depot_40 rfl (lv_at hl 2 rfl) ?_
      refine lv_goto (tgt := 45) hx hb dX8_depot_41 (by decide) ?_
      exact L45 u_34 y2_19 y2_19 _ _ _ hg (subP hP [1, 2, 0] rfl) (hD.sub [1, 2, 0] (nd2_ok _ (by decide +kernel)) rfl) hS (lv_sub hl [0, 2] rfl)
  unfold p_X8_depot at hg
  refine lv_aload_n hx hb dX8_depot_0 rfl (lv_at hl 0 rfl) ?_
  refine lv_iconst (v := (0 : Int32)) hx hb dX8_depot_1 (by decide) ?_
  refine pf_X8_82 C0 hP hD hS 0 rfl (Nat.le_of_ble_eq_true rfl) (ws2 := [(h, oX8 (.ref q_now) (.int x_arches) (.int x_cats) w_text (.int x_typed) (.ref q_row) (.int x_rowMany) (.int (0 : Int32)) w_read (.int x_length) (.int x_top) (.int x_at) (.int x_wrong) w_told w_rule w_otherRule (.int x_ruleSize) (.int x_isAsked) w_asked w_undos (.int x_undoMany) w_aside w_then w_hold (.int x_dropped) w_acts w_guarded w_train (.int x_trolleyEnd) w_feltOf w_feltBy (.int x_feltMany) w_many w_heardOf w_heardBy (.int x_heardMany) w_worth (.int x_drawn) (.int x_came) w_kept w_isKept w_keptCame), (q_now, aI cT 47 f_now), (q_row, aJ cT 16 f_row)]) rfl dX8_depot_2 (fun H locs hP hD hS => ?_)
  refine lv_aload_n hx hb dX8_depot_5 rfl (lv_at hl 0 rfl) ?_
  refine gf_X8_89 C0 hP 0 rfl rfl dX8_depot_6 ?_
  refine lv_if_ne (tgt := 15) hx hb dX8_depot_9 (by decide) (fun c_9 => ?_) (fun c_9 => ?_)
  · have hg := hg.1 c_9
    refine lv_iconst (v := (0 : Int32)) hx hb dX8_depot_15 (by decide) ?_
    refine lv_istore_n (lv' := [(1, .int (0 : Int32)), (0, .ref h)]) hx hb dX8_depot_16 rfl hl (by decide) rfl (fun ls hl => ?_)
    refine lv_iconst (v := (1 : Int32)) hx hb dX8_depot_17 (by decide) ?_
    refine lv_istore_n (lv' := [(2, .int (1 : Int32)), (1, .int (0 : Int32)), (0, .ref h)]) hx hb dX8_depot_18 rfl hl (by decide) rfl (fun ls hl => ?_)
    exact L19 F (1 : Int32) (0 : Int32) x_trolleyEnd _ _ _ hg hP hD hS (lv_sub hl [2, 1, 0] rfl)
  have hg := hg.2 c_9
  refine lv_bipush (v := (-2 : Int32)) hx hb dX8_depot_12 (by decide) ?_
  exact k_iret C0 hr (x_rowMany, (0 : Int32), x_trolleyEnd, f_row) hg hP hD hS dX8_depot_14
theorem dX8_felt_0 : decode cX8_felt 0 = .ok (.aload_n 0, 1) := by decide +kernel
theorem dX8_felt_1 : decode cX8_felt 1 = .ok (.iconst 0, 1) := by decide +kernel
theorem dX8_felt_2 : decode cX8_felt 2 = .ok (.putfield 82, 3) := by decide +kernel
theorem dX8_felt_5 : decode cX8_felt 5 = .ok (.aload_n 0, 1) := by decide +kernel
theorem dX8_felt_6 : decode cX8_felt 6 = .ok (.iload_n 1, 1) := by decide +kernel
theorem dX8_felt_7 : decode cX8_felt 7 = .ok (.invokevirtual 214, 3) := by decide +kernel
theorem dX8_felt_10 : decode cX8_felt 10 = .ok (.ifCond .eq 22, 3) := by decide +kernel
theorem dX8_felt_13 : decode cX8_felt 13 = .ok (.iload_n 2, 1) := by decide +kernel
theorem dX8_felt_14 : decode cX8_felt 14 = .ok (.iconst 0, 1) := by decide +kernel
theorem dX8_felt_15 : decode cX8_felt 15 = .ok (.bipush 72, 2) := by decide +kernel
theorem dX8_felt_17 : decode cX8_felt 17 = .ok (.invokestatic 92, 3) := by decide +kernel
theorem dX8_felt_20 : decode cX8_felt 20 = .ok (.ifCond .eq 12, 3) := by decide +kernel
theorem dX8_felt_23 : decode cX8_felt 23 = .ok (.aload_n 0, 1) := by decide +kernel
theorem dX8_felt_24 : decode cX8_felt 24 = .ok (.getfield 326, 3) := by decide +kernel
theorem dX8_felt_27 : decode cX8_felt 27 = .ok (.bipush 10, 2) := by decide +kernel
theorem dX8_felt_29 : decode cX8_felt 29 = .ok (.if_icmp .ne 5, 3) := by decide +kernel
theorem dX8_felt_32 : decode cX8_felt 32 = .ok (.iconst (-1), 1) := by decide +kernel
theorem dX8_felt_33 : decode cX8_felt 33 = .ok (.ireturn, 1) := by decide +kernel
theorem dX8_felt_34 : decode cX8_felt 34 = .ok (.aload_n 0, 1) := by decide +kernel
theorem dX8_felt_35 : decode cX8_felt 35 = .ok (.getfield 54, 3) := by decide +kernel
theorem dX8_felt_38 : decode cX8_felt 38 = .ok (.aload_n 0, 1) := by decide +kernel
theorem dX8_felt_39 : decode cX8_felt 39 = .ok (.getfield 326, 3) := by decide +kernel
theorem dX8_felt_42 : decode cX8_felt 42 = .ok (.iload_n 1, 1) := by decide +kernel
theorem dX8_felt_43 : decode cX8_felt 43 = .ok (.iastore, 1) := by decide +kernel
theorem dX8_felt_44 : decode cX8_felt 44 = .ok (.aload_n 0, 1) := by decide +kernel
theorem dX8_felt_45 : decode cX8_felt 45 = .ok (.getfield 57, 3) := by decide +kernel
theorem dX8_felt_48 : decode cX8_felt 48 = .ok (.aload_n 0, 1) := by decide +kernel
theorem dX8_felt_49 : decode cX8_felt 49 = .ok (.getfield 326, 3) := by decide +kernel
theorem dX8_felt_52 : decode cX8_felt 52 = .ok (.iload_n 2, 1) := by decide +kernel
theorem dX8_felt_53 : decode cX8_felt 53 = .ok (.iastore, 1) := by decide +kernel
theorem dX8_felt_54 : decode cX8_felt 54 = .ok (.aload_n 0, 1) := by decide +kernel
theorem dX8_felt_55 : decode cX8_felt 55 = .ok (.dup, 1) := by decide +kernel
theorem dX8_felt_56 : decode cX8_felt 56 = .ok (.getfield 326, 3) := by decide +kernel
theorem dX8_felt_59 : decode cX8_felt 59 = .ok (.iconst 1, 1) := by decide +kernel
theorem dX8_felt_60 : decode cX8_felt 60 = .ok (.iadd, 1) := by decide +kernel
theorem dX8_felt_61 : decode cX8_felt 61 = .ok (.putfield 326, 3) := by decide +kernel
theorem dX8_felt_64 : decode cX8_felt 64 = .ok (.aload_n 0, 1) := by decide +kernel
theorem dX8_felt_65 : decode cX8_felt 65 = .ok (.getfield 326, 3) := by decide +kernel
theorem dX8_felt_68 : decode cX8_felt 68 = .ok (.ireturn, 1) := by decide +kernel
def p_X8_felt (F : Nat) (p1 : Int32) (p2 : Int32) (x_arches : Int32) (x_feltMany : Int32) (f_feltOf : Nat → Int32) (f_feltBy : Nat → Int32) (Post : Int32 → (Int32 × Int32 × (Nat → Int32) × (Nat → Int32)) → Prop) : Prop := (p_X8_isArch F p1 x_arches (fun (r_7 : Int32) => ((r_7 = 0 → (Post (-1 : Int32) ((0 : Int32), x_feltMany, f_feltOf, f_feltBy))) ∧ (¬ r_7 = 0 → (p_X8_in F p2 (0 : Int32) (72 : Int32) (fun (r_17 : Int32) => ((r_17 = 0 → (Post (-1 : Int32) ((0 : Int32), x_feltMany, f_feltOf, f_feltBy))) ∧ (¬ r_17 = 0 → ((¬ x_feltMany = (10 : Int32) → (vp_in x_feltMany 10 ∧ (vp_in x_feltMany 10 ∧ (Post (x_feltMany + (1 : Int32)) ((0 : Int32), (x_feltMany + (1 : Int32)), (upd f_feltOf x_feltMany.toNatClampNeg p1), (upd f_feltBy x_feltMany.toNatClampNeg p2)))))) ∧ (x_feltMany = (10 : Int32) → (Post (-1 : Int32) ((0 : Int32), x_feltMany, f_feltOf, f_feltBy))))))))))))
set_option maxHeartbeats 4000000 in
set_option maxRecDepth 100000 in
theorem c_X8_felt (l : Launch) (D : va_G) (cT : Nat → ClassId) (F : Nat) (h : Nat) (p1 : Int32) (p2 : Int32) (w_now : Value) (x_arches : Int32) (x_cats : Int32) (w_text : Value) (x_typed : Int32) (w_row : Value) (x_rowMany : Int32) (x_thrown : Int32) (w_read : Value) (x_length : Int32) (x_top : Int32) (x_at : Int32) (x_wrong : Int32) (w_told : Value) (w_rule : Value) (w_otherRule : Value) (x_ruleSize : Int32) (x_isAsked : Int32) (w_asked : Value) (w_undos : Value) (x_undoMany : Int32) (w_aside : Value) (w_then : Value) (w_hold : Value) (x_dropped : Int32) (w_acts : Value) (w_guarded : Value) (w_train : Value) (x_trolleyEnd : Int32) (q_feltOf : Nat) (q_feltBy : Nat) (x_feltMany : Int32) (w_many : Value) (w_heardOf : Value) (w_heardBy : Value) (x_heardMany : Int32) (w_worth : Value) (x_drawn : Int32) (x_came : Int32) (w_kept : Value) (w_isKept : Value) (w_keptCame : Value) (f_feltOf : Nat → Int32) (f_feltBy : Nat → Int32) (Post : Int32 → (Int32 × Int32 × (Nat → Int32) × (Nat → Int32)) → Prop) (hg : p_X8_felt F p1 p2 x_arches x_feltMany f_feltOf f_feltBy Post) : MWi l D cT yX8_felt cX8_felt 3 (some .int) 2 43 0 0 [.ref h, .int p1, .int p2] [(h, oX8 w_now (.int x_arches) (.int x_cats) w_text (.int x_typed) w_row (.int x_rowMany) (.int x_thrown) w_read (.int x_length) (.int x_top) (.int x_at) (.int x_wrong) w_told w_rule w_otherRule (.int x_ruleSize) (.int x_isAsked) w_asked w_undos (.int x_undoMany) w_aside w_then w_hold (.int x_dropped) w_acts w_guarded w_train (.int x_trolleyEnd) (.ref q_feltOf) (.ref q_feltBy) (.int x_feltMany) w_many w_heardOf w_heardBy (.int x_heardMany) w_worth (.int x_drawn) (.int x_came) w_kept w_isKept w_keptCame), (q_feltOf, aI cT 10 f_feltOf), (q_feltBy, aI cT 10 f_feltBy)] Post (fun (u : (Int32 × Int32 × (Nat → Int32) × (Nat → Int32))) => [(h, oX8 w_now (.int x_arches) (.int x_cats) w_text (.int x_typed) w_row (.int x_rowMany) (.int u.1) w_read (.int x_length) (.int x_top) (.int x_at) (.int x_wrong) w_told w_rule w_otherRule (.int x_ruleSize) (.int x_isAsked) w_asked w_undos (.int x_undoMany) w_aside w_then w_hold (.int x_dropped) w_acts w_guarded w_train (.int x_trolleyEnd) (.ref q_feltOf) (.ref q_feltBy) (.int u.2.1) w_many w_heardOf w_heardBy (.int x_heardMany) w_worth (.int x_drawn) (.int x_came) w_kept w_isKept w_keptCame), (q_feltOf, aI cT 10 u.2.2.1), (q_feltBy, aI cT 10 u.2.2.2)]) := by
  refine MWi.of (by decide) (Nat.le_of_ble_eq_true rfl) ?_
  intro p e s m below meth c A hA C0 hnm hr hP hD ls hl
  have hl : lv_has ls 3 [(0, .ref h), (1, .int p1), (2, .int p2)] := hl
  have hx := C0.x
  have hb := C0.b
  have hS : va_S A s.heap s.heap [] := va_S.rf
  have hP : va_P D cls9 [(h, oX8 w_now (.int x_arches) (.int x_cats) w_text (.int x_typed) w_row (.int x_rowMany) (.int x_thrown) w_read (.int x_length) (.int x_top) (.int x_at) (.int x_wrong) w_told w_rule w_otherRule (.int x_ruleSize) (.int x_isAsked) w_asked w_undos (.int x_undoMany) w_aside w_then w_hold (.int x_dropped) w_acts w_guarded w_train (.int x_trolleyEnd) (.ref q_feltOf) (.ref q_feltBy) (.int x_feltMany) w_many w_heardOf w_heardBy (.int x_heardMany) w_worth (.int x_drawn) (.int x_came) w_kept w_isKept w_keptCame), (q_feltOf, aI cT 10 f_feltOf), (q_feltBy, aI cT 10 f_feltBy)] s.heap := hP
  have hD : va_D A [(h, oX8 w_now (.int x_arches) (.int x_cats) w_text (.int x_typed) w_row (.int x_rowMany) (.int x_thrown) w_read (.int x_length) (.int x_top) (.int x_at) (.int x_wrong) w_told w_rule w_otherRule (.int x_ruleSize) (.int x_isAsked) w_asked w_undos (.int x_undoMany) w_aside w_then w_hold (.int x_dropped) w_acts w_guarded w_train (.int x_trolleyEnd) (.ref q_feltOf) (.ref q_feltBy) (.int x_feltMany) w_many w_heardOf w_heardBy (.int x_heardMany) w_worth (.int x_drawn) (.int x_came) w_kept w_isKept w_keptCame), (q_feltOf, aI cT 10 f_feltOf), (q_feltBy, aI cT 10 f_feltBy)] := hD
  unfold p_X8_felt at hg
  refine lv_aload_n hx hb dX8_felt_0 rfl (lv_at hl 0 rfl) ?_
  refine lv_iconst (v := (0 : Int32)) hx hb dX8_felt_1 (by decide) ?_
  refine pf_X8_82 C0 hP hD hS 0 rfl (Nat.le_of_ble_eq_true rfl) (ws2 := [(h, oX8 w_now (.int x_arches) (.int x_cats) w_text (.int x_typed) w_row (.int x_rowMany) (.int (0 : Int32)) w_read (.int x_length) (.int x_top) (.int x_at) (.int x_wrong) w_told w_rule w_otherRule (.int x_ruleSize) (.int x_isAsked) w_asked w_undos (.int x_undoMany) w_aside w_then w_hold (.int x_dropped) w_acts w_guarded w_train (.int x_trolleyEnd) (.ref q_feltOf) (.ref q_feltBy) (.int x_feltMany) w_many w_heardOf w_heardBy (.int x_heardMany) w_worth (.int x_drawn) (.int x_came) w_kept w_isKept w_keptCame), (q_feltOf, aI cT 10 f_feltOf), (q_feltBy, aI cT 10 f_feltBy)]) rfl dX8_felt_2 (fun H locs hP hD hS => ?_)
  refine lv_aload_n hx hb dX8_felt_5 rfl (lv_at hl 0 rfl) ?_
  refine lv_iload_n hx hb dX8_felt_6 rfl (lv_at hl 1 rfl) ?_
  refine k_Vxi (rest := []) C0 lk_X8_214 (c_X8_isArch l D cT F h p1 w_now x_arches x_cats w_text x_typed w_row x_rowMany (0 : Int32) w_read x_length x_top x_at x_wrong w_told w_rule w_otherRule x_ruleSize x_isAsked w_asked w_undos x_undoMany w_aside w_then w_hold x_dropped w_acts w_guarded w_train x_trolleyEnd (.ref q_feltOf) (.ref q_feltBy) x_feltMany w_many w_heardOf w_heardBy x_heardMany w_worth x_drawn x_came w_kept w_isKept w_keptCame _ hg) hP hD [0] (by decide +kernel) rfl rfl rfl ⟨Nat.le_of_ble_eq_true rfl, Nat.le_of_ble_eq_true rfl⟩ rfl hl.1 rfl (Nat.le_of_ble_eq_true rfl) dX8_felt_7 ⟨Nat.le_of_ble_eq_true rfl, Nat.le_of_ble_eq_true rfl⟩ (fun r_7 hg => ?_)
  refine lv_if_eq (tgt := 32) hx hb dX8_felt_10 (by decide) (fun c_10 => ?_) (fun c_10 => ?_)
  · have hg := hg.1 c_10
    refine lv_iconst (v := (-1 : Int32)) hx hb dX8_felt_32 (by decide) ?_
    exact k_iret C0 hr ((0 : Int32), x_feltMany, f_feltOf, f_feltBy) hg hP hD hS dX8_felt_33
  have hg := hg.2 c_10
  refine lv_iload_n hx hb dX8_felt_13 rfl (lv_at hl 2 rfl) ?_
  refine lv_iconst (v := (0 : Int32)) hx hb dX8_felt_14 (by decide) ?_
  refine lv_bipush (v := (72 : Int32)) hx hb dX8_felt_15 (by decide) ?_
  refine k_Sxi (rest := []) C0 lk_X8_92 (c_X8_in l D cT F p2 (0 : Int32) (72 : Int32) _ hg) hP hD [] (by decide +kernel) rfl ⟨Nat.le_of_ble_eq_true rfl, Nat.le_of_ble_eq_true rfl⟩ rfl hl.1 rfl (Nat.le_of_ble_eq_true rfl) dX8_felt_17 ⟨Nat.le_of_ble_eq_true rfl, Nat.le_of_ble_eq_true rfl⟩ (fun r_17 hg => ?_)
  refine lv_if_eq (tgt := 32) hx hb dX8_felt_20 (by decide) (fun c_20 => ?_) (fun c_20 => ?_)
  · have hg := hg.1 c_20
    refine lv_iconst (v := (-1 : Int32)) hx hb dX8_felt_32 (by decide) ?_
    exact k_iret C0 hr ((0 : Int32), x_feltMany, f_feltOf, f_feltBy) hg hP hD hS dX8_felt_33
  have hg := hg.2 c_20
  refine lv_aload_n hx hb dX8_felt_23 rfl (lv_at hl 0 rfl) ?_
  refine gf_X8_326 C0 hP 0 rfl rfl dX8_felt_24 ?_
  refine lv_bipush (v := (10 : Int32)) hx hb dX8_felt_27 (by decide) ?_
  refine lv_icmp_ne (tgt := 34) hx hb dX8_felt_29 (by decide) (fun c_29 => ?_) (fun c_29 => ?_)
  · have hg := hg.1 c_29
    refine lv_aload_n hx hb dX8_felt_34 rfl (lv_at hl 0 rfl) ?_
    refine gf_X8_54 C0 hP 0 rfl rfl dX8_felt_35 ?_
    refine lv_aload_n hx hb dX8_felt_38 rfl (lv_at hl 0 rfl) ?_
    refine gf_X8_326 C0 hP 0 rfl rfl dX8_felt_39 ?_
    refine lv_iload_n hx hb dX8_felt_42 rfl (lv_at hl 1 rfl) ?_
    obtain ⟨g_43, hg⟩ := hg
    refine k_iast C0 hP hD hS 1 rfl g_43 (ws' := [(h, oX8 w_now (.int x_arches) (.int x_cats) w_text (.int x_typed) w_row (.int x_rowMany) (.int (0 : Int32)) w_read (.int x_length) (.int x_top) (.int x_at) (.int x_wrong) w_told w_rule w_otherRule (.int x_ruleSize) (.int x_isAsked) w_asked w_undos (.int x_undoMany) w_aside w_then w_hold (.int x_dropped) w_acts w_guarded w_train (.int x_trolleyEnd) (.ref q_feltOf) (.ref q_feltBy) (.int x_feltMany) w_many w_heardOf w_heardBy (.int x_heardMany) w_worth (.int x_drawn) (.int x_came) w_kept w_isKept w_keptCame), (q_feltOf, aI cT 10 (upd f_feltOf x_feltMany.toNatClampNeg p1)), (q_feltBy, aI cT 10 f_feltBy)]) rfl dX8_felt_43 (fun H locs hP hD hS => ?_)
    refine lv_aload_n hx hb dX8_felt_44 rfl (lv_at hl 0 rfl) ?_
    refine gf_X8_57 C0 hP 0 rfl rfl dX8_felt_45 ?_
    refine lv_aload_n hx hb dX8_felt_48 rfl (lv_at hl 0 rfl) ?_
    refine gf_X8_326 C0 hP 0 rfl rfl dX8_felt_49 ?_
    refine lv_iload_n hx hb dX8_felt_52 rfl (lv_at hl 2 rfl) ?_
    obtain ⟨g_53, hg⟩ := hg
    refine k_iast C0 hP hD hS 2 rfl g_53 (ws' := [(h, oX8 w_now (.int x_arches) (.int x_cats) w_text (.int x_typed) w_row (.int x_rowMany) (.int (0 : Int32)) w_read (.int x_length) (.int x_top) (.int x_at) (.int x_wrong) w_told w_rule w_otherRule (.int x_ruleSize) (.int x_isAsked) w_asked w_undos (.int x_undoMany) w_aside w_then w_hold (.int x_dropped) w_acts w_guarded w_train (.int x_trolleyEnd) (.ref q_feltOf) (.ref q_feltBy) (.int x_feltMany) w_many w_heardOf w_heardBy (.int x_heardMany) w_worth (.int x_drawn) (.int x_came) w_kept w_isKept w_keptCame), (q_feltOf, aI cT 10 (upd f_feltOf x_feltMany.toNatClampNeg p1)), (q_feltBy, aI cT 10 (upd f_feltBy x_feltMany.toNatClampNeg p2))]) rfl dX8_felt_53 (fun H locs hP hD hS => ?_)
    refine lv_aload_n hx hb dX8_felt_54 rfl (lv_at hl 0 rfl) ?_
    refine lv_dup hx hb dX8_felt_55 rfl ?_
    refine gf_X8_326 C0 hP 0 rfl rfl dX8_felt_56 ?_
    refine lv_iconst (v := (1 : Int32)) hx hb dX8_felt_59 (by decide) ?_
    refine lv_iadd hx hb dX8_felt_60 ?_
    refine pf_X8_326 C0 hP hD hS 0 rfl (Nat.le_of_ble_eq_true rfl) (ws2 := [(h, oX8 w_now (.int x_arches) (.int x_cats) w_text (.int x_typed) w_row (.int x_rowMany) (.int (0 : Int32)) w_read (.int x_length) (.int x_top) (.int x_at) (.int x_wrong) w_told w_rule w_otherRule (.int x_ruleSize) (.int x_isAsked) w_asked w_undos (.int x_undoMany) w_aside w_then w_hold (.int x_dropped) w_acts w_guarded w_train (.int x_trolleyEnd) (.ref q_feltOf) (.ref q_feltBy) (.int (x_feltMany + (1 : Int32))) w_many w_heardOf w_heardBy (.int x_heardMany) w_worth (.int x_drawn) (.int x_came) w_kept w_isKept w_keptCame), (q_feltOf, aI cT 10 (upd f_feltOf x_feltMany.toNatClampNeg p1)), (q_feltBy, aI cT 10 (upd f_feltBy x_feltMany.toNatClampNeg p2))]) rfl dX8_felt_61 (fun H locs hP hD hS => ?_)
    refine lv_aload_n hx hb dX8_felt_64 rfl (lv_at hl 0 rfl) ?_
    refine gf_X8_326 C0 hP 0 rfl rfl dX8_felt_65 ?_
    exact k_iret C0 hr ((0 : Int32), (x_feltMany + (1 : Int32)), (upd f_feltOf x_feltMany.toNatClampNeg p1), (upd f_feltBy x_feltMany.toNatClampNeg p2)) hg hP hD hS dX8_felt_68
  have hg := hg.2 c_29
  refine lv_iconst (v := (-1 : Int32)) hx hb dX8_felt_32 (by decide) ?_
  exact k_iret C0 hr ((0 : Int32), x_feltMany, f_feltOf, f_feltBy) hg hP hD hS dX8_felt_33
theorem dX8_forget_0 : decode cX8_forget 0 = .ok (.aload_n 0, 1) := by decide +kernel
theorem dX8_forget_1 : decode cX8_forget 1 = .ok (.iconst 0, 1) := by decide +kernel
theorem dX8_forget_2 : decode cX8_forget 2 = .ok (.putfield 82, 3) := by decide +kernel
theorem dX8_forget_5 : decode cX8_forget 5 = .ok (.aload_n 0, 1) := by decide +kernel
theorem dX8_forget_6 : decode cX8_forget 6 = .ok (.getfield 326, 3) := by decide +kernel
theorem dX8_forget_9 : decode cX8_forget 9 = .ok (.istore_n 1, 1) := by decide +kernel
theorem dX8_forget_10 : decode cX8_forget 10 = .ok (.aload_n 0, 1) := by decide +kernel
theorem dX8_forget_11 : decode cX8_forget 11 = .ok (.iconst 0, 1) := by decide +kernel
theorem dX8_forget_12 : decode cX8_forget 12 = .ok (.putfield 326, 3) := by decide +kernel
theorem dX8_forget_15 : decode cX8_forget 15 = .ok (.iload_n 1, 1) := by decide +kernel
theorem dX8_forget_16 : decode cX8_forget 16 = .ok (.ireturn, 1) := by decide +kernel
def p_X8_forget (F : Nat) (x_feltMany : Int32) (Post : Int32 → (Int32 × Int32) → Prop) : Prop := (Post x_feltMany ((0 : Int32), (0 : Int32)))
set_option maxHeartbeats 4000000 in
set_option maxRecDepth 100000 in
theorem c_X8_forget (l : Launch) (D : va_G) (cT : Nat → ClassId) (F : Nat) (h : Nat) (w_now : Value) (x_arches : Int32) (x_cats : Int32) (w_text : Value) (x_typed : Int32) (w_row : Value) (x_rowMany : Int32) (x_thrown : Int32) (w_read : Value) (x_length : Int32) (x_top : Int32) (x_at : Int32) (x_wrong : Int32) (w_told : Value) (w_rule : Value) (w_otherRule : Value) (x_ruleSize : Int32) (x_isAsked : Int32) (w_asked : Value) (w_undos : Value) (x_undoMany : Int32) (w_aside : Value) (w_then : Value) (w_hold : Value) (x_dropped : Int32) (w_acts : Value) (w_guarded : Value) (w_train : Value) (x_trolleyEnd : Int32) (w_feltOf : Value) (w_feltBy : Value) (x_feltMany : Int32) (w_many : Value) (w_heardOf : Value) (w_heardBy : Value) (x_heardMany : Int32) (w_worth : Value) (x_drawn : Int32) (x_came : Int32) (w_kept : Value) (w_isKept : Value) (w_keptCame : Value) (Post : Int32 → (Int32 × Int32) → Prop) (hg : p_X8_forget F x_feltMany Post) : MWi l D cT yX8_forget cX8_forget 2 (some .int) 0 0 0 0 [.ref h] [(h, oX8 w_now (.int x_arches) (.int x_cats) w_text (.int x_typed) w_row (.int x_rowMany) (.int x_thrown) w_read (.int x_length) (.int x_top) (.int x_at) (.int x_wrong) w_told w_rule w_otherRule (.int x_ruleSize) (.int x_isAsked) w_asked w_undos (.int x_undoMany) w_aside w_then w_hold (.int x_dropped) w_acts w_guarded w_train (.int x_trolleyEnd) w_feltOf w_feltBy (.int x_feltMany) w_many w_heardOf w_heardBy (.int x_heardMany) w_worth (.int x_drawn) (.int x_came) w_kept w_isKept w_keptCame)] Post (fun (u : (Int32 × Int32)) => [(h, oX8 w_now (.int x_arches) (.int x_cats) w_text (.int x_typed) w_row (.int x_rowMany) (.int u.1) w_read (.int x_length) (.int x_top) (.int x_at) (.int x_wrong) w_told w_rule w_otherRule (.int x_ruleSize) (.int x_isAsked) w_asked w_undos (.int x_undoMany) w_aside w_then w_hold (.int x_dropped) w_acts w_guarded w_train (.int x_trolleyEnd) w_feltOf w_feltBy (.int u.2) w_many w_heardOf w_heardBy (.int x_heardMany) w_worth (.int x_drawn) (.int x_came) w_kept w_isKept w_keptCame)]) := by
  refine MWi.of (by decide) (Nat.le_of_ble_eq_true rfl) ?_
  intro p e s m below meth c A hA C0 hnm hr hP hD ls hl
  have hl : lv_has ls 2 [(0, .ref h)] := hl
  have hx := C0.x
  have hb := C0.b
  have hS : va_S A s.heap s.heap [] := va_S.rf
  have hP : va_P D cls9 [(h, oX8 w_now (.int x_arches) (.int x_cats) w_text (.int x_typed) w_row (.int x_rowMany) (.int x_thrown) w_read (.int x_length) (.int x_top) (.int x_at) (.int x_wrong) w_told w_rule w_otherRule (.int x_ruleSize) (.int x_isAsked) w_asked w_undos (.int x_undoMany) w_aside w_then w_hold (.int x_dropped) w_acts w_guarded w_train (.int x_trolleyEnd) w_feltOf w_feltBy (.int x_feltMany) w_many w_heardOf w_heardBy (.int x_heardMany) w_worth (.int x_drawn) (.int x_came) w_kept w_isKept w_keptCame)] s.heap := hP
  have hD : va_D A [(h, oX8 w_now (.int x_arches) (.int x_cats) w_text (.int x_typed) w_row (.int x_rowMany) (.int x_thrown) w_read (.int x_length) (.int x_top) (.int x_at) (.int x_wrong) w_told w_rule w_otherRule (.int x_ruleSize) (.int x_isAsked) w_asked w_undos (.int x_undoMany) w_aside w_then w_hold (.int x_dropped) w_acts w_guarded w_train (.int x_trolleyEnd) w_feltOf w_feltBy (.int x_feltMany) w_many w_heardOf w_heardBy (.int x_heardMany) w_worth (.int x_drawn) (.int x_came) w_kept w_isKept w_keptCame)] := hD
  unfold p_X8_forget at hg
  refine lv_aload_n hx hb dX8_forget_0 rfl (lv_at hl 0 rfl) ?_
  refine lv_iconst (v := (0 : Int32)) hx hb dX8_forget_1 (by decide) ?_
  refine pf_X8_82 C0 hP hD hS 0 rfl (Nat.le_of_ble_eq_true rfl) (ws2 := [(h, oX8 w_now (.int x_arches) (.int x_cats) w_text (.int x_typed) w_row (.int x_rowMany) (.int (0 : Int32)) w_read (.int x_length) (.int x_top) (.int x_at) (.int x_wrong) w_told w_rule w_otherRule (.int x_ruleSize) (.int x_isAsked) w_asked w_undos (.int x_undoMany) w_aside w_then w_hold (.int x_dropped) w_acts w_guarded w_train (.int x_trolleyEnd) w_feltOf w_feltBy (.int x_feltMany) w_many w_heardOf w_heardBy (.int x_heardMany) w_worth (.int x_drawn) (.int x_came) w_kept w_isKept w_keptCame)]) rfl dX8_forget_2 (fun H locs hP hD hS => ?_)
  refine lv_aload_n hx hb dX8_forget_5 rfl (lv_at hl 0 rfl) ?_
  refine gf_X8_326 C0 hP 0 rfl rfl dX8_forget_6 ?_
  refine lv_istore_n (lv' := [(1, .int x_feltMany), (0, .ref h)]) hx hb dX8_forget_9 rfl hl (by decide) rfl (fun ls hl => ?_)
  refine lv_aload_n hx hb dX8_forget_10 rfl (lv_at hl 1 rfl) ?_
  refine lv_iconst (v := (0 : Int32)) hx hb dX8_forget_11 (by decide) ?_
  refine pf_X8_326 C0 hP hD hS 0 rfl (Nat.le_of_ble_eq_true rfl) (ws2 := [(h, oX8 w_now (.int x_arches) (.int x_cats) w_text (.int x_typed) w_row (.int x_rowMany) (.int (0 : Int32)) w_read (.int x_length) (.int x_top) (.int x_at) (.int x_wrong) w_told w_rule w_otherRule (.int x_ruleSize) (.int x_isAsked) w_asked w_undos (.int x_undoMany) w_aside w_then w_hold (.int x_dropped) w_acts w_guarded w_train (.int x_trolleyEnd) w_feltOf w_feltBy (.int (0 : Int32)) w_many w_heardOf w_heardBy (.int x_heardMany) w_worth (.int x_drawn) (.int x_came) w_kept w_isKept w_keptCame)]) rfl dX8_forget_12 (fun H locs hP hD hS => ?_)
  refine lv_iload_n hx hb dX8_forget_15 rfl (lv_at hl 0 rfl) ?_
  exact k_iret C0 hr ((0 : Int32), (0 : Int32)) hg hP hD hS dX8_forget_16
theorem dX8_spread_0 : decode cX8_spread 0 = .ok (.iload_n 1, 1) := by decide +kernel
theorem dX8_spread_1 : decode cX8_spread 1 = .ok (.istore_n 2, 1) := by decide +kernel
theorem dX8_spread_2 : decode cX8_spread 2 = .ok (.iconst 0, 1) := by decide +kernel
theorem dX8_spread_3 : decode cX8_spread 3 = .ok (.istore_n 3, 1) := by decide +kernel
theorem dX8_spread_4 : decode cX8_spread 4 = .ok (.iload_n 3, 1) := by decide +kernel
theorem dX8_spread_5 : decode cX8_spread 5 = .ok (.aload_n 0, 1) := by decide +kernel
theorem dX8_spread_6 : decode cX8_spread 6 = .ok (.getfield 96, 3) := by decide +kernel
theorem dX8_spread_9 : decode cX8_spread 9 = .ok (.if_icmp .ge 69, 3) := by decide +kernel
theorem dX8_spread_12 : decode cX8_spread 12 = .ok (.iconst 0, 1) := by decide +kernel
theorem dX8_spread_13 : decode cX8_spread 13 = .ok (.istore 4, 2) := by decide +kernel
theorem dX8_spread_15 : decode cX8_spread 15 = .ok (.iload 4, 2) := by decide +kernel
theorem dX8_spread_17 : decode cX8_spread 17 = .ok (.aload_n 0, 1) := by decide +kernel
theorem dX8_spread_18 : decode cX8_spread 18 = .ok (.getfield 96, 3) := by decide +kernel
theorem dX8_spread_21 : decode cX8_spread 21 = .ok (.if_icmp .ge 51, 3) := by decide +kernel
theorem dX8_spread_24 : decode cX8_spread 24 = .ok (.iload_n 1, 1) := by decide +kernel
theorem dX8_spread_25 : decode cX8_spread 25 = .ok (.iload 4, 2) := by decide +kernel
theorem dX8_spread_27 : decode cX8_spread 27 = .ok (.invokestatic 292, 3) := by decide +kernel
theorem dX8_spread_30 : decode cX8_spread 30 = .ok (.ifCond .eq 36, 3) := by decide +kernel
theorem dX8_spread_33 : decode cX8_spread 33 = .ok (.aload_n 0, 1) := by decide +kernel
theorem dX8_spread_34 : decode cX8_spread 34 = .ok (.getfield 9, 3) := by decide +kernel
theorem dX8_spread_37 : decode cX8_spread 37 = .ok (.bipush 36, 2) := by decide +kernel
theorem dX8_spread_39 : decode cX8_spread 39 = .ok (.iload 4, 2) := by decide +kernel
theorem dX8_spread_41 : decode cX8_spread 41 = .ok (.iadd, 1) := by decide +kernel
theorem dX8_spread_42 : decode cX8_spread 42 = .ok (.iaload, 1) := by decide +kernel
theorem dX8_spread_43 : decode cX8_spread 43 = .ok (.aload_n 0, 1) := by decide +kernel
theorem dX8_spread_44 : decode cX8_spread 44 = .ok (.getfield 9, 3) := by decide +kernel
theorem dX8_spread_47 : decode cX8_spread 47 = .ok (.bipush 36, 2) := by decide +kernel
theorem dX8_spread_49 : decode cX8_spread 49 = .ok (.iload_n 3, 1) := by decide +kernel
theorem dX8_spread_50 : decode cX8_spread 50 = .ok (.iadd, 1) := by decide +kernel
theorem dX8_spread_51 : decode cX8_spread 51 = .ok (.iaload, 1) := by decide +kernel
theorem dX8_spread_52 : decode cX8_spread 52 = .ok (.isub, 1) := by decide +kernel
theorem dX8_spread_53 : decode cX8_spread 53 = .ok (.invokestatic 277, 3) := by decide +kernel
theorem dX8_spread_56 : decode cX8_spread 56 = .ok (.iconst 1, 1) := by decide +kernel
theorem dX8_spread_57 : decode cX8_spread 57 = .ok (.if_icmp .gt 9, 3) := by decide +kernel
theorem dX8_spread_60 : decode cX8_spread 60 = .ok (.iload_n 2, 1) := by decide +kernel
theorem dX8_spread_61 : decode cX8_spread 61 = .ok (.iconst 1, 1) := by decide +kernel
theorem dX8_spread_62 : decode cX8_spread 62 = .ok (.iload_n 3, 1) := by decide +kernel
theorem dX8_spread_63 : decode cX8_spread 63 = .ok (.ishl, 1) := by decide +kernel
theorem dX8_spread_64 : decode cX8_spread 64 = .ok (.ior, 1) := by decide +kernel
theorem dX8_spread_65 : decode cX8_spread 65 = .ok (.istore_n 2, 1) := by decide +kernel
theorem dX8_spread_66 : decode cX8_spread 66 = .ok (.iinc 4 1, 3) := by decide +kernel
theorem dX8_spread_69 : decode cX8_spread 69 = .ok (.goto (-54), 3) := by decide +kernel
theorem dX8_spread_72 : decode cX8_spread 72 = .ok (.iinc 3 1, 3) := by decide +kernel
theorem dX8_spread_75 : decode cX8_spread 75 = .ok (.goto (-71), 3) := by decide +kernel
theorem dX8_spread_78 : decode cX8_spread 78 = .ok (.iload_n 2, 1) := by decide +kernel
theorem dX8_spread_79 : decode cX8_spread 79 = .ok (.ireturn, 1) := by decide +kernel
def p_X8_spread_66 (F : Nat) (y4_15 : Int32) (k4 : Int32 → Int32 → Prop) (k15 : Int32 → Int32 → Prop) (Post : Int32 → Prop) (y2_66 : Int32) : Prop := (k15 (y4_15 + (1 : Int32)) y2_66)
noncomputable def p_X8_spread_15 (F : Nat) (p1 : Int32) (x_cats : Int32) (f_now : Nat → Int32) (y3_4 : Int32) (k4 : Int32 → Int32 → Prop) (Post : Int32 → Prop) (n : Nat) : Int32 → Int32 → Prop := Nat.rec (motive := fun _ => Int32 → Int32 → Prop) (fun _ _ => False) (fun _ k15 => fun (y4_15 : Int32) (y2_15 : Int32) => ((x_cats ≤ y4_15 → (k4 (y3_4 + (1 : Int32)) y2_15)) ∧ (¬ x_cats ≤ y4_15 → (p_X8_has F p1 y4_15 (fun (r_27 : Int32) => ((r_27 = 0 → (p_X8_spread_66 F y4_15 k4 k15 Post y2_15)) ∧ (¬ r_27 = 0 → (vp_in ((36 : Int32) + y4_15) 47 ∧ (vp_in ((36 : Int32) + y3_4) 47 ∧ (((1 : Int32) < (if 0 ≤ ((f_now ((36 : Int32) + y4_15).toNatClampNeg) - (f_now ((36 : Int32) + y3_4).toNatClampNeg)) then ((f_now ((36 : Int32) + y4_15).toNatClampNeg) - (f_now ((36 : Int32) + y3_4).toNatClampNeg)) else 0 - ((f_now ((36 : Int32) + y4_15).toNatClampNeg) - (f_now ((36 : Int32) + y3_4).toNatClampNeg))) → (p_X8_spread_66 F y4_15 k4 k15 Post y2_15)) ∧ (¬ (1 : Int32) < (if 0 ≤ ((f_now ((36 : Int32) + y4_15).toNatClampNeg) - (f_now ((36 : Int32) + y3_4).toNatClampNeg)) then ((f_now ((36 : Int32) + y4_15).toNatClampNeg) - (f_now ((36 : Int32) + y3_4).toNatClampNeg)) else 0 - ((f_now ((36 : Int32) + y4_15).toNatClampNeg) - (f_now ((36 : Int32) + y3_4).toNatClampNeg))) → (p_X8_spread_66 F y4_15 k4 k15 Post (y2_15 ||| ((1 : Int32) <<< (y3_4 &&& 31))))))))))))))) n
theorem p_X8_spread_15_s (F : Nat) (p1 : Int32) (x_cats : Int32) (f_now : Nat → Int32) (y3_4 : Int32) (k4 : Int32 → Int32 → Prop) (Post : Int32 → Prop) (n : Nat) (y4_15 : Int32) (y2_15 : Int32) : p_X8_spread_15 F p1 x_cats f_now y3_4 k4 Post (n + 1) y4_15 y2_15 = ((x_cats ≤ y4_15 → (k4 (y3_4 + (1 : Int32)) y2_15)) ∧ (¬ x_cats ≤ y4_15 → (p_X8_has F p1 y4_15 (fun (r_27 : Int32) => ((r_27 = 0 → (p_X8_spread_66 F y4_15 k4 (p_X8_spread_15 F p1 x_cats f_now y3_4 k4 Post n) Post y2_15)) ∧ (¬ r_27 = 0 → (vp_in ((36 : Int32) + y4_15) 47 ∧ (vp_in ((36 : Int32) + y3_4) 47 ∧ (((1 : Int32) < (if 0 ≤ ((f_now ((36 : Int32) + y4_15).toNatClampNeg) - (f_now ((36 : Int32) + y3_4).toNatClampNeg)) then ((f_now ((36 : Int32) + y4_15).toNatClampNeg) - (f_now ((36 : Int32) + y3_4).toNatClampNeg)) else 0 - ((f_now ((36 : Int32) + y4_15).toNatClampNeg) - (f_now ((36 : Int32) + y3_4).toNatClampNeg))) → (p_X8_spread_66 F y4_15 k4 (p_X8_spread_15 F p1 x_cats f_now y3_4 k4 Post n) Post y2_15)) ∧ (¬ (1 : Int32) < (if 0 ≤ ((f_now ((36 : Int32) + y4_15).toNatClampNeg) - (f_now ((36 : Int32) + y3_4).toNatClampNeg)) then ((f_now ((36 : Int32) + y4_15).toNatClampNeg) - (f_now ((36 : Int32) + y3_4).toNatClampNeg)) else 0 - ((f_now ((36 : Int32) + y4_15).toNatClampNeg) - (f_now ((36 : Int32) + y3_4).toNatClampNeg))) → (p_X8_spread_66 F y4_15 k4 (p_X8_spread_15 F p1 x_cats f_now y3_4 k4 Post n) Post (y2_15 ||| ((1 : Int32) <<< (y3_4 &&& 31)))))))))))))) := rfl
noncomputable def p_X8_spread_4 (F : Nat) (p1 : Int32) (x_cats : Int32) (f_now : Nat → Int32) (Post : Int32 → Prop) (n : Nat) : Int32 → Int32 → Prop := Nat.rec (motive := fun _ => Int32 → Int32 → Prop) (fun _ _ => False) (fun _ k4 => fun (y3_4 : Int32) (y2_4 : Int32) => ((x_cats ≤ y3_4 → (Post y2_4)) ∧ (¬ x_cats ≤ y3_4 → (p_X8_spread_15 F p1 x_cats f_now y3_4 k4 Post F (0 : Int32) y2_4)))) n
theorem p_X8_spread_4_s (F : Nat) (p1 : Int32) (x_cats : Int32) (f_now : Nat → Int32) (Post : Int32 → Prop) (n : Nat) (y3_4 : Int32) (y2_4 : Int32) : p_X8_spread_4 F p1 x_cats f_now Post (n + 1) y3_4 y2_4 = ((x_cats ≤ y3_4 → (Post y2_4)) ∧ (¬ x_cats ≤ y3_4 → (p_X8_spread_15 F p1 x_cats f_now y3_4 (p_X8_spread_4 F p1 x_cats f_now Post n) Post F (0 : Int32) y2_4))) := rfl
def p_X8_spread (F : Nat) (p1 : Int32) (x_cats : Int32) (f_now : Nat → Int32) (Post : Int32 → Prop) : Prop := (p_X8_spread_4 F p1 x_cats f_now Post F (0 : Int32) p1)
set_option maxHeartbeats 4000000 in
set_option maxRecDepth 100000 in
theorem c_X8_spread (l : Launch) (D : va_G) (cT : Nat → ClassId) (F : Nat) (h : Nat) (p1 : Int32) (q_now : Nat) (x_arches : Int32) (x_cats : Int32) (w_text : Value) (x_typed : Int32) (w_row : Value) (x_rowMany : Int32) (x_thrown : Int32) (w_read : Value) (x_length : Int32) (x_top : Int32) (x_at : Int32) (x_wrong : Int32) (w_told : Value) (w_rule : Value) (w_otherRule : Value) (x_ruleSize : Int32) (x_isAsked : Int32) (w_asked : Value) (w_undos : Value) (x_undoMany : Int32) (w_aside : Value) (w_then : Value) (w_hold : Value) (x_dropped : Int32) (w_acts : Value) (w_guarded : Value) (w_train : Value) (x_trolleyEnd : Int32) (w_feltOf : Value) (w_feltBy : Value) (x_feltMany : Int32) (w_many : Value) (w_heardOf : Value) (w_heardBy : Value) (x_heardMany : Int32) (w_worth : Value) (x_drawn : Int32) (x_came : Int32) (w_kept : Value) (w_isKept : Value) (w_keptCame : Value) (f_now : Nat → Int32) (Post : Int32 → Prop) (hg : p_X8_spread F p1 x_cats f_now Post) : MRi l D cT yX8_spread cX8_spread 5 (some .int) 1 30 [.ref h, .int p1] [(h, oX8 (.ref q_now) (.int x_arches) (.int x_cats) w_text (.int x_typed) w_row (.int x_rowMany) (.int x_thrown) w_read (.int x_length) (.int x_top) (.int x_at) (.int x_wrong) w_told w_rule w_otherRule (.int x_ruleSize) (.int x_isAsked) w_asked w_undos (.int x_undoMany) w_aside w_then w_hold (.int x_dropped) w_acts w_guarded w_train (.int x_trolleyEnd) w_feltOf w_feltBy (.int x_feltMany) w_many w_heardOf w_heardBy (.int x_heardMany) w_worth (.int x_drawn) (.int x_came) w_kept w_isKept w_keptCame), (q_now, aI cT 47 f_now)] Post := by
  refine MRi.of (by decide) (Nat.le_of_ble_eq_true rfl) ?_
  intro p e s m below meth c C0 hr hP hD ls hl
  have hl : lv_has ls 5 [(0, .ref h), (1, .int p1)] := hl
  have hx := C0.x
  have hb := C0.b
  have hP : va_P D cls9 [(h, oX8 (.ref q_now) (.int x_arches) (.int x_cats) w_text (.int x_typed) w_row (.int x_rowMany) (.int x_thrown) w_read (.int x_length) (.int x_top) (.int x_at) (.int x_wrong) w_told w_rule w_otherRule (.int x_ruleSize) (.int x_isAsked) w_asked w_undos (.int x_undoMany) w_aside w_then w_hold (.int x_dropped) w_acts w_guarded w_train (.int x_trolleyEnd) w_feltOf w_feltBy (.int x_feltMany) w_many w_heardOf w_heardBy (.int x_heardMany) w_worth (.int x_drawn) (.int x_came) w_kept w_isKept w_keptCame), (q_now, aI cT 47 f_now)] s.heap := hP
  have hD : va_D (fun _ => True) [(h, oX8 (.ref q_now) (.int x_arches) (.int x_cats) w_text (.int x_typed) w_row (.int x_rowMany) (.int x_thrown) w_read (.int x_length) (.int x_top) (.int x_at) (.int x_wrong) w_told w_rule w_otherRule (.int x_ruleSize) (.int x_isAsked) w_asked w_undos (.int x_undoMany) w_aside w_then w_hold (.int x_dropped) w_acts w_guarded w_train (.int x_trolleyEnd) w_feltOf w_feltBy (.int x_feltMany) w_many w_heardOf w_heardBy (.int x_heardMany) w_worth (.int x_drawn) (.int x_came) w_kept w_isKept w_keptCame), (q_now, aI cT 47 f_now)] := hD
  have L4 : ∀ (n4 : Nat) (y3_4 : Int32) (y2_4 : Int32) (ls : Array Slot), p_X8_spread_4 F p1 x_cats f_now Post n4 y3_4 y2_4 → lv_has ls 5 [(0, .ref h), (1, .int p1), (2, .int y2_4), (3, .int y3_4)] → W p l e (rmO 1 30 0 0) s m ([.ref h, .int p1] : List Value).toArray below meth c s.heap [] 0 0 (MQ below (vp_Si Post) ([.ref h, .int p1] : List Value).toArray s 0 0 (fun _ => False)) (F0 m 4 ls []) := by
    intro n4
    induction n4 with
    | zero =>
      intro y3_4 y2_4 ls hg hl
      exact False.elim hg
    | succ n4 ih4 =>
      have L15 : ∀ (y3_4 : Int32) (n15 : Nat) (y4_15 : Int32) (y2_15 : Int32) (ls : Array Slot), p_X8_spread_15 F p1 x_cats f_now y3_4 (p_X8_spread_4 F p1 x_cats f_now Post n4) Post n15 y4_15 y2_15 → lv_has ls 5 [(0, .ref h), (1, .int p1), (2, .int y2_15), (3, .int y3_4), (4, .int y4_15)] → W p l e (rmO 1 30 0 0) s m ([.ref h, .int p1] : List Value).toArray below meth c s.heap [] 0 0 (MQ below (vp_Si Post) ([.ref h, .int p1] : List Value).toArray s 0 0 (fun _ => False)) (F0 m 15 ls []) := by
        intro y3_4 n15
        induction n15 with
        | zero =>
          intro y4_15 y2_15 ls hg hl
          exact False.elim hg
        | succ n15 ih15 =>
          have L66 : ∀ (y4_15 : Int32) (y2_66 : Int32) (ls : Array Slot), p_X8_spread_66 F y4_15 (p_X8_spread_4 F p1 x_cats f_now Post n4) (p_X8_spread_15 F p1 x_cats f_now y3_4 (p_X8_spread_4 F p1 x_cats f_now Post n4) Post n15) Post y2_66 → lv_has ls 5 [(0, .ref h), (1, .int p1), (2, .int y2_66), (3, .int y3_4), (4, .int y4_15)] → W p l e (rmO 1 30 0 0) s m ([.ref h, .int p1] : List Value).toArray below meth c s.heap [] 0 0 (MQ below (vp_Si Post) ([.ref h, .int p1] : List Value).toArray s 0 0 (fun _ => False)) (F0 m 66 ls []) := by
            intro y4_15 y2_66 ls hg hl
            unfold p_X8_spread_66 at hg
            refine lv_iinc (v := (y4_15 + (1 : Int32))) (lv' := [(4, .int (y4_15 + (1 : Int32))), (0, .ref h), (1, .int p1), (2, .int y2_66), (3, .int y3_4)]) hx hb dX8_spread_66 hl (k := 4) rfl rfl (by decide) rfl (fun ls hl => ?_)
            refine lv_goto (tgt := 15) hx hb dX8_spread_69 (by decide) ?_
            exact ih15 (y4_15 + (1 : Int32)) y2_66 _ hg (lv_sub hl [1, 2, 3, 4, 0] rfl)
          intro y4_15 y2_15 ls hg hl
          rw [p_X8_spread_15_s] at hg
          refine lv_iload hx hb dX8_spread_15 (lv_at hl 4 rfl) ?_
          refine lv_aload_n hx hb dX8_spread_17 rfl (lv_at hl 0 rfl) ?_
          refine gf_X8_96 C0 hP 0 rfl rfl dX8_spread_18 ?_
          refine lv_icmp_ge (tgt := 72) hx hb dX8_spread_21 (by decide) (fun c_21 => ?_) (fun c_21 => ?_)
          · have hg := hg.1 c_21
            refine lv_iinc (v := (y3_4 + (1 : Int32))) (lv' := [(3, .int (y3_4 + (1 : Int32))), (0, .ref h), (1, .int p1), (2, .int y2_15), (4, .int y4_15)]) hx hb dX8_spread_72 hl (k := 3) rfl rfl (by decide) rfl (fun ls hl => ?_)
            refine lv_goto (tgt := 4) hx hb dX8_spread_75 (by decide) ?_
            exact ih4 (y3_4 + (1 : Int32)) y2_15 _ hg (lv_sub hl [1, 2, 3, 0] rfl)
          have hg := hg.2 c_21
          refine lv_iload_n hx hb dX8_spread_24 rfl (lv_at hl 1 rfl) ?_
          refine lv_iload hx hb dX8_spread_25 (lv_at hl 4 rfl) ?_
          refine k_Sxi (rest := []) C0 lk_X8_292 (c_X8_has l D cT F p1 y4_15 _ hg) hP hD [] (by decide +kernel) rfl ⟨Nat.le_of_ble_eq_true rfl, Nat.le_of_ble_eq_true rfl⟩ rfl hl.1 rfl (Nat.le_of_ble_eq_true rfl) dX8_spread_27 ⟨Nat.le_of_ble_eq_true rfl, Nat.le_of_ble_eq_true rfl⟩ (fun r_27 hg => ?_)
          refine lv_if_eq (tgt := 66) hx hb dX8_spread_30 (by decide) (fun c_30 => ?_) (fun c_30 => ?_)
          · have hg := hg.1 c_30
            exact L66 y4_15 y2_15 _ hg hl
          have hg := hg.2 c_30
          refine lv_aload_n hx hb dX8_spread_33 rfl (lv_at hl 0 rfl) ?_
          refine gf_X8_9 C0 hP 0 rfl rfl dX8_spread_34 ?_
          refine lv_bipush (v := (36 : Int32)) hx hb dX8_spread_37 (by decide) ?_
          refine lv_iload hx hb dX8_spread_39 (lv_at hl 4 rfl) ?_
          refine lv_iadd hx hb dX8_spread_41 ?_
          obtain ⟨g_42, hg⟩ := hg
          refine k_iald C0 hP 1 rfl g_42 dX8_spread_42 ?_
          refine lv_aload_n hx hb dX8_spread_43 rfl (lv_at hl 0 rfl) ?_
          refine gf_X8_9 C0 hP 0 rfl rfl dX8_spread_44 ?_
          refine lv_bipush (v := (36 : Int32)) hx hb dX8_spread_47 (by decide) ?_
          refine lv_iload_n hx hb dX8_spread_49 rfl (lv_at hl 3 rfl) ?_
          refine lv_iadd hx hb dX8_spread_50 ?_
          obtain ⟨g_51, hg⟩ := hg
          refine k_iald C0 hP 1 rfl g_51 dX8_spread_51 ?_
          refine lv_isub hx hb dX8_spread_52 ?_
          refine k_abs C0 w6_23 hl.1 (Nat.le_of_ble_eq_true rfl) (Nat.le_of_ble_eq_true rfl) (Nat.le_of_ble_eq_true rfl) (Nat.le_of_ble_eq_true rfl) dX8_spread_53 ?_
          refine lv_iconst (v := (1 : Int32)) hx hb dX8_spread_56 (by decide) ?_
          refine lv_icmp_gt (tgt := 66) hx hb dX8_spread_57 (by decide) (fun c_57 => ?_) (fun c_57 => ?_)
          · have hg := hg.1 c_57
            exact L66 y4_15 y2_15 _ hg hl
          have hg := hg.2 c_57
          refine lv_iload_n hx hb dX8_spread_60 rfl (lv_at hl 2 rfl) ?_
          refine lv_iconst (v := (1 : Int32)) hx hb dX8_spread_61 (by decide) ?_
          refine lv_iload_n hx hb dX8_spread_62 rfl (lv_at hl 3 rfl) ?_
          refine lv_ishl hx hb dX8_spread_63 ?_
          refine lv_ior hx hb dX8_spread_64 ?_
          refine lv_istore_n (lv' := [(2, .int (y2_15 ||| ((1 : Int32) <<< (y3_4 &&& 31)))), (0, .ref h), (1, .int p1), (3, .int y3_4), (4, .int y4_15)]) hx hb dX8_spread_65 rfl hl (by decide) rfl (fun ls hl => ?_)
          exact L66 y4_15 (y2_15 ||| ((1 : Int32) <<< (y3_4 &&& 31))) _ hg (lv_sub hl [1, 2, 0, 3, 4] rfl)
      intro y3_4 y2_4 ls hg hl
      rw [p_X8_spread_4_s] at hg
      refine lv_iload_n hx hb dX8_spread_4 rfl (lv_at hl 3 rfl) ?_
      refine lv_aload_n hx hb dX8_spread_5 rfl (lv_at hl 0 rfl) ?_
      refine gf_X8_96 C0 hP 0 rfl rfl dX8_spread_6 ?_
      refine lv_icmp_ge (tgt := 78) hx hb dX8_spread_9 (by decide) (fun c_9 => ?_) (fun c_9 => ?_)
      · have hg := hg.1 c_9
        refine lv_iload_n hx hb dX8_spread_78 rfl (lv_at hl 2 rfl) ?_
        exact k_xiret C0 hr hg dX8_spread_79
      have hg := hg.2 c_9
      refine lv_iconst (v := (0 : Int32)) hx hb dX8_spread_12 (by decide) ?_
      refine lv_istore (lv' := [(4, .int (0 : Int32)), (0, .ref h), (1, .int p1), (2, .int y2_4), (3, .int y3_4)]) hx hb dX8_spread_13 hl (by decide) rfl (fun ls hl => ?_)
      exact L15 y3_4 F (0 : Int32) y2_4 _ hg (lv_sub hl [1, 2, 3, 4, 0] rfl)
  unfold p_X8_spread at hg
  refine lv_iload_n hx hb dX8_spread_0 rfl (lv_at hl 1 rfl) ?_
  refine lv_istore_n (lv' := [(2, .int p1), (0, .ref h), (1, .int p1)]) hx hb dX8_spread_1 rfl hl (by decide) rfl (fun ls hl => ?_)
  refine lv_iconst (v := (0 : Int32)) hx hb dX8_spread_2 (by decide) ?_
  refine lv_istore_n (lv' := [(3, .int (0 : Int32)), (2, .int p1), (0, .ref h), (1, .int p1)]) hx hb dX8_spread_3 rfl hl (by decide) rfl (fun ls hl => ?_)
  exact L4 F (0 : Int32) p1 _ hg (lv_sub hl [2, 3, 1, 0] rfl)
theorem dX8_spreads_0 : decode cX8_spreads 0 = .ok (.aload_n 0, 1) := by decide +kernel
theorem dX8_spreads_1 : decode cX8_spreads 1 = .ok (.iconst 0, 1) := by decide +kernel
theorem dX8_spreads_2 : decode cX8_spreads 2 = .ok (.putfield 82, 3) := by decide +kernel
theorem dX8_spreads_5 : decode cX8_spreads 5 = .ok (.aload_n 0, 1) := by decide +kernel
theorem dX8_spreads_6 : decode cX8_spreads 6 = .ok (.iload_n 1, 1) := by decide +kernel
theorem dX8_spreads_7 : decode cX8_spreads 7 = .ok (.invokevirtual 224, 3) := by decide +kernel
theorem dX8_spreads_10 : decode cX8_spreads 10 = .ok (.ifCond .eq 13, 3) := by decide +kernel
theorem dX8_spreads_13 : decode cX8_spreads 13 = .ok (.iload_n 2, 1) := by decide +kernel
theorem dX8_spreads_14 : decode cX8_spreads 14 = .ok (.iconst 0, 1) := by decide +kernel
theorem dX8_spreads_15 : decode cX8_spreads 15 = .ok (.bipush 9, 2) := by decide +kernel
theorem dX8_spreads_17 : decode cX8_spreads 17 = .ok (.invokestatic 92, 3) := by decide +kernel
theorem dX8_spreads_20 : decode cX8_spreads 20 = .ok (.ifCond .ne 5, 3) := by decide +kernel
theorem dX8_spreads_23 : decode cX8_spreads 23 = .ok (.iconst (-1), 1) := by decide +kernel
theorem dX8_spreads_24 : decode cX8_spreads 24 = .ok (.ireturn, 1) := by decide +kernel
theorem dX8_spreads_25 : decode cX8_spreads 25 = .ok (.iconst 1, 1) := by decide +kernel
theorem dX8_spreads_26 : decode cX8_spreads 26 = .ok (.iload_n 1, 1) := by decide +kernel
theorem dX8_spreads_27 : decode cX8_spreads 27 = .ok (.ishl, 1) := by decide +kernel
theorem dX8_spreads_28 : decode cX8_spreads 28 = .ok (.istore_n 3, 1) := by decide +kernel
theorem dX8_spreads_29 : decode cX8_spreads 29 = .ok (.iconst 0, 1) := by decide +kernel
theorem dX8_spreads_30 : decode cX8_spreads 30 = .ok (.istore 4, 2) := by decide +kernel
theorem dX8_spreads_32 : decode cX8_spreads 32 = .ok (.iload 4, 2) := by decide +kernel
theorem dX8_spreads_34 : decode cX8_spreads 34 = .ok (.iload_n 2, 1) := by decide +kernel
theorem dX8_spreads_35 : decode cX8_spreads 35 = .ok (.if_icmp .ge 15, 3) := by decide +kernel
theorem dX8_spreads_38 : decode cX8_spreads 38 = .ok (.aload_n 0, 1) := by decide +kernel
theorem dX8_spreads_39 : decode cX8_spreads 39 = .ok (.iload_n 3, 1) := by decide +kernel
theorem dX8_spreads_40 : decode cX8_spreads 40 = .ok (.invokevirtual 338, 3) := by decide +kernel
theorem dX8_spreads_43 : decode cX8_spreads 43 = .ok (.istore_n 3, 1) := by decide +kernel
theorem dX8_spreads_44 : decode cX8_spreads 44 = .ok (.iinc 4 1, 3) := by decide +kernel
theorem dX8_spreads_47 : decode cX8_spreads 47 = .ok (.goto (-15), 3) := by decide +kernel
theorem dX8_spreads_50 : decode cX8_spreads 50 = .ok (.iconst 0, 1) := by decide +kernel
theorem dX8_spreads_51 : decode cX8_spreads 51 = .ok (.istore 4, 2) := by decide +kernel
theorem dX8_spreads_53 : decode cX8_spreads 53 = .ok (.iconst 1, 1) := by decide +kernel
theorem dX8_spreads_54 : decode cX8_spreads 54 = .ok (.iload_n 1, 1) := by decide +kernel
theorem dX8_spreads_55 : decode cX8_spreads 55 = .ok (.ishl, 1) := by decide +kernel
theorem dX8_spreads_56 : decode cX8_spreads 56 = .ok (.istore 5, 2) := by decide +kernel
theorem dX8_spreads_58 : decode cX8_spreads 58 = .ok (.aload_n 0, 1) := by decide +kernel
theorem dX8_spreads_59 : decode cX8_spreads 59 = .ok (.iload 5, 2) := by decide +kernel
theorem dX8_spreads_61 : decode cX8_spreads 61 = .ok (.invokevirtual 338, 3) := by decide +kernel
theorem dX8_spreads_64 : decode cX8_spreads 64 = .ok (.iload 5, 2) := by decide +kernel
theorem dX8_spreads_66 : decode cX8_spreads 66 = .ok (.if_icmp .eq 17, 3) := by decide +kernel
theorem dX8_spreads_69 : decode cX8_spreads 69 = .ok (.iinc 4 1, 3) := by decide +kernel
theorem dX8_spreads_72 : decode cX8_spreads 72 = .ok (.aload_n 0, 1) := by decide +kernel
theorem dX8_spreads_73 : decode cX8_spreads 73 = .ok (.iload 5, 2) := by decide +kernel
theorem dX8_spreads_75 : decode cX8_spreads 75 = .ok (.invokevirtual 338, 3) := by decide +kernel
theorem dX8_spreads_78 : decode cX8_spreads 78 = .ok (.istore 5, 2) := by decide +kernel
theorem dX8_spreads_80 : decode cX8_spreads 80 = .ok (.goto (-22), 3) := by decide +kernel
theorem dX8_spreads_83 : decode cX8_spreads 83 = .ok (.aload_n 0, 1) := by decide +kernel
theorem dX8_spreads_84 : decode cX8_spreads 84 = .ok (.iconst 0, 1) := by decide +kernel
theorem dX8_spreads_85 : decode cX8_spreads 85 = .ok (.putfield 86, 3) := by decide +kernel
theorem dX8_spreads_88 : decode cX8_spreads 88 = .ok (.aload_n 0, 1) := by decide +kernel
theorem dX8_spreads_89 : decode cX8_spreads 89 = .ok (.iload_n 3, 1) := by decide +kernel
theorem dX8_spreads_90 : decode cX8_spreads 90 = .ok (.invokestatic 202, 3) := by decide +kernel
theorem dX8_spreads_93 : decode cX8_spreads 93 = .ok (.i2l, 1) := by decide +kernel
theorem dX8_spreads_94 : decode cX8_spreads 94 = .ok (.invokevirtual 249, 3) := by decide +kernel
theorem dX8_spreads_97 : decode cX8_spreads 97 = .ok (.aload_n 0, 1) := by decide +kernel
theorem dX8_spreads_98 : decode cX8_spreads 98 = .ok (.iload 4, 2) := by decide +kernel
theorem dX8_spreads_100 : decode cX8_spreads 100 = .ok (.i2l, 1) := by decide +kernel
theorem dX8_spreads_101 : decode cX8_spreads 101 = .ok (.invokevirtual 249, 3) := by decide +kernel
theorem dX8_spreads_104 : decode cX8_spreads 104 = .ok (.iload_n 3, 1) := by decide +kernel
theorem dX8_spreads_105 : decode cX8_spreads 105 = .ok (.ireturn, 1) := by decide +kernel
noncomputable def p_X8_spreads_58 (F : Nat) (x_cats : Int32) (f_now : Nat → Int32) (f_row : Nat → Int64) (y3_32 : Int32) (Post : Int32 → (Int32 × Int32 × (Nat → Int64)) → Prop) (n : Nat) : Int32 → Int32 → Prop := Nat.rec (motive := fun _ => Int32 → Int32 → Prop) (fun _ _ => False) (fun _ k58 => fun (y5_58 : Int32) (y4_58 : Int32) => (p_X8_spread F y5_58 x_cats f_now (fun (r_61 : Int32) => ((r_61 = y5_58 → (p_J6_bitCount_0f7a4 F y3_32 (fun (r_90 : Int32) => (p_X8_tell F (r_90.toInt64) (0 : Int32) f_row (fun (u_94 : (Int32 × (Nat → Int64))) => (p_X8_tell F (y4_58.toInt64) u_94.1 u_94.2 (fun (u_101 : (Int32 × (Nat → Int64))) => (Post y3_32 (u_101.1, (0 : Int32), u_101.2))))))))) ∧ (¬ r_61 = y5_58 → (p_X8_spread F y5_58 x_cats f_now (fun (r_75 : Int32) => (k58 r_75 (y4_58 + (1 : Int32)))))))))) n
theorem p_X8_spreads_58_s (F : Nat) (x_cats : Int32) (f_now : Nat → Int32) (f_row : Nat → Int64) (y3_32 : Int32) (Post : Int32 → (Int32 × Int32 × (Nat → Int64)) → Prop) (n : Nat) (y5_58 : Int32) (y4_58 : Int32) : p_X8_spreads_58 F x_cats f_now f_row y3_32 Post (n + 1) y5_58 y4_58 = (p_X8_spread F y5_58 x_cats f_now (fun (r_61 : Int32) => ((r_61 = y5_58 → (p_J6_bitCount_0f7a4 F y3_32 (fun (r_90 : Int32) => (p_X8_tell F (r_90.toInt64) (0 : Int32) f_row (fun (u_94 : (Int32 × (Nat → Int64))) => (p_X8_tell F (y4_58.toInt64) u_94.1 u_94.2 (fun (u_101 : (Int32 × (Nat → Int64))) => (Post y3_32 (u_101.1, (0 : Int32), u_101.2))))))))) ∧ (¬ r_61 = y5_58 → (p_X8_spread F y5_58 x_cats f_now (fun (r_75 : Int32) => ((p_X8_spreads_58 F x_cats f_now f_row y3_32 Post n) r_75 (y4_58 + (1 : Int32))))))))) := rfl
noncomputable def p_X8_spreads_32 (F : Nat) (p1 : Int32) (p2 : Int32) (x_cats : Int32) (f_now : Nat → Int32) (f_row : Nat → Int64) (Post : Int32 → (Int32 × Int32 × (Nat → Int64)) → Prop) (n : Nat) : Int32 → Int32 → Prop := Nat.rec (motive := fun _ => Int32 → Int32 → Prop) (fun _ _ => False) (fun _ k32 => fun (y4_32 : Int32) (y3_32 : Int32) => ((p2 ≤ y4_32 → (p_X8_spreads_58 F x_cats f_now f_row y3_32 Post F ((1 : Int32) <<< (p1 &&& 31)) (0 : Int32))) ∧ (¬ p2 ≤ y4_32 → (p_X8_spread F y3_32 x_cats f_now (fun (r_40 : Int32) => (k32 (y4_32 + (1 : Int32)) r_40)))))) n
theorem p_X8_spreads_32_s (F : Nat) (p1 : Int32) (p2 : Int32) (x_cats : Int32) (f_now : Nat → Int32) (f_row : Nat → Int64) (Post : Int32 → (Int32 × Int32 × (Nat → Int64)) → Prop) (n : Nat) (y4_32 : Int32) (y3_32 : Int32) : p_X8_spreads_32 F p1 p2 x_cats f_now f_row Post (n + 1) y4_32 y3_32 = ((p2 ≤ y4_32 → (p_X8_spreads_58 F x_cats f_now f_row y3_32 Post F ((1 : Int32) <<< (p1 &&& 31)) (0 : Int32))) ∧ (¬ p2 ≤ y4_32 → (p_X8_spread F y3_32 x_cats f_now (fun (r_40 : Int32) => ((p_X8_spreads_32 F p1 p2 x_cats f_now f_row Post n) (y4_32 + (1 : Int32)) r_40))))) := rfl
def p_X8_spreads (F : Nat) (p1 : Int32) (p2 : Int32) (x_cats : Int32) (x_rowMany : Int32) (f_now : Nat → Int32) (f_row : Nat → Int64) (Post : Int32 → (Int32 × Int32 × (Nat → Int64)) → Prop) : Prop := (p_X8_isCat F p1 x_cats (fun (r_7 : Int32) => ((r_7 = 0 → (Post (-1 : Int32) (x_rowMany, (0 : Int32), f_row))) ∧ (¬ r_7 = 0 → (p_X8_in F p2 (0 : Int32) (9 : Int32) (fun (r_17 : Int32) => ((¬ r_17 = 0 → (p_X8_spreads_32 F p1 p2 x_cats f_now f_row Post F (0 : Int32) ((1 : Int32) <<< (p1 &&& 31)))) ∧ (r_17 = 0 → (Post (-1 : Int32) (x_rowMany, (0 : Int32), f_row))))))))))
set_option maxHeartbeats 4000000 in
set_option maxRecDepth 100000 in
theorem c_X8_spreads (l : Launch) (D : va_G) (cT : Nat → ClassId) (F : Nat) (h : Nat) (p1 : Int32) (p2 : Int32) (q_now : Nat) (x_arches : Int32) (x_cats : Int32) (w_text : Value) (x_typed : Int32) (q_row : Nat) (x_rowMany : Int32) (x_thrown : Int32) (w_read : Value) (x_length : Int32) (x_top : Int32) (x_at : Int32) (x_wrong : Int32) (w_told : Value) (w_rule : Value) (w_otherRule : Value) (x_ruleSize : Int32) (x_isAsked : Int32) (w_asked : Value) (w_undos : Value) (x_undoMany : Int32) (w_aside : Value) (w_then : Value) (w_hold : Value) (x_dropped : Int32) (w_acts : Value) (w_guarded : Value) (w_train : Value) (x_trolleyEnd : Int32) (w_feltOf : Value) (w_feltBy : Value) (x_feltMany : Int32) (w_many : Value) (w_heardOf : Value) (w_heardBy : Value) (x_heardMany : Int32) (w_worth : Value) (x_drawn : Int32) (x_came : Int32) (w_kept : Value) (w_isKept : Value) (w_keptCame : Value) (f_now : Nat → Int32) (f_row : Nat → Int64) (Post : Int32 → (Int32 × Int32 × (Nat → Int64)) → Prop) (hg : p_X8_spreads F p1 p2 x_cats x_rowMany f_now f_row Post) : MWi l D cT yX8_spreads cX8_spreads 6 (some .int) 2 54 0 0 [.ref h, .int p1, .int p2] [(h, oX8 (.ref q_now) (.int x_arches) (.int x_cats) w_text (.int x_typed) (.ref q_row) (.int x_rowMany) (.int x_thrown) w_read (.int x_length) (.int x_top) (.int x_at) (.int x_wrong) w_told w_rule w_otherRule (.int x_ruleSize) (.int x_isAsked) w_asked w_undos (.int x_undoMany) w_aside w_then w_hold (.int x_dropped) w_acts w_guarded w_train (.int x_trolleyEnd) w_feltOf w_feltBy (.int x_feltMany) w_many w_heardOf w_heardBy (.int x_heardMany) w_worth (.int x_drawn) (.int x_came) w_kept w_isKept w_keptCame), (q_now, aI cT 47 f_now), (q_row, aJ cT 16 f_row)] Post (fun (u : (Int32 × Int32 × (Nat → Int64))) => [(h, oX8 (.ref q_now) (.int x_arches) (.int x_cats) w_text (.int x_typed) (.ref q_row) (.int u.1) (.int u.2.1) w_read (.int x_length) (.int x_top) (.int x_at) (.int x_wrong) w_told w_rule w_otherRule (.int x_ruleSize) (.int x_isAsked) w_asked w_undos (.int x_undoMany) w_aside w_then w_hold (.int x_dropped) w_acts w_guarded w_train (.int x_trolleyEnd) w_feltOf w_feltBy (.int x_feltMany) w_many w_heardOf w_heardBy (.int x_heardMany) w_worth (.int x_drawn) (.int x_came) w_kept w_isKept w_keptCame), (q_now, aI cT 47 f_now), (q_row, aJ cT 16 u.2.2)]) := by
  refine MWi.of (by decide) (Nat.le_of_ble_eq_true rfl) ?_
  intro p e s m below meth c A hA C0 hnm hr hP hD ls hl
  have hl : lv_has ls 6 [(0, .ref h), (1, .int p1), (2, .int p2)] := hl
  have hx := C0.x
  have hb := C0.b
  have hS : va_S A s.heap s.heap [] := va_S.rf
  have hP : va_P D cls9 [(h, oX8 (.ref q_now) (.int x_arches) (.int x_cats) w_text (.int x_typed) (.ref q_row) (.int x_rowMany) (.int x_thrown) w_read (.int x_length) (.int x_top) (.int x_at) (.int x_wrong) w_told w_rule w_otherRule (.int x_ruleSize) (.int x_isAsked) w_asked w_undos (.int x_undoMany) w_aside w_then w_hold (.int x_dropped) w_acts w_guarded w_train (.int x_trolleyEnd) w_feltOf w_feltBy (.int x_feltMany) w_many w_heardOf w_heardBy (.int x_heardMany) w_worth (.int x_drawn) (.int x_came) w_kept w_isKept w_keptCame), (q_now, aI cT 47 f_now), (q_row, aJ cT 16 f_row)] s.heap := hP
  have hD : va_D A [(h, oX8 (.ref q_now) (.int x_arches) (.int x_cats) w_text (.int x_typed) (.ref q_row) (.int x_rowMany) (.int x_thrown) w_read (.int x_length) (.int x_top) (.int x_at) (.int x_wrong) w_told w_rule w_otherRule (.int x_ruleSize) (.int x_isAsked) w_asked w_undos (.int x_undoMany) w_aside w_then w_hold (.int x_dropped) w_acts w_guarded w_train (.int x_trolleyEnd) w_feltOf w_feltBy (.int x_feltMany) w_many w_heardOf w_heardBy (.int x_heardMany) w_worth (.int x_drawn) (.int x_came) w_kept w_isKept w_keptCame), (q_now, aI cT 47 f_now), (q_row, aJ cT 16 f_row)] := hD
  have L58 : ∀ (y3_32 : Int32) (n58 : Nat) (y5_58 : Int32) (y4_58 : Int32) (H : Heap) (locs : List Loc) (ls : Array Slot), p_X8_spreads_58 F x_cats f_now f_row y3_32 Post n58 y5_58 y4_58 → va_P D cls9 [(h, oX8 (.ref q_now) (.int x_arches) (.int x_cats) w_text (.int x_typed) (.ref q_row) (.int x_rowMany) (.int (0 : Int32)) w_read (.int x_length) (.int x_top) (.int x_at) (.int x_wrong) w_told w_rule w_otherRule (.int x_ruleSize) (.int x_isAsked) w_asked w_undos (.int x_undoMany) w_aside w_then w_hold (.int x_dropped) w_acts w_guarded w_train (.int x_trolleyEnd) w_feltOf w_feltBy (.int x_feltMany) w_many w_heardOf w_heardBy (.int x_heardMany) w_worth (.int x_drawn) (.int x_came) w_kept w_isKept w_keptCame), (q_now, aI cT 47 f_now), (q_row, aJ cT 16 f_row)] H → va_D A [(h, oX8 (.ref q_now) (.int x_arches) (.int x_cats) w_text (.int x_typed) (.ref q_row) (.int x_rowMany) (.int (0 : Int32)) w_read (.int x_length) (.int x_top) (.int x_at) (.int x_wrong) w_told w_rule w_otherRule (.int x_ruleSize) (.int x_isAsked) w_asked w_undos (.int x_undoMany) w_aside w_then w_hold (.int x_dropped) w_acts w_guarded w_train (.int x_trolleyEnd) w_feltOf w_feltBy (.int x_feltMany) w_many w_heardOf w_heardBy (.int x_heardMany) w_worth (.int x_drawn) (.int x_came) w_kept w_isKept w_keptCame), (q_now, aI cT 47 f_now), (q_row, aJ cT 16 f_row)] → va_S A s.heap H locs → lv_has ls 6 [(0, .ref h), (3, .int y3_32), (4, .int y4_58), (5, .int y5_58)] → W p l e (rmO 2 54 0 0) s m ([.ref h, .int p1, .int p2] : List Value).toArray below meth c H locs 0 0 (MQ below (va_Qi Post (cB D A (fun (u : (Int32 × Int32 × (Nat → Int64))) => [(h, oX8 (.ref q_now) (.int x_arches) (.int x_cats) w_text (.int x_typed) (.ref q_row) (.int u.1) (.int u.2.1) w_read (.int x_length) (.int x_top) (.int x_at) (.int x_wrong) w_told w_rule w_otherRule (.int x_ruleSize) (.int x_isAsked) w_asked w_undos (.int x_undoMany) w_aside w_then w_hold (.int x_dropped) w_acts w_guarded w_train (.int x_trolleyEnd) w_feltOf w_feltBy (.int x_feltMany) w_many w_heardOf w_heardBy (.int x_heardMany) w_worth (.int x_drawn) (.int x_came) w_kept w_isKept w_keptCame), (q_now, aI cT 47 f_now), (q_row, aJ cT 16 u.2.2)])) A) ([.ref h, .int p1, .int p2] : List Value).toArray s 0 0 A) (F0 m 58 ls []) := by
    intro y3_32 n58
    induction n58 with
    | zero =>
      intro y5_58 y4_58 H locs ls hg hP hD hS hl
      exact False.elim hg
    | succ n58 ih58 =>
      intro y5_58 y4_58 H locs ls hg hP hD hS hl
      rw [p_X8_spreads_58_s] at hg
      refine lv_aload_n hx hb dX8_spreads_58 rfl (lv_at hl 0 rfl) ?_
      refine lv_iload hx hb dX8_spreads_59 (lv_at hl 3 rfl) ?_
      refine k_Vxi (rest := []) C0 lk_X8_338 (c_X8_spread l D cT F h y5_58 q_now x_arches x_cats w_text x_typed (.ref q_row) x_rowMany (0 : Int32) w_read x_length x_top x_at x_wrong w_told w_rule w_otherRule x_ruleSize x_isAsked w_asked w_undos x_undoMany w_aside w_then w_hold x_dropped w_acts w_guarded w_train x_trolleyEnd w_feltOf w_feltBy x_feltMany w_many w_heardOf w_heardBy x_heardMany w_worth x_drawn x_came w_kept w_isKept w_keptCame f_now _ hg) hP hD [0, 1] (by decide +kernel) rfl rfl rfl ⟨Nat.le_of_ble_eq_true rfl, Nat.le_of_ble_eq_true rfl⟩ rfl hl.1 rfl (Nat.le_of_ble_eq_true rfl) dX8_spreads_61 ⟨Nat.le_of_ble_eq_true rfl, Nat.le_of_ble_eq_true rfl⟩ (fun r_61 hg => ?_)
      refine lv_iload hx hb dX8_spreads_64 (lv_at hl 3 rfl) ?_
      refine lv_icmp_eq (tgt := 83) hx hb dX8_spreads_66 (by decide) (fun c_66 => ?_) (fun c_66 => ?_)
      · have hg := hg.1 c_66
        refine lv_aload_n hx hb dX8_spreads_83 rfl (lv_at hl 0 rfl) ?_
        refine lv_iconst (v := (0 : Int32)) hx hb dX8_spreads_84 (by decide) ?_
        refine pf_X8_86 C0 hP hD hS 0 rfl (Nat.le_of_ble_eq_true rfl) (ws2 := [(h, oX8 (.ref q_now) (.int x_arches) (.int x_cats) w_text (.int x_typed) (.ref q_row) (.int (0 : Int32)) (.int (0 : Int32)) w_read (.int x_length) (.int x_top) (.int x_at) (.int x_wrong) w_told w_rule w_otherRule (.int x_ruleSize) (.int x_isAsked) w_asked w_undos (.int x_undoMany) w_aside w_then w_hold (.int x_dropped) w_acts w_guarded w_train (.int x_trolleyEnd) w_feltOf w_feltBy (.int x_feltMany) w_many w_heardOf w_heardBy (.int x_heardMany) w_worth (.int x_drawn) (.int x_came) w_kept w_isKept w_keptCame), (q_now, aI cT 47 f_now), (q_row, aJ cT 16 f_row)]) rfl dX8_spreads_85 (fun H locs hP hD hS => ?_)
        refine lv_aload_n hx hb dX8_spreads_88 rfl (lv_at hl 0 rfl) ?_
        refine lv_iload_n hx hb dX8_spreads_89 rfl (lv_at hl 1 rfl) ?_
        refine k_Sxi (rest := [.ref h]) C0 lk_X8_202 (c_J6_bitCount_0f7a4 l D cT F y3_32 _ hg) hP hD [] (by decide +kernel) rfl ⟨Nat.le_of_ble_eq_true rfl, Nat.le_of_ble_eq_true rfl⟩ rfl hl.1 rfl (Nat.le_of_ble_eq_true rfl) dX8_spreads_90 ⟨Nat.le_of_ble_eq_true rfl, Nat.le_of_ble_eq_true rfl⟩ (fun r_90 hg => ?_)
        refine lv_i2l (v := (r_90.toInt64)) hx hb dX8_spreads_93 rfl ?_
        refine k_Vv (rest := []) (wr := [(q_now, aI cT 47 f_now)]) (w2 := fun u_94 => [(q_now, aI cT 47 f_now), (h, oX8 (.ref q_now) (.int x_arches) (.int x_cats) w_text (.int x_typed) (.ref q_row) (.int u_94.1) (.int (0 : Int32)) w_read (.int x_length) (.int x_top) (.int x_at) (.int x_wrong) w_told w_rule w_otherRule (.int x_ruleSize) (.int x_isAsked) w_asked w_undos (.int x_undoMany) w_aside w_then w_hold (.int x_dropped) w_acts w_guarded w_train (.int x_trolleyEnd) w_feltOf w_feltBy (.int x_feltMany) w_many w_heardOf w_heardBy (.int x_heardMany) w_worth (.int x_drawn) (.int x_came) w_kept w_isKept w_keptCame), (q_row, aJ cT 16 u_94.2)]) C0 lk_X8_249 (c_X8_tell l D cT F h (r_90.toInt64) (.ref q_now) x_arches x_cats w_text x_typed q_row (0 : Int32) (0 : Int32) w_read x_length x_top x_at x_wrong w_told w_rule w_otherRule x_ruleSize x_isAsked w_asked w_undos x_undoMany w_aside w_then w_hold x_dropped w_acts w_guarded w_train x_trolleyEnd w_feltOf w_feltBy x_feltMany w_many w_heardOf w_heardBy x_heardMany w_worth x_drawn x_came w_kept w_isKept w_keptCame f_row _ hg) hP hD hS hA [0, 2] [1] (by decide +kernel) rfl rfl (fun _ => rfl) rfl rfl ⟨Nat.le_of_ble_eq_true rfl, Nat.le_of_ble_eq_true rfl⟩ rfl hl.1 rfl (Nat.le_of_ble_eq_true rfl) dX8_spreads_94 ⟨Nat.le_of_ble_eq_true rfl, Nat.le_of_ble_eq_true rfl⟩ ?_
        intro u_94 H locs hg hP hD hS
        refine lv_aload_n hx hb dX8_spreads_97 rfl (lv_at hl 0 rfl) ?_
        refine lv_iload hx hb dX8_spreads_98 (lv_at hl 2 rfl) ?_
        refine lv_i2l (v := (y4_58.toInt64)) hx hb dX8_spreads_100 rfl ?_
        refine k_Vv (rest := []) (wr := [(q_now, aI cT 47 f_now)]) (w2 := fun u_101 => [(q_now, aI cT 47 f_now), (h, oX8 (.ref q_now) (.int x_arches) (.int x_cats) w_text (.int x_typed) (.ref q_row) (.int u_101.1) (.int (0 : Int32)) w_read (.int x_length) (.int x_top) (.int x_at) (.int x_wrong) w_told w_rule w_otherRule (.int x_ruleSize) (.int x_isAsked) w_asked w_undos (.int x_undoMany) w_aside w_then w_hold (.int x_dropped) w_acts w_guarded w_train (.int x_trolleyEnd) w_feltOf w_feltBy (.int x_feltMany) w_many w_heardOf w_heardBy (.int x_heardMany) w_worth (.int x_drawn) (.int x_came) w_kept w_isKept w_keptCame), (q_row, aJ cT 16 u_101.2)]) C0 lk_X8_249 (c_X8_tell l D cT F h (y4_58.toInt64) (.ref q_now) x_arches x_cats w_text x_typed q_row u_94.1 (0 : Int32) w_read x_length x_top x_at x_wrong w_told w_rule w_otherRule x_ruleSize x_isAsked w_asked w_undos x_undoMany w_aside w_then w_hold x_dropped w_acts w_guarded w_train x_trolleyEnd w_feltOf w_feltBy x_feltMany w_many w_heardOf w_heardBy x_heardMany w_worth x_drawn x_came w_kept w_isKept w_keptCame u_94.2 _ hg) hP hD hS hA [1, 2] [0] (by decide +kernel) rfl rfl (fun _ => rfl) rfl rfl ⟨Nat.le_of_ble_eq_true rfl, Nat.le_of_ble_eq_true rfl⟩ rfl hl.1 rfl (Nat.le_of_ble_eq_true rfl) dX8_spreads_101 ⟨Nat.le_of_ble_eq_true rfl, Nat.le_of_ble_eq_true rfl⟩ ?_
        intro u_101 H locs hg hP hD hS
        refine lv_iload_n hx hb dX8_spreads_104 rfl (lv_at hl 1 rfl) ?_
        exact k_iret C0 hr (u_101.1, (0 : Int32), u_101.2) hg (subP hP [1, 0, 2] rfl) (hD.sub [1, 0, 2] (nd2_ok _ (by decide +kernel)) rfl) hS dX8_spreads_105
      have hg := hg.2 c_66
      refine lv_iinc (v := (y4_58 + (1 : Int32))) (lv' := [(4, .int (y4_58 + (1 : Int32))), (0, .ref h), (3, .int y3_32), (5, .int y5_58)]) hx hb dX8_spreads_69 hl (k := 2) rfl rfl (by decide) rfl (fun ls hl => ?_)
      refine lv_aload_n hx hb dX8_spreads_72 rfl (lv_at hl 1 rfl) ?_
      refine lv_iload hx hb dX8_spreads_73 (lv_at hl 3 rfl) ?_
      refine k_Vxi (rest := []) C0 lk_X8_338 (c_X8_spread l D cT F h y5_58 q_now x_arches x_cats w_text x_typed (.ref q_row) x_rowMany (0 : Int32) w_read x_length x_top x_at x_wrong w_told w_rule w_otherRule x_ruleSize x_isAsked w_asked w_undos x_undoMany w_aside w_then w_hold x_dropped w_acts w_guarded w_train x_trolleyEnd w_feltOf w_feltBy x_feltMany w_many w_heardOf w_heardBy x_heardMany w_worth x_drawn x_came w_kept w_isKept w_keptCame f_now _ hg) hP hD [0, 1] (by decide +kernel) rfl rfl rfl ⟨Nat.le_of_ble_eq_true rfl, Nat.le_of_ble_eq_true rfl⟩ rfl hl.1 rfl (Nat.le_of_ble_eq_true rfl) dX8_spreads_75 ⟨Nat.le_of_ble_eq_true rfl, Nat.le_of_ble_eq_true rfl⟩ (fun r_75 hg => ?_)
      refine lv_istore (lv' := [(5, .int r_75), (4, .int (y4_58 + (1 : Int32))), (0, .ref h), (3, .int y3_32)]) hx hb dX8_spreads_78 hl (by decide) rfl (fun ls hl => ?_)
      refine lv_goto (tgt := 58) hx hb dX8_spreads_80 (by decide) ?_
      exact ih58 r_75 (y4_58 + (1 : Int32)) _ _ _ hg hP hD hS (lv_sub hl [2, 3, 1, 0] rfl)
  have L32 : ∀ (n32 : Nat) (y4_32 : Int32) (y3_32 : Int32) (H : Heap) (locs : List Loc) (ls : Array Slot), p_X8_spreads_32 F p1 p2 x_cats f_now f_row Post n32 y4_32 y3_32 → va_P D cls9 [(h, oX8 (.ref q_now) (.int x_arches) (.int x_cats) w_text (.int x_typed) (.ref q_row) (.int x_rowMany) (.int (0 : Int32)) w_read (.int x_length) (.int x_top) (.int x_at) (.int x_wrong) w_told w_rule w_otherRule (.int x_ruleSize) (.int x_isAsked) w_asked w_undos (.int x_undoMany) w_aside w_then w_hold (.int x_dropped) w_acts w_guarded w_train (.int x_trolleyEnd) w_feltOf w_feltBy (.int x_feltMany) w_many w_heardOf w_heardBy (.int x_heardMany) w_worth (.int x_drawn) (.int x_came) w_kept w_isKept w_keptCame), (q_now, aI cT 47 f_now), (q_row, aJ cT 16 f_row)] H → va_D A [(h, oX8 (.ref q_now) (.int x_arches) (.int x_cats) w_text (.int x_typed) (.ref q_row) (.int x_rowMany) (.int (0 : Int32)) w_read (.int x_length) (.int x_top) (.int x_at) (.int x_wrong) w_told w_rule w_otherRule (.int x_ruleSize) (.int x_isAsked) w_asked w_undos (.int x_undoMany) w_aside w_then w_hold (.int x_dropped) w_acts w_guarded w_train (.int x_trolleyEnd) w_feltOf w_feltBy (.int x_feltMany) w_many w_heardOf w_heardBy (.int x_heardMany) w_worth (.int x_drawn) (.int x_came) w_kept w_isKept w_keptCame), (q_now, aI cT 47 f_now), (q_row, aJ cT 16 f_row)] → va_S A s.heap H locs → lv_has ls 6 [(0, .ref h), (1, .int p1), (2, .int p2), (3, .int y3_32), (4, .int y4_32)] → W p l e (rmO 2 54 0 0) s m ([.ref h, .int p1, .int p2] : List Value).toArray below meth c H locs 0 0 (MQ below (va_Qi Post (cB D A (fun (u : (Int32 × Int32 × (Nat → Int64))) => [(h, oX8 (.ref q_now) (.int x_arches) (.int x_cats) w_text (.int x_typed) (.ref q_row) (.int u.1) (.int u.2.1) w_read (.int x_length) (.int x_top) (.int x_at) (.int x_wrong) w_told w_rule w_otherRule (.int x_ruleSize) (.int x_isAsked) w_asked w_undos (.int x_undoMany) w_aside w_then w_hold (.int x_dropped) w_acts w_guarded w_train (.int x_trolleyEnd) w_feltOf w_feltBy (.int x_feltMany) w_many w_heardOf w_heardBy (.int x_heardMany) w_worth (.int x_drawn) (.int x_came) w_kept w_isKept w_keptCame), (q_now, aI cT 47 f_now), (q_row, aJ cT 16 u.2.2)])) A) ([.ref h, .int p1, .int p2] : List Value).toArray s 0 0 A) (F0 m 32 ls []) := by
    intro n32
    induction n32 with
    | zero =>
      intro y4_32 y3_32 H locs ls hg hP hD hS hl
      exact False.elim hg
    | succ n32 ih32 =>
      intro y4_32 y3_32 H locs ls hg hP hD hS hl
      rw [p_X8_spreads_32_s] at hg
      refine lv_iload hx hb dX8_spreads_32 (lv_at hl 4 rfl) ?_
      refine lv_iload_n hx hb dX8_spreads_34 rfl (lv_at hl 2 rfl) ?_
      refine lv_icmp_ge (tgt := 50) hx hb dX8_spreads_35 (by decide) (fun c_35 => ?_) (fun c_35 => ?_)
      · have hg := hg.1 c_35
        refine lv_iconst (v := (0 : Int32)) hx hb dX8_spreads_50 (by decide) ?_
        refine lv_istore (lv' := [(4, .int (0 : Int32)), (0, .ref h), (1, .int p1), (2, .int p2), (3, .int y3_32)]) hx hb dX8_spreads_51 hl (by decide) rfl (fun ls hl => ?_)
        refine lv_iconst (v := (1 : Int32)) hx hb dX8_spreads_53 (by decide) ?_
        refine lv_iload_n hx hb dX8_spreads_54 rfl (lv_at hl 2 rfl) ?_
        refine lv_ishl hx hb dX8_spreads_55 ?_
        refine lv_istore (lv' := [(5, .int ((1 : Int32) <<< (p1 &&& 31))), (4, .int (0 : Int32)), (0, .ref h), (1, .int p1), (2, .int p2), (3, .int y3_32)]) hx hb dX8_spreads_56 hl (by decide) rfl (fun ls hl => ?_)
        exact L58 y3_32 F ((1 : Int32) <<< (p1 &&& 31)) (0 : Int32) _ _ _ hg hP hD hS (lv_sub hl [2, 5, 1, 0] rfl)
      have hg := hg.2 c_35
      refine lv_aload_n hx hb dX8_spreads_38 rfl (lv_at hl 0 rfl) ?_
      refine lv_iload_n hx hb dX8_spreads_39 rfl (lv_at hl 3 rfl) ?_
      refine k_Vxi (rest := []) C0 lk_X8_338 (c_X8_spread l D cT F h y3_32 q_now x_arches x_cats w_text x_typed (.ref q_row) x_rowMany (0 : Int32) w_read x_length x_top x_at x_wrong w_told w_rule w_otherRule x_ruleSize x_isAsked w_asked w_undos x_undoMany w_aside w_then w_hold x_dropped w_acts w_guarded w_train x_trolleyEnd w_feltOf w_feltBy x_feltMany w_many w_heardOf w_heardBy x_heardMany w_worth x_drawn x_came w_kept w_isKept w_keptCame f_now _ hg) hP hD [0, 1] (by decide +kernel) rfl rfl rfl ⟨Nat.le_of_ble_eq_true rfl, Nat.le_of_ble_eq_true rfl⟩ rfl hl.1 rfl (Nat.le_of_ble_eq_true rfl) dX8_spreads_40 ⟨Nat.le_of_ble_eq_true rfl, Nat.le_of_ble_eq_true rfl⟩ (fun r_40 hg => ?_)
      refine lv_istore_n (lv' := [(3, .int r_40), (0, .ref h), (1, .int p1), (2, .int p2), (4, .int y4_32)]) hx hb dX8_spreads_43 rfl hl (by decide) rfl (fun ls hl => ?_)
      refine lv_iinc (v := (y4_32 + (1 : Int32))) (lv' := [(4, .int (y4_32 + (1 : Int32))), (3, .int r_40), (0, .ref h), (1, .int p1), (2, .int p2)]) hx hb dX8_spreads_44 hl (k := 4) rfl rfl (by decide) rfl (fun ls hl => ?_)
      refine lv_goto (tgt := 32) hx hb dX8_spreads_47 (by decide) ?_
      exact ih32 (y4_32 + (1 : Int32)) r_40 _ _ _ hg hP hD hS (lv_sub hl [2, 3, 4, 1, 0] rfl)
  unfold p_X8_spreads at hg
  refine lv_aload_n hx hb dX8_spreads_0 rfl (lv_at hl 0 rfl) ?_
  refine lv_iconst (v := (0 : Int32)) hx hb dX8_spreads_1 (by decide) ?_
  refine pf_X8_82 C0 hP hD hS 0 rfl (Nat.le_of_ble_eq_true rfl) (ws2 := [(h, oX8 (.ref q_now) (.int x_arches) (.int x_cats) w_text (.int x_typed) (.ref q_row) (.int x_rowMany) (.int (0 : Int32)) w_read (.int x_length) (.int x_top) (.int x_at) (.int x_wrong) w_told w_rule w_otherRule (.int x_ruleSize) (.int x_isAsked) w_asked w_undos (.int x_undoMany) w_aside w_then w_hold (.int x_dropped) w_acts w_guarded w_train (.int x_trolleyEnd) w_feltOf w_feltBy (.int x_feltMany) w_many w_heardOf w_heardBy (.int x_heardMany) w_worth (.int x_drawn) (.int x_came) w_kept w_isKept w_keptCame), (q_now, aI cT 47 f_now), (q_row, aJ cT 16 f_row)]) rfl dX8_spreads_2 (fun H locs hP hD hS => ?_)
  refine lv_aload_n hx hb dX8_spreads_5 rfl (lv_at hl 0 rfl) ?_
  refine lv_iload_n hx hb dX8_spreads_6 rfl (lv_at hl 1 rfl) ?_
  refine k_Vxi (rest := []) C0 lk_X8_224 (c_X8_isCat l D cT F h p1 (.ref q_now) x_arches x_cats w_text x_typed (.ref q_row) x_rowMany (0 : Int32) w_read x_length x_top x_at x_wrong w_told w_rule w_otherRule x_ruleSize x_isAsked w_asked w_undos x_undoMany w_aside w_then w_hold x_dropped w_acts w_guarded w_train x_trolleyEnd w_feltOf w_feltBy x_feltMany w_many w_heardOf w_heardBy x_heardMany w_worth x_drawn x_came w_kept w_isKept w_keptCame _ hg) hP hD [0] (by decide +kernel) rfl rfl rfl ⟨Nat.le_of_ble_eq_true rfl, Nat.le_of_ble_eq_true rfl⟩ rfl hl.1 rfl (Nat.le_of_ble_eq_true rfl) dX8_spreads_7 ⟨Nat.le_of_ble_eq_true rfl, Nat.le_of_ble_eq_true rfl⟩ (fun r_7 hg => ?_)
  refine lv_if_eq (tgt := 23) hx hb dX8_spreads_10 (by decide) (fun c_10 => ?_) (fun c_10 => ?_)
  · have hg := hg.1 c_10
    refine lv_iconst (v := (-1 : Int32)) hx hb dX8_spreads_23 (by decide) ?_
    exact k_iret C0 hr (x_rowMany, (0 : Int32), f_row) hg hP hD hS dX8_spreads_24
  have hg := hg.2 c_10
  refine lv_iload_n hx hb dX8_spreads_13 rfl (lv_at hl 2 rfl) ?_
  refine lv_iconst (v := (0 : Int32)) hx hb dX8_spreads_14 (by decide) ?_
  refine lv_bipush (v := (9 : Int32)) hx hb dX8_spreads_15 (by decide) ?_
  refine k_Sxi (rest := []) C0 lk_X8_92 (c_X8_in l D cT F p2 (0 : Int32) (9 : Int32) _ hg) hP hD [] (by decide +kernel) rfl ⟨Nat.le_of_ble_eq_true rfl, Nat.le_of_ble_eq_true rfl⟩ rfl hl.1 rfl (Nat.le_of_ble_eq_true rfl) dX8_spreads_17 ⟨Nat.le_of_ble_eq_true rfl, Nat.le_of_ble_eq_true rfl⟩ (fun r_17 hg => ?_)
  refine lv_if_ne (tgt := 25) hx hb dX8_spreads_20 (by decide) (fun c_20 => ?_) (fun c_20 => ?_)
  · have hg := hg.1 c_20
    refine lv_iconst (v := (1 : Int32)) hx hb dX8_spreads_25 (by decide) ?_
    refine lv_iload_n hx hb dX8_spreads_26 rfl (lv_at hl 1 rfl) ?_
    refine lv_ishl hx hb dX8_spreads_27 ?_
    refine lv_istore_n (lv' := [(3, .int ((1 : Int32) <<< (p1 &&& 31))), (0, .ref h), (1, .int p1), (2, .int p2)]) hx hb dX8_spreads_28 rfl hl (by decide) rfl (fun ls hl => ?_)
    refine lv_iconst (v := (0 : Int32)) hx hb dX8_spreads_29 (by decide) ?_
    refine lv_istore (lv' := [(4, .int (0 : Int32)), (3, .int ((1 : Int32) <<< (p1 &&& 31))), (0, .ref h), (1, .int p1), (2, .int p2)]) hx hb dX8_spreads_30 hl (by decide) rfl (fun ls hl => ?_)
    exact L32 F (0 : Int32) ((1 : Int32) <<< (p1 &&& 31)) _ _ _ hg hP hD hS (lv_sub hl [2, 3, 4, 1, 0] rfl)
  have hg := hg.2 c_20
  refine lv_iconst (v := (-1 : Int32)) hx hb dX8_spreads_23 (by decide) ?_
  exact k_iret C0 hr (x_rowMany, (0 : Int32), f_row) hg hP hD hS dX8_spreads_24
theorem dX8_heard_0 : decode cX8_heard 0 = .ok (.aload_n 0, 1) := by decide +kernel
theorem dX8_heard_1 : decode cX8_heard 1 = .ok (.iconst 0, 1) := by decide +kernel
theorem dX8_heard_2 : decode cX8_heard 2 = .ok (.putfield 82, 3) := by decide +kernel
theorem dX8_heard_5 : decode cX8_heard 5 = .ok (.iload_n 1, 1) := by decide +kernel
theorem dX8_heard_6 : decode cX8_heard 6 = .ok (.iconst 2, 1) := by decide +kernel
theorem dX8_heard_7 : decode cX8_heard 7 = .ok (.if_icmp .ne 7, 3) := by decide +kernel
theorem dX8_heard_10 : decode cX8_heard 10 = .ok (.iconst 5, 1) := by decide +kernel
theorem dX8_heard_11 : decode cX8_heard 11 = .ok (.goto 14, 3) := by decide +kernel
theorem dX8_heard_14 : decode cX8_heard 14 = .ok (.iload_n 1, 1) := by decide +kernel
theorem dX8_heard_15 : decode cX8_heard 15 = .ok (.iconst 4, 1) := by decide +kernel
theorem dX8_heard_16 : decode cX8_heard 16 = .ok (.if_icmp .ne 7, 3) := by decide +kernel
theorem dX8_heard_19 : decode cX8_heard 19 = .ok (.iconst 1, 1) := by decide +kernel
theorem dX8_heard_20 : decode cX8_heard 20 = .ok (.goto 5, 3) := by decide +kernel
theorem dX8_heard_23 : decode cX8_heard 23 = .ok (.bipush 9, 2) := by decide +kernel
theorem dX8_heard_25 : decode cX8_heard 25 = .ok (.istore_n 3, 1) := by decide +kernel
theorem dX8_heard_26 : decode cX8_heard 26 = .ok (.iload_n 1, 1) := by decide +kernel
theorem dX8_heard_27 : decode cX8_heard 27 = .ok (.iconst 0, 1) := by decide +kernel
theorem dX8_heard_28 : decode cX8_heard 28 = .ok (.iconst 4, 1) := by decide +kernel
theorem dX8_heard_29 : decode cX8_heard 29 = .ok (.invokestatic 92, 3) := by decide +kernel
theorem dX8_heard_32 : decode cX8_heard 32 = .ok (.ifCond .eq 21, 3) := by decide +kernel
theorem dX8_heard_35 : decode cX8_heard 35 = .ok (.iload_n 2, 1) := by decide +kernel
theorem dX8_heard_36 : decode cX8_heard 36 = .ok (.iconst 0, 1) := by decide +kernel
theorem dX8_heard_37 : decode cX8_heard 37 = .ok (.iload_n 3, 1) := by decide +kernel
theorem dX8_heard_38 : decode cX8_heard 38 = .ok (.invokestatic 92, 3) := by decide +kernel
theorem dX8_heard_41 : decode cX8_heard 41 = .ok (.ifCond .eq 12, 3) := by decide +kernel
theorem dX8_heard_44 : decode cX8_heard 44 = .ok (.aload_n 0, 1) := by decide +kernel
theorem dX8_heard_45 : decode cX8_heard 45 = .ok (.getfield 341, 3) := by decide +kernel
theorem dX8_heard_48 : decode cX8_heard 48 = .ok (.bipush 12, 2) := by decide +kernel
theorem dX8_heard_50 : decode cX8_heard 50 = .ok (.if_icmp .ne 5, 3) := by decide +kernel
theorem dX8_heard_53 : decode cX8_heard 53 = .ok (.iconst (-1), 1) := by decide +kernel
theorem dX8_heard_54 : decode cX8_heard 54 = .ok (.ireturn, 1) := by decide +kernel
theorem dX8_heard_55 : decode cX8_heard 55 = .ok (.aload_n 0, 1) := by decide +kernel
theorem dX8_heard_56 : decode cX8_heard 56 = .ok (.getfield 63, 3) := by decide +kernel
theorem dX8_heard_59 : decode cX8_heard 59 = .ok (.aload_n 0, 1) := by decide +kernel
theorem dX8_heard_60 : decode cX8_heard 60 = .ok (.getfield 341, 3) := by decide +kernel
theorem dX8_heard_63 : decode cX8_heard 63 = .ok (.iload_n 1, 1) := by decide +kernel
theorem dX8_heard_64 : decode cX8_heard 64 = .ok (.iastore, 1) := by decide +kernel
theorem dX8_heard_65 : decode cX8_heard 65 = .ok (.aload_n 0, 1) := by decide +kernel
theorem dX8_heard_66 : decode cX8_heard 66 = .ok (.getfield 66, 3) := by decide +kernel
theorem dX8_heard_69 : decode cX8_heard 69 = .ok (.aload_n 0, 1) := by decide +kernel
theorem dX8_heard_70 : decode cX8_heard 70 = .ok (.getfield 341, 3) := by decide +kernel
theorem dX8_heard_73 : decode cX8_heard 73 = .ok (.iload_n 2, 1) := by decide +kernel
theorem dX8_heard_74 : decode cX8_heard 74 = .ok (.iastore, 1) := by decide +kernel
theorem dX8_heard_75 : decode cX8_heard 75 = .ok (.aload_n 0, 1) := by decide +kernel
theorem dX8_heard_76 : decode cX8_heard 76 = .ok (.dup, 1) := by decide +kernel
theorem dX8_heard_77 : decode cX8_heard 77 = .ok (.getfield 341, 3) := by decide +kernel
theorem dX8_heard_80 : decode cX8_heard 80 = .ok (.iconst 1, 1) := by decide +kernel
theorem dX8_heard_81 : decode cX8_heard 81 = .ok (.iadd, 1) := by decide +kernel
theorem dX8_heard_82 : decode cX8_heard 82 = .ok (.putfield 341, 3) := by decide +kernel
theorem dX8_heard_85 : decode cX8_heard 85 = .ok (.aload_n 0, 1) := by decide +kernel
theorem dX8_heard_86 : decode cX8_heard 86 = .ok (.getfield 341, 3) := by decide +kernel
theorem dX8_heard_89 : decode cX8_heard 89 = .ok (.ireturn, 1) := by decide +kernel
def p_X8_heard_25 (F : Nat) (p1 : Int32) (p2 : Int32) (x_heardMany : Int32) (f_heardOf : Nat → Int32) (f_heardBy : Nat → Int32) (Post : Int32 → (Int32 × Int32 × (Nat → Int32) × (Nat → Int32)) → Prop) (s0_25 : Int32) : Prop := (p_X8_in F p1 (0 : Int32) (4 : Int32) (fun (r_29 : Int32) => ((r_29 = 0 → (Post (-1 : Int32) ((0 : Int32), x_heardMany, f_heardOf, f_heardBy))) ∧ (¬ r_29 = 0 → (p_X8_in F p2 (0 : Int32) s0_25 (fun (r_38 : Int32) => ((r_38 = 0 → (Post (-1 : Int32) ((0 : Int32), x_heardMany, f_heardOf, f_heardBy))) ∧ (¬ r_38 = 0 → ((¬ x_heardMany = (12 : Int32) → (vp_in x_heardMany 12 ∧ (vp_in x_heardMany 12 ∧ (Post (x_heardMany + (1 : Int32)) ((0 : Int32), (x_heardMany + (1 : Int32)), (upd f_heardOf x_heardMany.toNatClampNeg p1), (upd f_heardBy x_heardMany.toNatClampNeg p2)))))) ∧ (x_heardMany = (12 : Int32) → (Post (-1 : Int32) ((0 : Int32), x_heardMany, f_heardOf, f_heardBy))))))))))))
def p_X8_heard (F : Nat) (p1 : Int32) (p2 : Int32) (x_heardMany : Int32) (f_heardOf : Nat → Int32) (f_heardBy : Nat → Int32) (Post : Int32 → (Int32 × Int32 × (Nat → Int32) × (Nat → Int32)) → Prop) : Prop := ((¬ p1 = (2 : Int32) → ((¬ p1 = (4 : Int32) → (p_X8_heard_25 F p1 p2 x_heardMany f_heardOf f_heardBy Post (9 : Int32))) ∧ (p1 = (4 : Int32) → (p_X8_heard_25 F p1 p2 x_heardMany f_heardOf f_heardBy Post (1 : Int32))))) ∧ (p1 = (2 : Int32) → (p_X8_heard_25 F p1 p2 x_heardMany f_heardOf f_heardBy Post (5 : Int32))))
set_option maxHeartbeats 4000000 in
set_option maxRecDepth 100000 in
theorem c_X8_heard (l : Launch) (D : va_G) (cT : Nat → ClassId) (F : Nat) (h : Nat) (p1 : Int32) (p2 : Int32) (w_now : Value) (x_arches : Int32) (x_cats : Int32) (w_text : Value) (x_typed : Int32) (w_row : Value) (x_rowMany : Int32) (x_thrown : Int32) (w_read : Value) (x_length : Int32) (x_top : Int32) (x_at : Int32) (x_wrong : Int32) (w_told : Value) (w_rule : Value) (w_otherRule : Value) (x_ruleSize : Int32) (x_isAsked : Int32) (w_asked : Value) (w_undos : Value) (x_undoMany : Int32) (w_aside : Value) (w_then : Value) (w_hold : Value) (x_dropped : Int32) (w_acts : Value) (w_guarded : Value) (w_train : Value) (x_trolleyEnd : Int32) (w_feltOf : Value) (w_feltBy : Value) (x_feltMany : Int32) (w_many : Value) (q_heardOf : Nat) (q_heardBy : Nat) (x_heardMany : Int32) (w_worth : Value) (x_drawn : Int32) (x_came : Int32) (w_kept : Value) (w_isKept : Value) (w_keptCame : Value) (f_heardOf : Nat → Int32) (f_heardBy : Nat → Int32) (Post : Int32 → (Int32 × Int32 × (Nat → Int32) × (Nat → Int32)) → Prop) (hg : p_X8_heard F p1 p2 x_heardMany f_heardOf f_heardBy Post) : MWi l D cT yX8_heard cX8_heard 4 (some .int) 1 22 0 0 [.ref h, .int p1, .int p2] [(h, oX8 w_now (.int x_arches) (.int x_cats) w_text (.int x_typed) w_row (.int x_rowMany) (.int x_thrown) w_read (.int x_length) (.int x_top) (.int x_at) (.int x_wrong) w_told w_rule w_otherRule (.int x_ruleSize) (.int x_isAsked) w_asked w_undos (.int x_undoMany) w_aside w_then w_hold (.int x_dropped) w_acts w_guarded w_train (.int x_trolleyEnd) w_feltOf w_feltBy (.int x_feltMany) w_many (.ref q_heardOf) (.ref q_heardBy) (.int x_heardMany) w_worth (.int x_drawn) (.int x_came) w_kept w_isKept w_keptCame), (q_heardOf, aI cT 12 f_heardOf), (q_heardBy, aI cT 12 f_heardBy)] Post (fun (u : (Int32 × Int32 × (Nat → Int32) × (Nat → Int32))) => [(h, oX8 w_now (.int x_arches) (.int x_cats) w_text (.int x_typed) w_row (.int x_rowMany) (.int u.1) w_read (.int x_length) (.int x_top) (.int x_at) (.int x_wrong) w_told w_rule w_otherRule (.int x_ruleSize) (.int x_isAsked) w_asked w_undos (.int x_undoMany) w_aside w_then w_hold (.int x_dropped) w_acts w_guarded w_train (.int x_trolleyEnd) w_feltOf w_feltBy (.int x_feltMany) w_many (.ref q_heardOf) (.ref q_heardBy) (.int u.2.1) w_worth (.int x_drawn) (.int x_came) w_kept w_isKept w_keptCame), (q_heardOf, aI cT 12 u.2.2.1), (q_heardBy, aI cT 12 u.2.2.2)]) := by
  refine MWi.of (by decide) (Nat.le_of_ble_eq_true rfl) ?_
  intro p e s m below meth c A hA C0 hnm hr hP hD ls hl
  have hl : lv_has ls 4 [(0, .ref h), (1, .int p1), (2, .int p2)] := hl
  have hx := C0.x
  have hb := C0.b
  have hS : va_S A s.heap s.heap [] := va_S.rf
  have hP : va_P D cls9 [(h, oX8 w_now (.int x_arches) (.int x_cats) w_text (.int x_typed) w_row (.int x_rowMany) (.int x_thrown) w_read (.int x_length) (.int x_top) (.int x_at) (.int x_wrong) w_told w_rule w_otherRule (.int x_ruleSize) (.int x_isAsked) w_asked w_undos (.int x_undoMany) w_aside w_then w_hold (.int x_dropped) w_acts w_guarded w_train (.int x_trolleyEnd) w_feltOf w_feltBy (.int x_feltMany) w_many (.ref q_heardOf) (.ref q_heardBy) (.int x_heardMany) w_worth (.int x_drawn) (.int x_came) w_kept w_isKept w_keptCame), (q_heardOf, aI cT 12 f_heardOf), (q_heardBy, aI cT 12 f_heardBy)] s.heap := hP
  have hD : va_D A [(h, oX8 w_now (.int x_arches) (.int x_cats) w_text (.int x_typed) w_row (.int x_rowMany) (.int x_thrown) w_read (.int x_length) (.int x_top) (.int x_at) (.int x_wrong) w_told w_rule w_otherRule (.int x_ruleSize) (.int x_isAsked) w_asked w_undos (.int x_undoMany) w_aside w_then w_hold (.int x_dropped) w_acts w_guarded w_train (.int x_trolleyEnd) w_feltOf w_feltBy (.int x_feltMany) w_many (.ref q_heardOf) (.ref q_heardBy) (.int x_heardMany) w_worth (.int x_drawn) (.int x_came) w_kept w_isKept w_keptCame), (q_heardOf, aI cT 12 f_heardOf), (q_heardBy, aI cT 12 f_heardBy)] := hD
  have L25 : ∀ (s0_25 : Int32) (H : Heap) (locs : List Loc) (ls : Array Slot), p_X8_heard_25 F p1 p2 x_heardMany f_heardOf f_heardBy Post s0_25 → va_P D cls9 [(h, oX8 w_now (.int x_arches) (.int x_cats) w_text (.int x_typed) w_row (.int x_rowMany) (.int (0 : Int32)) w_read (.int x_length) (.int x_top) (.int x_at) (.int x_wrong) w_told w_rule w_otherRule (.int x_ruleSize) (.int x_isAsked) w_asked w_undos (.int x_undoMany) w_aside w_then w_hold (.int x_dropped) w_acts w_guarded w_train (.int x_trolleyEnd) w_feltOf w_feltBy (.int x_feltMany) w_many (.ref q_heardOf) (.ref q_heardBy) (.int x_heardMany) w_worth (.int x_drawn) (.int x_came) w_kept w_isKept w_keptCame), (q_heardOf, aI cT 12 f_heardOf), (q_heardBy, aI cT 12 f_heardBy)] H → va_D A [(h, oX8 w_now (.int x_arches) (.int x_cats) w_text (.int x_typed) w_row (.int x_rowMany) (.int (0 : Int32)) w_read (.int x_length) (.int x_top) (.int x_at) (.int x_wrong) w_told w_rule w_otherRule (.int x_ruleSize) (.int x_isAsked) w_asked w_undos (.int x_undoMany) w_aside w_then w_hold (.int x_dropped) w_acts w_guarded w_train (.int x_trolleyEnd) w_feltOf w_feltBy (.int x_feltMany) w_many (.ref q_heardOf) (.ref q_heardBy) (.int x_heardMany) w_worth (.int x_drawn) (.int x_came) w_kept w_isKept w_keptCame), (q_heardOf, aI cT 12 f_heardOf), (q_heardBy, aI cT 12 f_heardBy)] → va_S A s.heap H locs → lv_has ls 4 [(0, .ref h), (1, .int p1), (2, .int p2)] → W p l e (rmO 1 22 0 0) s m ([.ref h, .int p1, .int p2] : List Value).toArray below meth c H locs 0 0 (MQ below (va_Qi Post (cB D A (fun (u : (Int32 × Int32 × (Nat → Int32) × (Nat → Int32))) => [(h, oX8 w_now (.int x_arches) (.int x_cats) w_text (.int x_typed) w_row (.int x_rowMany) (.int u.1) w_read (.int x_length) (.int x_top) (.int x_at) (.int x_wrong) w_told w_rule w_otherRule (.int x_ruleSize) (.int x_isAsked) w_asked w_undos (.int x_undoMany) w_aside w_then w_hold (.int x_dropped) w_acts w_guarded w_train (.int x_trolleyEnd) w_feltOf w_feltBy (.int x_feltMany) w_many (.ref q_heardOf) (.ref q_heardBy) (.int u.2.1) w_worth (.int x_drawn) (.int x_came) w_kept w_isKept w_keptCame), (q_heardOf, aI cT 12 u.2.2.1), (q_heardBy, aI cT 12 u.2.2.2)])) A) ([.ref h, .int p1, .int p2] : List Value).toArray s 0 0 A) (F0 m 25 ls [.int s0_25]) := by
    intro s0_25 H locs ls hg hP hD hS hl
    unfold p_X8_heard_25 at hg
    refine lv_istore_n (lv' := [(3, .int s0_25), (0, .ref h), (1, .int p1), (2, .int p2)]) hx hb dX8_heard_25 rfl hl (by decide) rfl (fun ls hl => ?_)
    refine lv_iload_n hx hb dX8_heard_26 rfl (lv_at hl 2 rfl) ?_
    refine lv_iconst (v := (0 : Int32)) hx hb dX8_heard_27 (by decide) ?_
    refine lv_iconst (v := (4 : Int32)) hx hb dX8_heard_28 (by decide) ?_
    refine k_Sxi (rest := []) C0 lk_X8_92 (c_X8_in l D cT F p1 (0 : Int32) (4 : Int32) _ hg) hP hD [] (by decide +kernel) rfl ⟨Nat.le_of_ble_eq_true rfl, Nat.le_of_ble_eq_true rfl⟩ rfl hl.1 rfl (Nat.le_of_ble_eq_true rfl) dX8_heard_29 ⟨Nat.le_of_ble_eq_true rfl, Nat.le_of_ble_eq_true rfl⟩ (fun r_29 hg => ?_)
    refine lv_if_eq (tgt := 53) hx hb dX8_heard_32 (by decide) (fun c_32 => ?_) (fun c_32 => ?_)
    · have hg := hg.1 c_32
      refine lv_iconst (v := (-1 : Int32)) hx hb dX8_heard_53 (by decide) ?_
      exact k_iret C0 hr ((0 : Int32), x_heardMany, f_heardOf, f_heardBy) hg hP hD hS dX8_heard_54
    have hg := hg.2 c_32
    refine lv_iload_n hx hb dX8_heard_35 rfl (lv_at hl 3 rfl) ?_
    refine lv_iconst (v := (0 : Int32)) hx hb dX8_heard_36 (by decide) ?_
    refine lv_iload_n hx hb dX8_heard_37 rfl (lv_at hl 0 rfl) ?_
    refine k_Sxi (rest := []) C0 lk_X8_92 (c_X8_in l D cT F p2 (0 : Int32) s0_25 _ hg) hP hD [] (by decide +kernel) rfl ⟨Nat.le_of_ble_eq_true rfl, Nat.le_of_ble_eq_true rfl⟩ rfl hl.1 rfl (Nat.le_of_ble_eq_true rfl) dX8_heard_38 ⟨Nat.le_of_ble_eq_true rfl, Nat.le_of_ble_eq_true rfl⟩ (fun r_38 hg => ?_)
    refine lv_if_eq (tgt := 53) hx hb dX8_heard_41 (by decide) (fun c_41 => ?_) (fun c_41 => ?_)
    · have hg := hg.1 c_41
      refine lv_iconst (v := (-1 : Int32)) hx hb dX8_heard_53 (by decide) ?_
      exact k_iret C0 hr ((0 : Int32), x_heardMany, f_heardOf, f_heardBy) hg hP hD hS dX8_heard_54
    have hg := hg.2 c_41
    refine lv_aload_n hx hb dX8_heard_44 rfl (lv_at hl 1 rfl) ?_
    refine gf_X8_341 C0 hP 0 rfl rfl dX8_heard_45 ?_
    refine lv_bipush (v := (12 : Int32)) hx hb dX8_heard_48 (by decide) ?_
    refine lv_icmp_ne (tgt := 55) hx hb dX8_heard_50 (by decide) (fun c_50 => ?_) (fun c_50 => ?_)
    · have hg := hg.1 c_50
      refine lv_aload_n hx hb dX8_heard_55 rfl (lv_at hl 1 rfl) ?_
      refine gf_X8_63 C0 hP 0 rfl rfl dX8_heard_56 ?_
      refine lv_aload_n hx hb dX8_heard_59 rfl (lv_at hl 1 rfl) ?_
      refine gf_X8_341 C0 hP 0 rfl rfl dX8_heard_60 ?_
      refine lv_iload_n hx hb dX8_heard_63 rfl (lv_at hl 2 rfl) ?_
      obtain ⟨g_64, hg⟩ := hg
      refine k_iast C0 hP hD hS 1 rfl g_64 (ws' := [(h, oX8 w_now (.int x_arches) (.int x_cats) w_text (.int x_typed) w_row (.int x_rowMany) (.int (0 : Int32)) w_read (.int x_length) (.int x_top) (.int x_at) (.int x_wrong) w_told w_rule w_otherRule (.int x_ruleSize) (.int x_isAsked) w_asked w_undos (.int x_undoMany) w_aside w_then w_hold (.int x_dropped) w_acts w_guarded w_train (.int x_trolleyEnd) w_feltOf w_feltBy (.int x_feltMany) w_many (.ref q_heardOf) (.ref q_heardBy) (.int x_heardMany) w_worth (.int x_drawn) (.int x_came) w_kept w_isKept w_keptCame), (q_heardOf, aI cT 12 (upd f_heardOf x_heardMany.toNatClampNeg p1)), (q_heardBy, aI cT 12 f_heardBy)]) rfl dX8_heard_64 (fun H locs hP hD hS => ?_)
      refine lv_aload_n hx hb dX8_heard_65 rfl (lv_at hl 1 rfl) ?_
      refine gf_X8_66 C0 hP 0 rfl rfl dX8_heard_66 ?_
      refine lv_aload_n hx hb dX8_heard_69 rfl (lv_at hl 1 rfl) ?_
      refine gf_X8_341 C0 hP 0 rfl rfl dX8_heard_70 ?_
      refine lv_iload_n hx hb dX8_heard_73 rfl (lv_at hl 3 rfl) ?_
      obtain ⟨g_74, hg⟩ := hg
      refine k_iast C0 hP hD hS 2 rfl g_74 (ws' := [(h, oX8 w_now (.int x_arches) (.int x_cats) w_text (.int x_typed) w_row (.int x_rowMany) (.int (0 : Int32)) w_read (.int x_length) (.int x_top) (.int x_at) (.int x_wrong) w_told w_rule w_otherRule (.int x_ruleSize) (.int x_isAsked) w_asked w_undos (.int x_undoMany) w_aside w_then w_hold (.int x_dropped) w_acts w_guarded w_train (.int x_trolleyEnd) w_feltOf w_feltBy (.int x_feltMany) w_many (.ref q_heardOf) (.ref q_heardBy) (.int x_heardMany) w_worth (.int x_drawn) (.int x_came) w_kept w_isKept w_keptCame), (q_heardOf, aI cT 12 (upd f_heardOf x_heardMany.toNatClampNeg p1)), (q_heardBy, aI cT 12 (upd f_heardBy x_heardMany.toNatClampNeg p2))]) rfl dX8_heard_74 (fun H locs hP hD hS => ?_)
      refine lv_aload_n hx hb dX8_heard_75 rfl (lv_at hl 1 rfl) ?_
      refine lv_dup hx hb dX8_heard_76 rfl ?_
      refine gf_X8_341 C0 hP 0 rfl rfl dX8_heard_77 ?_
      refine lv_iconst (v := (1 : Int32)) hx hb dX8_heard_80 (by decide) ?_
      refine lv_iadd hx hb dX8_heard_81 ?_
      refine pf_X8_341 C0 hP hD hS 0 rfl (Nat.le_of_ble_eq_true rfl) (ws2 := [(h, oX8 w_now (.int x_arches) (.int x_cats) w_text (.int x_typed) w_row (.int x_rowMany) (.int (0 : Int32)) w_read (.int x_length) (.int x_top) (.int x_at) (.int x_wrong) w_told w_rule w_otherRule (.int x_ruleSize) (.int x_isAsked) w_asked w_undos (.int x_undoMany) w_aside w_then w_hold (.int x_dropped) w_acts w_guarded w_train (.int x_trolleyEnd) w_feltOf w_feltBy (.int x_feltMany) w_many (.ref q_heardOf) (.ref q_heardBy) (.int (x_heardMany + (1 : Int32))) w_worth (.int x_drawn) (.int x_came) w_kept w_isKept w_keptCame), (q_heardOf, aI cT 12 (upd f_heardOf x_heardMany.toNatClampNeg p1)), (q_heardBy, aI cT 12 (upd f_heardBy x_heardMany.toNatClampNeg p2))]) rfl dX8_heard_82 (fun H locs hP hD hS => ?_)
      refine lv_aload_n hx hb dX8_heard_85 rfl (lv_at hl 1 rfl) ?_
      refine gf_X8_341 C0 hP 0 rfl rfl dX8_heard_86 ?_
      exact k_iret C0 hr ((0 : Int32), (x_heardMany + (1 : Int32)), (upd f_heardOf x_heardMany.toNatClampNeg p1), (upd f_heardBy x_heardMany.toNatClampNeg p2)) hg hP hD hS dX8_heard_89
    have hg := hg.2 c_50
    refine lv_iconst (v := (-1 : Int32)) hx hb dX8_heard_53 (by decide) ?_
    exact k_iret C0 hr ((0 : Int32), x_heardMany, f_heardOf, f_heardBy) hg hP hD hS dX8_heard_54
  unfold p_X8_heard at hg
  refine lv_aload_n hx hb dX8_heard_0 rfl (lv_at hl 0 rfl) ?_
  refine lv_iconst (v := (0 : Int32)) hx hb dX8_heard_1 (by decide) ?_
  refine pf_X8_82 C0 hP hD hS 0 rfl (Nat.le_of_ble_eq_true rfl) (ws2 := [(h, oX8 w_now (.int x_arches) (.int x_cats) w_text (.int x_typed) w_row (.int x_rowMany) (.int (0 : Int32)) w_read (.int x_length) (.int x_top) (.int x_at) (.int x_wrong) w_told w_rule w_otherRule (.int x_ruleSize) (.int x_isAsked) w_asked w_undos (.int x_undoMany) w_aside w_then w_hold (.int x_dropped) w_acts w_guarded w_train (.int x_trolleyEnd) w_feltOf w_feltBy (.int x_feltMany) w_many (.ref q_heardOf) (.ref q_heardBy) (.int x_heardMany) w_worth (.int x_drawn) (.int x_came) w_kept w_isKept w_keptCame), (q_heardOf, aI cT 12 f_heardOf), (q_heardBy, aI cT 12 f_heardBy)]) rfl dX8_heard_2 (fun H locs hP hD hS => ?_)
  refine lv_iload_n hx hb dX8_heard_5 rfl (lv_at hl 1 rfl) ?_
  refine lv_iconst (v := (2 : Int32)) hx hb dX8_heard_6 (by decide) ?_
  refine lv_icmp_ne (tgt := 14) hx hb dX8_heard_7 (by decide) (fun c_7 => ?_) (fun c_7 => ?_)
  · have hg := hg.1 c_7
    refine lv_iload_n hx hb dX8_heard_14 rfl (lv_at hl 1 rfl) ?_
    refine lv_iconst (v := (4 : Int32)) hx hb dX8_heard_15 (by decide) ?_
    refine lv_icmp_ne (tgt := 23) hx hb dX8_heard_16 (by decide) (fun c_16 => ?_) (fun c_16 => ?_)
    · have hg := hg.1 c_16
      refine lv_bipush (v := (9 : Int32)) hx hb dX8_heard_23 (by decide) ?_
      exact L25 (9 : Int32) _ _ _ hg hP hD hS hl
    have hg := hg.2 c_16
    refine lv_iconst (v := (1 : Int32)) hx hb dX8_heard_19 (by decide) ?_
    refine lv_goto (tgt := 25) hx hb dX8_heard_20 (by decide) ?_
    exact L25 (1 : Int32) _ _ _ hg hP hD hS hl
  have hg := hg.2 c_7
  refine lv_iconst (v := (5 : Int32)) hx hb dX8_heard_10 (by decide) ?_
  refine lv_goto (tgt := 25) hx hb dX8_heard_11 (by decide) ?_
  exact L25 (5 : Int32) _ _ _ hg hP hD hS hl
theorem dX8_denies_0 : decode cX8_denies 0 = .ok (.aload_n 0, 1) := by decide +kernel
theorem dX8_denies_1 : decode cX8_denies 1 = .ok (.iconst 0, 1) := by decide +kernel
theorem dX8_denies_2 : decode cX8_denies 2 = .ok (.putfield 82, 3) := by decide +kernel
theorem dX8_denies_5 : decode cX8_denies 5 = .ok (.aload_n 0, 1) := by decide +kernel
theorem dX8_denies_6 : decode cX8_denies 6 = .ok (.getfield 341, 3) := by decide +kernel
theorem dX8_denies_9 : decode cX8_denies 9 = .ok (.istore_n 1, 1) := by decide +kernel
theorem dX8_denies_10 : decode cX8_denies 10 = .ok (.aload_n 0, 1) := by decide +kernel
theorem dX8_denies_11 : decode cX8_denies 11 = .ok (.iconst 0, 1) := by decide +kernel
theorem dX8_denies_12 : decode cX8_denies 12 = .ok (.putfield 341, 3) := by decide +kernel
theorem dX8_denies_15 : decode cX8_denies 15 = .ok (.iload_n 1, 1) := by decide +kernel
theorem dX8_denies_16 : decode cX8_denies 16 = .ok (.ireturn, 1) := by decide +kernel
def p_X8_denies (F : Nat) (x_heardMany : Int32) (Post : Int32 → (Int32 × Int32) → Prop) : Prop := (Post x_heardMany ((0 : Int32), (0 : Int32)))
set_option maxHeartbeats 4000000 in
set_option maxRecDepth 100000 in
theorem c_X8_denies (l : Launch) (D : va_G) (cT : Nat → ClassId) (F : Nat) (h : Nat) (w_now : Value) (x_arches : Int32) (x_cats : Int32) (w_text : Value) (x_typed : Int32) (w_row : Value) (x_rowMany : Int32) (x_thrown : Int32) (w_read : Value) (x_length : Int32) (x_top : Int32) (x_at : Int32) (x_wrong : Int32) (w_told : Value) (w_rule : Value) (w_otherRule : Value) (x_ruleSize : Int32) (x_isAsked : Int32) (w_asked : Value) (w_undos : Value) (x_undoMany : Int32) (w_aside : Value) (w_then : Value) (w_hold : Value) (x_dropped : Int32) (w_acts : Value) (w_guarded : Value) (w_train : Value) (x_trolleyEnd : Int32) (w_feltOf : Value) (w_feltBy : Value) (x_feltMany : Int32) (w_many : Value) (w_heardOf : Value) (w_heardBy : Value) (x_heardMany : Int32) (w_worth : Value) (x_drawn : Int32) (x_came : Int32) (w_kept : Value) (w_isKept : Value) (w_keptCame : Value) (Post : Int32 → (Int32 × Int32) → Prop) (hg : p_X8_denies F x_heardMany Post) : MWi l D cT yX8_denies cX8_denies 2 (some .int) 0 0 0 0 [.ref h] [(h, oX8 w_now (.int x_arches) (.int x_cats) w_text (.int x_typed) w_row (.int x_rowMany) (.int x_thrown) w_read (.int x_length) (.int x_top) (.int x_at) (.int x_wrong) w_told w_rule w_otherRule (.int x_ruleSize) (.int x_isAsked) w_asked w_undos (.int x_undoMany) w_aside w_then w_hold (.int x_dropped) w_acts w_guarded w_train (.int x_trolleyEnd) w_feltOf w_feltBy (.int x_feltMany) w_many w_heardOf w_heardBy (.int x_heardMany) w_worth (.int x_drawn) (.int x_came) w_kept w_isKept w_keptCame)] Post (fun (u : (Int32 × Int32)) => [(h, oX8 w_now (.int x_arches) (.int x_cats) w_text (.int x_typed) w_row (.int x_rowMany) (.int u.1) w_read (.int x_length) (.int x_top) (.int x_at) (.int x_wrong) w_told w_rule w_otherRule (.int x_ruleSize) (.int x_isAsked) w_asked w_undos (.int x_undoMany) w_aside w_then w_hold (.int x_dropped) w_acts w_guarded w_train (.int x_trolleyEnd) w_feltOf w_feltBy (.int x_feltMany) w_many w_heardOf w_heardBy (.int u.2) w_worth (.int x_drawn) (.int x_came) w_kept w_isKept w_keptCame)]) := by
  refine MWi.of (by decide) (Nat.le_of_ble_eq_true rfl) ?_
  intro p e s m below meth c A hA C0 hnm hr hP hD ls hl
  have hl : lv_has ls 2 [(0, .ref h)] := hl
  have hx := C0.x
  have hb := C0.b
  have hS : va_S A s.heap s.heap [] := va_S.rf
  have hP : va_P D cls9 [(h, oX8 w_now (.int x_arches) (.int x_cats) w_text (.int x_typed) w_row (.int x_rowMany) (.int x_thrown) w_read (.int x_length) (.int x_top) (.int x_at) (.int x_wrong) w_told w_rule w_otherRule (.int x_ruleSize) (.int x_isAsked) w_asked w_undos (.int x_undoMany) w_aside w_then w_hold (.int x_dropped) w_acts w_guarded w_train (.int x_trolleyEnd) w_feltOf w_feltBy (.int x_feltMany) w_many w_heardOf w_heardBy (.int x_heardMany) w_worth (.int x_drawn) (.int x_came) w_kept w_isKept w_keptCame)] s.heap := hP
  have hD : va_D A [(h, oX8 w_now (.int x_arches) (.int x_cats) w_text (.int x_typed) w_row (.int x_rowMany) (.int x_thrown) w_read (.int x_length) (.int x_top) (.int x_at) (.int x_wrong) w_told w_rule w_otherRule (.int x_ruleSize) (.int x_isAsked) w_asked w_undos (.int x_undoMany) w_aside w_then w_hold (.int x_dropped) w_acts w_guarded w_train (.int x_trolleyEnd) w_feltOf w_feltBy (.int x_feltMany) w_many w_heardOf w_heardBy (.int x_heardMany) w_worth (.int x_drawn) (.int x_came) w_kept w_isKept w_keptCame)] := hD
  unfold p_X8_denies at hg
  refine lv_aload_n hx hb dX8_denies_0 rfl (lv_at hl 0 rfl) ?_
  refine lv_iconst (v := (0 : Int32)) hx hb dX8_denies_1 (by decide) ?_
  refine pf_X8_82 C0 hP hD hS 0 rfl (Nat.le_of_ble_eq_true rfl) (ws2 := [(h, oX8 w_now (.int x_arches) (.int x_cats) w_text (.int x_typed) w_row (.int x_rowMany) (.int (0 : Int32)) w_read (.int x_length) (.int x_top) (.int x_at) (.int x_wrong) w_told w_rule w_otherRule (.int x_ruleSize) (.int x_isAsked) w_asked w_undos (.int x_undoMany) w_aside w_then w_hold (.int x_dropped) w_acts w_guarded w_train (.int x_trolleyEnd) w_feltOf w_feltBy (.int x_feltMany) w_many w_heardOf w_heardBy (.int x_heardMany) w_worth (.int x_drawn) (.int x_came) w_kept w_isKept w_keptCame)]) rfl dX8_denies_2 (fun H locs hP hD hS => ?_)
  refine lv_aload_n hx hb dX8_denies_5 rfl (lv_at hl 0 rfl) ?_
  refine gf_X8_341 C0 hP 0 rfl rfl dX8_denies_6 ?_
  refine lv_istore_n (lv' := [(1, .int x_heardMany), (0, .ref h)]) hx hb dX8_denies_9 rfl hl (by decide) rfl (fun ls hl => ?_)
  refine lv_aload_n hx hb dX8_denies_10 rfl (lv_at hl 1 rfl) ?_
  refine lv_iconst (v := (0 : Int32)) hx hb dX8_denies_11 (by decide) ?_
  refine pf_X8_341 C0 hP hD hS 0 rfl (Nat.le_of_ble_eq_true rfl) (ws2 := [(h, oX8 w_now (.int x_arches) (.int x_cats) w_text (.int x_typed) w_row (.int x_rowMany) (.int (0 : Int32)) w_read (.int x_length) (.int x_top) (.int x_at) (.int x_wrong) w_told w_rule w_otherRule (.int x_ruleSize) (.int x_isAsked) w_asked w_undos (.int x_undoMany) w_aside w_then w_hold (.int x_dropped) w_acts w_guarded w_train (.int x_trolleyEnd) w_feltOf w_feltBy (.int x_feltMany) w_many w_heardOf w_heardBy (.int (0 : Int32)) w_worth (.int x_drawn) (.int x_came) w_kept w_isKept w_keptCame)]) rfl dX8_denies_12 (fun H locs hP hD hS => ?_)
  refine lv_iload_n hx hb dX8_denies_15 rfl (lv_at hl 0 rfl) ?_
  exact k_iret C0 hr ((0 : Int32), (0 : Int32)) hg hP hD hS dX8_denies_16
