theorem dX0_below_0 : decode cX0_below 0 = .ok (.aload_n 0, 1) := by decide +kernel
theorem dX0_below_1 : decode cX0_below 1 = .ok (.aload_n 0, 1) := by decide +kernel
theorem dX0_below_2 : decode cX0_below 2 = .ok (.getfield 7, 3) := by decide +kernel
theorem dX0_below_5 : decode cX0_below 5 = .ok (.ldc 13, 2) := by decide +kernel
theorem dX0_below_7 : decode cX0_below 7 = .ok (.imul, 1) := by decide +kernel
theorem dX0_below_8 : decode cX0_below 8 = .ok (.sipush 12345, 3) := by decide +kernel
theorem dX0_below_11 : decode cX0_below 11 = .ok (.iadd, 1) := by decide +kernel
theorem dX0_below_12 : decode cX0_below 12 = .ok (.putfield 7, 3) := by decide +kernel
theorem dX0_below_15 : decode cX0_below 15 = .ok (.iload_n 1, 1) := by decide +kernel
theorem dX0_below_16 : decode cX0_below 16 = .ok (.ifCond .le 15, 3) := by decide +kernel
theorem dX0_below_19 : decode cX0_below 19 = .ok (.aload_n 0, 1) := by decide +kernel
theorem dX0_below_20 : decode cX0_below 20 = .ok (.getfield 7, 3) := by decide +kernel
theorem dX0_below_23 : decode cX0_below 23 = .ok (.bipush 16, 2) := by decide +kernel
theorem dX0_below_25 : decode cX0_below 25 = .ok (.iushr, 1) := by decide +kernel
theorem dX0_below_26 : decode cX0_below 26 = .ok (.iload_n 1, 1) := by decide +kernel
theorem dX0_below_27 : decode cX0_below 27 = .ok (.irem, 1) := by decide +kernel
theorem dX0_below_28 : decode cX0_below 28 = .ok (.goto 4, 3) := by decide +kernel
theorem dX0_below_31 : decode cX0_below 31 = .ok (.iconst 0, 1) := by decide +kernel
theorem dX0_below_32 : decode cX0_below 32 = .ok (.ireturn, 1) := by decide +kernel
def p_X0_below (F : Nat) (p1 : Int32) (x_last : Int32) (Post : Int32 → Int32 → Prop) : Prop := ((p1 ≤ 0 → (Post (0 : Int32) ((x_last * (1103515245 : Int32)) + (12345 : Int32)))) ∧ (¬ p1 ≤ 0 → (¬ p1 = 0 ∧ (Post (((((x_last * (1103515245 : Int32)) + (12345 : Int32)).toUInt32 >>> ((16 : Int32).toUInt32 &&& Int32.toUInt32 31)).toInt32) - ((((x_last * (1103515245 : Int32)) + (12345 : Int32)).toUInt32 >>> ((16 : Int32).toUInt32 &&& Int32.toUInt32 31)).toInt32) / p1 * p1) ((x_last * (1103515245 : Int32)) + (12345 : Int32))))))
set_option maxHeartbeats 4000000 in
set_option maxRecDepth 100000 in
theorem c_X0_below (l : Launch) (D : va_G) (cT : Nat → ClassId) (F : Nat) (h : Nat) (p1 : Int32) (x_last : Int32) (Post : Int32 → Int32 → Prop) (hg : p_X0_below F p1 x_last Post) : MWi l D cT yX0_below cX0_below 2 (some .int) 0 0 0 0 [.ref h, .int p1] [(h, oX0 (.int x_last))] Post (fun (u : Int32) => [(h, oX0 (.int u))]) := by
  refine MWi.of (by decide) (Nat.le_of_ble_eq_true rfl) ?_
  intro p e s m below meth c A hA C0 hnm hr hP hD ls hl
  have hl : lv_has ls 2 [(0, .ref h), (1, .int p1)] := hl
  have hx := C0.x
  have hb := C0.b
  have hS : va_S A s.heap s.heap [] := va_S.rf
  have hP : va_P D cls9 [(h, oX0 (.int x_last))] s.heap := hP
  have hD : va_D A [(h, oX0 (.int x_last))] := hD
  unfold p_X0_below at hg
  refine lv_aload_n hx hb dX0_below_0 rfl (lv_at hl 0 rfl) ?_
  refine lv_aload_n hx hb dX0_below_1 rfl (lv_at hl 0 rfl) ?_
  refine gf_X0_7 C0 hP 0 rfl rfl dX0_below_2 ?_
  refine lv_ldc (v := (1103515245 : Int32)) hx hb C0.ow (C0.t w4_70) dX0_below_5 ?_
  refine lv_imul hx hb dX0_below_7 ?_
  refine lv_sipush (v := (12345 : Int32)) hx hb dX0_below_8 (by decide) ?_
  refine lv_iadd hx hb dX0_below_11 ?_
  refine pf_X0_7 C0 hP hD hS 0 rfl (Nat.le_of_ble_eq_true rfl) (ws2 := [(h, oX0 (.int ((x_last * (1103515245 : Int32)) + (12345 : Int32))))]) rfl dX0_below_12 (fun H locs hP hD hS => ?_)
  refine lv_iload_n hx hb dX0_below_15 rfl (lv_at hl 1 rfl) ?_
  refine lv_if_le (tgt := 31) hx hb dX0_below_16 (by decide) (fun c_16 => ?_) (fun c_16 => ?_)
  · have hg := hg.1 c_16
    refine lv_iconst (v := (0 : Int32)) hx hb dX0_below_31 (by decide) ?_
    exact k_iret C0 hr ((x_last * (1103515245 : Int32)) + (12345 : Int32)) hg hP hD hS dX0_below_32
  have hg := hg.2 c_16
  refine lv_aload_n hx hb dX0_below_19 rfl (lv_at hl 0 rfl) ?_
  refine gf_X0_7 C0 hP 0 rfl rfl dX0_below_20 ?_
  refine lv_bipush (v := (16 : Int32)) hx hb dX0_below_23 (by decide) ?_
  refine lv_iushr (v := (((x_last * (1103515245 : Int32)) + (12345 : Int32)).toUInt32 >>> ((16 : Int32).toUInt32 &&& Int32.toUInt32 31)).toInt32) hx hb dX0_below_25 rfl ?_
  refine lv_iload_n hx hb dX0_below_26 rfl (lv_at hl 1 rfl) ?_
  obtain ⟨g_27, hg⟩ := hg
  refine lv_irem hx hb dX0_below_27 g_27 ?_
  refine lv_goto (tgt := 32) hx hb dX0_below_28 (by decide) ?_
  exact k_iret C0 hr ((x_last * (1103515245 : Int32)) + (12345 : Int32)) hg hP hD hS dX0_below_32
theorem dX1_add_0 : decode cX1_add 0 = .ok (.aload_n 0, 1) := by decide +kernel
theorem dX1_add_1 : decode cX1_add 1 = .ok (.getfield 22, 3) := by decide +kernel
theorem dX1_add_4 : decode cX1_add 4 = .ok (.aload_n 0, 1) := by decide +kernel
theorem dX1_add_5 : decode cX1_add 5 = .ok (.getfield 18, 3) := by decide +kernel
theorem dX1_add_8 : decode cX1_add 8 = .ok (.if_icmp .ge 12, 3) := by decide +kernel
theorem dX1_add_11 : decode cX1_add 11 = .ok (.aload_n 0, 1) := by decide +kernel
theorem dX1_add_12 : decode cX1_add 12 = .ok (.getfield 22, 3) := by decide +kernel
theorem dX1_add_15 : decode cX1_add 15 = .ok (.bipush 12, 2) := by decide +kernel
theorem dX1_add_17 : decode cX1_add 17 = .ok (.if_icmp .lt 5, 3) := by decide +kernel
theorem dX1_add_20 : decode cX1_add 20 = .ok (.iconst (-1), 1) := by decide +kernel
theorem dX1_add_21 : decode cX1_add 21 = .ok (.ireturn, 1) := by decide +kernel
theorem dX1_add_22 : decode cX1_add 22 = .ok (.aload_n 0, 1) := by decide +kernel
theorem dX1_add_23 : decode cX1_add 23 = .ok (.getfield 9, 3) := by decide +kernel
theorem dX1_add_26 : decode cX1_add 26 = .ok (.aload_n 0, 1) := by decide +kernel
theorem dX1_add_27 : decode cX1_add 27 = .ok (.getfield 22, 3) := by decide +kernel
theorem dX1_add_30 : decode cX1_add 30 = .ok (.iload_n 1, 1) := by decide +kernel
theorem dX1_add_31 : decode cX1_add 31 = .ok (.iastore, 1) := by decide +kernel
theorem dX1_add_32 : decode cX1_add 32 = .ok (.aload_n 0, 1) := by decide +kernel
theorem dX1_add_33 : decode cX1_add 33 = .ok (.getfield 15, 3) := by decide +kernel
theorem dX1_add_36 : decode cX1_add 36 = .ok (.aload_n 0, 1) := by decide +kernel
theorem dX1_add_37 : decode cX1_add 37 = .ok (.getfield 22, 3) := by decide +kernel
theorem dX1_add_40 : decode cX1_add 40 = .ok (.iload_n 2, 1) := by decide +kernel
theorem dX1_add_41 : decode cX1_add 41 = .ok (.iastore, 1) := by decide +kernel
theorem dX1_add_42 : decode cX1_add 42 = .ok (.aload_n 0, 1) := by decide +kernel
theorem dX1_add_43 : decode cX1_add 43 = .ok (.dup, 1) := by decide +kernel
theorem dX1_add_44 : decode cX1_add 44 = .ok (.getfield 22, 3) := by decide +kernel
theorem dX1_add_47 : decode cX1_add 47 = .ok (.iconst 1, 1) := by decide +kernel
theorem dX1_add_48 : decode cX1_add 48 = .ok (.iadd, 1) := by decide +kernel
theorem dX1_add_49 : decode cX1_add 49 = .ok (.putfield 22, 3) := by decide +kernel
theorem dX1_add_52 : decode cX1_add 52 = .ok (.aload_n 0, 1) := by decide +kernel
theorem dX1_add_53 : decode cX1_add 53 = .ok (.getfield 22, 3) := by decide +kernel
theorem dX1_add_56 : decode cX1_add 56 = .ok (.ireturn, 1) := by decide +kernel
def p_X1_add (F : Nat) (p1 : Int32) (p2 : Int32) (x_most : Int32) (x_size : Int32) (f_first : Nat → Int32) (f_second : Nat → Int32) (Post : Int32 → (Int32 × (Nat → Int32) × (Nat → Int32)) → Prop) : Prop := ((x_most ≤ x_size → (Post (-1 : Int32) (x_size, f_first, f_second))) ∧ (¬ x_most ≤ x_size → ((x_size < (12 : Int32) → (vp_in x_size 12 ∧ (vp_in x_size 12 ∧ (Post (x_size + (1 : Int32)) ((x_size + (1 : Int32)), (upd f_first x_size.toNatClampNeg p1), (upd f_second x_size.toNatClampNeg p2)))))) ∧ (¬ x_size < (12 : Int32) → (Post (-1 : Int32) (x_size, f_first, f_second))))))
set_option maxHeartbeats 4000000 in
set_option maxRecDepth 100000 in
theorem c_X1_add (l : Launch) (D : va_G) (cT : Nat → ClassId) (F : Nat) (h : Nat) (p1 : Int32) (p2 : Int32) (q_first : Nat) (q_second : Nat) (x_most : Int32) (x_size : Int32) (f_first : Nat → Int32) (f_second : Nat → Int32) (Post : Int32 → (Int32 × (Nat → Int32) × (Nat → Int32)) → Prop) (hg : p_X1_add F p1 p2 x_most x_size f_first f_second Post) : MWi l D cT yX1_add cX1_add 3 (some .int) 0 0 0 0 [.ref h, .int p1, .int p2] [(h, oX1 (.ref q_first) (.ref q_second) (.int x_most) (.int x_size)), (q_first, aI cT 12 f_first), (q_second, aI cT 12 f_second)] Post (fun (u : (Int32 × (Nat → Int32) × (Nat → Int32))) => [(h, oX1 (.ref q_first) (.ref q_second) (.int x_most) (.int u.1)), (q_first, aI cT 12 u.2.1), (q_second, aI cT 12 u.2.2)]) := by
  refine MWi.of (by decide) (Nat.le_of_ble_eq_true rfl) ?_
  intro p e s m below meth c A hA C0 hnm hr hP hD ls hl
  have hl : lv_has ls 3 [(0, .ref h), (1, .int p1), (2, .int p2)] := hl
  have hx := C0.x
  have hb := C0.b
  have hS : va_S A s.heap s.heap [] := va_S.rf
  have hP : va_P D cls9 [(h, oX1 (.ref q_first) (.ref q_second) (.int x_most) (.int x_size)), (q_first, aI cT 12 f_first), (q_second, aI cT 12 f_second)] s.heap := hP
  have hD : va_D A [(h, oX1 (.ref q_first) (.ref q_second) (.int x_most) (.int x_size)), (q_first, aI cT 12 f_first), (q_second, aI cT 12 f_second)] := hD
  unfold p_X1_add at hg
  refine lv_aload_n hx hb dX1_add_0 rfl (lv_at hl 0 rfl) ?_
  refine gf_X1_22 C0 hP 0 rfl rfl dX1_add_1 ?_
  refine lv_aload_n hx hb dX1_add_4 rfl (lv_at hl 0 rfl) ?_
  refine gf_X1_18 C0 hP 0 rfl rfl dX1_add_5 ?_
  refine lv_icmp_ge (tgt := 20) hx hb dX1_add_8 (by decide) (fun c_8 => ?_) (fun c_8 => ?_)
  · have hg := hg.1 c_8
    refine lv_iconst (v := (-1 : Int32)) hx hb dX1_add_20 (by decide) ?_
    exact k_iret C0 hr (x_size, f_first, f_second) hg hP hD hS dX1_add_21
  have hg := hg.2 c_8
  refine lv_aload_n hx hb dX1_add_11 rfl (lv_at hl 0 rfl) ?_
  refine gf_X1_22 C0 hP 0 rfl rfl dX1_add_12 ?_
  refine lv_bipush (v := (12 : Int32)) hx hb dX1_add_15 (by decide) ?_
  refine lv_icmp_lt (tgt := 22) hx hb dX1_add_17 (by decide) (fun c_17 => ?_) (fun c_17 => ?_)
  · have hg := hg.1 c_17
    refine lv_aload_n hx hb dX1_add_22 rfl (lv_at hl 0 rfl) ?_
    refine gf_X1_9 C0 hP 0 rfl rfl dX1_add_23 ?_
    refine lv_aload_n hx hb dX1_add_26 rfl (lv_at hl 0 rfl) ?_
    refine gf_X1_22 C0 hP 0 rfl rfl dX1_add_27 ?_
    refine lv_iload_n hx hb dX1_add_30 rfl (lv_at hl 1 rfl) ?_
    obtain ⟨g_31, hg⟩ := hg
    refine k_iast C0 hP hD hS 1 rfl g_31 (ws' := [(h, oX1 (.ref q_first) (.ref q_second) (.int x_most) (.int x_size)), (q_first, aI cT 12 (upd f_first x_size.toNatClampNeg p1)), (q_second, aI cT 12 f_second)]) rfl dX1_add_31 (fun H locs hP hD hS => ?_)
    refine lv_aload_n hx hb dX1_add_32 rfl (lv_at hl 0 rfl) ?_
    refine gf_X1_15 C0 hP 0 rfl rfl dX1_add_33 ?_
    refine lv_aload_n hx hb dX1_add_36 rfl (lv_at hl 0 rfl) ?_
    refine gf_X1_22 C0 hP 0 rfl rfl dX1_add_37 ?_
    refine lv_iload_n hx hb dX1_add_40 rfl (lv_at hl 2 rfl) ?_
    obtain ⟨g_41, hg⟩ := hg
    refine k_iast C0 hP hD hS 2 rfl g_41 (ws' := [(h, oX1 (.ref q_first) (.ref q_second) (.int x_most) (.int x_size)), (q_first, aI cT 12 (upd f_first x_size.toNatClampNeg p1)), (q_second, aI cT 12 (upd f_second x_size.toNatClampNeg p2))]) rfl dX1_add_41 (fun H locs hP hD hS => ?_)
    refine lv_aload_n hx hb dX1_add_42 rfl (lv_at hl 0 rfl) ?_
    refine lv_dup hx hb dX1_add_43 rfl ?_
    refine gf_X1_22 C0 hP 0 rfl rfl dX1_add_44 ?_
    refine lv_iconst (v := (1 : Int32)) hx hb dX1_add_47 (by decide) ?_
    refine lv_iadd hx hb dX1_add_48 ?_
    refine pf_X1_22 C0 hP hD hS 0 rfl (Nat.le_of_ble_eq_true rfl) (ws2 := [(h, oX1 (.ref q_first) (.ref q_second) (.int x_most) (.int (x_size + (1 : Int32)))), (q_first, aI cT 12 (upd f_first x_size.toNatClampNeg p1)), (q_second, aI cT 12 (upd f_second x_size.toNatClampNeg p2))]) rfl dX1_add_49 (fun H locs hP hD hS => ?_)
    refine lv_aload_n hx hb dX1_add_52 rfl (lv_at hl 0 rfl) ?_
    refine gf_X1_22 C0 hP 0 rfl rfl dX1_add_53 ?_
    exact k_iret C0 hr ((x_size + (1 : Int32)), (upd f_first x_size.toNatClampNeg p1), (upd f_second x_size.toNatClampNeg p2)) hg hP hD hS dX1_add_56
  have hg := hg.2 c_17
  refine lv_iconst (v := (-1 : Int32)) hx hb dX1_add_20 (by decide) ?_
  exact k_iret C0 hr (x_size, f_first, f_second) hg hP hD hS dX1_add_21
theorem dX1_empty_0 : decode cX1_empty 0 = .ok (.aload_n 0, 1) := by decide +kernel
theorem dX1_empty_1 : decode cX1_empty 1 = .ok (.getfield 22, 3) := by decide +kernel
theorem dX1_empty_4 : decode cX1_empty 4 = .ok (.istore_n 1, 1) := by decide +kernel
theorem dX1_empty_5 : decode cX1_empty 5 = .ok (.aload_n 0, 1) := by decide +kernel
theorem dX1_empty_6 : decode cX1_empty 6 = .ok (.iconst 0, 1) := by decide +kernel
theorem dX1_empty_7 : decode cX1_empty 7 = .ok (.putfield 22, 3) := by decide +kernel
theorem dX1_empty_10 : decode cX1_empty 10 = .ok (.iload_n 1, 1) := by decide +kernel
theorem dX1_empty_11 : decode cX1_empty 11 = .ok (.ireturn, 1) := by decide +kernel
def p_X1_empty (F : Nat) (x_size : Int32) (Post : Int32 → Int32 → Prop) : Prop := (Post x_size (0 : Int32))
set_option maxHeartbeats 4000000 in
set_option maxRecDepth 100000 in
theorem c_X1_empty (l : Launch) (D : va_G) (cT : Nat → ClassId) (F : Nat) (h : Nat) (w_first : Value) (w_second : Value) (x_most : Int32) (x_size : Int32) (Post : Int32 → Int32 → Prop) (hg : p_X1_empty F x_size Post) : MWi l D cT yX1_empty cX1_empty 2 (some .int) 0 0 0 0 [.ref h] [(h, oX1 w_first w_second (.int x_most) (.int x_size))] Post (fun (u : Int32) => [(h, oX1 w_first w_second (.int x_most) (.int u))]) := by
  refine MWi.of (by decide) (Nat.le_of_ble_eq_true rfl) ?_
  intro p e s m below meth c A hA C0 hnm hr hP hD ls hl
  have hl : lv_has ls 2 [(0, .ref h)] := hl
  have hx := C0.x
  have hb := C0.b
  have hS : va_S A s.heap s.heap [] := va_S.rf
  have hP : va_P D cls9 [(h, oX1 w_first w_second (.int x_most) (.int x_size))] s.heap := hP
  have hD : va_D A [(h, oX1 w_first w_second (.int x_most) (.int x_size))] := hD
  unfold p_X1_empty at hg
  refine lv_aload_n hx hb dX1_empty_0 rfl (lv_at hl 0 rfl) ?_
  refine gf_X1_22 C0 hP 0 rfl rfl dX1_empty_1 ?_
  refine lv_istore_n (lv' := [(1, .int x_size), (0, .ref h)]) hx hb dX1_empty_4 rfl hl (by decide) rfl (fun ls hl => ?_)
  refine lv_aload_n hx hb dX1_empty_5 rfl (lv_at hl 1 rfl) ?_
  refine lv_iconst (v := (0 : Int32)) hx hb dX1_empty_6 (by decide) ?_
  refine pf_X1_22 C0 hP hD hS 0 rfl (Nat.le_of_ble_eq_true rfl) (ws2 := [(h, oX1 w_first w_second (.int x_most) (.int (0 : Int32)))]) rfl dX1_empty_7 (fun H locs hP hD hS => ?_)
  refine lv_iload_n hx hb dX1_empty_10 rfl (lv_at hl 0 rfl) ?_
  exact k_iret C0 hr (0 : Int32) hg hP hD hS dX1_empty_11
theorem dX6_become_0 : decode cX6_become 0 = .ok (.aload_n 0, 1) := by decide +kernel
theorem dX6_become_1 : decode cX6_become 1 = .ok (.aload_n 1, 1) := by decide +kernel
theorem dX6_become_2 : decode cX6_become 2 = .ok (.getfield 34, 3) := by decide +kernel
theorem dX6_become_5 : decode cX6_become 5 = .ok (.putfield 34, 3) := by decide +kernel
theorem dX6_become_8 : decode cX6_become 8 = .ok (.aload_n 0, 1) := by decide +kernel
theorem dX6_become_9 : decode cX6_become 9 = .ok (.aload_n 1, 1) := by decide +kernel
theorem dX6_become_10 : decode cX6_become 10 = .ok (.getfield 37, 3) := by decide +kernel
theorem dX6_become_13 : decode cX6_become 13 = .ok (.putfield 37, 3) := by decide +kernel
theorem dX6_become_16 : decode cX6_become 16 = .ok (.aload_n 0, 1) := by decide +kernel
theorem dX6_become_17 : decode cX6_become 17 = .ok (.aload_n 1, 1) := by decide +kernel
theorem dX6_become_18 : decode cX6_become 18 = .ok (.getfield 30, 3) := by decide +kernel
theorem dX6_become_21 : decode cX6_become 21 = .ok (.putfield 30, 3) := by decide +kernel
theorem dX6_become_24 : decode cX6_become 24 = .ok (.aload_n 0, 1) := by decide +kernel
theorem dX6_become_25 : decode cX6_become 25 = .ok (.aload_n 1, 1) := by decide +kernel
theorem dX6_become_26 : decode cX6_become 26 = .ok (.getfield 40, 3) := by decide +kernel
theorem dX6_become_29 : decode cX6_become 29 = .ok (.putfield 40, 3) := by decide +kernel
theorem dX6_become_32 : decode cX6_become 32 = .ok (.aload_n 0, 1) := by decide +kernel
theorem dX6_become_33 : decode cX6_become 33 = .ok (.aload_n 1, 1) := by decide +kernel
theorem dX6_become_34 : decode cX6_become 34 = .ok (.getfield 43, 3) := by decide +kernel
theorem dX6_become_37 : decode cX6_become 37 = .ok (.putfield 43, 3) := by decide +kernel
theorem dX6_become_40 : decode cX6_become 40 = .ok (.aload_n 1, 1) := by decide +kernel
theorem dX6_become_41 : decode cX6_become 41 = .ok (.getfield 9, 3) := by decide +kernel
theorem dX6_become_44 : decode cX6_become 44 = .ok (.iconst 0, 1) := by decide +kernel
theorem dX6_become_45 : decode cX6_become 45 = .ok (.aload_n 0, 1) := by decide +kernel
theorem dX6_become_46 : decode cX6_become 46 = .ok (.getfield 9, 3) := by decide +kernel
theorem dX6_become_49 : decode cX6_become 49 = .ok (.iconst 0, 1) := by decide +kernel
theorem dX6_become_50 : decode cX6_become 50 = .ok (.bipush 6, 2) := by decide +kernel
theorem dX6_become_52 : decode cX6_become 52 = .ok (.invokestatic 46, 3) := by decide +kernel
theorem dX6_become_55 : decode cX6_become 55 = .ok (.aload_n 1, 1) := by decide +kernel
theorem dX6_become_56 : decode cX6_become 56 = .ok (.getfield 15, 3) := by decide +kernel
theorem dX6_become_59 : decode cX6_become 59 = .ok (.iconst 0, 1) := by decide +kernel
theorem dX6_become_60 : decode cX6_become 60 = .ok (.aload_n 0, 1) := by decide +kernel
theorem dX6_become_61 : decode cX6_become 61 = .ok (.getfield 15, 3) := by decide +kernel
theorem dX6_become_64 : decode cX6_become 64 = .ok (.iconst 0, 1) := by decide +kernel
theorem dX6_become_65 : decode cX6_become 65 = .ok (.bipush 6, 2) := by decide +kernel
theorem dX6_become_67 : decode cX6_become 67 = .ok (.invokestatic 46, 3) := by decide +kernel
theorem dX6_become_70 : decode cX6_become 70 = .ok (.aload_n 1, 1) := by decide +kernel
theorem dX6_become_71 : decode cX6_become 71 = .ok (.getfield 18, 3) := by decide +kernel
theorem dX6_become_74 : decode cX6_become 74 = .ok (.iconst 0, 1) := by decide +kernel
theorem dX6_become_75 : decode cX6_become 75 = .ok (.aload_n 0, 1) := by decide +kernel
theorem dX6_become_76 : decode cX6_become 76 = .ok (.getfield 18, 3) := by decide +kernel
theorem dX6_become_79 : decode cX6_become 79 = .ok (.iconst 0, 1) := by decide +kernel
theorem dX6_become_80 : decode cX6_become 80 = .ok (.bipush 8, 2) := by decide +kernel
theorem dX6_become_82 : decode cX6_become 82 = .ok (.invokestatic 46, 3) := by decide +kernel
theorem dX6_become_85 : decode cX6_become 85 = .ok (.aload_n 1, 1) := by decide +kernel
theorem dX6_become_86 : decode cX6_become 86 = .ok (.getfield 21, 3) := by decide +kernel
theorem dX6_become_89 : decode cX6_become 89 = .ok (.iconst 0, 1) := by decide +kernel
theorem dX6_become_90 : decode cX6_become 90 = .ok (.aload_n 0, 1) := by decide +kernel
theorem dX6_become_91 : decode cX6_become 91 = .ok (.getfield 21, 3) := by decide +kernel
theorem dX6_become_94 : decode cX6_become 94 = .ok (.iconst 0, 1) := by decide +kernel
theorem dX6_become_95 : decode cX6_become 95 = .ok (.bipush 8, 2) := by decide +kernel
theorem dX6_become_97 : decode cX6_become 97 = .ok (.invokestatic 46, 3) := by decide +kernel
theorem dX6_become_100 : decode cX6_become 100 = .ok (.aload_n 1, 1) := by decide +kernel
theorem dX6_become_101 : decode cX6_become 101 = .ok (.getfield 24, 3) := by decide +kernel
theorem dX6_become_104 : decode cX6_become 104 = .ok (.iconst 0, 1) := by decide +kernel
theorem dX6_become_105 : decode cX6_become 105 = .ok (.aload_n 0, 1) := by decide +kernel
theorem dX6_become_106 : decode cX6_become 106 = .ok (.getfield 24, 3) := by decide +kernel
theorem dX6_become_109 : decode cX6_become 109 = .ok (.iconst 0, 1) := by decide +kernel
theorem dX6_become_110 : decode cX6_become 110 = .ok (.bipush 8, 2) := by decide +kernel
theorem dX6_become_112 : decode cX6_become 112 = .ok (.invokestatic 46, 3) := by decide +kernel
theorem dX6_become_115 : decode cX6_become 115 = .ok (.aload_n 1, 1) := by decide +kernel
theorem dX6_become_116 : decode cX6_become 116 = .ok (.getfield 27, 3) := by decide +kernel
theorem dX6_become_119 : decode cX6_become 119 = .ok (.iconst 0, 1) := by decide +kernel
theorem dX6_become_120 : decode cX6_become 120 = .ok (.aload_n 0, 1) := by decide +kernel
theorem dX6_become_121 : decode cX6_become 121 = .ok (.getfield 27, 3) := by decide +kernel
theorem dX6_become_124 : decode cX6_become 124 = .ok (.iconst 0, 1) := by decide +kernel
theorem dX6_become_125 : decode cX6_become 125 = .ok (.bipush 8, 2) := by decide +kernel
theorem dX6_become_127 : decode cX6_become 127 = .ok (.invokestatic 46, 3) := by decide +kernel
theorem dX6_become_130 : decode cX6_become 130 = .ok (.return_, 1) := by decide +kernel
def p_X6_become (F : Nat) (x_b1_arches : Int32) (x_b1_cats : Int32) (x_b1_store : Int32) (x_b1_hour : Int32) (x_b1_drops : Int32) (f_b1_load : Nat → Int32) (f_load : Nat → Int32) (f_b1_sag : Nat → Int32) (f_sag : Nat → Int32) (f_b1_joy : Nat → Int32) (f_joy : Nat → Int32) (f_b1_bowl : Nat → Int32) (f_bowl : Nat → Int32) (f_b1_grief : Nat → Int32) (f_grief : Nat → Int32) (f_b1_place : Nat → Int32) (f_place : Nat → Int32) (Post : (Int32 × Int32 × Int32 × Int32 × Int32 × (Nat → Int32) × (Nat → Int32) × (Nat → Int32) × (Nat → Int32) × (Nat → Int32) × (Nat → Int32)) → Prop) : Prop := (Post (x_b1_arches, x_b1_cats, x_b1_store, x_b1_hour, x_b1_drops, (va_cpy f_b1_load f_load (0 : Int32).toNatClampNeg (0 : Int32).toNatClampNeg (6 : Int32).toNatClampNeg), (va_cpy f_b1_sag f_sag (0 : Int32).toNatClampNeg (0 : Int32).toNatClampNeg (6 : Int32).toNatClampNeg), (va_cpy f_b1_joy f_joy (0 : Int32).toNatClampNeg (0 : Int32).toNatClampNeg (8 : Int32).toNatClampNeg), (va_cpy f_b1_bowl f_bowl (0 : Int32).toNatClampNeg (0 : Int32).toNatClampNeg (8 : Int32).toNatClampNeg), (va_cpy f_b1_grief f_grief (0 : Int32).toNatClampNeg (0 : Int32).toNatClampNeg (8 : Int32).toNatClampNeg), (va_cpy f_b1_place f_place (0 : Int32).toNatClampNeg (0 : Int32).toNatClampNeg (8 : Int32).toNatClampNeg)))
set_option maxHeartbeats 4000000 in
set_option maxRecDepth 100000 in
theorem c_X6_become (l : Launch) (D : va_G) (cT : Nat → ClassId) (F : Nat) (h : Nat) (b1 : Nat) (q_load : Nat) (q_sag : Nat) (q_joy : Nat) (q_bowl : Nat) (q_grief : Nat) (q_place : Nat) (x_arches : Int32) (x_cats : Int32) (x_store : Int32) (x_hour : Int32) (x_drops : Int32) (q_b1_load : Nat) (q_b1_sag : Nat) (q_b1_joy : Nat) (q_b1_bowl : Nat) (q_b1_grief : Nat) (q_b1_place : Nat) (x_b1_arches : Int32) (x_b1_cats : Int32) (x_b1_store : Int32) (x_b1_hour : Int32) (x_b1_drops : Int32) (f_b1_load : Nat → Int32) (f_load : Nat → Int32) (f_b1_sag : Nat → Int32) (f_sag : Nat → Int32) (f_b1_joy : Nat → Int32) (f_joy : Nat → Int32) (f_b1_bowl : Nat → Int32) (f_bowl : Nat → Int32) (f_b1_grief : Nat → Int32) (f_grief : Nat → Int32) (f_b1_place : Nat → Int32) (f_place : Nat → Int32) (Post : (Int32 × Int32 × Int32 × Int32 × Int32 × (Nat → Int32) × (Nat → Int32) × (Nat → Int32) × (Nat → Int32) × (Nat → Int32) × (Nat → Int32)) → Prop) (hg : p_X6_become F x_b1_arches x_b1_cats x_b1_store x_b1_hour x_b1_drops f_b1_load f_load f_b1_sag f_sag f_b1_joy f_joy f_b1_bowl f_bowl f_b1_grief f_grief f_b1_place f_place Post) : MWv l D cT yX6_become cX6_become 2 none 1 80 0 0 [.ref h, .ref b1] [(h, oX6 (.ref q_load) (.ref q_sag) (.ref q_joy) (.ref q_bowl) (.ref q_grief) (.ref q_place) (.int x_arches) (.int x_cats) (.int x_store) (.int x_hour) (.int x_drops)), (b1, oX6 (.ref q_b1_load) (.ref q_b1_sag) (.ref q_b1_joy) (.ref q_b1_bowl) (.ref q_b1_grief) (.ref q_b1_place) (.int x_b1_arches) (.int x_b1_cats) (.int x_b1_store) (.int x_b1_hour) (.int x_b1_drops)), (q_b1_load, aI cT 6 f_b1_load), (q_load, aI cT 6 f_load), (q_b1_sag, aI cT 6 f_b1_sag), (q_sag, aI cT 6 f_sag), (q_b1_joy, aI cT 8 f_b1_joy), (q_joy, aI cT 8 f_joy), (q_b1_bowl, aI cT 8 f_b1_bowl), (q_bowl, aI cT 8 f_bowl), (q_b1_grief, aI cT 8 f_b1_grief), (q_grief, aI cT 8 f_grief), (q_b1_place, aI cT 8 f_b1_place), (q_place, aI cT 8 f_place)] Post (fun (u : (Int32 × Int32 × Int32 × Int32 × Int32 × (Nat → Int32) × (Nat → Int32) × (Nat → Int32) × (Nat → Int32) × (Nat → Int32) × (Nat → Int32))) => [(h, oX6 (.ref q_load) (.ref q_sag) (.ref q_joy) (.ref q_bowl) (.ref q_grief) (.ref q_place) (.int u.1) (.int u.2.1) (.int u.2.2.1) (.int u.2.2.2.1) (.int u.2.2.2.2.1)), (b1, oX6 (.ref q_b1_load) (.ref q_b1_sag) (.ref q_b1_joy) (.ref q_b1_bowl) (.ref q_b1_grief) (.ref q_b1_place) (.int x_b1_arches) (.int x_b1_cats) (.int x_b1_store) (.int x_b1_hour) (.int x_b1_drops)), (q_b1_load, aI cT 6 f_b1_load), (q_load, aI cT 6 u.2.2.2.2.2.1), (q_b1_sag, aI cT 6 f_b1_sag), (q_sag, aI cT 6 u.2.2.2.2.2.2.1), (q_b1_joy, aI cT 8 f_b1_joy), (q_joy, aI cT 8 u.2.2.2.2.2.2.2.1), (q_b1_bowl, aI cT 8 f_b1_bowl), (q_bowl, aI cT 8 u.2.2.2.2.2.2.2.2.1), (q_b1_grief, aI cT 8 f_b1_grief), (q_grief, aI cT 8 u.2.2.2.2.2.2.2.2.2.1), (q_b1_place, aI cT 8 f_b1_place), (q_place, aI cT 8 u.2.2.2.2.2.2.2.2.2.2)]) := by
  refine MWv.of (by decide) (Nat.le_of_ble_eq_true rfl) ?_
  intro p e s m below meth c A hA C0 hnm hr hP hD ls hl
  have hl : lv_has ls 2 [(0, .ref h), (1, .ref b1)] := hl
  have hx := C0.x
  have hb := C0.b
  have hS : va_S A s.heap s.heap [] := va_S.rf
  have hP : va_P D cls9 [(h, oX6 (.ref q_load) (.ref q_sag) (.ref q_joy) (.ref q_bowl) (.ref q_grief) (.ref q_place) (.int x_arches) (.int x_cats) (.int x_store) (.int x_hour) (.int x_drops)), (b1, oX6 (.ref q_b1_load) (.ref q_b1_sag) (.ref q_b1_joy) (.ref q_b1_bowl) (.ref q_b1_grief) (.ref q_b1_place) (.int x_b1_arches) (.int x_b1_cats) (.int x_b1_store) (.int x_b1_hour) (.int x_b1_drops)), (q_b1_load, aI cT 6 f_b1_load), (q_load, aI cT 6 f_load), (q_b1_sag, aI cT 6 f_b1_sag), (q_sag, aI cT 6 f_sag), (q_b1_joy, aI cT 8 f_b1_joy), (q_joy, aI cT 8 f_joy), (q_b1_bowl, aI cT 8 f_b1_bowl), (q_bowl, aI cT 8 f_bowl), (q_b1_grief, aI cT 8 f_b1_grief), (q_grief, aI cT 8 f_grief), (q_b1_place, aI cT 8 f_b1_place), (q_place, aI cT 8 f_place)] s.heap := hP
  have hD : va_D A [(h, oX6 (.ref q_load) (.ref q_sag) (.ref q_joy) (.ref q_bowl) (.ref q_grief) (.ref q_place) (.int x_arches) (.int x_cats) (.int x_store) (.int x_hour) (.int x_drops)), (b1, oX6 (.ref q_b1_load) (.ref q_b1_sag) (.ref q_b1_joy) (.ref q_b1_bowl) (.ref q_b1_grief) (.ref q_b1_place) (.int x_b1_arches) (.int x_b1_cats) (.int x_b1_store) (.int x_b1_hour) (.int x_b1_drops)), (q_b1_load, aI cT 6 f_b1_load), (q_load, aI cT 6 f_load), (q_b1_sag, aI cT 6 f_b1_sag), (q_sag, aI cT 6 f_sag), (q_b1_joy, aI cT 8 f_b1_joy), (q_joy, aI cT 8 f_joy), (q_b1_bowl, aI cT 8 f_b1_bowl), (q_bowl, aI cT 8 f_bowl), (q_b1_grief, aI cT 8 f_b1_grief), (q_grief, aI cT 8 f_grief), (q_b1_place, aI cT 8 f_b1_place), (q_place, aI cT 8 f_place)] := hD
  unfold p_X6_become at hg
  refine lv_aload_n hx hb dX6_become_0 rfl (lv_at hl 0 rfl) ?_
  refine lv_aload_n hx hb dX6_become_1 rfl (lv_at hl 1 rfl) ?_
  refine gf_X6_34 C0 hP 1 rfl rfl dX6_become_2 ?_
  refine pf_X6_34 C0 hP hD hS 0 rfl (Nat.le_of_ble_eq_true rfl) (ws2 := [(h, oX6 (.ref q_load) (.ref q_sag) (.ref q_joy) (.ref q_bowl) (.ref q_grief) (.ref q_place) (.int x_b1_arches) (.int x_cats) (.int x_store) (.int x_hour) (.int x_drops)), (b1, oX6 (.ref q_b1_load) (.ref q_b1_sag) (.ref q_b1_joy) (.ref q_b1_bowl) (.ref q_b1_grief) (.ref q_b1_place) (.int x_b1_arches) (.int x_b1_cats) (.int x_b1_store) (.int x_b1_hour) (.int x_b1_drops)), (q_b1_load, aI cT 6 f_b1_load), (q_load, aI cT 6 f_load), (q_b1_sag, aI cT 6 f_b1_sag), (q_sag, aI cT 6 f_sag), (q_b1_joy, aI cT 8 f_b1_joy), (q_joy, aI cT 8 f_joy), (q_b1_bowl, aI cT 8 f_b1_bowl), (q_bowl, aI cT 8 f_bowl), (q_b1_grief, aI cT 8 f_b1_grief), (q_grief, aI cT 8 f_grief), (q_b1_place, aI cT 8 f_b1_place), (q_place, aI cT 8 f_place)]) rfl dX6_become_5 (fun H locs hP hD hS => ?_)
  refine lv_aload_n hx hb dX6_become_8 rfl (lv_at hl 0 rfl) ?_
  refine lv_aload_n hx hb dX6_become_9 rfl (lv_at hl 1 rfl) ?_
  refine gf_X6_37 C0 hP 1 rfl rfl dX6_become_10 ?_
  refine pf_X6_37 C0 hP hD hS 0 rfl (Nat.le_of_ble_eq_true rfl) (ws2 := [(h, oX6 (.ref q_load) (.ref q_sag) (.ref q_joy) (.ref q_bowl) (.ref q_grief) (.ref q_place) (.int x_b1_arches) (.int x_b1_cats) (.int x_store) (.int x_hour) (.int x_drops)), (b1, oX6 (.ref q_b1_load) (.ref q_b1_sag) (.ref q_b1_joy) (.ref q_b1_bowl) (.ref q_b1_grief) (.ref q_b1_place) (.int x_b1_arches) (.int x_b1_cats) (.int x_b1_store) (.int x_b1_hour) (.int x_b1_drops)), (q_b1_load, aI cT 6 f_b1_load), (q_load, aI cT 6 f_load), (q_b1_sag, aI cT 6 f_b1_sag), (q_sag, aI cT 6 f_sag), (q_b1_joy, aI cT 8 f_b1_joy), (q_joy, aI cT 8 f_joy), (q_b1_bowl, aI cT 8 f_b1_bowl), (q_bowl, aI cT 8 f_bowl), (q_b1_grief, aI cT 8 f_b1_grief), (q_grief, aI cT 8 f_grief), (q_b1_place, aI cT 8 f_b1_place), (q_place, aI cT 8 f_place)]) rfl dX6_become_13 (fun H locs hP hD hS => ?_)
  refine lv_aload_n hx hb dX6_become_16 rfl (lv_at hl 0 rfl) ?_
  refine lv_aload_n hx hb dX6_become_17 rfl (lv_at hl 1 rfl) ?_
  refine gf_X6_30 C0 hP 1 rfl rfl dX6_become_18 ?_
  refine pf_X6_30 C0 hP hD hS 0 rfl (Nat.le_of_ble_eq_true rfl) (ws2 := [(h, oX6 (.ref q_load) (.ref q_sag) (.ref q_joy) (.ref q_bowl) (.ref q_grief) (.ref q_place) (.int x_b1_arches) (.int x_b1_cats) (.int x_b1_store) (.int x_hour) (.int x_drops)), (b1, oX6 (.ref q_b1_load) (.ref q_b1_sag) (.ref q_b1_joy) (.ref q_b1_bowl) (.ref q_b1_grief) (.ref q_b1_place) (.int x_b1_arches) (.int x_b1_cats) (.int x_b1_store) (.int x_b1_hour) (.int x_b1_drops)), (q_b1_load, aI cT 6 f_b1_load), (q_load, aI cT 6 f_load), (q_b1_sag, aI cT 6 f_b1_sag), (q_sag, aI cT 6 f_sag), (q_b1_joy, aI cT 8 f_b1_joy), (q_joy, aI cT 8 f_joy), (q_b1_bowl, aI cT 8 f_b1_bowl), (q_bowl, aI cT 8 f_bowl), (q_b1_grief, aI cT 8 f_b1_grief), (q_grief, aI cT 8 f_grief), (q_b1_place, aI cT 8 f_b1_place), (q_place, aI cT 8 f_place)]) rfl dX6_become_21 (fun H locs hP hD hS => ?_)
  refine lv_aload_n hx hb dX6_become_24 rfl (lv_at hl 0 rfl) ?_
  refine lv_aload_n hx hb dX6_become_25 rfl (lv_at hl 1 rfl) ?_
  refine gf_X6_40 C0 hP 1 rfl rfl dX6_become_26 ?_
  refine pf_X6_40 C0 hP hD hS 0 rfl (Nat.le_of_ble_eq_true rfl) (ws2 := [(h, oX6 (.ref q_load) (.ref q_sag) (.ref q_joy) (.ref q_bowl) (.ref q_grief) (.ref q_place) (.int x_b1_arches) (.int x_b1_cats) (.int x_b1_store) (.int x_b1_hour) (.int x_drops)), (b1, oX6 (.ref q_b1_load) (.ref q_b1_sag) (.ref q_b1_joy) (.ref q_b1_bowl) (.ref q_b1_grief) (.ref q_b1_place) (.int x_b1_arches) (.int x_b1_cats) (.int x_b1_store) (.int x_b1_hour) (.int x_b1_drops)), (q_b1_load, aI cT 6 f_b1_load), (q_load, aI cT 6 f_load), (q_b1_sag, aI cT 6 f_b1_sag), (q_sag, aI cT 6 f_sag), (q_b1_joy, aI cT 8 f_b1_joy), (q_joy, aI cT 8 f_joy), (q_b1_bowl, aI cT 8 f_b1_bowl), (q_bowl, aI cT 8 f_bowl), (q_b1_grief, aI cT 8 f_b1_grief), (q_grief, aI cT 8 f_grief), (q_b1_place, aI cT 8 f_b1_place), (q_place, aI cT 8 f_place)]) rfl dX6_become_29 (fun H locs hP hD hS => ?_)
  refine lv_aload_n hx hb dX6_become_32 rfl (lv_at hl 0 rfl) ?_
  refine lv_aload_n hx hb dX6_become_33 rfl (lv_at hl 1 rfl) ?_
  refine gf_X6_43 C0 hP 1 rfl rfl dX6_become_34 ?_
  refine pf_X6_43 C0 hP hD hS 0 rfl (Nat.le_of_ble_eq_true rfl) (ws2 := [(h, oX6 (.ref q_load) (.ref q_sag) (.ref q_joy) (.ref q_bowl) (.ref q_grief) (.ref q_place) (.int x_b1_arches) (.int x_b1_cats) (.int x_b1_store) (.int x_b1_hour) (.int x_b1_drops)), (b1, oX6 (.ref q_b1_load) (.ref q_b1_sag) (.ref q_b1_joy) (.ref q_b1_bowl) (.ref q_b1_grief) (.ref q_b1_place) (.int x_b1_arches) (.int x_b1_cats) (.int x_b1_store) (.int x_b1_hour) (.int x_b1_drops)), (q_b1_load, aI cT 6 f_b1_load), (q_load, aI cT 6 f_load), (q_b1_sag, aI cT 6 f_b1_sag), (q_sag, aI cT 6 f_sag), (q_b1_joy, aI cT 8 f_b1_joy), (q_joy, aI cT 8 f_joy), (q_b1_bowl, aI cT 8 f_b1_bowl), (q_bowl, aI cT 8 f_bowl), (q_b1_grief, aI cT 8 f_b1_grief), (q_grief, aI cT 8 f_grief), (q_b1_place, aI cT 8 f_b1_place), (q_place, aI cT 8 f_place)]) rfl dX6_become_37 (fun H locs hP hD hS => ?_)
  refine lv_aload_n hx hb dX6_become_40 rfl (lv_at hl 1 rfl) ?_
  refine gf_X6_9 C0 hP 1 rfl rfl dX6_become_41 ?_
  refine lv_iconst (v := (0 : Int32)) hx hb dX6_become_44 (by decide) ?_
  refine lv_aload_n hx hb dX6_become_45 rfl (lv_at hl 0 rfl) ?_
  refine gf_X6_9 C0 hP 0 rfl rfl dX6_become_46 ?_
  refine lv_iconst (v := (0 : Int32)) hx hb dX6_become_49 (by decide) ?_
  refine lv_bipush (v := (6 : Int32)) hx hb dX6_become_50 (by decide) ?_
  refine k_cpy C0 w2_139 hl.1 hP hD hS 2 3 rfl rfl (by decide) (by decide) (by decide) (by decide) (by decide) (ws' := [(h, oX6 (.ref q_load) (.ref q_sag) (.ref q_joy) (.ref q_bowl) (.ref q_grief) (.ref q_place) (.int x_b1_arches) (.int x_b1_cats) (.int x_b1_store) (.int x_b1_hour) (.int x_b1_drops)), (b1, oX6 (.ref q_b1_load) (.ref q_b1_sag) (.ref q_b1_joy) (.ref q_b1_bowl) (.ref q_b1_grief) (.ref q_b1_place) (.int x_b1_arches) (.int x_b1_cats) (.int x_b1_store) (.int x_b1_hour) (.int x_b1_drops)), (q_b1_load, aI cT 6 f_b1_load), (q_load, aI cT 6 (va_cpy f_b1_load f_load (0 : Int32).toNatClampNeg (0 : Int32).toNatClampNeg (6 : Int32).toNatClampNeg)), (q_b1_sag, aI cT 6 f_b1_sag), (q_sag, aI cT 6 f_sag), (q_b1_joy, aI cT 8 f_b1_joy), (q_joy, aI cT 8 f_joy), (q_b1_bowl, aI cT 8 f_b1_bowl), (q_bowl, aI cT 8 f_bowl), (q_b1_grief, aI cT 8 f_b1_grief), (q_grief, aI cT 8 f_grief), (q_b1_place, aI cT 8 f_b1_place), (q_place, aI cT 8 f_place)]) rfl (Nat.le_of_ble_eq_true rfl) (by decide) dX6_become_52 (fun H locs hP hD hS => ?_)
  refine lv_aload_n hx hb dX6_become_55 rfl (lv_at hl 1 rfl) ?_
  refine gf_X6_15 C0 hP 1 rfl rfl dX6_become_56 ?_
  refine lv_iconst (v := (0 : Int32)) hx hb dX6_become_59 (by decide) ?_
  refine lv_aload_n hx hb dX6_become_60 rfl (lv_at hl 0 rfl) ?_
  refine gf_X6_15 C0 hP 0 rfl rfl dX6_become_61 ?_
  refine lv_iconst (v := (0 : Int32)) hx hb dX6_become_64 (by decide) ?_
  refine lv_bipush (v := (6 : Int32)) hx hb dX6_become_65 (by decide) ?_
  refine k_cpy C0 w2_139 hl.1 hP hD hS 4 5 rfl rfl (by decide) (by decide) (by decide) (by decide) (by decide) (ws' := [(h, oX6 (.ref q_load) (.ref q_sag) (.ref q_joy) (.ref q_bowl) (.ref q_grief) (.ref q_place) (.int x_b1_arches) (.int x_b1_cats) (.int x_b1_store) (.int x_b1_hour) (.int x_b1_drops)), (b1, oX6 (.ref q_b1_load) (.ref q_b1_sag) (.ref q_b1_joy) (.ref q_b1_bowl) (.ref q_b1_grief) (.ref q_b1_place) (.int x_b1_arches) (.int x_b1_cats) (.int x_b1_store) (.int x_b1_hour) (.int x_b1_drops)), (q_b1_load, aI cT 6 f_b1_load), (q_load, aI cT 6 (va_cpy f_b1_load f_load (0 : Int32).toNatClampNeg (0 : Int32).toNatClampNeg (6 : Int32).toNatClampNeg)), (q_b1_sag, aI cT 6 f_b1_sag), (q_sag, aI cT 6 (va_cpy f_b1_sag f_sag (0 : Int32).toNatClampNeg (0 : Int32).toNatClampNeg (6 : Int32).toNatClampNeg)), (q_b1_joy, aI cT 8 f_b1_joy), (q_joy, aI cT 8 f_joy), (q_b1_bowl, aI cT 8 f_b1_bowl), (q_bowl, aI cT 8 f_bowl), (q_b1_grief, aI cT 8 f_b1_grief), (q_grief, aI cT 8 f_grief), (q_b1_place, aI cT 8 f_b1_place), (q_place, aI cT 8 f_place)]) rfl (Nat.le_of_ble_eq_true rfl) (by decide) dX6_become_67 (fun H locs hP hD hS => ?_)
  refine lv_aload_n hx hb dX6_become_70 rfl (lv_at hl 1 rfl) ?_
  refine gf_X6_18 C0 hP 1 rfl rfl dX6_become_71 ?_
  refine lv_iconst (v := (0 : Int32)) hx hb dX6_become_74 (by decide) ?_
  refine lv_aload_n hx hb dX6_become_75 rfl (lv_at hl 0 rfl) ?_
  refine gf_X6_18 C0 hP 0 rfl rfl dX6_become_76 ?_
  refine lv_iconst (v := (0 : Int32)) hx hb dX6_become_79 (by decide) ?_
  refine lv_bipush (v := (8 : Int32)) hx hb dX6_become_80 (by decide) ?_
  refine k_cpy C0 w2_139 hl.1 hP hD hS 6 7 rfl rfl (by decide) (by decide) (by decide) (by decide) (by decide) (ws' := [(h, oX6 (.ref q_load) (.ref q_sag) (.ref q_joy) (.ref q_bowl) (.ref q_grief) (.ref q_place) (.int x_b1_arches) (.int x_b1_cats) (.int x_b1_store) (.int x_b1_hour) (.int x_b1_drops)), (b1, oX6 (.ref q_b1_load) (.ref q_b1_sag) (.ref q_b1_joy) (.ref q_b1_bowl) (.ref q_b1_grief) (.ref q_b1_place) (.int x_b1_arches) (.int x_b1_cats) (.int x_b1_store) (.int x_b1_hour) (.int x_b1_drops)), (q_b1_load, aI cT 6 f_b1_load), (q_load, aI cT 6 (va_cpy f_b1_load f_load (0 : Int32).toNatClampNeg (0 : Int32).toNatClampNeg (6 : Int32).toNatClampNeg)), (q_b1_sag, aI cT 6 f_b1_sag), (q_sag, aI cT 6 (va_cpy f_b1_sag f_sag (0 : Int32).toNatClampNeg (0 : Int32).toNatClampNeg (6 : Int32).toNatClampNeg)), (q_b1_joy, aI cT 8 f_b1_joy), (q_joy, aI cT 8 (va_cpy f_b1_joy f_joy (0 : Int32).toNatClampNeg (0 : Int32).toNatClampNeg (8 : Int32).toNatClampNeg)), (q_b1_bowl, aI cT 8 f_b1_bowl), (q_bowl, aI cT 8 f_bowl), (q_b1_grief, aI cT 8 f_b1_grief), (q_grief, aI cT 8 f_grief), (q_b1_place, aI cT 8 f_b1_place), (q_place, aI cT 8 f_place)]) rfl (Nat.le_of_ble_eq_true rfl) (by decide) dX6_become_82 (fun H locs hP hD hS => ?_)
  refine lv_aload_n hx hb dX6_become_85 rfl (lv_at hl 1 rfl) ?_
  refine gf_X6_21 C0 hP 1 rfl rfl dX6_become_86 ?_
  refine lv_iconst (v := (0 : Int32)) hx hb dX6_become_89 (by decide) ?_
  refine lv_aload_n hx hb dX6_become_90 rfl (lv_at hl 0 rfl) ?_
  refine gf_X6_21 C0 hP 0 rfl rfl dX6_become_91 ?_
  refine lv_iconst (v := (0 : Int32)) hx hb dX6_become_94 (by decide) ?_
  refine lv_bipush (v := (8 : Int32)) hx hb dX6_become_95 (by decide) ?_
  refine k_cpy C0 w2_139 hl.1 hP hD hS 8 9 rfl rfl (by decide) (by decide) (by decide) (by decide) (by decide) (ws' := [(h, oX6 (.ref q_load) (.ref q_sag) (.ref q_joy) (.ref q_bowl) (.ref q_grief) (.ref q_place) (.int x_b1_arches) (.int x_b1_cats) (.int x_b1_store) (.int x_b1_hour) (.int x_b1_drops)), (b1, oX6 (.ref q_b1_load) (.ref q_b1_sag) (.ref q_b1_joy) (.ref q_b1_bowl) (.ref q_b1_grief) (.ref q_b1_place) (.int x_b1_arches) (.int x_b1_cats) (.int x_b1_store) (.int x_b1_hour) (.int x_b1_drops)), (q_b1_load, aI cT 6 f_b1_load), (q_load, aI cT 6 (va_cpy f_b1_load f_load (0 : Int32).toNatClampNeg (0 : Int32).toNatClampNeg (6 : Int32).toNatClampNeg)), (q_b1_sag, aI cT 6 f_b1_sag), (q_sag, aI cT 6 (va_cpy f_b1_sag f_sag (0 : Int32).toNatClampNeg (0 : Int32).toNatClampNeg (6 : Int32).toNatClampNeg)), (q_b1_joy, aI cT 8 f_b1_joy), (q_joy, aI cT 8 (va_cpy f_b1_joy f_joy (0 : Int32).toNatClampNeg (0 : Int32).toNatClampNeg (8 : Int32).toNatClampNeg)), (q_b1_bowl, aI cT 8 f_b1_bowl), (q_bowl, aI cT 8 (va_cpy f_b1_bowl f_bowl (0 : Int32).toNatClampNeg (0 : Int32).toNatClampNeg (8 : Int32).toNatClampNeg)), (q_b1_grief, aI cT 8 f_b1_grief), (q_grief, aI cT 8 f_grief), (q_b1_place, aI cT 8 f_b1_place), (q_place, aI cT 8 f_place)]) rfl (Nat.le_of_ble_eq_true rfl) (by decide) dX6_become_97 (fun H locs hP hD hS => ?_)
  refine lv_aload_n hx hb dX6_become_100 rfl (lv_at hl 1 rfl) ?_
  refine gf_X6_24 C0 hP 1 rfl rfl dX6_become_101 ?_
  refine lv_iconst (v := (0 : Int32)) hx hb dX6_become_104 (by decide) ?_
  refine lv_aload_n hx hb dX6_become_105 rfl (lv_at hl 0 rfl) ?_
  refine gf_X6_24 C0 hP 0 rfl rfl dX6_become_106 ?_
  refine lv_iconst (v := (0 : Int32)) hx hb dX6_become_109 (by decide) ?_
  refine lv_bipush (v := (8 : Int32)) hx hb dX6_become_110 (by decide) ?_
  refine k_cpy C0 w2_139 hl.1 hP hD hS 10 11 rfl rfl (by decide) (by decide) (by decide) (by decide) (by decide) (ws' := [(h, oX6 (.ref q_load) (.ref q_sag) (.ref q_joy) (.ref q_bowl) (.ref q_grief) (.ref q_place) (.int x_b1_arches) (.int x_b1_cats) (.int x_b1_store) (.int x_b1_hour) (.int x_b1_drops)), (b1, oX6 (.ref q_b1_load) (.ref q_b1_sag) (.ref q_b1_joy) (.ref q_b1_bowl) (.ref q_b1_grief) (.ref q_b1_place) (.int x_b1_arches) (.int x_b1_cats) (.int x_b1_store) (.int x_b1_hour) (.int x_b1_drops)), (q_b1_load, aI cT 6 f_b1_load), (q_load, aI cT 6 (va_cpy f_b1_load f_load (0 : Int32).toNatClampNeg (0 : Int32).toNatClampNeg (6 : Int32).toNatClampNeg)), (q_b1_sag, aI cT 6 f_b1_sag), (q_sag, aI cT 6 (va_cpy f_b1_sag f_sag (0 : Int32).toNatClampNeg (0 : Int32).toNatClampNeg (6 : Int32).toNatClampNeg)), (q_b1_joy, aI cT 8 f_b1_joy), (q_joy, aI cT 8 (va_cpy f_b1_joy f_joy (0 : Int32).toNatClampNeg (0 : Int32).toNatClampNeg (8 : Int32).toNatClampNeg)), (q_b1_bowl, aI cT 8 f_b1_bowl), (q_bowl, aI cT 8 (va_cpy f_b1_bowl f_bowl (0 : Int32).toNatClampNeg (0 : Int32).toNatClampNeg (8 : Int32).toNatClampNeg)), (q_b1_grief, aI cT 8 f_b1_grief), (q_grief, aI cT 8 (va_cpy f_b1_grief f_grief (0 : Int32).toNatClampNeg (0 : Int32).toNatClampNeg (8 : Int32).toNatClampNeg)), (q_b1_place, aI cT 8 f_b1_place), (q_place, aI cT 8 f_place)]) rfl (Nat.le_of_ble_eq_true rfl) (by decide) dX6_become_112 (fun H locs hP hD hS => ?_)
  refine lv_aload_n hx hb dX6_become_115 rfl (lv_at hl 1 rfl) ?_
  refine gf_X6_27 C0 hP 1 rfl rfl dX6_become_116 ?_
  refine lv_iconst (v := (0 : Int32)) hx hb dX6_become_119 (by decide) ?_
  refine lv_aload_n hx hb dX6_become_120 rfl (lv_at hl 0 rfl) ?_
  refine gf_X6_27 C0 hP 0 rfl rfl dX6_become_121 ?_
  refine lv_iconst (v := (0 : Int32)) hx hb dX6_become_124 (by decide) ?_
  refine lv_bipush (v := (8 : Int32)) hx hb dX6_become_125 (by decide) ?_
  refine k_cpy C0 w2_139 hl.1 hP hD hS 12 13 rfl rfl (by decide) (by decide) (by decide) (by decide) (by decide) (ws' := [(h, oX6 (.ref q_load) (.ref q_sag) (.ref q_joy) (.ref q_bowl) (.ref q_grief) (.ref q_place) (.int x_b1_arches) (.int x_b1_cats) (.int x_b1_store) (.int x_b1_hour) (.int x_b1_drops)), (b1, oX6 (.ref q_b1_load) (.ref q_b1_sag) (.ref q_b1_joy) (.ref q_b1_bowl) (.ref q_b1_grief) (.ref q_b1_place) (.int x_b1_arches) (.int x_b1_cats) (.int x_b1_store) (.int x_b1_hour) (.int x_b1_drops)), (q_b1_load, aI cT 6 f_b1_load), (q_load, aI cT 6 (va_cpy f_b1_load f_load (0 : Int32).toNatClampNeg (0 : Int32).toNatClampNeg (6 : Int32).toNatClampNeg)), (q_b1_sag, aI cT 6 f_b1_sag), (q_sag, aI cT 6 (va_cpy f_b1_sag f_sag (0 : Int32).toNatClampNeg (0 : Int32).toNatClampNeg (6 : Int32).toNatClampNeg)), (q_b1_joy, aI cT 8 f_b1_joy), (q_joy, aI cT 8 (va_cpy f_b1_joy f_joy (0 : Int32).toNatClampNeg (0 : Int32).toNatClampNeg (8 : Int32).toNatClampNeg)), (q_b1_bowl, aI cT 8 f_b1_bowl), (q_bowl, aI cT 8 (va_cpy f_b1_bowl f_bowl (0 : Int32).toNatClampNeg (0 : Int32).toNatClampNeg (8 : Int32).toNatClampNeg)), (q_b1_grief, aI cT 8 f_b1_grief), (q_grief, aI cT 8 (va_cpy f_b1_grief f_grief (0 : Int32).toNatClampNeg (0 : Int32).toNatClampNeg (8 : Int32).toNatClampNeg)), (q_b1_place, aI cT 8 f_b1_place), (q_place, aI cT 8 (va_cpy f_b1_place f_place (0 : Int32).toNatClampNeg (0 : Int32).toNatClampNeg (8 : Int32).toNatClampNeg))]) rfl (Nat.le_of_ble_eq_true rfl) (by decide) dX6_become_127 (fun H locs hP hD hS => ?_)
  exact k_vret C0 hr (x_b1_arches, x_b1_cats, x_b1_store, x_b1_hour, x_b1_drops, (va_cpy f_b1_load f_load (0 : Int32).toNatClampNeg (0 : Int32).toNatClampNeg (6 : Int32).toNatClampNeg), (va_cpy f_b1_sag f_sag (0 : Int32).toNatClampNeg (0 : Int32).toNatClampNeg (6 : Int32).toNatClampNeg), (va_cpy f_b1_joy f_joy (0 : Int32).toNatClampNeg (0 : Int32).toNatClampNeg (8 : Int32).toNatClampNeg), (va_cpy f_b1_bowl f_bowl (0 : Int32).toNatClampNeg (0 : Int32).toNatClampNeg (8 : Int32).toNatClampNeg), (va_cpy f_b1_grief f_grief (0 : Int32).toNatClampNeg (0 : Int32).toNatClampNeg (8 : Int32).toNatClampNeg), (va_cpy f_b1_place f_place (0 : Int32).toNatClampNeg (0 : Int32).toNatClampNeg (8 : Int32).toNatClampNeg)) hg hP hD hS dX6_become_130
theorem dX3_anew_0 : decode cX3_anew 0 = .ok (.aload_n 0, 1) := by decide +kernel
theorem dX3_anew_1 : decode cX3_anew 1 = .ok (.iconst 0, 1) := by decide +kernel
theorem dX3_anew_2 : decode cX3_anew 2 = .ok (.putfield 15, 3) := by decide +kernel
theorem dX3_anew_5 : decode cX3_anew 5 = .ok (.aload_n 0, 1) := by decide +kernel
theorem dX3_anew_6 : decode cX3_anew 6 = .ok (.areturn, 1) := by decide +kernel
def p_X3_anew (F : Nat) (Post : Int32 → Prop) : Prop := (Post (0 : Int32))
set_option maxHeartbeats 4000000 in
set_option maxRecDepth 100000 in
theorem c_X3_anew (l : Launch) (D : va_G) (cT : Nat → ClassId) (F : Nat) (h : Nat) (w_numbers : Value) (x_size : Int32) (Post : Int32 → Prop) (hg : p_X3_anew F Post) : MWr l D cT yX3_anew cX3_anew 1 (some (.object "PurringHolds$Row")) 0 0 0 0 [.ref h] [(h, oX3 w_numbers (.int x_size))] h Post (fun (u : Int32) => [(h, oX3 w_numbers (.int u))]) := by
  refine MWr.of (by decide) (Nat.le_of_ble_eq_true rfl) ?_
  intro p e s m below meth c A hA C0 hnm hr hP hD ls hl
  have hl : lv_has ls 1 [(0, .ref h)] := hl
  have hx := C0.x
  have hb := C0.b
  have hS : va_S A s.heap s.heap [] := va_S.rf
  have hP : va_P D cls9 [(h, oX3 w_numbers (.int x_size))] s.heap := hP
  have hD : va_D A [(h, oX3 w_numbers (.int x_size))] := hD
  unfold p_X3_anew at hg
  refine lv_aload_n hx hb dX3_anew_0 rfl (lv_at hl 0 rfl) ?_
  refine lv_iconst (v := (0 : Int32)) hx hb dX3_anew_1 (by decide) ?_
  refine pf_X3_15 C0 hP hD hS 0 rfl (Nat.le_of_ble_eq_true rfl) (ws2 := [(h, oX3 w_numbers (.int (0 : Int32)))]) rfl dX3_anew_2 (fun H locs hP hD hS => ?_)
  refine lv_aload_n hx hb dX3_anew_5 rfl (lv_at hl 0 rfl) ?_
  exact k_aret C0 hr (0 : Int32) hg hP hD hS dX3_anew_6
theorem dX3_add_0 : decode cX3_add 0 = .ok (.aload_n 0, 1) := by decide +kernel
theorem dX3_add_1 : decode cX3_add 1 = .ok (.getfield 15, 3) := by decide +kernel
theorem dX3_add_4 : decode cX3_add 4 = .ok (.bipush 8, 2) := by decide +kernel
theorem dX3_add_6 : decode cX3_add 6 = .ok (.if_icmp .ge 23, 3) := by decide +kernel
theorem dX3_add_9 : decode cX3_add 9 = .ok (.aload_n 0, 1) := by decide +kernel
theorem dX3_add_10 : decode cX3_add 10 = .ok (.getfield 9, 3) := by decide +kernel
theorem dX3_add_13 : decode cX3_add 13 = .ok (.aload_n 0, 1) := by decide +kernel
theorem dX3_add_14 : decode cX3_add 14 = .ok (.getfield 15, 3) := by decide +kernel
theorem dX3_add_17 : decode cX3_add 17 = .ok (.lload_n 1, 1) := by decide +kernel
theorem dX3_add_18 : decode cX3_add 18 = .ok (.lastore, 1) := by decide +kernel
theorem dX3_add_19 : decode cX3_add 19 = .ok (.aload_n 0, 1) := by decide +kernel
theorem dX3_add_20 : decode cX3_add 20 = .ok (.dup, 1) := by decide +kernel
theorem dX3_add_21 : decode cX3_add 21 = .ok (.getfield 15, 3) := by decide +kernel
theorem dX3_add_24 : decode cX3_add 24 = .ok (.iconst 1, 1) := by decide +kernel
theorem dX3_add_25 : decode cX3_add 25 = .ok (.iadd, 1) := by decide +kernel
theorem dX3_add_26 : decode cX3_add 26 = .ok (.putfield 15, 3) := by decide +kernel
theorem dX3_add_29 : decode cX3_add 29 = .ok (.aload_n 0, 1) := by decide +kernel
theorem dX3_add_30 : decode cX3_add 30 = .ok (.areturn, 1) := by decide +kernel
def p_X3_add (F : Nat) (p1 : Int64) (x_size : Int32) (f_numbers : Nat → Int64) (Post : (Int32 × (Nat → Int64)) → Prop) : Prop := (((8 : Int32) ≤ x_size → (Post (x_size, f_numbers))) ∧ (¬ (8 : Int32) ≤ x_size → (vp_in x_size 8 ∧ (Post ((x_size + (1 : Int32)), (vp_updL f_numbers x_size.toNatClampNeg p1))))))
set_option maxHeartbeats 4000000 in
set_option maxRecDepth 100000 in
theorem c_X3_add (l : Launch) (D : va_G) (cT : Nat → ClassId) (F : Nat) (h : Nat) (p1 : Int64) (q_numbers : Nat) (x_size : Int32) (f_numbers : Nat → Int64) (Post : (Int32 × (Nat → Int64)) → Prop) (hg : p_X3_add F p1 x_size f_numbers Post) : MWr l D cT yX3_add cX3_add 3 (some (.object "PurringHolds$Row")) 0 0 0 0 [.ref h, .long p1] [(h, oX3 (.ref q_numbers) (.int x_size)), (q_numbers, aJ cT 8 f_numbers)] h Post (fun (u : (Int32 × (Nat → Int64))) => [(h, oX3 (.ref q_numbers) (.int u.1)), (q_numbers, aJ cT 8 u.2)]) := by
  refine MWr.of (by decide) (Nat.le_of_ble_eq_true rfl) ?_
  intro p e s m below meth c A hA C0 hnm hr hP hD ls hl
  have hl : lv_has ls 3 [(0, .ref h), (1, .long p1)] := hl
  have hx := C0.x
  have hb := C0.b
  have hS : va_S A s.heap s.heap [] := va_S.rf
  have hP : va_P D cls9 [(h, oX3 (.ref q_numbers) (.int x_size)), (q_numbers, aJ cT 8 f_numbers)] s.heap := hP
  have hD : va_D A [(h, oX3 (.ref q_numbers) (.int x_size)), (q_numbers, aJ cT 8 f_numbers)] := hD
  unfold p_X3_add at hg
  refine lv_aload_n hx hb dX3_add_0 rfl (lv_at hl 0 rfl) ?_
  refine gf_X3_15 C0 hP 0 rfl rfl dX3_add_1 ?_
  refine lv_bipush (v := (8 : Int32)) hx hb dX3_add_4 (by decide) ?_
  refine lv_icmp_ge (tgt := 29) hx hb dX3_add_6 (by decide) (fun c_6 => ?_) (fun c_6 => ?_)
  · have hg := hg.1 c_6
    refine lv_aload_n hx hb dX3_add_29 rfl (lv_at hl 0 rfl) ?_
    exact k_aret C0 hr (x_size, f_numbers) hg hP hD hS dX3_add_30
  have hg := hg.2 c_6
  refine lv_aload_n hx hb dX3_add_9 rfl (lv_at hl 0 rfl) ?_
  refine gf_X3_9 C0 hP 0 rfl rfl dX3_add_10 ?_
  refine lv_aload_n hx hb dX3_add_13 rfl (lv_at hl 0 rfl) ?_
  refine gf_X3_15 C0 hP 0 rfl rfl dX3_add_14 ?_
  refine lv_lload_n hx hb dX3_add_17 rfl (lv_at hl 1 rfl) ?_
  obtain ⟨g_18, hg⟩ := hg
  refine k_last C0 hP hD hS 1 rfl g_18 (ws' := [(h, oX3 (.ref q_numbers) (.int x_size)), (q_numbers, aJ cT 8 (vp_updL f_numbers x_size.toNatClampNeg p1))]) rfl dX3_add_18 (fun H locs hP hD hS => ?_)
  refine lv_aload_n hx hb dX3_add_19 rfl (lv_at hl 0 rfl) ?_
  refine lv_dup hx hb dX3_add_20 rfl ?_
  refine gf_X3_15 C0 hP 0 rfl rfl dX3_add_21 ?_
  refine lv_iconst (v := (1 : Int32)) hx hb dX3_add_24 (by decide) ?_
  refine lv_iadd hx hb dX3_add_25 ?_
  refine pf_X3_15 C0 hP hD hS 0 rfl (Nat.le_of_ble_eq_true rfl) (ws2 := [(h, oX3 (.ref q_numbers) (.int (x_size + (1 : Int32)))), (q_numbers, aJ cT 8 (vp_updL f_numbers x_size.toNatClampNeg p1))]) rfl dX3_add_26 (fun H locs hP hD hS => ?_)
  refine lv_aload_n hx hb dX3_add_29 rfl (lv_at hl 0 rfl) ?_
  exact k_aret C0 hr ((x_size + (1 : Int32)), (vp_updL f_numbers x_size.toNatClampNeg p1)) hg hP hD hS dX3_add_30
theorem dX4_addStep_0 : decode cX4_addStep 0 = .ok (.aload_n 0, 1) := by decide +kernel
theorem dX4_addStep_1 : decode cX4_addStep 1 = .ok (.getfield 52, 3) := by decide +kernel
theorem dX4_addStep_4 : decode cX4_addStep 4 = .ok (.bipush 40, 2) := by decide +kernel
theorem dX4_addStep_6 : decode cX4_addStep 6 = .ok (.if_icmp .ge 23, 3) := by decide +kernel
theorem dX4_addStep_9 : decode cX4_addStep 9 = .ok (.aload_n 0, 1) := by decide +kernel
theorem dX4_addStep_10 : decode cX4_addStep 10 = .ok (.getfield 9, 3) := by decide +kernel
theorem dX4_addStep_13 : decode cX4_addStep 13 = .ok (.aload_n 0, 1) := by decide +kernel
theorem dX4_addStep_14 : decode cX4_addStep 14 = .ok (.getfield 52, 3) := by decide +kernel
theorem dX4_addStep_17 : decode cX4_addStep 17 = .ok (.iload_n 1, 1) := by decide +kernel
theorem dX4_addStep_18 : decode cX4_addStep 18 = .ok (.iastore, 1) := by decide +kernel
theorem dX4_addStep_19 : decode cX4_addStep 19 = .ok (.aload_n 0, 1) := by decide +kernel
theorem dX4_addStep_20 : decode cX4_addStep 20 = .ok (.dup, 1) := by decide +kernel
theorem dX4_addStep_21 : decode cX4_addStep 21 = .ok (.getfield 52, 3) := by decide +kernel
theorem dX4_addStep_24 : decode cX4_addStep 24 = .ok (.iconst 1, 1) := by decide +kernel
theorem dX4_addStep_25 : decode cX4_addStep 25 = .ok (.iadd, 1) := by decide +kernel
theorem dX4_addStep_26 : decode cX4_addStep 26 = .ok (.putfield 52, 3) := by decide +kernel
theorem dX4_addStep_29 : decode cX4_addStep 29 = .ok (.return_, 1) := by decide +kernel
def p_X4_addStep (F : Nat) (p1 : Int32) (x_size : Int32) (f_steps : Nat → Int32) (Post : (Int32 × (Nat → Int32)) → Prop) : Prop := (((40 : Int32) ≤ x_size → (Post (x_size, f_steps))) ∧ (¬ (40 : Int32) ≤ x_size → (vp_in x_size 40 ∧ (Post ((x_size + (1 : Int32)), (upd f_steps x_size.toNatClampNeg p1))))))
set_option maxHeartbeats 4000000 in
set_option maxRecDepth 100000 in
theorem c_X4_addStep (l : Launch) (D : va_G) (cT : Nat → ClassId) (F : Nat) (h : Nat) (p1 : Int32) (q_steps : Nat) (w_stack : Value) (x_size : Int32) (x_top : Int32) (x_open : Int32) (x_compared : Int32) (x_digits : Int32) (x_wantsThing : Int32) (f_steps : Nat → Int32) (Post : (Int32 × (Nat → Int32)) → Prop) (hg : p_X4_addStep F p1 x_size f_steps Post) : MWv l D cT yX4_addStep cX4_addStep 2 none 0 0 0 0 [.ref h, .int p1] [(h, oX4 (.ref q_steps) w_stack (.int x_size) (.int x_top) (.int x_open) (.int x_compared) (.int x_digits) (.int x_wantsThing)), (q_steps, aI cT 40 f_steps)] Post (fun (u : (Int32 × (Nat → Int32))) => [(h, oX4 (.ref q_steps) w_stack (.int u.1) (.int x_top) (.int x_open) (.int x_compared) (.int x_digits) (.int x_wantsThing)), (q_steps, aI cT 40 u.2)]) := by
  refine MWv.of (by decide) (Nat.le_of_ble_eq_true rfl) ?_
  intro p e s m below meth c A hA C0 hnm hr hP hD ls hl
  have hl : lv_has ls 2 [(0, .ref h), (1, .int p1)] := hl
  have hx := C0.x
  have hb := C0.b
  have hS : va_S A s.heap s.heap [] := va_S.rf
  have hP : va_P D cls9 [(h, oX4 (.ref q_steps) w_stack (.int x_size) (.int x_top) (.int x_open) (.int x_compared) (.int x_digits) (.int x_wantsThing)), (q_steps, aI cT 40 f_steps)] s.heap := hP
  have hD : va_D A [(h, oX4 (.ref q_steps) w_stack (.int x_size) (.int x_top) (.int x_open) (.int x_compared) (.int x_digits) (.int x_wantsThing)), (q_steps, aI cT 40 f_steps)] := hD
  unfold p_X4_addStep at hg
  refine lv_aload_n hx hb dX4_addStep_0 rfl (lv_at hl 0 rfl) ?_
  refine gf_X4_52 C0 hP 0 rfl rfl dX4_addStep_1 ?_
  refine lv_bipush (v := (40 : Int32)) hx hb dX4_addStep_4 (by decide) ?_
  refine lv_icmp_ge (tgt := 29) hx hb dX4_addStep_6 (by decide) (fun c_6 => ?_) (fun c_6 => ?_)
  · have hg := hg.1 c_6
    exact k_vret C0 hr (x_size, f_steps) hg hP hD hS dX4_addStep_29
  have hg := hg.2 c_6
  refine lv_aload_n hx hb dX4_addStep_9 rfl (lv_at hl 0 rfl) ?_
  refine gf_X4_9 C0 hP 0 rfl rfl dX4_addStep_10 ?_
  refine lv_aload_n hx hb dX4_addStep_13 rfl (lv_at hl 0 rfl) ?_
  refine gf_X4_52 C0 hP 0 rfl rfl dX4_addStep_14 ?_
  refine lv_iload_n hx hb dX4_addStep_17 rfl (lv_at hl 1 rfl) ?_
  obtain ⟨g_18, hg⟩ := hg
  refine k_iast C0 hP hD hS 1 rfl g_18 (ws' := [(h, oX4 (.ref q_steps) w_stack (.int x_size) (.int x_top) (.int x_open) (.int x_compared) (.int x_digits) (.int x_wantsThing)), (q_steps, aI cT 40 (upd f_steps x_size.toNatClampNeg p1))]) rfl dX4_addStep_18 (fun H locs hP hD hS => ?_)
  refine lv_aload_n hx hb dX4_addStep_19 rfl (lv_at hl 0 rfl) ?_
  refine lv_dup hx hb dX4_addStep_20 rfl ?_
  refine gf_X4_52 C0 hP 0 rfl rfl dX4_addStep_21 ?_
  refine lv_iconst (v := (1 : Int32)) hx hb dX4_addStep_24 (by decide) ?_
  refine lv_iadd hx hb dX4_addStep_25 ?_
  refine pf_X4_52 C0 hP hD hS 0 rfl (Nat.le_of_ble_eq_true rfl) (ws2 := [(h, oX4 (.ref q_steps) w_stack (.int (x_size + (1 : Int32))) (.int x_top) (.int x_open) (.int x_compared) (.int x_digits) (.int x_wantsThing)), (q_steps, aI cT 40 (upd f_steps x_size.toNatClampNeg p1))]) rfl dX4_addStep_26 (fun H locs hP hD hS => ?_)
  exact k_vret C0 hr ((x_size + (1 : Int32)), (upd f_steps x_size.toNatClampNeg p1)) hg hP hD hS dX4_addStep_29
theorem dX4_bePlain_0 : decode cX4_bePlain 0 = .ok (.aload_n 0, 1) := by decide +kernel
theorem dX4_bePlain_1 : decode cX4_bePlain 1 = .ok (.bipush (-106), 2) := by decide +kernel
theorem dX4_bePlain_3 : decode cX4_bePlain 3 = .ok (.invokevirtual 21, 3) := by decide +kernel
theorem dX4_bePlain_6 : decode cX4_bePlain 6 = .ok (.aload_n 0, 1) := by decide +kernel
theorem dX4_bePlain_7 : decode cX4_bePlain 7 = .ok (.bipush (-103), 2) := by decide +kernel
theorem dX4_bePlain_9 : decode cX4_bePlain 9 = .ok (.invokevirtual 21, 3) := by decide +kernel
theorem dX4_bePlain_12 : decode cX4_bePlain 12 = .ok (.aload_n 0, 1) := by decide +kernel
theorem dX4_bePlain_13 : decode cX4_bePlain 13 = .ok (.bipush (-45), 2) := by decide +kernel
theorem dX4_bePlain_15 : decode cX4_bePlain 15 = .ok (.invokevirtual 21, 3) := by decide +kernel
theorem dX4_bePlain_18 : decode cX4_bePlain 18 = .ok (.return_, 1) := by decide +kernel
def p_X4_bePlain (F : Nat) (x_size : Int32) (f_steps : Nat → Int32) (Post : (Int32 × (Nat → Int32)) → Prop) : Prop := (p_X4_addStep F (-106 : Int32) x_size f_steps (fun (u_3 : (Int32 × (Nat → Int32))) => (p_X4_addStep F (-103 : Int32) u_3.1 u_3.2 (fun (u_9 : (Int32 × (Nat → Int32))) => (p_X4_addStep F (-45 : Int32) u_9.1 u_9.2 (fun (u_15 : (Int32 × (Nat → Int32))) => (Post (u_15.1, u_15.2))))))))
set_option maxHeartbeats 4000000 in
set_option maxRecDepth 100000 in
theorem c_X4_bePlain (l : Launch) (D : va_G) (cT : Nat → ClassId) (F : Nat) (h : Nat) (q_steps : Nat) (w_stack : Value) (x_size : Int32) (x_top : Int32) (x_open : Int32) (x_compared : Int32) (x_digits : Int32) (x_wantsThing : Int32) (f_steps : Nat → Int32) (Post : (Int32 × (Nat → Int32)) → Prop) (hg : p_X4_bePlain F x_size f_steps Post) : MWv l D cT yX4_bePlain cX4_bePlain 1 none 1 21 0 0 [.ref h] [(h, oX4 (.ref q_steps) w_stack (.int x_size) (.int x_top) (.int x_open) (.int x_compared) (.int x_digits) (.int x_wantsThing)), (q_steps, aI cT 40 f_steps)] Post (fun (u : (Int32 × (Nat → Int32))) => [(h, oX4 (.ref q_steps) w_stack (.int u.1) (.int x_top) (.int x_open) (.int x_compared) (.int x_digits) (.int x_wantsThing)), (q_steps, aI cT 40 u.2)]) := by
  refine MWv.of (by decide) (Nat.le_of_ble_eq_true rfl) ?_
  intro p e s m below meth c A hA C0 hnm hr hP hD ls hl
  have hl : lv_has ls 1 [(0, .ref h)] := hl
  have hx := C0.x
  have hb := C0.b
  have hS : va_S A s.heap s.heap [] := va_S.rf
  have hP : va_P D cls9 [(h, oX4 (.ref q_steps) w_stack (.int x_size) (.int x_top) (.int x_open) (.int x_compared) (.int x_digits) (.int x_wantsThing)), (q_steps, aI cT 40 f_steps)] s.heap := hP
  have hD : va_D A [(h, oX4 (.ref q_steps) w_stack (.int x_size) (.int x_top) (.int x_open) (.int x_compared) (.int x_digits) (.int x_wantsThing)), (q_steps, aI cT 40 f_steps)] := hD
  unfold p_X4_bePlain at hg
  refine lv_aload_n hx hb dX4_bePlain_0 rfl (lv_at hl 0 rfl) ?_
  refine lv_bipush (v := (-106 : Int32)) hx hb dX4_bePlain_1 (by decide) ?_
  refine k_Vv (rest := []) (wr := []) (w2 := fun u_3 => [(h, oX4 (.ref q_steps) w_stack (.int u_3.1) (.int x_top) (.int x_open) (.int x_compared) (.int x_digits) (.int x_wantsThing)), (q_steps, aI cT 40 u_3.2)]) C0 lk_X4_21 (c_X4_addStep l D cT F h (-106 : Int32) q_steps w_stack x_size x_top x_open x_compared x_digits x_wantsThing f_steps _ hg) hP hD hS hA [0, 1] [] (by decide +kernel) rfl rfl (fun _ => rfl) rfl rfl ⟨Nat.le_of_ble_eq_true rfl, Nat.le_of_ble_eq_true rfl⟩ rfl hl.1 rfl (Nat.le_of_ble_eq_true rfl) dX4_bePlain_3 ⟨Nat.le_of_ble_eq_true rfl, Nat.le_of_ble_eq_true rfl⟩ ?_
  intro u_3 H locs hg hP hD hS
  refine lv_aload_n hx hb dX4_bePlain_6 rfl (lv_at hl 0 rfl) ?_
  refine lv_bipush (v := (-103 : Int32)) hx hb dX4_bePlain_7 (by decide) ?_
  refine k_Vv (rest := []) (wr := []) (w2 := fun u_9 => [(h, oX4 (.ref q_steps) w_stack (.int u_9.1) (.int x_top) (.int x_open) (.int x_compared) (.int x_digits) (.int x_wantsThing)), (q_steps, aI cT 40 u_9.2)]) C0 lk_X4_21 (c_X4_addStep l D cT F h (-103 : Int32) q_steps w_stack u_3.1 x_top x_open x_compared x_digits x_wantsThing u_3.2 _ hg) hP hD hS hA [0, 1] [] (by decide +kernel) rfl rfl (fun _ => rfl) rfl rfl ⟨Nat.le_of_ble_eq_true rfl, Nat.le_of_ble_eq_true rfl⟩ rfl hl.1 rfl (Nat.le_of_ble_eq_true rfl) dX4_bePlain_9 ⟨Nat.le_of_ble_eq_true rfl, Nat.le_of_ble_eq_true rfl⟩ ?_
  intro u_9 H locs hg hP hD hS
  refine lv_aload_n hx hb dX4_bePlain_12 rfl (lv_at hl 0 rfl) ?_
  refine lv_bipush (v := (-45 : Int32)) hx hb dX4_bePlain_13 (by decide) ?_
  refine k_Vv (rest := []) (wr := []) (w2 := fun u_15 => [(h, oX4 (.ref q_steps) w_stack (.int u_15.1) (.int x_top) (.int x_open) (.int x_compared) (.int x_digits) (.int x_wantsThing)), (q_steps, aI cT 40 u_15.2)]) C0 lk_X4_21 (c_X4_addStep l D cT F h (-45 : Int32) q_steps w_stack u_9.1 x_top x_open x_compared x_digits x_wantsThing u_9.2 _ hg) hP hD hS hA [0, 1] [] (by decide +kernel) rfl rfl (fun _ => rfl) rfl rfl ⟨Nat.le_of_ble_eq_true rfl, Nat.le_of_ble_eq_true rfl⟩ rfl hl.1 rfl (Nat.le_of_ble_eq_true rfl) dX4_bePlain_15 ⟨Nat.le_of_ble_eq_true rfl, Nat.le_of_ble_eq_true rfl⟩ ?_
  intro u_15 H locs hg hP hD hS
  exact k_vret C0 hr (u_15.1, u_15.2) hg hP hD hS dX4_bePlain_18
theorem dX4_start_0 : decode cX4_start 0 = .ok (.aload_n 0, 1) := by decide +kernel
theorem dX4_start_1 : decode cX4_start 1 = .ok (.iconst 0, 1) := by decide +kernel
theorem dX4_start_2 : decode cX4_start 2 = .ok (.putfield 52, 3) := by decide +kernel
theorem dX4_start_5 : decode cX4_start 5 = .ok (.aload_n 0, 1) := by decide +kernel
theorem dX4_start_6 : decode cX4_start 6 = .ok (.iconst 0, 1) := by decide +kernel
theorem dX4_start_7 : decode cX4_start 7 = .ok (.putfield 55, 3) := by decide +kernel
theorem dX4_start_10 : decode cX4_start 10 = .ok (.aload_n 0, 1) := by decide +kernel
theorem dX4_start_11 : decode cX4_start 11 = .ok (.iconst 0, 1) := by decide +kernel
theorem dX4_start_12 : decode cX4_start 12 = .ok (.putfield 46, 3) := by decide +kernel
theorem dX4_start_15 : decode cX4_start 15 = .ok (.aload_n 0, 1) := by decide +kernel
theorem dX4_start_16 : decode cX4_start 16 = .ok (.iconst 0, 1) := by decide +kernel
theorem dX4_start_17 : decode cX4_start 17 = .ok (.putfield 58, 3) := by decide +kernel
theorem dX4_start_20 : decode cX4_start 20 = .ok (.aload_n 0, 1) := by decide +kernel
theorem dX4_start_21 : decode cX4_start 21 = .ok (.iconst 0, 1) := by decide +kernel
theorem dX4_start_22 : decode cX4_start 22 = .ok (.putfield 61, 3) := by decide +kernel
theorem dX4_start_25 : decode cX4_start 25 = .ok (.aload_n 0, 1) := by decide +kernel
theorem dX4_start_26 : decode cX4_start 26 = .ok (.iconst 1, 1) := by decide +kernel
theorem dX4_start_27 : decode cX4_start 27 = .ok (.putfield 42, 3) := by decide +kernel
theorem dX4_start_30 : decode cX4_start 30 = .ok (.return_, 1) := by decide +kernel
def p_X4_start (F : Nat) (Post : (Int32 × Int32 × Int32 × Int32 × Int32 × Int32) → Prop) : Prop := (Post ((0 : Int32), (0 : Int32), (0 : Int32), (0 : Int32), (0 : Int32), (1 : Int32)))
set_option maxHeartbeats 4000000 in
set_option maxRecDepth 100000 in
theorem c_X4_start (l : Launch) (D : va_G) (cT : Nat → ClassId) (F : Nat) (h : Nat) (w_steps : Value) (w_stack : Value) (x_size : Int32) (x_top : Int32) (x_open : Int32) (x_compared : Int32) (x_digits : Int32) (x_wantsThing : Int32) (Post : (Int32 × Int32 × Int32 × Int32 × Int32 × Int32) → Prop) (hg : p_X4_start F Post) : MWv l D cT yX4_start cX4_start 1 none 0 0 0 0 [.ref h] [(h, oX4 w_steps w_stack (.int x_size) (.int x_top) (.int x_open) (.int x_compared) (.int x_digits) (.int x_wantsThing))] Post (fun (u : (Int32 × Int32 × Int32 × Int32 × Int32 × Int32)) => [(h, oX4 w_steps w_stack (.int u.1) (.int u.2.1) (.int u.2.2.1) (.int u.2.2.2.1) (.int u.2.2.2.2.1) (.int u.2.2.2.2.2))]) := by
  refine MWv.of (by decide) (Nat.le_of_ble_eq_true rfl) ?_
  intro p e s m below meth c A hA C0 hnm hr hP hD ls hl
  have hl : lv_has ls 1 [(0, .ref h)] := hl
  have hx := C0.x
  have hb := C0.b
  have hS : va_S A s.heap s.heap [] := va_S.rf
  have hP : va_P D cls9 [(h, oX4 w_steps w_stack (.int x_size) (.int x_top) (.int x_open) (.int x_compared) (.int x_digits) (.int x_wantsThing))] s.heap := hP
  have hD : va_D A [(h, oX4 w_steps w_stack (.int x_size) (.int x_top) (.int x_open) (.int x_compared) (.int x_digits) (.int x_wantsThing))] := hD
  unfold p_X4_start at hg
  refine lv_aload_n hx hb dX4_start_0 rfl (lv_at hl 0 rfl) ?_
  refine lv_iconst (v := (0 : Int32)) hx hb dX4_start_1 (by decide) ?_
  refine pf_X4_52 C0 hP hD hS 0 rfl (Nat.le_of_ble_eq_true rfl) (ws2 := [(h, oX4 w_steps w_stack (.int (0 : Int32)) (.int x_top) (.int x_open) (.int x_compared) (.int x_digits) (.int x_wantsThing))]) rfl dX4_start_2 (fun H locs hP hD hS => ?_)
  refine lv_aload_n hx hb dX4_start_5 rfl (lv_at hl 0 rfl) ?_
  refine lv_iconst (v := (0 : Int32)) hx hb dX4_start_6 (by decide) ?_
  refine pf_X4_55 C0 hP hD hS 0 rfl (Nat.le_of_ble_eq_true rfl) (ws2 := [(h, oX4 w_steps w_stack (.int (0 : Int32)) (.int (0 : Int32)) (.int x_open) (.int x_compared) (.int x_digits) (.int x_wantsThing))]) rfl dX4_start_7 (fun H locs hP hD hS => ?_)
  refine lv_aload_n hx hb dX4_start_10 rfl (lv_at hl 0 rfl) ?_
  refine lv_iconst (v := (0 : Int32)) hx hb dX4_start_11 (by decide) ?_
  refine pf_X4_46 C0 hP hD hS 0 rfl (Nat.le_of_ble_eq_true rfl) (ws2 := [(h, oX4 w_steps w_stack (.int (0 : Int32)) (.int (0 : Int32)) (.int (0 : Int32)) (.int x_compared) (.int x_digits) (.int x_wantsThing))]) rfl dX4_start_12 (fun H locs hP hD hS => ?_)
  refine lv_aload_n hx hb dX4_start_15 rfl (lv_at hl 0 rfl) ?_
  refine lv_iconst (v := (0 : Int32)) hx hb dX4_start_16 (by decide) ?_
  refine pf_X4_58 C0 hP hD hS 0 rfl (Nat.le_of_ble_eq_true rfl) (ws2 := [(h, oX4 w_steps w_stack (.int (0 : Int32)) (.int (0 : Int32)) (.int (0 : Int32)) (.int (0 : Int32)) (.int x_digits) (.int x_wantsThing))]) rfl dX4_start_17 (fun H locs hP hD hS => ?_)
  refine lv_aload_n hx hb dX4_start_20 rfl (lv_at hl 0 rfl) ?_
  refine lv_iconst (v := (0 : Int32)) hx hb dX4_start_21 (by decide) ?_
  refine pf_X4_61 C0 hP hD hS 0 rfl (Nat.le_of_ble_eq_true rfl) (ws2 := [(h, oX4 w_steps w_stack (.int (0 : Int32)) (.int (0 : Int32)) (.int (0 : Int32)) (.int (0 : Int32)) (.int (0 : Int32)) (.int x_wantsThing))]) rfl dX4_start_22 (fun H locs hP hD hS => ?_)
  refine lv_aload_n hx hb dX4_start_25 rfl (lv_at hl 0 rfl) ?_
  refine lv_iconst (v := (1 : Int32)) hx hb dX4_start_26 (by decide) ?_
  refine pf_X4_42 C0 hP hD hS 0 rfl (Nat.le_of_ble_eq_true rfl) (Or.inr rfl) (ws2 := [(h, oX4 w_steps w_stack (.int (0 : Int32)) (.int (0 : Int32)) (.int (0 : Int32)) (.int (0 : Int32)) (.int (0 : Int32)) (.int (1 : Int32)))]) rfl dX4_start_27 (fun H locs hP hD hS => ?_)
  exact k_vret C0 hr ((0 : Int32), (0 : Int32), (0 : Int32), (0 : Int32), (0 : Int32), (1 : Int32)) hg hP hD hS dX4_start_30
theorem dX5_at_0 : decode cX5_at 0 = .ok (.iload_n 1, 1) := by decide +kernel
theorem dX5_at_1 : decode cX5_at 1 = .ok (.ifCond .lt 26, 3) := by decide +kernel
theorem dX5_at_4 : decode cX5_at 4 = .ok (.iload_n 1, 1) := by decide +kernel
theorem dX5_at_5 : decode cX5_at 5 = .ok (.aload_n 0, 1) := by decide +kernel
theorem dX5_at_6 : decode cX5_at 6 = .ok (.getfield 15, 3) := by decide +kernel
theorem dX5_at_9 : decode cX5_at 9 = .ok (.if_icmp .ge 18, 3) := by decide +kernel
theorem dX5_at_12 : decode cX5_at 12 = .ok (.iload_n 1, 1) := by decide +kernel
theorem dX5_at_13 : decode cX5_at 13 = .ok (.bipush 80, 2) := by decide +kernel
theorem dX5_at_15 : decode cX5_at 15 = .ok (.if_icmp .ge 12, 3) := by decide +kernel
theorem dX5_at_18 : decode cX5_at 18 = .ok (.aload_n 0, 1) := by decide +kernel
theorem dX5_at_19 : decode cX5_at 19 = .ok (.getfield 9, 3) := by decide +kernel
theorem dX5_at_22 : decode cX5_at 22 = .ok (.iload_n 1, 1) := by decide +kernel
theorem dX5_at_23 : decode cX5_at 23 = .ok (.caload, 1) := by decide +kernel
theorem dX5_at_24 : decode cX5_at 24 = .ok (.goto 4, 3) := by decide +kernel
theorem dX5_at_27 : decode cX5_at 27 = .ok (.iconst (-1), 1) := by decide +kernel
theorem dX5_at_28 : decode cX5_at 28 = .ok (.ireturn, 1) := by decide +kernel
def p_X5_at (F : Nat) (p1 : Int32) (x_length : Int32) (f_signs : Nat → Int32) (Post : Int32 → Prop) : Prop := ((p1 < 0 → (Post (-1 : Int32))) ∧ (¬ p1 < 0 → ((x_length ≤ p1 → (Post (-1 : Int32))) ∧ (¬ x_length ≤ p1 → (((80 : Int32) ≤ p1 → (Post (-1 : Int32))) ∧ (¬ (80 : Int32) ≤ p1 → (vp_in p1 80 ∧ (Post (f_signs p1.toNatClampNeg)))))))))
set_option maxHeartbeats 4000000 in
set_option maxRecDepth 100000 in
theorem c_X5_at (l : Launch) (D : va_G) (cT : Nat → ClassId) (F : Nat) (h : Nat) (p1 : Int32) (q_signs : Nat) (x_length : Int32) (f_signs : Nat → Int32) (Post : Int32 → Prop) (hg : p_X5_at F p1 x_length f_signs Post) : MRi l D cT yX5_at cX5_at 2 (some .int) 0 0 [.ref h, .int p1] [(h, oX5 (.ref q_signs) (.int x_length)), (q_signs, aC cT 80 f_signs)] Post := by
  refine MRi.of (by decide) (Nat.le_of_ble_eq_true rfl) ?_
  intro p e s m below meth c hA C0 hr hP hD hS ls hl
  have hl : lv_has ls 2 [(0, .ref h), (1, .int p1)] := hl
  have hx := C0.x
  have hb := C0.b
  have hP : va_P D cls9 [(h, oX5 (.ref q_signs) (.int x_length)), (q_signs, aC cT 80 f_signs)] s.heap := hP
  have hD : va_D (fun q => cT 6 ≤ q) [(h, oX5 (.ref q_signs) (.int x_length)), (q_signs, aC cT 80 f_signs)] := hD
  unfold p_X5_at at hg
  refine lv_iload_n hx hb dX5_at_0 rfl (lv_at hl 1 rfl) ?_
  refine lv_if_lt (tgt := 27) hx hb dX5_at_1 (by decide) (fun c_1 => ?_) (fun c_1 => ?_)
  · have hg := hg.1 c_1
    refine lv_iconst (v := (-1 : Int32)) hx hb dX5_at_27 (by decide) ?_
    exact k_xiret C0 hr hg dX5_at_28
  have hg := hg.2 c_1
  refine lv_iload_n hx hb dX5_at_4 rfl (lv_at hl 1 rfl) ?_
  refine lv_aload_n hx hb dX5_at_5 rfl (lv_at hl 0 rfl) ?_
  refine gf_X5_15 C0 hP 0 rfl rfl dX5_at_6 ?_
  refine lv_icmp_ge (tgt := 27) hx hb dX5_at_9 (by decide) (fun c_9 => ?_) (fun c_9 => ?_)
  · have hg := hg.1 c_9
    refine lv_iconst (v := (-1 : Int32)) hx hb dX5_at_27 (by decide) ?_
    exact k_xiret C0 hr hg dX5_at_28
  have hg := hg.2 c_9
  refine lv_iload_n hx hb dX5_at_12 rfl (lv_at hl 1 rfl) ?_
  refine lv_bipush (v := (80 : Int32)) hx hb dX5_at_13 (by decide) ?_
  refine lv_icmp_ge (tgt := 27) hx hb dX5_at_15 (by decide) (fun c_15 => ?_) (fun c_15 => ?_)
  · have hg := hg.1 c_15
    refine lv_iconst (v := (-1 : Int32)) hx hb dX5_at_27 (by decide) ?_
    exact k_xiret C0 hr hg dX5_at_28
  have hg := hg.2 c_15
  refine lv_aload_n hx hb dX5_at_18 rfl (lv_at hl 0 rfl) ?_
  refine gf_X5_9 C0 hP 0 rfl rfl dX5_at_19 ?_
  refine lv_iload_n hx hb dX5_at_22 rfl (lv_at hl 1 rfl) ?_
  obtain ⟨g_23, hg⟩ := hg
  refine k_cald C0 hP 1 rfl g_23 dX5_at_23 ?_
  refine lv_goto (tgt := 28) hx hb dX5_at_24 (by decide) ?_
  exact k_xiret C0 hr hg dX5_at_28
theorem dX4_takesDigit_0 : decode cX4_takesDigit 0 = .ok (.aload_n 0, 1) := by decide +kernel
theorem dX4_takesDigit_1 : decode cX4_takesDigit 1 = .ok (.getfield 42, 3) := by decide +kernel
theorem dX4_takesDigit_4 : decode cX4_takesDigit 4 = .ok (.ifCond .eq 20, 3) := by decide +kernel
theorem dX4_takesDigit_7 : decode cX4_takesDigit 7 = .ok (.aload_n 0, 1) := by decide +kernel
theorem dX4_takesDigit_8 : decode cX4_takesDigit 8 = .ok (.iload_n 1, 1) := by decide +kernel
theorem dX4_takesDigit_9 : decode cX4_takesDigit 9 = .ok (.invokevirtual 21, 3) := by decide +kernel
theorem dX4_takesDigit_12 : decode cX4_takesDigit 12 = .ok (.aload_n 0, 1) := by decide +kernel
theorem dX4_takesDigit_13 : decode cX4_takesDigit 13 = .ok (.iconst 1, 1) := by decide +kernel
theorem dX4_takesDigit_14 : decode cX4_takesDigit 14 = .ok (.putfield 61, 3) := by decide +kernel
theorem dX4_takesDigit_17 : decode cX4_takesDigit 17 = .ok (.aload_n 0, 1) := by decide +kernel
theorem dX4_takesDigit_18 : decode cX4_takesDigit 18 = .ok (.iconst 0, 1) := by decide +kernel
theorem dX4_takesDigit_19 : decode cX4_takesDigit 19 = .ok (.putfield 42, 3) := by decide +kernel
theorem dX4_takesDigit_22 : decode cX4_takesDigit 22 = .ok (.iconst 1, 1) := by decide +kernel
theorem dX4_takesDigit_23 : decode cX4_takesDigit 23 = .ok (.ireturn, 1) := by decide +kernel
theorem dX4_takesDigit_24 : decode cX4_takesDigit 24 = .ok (.aload_n 0, 1) := by decide +kernel
theorem dX4_takesDigit_25 : decode cX4_takesDigit 25 = .ok (.getfield 61, 3) := by decide +kernel
theorem dX4_takesDigit_28 : decode cX4_takesDigit 28 = .ok (.ifCond .eq 19, 3) := by decide +kernel
theorem dX4_takesDigit_31 : decode cX4_takesDigit 31 = .ok (.aload_n 0, 1) := by decide +kernel
theorem dX4_takesDigit_32 : decode cX4_takesDigit 32 = .ok (.getfield 61, 3) := by decide +kernel
theorem dX4_takesDigit_35 : decode cX4_takesDigit 35 = .ok (.iconst 3, 1) := by decide +kernel
theorem dX4_takesDigit_36 : decode cX4_takesDigit 36 = .ok (.if_icmp .eq 11, 3) := by decide +kernel
theorem dX4_takesDigit_39 : decode cX4_takesDigit 39 = .ok (.aload_n 0, 1) := by decide +kernel
theorem dX4_takesDigit_40 : decode cX4_takesDigit 40 = .ok (.getfield 52, 3) := by decide +kernel
theorem dX4_takesDigit_43 : decode cX4_takesDigit 43 = .ok (.iconst 1, 1) := by decide +kernel
theorem dX4_takesDigit_44 : decode cX4_takesDigit 44 = .ok (.if_icmp .ge 5, 3) := by decide +kernel
theorem dX4_takesDigit_47 : decode cX4_takesDigit 47 = .ok (.iconst 0, 1) := by decide +kernel
theorem dX4_takesDigit_48 : decode cX4_takesDigit 48 = .ok (.ireturn, 1) := by decide +kernel
theorem dX4_takesDigit_49 : decode cX4_takesDigit 49 = .ok (.aload_n 0, 1) := by decide +kernel
theorem dX4_takesDigit_50 : decode cX4_takesDigit 50 = .ok (.getfield 9, 3) := by decide +kernel
theorem dX4_takesDigit_53 : decode cX4_takesDigit 53 = .ok (.aload_n 0, 1) := by decide +kernel
theorem dX4_takesDigit_54 : decode cX4_takesDigit 54 = .ok (.getfield 52, 3) := by decide +kernel
theorem dX4_takesDigit_57 : decode cX4_takesDigit 57 = .ok (.iconst 1, 1) := by decide +kernel
theorem dX4_takesDigit_58 : decode cX4_takesDigit 58 = .ok (.isub, 1) := by decide +kernel
theorem dX4_takesDigit_59 : decode cX4_takesDigit 59 = .ok (.bipush 10, 2) := by decide +kernel
theorem dX4_takesDigit_61 : decode cX4_takesDigit 61 = .ok (.aload_n 0, 1) := by decide +kernel
theorem dX4_takesDigit_62 : decode cX4_takesDigit 62 = .ok (.getfield 9, 3) := by decide +kernel
theorem dX4_takesDigit_65 : decode cX4_takesDigit 65 = .ok (.aload_n 0, 1) := by decide +kernel
theorem dX4_takesDigit_66 : decode cX4_takesDigit 66 = .ok (.getfield 52, 3) := by decide +kernel
theorem dX4_takesDigit_69 : decode cX4_takesDigit 69 = .ok (.iconst 1, 1) := by decide +kernel
theorem dX4_takesDigit_70 : decode cX4_takesDigit 70 = .ok (.isub, 1) := by decide +kernel
theorem dX4_takesDigit_71 : decode cX4_takesDigit 71 = .ok (.iaload, 1) := by decide +kernel
theorem dX4_takesDigit_72 : decode cX4_takesDigit 72 = .ok (.imul, 1) := by decide +kernel
theorem dX4_takesDigit_73 : decode cX4_takesDigit 73 = .ok (.iload_n 1, 1) := by decide +kernel
theorem dX4_takesDigit_74 : decode cX4_takesDigit 74 = .ok (.iadd, 1) := by decide +kernel
theorem dX4_takesDigit_75 : decode cX4_takesDigit 75 = .ok (.iastore, 1) := by decide +kernel
theorem dX4_takesDigit_76 : decode cX4_takesDigit 76 = .ok (.aload_n 0, 1) := by decide +kernel
theorem dX4_takesDigit_77 : decode cX4_takesDigit 77 = .ok (.dup, 1) := by decide +kernel
theorem dX4_takesDigit_78 : decode cX4_takesDigit 78 = .ok (.getfield 61, 3) := by decide +kernel
theorem dX4_takesDigit_81 : decode cX4_takesDigit 81 = .ok (.iconst 1, 1) := by decide +kernel
theorem dX4_takesDigit_82 : decode cX4_takesDigit 82 = .ok (.iadd, 1) := by decide +kernel
theorem dX4_takesDigit_83 : decode cX4_takesDigit 83 = .ok (.putfield 61, 3) := by decide +kernel
theorem dX4_takesDigit_86 : decode cX4_takesDigit 86 = .ok (.iconst 1, 1) := by decide +kernel
theorem dX4_takesDigit_87 : decode cX4_takesDigit 87 = .ok (.ireturn, 1) := by decide +kernel
def p_X4_takesDigit (F : Nat) (p1 : Int32) (x_size : Int32) (x_digits : Int32) (x_wantsThing : Int32) (f_steps : Nat → Int32) (Post : Int32 → (Int32 × Int32 × Int32 × (Nat → Int32)) → Prop) : Prop := ((x_wantsThing = 0 → ((x_digits = 0 → (Post (0 : Int32) (x_size, x_digits, x_wantsThing, f_steps))) ∧ (¬ x_digits = 0 → ((x_digits = (3 : Int32) → (Post (0 : Int32) (x_size, x_digits, x_wantsThing, f_steps))) ∧ (¬ x_digits = (3 : Int32) → (((1 : Int32) ≤ x_size → (vp_in (x_size - (1 : Int32)) 40 ∧ (vp_in (x_size - (1 : Int32)) 40 ∧ (Post (1 : Int32) (x_size, (x_digits + (1 : Int32)), x_wantsThing, (upd f_steps (x_size - (1 : Int32)).toNatClampNeg (((10 : Int32) * (f_steps (x_size - (1 : Int32)).toNatClampNeg)) + p1))))))) ∧ (¬ (1 : Int32) ≤ x_size → (Post (0 : Int32) (x_size, x_digits, x_wantsThing, f_steps))))))))) ∧ (¬ x_wantsThing = 0 → (p_X4_addStep F p1 x_size f_steps (fun (u_9 : (Int32 × (Nat → Int32))) => (Post (1 : Int32) (u_9.1, (1 : Int32), (0 : Int32), u_9.2))))))
set_option maxHeartbeats 4000000 in
set_option maxRecDepth 100000 in
theorem c_X4_takesDigit (l : Launch) (D : va_G) (cT : Nat → ClassId) (F : Nat) (h : Nat) (p1 : Int32) (q_steps : Nat) (w_stack : Value) (x_size : Int32) (x_top : Int32) (x_open : Int32) (x_compared : Int32) (x_digits : Int32) (x_wantsThing : Int32) (f_steps : Nat → Int32) (Post : Int32 → (Int32 × Int32 × Int32 × (Nat → Int32)) → Prop) (hg : p_X4_takesDigit F p1 x_size x_digits x_wantsThing f_steps Post) : MWi l D cT yX4_takesDigit cX4_takesDigit 2 (some .boolean) 1 21 0 0 [.ref h, .int p1] [(h, oX4 (.ref q_steps) w_stack (.int x_size) (.int x_top) (.int x_open) (.int x_compared) (.int x_digits) (.int x_wantsThing)), (q_steps, aI cT 40 f_steps)] Post (fun (u : (Int32 × Int32 × Int32 × (Nat → Int32))) => [(h, oX4 (.ref q_steps) w_stack (.int u.1) (.int x_top) (.int x_open) (.int x_compared) (.int u.2.1) (.int u.2.2.1)), (q_steps, aI cT 40 u.2.2.2)]) := by
  refine MWi.of (by decide) (Nat.le_of_ble_eq_true rfl) ?_
  intro p e s m below meth c A hA C0 hnm hr hP hD ls hl
  have hl : lv_has ls 2 [(0, .ref h), (1, .int p1)] := hl
  have hx := C0.x
  have hb := C0.b
  have hS : va_S A s.heap s.heap [] := va_S.rf
  have hP : va_P D cls9 [(h, oX4 (.ref q_steps) w_stack (.int x_size) (.int x_top) (.int x_open) (.int x_compared) (.int x_digits) (.int x_wantsThing)), (q_steps, aI cT 40 f_steps)] s.heap := hP
  have hD : va_D A [(h, oX4 (.ref q_steps) w_stack (.int x_size) (.int x_top) (.int x_open) (.int x_compared) (.int x_digits) (.int x_wantsThing)), (q_steps, aI cT 40 f_steps)] := hD
  unfold p_X4_takesDigit at hg
  refine lv_aload_n hx hb dX4_takesDigit_0 rfl (lv_at hl 0 rfl) ?_
  refine gf_X4_42 C0 hP 0 rfl rfl dX4_takesDigit_1 ?_
  refine lv_if_eq (tgt := 24) hx hb dX4_takesDigit_4 (by decide) (fun c_4 => ?_) (fun c_4 => ?_)
  · have hg := hg.1 c_4
    refine lv_aload_n hx hb dX4_takesDigit_24 rfl (lv_at hl 0 rfl) ?_
    refine gf_X4_61 C0 hP 0 rfl rfl dX4_takesDigit_25 ?_
    refine lv_if_eq (tgt := 47) hx hb dX4_takesDigit_28 (by decide) (fun c_28 => ?_) (fun c_28 => ?_)
    · have hg := hg.1 c_28
      refine lv_iconst (v := (0 : Int32)) hx hb dX4_takesDigit_47 (by decide) ?_
      exact k_zret C0 hr (Or.inl rfl) (x_size, x_digits, x_wantsThing, f_steps) hg hP hD hS dX4_takesDigit_48
    have hg := hg.2 c_28
    refine lv_aload_n hx hb dX4_takesDigit_31 rfl (lv_at hl 0 rfl) ?_
    refine gf_X4_61 C0 hP 0 rfl rfl dX4_takesDigit_32 ?_
    refine lv_iconst (v := (3 : Int32)) hx hb dX4_takesDigit_35 (by decide) ?_
    refine lv_icmp_eq (tgt := 47) hx hb dX4_takesDigit_36 (by decide) (fun c_36 => ?_) (fun c_36 => ?_)
    · have hg := hg.1 c_36
      refine lv_iconst (v := (0 : Int32)) hx hb dX4_takesDigit_47 (by decide) ?_
      exact k_zret C0 hr (Or.inl rfl) (x_size, x_digits, x_wantsThing, f_steps) hg hP hD hS dX4_takesDigit_48
    have hg := hg.2 c_36
    refine lv_aload_n hx hb dX4_takesDigit_39 rfl (lv_at hl 0 rfl) ?_
    refine gf_X4_52 C0 hP 0 rfl rfl dX4_takesDigit_40 ?_
    refine lv_iconst (v := (1 : Int32)) hx hb dX4_takesDigit_43 (by decide) ?_
    refine lv_icmp_ge (tgt := 49) hx hb dX4_takesDigit_44 (by decide) (fun c_44 => ?_) (fun c_44 => ?_)
    · have hg := hg.1 c_44
      refine lv_aload_n hx hb dX4_takesDigit_49 rfl (lv_at hl 0 rfl) ?_
      refine gf_X4_9 C0 hP 0 rfl rfl dX4_takesDigit_50 ?_
      refine lv_aload_n hx hb dX4_takesDigit_53 rfl (lv_at hl 0 rfl) ?_
      refine gf_X4_52 C0 hP 0 rfl rfl dX4_takesDigit_54 ?_
      refine lv_iconst (v := (1 : Int32)) hx hb dX4_takesDigit_57 (by decide) ?_
      refine lv_isub hx hb dX4_takesDigit_58 ?_
      refine lv_bipush (v := (10 : Int32)) hx hb dX4_takesDigit_59 (by decide) ?_
      refine lv_aload_n hx hb dX4_takesDigit_61 rfl (lv_at hl 0 rfl) ?_
      refine gf_X4_9 C0 hP 0 rfl rfl dX4_takesDigit_62 ?_
      refine lv_aload_n hx hb dX4_takesDigit_65 rfl (lv_at hl 0 rfl) ?_
      refine gf_X4_52 C0 hP 0 rfl rfl dX4_takesDigit_66 ?_
      refine lv_iconst (v := (1 : Int32)) hx hb dX4_takesDigit_69 (by decide) ?_
      refine lv_isub hx hb dX4_takesDigit_70 ?_
      obtain ⟨g_71, hg⟩ := hg
      refine k_iald C0 hP 1 rfl g_71 dX4_takesDigit_71 ?_
      refine lv_imul hx hb dX4_takesDigit_72 ?_
      refine lv_iload_n hx hb dX4_takesDigit_73 rfl (lv_at hl 1 rfl) ?_
      refine lv_iadd hx hb dX4_takesDigit_74 ?_
      obtain ⟨g_75, hg⟩ := hg
      refine k_iast C0 hP hD hS 1 rfl g_75 (ws' := [(h, oX4 (.ref q_steps) w_stack (.int x_size) (.int x_top) (.int x_open) (.int x_compared) (.int x_digits) (.int x_wantsThing)), (q_steps, aI cT 40 (upd f_steps (x_size - (1 : Int32)).toNatClampNeg (((10 : Int32) * (f_steps (x_size - (1 : Int32)).toNatClampNeg)) + p1)))]) rfl dX4_takesDigit_75 (fun H locs hP hD hS => ?_)
      refine lv_aload_n hx hb dX4_takesDigit_76 rfl (lv_at hl 0 rfl) ?_
      refine lv_dup hx hb dX4_takesDigit_77 rfl ?_
      refine gf_X4_61 C0 hP 0 rfl rfl dX4_takesDigit_78 ?_
      refine lv_iconst (v := (1 : Int32)) hx hb dX4_takesDigit_81 (by decide) ?_
      refine lv_iadd hx hb dX4_takesDigit_82 ?_
      refine pf_X4_61 C0 hP hD hS 0 rfl (Nat.le_of_ble_eq_true rfl) (ws2 := [(h, oX4 (.ref q_steps) w_stack (.int x_size) (.int x_top) (.int x_open) (.int x_compared) (.int (x_digits + (1 : Int32))) (.int x_wantsThing)), (q_steps, aI cT 40 (upd f_steps (x_size - (1 : Int32)).toNatClampNeg (((10 : Int32) * (f_steps (x_size - (1 : Int32)).toNatClampNeg)) + p1)))]) rfl dX4_takesDigit_83 (fun H locs hP hD hS => ?_)
      refine lv_iconst (v := (1 : Int32)) hx hb dX4_takesDigit_86 (by decide) ?_
      exact k_zret C0 hr (Or.inr rfl) (x_size, (x_digits + (1 : Int32)), x_wantsThing, (upd f_steps (x_size - (1 : Int32)).toNatClampNeg (((10 : Int32) * (f_steps (x_size - (1 : Int32)).toNatClampNeg)) + p1))) hg hP hD hS dX4_takesDigit_87
    have hg := hg.2 c_44
    refine lv_iconst (v := (0 : Int32)) hx hb dX4_takesDigit_47 (by decide) ?_
    exact k_zret C0 hr (Or.inl rfl) (x_size, x_digits, x_wantsThing, f_steps) hg hP hD hS dX4_takesDigit_48
  have hg := hg.2 c_4
  refine lv_aload_n hx hb dX4_takesDigit_7 rfl (lv_at hl 0 rfl) ?_
  refine lv_iload_n hx hb dX4_takesDigit_8 rfl (lv_at hl 1 rfl) ?_
  refine k_Vv (rest := []) (wr := []) (w2 := fun u_9 => [(h, oX4 (.ref q_steps) w_stack (.int u_9.1) (.int x_top) (.int x_open) (.int x_compared) (.int x_digits) (.int x_wantsThing)), (q_steps, aI cT 40 u_9.2)]) C0 lk_X4_21 (c_X4_addStep l D cT F h p1 q_steps w_stack x_size x_top x_open x_compared x_digits x_wantsThing f_steps _ hg) hP hD hS hA [0, 1] [] (by decide +kernel) rfl rfl (fun _ => rfl) rfl rfl ⟨Nat.le_of_ble_eq_true rfl, Nat.le_of_ble_eq_true rfl⟩ rfl hl.1 rfl (Nat.le_of_ble_eq_true rfl) dX4_takesDigit_9 ⟨Nat.le_of_ble_eq_true rfl, Nat.le_of_ble_eq_true rfl⟩ ?_
  intro u_9 H locs hg hP hD hS
  refine lv_aload_n hx hb dX4_takesDigit_12 rfl (lv_at hl 0 rfl) ?_
  refine lv_iconst (v := (1 : Int32)) hx hb dX4_takesDigit_13 (by decide) ?_
  refine pf_X4_61 C0 hP hD hS 0 rfl (Nat.le_of_ble_eq_true rfl) (ws2 := [(h, oX4 (.ref q_steps) w_stack (.int u_9.1) (.int x_top) (.int x_open) (.int x_compared) (.int (1 : Int32)) (.int x_wantsThing)), (q_steps, aI cT 40 u_9.2)]) rfl dX4_takesDigit_14 (fun H locs hP hD hS => ?_)
  refine lv_aload_n hx hb dX4_takesDigit_17 rfl (lv_at hl 0 rfl) ?_
  refine lv_iconst (v := (0 : Int32)) hx hb dX4_takesDigit_18 (by decide) ?_
  refine pf_X4_42 C0 hP hD hS 0 rfl (Nat.le_of_ble_eq_true rfl) (Or.inl rfl) (ws2 := [(h, oX4 (.ref q_steps) w_stack (.int u_9.1) (.int x_top) (.int x_open) (.int x_compared) (.int (1 : Int32)) (.int (0 : Int32))), (q_steps, aI cT 40 u_9.2)]) rfl dX4_takesDigit_19 (fun H locs hP hD hS => ?_)
  refine lv_iconst (v := (1 : Int32)) hx hb dX4_takesDigit_22 (by decide) ?_
  exact k_zret C0 hr (Or.inr rfl) (u_9.1, (1 : Int32), (0 : Int32), u_9.2) hg hP hD hS dX4_takesDigit_23
theorem dX4_push_0 : decode cX4_push 0 = .ok (.aload_n 0, 1) := by decide +kernel
theorem dX4_push_1 : decode cX4_push 1 = .ok (.getfield 55, 3) := by decide +kernel
theorem dX4_push_4 : decode cX4_push 4 = .ok (.bipush 40, 2) := by decide +kernel
theorem dX4_push_6 : decode cX4_push 6 = .ok (.if_icmp .ge 23, 3) := by decide +kernel
theorem dX4_push_9 : decode cX4_push 9 = .ok (.aload_n 0, 1) := by decide +kernel
theorem dX4_push_10 : decode cX4_push 10 = .ok (.getfield 15, 3) := by decide +kernel
theorem dX4_push_13 : decode cX4_push 13 = .ok (.aload_n 0, 1) := by decide +kernel
theorem dX4_push_14 : decode cX4_push 14 = .ok (.getfield 55, 3) := by decide +kernel
theorem dX4_push_17 : decode cX4_push 17 = .ok (.iload_n 1, 1) := by decide +kernel
theorem dX4_push_18 : decode cX4_push 18 = .ok (.iastore, 1) := by decide +kernel
theorem dX4_push_19 : decode cX4_push 19 = .ok (.aload_n 0, 1) := by decide +kernel
theorem dX4_push_20 : decode cX4_push 20 = .ok (.dup, 1) := by decide +kernel
theorem dX4_push_21 : decode cX4_push 21 = .ok (.getfield 55, 3) := by decide +kernel
theorem dX4_push_24 : decode cX4_push 24 = .ok (.iconst 1, 1) := by decide +kernel
theorem dX4_push_25 : decode cX4_push 25 = .ok (.iadd, 1) := by decide +kernel
theorem dX4_push_26 : decode cX4_push 26 = .ok (.putfield 55, 3) := by decide +kernel
theorem dX4_push_29 : decode cX4_push 29 = .ok (.return_, 1) := by decide +kernel
def p_X4_push (F : Nat) (p1 : Int32) (x_top : Int32) (f_stack : Nat → Int32) (Post : (Int32 × (Nat → Int32)) → Prop) : Prop := (((40 : Int32) ≤ x_top → (Post (x_top, f_stack))) ∧ (¬ (40 : Int32) ≤ x_top → (vp_in x_top 40 ∧ (Post ((x_top + (1 : Int32)), (upd f_stack x_top.toNatClampNeg p1))))))
set_option maxHeartbeats 4000000 in
set_option maxRecDepth 100000 in
theorem c_X4_push (l : Launch) (D : va_G) (cT : Nat → ClassId) (F : Nat) (h : Nat) (p1 : Int32) (w_steps : Value) (q_stack : Nat) (x_size : Int32) (x_top : Int32) (x_open : Int32) (x_compared : Int32) (x_digits : Int32) (x_wantsThing : Int32) (f_stack : Nat → Int32) (Post : (Int32 × (Nat → Int32)) → Prop) (hg : p_X4_push F p1 x_top f_stack Post) : MWv l D cT yX4_push cX4_push 2 none 0 0 0 0 [.ref h, .int p1] [(h, oX4 w_steps (.ref q_stack) (.int x_size) (.int x_top) (.int x_open) (.int x_compared) (.int x_digits) (.int x_wantsThing)), (q_stack, aI cT 40 f_stack)] Post (fun (u : (Int32 × (Nat → Int32))) => [(h, oX4 w_steps (.ref q_stack) (.int x_size) (.int u.1) (.int x_open) (.int x_compared) (.int x_digits) (.int x_wantsThing)), (q_stack, aI cT 40 u.2)]) := by
  refine MWv.of (by decide) (Nat.le_of_ble_eq_true rfl) ?_
  intro p e s m below meth c A hA C0 hnm hr hP hD ls hl
  have hl : lv_has ls 2 [(0, .ref h), (1, .int p1)] := hl
  have hx := C0.x
  have hb := C0.b
  have hS : va_S A s.heap s.heap [] := va_S.rf
  have hP : va_P D cls9 [(h, oX4 w_steps (.ref q_stack) (.int x_size) (.int x_top) (.int x_open) (.int x_compared) (.int x_digits) (.int x_wantsThing)), (q_stack, aI cT 40 f_stack)] s.heap := hP
  have hD : va_D A [(h, oX4 w_steps (.ref q_stack) (.int x_size) (.int x_top) (.int x_open) (.int x_compared) (.int x_digits) (.int x_wantsThing)), (q_stack, aI cT 40 f_stack)] := hD
  unfold p_X4_push at hg
  refine lv_aload_n hx hb dX4_push_0 rfl (lv_at hl 0 rfl) ?_
  refine gf_X4_55 C0 hP 0 rfl rfl dX4_push_1 ?_
  refine lv_bipush (v := (40 : Int32)) hx hb dX4_push_4 (by decide) ?_
  refine lv_icmp_ge (tgt := 29) hx hb dX4_push_6 (by decide) (fun c_6 => ?_) (fun c_6 => ?_)
  · have hg := hg.1 c_6
    exact k_vret C0 hr (x_top, f_stack) hg hP hD hS dX4_push_29
  have hg := hg.2 c_6
  refine lv_aload_n hx hb dX4_push_9 rfl (lv_at hl 0 rfl) ?_
  refine gf_X4_15 C0 hP 0 rfl rfl dX4_push_10 ?_
  refine lv_aload_n hx hb dX4_push_13 rfl (lv_at hl 0 rfl) ?_
  refine gf_X4_55 C0 hP 0 rfl rfl dX4_push_14 ?_
  refine lv_iload_n hx hb dX4_push_17 rfl (lv_at hl 1 rfl) ?_
  obtain ⟨g_18, hg⟩ := hg
  refine k_iast C0 hP hD hS 1 rfl g_18 (ws' := [(h, oX4 w_steps (.ref q_stack) (.int x_size) (.int x_top) (.int x_open) (.int x_compared) (.int x_digits) (.int x_wantsThing)), (q_stack, aI cT 40 (upd f_stack x_top.toNatClampNeg p1))]) rfl dX4_push_18 (fun H locs hP hD hS => ?_)
  refine lv_aload_n hx hb dX4_push_19 rfl (lv_at hl 0 rfl) ?_
  refine lv_dup hx hb dX4_push_20 rfl ?_
  refine gf_X4_55 C0 hP 0 rfl rfl dX4_push_21 ?_
  refine lv_iconst (v := (1 : Int32)) hx hb dX4_push_24 (by decide) ?_
  refine lv_iadd hx hb dX4_push_25 ?_
  refine pf_X4_55 C0 hP hD hS 0 rfl (Nat.le_of_ble_eq_true rfl) (ws2 := [(h, oX4 w_steps (.ref q_stack) (.int x_size) (.int (x_top + (1 : Int32))) (.int x_open) (.int x_compared) (.int x_digits) (.int x_wantsThing)), (q_stack, aI cT 40 (upd f_stack x_top.toNatClampNeg p1))]) rfl dX4_push_26 (fun H locs hP hD hS => ?_)
  exact k_vret C0 hr ((x_top + (1 : Int32)), (upd f_stack x_top.toNatClampNeg p1)) hg hP hD hS dX4_push_29
theorem dX4_takesThing_0 : decode cX4_takesThing 0 = .ok (.iload_n 1, 1) := by decide +kernel
theorem dX4_takesThing_1 : decode cX4_takesThing 1 = .ok (.lookupswitch 150 #[(40, 92), (45, 83), (98, 137), (103, 137), (106, 137), (107, 137), (108, 137), (110, 137), (115, 137)], 83) := by decide +kernel
theorem dX4_takesThing_84 : decode cX4_takesThing 84 = .ok (.aload_n 0, 1) := by decide +kernel
theorem dX4_takesThing_85 : decode cX4_takesThing 85 = .ok (.sipush 256, 3) := by decide +kernel
theorem dX4_takesThing_88 : decode cX4_takesThing 88 = .ok (.invokevirtual 73, 3) := by decide +kernel
theorem dX4_takesThing_91 : decode cX4_takesThing 91 = .ok (.iconst 1, 1) := by decide +kernel
theorem dX4_takesThing_92 : decode cX4_takesThing 92 = .ok (.ireturn, 1) := by decide +kernel
theorem dX4_takesThing_93 : decode cX4_takesThing 93 = .ok (.aload_n 0, 1) := by decide +kernel
theorem dX4_takesThing_94 : decode cX4_takesThing 94 = .ok (.getfield 46, 3) := by decide +kernel
theorem dX4_takesThing_97 : decode cX4_takesThing 97 = .ok (.iconst 4, 1) := by decide +kernel
theorem dX4_takesThing_98 : decode cX4_takesThing 98 = .ok (.if_icmp .ne 5, 3) := by decide +kernel
theorem dX4_takesThing_101 : decode cX4_takesThing 101 = .ok (.iconst 0, 1) := by decide +kernel
theorem dX4_takesThing_102 : decode cX4_takesThing 102 = .ok (.ireturn, 1) := by decide +kernel
theorem dX4_takesThing_103 : decode cX4_takesThing 103 = .ok (.aload_n 0, 1) := by decide +kernel
theorem dX4_takesThing_104 : decode cX4_takesThing 104 = .ok (.dup, 1) := by decide +kernel
theorem dX4_takesThing_105 : decode cX4_takesThing 105 = .ok (.getfield 46, 3) := by decide +kernel
theorem dX4_takesThing_108 : decode cX4_takesThing 108 = .ok (.iconst 1, 1) := by decide +kernel
theorem dX4_takesThing_109 : decode cX4_takesThing 109 = .ok (.iadd, 1) := by decide +kernel
theorem dX4_takesThing_110 : decode cX4_takesThing 110 = .ok (.putfield 46, 3) := by decide +kernel
theorem dX4_takesThing_113 : decode cX4_takesThing 113 = .ok (.aload_n 0, 1) := by decide +kernel
theorem dX4_takesThing_114 : decode cX4_takesThing 114 = .ok (.dup, 1) := by decide +kernel
theorem dX4_takesThing_115 : decode cX4_takesThing 115 = .ok (.getfield 58, 3) := by decide +kernel
theorem dX4_takesThing_118 : decode cX4_takesThing 118 = .ok (.iconst 1, 1) := by decide +kernel
theorem dX4_takesThing_119 : decode cX4_takesThing 119 = .ok (.aload_n 0, 1) := by decide +kernel
theorem dX4_takesThing_120 : decode cX4_takesThing 120 = .ok (.getfield 46, 3) := by decide +kernel
theorem dX4_takesThing_123 : decode cX4_takesThing 123 = .ok (.ishl, 1) := by decide +kernel
theorem dX4_takesThing_124 : decode cX4_takesThing 124 = .ok (.iconst (-1), 1) := by decide +kernel
theorem dX4_takesThing_125 : decode cX4_takesThing 125 = .ok (.ixor, 1) := by decide +kernel
theorem dX4_takesThing_126 : decode cX4_takesThing 126 = .ok (.iand, 1) := by decide +kernel
theorem dX4_takesThing_127 : decode cX4_takesThing 127 = .ok (.putfield 58, 3) := by decide +kernel
theorem dX4_takesThing_130 : decode cX4_takesThing 130 = .ok (.aload_n 0, 1) := by decide +kernel
theorem dX4_takesThing_131 : decode cX4_takesThing 131 = .ok (.bipush 40, 2) := by decide +kernel
theorem dX4_takesThing_133 : decode cX4_takesThing 133 = .ok (.invokevirtual 73, 3) := by decide +kernel
theorem dX4_takesThing_136 : decode cX4_takesThing 136 = .ok (.iconst 1, 1) := by decide +kernel
theorem dX4_takesThing_137 : decode cX4_takesThing 137 = .ok (.ireturn, 1) := by decide +kernel
theorem dX4_takesThing_138 : decode cX4_takesThing 138 = .ok (.aload_n 0, 1) := by decide +kernel
theorem dX4_takesThing_139 : decode cX4_takesThing 139 = .ok (.iload_n 1, 1) := by decide +kernel
theorem dX4_takesThing_140 : decode cX4_takesThing 140 = .ok (.ineg, 1) := by decide +kernel
theorem dX4_takesThing_141 : decode cX4_takesThing 141 = .ok (.invokevirtual 21, 3) := by decide +kernel
theorem dX4_takesThing_144 : decode cX4_takesThing 144 = .ok (.aload_n 0, 1) := by decide +kernel
theorem dX4_takesThing_145 : decode cX4_takesThing 145 = .ok (.iconst 0, 1) := by decide +kernel
theorem dX4_takesThing_146 : decode cX4_takesThing 146 = .ok (.putfield 42, 3) := by decide +kernel
theorem dX4_takesThing_149 : decode cX4_takesThing 149 = .ok (.iconst 1, 1) := by decide +kernel
theorem dX4_takesThing_150 : decode cX4_takesThing 150 = .ok (.ireturn, 1) := by decide +kernel
theorem dX4_takesThing_151 : decode cX4_takesThing 151 = .ok (.iconst 0, 1) := by decide +kernel
theorem dX4_takesThing_152 : decode cX4_takesThing 152 = .ok (.ireturn, 1) := by decide +kernel
def p_X4_takesThing (F : Nat) (p1 : Int32) (x_size : Int32) (x_top : Int32) (x_open : Int32) (x_compared : Int32) (x_wantsThing : Int32) (f_steps : Nat → Int32) (f_stack : Nat → Int32) (Post : Int32 → (Int32 × Int32 × Int32 × Int32 × Int32 × (Nat → Int32) × (Nat → Int32)) → Prop) : Prop := ((p1 = (40 : Int32) → ((¬ x_open = (4 : Int32) → (p_X4_push F (40 : Int32) x_top f_stack (fun (u_133 : (Int32 × (Nat → Int32))) => (Post (1 : Int32) (x_size, u_133.1, (x_open + (1 : Int32)), (x_compared &&& (((1 : Int32) <<< ((x_open + (1 : Int32)) &&& 31)) ^^^ (-1 : Int32))), x_wantsThing, f_steps, u_133.2))))) ∧ (x_open = (4 : Int32) → (Post (0 : Int32) (x_size, x_top, x_open, x_compared, x_wantsThing, f_steps, f_stack))))) ∧ (¬ p1 = (40 : Int32) → ((p1 = (45 : Int32) → (p_X4_push F (256 : Int32) x_top f_stack (fun (u_88 : (Int32 × (Nat → Int32))) => (Post (1 : Int32) (x_size, u_88.1, x_open, x_compared, x_wantsThing, f_steps, u_88.2))))) ∧ (¬ p1 = (45 : Int32) → ((p1 = (98 : Int32) → (p_X4_addStep F (-p1) x_size f_steps (fun (u_141 : (Int32 × (Nat → Int32))) => (Post (1 : Int32) (u_141.1, x_top, x_open, x_compared, (0 : Int32), u_141.2, f_stack))))) ∧ (¬ p1 = (98 : Int32) → ((p1 = (103 : Int32) → (p_X4_addStep F (-p1) x_size f_steps (fun (u_141 : (Int32 × (Nat → Int32))) => (Post (1 : Int32) (u_141.1, x_top, x_open, x_compared, (0 : Int32), u_141.2, f_stack))))) ∧ (¬ p1 = (103 : Int32) → ((p1 = (106 : Int32) → (p_X4_addStep F (-p1) x_size f_steps (fun (u_141 : (Int32 × (Nat → Int32))) => (Post (1 : Int32) (u_141.1, x_top, x_open, x_compared, (0 : Int32), u_141.2, f_stack))))) ∧ (¬ p1 = (106 : Int32) → ((p1 = (107 : Int32) → (p_X4_addStep F (-p1) x_size f_steps (fun (u_141 : (Int32 × (Nat → Int32))) => (Post (1 : Int32) (u_141.1, x_top, x_open, x_compared, (0 : Int32), u_141.2, f_stack))))) ∧ (¬ p1 = (107 : Int32) → ((p1 = (108 : Int32) → (p_X4_addStep F (-p1) x_size f_steps (fun (u_141 : (Int32 × (Nat → Int32))) => (Post (1 : Int32) (u_141.1, x_top, x_open, x_compared, (0 : Int32), u_141.2, f_stack))))) ∧ (¬ p1 = (108 : Int32) → ((p1 = (110 : Int32) → (p_X4_addStep F (-p1) x_size f_steps (fun (u_141 : (Int32 × (Nat → Int32))) => (Post (1 : Int32) (u_141.1, x_top, x_open, x_compared, (0 : Int32), u_141.2, f_stack))))) ∧ (¬ p1 = (110 : Int32) → ((p1 = (115 : Int32) → (p_X4_addStep F (-p1) x_size f_steps (fun (u_141 : (Int32 × (Nat → Int32))) => (Post (1 : Int32) (u_141.1, x_top, x_open, x_compared, (0 : Int32), u_141.2, f_stack))))) ∧ (¬ p1 = (115 : Int32) → (Post (0 : Int32) (x_size, x_top, x_open, x_compared, x_wantsThing, f_steps, f_stack))))))))))))))))))))
set_option maxHeartbeats 4000000 in
set_option maxRecDepth 100000 in
theorem c_X4_takesThing (l : Launch) (D : va_G) (cT : Nat → ClassId) (F : Nat) (h : Nat) (p1 : Int32) (q_steps : Nat) (q_stack : Nat) (x_size : Int32) (x_top : Int32) (x_open : Int32) (x_compared : Int32) (x_digits : Int32) (x_wantsThing : Int32) (f_steps : Nat → Int32) (f_stack : Nat → Int32) (Post : Int32 → (Int32 × Int32 × Int32 × Int32 × Int32 × (Nat → Int32) × (Nat → Int32)) → Prop) (hg : p_X4_takesThing F p1 x_size x_top x_open x_compared x_wantsThing f_steps f_stack Post) : MWi l D cT yX4_takesThing cX4_takesThing 2 (some .boolean) 1 21 0 0 [.ref h, .int p1] [(h, oX4 (.ref q_steps) (.ref q_stack) (.int x_size) (.int x_top) (.int x_open) (.int x_compared) (.int x_digits) (.int x_wantsThing)), (q_steps, aI cT 40 f_steps), (q_stack, aI cT 40 f_stack)] Post (fun (u : (Int32 × Int32 × Int32 × Int32 × Int32 × (Nat → Int32) × (Nat → Int32))) => [(h, oX4 (.ref q_steps) (.ref q_stack) (.int u.1) (.int u.2.1) (.int u.2.2.1) (.int u.2.2.2.1) (.int x_digits) (.int u.2.2.2.2.1)), (q_steps, aI cT 40 u.2.2.2.2.2.1), (q_stack, aI cT 40 u.2.2.2.2.2.2)]) := by
  refine MWi.of (by decide) (Nat.le_of_ble_eq_true rfl) ?_
  intro p e s m below meth c A hA C0 hnm hr hP hD ls hl
  have hl : lv_has ls 2 [(0, .ref h), (1, .int p1)] := hl
  have hx := C0.x
  have hb := C0.b
  have hS : va_S A s.heap s.heap [] := va_S.rf
  have hP : va_P D cls9 [(h, oX4 (.ref q_steps) (.ref q_stack) (.int x_size) (.int x_top) (.int x_open) (.int x_compared) (.int x_digits) (.int x_wantsThing)), (q_steps, aI cT 40 f_steps), (q_stack, aI cT 40 f_stack)] s.heap := hP
  have hD : va_D A [(h, oX4 (.ref q_steps) (.ref q_stack) (.int x_size) (.int x_top) (.int x_open) (.int x_compared) (.int x_digits) (.int x_wantsThing)), (q_steps, aI cT 40 f_steps), (q_stack, aI cT 40 f_stack)] := hD
  unfold p_X4_takesThing at hg
  refine lv_iload_n hx hb dX4_takesThing_0 rfl (lv_at hl 1 rfl) ?_
  rcases Classical.em (p1 = (40 : Int32)) with c_1_40 | c_1_40
  · have hg := hg.1 c_1_40
    refine lv_lookup (off := 92) (tgt := 93) hx hb dX4_takesThing_1 (by decide) (by rw [c_1_40]; decide) (by decide) ?_
    refine lv_aload_n hx hb dX4_takesThing_93 rfl (lv_at hl 0 rfl) ?_
    refine gf_X4_46 C0 hP 0 rfl rfl dX4_takesThing_94 ?_
    refine lv_iconst (v := (4 : Int32)) hx hb dX4_takesThing_97 (by decide) ?_
    refine lv_icmp_ne (tgt := 103) hx hb dX4_takesThing_98 (by decide) (fun c_98 => ?_) (fun c_98 => ?_)
    · have hg := hg.1 c_98
      refine lv_aload_n hx hb dX4_takesThing_103 rfl (lv_at hl 0 rfl) ?_
      refine lv_dup hx hb dX4_takesThing_104 rfl ?_
      refine gf_X4_46 C0 hP 0 rfl rfl dX4_takesThing_105 ?_
      refine lv_iconst (v := (1 : Int32)) hx hb dX4_takesThing_108 (by decide) ?_
      refine lv_iadd hx hb dX4_takesThing_109 ?_
      refine pf_X4_46 C0 hP hD hS 0 rfl (Nat.le_of_ble_eq_true rfl) (ws2 := [(h, oX4 (.ref q_steps) (.ref q_stack) (.int x_size) (.int x_top) (.int (x_open + (1 : Int32))) (.int x_compared) (.int x_digits) (.int x_wantsThing)), (q_steps, aI cT 40 f_steps), (q_stack, aI cT 40 f_stack)]) rfl dX4_takesThing_110 (fun H locs hP hD hS => ?_)
      refine lv_aload_n hx hb dX4_takesThing_113 rfl (lv_at hl 0 rfl) ?_
      refine lv_dup hx hb dX4_takesThing_114 rfl ?_
      refine gf_X4_58 C0 hP 0 rfl rfl dX4_takesThing_115 ?_
      refine lv_iconst (v := (1 : Int32)) hx hb dX4_takesThing_118 (by decide) ?_
      refine lv_aload_n hx hb dX4_takesThing_119 rfl (lv_at hl 0 rfl) ?_
      refine gf_X4_46 C0 hP 0 rfl rfl dX4_takesThing_120 ?_
      refine lv_ishl hx hb dX4_takesThing_123 ?_
      refine lv_iconst (v := (-1 : Int32)) hx hb dX4_takesThing_124 (by decide) ?_
      refine lv_ixor hx hb dX4_takesThing_125 ?_
      refine lv_iand hx hb dX4_takesThing_126 ?_
      refine pf_X4_58 C0 hP hD hS 0 rfl (Nat.le_of_ble_eq_true rfl) (ws2 := [(h, oX4 (.ref q_steps) (.ref q_stack) (.int x_size) (.int x_top) (.int (x_open + (1 : Int32))) (.int (x_compared &&& (((1 : Int32) <<< ((x_open + (1 : Int32)) &&& 31)) ^^^ (-1 : Int32)))) (.int x_digits) (.int x_wantsThing)), (q_steps, aI cT 40 f_steps), (q_stack, aI cT 40 f_stack)]) rfl dX4_takesThing_127 (fun H locs hP hD hS => ?_)
      refine lv_aload_n hx hb dX4_takesThing_130 rfl (lv_at hl 0 rfl) ?_
      refine lv_bipush (v := (40 : Int32)) hx hb dX4_takesThing_131 (by decide) ?_
      refine k_Vv (rest := []) (wr := [(q_steps, aI cT 40 f_steps)]) (w2 := fun u_133 => [(q_steps, aI cT 40 f_steps), (h, oX4 (.ref q_steps) (.ref q_stack) (.int x_size) (.int u_133.1) (.int (x_open + (1 : Int32))) (.int (x_compared &&& (((1 : Int32) <<< ((x_open + (1 : Int32)) &&& 31)) ^^^ (-1 : Int32)))) (.int x_digits) (.int x_wantsThing)), (q_stack, aI cT 40 u_133.2)]) C0 lk_X4_73 (c_X4_push l D cT F h (40 : Int32) (.ref q_steps) q_stack x_size x_top (x_open + (1 : Int32)) (x_compared &&& (((1 : Int32) <<< ((x_open + (1 : Int32)) &&& 31)) ^^^ (-1 : Int32))) x_digits x_wantsThing f_stack _ hg) hP hD hS hA [0, 2] [1] (by decide +kernel) rfl rfl (fun _ => rfl) rfl rfl ⟨Nat.le_of_ble_eq_true rfl, Nat.le_of_ble_eq_true rfl⟩ rfl hl.1 rfl (Nat.le_of_ble_eq_true rfl) dX4_takesThing_133 ⟨Nat.le_of_ble_eq_true rfl, Nat.le_of_ble_eq_true rfl⟩ ?_
      intro u_133 H locs hg hP hD hS
      refine lv_iconst (v := (1 : Int32)) hx hb dX4_takesThing_136 (by decide) ?_
      exact k_zret C0 hr (Or.inr rfl) (x_size, u_133.1, (x_open + (1 : Int32)), (x_compared &&& (((1 : Int32) <<< ((x_open + (1 : Int32)) &&& 31)) ^^^ (-1 : Int32))), x_wantsThing, f_steps, u_133.2) hg (subP hP [1, 0, 2] rfl) (hD.sub [1, 0, 2] (nd2_ok _ (by decide +kernel)) rfl) hS dX4_takesThing_137
    have hg := hg.2 c_98
    refine lv_iconst (v := (0 : Int32)) hx hb dX4_takesThing_101 (by decide) ?_
    exact k_zret C0 hr (Or.inl rfl) (x_size, x_top, x_open, x_compared, x_wantsThing, f_steps, f_stack) hg hP hD hS dX4_takesThing_102
  have hg := hg.2 c_1_40
  rcases Classical.em (p1 = (45 : Int32)) with c_1_45 | c_1_45
  · have hg := hg.1 c_1_45
    refine lv_lookup (off := 83) (tgt := 84) hx hb dX4_takesThing_1 (by decide) (by rw [c_1_45]; decide) (by decide) ?_
    refine lv_aload_n hx hb dX4_takesThing_84 rfl (lv_at hl 0 rfl) ?_
    refine lv_sipush (v := (256 : Int32)) hx hb dX4_takesThing_85 (by decide) ?_
    refine k_Vv (rest := []) (wr := [(q_steps, aI cT 40 f_steps)]) (w2 := fun u_88 => [(q_steps, aI cT 40 f_steps), (h, oX4 (.ref q_steps) (.ref q_stack) (.int x_size) (.int u_88.1) (.int x_open) (.int x_compared) (.int x_digits) (.int x_wantsThing)), (q_stack, aI cT 40 u_88.2)]) C0 lk_X4_73 (c_X4_push l D cT F h (256 : Int32) (.ref q_steps) q_stack x_size x_top x_open x_compared x_digits x_wantsThing f_stack _ hg) hP hD hS hA [0, 2] [1] (by decide +kernel) rfl rfl (fun _ => rfl) rfl rfl ⟨Nat.le_of_ble_eq_true rfl, Nat.le_of_ble_eq_true rfl⟩ rfl hl.1 rfl (Nat.le_of_ble_eq_true rfl) dX4_takesThing_88 ⟨Nat.le_of_ble_eq_true rfl, Nat.le_of_ble_eq_true rfl⟩ ?_
    intro u_88 H locs hg hP hD hS
    refine lv_iconst (v := (1 : Int32)) hx hb dX4_takesThing_91 (by decide) ?_
    exact k_zret C0 hr (Or.inr rfl) (x_size, u_88.1, x_open, x_compared, x_wantsThing, f_steps, u_88.2) hg (subP hP [1, 0, 2] rfl) (hD.sub [1, 0, 2] (nd2_ok _ (by decide +kernel)) rfl) hS dX4_takesThing_92
  have hg := hg.2 c_1_45
  rcases Classical.em (p1 = (98 : Int32)) with c_1_98 | c_1_98
  · have hg := hg.1 c_1_98
    refine lv_lookup (off := 137) (tgt := 138) hx hb dX4_takesThing_1 (by decide) (by rw [c_1_98]; decide) (by decide) ?_
    refine lv_aload_n hx hb dX4_takesThing_138 rfl (lv_at hl 0 rfl) ?_
    refine lv_iload_n hx hb dX4_takesThing_139 rfl (lv_at hl 1 rfl) ?_
    refine lv_ineg hx hb dX4_takesThing_140 ?_
    refine k_Vv (rest := []) (wr := [(q_stack, aI cT 40 f_stack)]) (w2 := fun u_141 => [(q_stack, aI cT 40 f_stack), (h, oX4 (.ref q_steps) (.ref q_stack) (.int u_141.1) (.int x_top) (.int x_open) (.int x_compared) (.int x_digits) (.int x_wantsThing)), (q_steps, aI cT 40 u_141.2)]) C0 lk_X4_21 (c_X4_addStep l D cT F h (-p1) q_steps (.ref q_stack) x_size x_top x_open x_compared x_digits x_wantsThing f_steps _ hg) hP hD hS hA [0, 1] [2] (by decide +kernel) rfl rfl (fun _ => rfl) rfl rfl ⟨Nat.le_of_ble_eq_true rfl, Nat.le_of_ble_eq_true rfl⟩ rfl hl.1 rfl (Nat.le_of_ble_eq_true rfl) dX4_takesThing_141 ⟨Nat.le_of_ble_eq_true rfl, Nat.le_of_ble_eq_true rfl⟩ ?_
    intro u_141 H locs hg hP hD hS
    refine lv_aload_n hx hb dX4_takesThing_144 rfl (lv_at hl 0 rfl) ?_
    refine lv_iconst (v := (0 : Int32)) hx hb dX4_takesThing_145 (by decide) ?_
    refine pf_X4_42 C0 hP hD hS 1 rfl (Nat.le_of_ble_eq_true rfl) (Or.inl rfl) (ws2 := [(q_stack, aI cT 40 f_stack), (h, oX4 (.ref q_steps) (.ref q_stack) (.int u_141.1) (.int x_top) (.int x_open) (.int x_compared) (.int x_digits) (.int (0 : Int32))), (q_steps, aI cT 40 u_141.2)]) rfl dX4_takesThing_146 (fun H locs hP hD hS => ?_)
    refine lv_iconst (v := (1 : Int32)) hx hb dX4_takesThing_149 (by decide) ?_
    exact k_zret C0 hr (Or.inr rfl) (u_141.1, x_top, x_open, x_compared, (0 : Int32), u_141.2, f_stack) hg (subP hP [1, 2, 0] rfl) (hD.sub [1, 2, 0] (nd2_ok _ (by decide +kernel)) rfl) hS dX4_takesThing_150
  have hg := hg.2 c_1_98
  rcases Classical.em (p1 = (103 : Int32)) with c_1_103 | c_1_103
  · have hg := hg.1 c_1_103
    refine lv_lookup (off := 137) (tgt := 138) hx hb dX4_takesThing_1 (by decide) (by rw [c_1_103]; decide) (by decide) ?_
    refine lv_aload_n hx hb dX4_takesThing_138 rfl (lv_at hl 0 rfl) ?_
    refine lv_iload_n hx hb dX4_takesThing_139 rfl (lv_at hl 1 rfl) ?_
    refine lv_ineg hx hb dX4_takesThing_140 ?_
    refine k_Vv (rest := []) (wr := [(q_stack, aI cT 40 f_stack)]) (w2 := fun u_141 => [(q_stack, aI cT 40 f_stack), (h, oX4 (.ref q_steps) (.ref q_stack) (.int u_141.1) (.int x_top) (.int x_open) (.int x_compared) (.int x_digits) (.int x_wantsThing)), (q_steps, aI cT 40 u_141.2)]) C0 lk_X4_21 (c_X4_addStep l D cT F h (-p1) q_steps (.ref q_stack) x_size x_top x_open x_compared x_digits x_wantsThing f_steps _ hg) hP hD hS hA [0, 1] [2] (by decide +kernel) rfl rfl (fun _ => rfl) rfl rfl ⟨Nat.le_of_ble_eq_true rfl, Nat.le_of_ble_eq_true rfl⟩ rfl hl.1 rfl (Nat.le_of_ble_eq_true rfl) dX4_takesThing_141 ⟨Nat.le_of_ble_eq_true rfl, Nat.le_of_ble_eq_true rfl⟩ ?_
    intro u_141 H locs hg hP hD hS
    refine lv_aload_n hx hb dX4_takesThing_144 rfl (lv_at hl 0 rfl) ?_
    refine lv_iconst (v := (0 : Int32)) hx hb dX4_takesThing_145 (by decide) ?_
    refine pf_X4_42 C0 hP hD hS 1 rfl (Nat.le_of_ble_eq_true rfl) (Or.inl rfl) (ws2 := [(q_stack, aI cT 40 f_stack), (h, oX4 (.ref q_steps) (.ref q_stack) (.int u_141.1) (.int x_top) (.int x_open) (.int x_compared) (.int x_digits) (.int (0 : Int32))), (q_steps, aI cT 40 u_141.2)]) rfl dX4_takesThing_146 (fun H locs hP hD hS => ?_)
    refine lv_iconst (v := (1 : Int32)) hx hb dX4_takesThing_149 (by decide) ?_
    exact k_zret C0 hr (Or.inr rfl) (u_141.1, x_top, x_open, x_compared, (0 : Int32), u_141.2, f_stack) hg (subP hP [1, 2, 0] rfl) (hD.sub [1, 2, 0] (nd2_ok _ (by decide +kernel)) rfl) hS dX4_takesThing_150
  have hg := hg.2 c_1_103
  rcases Classical.em (p1 = (106 : Int32)) with c_1_106 | c_1_106
  · have hg := hg.1 c_1_106
    refine lv_lookup (off := 137) (tgt := 138) hx hb dX4_takesThing_1 (by decide) (by rw [c_1_106]; decide) (by decide) ?_
    refine lv_aload_n hx hb dX4_takesThing_138 rfl (lv_at hl 0 rfl) ?_
    refine lv_iload_n hx hb dX4_takesThing_139 rfl (lv_at hl 1 rfl) ?_
    refine lv_ineg hx hb dX4_takesThing_140 ?_
    refine k_Vv (rest := []) (wr := [(q_stack, aI cT 40 f_stack)]) (w2 := fun u_141 => [(q_stack, aI cT 40 f_stack), (h, oX4 (.ref q_steps) (.ref q_stack) (.int u_141.1) (.int x_top) (.int x_open) (.int x_compared) (.int x_digits) (.int x_wantsThing)), (q_steps, aI cT 40 u_141.2)]) C0 lk_X4_21 (c_X4_addStep l D cT F h (-p1) q_steps (.ref q_stack) x_size x_top x_open x_compared x_digits x_wantsThing f_steps _ hg) hP hD hS hA [0, 1] [2] (by decide +kernel) rfl rfl (fun _ => rfl) rfl rfl ⟨Nat.le_of_ble_eq_true rfl, Nat.le_of_ble_eq_true rfl⟩ rfl hl.1 rfl (Nat.le_of_ble_eq_true rfl) dX4_takesThing_141 ⟨Nat.le_of_ble_eq_true rfl, Nat.le_of_ble_eq_true rfl⟩ ?_
    intro u_141 H locs hg hP hD hS
    refine lv_aload_n hx hb dX4_takesThing_144 rfl (lv_at hl 0 rfl) ?_
    refine lv_iconst (v := (0 : Int32)) hx hb dX4_takesThing_145 (by decide) ?_
    refine pf_X4_42 C0 hP hD hS 1 rfl (Nat.le_of_ble_eq_true rfl) (Or.inl rfl) (ws2 := [(q_stack, aI cT 40 f_stack), (h, oX4 (.ref q_steps) (.ref q_stack) (.int u_141.1) (.int x_top) (.int x_open) (.int x_compared) (.int x_digits) (.int (0 : Int32))), (q_steps, aI cT 40 u_141.2)]) rfl dX4_takesThing_146 (fun H locs hP hD hS => ?_)
    refine lv_iconst (v := (1 : Int32)) hx hb dX4_takesThing_149 (by decide) ?_
    exact k_zret C0 hr (Or.inr rfl) (u_141.1, x_top, x_open, x_compared, (0 : Int32), u_141.2, f_stack) hg (subP hP [1, 2, 0] rfl) (hD.sub [1, 2, 0] (nd2_ok _ (by decide +kernel)) rfl) hS dX4_takesThing_150
  have hg := hg.2 c_1_106
  rcases Classical.em (p1 = (107 : Int32)) with c_1_107 | c_1_107
  · have hg := hg.1 c_1_107
    refine lv_lookup (off := 137) (tgt := 138) hx hb dX4_takesThing_1 (by decide) (by rw [c_1_107]; decide) (by decide) ?_
    refine lv_aload_n hx hb dX4_takesThing_138 rfl (lv_at hl 0 rfl) ?_
    refine lv_iload_n hx hb dX4_takesThing_139 rfl (lv_at hl 1 rfl) ?_
    refine lv_ineg hx hb dX4_takesThing_140 ?_
    refine k_Vv (rest := []) (wr := [(q_stack, aI cT 40 f_stack)]) (w2 := fun u_141 => [(q_stack, aI cT 40 f_stack), (h, oX4 (.ref q_steps) (.ref q_stack) (.int u_141.1) (.int x_top) (.int x_open) (.int x_compared) (.int x_digits) (.int x_wantsThing)), (q_steps, aI cT 40 u_141.2)]) C0 lk_X4_21 (c_X4_addStep l D cT F h (-p1) q_steps (.ref q_stack) x_size x_top x_open x_compared x_digits x_wantsThing f_steps _ hg) hP hD hS hA [0, 1] [2] (by decide +kernel) rfl rfl (fun _ => rfl) rfl rfl ⟨Nat.le_of_ble_eq_true rfl, Nat.le_of_ble_eq_true rfl⟩ rfl hl.1 rfl (Nat.le_of_ble_eq_true rfl) dX4_takesThing_141 ⟨Nat.le_of_ble_eq_true rfl, Nat.le_of_ble_eq_true rfl⟩ ?_
    intro u_141 H locs hg hP hD hS
    refine lv_aload_n hx hb dX4_takesThing_144 rfl (lv_at hl 0 rfl) ?_
    refine lv_iconst (v := (0 : Int32)) hx hb dX4_takesThing_145 (by decide) ?_
    refine pf_X4_42 C0 hP hD hS 1 rfl (Nat.le_of_ble_eq_true rfl) (Or.inl rfl) (ws2 := [(q_stack, aI cT 40 f_stack), (h, oX4 (.ref q_steps) (.ref q_stack) (.int u_141.1) (.int x_top) (.int x_open) (.int x_compared) (.int x_digits) (.int (0 : Int32))), (q_steps, aI cT 40 u_141.2)]) rfl dX4_takesThing_146 (fun H locs hP hD hS => ?_)
    refine lv_iconst (v := (1 : Int32)) hx hb dX4_takesThing_149 (by decide) ?_
    exact k_zret C0 hr (Or.inr rfl) (u_141.1, x_top, x_open, x_compared, (0 : Int32), u_141.2, f_stack) hg (subP hP [1, 2, 0] rfl) (hD.sub [1, 2, 0] (nd2_ok _ (by decide +kernel)) rfl) hS dX4_takesThing_150
  have hg := hg.2 c_1_107
  rcases Classical.em (p1 = (108 : Int32)) with c_1_108 | c_1_108
  · have hg := hg.1 c_1_108
    refine lv_lookup (off := 137) (tgt := 138) hx hb dX4_takesThing_1 (by decide) (by rw [c_1_108]; decide) (by decide) ?_
    refine lv_aload_n hx hb dX4_takesThing_138 rfl (lv_at hl 0 rfl) ?_
    refine lv_iload_n hx hb dX4_takesThing_139 rfl (lv_at hl 1 rfl) ?_
    refine lv_ineg hx hb dX4_takesThing_140 ?_
    refine k_Vv (rest := []) (wr := [(q_stack, aI cT 40 f_stack)]) (w2 := fun u_141 => [(q_stack, aI cT 40 f_stack), (h, oX4 (.ref q_steps) (.ref q_stack) (.int u_141.1) (.int x_top) (.int x_open) (.int x_compared) (.int x_digits) (.int x_wantsThing)), (q_steps, aI cT 40 u_141.2)]) C0 lk_X4_21 (c_X4_addStep l D cT F h (-p1) q_steps (.ref q_stack) x_size x_top x_open x_compared x_digits x_wantsThing f_steps _ hg) hP hD hS hA [0, 1] [2] (by decide +kernel) rfl rfl (fun _ => rfl) rfl rfl ⟨Nat.le_of_ble_eq_true rfl, Nat.le_of_ble_eq_true rfl⟩ rfl hl.1 rfl (Nat.le_of_ble_eq_true rfl) dX4_takesThing_141 ⟨Nat.le_of_ble_eq_true rfl, Nat.le_of_ble_eq_true rfl⟩ ?_
    intro u_141 H locs hg hP hD hS
    refine lv_aload_n hx hb dX4_takesThing_144 rfl (lv_at hl 0 rfl) ?_
    refine lv_iconst (v := (0 : Int32)) hx hb dX4_takesThing_145 (by decide) ?_
    refine pf_X4_42 C0 hP hD hS 1 rfl (Nat.le_of_ble_eq_true rfl) (Or.inl rfl) (ws2 := [(q_stack, aI cT 40 f_stack), (h, oX4 (.ref q_steps) (.ref q_stack) (.int u_141.1) (.int x_top) (.int x_open) (.int x_compared) (.int x_digits) (.int (0 : Int32))), (q_steps, aI cT 40 u_141.2)]) rfl dX4_takesThing_146 (fun H locs hP hD hS => ?_)
    refine lv_iconst (v := (1 : Int32)) hx hb dX4_takesThing_149 (by decide) ?_
    exact k_zret C0 hr (Or.inr rfl) (u_141.1, x_top, x_open, x_compared, (0 : Int32), u_141.2, f_stack) hg (subP hP [1, 2, 0] rfl) (hD.sub [1, 2, 0] (nd2_ok _ (by decide +kernel)) rfl) hS dX4_takesThing_150
  have hg := hg.2 c_1_108
  rcases Classical.em (p1 = (110 : Int32)) with c_1_110 | c_1_110
  · have hg := hg.1 c_1_110
    refine lv_lookup (off := 137) (tgt := 138) hx hb dX4_takesThing_1 (by decide) (by rw [c_1_110]; decide) (by decide) ?_
    refine lv_aload_n hx hb dX4_takesThing_138 rfl (lv_at hl 0 rfl) ?_
    refine lv_iload_n hx hb dX4_takesThing_139 rfl (lv_at hl 1 rfl) ?_
    refine lv_ineg hx hb dX4_takesThing_140 ?_
    refine k_Vv (rest := []) (wr := [(q_stack, aI cT 40 f_stack)]) (w2 := fun u_141 => [(q_stack, aI cT 40 f_stack), (h, oX4 (.ref q_steps) (.ref q_stack) (.int u_141.1) (.int x_top) (.int x_open) (.int x_compared) (.int x_digits) (.int x_wantsThing)), (q_steps, aI cT 40 u_141.2)]) C0 lk_X4_21 (c_X4_addStep l D cT F h (-p1) q_steps (.ref q_stack) x_size x_top x_open x_compared x_digits x_wantsThing f_steps _ hg) hP hD hS hA [0, 1] [2] (by decide +kernel) rfl rfl (fun _ => rfl) rfl rfl ⟨Nat.le_of_ble_eq_true rfl, Nat.le_of_ble_eq_true rfl⟩ rfl hl.1 rfl (Nat.le_of_ble_eq_true rfl) dX4_takesThing_141 ⟨Nat.le_of_ble_eq_true rfl, Nat.le_of_ble_eq_true rfl⟩ ?_
    intro u_141 H locs hg hP hD hS
    refine lv_aload_n hx hb dX4_takesThing_144 rfl (lv_at hl 0 rfl) ?_
    refine lv_iconst (v := (0 : Int32)) hx hb dX4_takesThing_145 (by decide) ?_
    refine pf_X4_42 C0 hP hD hS 1 rfl (Nat.le_of_ble_eq_true rfl) (Or.inl rfl) (ws2 := [(q_stack, aI cT 40 f_stack), (h, oX4 (.ref q_steps) (.ref q_stack) (.int u_141.1) (.int x_top) (.int x_open) (.int x_compared) (.int x_digits) (.int (0 : Int32))), (q_steps, aI cT 40 u_141.2)]) rfl dX4_takesThing_146 (fun H locs hP hD hS => ?_)
    refine lv_iconst (v := (1 : Int32)) hx hb dX4_takesThing_149 (by decide) ?_
    exact k_zret C0 hr (Or.inr rfl) (u_141.1, x_top, x_open, x_compared, (0 : Int32), u_141.2, f_stack) hg (subP hP [1, 2, 0] rfl) (hD.sub [1, 2, 0] (nd2_ok _ (by decide +kernel)) rfl) hS dX4_takesThing_150
  have hg := hg.2 c_1_110
  rcases Classical.em (p1 = (115 : Int32)) with c_1_115 | c_1_115
  · have hg := hg.1 c_1_115
    refine lv_lookup (off := 137) (tgt := 138) hx hb dX4_takesThing_1 (by decide) (by rw [c_1_115]; decide) (by decide) ?_
    refine lv_aload_n hx hb dX4_takesThing_138 rfl (lv_at hl 0 rfl) ?_
    refine lv_iload_n hx hb dX4_takesThing_139 rfl (lv_at hl 1 rfl) ?_
    refine lv_ineg hx hb dX4_takesThing_140 ?_
    refine k_Vv (rest := []) (wr := [(q_stack, aI cT 40 f_stack)]) (w2 := fun u_141 => [(q_stack, aI cT 40 f_stack), (h, oX4 (.ref q_steps) (.ref q_stack) (.int u_141.1) (.int x_top) (.int x_open) (.int x_compared) (.int x_digits) (.int x_wantsThing)), (q_steps, aI cT 40 u_141.2)]) C0 lk_X4_21 (c_X4_addStep l D cT F h (-p1) q_steps (.ref q_stack) x_size x_top x_open x_compared x_digits x_wantsThing f_steps _ hg) hP hD hS hA [0, 1] [2] (by decide +kernel) rfl rfl (fun _ => rfl) rfl rfl ⟨Nat.le_of_ble_eq_true rfl, Nat.le_of_ble_eq_true rfl⟩ rfl hl.1 rfl (Nat.le_of_ble_eq_true rfl) dX4_takesThing_141 ⟨Nat.le_of_ble_eq_true rfl, Nat.le_of_ble_eq_true rfl⟩ ?_
    intro u_141 H locs hg hP hD hS
    refine lv_aload_n hx hb dX4_takesThing_144 rfl (lv_at hl 0 rfl) ?_
    refine lv_iconst (v := (0 : Int32)) hx hb dX4_takesThing_145 (by decide) ?_
    refine pf_X4_42 C0 hP hD hS 1 rfl (Nat.le_of_ble_eq_true rfl) (Or.inl rfl) (ws2 := [(q_stack, aI cT 40 f_stack), (h, oX4 (.ref q_steps) (.ref q_stack) (.int u_141.1) (.int x_top) (.int x_open) (.int x_compared) (.int x_digits) (.int (0 : Int32))), (q_steps, aI cT 40 u_141.2)]) rfl dX4_takesThing_146 (fun H locs hP hD hS => ?_)
    refine lv_iconst (v := (1 : Int32)) hx hb dX4_takesThing_149 (by decide) ?_
    exact k_zret C0 hr (Or.inr rfl) (u_141.1, x_top, x_open, x_compared, (0 : Int32), u_141.2, f_stack) hg (subP hP [1, 2, 0] rfl) (hD.sub [1, 2, 0] (nd2_ok _ (by decide +kernel)) rfl) hS dX4_takesThing_150
  have hg := hg.2 c_1_115
  refine lv_lookup (off := 150) (tgt := 151) hx hb dX4_takesThing_1 (by decide) (by rw [lv_osw c_1_40 (by decide)]; rw [lv_osw c_1_45 (by decide)]; rw [lv_osw c_1_98 (by decide)]; rw [lv_osw c_1_103 (by decide)]; rw [lv_osw c_1_106 (by decide)]; rw [lv_osw c_1_107 (by decide)]; rw [lv_osw c_1_108 (by decide)]; rw [lv_osw c_1_110 (by decide)]; rw [lv_osw c_1_115 (by decide)]; rfl) (by decide) ?_
  refine lv_iconst (v := (0 : Int32)) hx hb dX4_takesThing_151 (by decide) ?_
  exact k_zret C0 hr (Or.inl rfl) (x_size, x_top, x_open, x_compared, x_wantsThing, f_steps, f_stack) hg hP hD hS dX4_takesThing_152
theorem dX4_rankOf_0 : decode cX4_rankOf 0 = .ok (.iload_n 0, 1) := by decide +kernel
theorem dX4_rankOf_1 : decode cX4_rankOf 1 = .ok (.lookupswitch 83 #[(42, 79), (43, 77), (45, 77), (47, 79), (60, 75), (61, 75), (62, 75), (256, 81)], 75) := by decide +kernel
theorem dX4_rankOf_76 : decode cX4_rankOf 76 = .ok (.iconst 1, 1) := by decide +kernel
theorem dX4_rankOf_77 : decode cX4_rankOf 77 = .ok (.ireturn, 1) := by decide +kernel
theorem dX4_rankOf_78 : decode cX4_rankOf 78 = .ok (.iconst 2, 1) := by decide +kernel
theorem dX4_rankOf_79 : decode cX4_rankOf 79 = .ok (.ireturn, 1) := by decide +kernel
theorem dX4_rankOf_80 : decode cX4_rankOf 80 = .ok (.iconst 3, 1) := by decide +kernel
theorem dX4_rankOf_81 : decode cX4_rankOf 81 = .ok (.ireturn, 1) := by decide +kernel
theorem dX4_rankOf_82 : decode cX4_rankOf 82 = .ok (.iconst 4, 1) := by decide +kernel
theorem dX4_rankOf_83 : decode cX4_rankOf 83 = .ok (.ireturn, 1) := by decide +kernel
theorem dX4_rankOf_84 : decode cX4_rankOf 84 = .ok (.iconst 0, 1) := by decide +kernel
theorem dX4_rankOf_85 : decode cX4_rankOf 85 = .ok (.ireturn, 1) := by decide +kernel
def p_X4_rankOf (F : Nat) (p0 : Int32) (Post : Int32 → Prop) : Prop := ((p0 = (42 : Int32) → (Post (3 : Int32))) ∧ (¬ p0 = (42 : Int32) → ((p0 = (43 : Int32) → (Post (2 : Int32))) ∧ (¬ p0 = (43 : Int32) → ((p0 = (45 : Int32) → (Post (2 : Int32))) ∧ (¬ p0 = (45 : Int32) → ((p0 = (47 : Int32) → (Post (3 : Int32))) ∧ (¬ p0 = (47 : Int32) → ((p0 = (60 : Int32) → (Post (1 : Int32))) ∧ (¬ p0 = (60 : Int32) → ((p0 = (61 : Int32) → (Post (1 : Int32))) ∧ (¬ p0 = (61 : Int32) → ((p0 = (62 : Int32) → (Post (1 : Int32))) ∧ (¬ p0 = (62 : Int32) → ((p0 = (256 : Int32) → (Post (4 : Int32))) ∧ (¬ p0 = (256 : Int32) → (Post (0 : Int32))))))))))))))))))
set_option maxHeartbeats 4000000 in
set_option maxRecDepth 100000 in
theorem c_X4_rankOf (l : Launch) (D : va_G) (cT : Nat → ClassId) (F : Nat) (p0 : Int32) (Post : Int32 → Prop) (hg : p_X4_rankOf F p0 Post) : MRi l D cT yX4_rankOf cX4_rankOf 1 (some .int) 0 0 [.int p0] [] Post := by
  refine MRi.of (by decide) (Nat.le_of_ble_eq_true rfl) ?_
  intro p e s m below meth c hA C0 hr hP hD hS ls hl
  have hl : lv_has ls 1 [(0, .int p0)] := hl
  have hx := C0.x
  have hb := C0.b
  have hP : va_P D cls9 [] s.heap := hP
  have hD : va_D (fun q => cT 6 ≤ q) [] := hD
  unfold p_X4_rankOf at hg
  refine lv_iload_n hx hb dX4_rankOf_0 rfl (lv_at hl 0 rfl) ?_
  rcases Classical.em (p0 = (42 : Int32)) with c_1_42 | c_1_42
  · have hg := hg.1 c_1_42
    refine lv_lookup (off := 79) (tgt := 80) hx hb dX4_rankOf_1 (by decide) (by rw [c_1_42]; decide) (by decide) ?_
    refine lv_iconst (v := (3 : Int32)) hx hb dX4_rankOf_80 (by decide) ?_
    exact k_xiret C0 hr hg dX4_rankOf_81
  have hg := hg.2 c_1_42
  rcases Classical.em (p0 = (43 : Int32)) with c_1_43 | c_1_43
  · have hg := hg.1 c_1_43
    refine lv_lookup (off := 77) (tgt := 78) hx hb dX4_rankOf_1 (by decide) (by rw [c_1_43]; decide) (by decide) ?_
    refine lv_iconst (v := (2 : Int32)) hx hb dX4_rankOf_78 (by decide) ?_
    exact k_xiret C0 hr hg dX4_rankOf_79
  have hg := hg.2 c_1_43
  rcases Classical.em (p0 = (45 : Int32)) with c_1_45 | c_1_45
  · have hg := hg.1 c_1_45
    refine lv_lookup (off := 77) (tgt := 78) hx hb dX4_rankOf_1 (by decide) (by rw [c_1_45]; decide) (by decide) ?_
    refine lv_iconst (v := (2 : Int32)) hx hb dX4_rankOf_78 (by decide) ?_
    exact k_xiret C0 hr hg dX4_rankOf_79
  have hg := hg.2 c_1_45
  rcases Classical.em (p0 = (47 : Int32)) with c_1_47 | c_1_47
  · have hg := hg.1 c_1_47
    refine lv_lookup (off := 79) (tgt := 80) hx hb dX4_rankOf_1 (by decide) (by rw [c_1_47]; decide) (by decide) ?_
    refine lv_iconst (v := (3 : Int32)) hx hb dX4_rankOf_80 (by decide) ?_
    exact k_xiret C0 hr hg dX4_rankOf_81
  have hg := hg.2 c_1_47
  rcases Classical.em (p0 = (60 : Int32)) with c_1_60 | c_1_60
  · have hg := hg.1 c_1_60
    refine lv_lookup (off := 75) (tgt := 76) hx hb dX4_rankOf_1 (by decide) (by rw [c_1_60]; decide) (by decide) ?_
    refine lv_iconst (v := (1 : Int32)) hx hb dX4_rankOf_76 (by decide) ?_
    exact k_xiret C0 hr hg dX4_rankOf_77
  have hg := hg.2 c_1_60
  rcases Classical.em (p0 = (61 : Int32)) with c_1_61 | c_1_61
  · have hg := hg.1 c_1_61
    refine lv_lookup (off := 75) (tgt := 76) hx hb dX4_rankOf_1 (by decide) (by rw [c_1_61]; decide) (by decide) ?_
    refine lv_iconst (v := (1 : Int32)) hx hb dX4_rankOf_76 (by decide) ?_
    exact k_xiret C0 hr hg dX4_rankOf_77
  have hg := hg.2 c_1_61
  rcases Classical.em (p0 = (62 : Int32)) with c_1_62 | c_1_62
  · have hg := hg.1 c_1_62
    refine lv_lookup (off := 75) (tgt := 76) hx hb dX4_rankOf_1 (by decide) (by rw [c_1_62]; decide) (by decide) ?_
    refine lv_iconst (v := (1 : Int32)) hx hb dX4_rankOf_76 (by decide) ?_
    exact k_xiret C0 hr hg dX4_rankOf_77
  have hg := hg.2 c_1_62
  rcases Classical.em (p0 = (256 : Int32)) with c_1_256 | c_1_256
  · have hg := hg.1 c_1_256
    refine lv_lookup (off := 81) (tgt := 82) hx hb dX4_rankOf_1 (by decide) (by rw [c_1_256]; decide) (by decide) ?_
    refine lv_iconst (v := (4 : Int32)) hx hb dX4_rankOf_82 (by decide) ?_
    exact k_xiret C0 hr hg dX4_rankOf_83
  have hg := hg.2 c_1_256
  refine lv_lookup (off := 83) (tgt := 84) hx hb dX4_rankOf_1 (by decide) (by rw [lv_osw c_1_42 (by decide)]; rw [lv_osw c_1_43 (by decide)]; rw [lv_osw c_1_45 (by decide)]; rw [lv_osw c_1_47 (by decide)]; rw [lv_osw c_1_60 (by decide)]; rw [lv_osw c_1_61 (by decide)]; rw [lv_osw c_1_62 (by decide)]; rw [lv_osw c_1_256 (by decide)]; rfl) (by decide) ?_
  refine lv_iconst (v := (0 : Int32)) hx hb dX4_rankOf_84 (by decide) ?_
  exact k_xiret C0 hr hg dX4_rankOf_85
theorem dX4_pop_0 : decode cX4_pop 0 = .ok (.aload_n 0, 1) := by decide +kernel
theorem dX4_pop_1 : decode cX4_pop 1 = .ok (.getfield 55, 3) := by decide +kernel
theorem dX4_pop_4 : decode cX4_pop 4 = .ok (.iconst 1, 1) := by decide +kernel
theorem dX4_pop_5 : decode cX4_pop 5 = .ok (.if_icmp .lt 12, 3) := by decide +kernel
theorem dX4_pop_8 : decode cX4_pop 8 = .ok (.aload_n 0, 1) := by decide +kernel
theorem dX4_pop_9 : decode cX4_pop 9 = .ok (.getfield 55, 3) := by decide +kernel
theorem dX4_pop_12 : decode cX4_pop 12 = .ok (.bipush 40, 2) := by decide +kernel
theorem dX4_pop_14 : decode cX4_pop 14 = .ok (.if_icmp .le 5, 3) := by decide +kernel
theorem dX4_pop_17 : decode cX4_pop 17 = .ok (.iconst 0, 1) := by decide +kernel
theorem dX4_pop_18 : decode cX4_pop 18 = .ok (.ireturn, 1) := by decide +kernel
theorem dX4_pop_19 : decode cX4_pop 19 = .ok (.aload_n 0, 1) := by decide +kernel
theorem dX4_pop_20 : decode cX4_pop 20 = .ok (.dup, 1) := by decide +kernel
theorem dX4_pop_21 : decode cX4_pop 21 = .ok (.getfield 55, 3) := by decide +kernel
theorem dX4_pop_24 : decode cX4_pop 24 = .ok (.iconst 1, 1) := by decide +kernel
theorem dX4_pop_25 : decode cX4_pop 25 = .ok (.isub, 1) := by decide +kernel
theorem dX4_pop_26 : decode cX4_pop 26 = .ok (.putfield 55, 3) := by decide +kernel
theorem dX4_pop_29 : decode cX4_pop 29 = .ok (.aload_n 0, 1) := by decide +kernel
theorem dX4_pop_30 : decode cX4_pop 30 = .ok (.getfield 15, 3) := by decide +kernel
theorem dX4_pop_33 : decode cX4_pop 33 = .ok (.aload_n 0, 1) := by decide +kernel
theorem dX4_pop_34 : decode cX4_pop 34 = .ok (.getfield 55, 3) := by decide +kernel
theorem dX4_pop_37 : decode cX4_pop 37 = .ok (.iaload, 1) := by decide +kernel
theorem dX4_pop_38 : decode cX4_pop 38 = .ok (.ireturn, 1) := by decide +kernel
def p_X4_pop (F : Nat) (x_top : Int32) (f_stack : Nat → Int32) (Post : Int32 → Int32 → Prop) : Prop := ((x_top < (1 : Int32) → (Post (0 : Int32) x_top)) ∧ (¬ x_top < (1 : Int32) → ((x_top ≤ (40 : Int32) → (vp_in (x_top - (1 : Int32)) 40 ∧ (Post (f_stack (x_top - (1 : Int32)).toNatClampNeg) (x_top - (1 : Int32))))) ∧ (¬ x_top ≤ (40 : Int32) → (Post (0 : Int32) x_top)))))
set_option maxHeartbeats 4000000 in
set_option maxRecDepth 100000 in
theorem c_X4_pop (l : Launch) (D : va_G) (cT : Nat → ClassId) (F : Nat) (h : Nat) (w_steps : Value) (q_stack : Nat) (x_size : Int32) (x_top : Int32) (x_open : Int32) (x_compared : Int32) (x_digits : Int32) (x_wantsThing : Int32) (f_stack : Nat → Int32) (Post : Int32 → Int32 → Prop) (hg : p_X4_pop F x_top f_stack Post) : MWi l D cT yX4_pop cX4_pop 1 (some .int) 0 0 0 0 [.ref h] [(h, oX4 w_steps (.ref q_stack) (.int x_size) (.int x_top) (.int x_open) (.int x_compared) (.int x_digits) (.int x_wantsThing)), (q_stack, aI cT 40 f_stack)] Post (fun (u : Int32) => [(h, oX4 w_steps (.ref q_stack) (.int x_size) (.int u) (.int x_open) (.int x_compared) (.int x_digits) (.int x_wantsThing)), (q_stack, aI cT 40 f_stack)]) := by
  refine MWi.of (by decide) (Nat.le_of_ble_eq_true rfl) ?_
  intro p e s m below meth c A hA C0 hnm hr hP hD ls hl
  have hl : lv_has ls 1 [(0, .ref h)] := hl
  have hx := C0.x
  have hb := C0.b
  have hS : va_S A s.heap s.heap [] := va_S.rf
  have hP : va_P D cls9 [(h, oX4 w_steps (.ref q_stack) (.int x_size) (.int x_top) (.int x_open) (.int x_compared) (.int x_digits) (.int x_wantsThing)), (q_stack, aI cT 40 f_stack)] s.heap := hP
  have hD : va_D A [(h, oX4 w_steps (.ref q_stack) (.int x_size) (.int x_top) (.int x_open) (.int x_compared) (.int x_digits) (.int x_wantsThing)), (q_stack, aI cT 40 f_stack)] := hD
  unfold p_X4_pop at hg
  refine lv_aload_n hx hb dX4_pop_0 rfl (lv_at hl 0 rfl) ?_
  refine gf_X4_55 C0 hP 0 rfl rfl dX4_pop_1 ?_
  refine lv_iconst (v := (1 : Int32)) hx hb dX4_pop_4 (by decide) ?_
  refine lv_icmp_lt (tgt := 17) hx hb dX4_pop_5 (by decide) (fun c_5 => ?_) (fun c_5 => ?_)
  · have hg := hg.1 c_5
    refine lv_iconst (v := (0 : Int32)) hx hb dX4_pop_17 (by decide) ?_
    exact k_iret C0 hr x_top hg hP hD hS dX4_pop_18
  have hg := hg.2 c_5
  refine lv_aload_n hx hb dX4_pop_8 rfl (lv_at hl 0 rfl) ?_
  refine gf_X4_55 C0 hP 0 rfl rfl dX4_pop_9 ?_
  refine lv_bipush (v := (40 : Int32)) hx hb dX4_pop_12 (by decide) ?_
  refine lv_icmp_le (tgt := 19) hx hb dX4_pop_14 (by decide) (fun c_14 => ?_) (fun c_14 => ?_)
  · have hg := hg.1 c_14
    refine lv_aload_n hx hb dX4_pop_19 rfl (lv_at hl 0 rfl) ?_
    refine lv_dup hx hb dX4_pop_20 rfl ?_
    refine gf_X4_55 C0 hP 0 rfl rfl dX4_pop_21 ?_
    refine lv_iconst (v := (1 : Int32)) hx hb dX4_pop_24 (by decide) ?_
    refine lv_isub hx hb dX4_pop_25 ?_
    refine pf_X4_55 C0 hP hD hS 0 rfl (Nat.le_of_ble_eq_true rfl) (ws2 := [(h, oX4 w_steps (.ref q_stack) (.int x_size) (.int (x_top - (1 : Int32))) (.int x_open) (.int x_compared) (.int x_digits) (.int x_wantsThing)), (q_stack, aI cT 40 f_stack)]) rfl dX4_pop_26 (fun H locs hP hD hS => ?_)
    refine lv_aload_n hx hb dX4_pop_29 rfl (lv_at hl 0 rfl) ?_
    refine gf_X4_15 C0 hP 0 rfl rfl dX4_pop_30 ?_
    refine lv_aload_n hx hb dX4_pop_33 rfl (lv_at hl 0 rfl) ?_
    refine gf_X4_55 C0 hP 0 rfl rfl dX4_pop_34 ?_
    obtain ⟨g_37, hg⟩ := hg
    refine k_iald C0 hP 1 rfl g_37 dX4_pop_37 ?_
    exact k_iret C0 hr (x_top - (1 : Int32)) hg hP hD hS dX4_pop_38
  have hg := hg.2 c_14
  refine lv_iconst (v := (0 : Int32)) hx hb dX4_pop_17 (by decide) ?_
  exact k_iret C0 hr x_top hg hP hD hS dX4_pop_18
theorem dX4_settle_0 : decode cX4_settle 0 = .ok (.aload_n 0, 1) := by decide +kernel
theorem dX4_settle_1 : decode cX4_settle 1 = .ok (.getfield 55, 3) := by decide +kernel
theorem dX4_settle_4 : decode cX4_settle 4 = .ok (.iconst 1, 1) := by decide +kernel
theorem dX4_settle_5 : decode cX4_settle 5 = .ok (.isub, 1) := by decide +kernel
theorem dX4_settle_6 : decode cX4_settle 6 = .ok (.istore_n 2, 1) := by decide +kernel
theorem dX4_settle_7 : decode cX4_settle 7 = .ok (.iload_n 2, 1) := by decide +kernel
theorem dX4_settle_8 : decode cX4_settle 8 = .ok (.ifCond .lt 37, 3) := by decide +kernel
theorem dX4_settle_11 : decode cX4_settle 11 = .ok (.iload_n 2, 1) := by decide +kernel
theorem dX4_settle_12 : decode cX4_settle 12 = .ok (.bipush 40, 2) := by decide +kernel
theorem dX4_settle_14 : decode cX4_settle 14 = .ok (.if_icmp .ge 31, 3) := by decide +kernel
theorem dX4_settle_17 : decode cX4_settle 17 = .ok (.aload_n 0, 1) := by decide +kernel
theorem dX4_settle_18 : decode cX4_settle 18 = .ok (.getfield 15, 3) := by decide +kernel
theorem dX4_settle_21 : decode cX4_settle 21 = .ok (.iload_n 2, 1) := by decide +kernel
theorem dX4_settle_22 : decode cX4_settle 22 = .ok (.iaload, 1) := by decide +kernel
theorem dX4_settle_23 : decode cX4_settle 23 = .ok (.invokestatic 80, 3) := by decide +kernel
theorem dX4_settle_26 : decode cX4_settle 26 = .ok (.iload_n 1, 1) := by decide +kernel
theorem dX4_settle_27 : decode cX4_settle 27 = .ok (.if_icmp .lt 18, 3) := by decide +kernel
theorem dX4_settle_30 : decode cX4_settle 30 = .ok (.aload_n 0, 1) := by decide +kernel
theorem dX4_settle_31 : decode cX4_settle 31 = .ok (.aload_n 0, 1) := by decide +kernel
theorem dX4_settle_32 : decode cX4_settle 32 = .ok (.invokevirtual 76, 3) := by decide +kernel
theorem dX4_settle_35 : decode cX4_settle 35 = .ok (.ineg, 1) := by decide +kernel
theorem dX4_settle_36 : decode cX4_settle 36 = .ok (.invokevirtual 21, 3) := by decide +kernel
theorem dX4_settle_39 : decode cX4_settle 39 = .ok (.iinc 2 (-1), 3) := by decide +kernel
theorem dX4_settle_42 : decode cX4_settle 42 = .ok (.goto (-35), 3) := by decide +kernel
theorem dX4_settle_45 : decode cX4_settle 45 = .ok (.return_, 1) := by decide +kernel
noncomputable def p_X4_settle_7 (F : Nat) (p1 : Int32) (f_stack : Nat → Int32) (Post : (Int32 × Int32 × (Nat → Int32)) → Prop) (n : Nat) : Int32 → Int32 → Int32 → (Nat → Int32) → Prop := Nat.rec (motive := fun _ => Int32 → Int32 → Int32 → (Nat → Int32) → Prop) (fun _ _ _ _ => False) (fun _ k7 => fun (y2_7 : Int32) (x_size_7 : Int32) (x_top_7 : Int32) (f_steps_7 : Nat → Int32) => ((y2_7 < 0 → (Post (x_size_7, x_top_7, f_steps_7))) ∧ (¬ y2_7 < 0 → (((40 : Int32) ≤ y2_7 → (Post (x_size_7, x_top_7, f_steps_7))) ∧ (¬ (40 : Int32) ≤ y2_7 → (vp_in y2_7 40 ∧ (p_X4_rankOf F (f_stack y2_7.toNatClampNeg) (fun (r_23 : Int32) => ((r_23 < p1 → (Post (x_size_7, x_top_7, f_steps_7))) ∧ (¬ r_23 < p1 → (p_X4_pop F x_top_7 f_stack (fun (r_32 : Int32) (u_32 : Int32) => (p_X4_addStep F (-r_32) x_size_7 f_steps_7 (fun (u_36 : (Int32 × (Nat → Int32))) => (k7 (y2_7 + (-1 : Int32)) u_36.1 u_32 u_36.2))))))))))))))) n
theorem p_X4_settle_7_s (F : Nat) (p1 : Int32) (f_stack : Nat → Int32) (Post : (Int32 × Int32 × (Nat → Int32)) → Prop) (n : Nat) (y2_7 : Int32) (x_size_7 : Int32) (x_top_7 : Int32) (f_steps_7 : Nat → Int32) : p_X4_settle_7 F p1 f_stack Post (n + 1) y2_7 x_size_7 x_top_7 f_steps_7 = ((y2_7 < 0 → (Post (x_size_7, x_top_7, f_steps_7))) ∧ (¬ y2_7 < 0 → (((40 : Int32) ≤ y2_7 → (Post (x_size_7, x_top_7, f_steps_7))) ∧ (¬ (40 : Int32) ≤ y2_7 → (vp_in y2_7 40 ∧ (p_X4_rankOf F (f_stack y2_7.toNatClampNeg) (fun (r_23 : Int32) => ((r_23 < p1 → (Post (x_size_7, x_top_7, f_steps_7))) ∧ (¬ r_23 < p1 → (p_X4_pop F x_top_7 f_stack (fun (r_32 : Int32) (u_32 : Int32) => (p_X4_addStep F (-r_32) x_size_7 f_steps_7 (fun (u_36 : (Int32 × (Nat → Int32))) => ((p_X4_settle_7 F p1 f_stack Post n) (y2_7 + (-1 : Int32)) u_36.1 u_32 u_36.2)))))))))))))) := rfl
def p_X4_settle (F : Nat) (p1 : Int32) (x_size : Int32) (x_top : Int32) (f_stack : Nat → Int32) (f_steps : Nat → Int32) (Post : (Int32 × Int32 × (Nat → Int32)) → Prop) : Prop := (p_X4_settle_7 F p1 f_stack Post F (x_top - (1 : Int32)) x_size x_top f_steps)
set_option maxHeartbeats 4000000 in
set_option maxRecDepth 100000 in
theorem c_X4_settle (l : Launch) (D : va_G) (cT : Nat → ClassId) (F : Nat) (h : Nat) (p1 : Int32) (q_steps : Nat) (q_stack : Nat) (x_size : Int32) (x_top : Int32) (x_open : Int32) (x_compared : Int32) (x_digits : Int32) (x_wantsThing : Int32) (f_stack : Nat → Int32) (f_steps : Nat → Int32) (Post : (Int32 × Int32 × (Nat → Int32)) → Prop) (hg : p_X4_settle F p1 x_size x_top f_stack f_steps Post) : MWv l D cT yX4_settle cX4_settle 3 none 1 21 0 0 [.ref h, .int p1] [(h, oX4 (.ref q_steps) (.ref q_stack) (.int x_size) (.int x_top) (.int x_open) (.int x_compared) (.int x_digits) (.int x_wantsThing)), (q_stack, aI cT 40 f_stack), (q_steps, aI cT 40 f_steps)] Post (fun (u : (Int32 × Int32 × (Nat → Int32))) => [(h, oX4 (.ref q_steps) (.ref q_stack) (.int u.1) (.int u.2.1) (.int x_open) (.int x_compared) (.int x_digits) (.int x_wantsThing)), (q_stack, aI cT 40 f_stack), (q_steps, aI cT 40 u.2.2)]) := by
  refine MWv.of (by decide) (Nat.le_of_ble_eq_true rfl) ?_
  intro p e s m below meth c A hA C0 hnm hr hP hD ls hl
  have hl : lv_has ls 3 [(0, .ref h), (1, .int p1)] := hl
  have hx := C0.x
  have hb := C0.b
  have hS : va_S A s.heap s.heap [] := va_S.rf
  have hP : va_P D cls9 [(h, oX4 (.ref q_steps) (.ref q_stack) (.int x_size) (.int x_top) (.int x_open) (.int x_compared) (.int x_digits) (.int x_wantsThing)), (q_stack, aI cT 40 f_stack), (q_steps, aI cT 40 f_steps)] s.heap := hP
  have hD : va_D A [(h, oX4 (.ref q_steps) (.ref q_stack) (.int x_size) (.int x_top) (.int x_open) (.int x_compared) (.int x_digits) (.int x_wantsThing)), (q_stack, aI cT 40 f_stack), (q_steps, aI cT 40 f_steps)] := hD
  have L7 : ∀ (n7 : Nat) (y2_7 : Int32) (x_size_7 : Int32) (x_top_7 : Int32) (f_steps_7 : Nat → Int32) (H : Heap) (locs : List Loc) (ls : Array Slot), p_X4_settle_7 F p1 f_stack Post n7 y2_7 x_size_7 x_top_7 f_steps_7 → va_P D cls9 [(h, oX4 (.ref q_steps) (.ref q_stack) (.int x_size_7) (.int x_top_7) (.int x_open) (.int x_compared) (.int x_digits) (.int x_wantsThing)), (q_stack, aI cT 40 f_stack), (q_steps, aI cT 40 f_steps_7)] H → va_D A [(h, oX4 (.ref q_steps) (.ref q_stack) (.int x_size_7) (.int x_top_7) (.int x_open) (.int x_compared) (.int x_digits) (.int x_wantsThing)), (q_stack, aI cT 40 f_stack), (q_steps, aI cT 40 f_steps_7)] → va_S A s.heap H locs → lv_has ls 3 [(0, .ref h), (1, .int p1), (2, .int y2_7)] → W p l e (rmO 1 21 0 0) s m ([.ref h, .int p1] : List Value).toArray below meth c H locs 0 0 (MQ below (va_Qv Post (cB D A (fun (u : (Int32 × Int32 × (Nat → Int32))) => [(h, oX4 (.ref q_steps) (.ref q_stack) (.int u.1) (.int u.2.1) (.int x_open) (.int x_compared) (.int x_digits) (.int x_wantsThing)), (q_stack, aI cT 40 f_stack), (q_steps, aI cT 40 u.2.2)])) A) ([.ref h, .int p1] : List Value).toArray s 0 0 A) (F0 m 7 ls []) := by
    intro n7
    induction n7 with
    | zero =>
      intro y2_7 x_size_7 x_top_7 f_steps_7 H locs ls hg hP hD hS hl
      exact False.elim hg
    | succ n7 ih7 =>
      intro y2_7 x_size_7 x_top_7 f_steps_7 H locs ls hg hP hD hS hl
      rw [p_X4_settle_7_s] at hg
      refine lv_iload_n hx hb dX4_settle_7 rfl (lv_at hl 2 rfl) ?_
      refine lv_if_lt (tgt := 45) hx hb dX4_settle_8 (by decide) (fun c_8 => ?_) (fun c_8 => ?_)
      · have hg := hg.1 c_8
        exact k_vret C0 hr (x_size_7, x_top_7, f_steps_7) hg hP hD hS dX4_settle_45
      have hg := hg.2 c_8
      refine lv_iload_n hx hb dX4_settle_11 rfl (lv_at hl 2 rfl) ?_
      refine lv_bipush (v := (40 : Int32)) hx hb dX4_settle_12 (by decide) ?_
      refine lv_icmp_ge (tgt := 45) hx hb dX4_settle_14 (by decide) (fun c_14 => ?_) (fun c_14 => ?_)
      · have hg := hg.1 c_14
        exact k_vret C0 hr (x_size_7, x_top_7, f_steps_7) hg hP hD hS dX4_settle_45
      have hg := hg.2 c_14
      refine lv_aload_n hx hb dX4_settle_17 rfl (lv_at hl 0 rfl) ?_
      refine gf_X4_15 C0 hP 0 rfl rfl dX4_settle_18 ?_
      refine lv_iload_n hx hb dX4_settle_21 rfl (lv_at hl 2 rfl) ?_
      obtain ⟨g_22, hg⟩ := hg
      refine k_iald C0 hP 1 rfl g_22 dX4_settle_22 ?_
      refine k_Sxi (rest := []) C0 lk_X4_80 (c_X4_rankOf l D cT F (f_stack y2_7.toNatClampNeg) _ hg) hP hD hS hA [] (by decide +kernel) rfl ⟨Nat.le_of_ble_eq_true rfl, Nat.le_of_ble_eq_true rfl⟩ rfl hl.1 rfl (Nat.le_of_ble_eq_true rfl) dX4_settle_23 ⟨Nat.le_of_ble_eq_true rfl, Nat.le_of_ble_eq_true rfl⟩ (fun r_23 hg => ?_)
      refine lv_iload_n hx hb dX4_settle_26 rfl (lv_at hl 1 rfl) ?_
      refine lv_icmp_lt (tgt := 45) hx hb dX4_settle_27 (by decide) (fun c_27 => ?_) (fun c_27 => ?_)
      · have hg := hg.1 c_27
        exact k_vret C0 hr (x_size_7, x_top_7, f_steps_7) hg hP hD hS dX4_settle_45
      have hg := hg.2 c_27
      refine lv_aload_n hx hb dX4_settle_30 rfl (lv_at hl 0 rfl) ?_
      refine lv_aload_n hx hb dX4_settle_31 rfl (lv_at hl 0 rfl) ?_
      refine k_Vi (rest := [.ref h]) (wr := [(q_steps, aI cT 40 f_steps_7)]) (w2 := fun u_32 => [(q_steps, aI cT 40 f_steps_7), (h, oX4 (.ref q_steps) (.ref q_stack) (.int x_size_7) (.int u_32) (.int x_open) (.int x_compared) (.int x_digits) (.int x_wantsThing)), (q_stack, aI cT 40 f_stack)]) C0 lk_X4_76 (c_X4_pop l D cT F h (.ref q_steps) q_stack x_size_7 x_top_7 x_open x_compared x_digits x_wantsThing f_stack _ hg) hP hD hS hA [0, 1] [2] (by decide +kernel) rfl rfl (fun _ => rfl) rfl rfl ⟨Nat.le_of_ble_eq_true rfl, Nat.le_of_ble_eq_true rfl⟩ rfl hl.1 rfl (Nat.le_of_ble_eq_true rfl) dX4_settle_32 ⟨Nat.le_of_ble_eq_true rfl, Nat.le_of_ble_eq_true rfl⟩ ?_
      intro r_32 u_32 H locs hg hP hD hS
      refine lv_ineg hx hb dX4_settle_35 ?_
      refine k_Vv (rest := []) (wr := [(q_stack, aI cT 40 f_stack)]) (w2 := fun u_36 => [(q_stack, aI cT 40 f_stack), (h, oX4 (.ref q_steps) (.ref q_stack) (.int u_36.1) (.int u_32) (.int x_open) (.int x_compared) (.int x_digits) (.int x_wantsThing)), (q_steps, aI cT 40 u_36.2)]) C0 lk_X4_21 (c_X4_addStep l D cT F h (-r_32) q_steps (.ref q_stack) x_size_7 u_32 x_open x_compared x_digits x_wantsThing f_steps_7 _ hg) hP hD hS hA [1, 0] [2] (by decide +kernel) rfl rfl (fun _ => rfl) rfl rfl ⟨Nat.le_of_ble_eq_true rfl, Nat.le_of_ble_eq_true rfl⟩ rfl hl.1 rfl (Nat.le_of_ble_eq_true rfl) dX4_settle_36 ⟨Nat.le_of_ble_eq_true rfl, Nat.le_of_ble_eq_true rfl⟩ ?_
      intro u_36 H locs hg hP hD hS
      refine lv_iinc (v := (y2_7 + (-1 : Int32))) (lv' := [(2, .int (y2_7 + (-1 : Int32))), (0, .ref h), (1, .int p1)]) hx hb dX4_settle_39 hl (k := 2) rfl rfl (by decide) rfl (fun ls hl => ?_)
      refine lv_goto (tgt := 7) hx hb dX4_settle_42 (by decide) ?_
      exact ih7 (y2_7 + (-1 : Int32)) u_36.1 u_32 u_36.2 _ _ _ hg (subP hP [1, 0, 2] rfl) (hD.sub [1, 0, 2] (nd2_ok _ (by decide +kernel)) rfl) hS (lv_sub hl [1, 2, 0] rfl)
  unfold p_X4_settle at hg
  refine lv_aload_n hx hb dX4_settle_0 rfl (lv_at hl 0 rfl) ?_
  refine gf_X4_55 C0 hP 0 rfl rfl dX4_settle_1 ?_
  refine lv_iconst (v := (1 : Int32)) hx hb dX4_settle_4 (by decide) ?_
  refine lv_isub hx hb dX4_settle_5 ?_
  refine lv_istore_n (lv' := [(2, .int (x_top - (1 : Int32))), (0, .ref h), (1, .int p1)]) hx hb dX4_settle_6 rfl hl (by decide) rfl (fun ls hl => ?_)
  exact L7 F (x_top - (1 : Int32)) x_size x_top f_steps _ _ _ hg hP hD hS (lv_sub hl [1, 2, 0] rfl)
theorem dX4_takesBehindThing_0 : decode cX4_takesBehindThing 0 = .ok (.iload_n 1, 1) := by decide +kernel
theorem dX4_takesBehindThing_1 : decode cX4_takesBehindThing 1 = .ok (.bipush 41, 2) := by decide +kernel
theorem dX4_takesBehindThing_3 : decode cX4_takesBehindThing 3 = .ok (.if_icmp .ne 32, 3) := by decide +kernel
theorem dX4_takesBehindThing_6 : decode cX4_takesBehindThing 6 = .ok (.aload_n 0, 1) := by decide +kernel
theorem dX4_takesBehindThing_7 : decode cX4_takesBehindThing 7 = .ok (.getfield 46, 3) := by decide +kernel
theorem dX4_takesBehindThing_10 : decode cX4_takesBehindThing 10 = .ok (.ifCond .le 25, 3) := by decide +kernel
theorem dX4_takesBehindThing_13 : decode cX4_takesBehindThing 13 = .ok (.aload_n 0, 1) := by decide +kernel
theorem dX4_takesBehindThing_14 : decode cX4_takesBehindThing 14 = .ok (.iconst 1, 1) := by decide +kernel
theorem dX4_takesBehindThing_15 : decode cX4_takesBehindThing 15 = .ok (.invokevirtual 49, 3) := by decide +kernel
theorem dX4_takesBehindThing_18 : decode cX4_takesBehindThing 18 = .ok (.aload_n 0, 1) := by decide +kernel
theorem dX4_takesBehindThing_19 : decode cX4_takesBehindThing 19 = .ok (.invokevirtual 76, 3) := by decide +kernel
theorem dX4_takesBehindThing_22 : decode cX4_takesBehindThing 22 = .ok (.pop, 1) := by decide +kernel
theorem dX4_takesBehindThing_23 : decode cX4_takesBehindThing 23 = .ok (.aload_n 0, 1) := by decide +kernel
theorem dX4_takesBehindThing_24 : decode cX4_takesBehindThing 24 = .ok (.dup, 1) := by decide +kernel
theorem dX4_takesBehindThing_25 : decode cX4_takesBehindThing 25 = .ok (.getfield 46, 3) := by decide +kernel
theorem dX4_takesBehindThing_28 : decode cX4_takesBehindThing 28 = .ok (.iconst 1, 1) := by decide +kernel
theorem dX4_takesBehindThing_29 : decode cX4_takesBehindThing 29 = .ok (.isub, 1) := by decide +kernel
theorem dX4_takesBehindThing_30 : decode cX4_takesBehindThing 30 = .ok (.putfield 46, 3) := by decide +kernel
theorem dX4_takesBehindThing_33 : decode cX4_takesBehindThing 33 = .ok (.iconst 1, 1) := by decide +kernel
theorem dX4_takesBehindThing_34 : decode cX4_takesBehindThing 34 = .ok (.ireturn, 1) := by decide +kernel
theorem dX4_takesBehindThing_35 : decode cX4_takesBehindThing 35 = .ok (.iload_n 1, 1) := by decide +kernel
theorem dX4_takesBehindThing_36 : decode cX4_takesBehindThing 36 = .ok (.invokestatic 80, 3) := by decide +kernel
theorem dX4_takesBehindThing_39 : decode cX4_takesBehindThing 39 = .ok (.istore_n 2, 1) := by decide +kernel
theorem dX4_takesBehindThing_40 : decode cX4_takesBehindThing 40 = .ok (.iload_n 2, 1) := by decide +kernel
theorem dX4_takesBehindThing_41 : decode cX4_takesBehindThing 41 = .ok (.ifCond .eq 23, 3) := by decide +kernel
theorem dX4_takesBehindThing_44 : decode cX4_takesBehindThing 44 = .ok (.iload_n 2, 1) := by decide +kernel
theorem dX4_takesBehindThing_45 : decode cX4_takesBehindThing 45 = .ok (.iconst 1, 1) := by decide +kernel
theorem dX4_takesBehindThing_46 : decode cX4_takesBehindThing 46 = .ok (.if_icmp .ne 20, 3) := by decide +kernel
theorem dX4_takesBehindThing_49 : decode cX4_takesBehindThing 49 = .ok (.aload_n 0, 1) := by decide +kernel
theorem dX4_takesBehindThing_50 : decode cX4_takesBehindThing 50 = .ok (.getfield 58, 3) := by decide +kernel
theorem dX4_takesBehindThing_53 : decode cX4_takesBehindThing 53 = .ok (.aload_n 0, 1) := by decide +kernel
theorem dX4_takesBehindThing_54 : decode cX4_takesBehindThing 54 = .ok (.getfield 46, 3) := by decide +kernel
theorem dX4_takesBehindThing_57 : decode cX4_takesBehindThing 57 = .ok (.ishr, 1) := by decide +kernel
theorem dX4_takesBehindThing_58 : decode cX4_takesBehindThing 58 = .ok (.iconst 1, 1) := by decide +kernel
theorem dX4_takesBehindThing_59 : decode cX4_takesBehindThing 59 = .ok (.iand, 1) := by decide +kernel
theorem dX4_takesBehindThing_60 : decode cX4_takesBehindThing 60 = .ok (.iconst 1, 1) := by decide +kernel
theorem dX4_takesBehindThing_61 : decode cX4_takesBehindThing 61 = .ok (.if_icmp .ne 5, 3) := by decide +kernel
theorem dX4_takesBehindThing_64 : decode cX4_takesBehindThing 64 = .ok (.iconst 0, 1) := by decide +kernel
theorem dX4_takesBehindThing_65 : decode cX4_takesBehindThing 65 = .ok (.ireturn, 1) := by decide +kernel
theorem dX4_takesBehindThing_66 : decode cX4_takesBehindThing 66 = .ok (.aload_n 0, 1) := by decide +kernel
theorem dX4_takesBehindThing_67 : decode cX4_takesBehindThing 67 = .ok (.dup, 1) := by decide +kernel
theorem dX4_takesBehindThing_68 : decode cX4_takesBehindThing 68 = .ok (.getfield 58, 3) := by decide +kernel
theorem dX4_takesBehindThing_71 : decode cX4_takesBehindThing 71 = .ok (.iload_n 2, 1) := by decide +kernel
theorem dX4_takesBehindThing_72 : decode cX4_takesBehindThing 72 = .ok (.iconst 1, 1) := by decide +kernel
theorem dX4_takesBehindThing_73 : decode cX4_takesBehindThing 73 = .ok (.if_icmp .ne 12, 3) := by decide +kernel
theorem dX4_takesBehindThing_76 : decode cX4_takesBehindThing 76 = .ok (.iconst 1, 1) := by decide +kernel
theorem dX4_takesBehindThing_77 : decode cX4_takesBehindThing 77 = .ok (.aload_n 0, 1) := by decide +kernel
theorem dX4_takesBehindThing_78 : decode cX4_takesBehindThing 78 = .ok (.getfield 46, 3) := by decide +kernel
theorem dX4_takesBehindThing_81 : decode cX4_takesBehindThing 81 = .ok (.ishl, 1) := by decide +kernel
theorem dX4_takesBehindThing_82 : decode cX4_takesBehindThing 82 = .ok (.goto 4, 3) := by decide +kernel
theorem dX4_takesBehindThing_85 : decode cX4_takesBehindThing 85 = .ok (.iconst 0, 1) := by decide +kernel
theorem dX4_takesBehindThing_86 : decode cX4_takesBehindThing 86 = .ok (.ior, 1) := by decide +kernel
theorem dX4_takesBehindThing_87 : decode cX4_takesBehindThing 87 = .ok (.putfield 58, 3) := by decide +kernel
theorem dX4_takesBehindThing_90 : decode cX4_takesBehindThing 90 = .ok (.aload_n 0, 1) := by decide +kernel
theorem dX4_takesBehindThing_91 : decode cX4_takesBehindThing 91 = .ok (.iload_n 2, 1) := by decide +kernel
theorem dX4_takesBehindThing_92 : decode cX4_takesBehindThing 92 = .ok (.invokevirtual 49, 3) := by decide +kernel
theorem dX4_takesBehindThing_95 : decode cX4_takesBehindThing 95 = .ok (.aload_n 0, 1) := by decide +kernel
theorem dX4_takesBehindThing_96 : decode cX4_takesBehindThing 96 = .ok (.iload_n 1, 1) := by decide +kernel
theorem dX4_takesBehindThing_97 : decode cX4_takesBehindThing 97 = .ok (.invokevirtual 73, 3) := by decide +kernel
theorem dX4_takesBehindThing_100 : decode cX4_takesBehindThing 100 = .ok (.aload_n 0, 1) := by decide +kernel
theorem dX4_takesBehindThing_101 : decode cX4_takesBehindThing 101 = .ok (.iconst 1, 1) := by decide +kernel
theorem dX4_takesBehindThing_102 : decode cX4_takesBehindThing 102 = .ok (.putfield 42, 3) := by decide +kernel
theorem dX4_takesBehindThing_105 : decode cX4_takesBehindThing 105 = .ok (.iconst 1, 1) := by decide +kernel
theorem dX4_takesBehindThing_106 : decode cX4_takesBehindThing 106 = .ok (.ireturn, 1) := by decide +kernel
def p_X4_takesBehindThing_86 (F : Nat) (p1 : Int32) (x_size : Int32) (x_top : Int32) (x_open : Int32) (x_compared : Int32) (f_stack : Nat → Int32) (f_steps : Nat → Int32) (r_36 : Int32) (Post : Int32 → (Int32 × Int32 × Int32 × Int32 × Int32 × (Nat → Int32) × (Nat → Int32)) → Prop) (s2_86 : Int32) : Prop := (p_X4_settle F r_36 x_size x_top f_stack f_steps (fun (u_92 : (Int32 × Int32 × (Nat → Int32))) => (p_X4_push F p1 u_92.2.1 f_stack (fun (u_97 : (Int32 × (Nat → Int32))) => (Post (1 : Int32) (u_92.1, u_97.1, x_open, (x_compared ||| s2_86), (1 : Int32), u_97.2, u_92.2.2))))))
def p_X4_takesBehindThing_66 (F : Nat) (p1 : Int32) (x_size : Int32) (x_top : Int32) (x_open : Int32) (x_compared : Int32) (f_stack : Nat → Int32) (f_steps : Nat → Int32) (r_36 : Int32) (Post : Int32 → (Int32 × Int32 × Int32 × Int32 × Int32 × (Nat → Int32) × (Nat → Int32)) → Prop) : Prop := ((¬ r_36 = (1 : Int32) → (p_X4_takesBehindThing_86 F p1 x_size x_top x_open x_compared f_stack f_steps r_36 Post (0 : Int32))) ∧ (r_36 = (1 : Int32) → (p_X4_takesBehindThing_86 F p1 x_size x_top x_open x_compared f_stack f_steps r_36 Post ((1 : Int32) <<< (x_open &&& 31)))))
def p_X4_takesBehindThing_35 (F : Nat) (p1 : Int32) (x_size : Int32) (x_top : Int32) (x_open : Int32) (x_compared : Int32) (x_wantsThing : Int32) (f_stack : Nat → Int32) (f_steps : Nat → Int32) (Post : Int32 → (Int32 × Int32 × Int32 × Int32 × Int32 × (Nat → Int32) × (Nat → Int32)) → Prop) : Prop := (p_X4_rankOf F p1 (fun (r_36 : Int32) => ((r_36 = 0 → (Post (0 : Int32) (x_size, x_top, x_open, x_compared, x_wantsThing, f_stack, f_steps))) ∧ (¬ r_36 = 0 → ((¬ r_36 = (1 : Int32) → (p_X4_takesBehindThing_66 F p1 x_size x_top x_open x_compared f_stack f_steps r_36 Post )) ∧ (r_36 = (1 : Int32) → ((¬ ((x_compared >>> (x_open &&& 31)) &&& (1 : Int32)) = (1 : Int32) → (p_X4_takesBehindThing_66 F p1 x_size x_top x_open x_compared f_stack f_steps r_36 Post )) ∧ (((x_compared >>> (x_open &&& 31)) &&& (1 : Int32)) = (1 : Int32) → (Post (0 : Int32) (x_size, x_top, x_open, x_compared, x_wantsThing, f_stack, f_steps))))))))))
def p_X4_takesBehindThing (F : Nat) (p1 : Int32) (x_size : Int32) (x_top : Int32) (x_open : Int32) (x_compared : Int32) (x_wantsThing : Int32) (f_stack : Nat → Int32) (f_steps : Nat → Int32) (Post : Int32 → (Int32 × Int32 × Int32 × Int32 × Int32 × (Nat → Int32) × (Nat → Int32)) → Prop) : Prop := ((¬ p1 = (41 : Int32) → (p_X4_takesBehindThing_35 F p1 x_size x_top x_open x_compared x_wantsThing f_stack f_steps Post )) ∧ (p1 = (41 : Int32) → ((x_open ≤ 0 → (p_X4_takesBehindThing_35 F p1 x_size x_top x_open x_compared x_wantsThing f_stack f_steps Post )) ∧ (¬ x_open ≤ 0 → (p_X4_settle F (1 : Int32) x_size x_top f_stack f_steps (fun (u_15 : (Int32 × Int32 × (Nat → Int32))) => (p_X4_pop F u_15.2.1 f_stack (fun (r_19 : Int32) (u_19 : Int32) => (Post (1 : Int32) (u_15.1, u_19, (x_open - (1 : Int32)), x_compared, x_wantsThing, f_stack, u_15.2.2))))))))))
set_option maxHeartbeats 4000000 in
set_option maxRecDepth 100000 in
theorem c_X4_takesBehindThing (l : Launch) (D : va_G) (cT : Nat → ClassId) (F : Nat) (h : Nat) (p1 : Int32) (q_steps : Nat) (q_stack : Nat) (x_size : Int32) (x_top : Int32) (x_open : Int32) (x_compared : Int32) (x_digits : Int32) (x_wantsThing : Int32) (f_stack : Nat → Int32) (f_steps : Nat → Int32) (Post : Int32 → (Int32 × Int32 × Int32 × Int32 × Int32 × (Nat → Int32) × (Nat → Int32)) → Prop) (hg : p_X4_takesBehindThing F p1 x_size x_top x_open x_compared x_wantsThing f_stack f_steps Post) : MWi l D cT yX4_takesBehindThing cX4_takesBehindThing 3 (some .boolean) 2 43 0 0 [.ref h, .int p1] [(h, oX4 (.ref q_steps) (.ref q_stack) (.int x_size) (.int x_top) (.int x_open) (.int x_compared) (.int x_digits) (.int x_wantsThing)), (q_stack, aI cT 40 f_stack), (q_steps, aI cT 40 f_steps)] Post (fun (u : (Int32 × Int32 × Int32 × Int32 × Int32 × (Nat → Int32) × (Nat → Int32))) => [(h, oX4 (.ref q_steps) (.ref q_stack) (.int u.1) (.int u.2.1) (.int u.2.2.1) (.int u.2.2.2.1) (.int x_digits) (.int u.2.2.2.2.1)), (q_stack, aI cT 40 u.2.2.2.2.2.1), (q_steps, aI cT 40 u.2.2.2.2.2.2)]) := by
  refine MWi.of (by decide) (Nat.le_of_ble_eq_true rfl) ?_
  intro p e s m below meth c A hA C0 hnm hr hP hD ls hl
  have hl : lv_has ls 3 [(0, .ref h), (1, .int p1)] := hl
  have hx := C0.x
  have hb := C0.b
  have hS : va_S A s.heap s.heap [] := va_S.rf
  have hP : va_P D cls9 [(h, oX4 (.ref q_steps) (.ref q_stack) (.int x_size) (.int x_top) (.int x_open) (.int x_compared) (.int x_digits) (.int x_wantsThing)), (q_stack, aI cT 40 f_stack), (q_steps, aI cT 40 f_steps)] s.heap := hP
  have hD : va_D A [(h, oX4 (.ref q_steps) (.ref q_stack) (.int x_size) (.int x_top) (.int x_open) (.int x_compared) (.int x_digits) (.int x_wantsThing)), (q_stack, aI cT 40 f_stack), (q_steps, aI cT 40 f_steps)] := hD
  have L86 : ∀ (r_36 : Int32) (s2_86 : Int32) (H : Heap) (locs : List Loc) (ls : Array Slot), p_X4_takesBehindThing_86 F p1 x_size x_top x_open x_compared f_stack f_steps r_36 Post s2_86 → va_P D cls9 [(h, oX4 (.ref q_steps) (.ref q_stack) (.int x_size) (.int x_top) (.int x_open) (.int x_compared) (.int x_digits) (.int x_wantsThing)), (q_stack, aI cT 40 f_stack), (q_steps, aI cT 40 f_steps)] H → va_D A [(h, oX4 (.ref q_steps) (.ref q_stack) (.int x_size) (.int x_top) (.int x_open) (.int x_compared) (.int x_digits) (.int x_wantsThing)), (q_stack, aI cT 40 f_stack), (q_steps, aI cT 40 f_steps)] → va_S A s.heap H locs → lv_has ls 3 [(0, .ref h), (1, .int p1), (2, .int r_36)] → W p l e (rmO 2 43 0 0) s m ([.ref h, .int p1] : List Value).toArray below meth c H locs 0 0 (MQ below (va_Qi Post (cB D A (fun (u : (Int32 × Int32 × Int32 × Int32 × Int32 × (Nat → Int32) × (Nat → Int32))) => [(h, oX4 (.ref q_steps) (.ref q_stack) (.int u.1) (.int u.2.1) (.int u.2.2.1) (.int u.2.2.2.1) (.int x_digits) (.int u.2.2.2.2.1)), (q_stack, aI cT 40 u.2.2.2.2.2.1), (q_steps, aI cT 40 u.2.2.2.2.2.2)])) A) ([.ref h, .int p1] : List Value).toArray s 0 0 A) (F0 m 86 ls [.int s2_86, .int x_compared, .ref h]) := by
    intro r_36 s2_86 H locs ls hg hP hD hS hl
    unfold p_X4_takesBehindThing_86 at hg
    refine lv_ior hx hb dX4_takesBehindThing_86 ?_
    refine pf_X4_58 C0 hP hD hS 0 rfl (Nat.le_of_ble_eq_true rfl) (ws2 := [(h, oX4 (.ref q_steps) (.ref q_stack) (.int x_size) (.int x_top) (.int x_open) (.int (x_compared ||| s2_86)) (.int x_digits) (.int x_wantsThing)), (q_stack, aI cT 40 f_stack), (q_steps, aI cT 40 f_steps)]) rfl dX4_takesBehindThing_87 (fun H locs hP hD hS => ?_)
    refine lv_aload_n hx hb dX4_takesBehindThing_90 rfl (lv_at hl 0 rfl) ?_
    refine lv_iload_n hx hb dX4_takesBehindThing_91 rfl (lv_at hl 2 rfl) ?_
    refine k_Vv (rest := []) (wr := []) (w2 := fun u_92 => [(h, oX4 (.ref q_steps) (.ref q_stack) (.int u_92.1) (.int u_92.2.1) (.int x_open) (.int (x_compared ||| s2_86)) (.int x_digits) (.int x_wantsThing)), (q_stack, aI cT 40 f_stack), (q_steps, aI cT 40 u_92.2.2)]) C0 lk_X4_49 (c_X4_settle l D cT F h r_36 q_steps q_stack x_size x_top x_open (x_compared ||| s2_86) x_digits x_wantsThing f_stack f_steps _ hg) hP hD hS hA [0, 1, 2] [] (by decide +kernel) rfl rfl (fun _ => rfl) rfl rfl ⟨Nat.le_of_ble_eq_true rfl, Nat.le_of_ble_eq_true rfl⟩ rfl hl.1 rfl (Nat.le_of_ble_eq_true rfl) dX4_takesBehindThing_92 ⟨Nat.le_of_ble_eq_true rfl, Nat.le_of_ble_eq_true rfl⟩ ?_
    intro u_92 H locs hg hP hD hS
    refine lv_aload_n hx hb dX4_takesBehindThing_95 rfl (lv_at hl 0 rfl) ?_
    refine lv_iload_n hx hb dX4_takesBehindThing_96 rfl (lv_at hl 1 rfl) ?_
    refine k_Vv (rest := []) (wr := [(q_steps, aI cT 40 u_92.2.2)]) (w2 := fun u_97 => [(q_steps, aI cT 40 u_92.2.2), (h, oX4 (.ref q_steps) (.ref q_stack) (.int u_92.1) (.int u_97.1) (.int x_open) (.int (x_compared ||| s2_86)) (.int x_digits) (.int x_wantsThing)), (q_stack, aI cT 40 u_97.2)]) C0 lk_X4_73 (c_X4_push l D cT F h p1 (.ref q_steps) q_stack u_92.1 u_92.2.1 x_open (x_compared ||| s2_86) x_digits x_wantsThing f_stack _ hg) hP hD hS hA [0, 1] [2] (by decide +kernel) rfl rfl (fun _ => rfl) rfl rfl ⟨Nat.le_of_ble_eq_true rfl, Nat.le_of_ble_eq_true rfl⟩ rfl hl.1 rfl (Nat.le_of_ble_eq_true rfl) dX4_takesBehindThing_97 ⟨Nat.le_of_ble_eq_true rfl, Nat.le_of_ble_eq_true rfl⟩ ?_
    intro u_97 H locs hg hP hD hS
    refine lv_aload_n hx hb dX4_takesBehindThing_100 rfl (lv_at hl 0 rfl) ?_
    refine lv_iconst (v := (1 : Int32)) hx hb dX4_takesBehindThing_101 (by decide) ?_
    refine pf_X4_42 C0 hP hD hS 1 rfl (Nat.le_of_ble_eq_true rfl) (Or.inr rfl) (ws2 := [(q_steps, aI cT 40 u_92.2.2), (h, oX4 (.ref q_steps) (.ref q_stack) (.int u_92.1) (.int u_97.1) (.int x_open) (.int (x_compared ||| s2_86)) (.int x_digits) (.int (1 : Int32))), (q_stack, aI cT 40 u_97.2)]) rfl dX4_takesBehindThing_102 (fun H locs hP hD hS => ?_)
    refine lv_iconst (v := (1 : Int32)) hx hb dX4_takesBehindThing_105 (by decide) ?_
    exact k_zret C0 hr (Or.inr rfl) (u_92.1, u_97.1, x_open, (x_compared ||| s2_86), (1 : Int32), u_97.2, u_92.2.2) hg (subP hP [1, 2, 0] rfl) (hD.sub [1, 2, 0] (nd2_ok _ (by decide +kernel)) rfl) hS dX4_takesBehindThing_106
  have L66 : ∀ (r_36 : Int32) (H : Heap) (locs : List Loc) (ls : Array Slot), p_X4_takesBehindThing_66 F p1 x_size x_top x_open x_compared f_stack f_steps r_36 Post → va_P D cls9 [(h, oX4 (.ref q_steps) (.ref q_stack) (.int x_size) (.int x_top) (.int x_open) (.int x_compared) (.int x_digits) (.int x_wantsThing)), (q_stack, aI cT 40 f_stack), (q_steps, aI cT 40 f_steps)] H → va_D A [(h, oX4 (.ref q_steps) (.ref q_stack) (.int x_size) (.int x_top) (.int x_open) (.int x_compared) (.int x_digits) (.int x_wantsThing)), (q_stack, aI cT 40 f_stack), (q_steps, aI cT 40 f_steps)] → va_S A s.heap H locs → lv_has ls 3 [(0, .ref h), (1, .int p1), (2, .int r_36)] → W p l e (rmO 2 43 0 0) s m ([.ref h, .int p1] : List Value).toArray below meth c H locs 0 0 (MQ below (va_Qi Post (cB D A (fun (u : (Int32 × Int32 × Int32 × Int32 × Int32 × (Nat → Int32) × (Nat → Int32))) => [(h, oX4 (.ref q_steps) (.ref q_stack) (.int u.1) (.int u.2.1) (.int u.2.2.1) (.int u.2.2.2.1) (.int x_digits) (.int u.2.2.2.2.1)), (q_stack, aI cT 40 u.2.2.2.2.2.1), (q_steps, aI cT 40 u.2.2.2.2.2.2)])) A) ([.ref h, .int p1] : List Value).toArray s 0 0 A) (F0 m 66 ls []) := by
    intro r_36 H locs ls hg hP hD hS hl
    unfold p_X4_takesBehindThing_66 at hg
    refine lv_aload_n hx hb dX4_takesBehindThing_66 rfl (lv_at hl 0 rfl) ?_
    refine lv_dup hx hb dX4_takesBehindThing_67 rfl ?_
    refine gf_X4_58 C0 hP 0 rfl rfl dX4_takesBehindThing_68 ?_
    refine lv_iload_n hx hb dX4_takesBehindThing_71 rfl (lv_at hl 2 rfl) ?_
    refine lv_iconst (v := (1 : Int32)) hx hb dX4_takesBehindThing_72 (by decide) ?_
    refine lv_icmp_ne (tgt := 85) hx hb dX4_takesBehindThing_73 (by decide) (fun c_73 => ?_) (fun c_73 => ?_)
    · have hg := hg.1 c_73
      refine lv_iconst (v := (0 : Int32)) hx hb dX4_takesBehindThing_85 (by decide) ?_
      exact L86 r_36 (0 : Int32) _ _ _ hg hP hD hS hl
    have hg := hg.2 c_73
    refine lv_iconst (v := (1 : Int32)) hx hb dX4_takesBehindThing_76 (by decide) ?_
    refine lv_aload_n hx hb dX4_takesBehindThing_77 rfl (lv_at hl 0 rfl) ?_
    refine gf_X4_46 C0 hP 0 rfl rfl dX4_takesBehindThing_78 ?_
    refine lv_ishl hx hb dX4_takesBehindThing_81 ?_
    refine lv_goto (tgt := 86) hx hb dX4_takesBehindThing_82 (by decide) ?_
    exact L86 r_36 ((1 : Int32) <<< (x_open &&& 31)) _ _ _ hg hP hD hS hl
  have L35 : ∀ (H : Heap) (locs : List Loc) (ls : Array Slot), p_X4_takesBehindThing_35 F p1 x_size x_top x_open x_compared x_wantsThing f_stack f_steps Post → va_P D cls9 [(h, oX4 (.ref q_steps) (.ref q_stack) (.int x_size) (.int x_top) (.int x_open) (.int x_compared) (.int x_digits) (.int x_wantsThing)), (q_stack, aI cT 40 f_stack), (q_steps, aI cT 40 f_steps)] H → va_D A [(h, oX4 (.ref q_steps) (.ref q_stack) (.int x_size) (.int x_top) (.int x_open) (.int x_compared) (.int x_digits) (.int x_wantsThing)), (q_stack, aI cT 40 f_stack), (q_steps, aI cT 40 f_steps)] → va_S A s.heap H locs → lv_has ls 3 [(0, .ref h), (1, .int p1)] → W p l e (rmO 2 43 0 0) s m ([.ref h, .int p1] : List Value).toArray below meth c H locs 0 0 (MQ below (va_Qi Post (cB D A (fun (u : (Int32 × Int32 × Int32 × Int32 × Int32 × (Nat → Int32) × (Nat → Int32))) => [(h, oX4 (.ref q_steps) (.ref q_stack) (.int u.1) (.int u.2.1) (.int u.2.2.1) (.int u.2.2.2.1) (.int x_digits) (.int u.2.2.2.2.1)), (q_stack, aI cT 40 u.2.2.2.2.2.1), (q_steps, aI cT 40 u.2.2.2.2.2.2)])) A) ([.ref h, .int p1] : List Value).toArray s 0 0 A) (F0 m 35 ls []) := by
    intro H locs ls hg hP hD hS hl
    unfold p_X4_takesBehindThing_35 at hg
    refine lv_iload_n hx hb dX4_takesBehindThing_35 rfl (lv_at hl 1 rfl) ?_
    refine k_Sxi (rest := []) C0 lk_X4_80 (c_X4_rankOf l D cT F p1 _ hg) hP hD hS hA [] (by decide +kernel) rfl ⟨Nat.le_of_ble_eq_true rfl, Nat.le_of_ble_eq_true rfl⟩ rfl hl.1 rfl (Nat.le_of_ble_eq_true rfl) dX4_takesBehindThing_36 ⟨Nat.le_of_ble_eq_true rfl, Nat.le_of_ble_eq_true rfl⟩ (fun r_36 hg => ?_)
    refine lv_istore_n (lv' := [(2, .int r_36), (0, .ref h), (1, .int p1)]) hx hb dX4_takesBehindThing_39 rfl hl (by decide) rfl (fun ls hl => ?_)
    refine lv_iload_n hx hb dX4_takesBehindThing_40 rfl (lv_at hl 0 rfl) ?_
    refine lv_if_eq (tgt := 64) hx hb dX4_takesBehindThing_41 (by decide) (fun c_41 => ?_) (fun c_41 => ?_)
    · have hg := hg.1 c_41
      refine lv_iconst (v := (0 : Int32)) hx hb dX4_takesBehindThing_64 (by decide) ?_
      exact k_zret C0 hr (Or.inl rfl) (x_size, x_top, x_open, x_compared, x_wantsThing, f_stack, f_steps) hg hP hD hS dX4_takesBehindThing_65
    have hg := hg.2 c_41
    refine lv_iload_n hx hb dX4_takesBehindThing_44 rfl (lv_at hl 0 rfl) ?_
    refine lv_iconst (v := (1 : Int32)) hx hb dX4_takesBehindThing_45 (by decide) ?_
    refine lv_icmp_ne (tgt := 66) hx hb dX4_takesBehindThing_46 (by decide) (fun c_46 => ?_) (fun c_46 => ?_)
    · have hg := hg.1 c_46
      exact L66 r_36 _ _ _ hg hP hD hS (lv_sub hl [1, 2, 0] rfl)
    have hg := hg.2 c_46
    refine lv_aload_n hx hb dX4_takesBehindThing_49 rfl (lv_at hl 1 rfl) ?_
    refine gf_X4_58 C0 hP 0 rfl rfl dX4_takesBehindThing_50 ?_
    refine lv_aload_n hx hb dX4_takesBehindThing_53 rfl (lv_at hl 1 rfl) ?_
    refine gf_X4_46 C0 hP 0 rfl rfl dX4_takesBehindThing_54 ?_
    refine lv_ishr hx hb dX4_takesBehindThing_57 ?_
    refine lv_iconst (v := (1 : Int32)) hx hb dX4_takesBehindThing_58 (by decide) ?_
    refine lv_iand hx hb dX4_takesBehindThing_59 ?_
    refine lv_iconst (v := (1 : Int32)) hx hb dX4_takesBehindThing_60 (by decide) ?_
    refine lv_icmp_ne (tgt := 66) hx hb dX4_takesBehindThing_61 (by decide) (fun c_61 => ?_) (fun c_61 => ?_)
    · have hg := hg.1 c_61
      exact L66 r_36 _ _ _ hg hP hD hS (lv_sub hl [1, 2, 0] rfl)
    have hg := hg.2 c_61
    refine lv_iconst (v := (0 : Int32)) hx hb dX4_takesBehindThing_64 (by decide) ?_
    exact k_zret C0 hr (Or.inl rfl) (x_size, x_top, x_open, x_compared, x_wantsThing, f_stack, f_steps) hg hP hD hS dX4_takesBehindThing_65
  unfold p_X4_takesBehindThing at hg
  refine lv_iload_n hx hb dX4_takesBehindThing_0 rfl (lv_at hl 1 rfl) ?_
  refine lv_bipush (v := (41 : Int32)) hx hb dX4_takesBehindThing_1 (by decide) ?_
  refine lv_icmp_ne (tgt := 35) hx hb dX4_takesBehindThing_3 (by decide) (fun c_3 => ?_) (fun c_3 => ?_)
  · have hg := hg.1 c_3
    exact L35 _ _ _ hg hP hD hS hl
  have hg := hg.2 c_3
  refine lv_aload_n hx hb dX4_takesBehindThing_6 rfl (lv_at hl 0 rfl) ?_
  refine gf_X4_46 C0 hP 0 rfl rfl dX4_takesBehindThing_7 ?_
  refine lv_if_le (tgt := 35) hx hb dX4_takesBehindThing_10 (by decide) (fun c_10 => ?_) (fun c_10 => ?_)
  · have hg := hg.1 c_10
    exact L35 _ _ _ hg hP hD hS hl
  have hg := hg.2 c_10
  refine lv_aload_n hx hb dX4_takesBehindThing_13 rfl (lv_at hl 0 rfl) ?_
  refine lv_iconst (v := (1 : Int32)) hx hb dX4_takesBehindThing_14 (by decide) ?_
  refine k_Vv (rest := []) (wr := []) (w2 := fun u_15 => [(h, oX4 (.ref q_steps) (.ref q_stack) (.int u_15.1) (.int u_15.2.1) (.int x_open) (.int x_compared) (.int x_digits) (.int x_wantsThing)), (q_stack, aI cT 40 f_stack), (q_steps, aI cT 40 u_15.2.2)]) C0 lk_X4_49 (c_X4_settle l D cT F h (1 : Int32) q_steps q_stack x_size x_top x_open x_compared x_digits x_wantsThing f_stack f_steps _ hg) hP hD hS hA [0, 1, 2] [] (by decide +kernel) rfl rfl (fun _ => rfl) rfl rfl ⟨Nat.le_of_ble_eq_true rfl, Nat.le_of_ble_eq_true rfl⟩ rfl hl.1 rfl (Nat.le_of_ble_eq_true rfl) dX4_takesBehindThing_15 ⟨Nat.le_of_ble_eq_true rfl, Nat.le_of_ble_eq_true rfl⟩ ?_
  intro u_15 H locs hg hP hD hS
  refine lv_aload_n hx hb dX4_takesBehindThing_18 rfl (lv_at hl 0 rfl) ?_
  refine k_Vi (rest := []) (wr := [(q_steps, aI cT 40 u_15.2.2)]) (w2 := fun u_19 => [(q_steps, aI cT 40 u_15.2.2), (h, oX4 (.ref q_steps) (.ref q_stack) (.int u_15.1) (.int u_19) (.int x_open) (.int x_compared) (.int x_digits) (.int x_wantsThing)), (q_stack, aI cT 40 f_stack)]) C0 lk_X4_76 (c_X4_pop l D cT F h (.ref q_steps) q_stack u_15.1 u_15.2.1 x_open x_compared x_digits x_wantsThing f_stack _ hg) hP hD hS hA [0, 1] [2] (by decide +kernel) rfl rfl (fun _ => rfl) rfl rfl ⟨Nat.le_of_ble_eq_true rfl, Nat.le_of_ble_eq_true rfl⟩ rfl hl.1 rfl (Nat.le_of_ble_eq_true rfl) dX4_takesBehindThing_19 ⟨Nat.le_of_ble_eq_true rfl, Nat.le_of_ble_eq_true rfl⟩ ?_
  intro r_19 u_19 H locs hg hP hD hS
  refine lv_pop hx hb dX4_takesBehindThing_22 rfl ?_
  refine lv_aload_n hx hb dX4_takesBehindThing_23 rfl (lv_at hl 0 rfl) ?_
  refine lv_dup hx hb dX4_takesBehindThing_24 rfl ?_
  refine gf_X4_46 C0 hP 1 rfl rfl dX4_takesBehindThing_25 ?_
  refine lv_iconst (v := (1 : Int32)) hx hb dX4_takesBehindThing_28 (by decide) ?_
  refine lv_isub hx hb dX4_takesBehindThing_29 ?_
  refine pf_X4_46 C0 hP hD hS 1 rfl (Nat.le_of_ble_eq_true rfl) (ws2 := [(q_steps, aI cT 40 u_15.2.2), (h, oX4 (.ref q_steps) (.ref q_stack) (.int u_15.1) (.int u_19) (.int (x_open - (1 : Int32))) (.int x_compared) (.int x_digits) (.int x_wantsThing)), (q_stack, aI cT 40 f_stack)]) rfl dX4_takesBehindThing_30 (fun H locs hP hD hS => ?_)
  refine lv_iconst (v := (1 : Int32)) hx hb dX4_takesBehindThing_33 (by decide) ?_
  exact k_zret C0 hr (Or.inr rfl) (u_15.1, u_19, (x_open - (1 : Int32)), x_compared, x_wantsThing, f_stack, u_15.2.2) hg (subP hP [1, 2, 0] rfl) (hD.sub [1, 2, 0] (nd2_ok _ (by decide +kernel)) rfl) hS dX4_takesBehindThing_34
theorem dX4_takes_0 : decode cX4_takes 0 = .ok (.iload_n 1, 1) := by decide +kernel
theorem dX4_takes_1 : decode cX4_takes 1 = .ok (.bipush 48, 2) := by decide +kernel
theorem dX4_takes_3 : decode cX4_takes 3 = .ok (.if_icmp .lt 18, 3) := by decide +kernel
theorem dX4_takes_6 : decode cX4_takes 6 = .ok (.iload_n 1, 1) := by decide +kernel
theorem dX4_takes_7 : decode cX4_takes 7 = .ok (.bipush 57, 2) := by decide +kernel
theorem dX4_takes_9 : decode cX4_takes 9 = .ok (.if_icmp .gt 12, 3) := by decide +kernel
theorem dX4_takes_12 : decode cX4_takes 12 = .ok (.aload_n 0, 1) := by decide +kernel
theorem dX4_takes_13 : decode cX4_takes 13 = .ok (.iload_n 1, 1) := by decide +kernel
theorem dX4_takes_14 : decode cX4_takes 14 = .ok (.bipush 48, 2) := by decide +kernel
theorem dX4_takes_16 : decode cX4_takes 16 = .ok (.isub, 1) := by decide +kernel
theorem dX4_takes_17 : decode cX4_takes 17 = .ok (.invokevirtual 64, 3) := by decide +kernel
theorem dX4_takes_20 : decode cX4_takes 20 = .ok (.ireturn, 1) := by decide +kernel
theorem dX4_takes_21 : decode cX4_takes 21 = .ok (.aload_n 0, 1) := by decide +kernel
theorem dX4_takes_22 : decode cX4_takes 22 = .ok (.iconst 0, 1) := by decide +kernel
theorem dX4_takes_23 : decode cX4_takes 23 = .ok (.putfield 61, 3) := by decide +kernel
theorem dX4_takes_26 : decode cX4_takes 26 = .ok (.aload_n 0, 1) := by decide +kernel
theorem dX4_takes_27 : decode cX4_takes 27 = .ok (.getfield 42, 3) := by decide +kernel
theorem dX4_takes_30 : decode cX4_takes 30 = .ok (.ifCond .eq 11, 3) := by decide +kernel
theorem dX4_takes_33 : decode cX4_takes 33 = .ok (.aload_n 0, 1) := by decide +kernel
theorem dX4_takes_34 : decode cX4_takes 34 = .ok (.iload_n 1, 1) := by decide +kernel
theorem dX4_takes_35 : decode cX4_takes 35 = .ok (.invokevirtual 67, 3) := by decide +kernel
theorem dX4_takes_38 : decode cX4_takes 38 = .ok (.goto 8, 3) := by decide +kernel
theorem dX4_takes_41 : decode cX4_takes 41 = .ok (.aload_n 0, 1) := by decide +kernel
theorem dX4_takes_42 : decode cX4_takes 42 = .ok (.iload_n 1, 1) := by decide +kernel
theorem dX4_takes_43 : decode cX4_takes 43 = .ok (.invokevirtual 70, 3) := by decide +kernel
theorem dX4_takes_46 : decode cX4_takes 46 = .ok (.ireturn, 1) := by decide +kernel
def p_X4_takes_21 (F : Nat) (p1 : Int32) (x_size : Int32) (x_top : Int32) (x_open : Int32) (x_compared : Int32) (x_wantsThing : Int32) (f_steps : Nat → Int32) (f_stack : Nat → Int32) (Post : Int32 → (Int32 × Int32 × Int32 × Int32 × Int32 × Int32 × (Nat → Int32) × (Nat → Int32)) → Prop) : Prop := ((x_wantsThing = 0 → (p_X4_takesBehindThing F p1 x_size x_top x_open x_compared x_wantsThing f_stack f_steps (fun (r_43 : Int32) (u_43 : (Int32 × Int32 × Int32 × Int32 × Int32 × (Nat → Int32) × (Nat → Int32))) => ((r_43 = 0 ∨ r_43 = 1) ∧ (Post r_43 (u_43.1, u_43.2.1, u_43.2.2.1, u_43.2.2.2.1, (0 : Int32), u_43.2.2.2.2.1, u_43.2.2.2.2.2.2, u_43.2.2.2.2.2.1)))))) ∧ (¬ x_wantsThing = 0 → (p_X4_takesThing F p1 x_size x_top x_open x_compared x_wantsThing f_steps f_stack (fun (r_35 : Int32) (u_35 : (Int32 × Int32 × Int32 × Int32 × Int32 × (Nat → Int32) × (Nat → Int32))) => ((r_35 = 0 ∨ r_35 = 1) ∧ (Post r_35 (u_35.1, u_35.2.1, u_35.2.2.1, u_35.2.2.2.1, (0 : Int32), u_35.2.2.2.2.1, u_35.2.2.2.2.2.1, u_35.2.2.2.2.2.2)))))))
def p_X4_takes (F : Nat) (p1 : Int32) (x_size : Int32) (x_top : Int32) (x_open : Int32) (x_compared : Int32) (x_digits : Int32) (x_wantsThing : Int32) (f_steps : Nat → Int32) (f_stack : Nat → Int32) (Post : Int32 → (Int32 × Int32 × Int32 × Int32 × Int32 × Int32 × (Nat → Int32) × (Nat → Int32)) → Prop) : Prop := ((p1 < (48 : Int32) → (p_X4_takes_21 F p1 x_size x_top x_open x_compared x_wantsThing f_steps f_stack Post )) ∧ (¬ p1 < (48 : Int32) → (((57 : Int32) < p1 → (p_X4_takes_21 F p1 x_size x_top x_open x_compared x_wantsThing f_steps f_stack Post )) ∧ (¬ (57 : Int32) < p1 → (p_X4_takesDigit F (p1 - (48 : Int32)) x_size x_digits x_wantsThing f_steps (fun (r_17 : Int32) (u_17 : (Int32 × Int32 × Int32 × (Nat → Int32))) => ((r_17 = 0 ∨ r_17 = 1) ∧ (Post r_17 (u_17.1, x_top, x_open, x_compared, u_17.2.1, u_17.2.2.1, u_17.2.2.2, f_stack)))))))))
set_option maxHeartbeats 4000000 in
set_option maxRecDepth 100000 in
theorem c_X4_takes (l : Launch) (D : va_G) (cT : Nat → ClassId) (F : Nat) (h : Nat) (p1 : Int32) (q_steps : Nat) (q_stack : Nat) (x_size : Int32) (x_top : Int32) (x_open : Int32) (x_compared : Int32) (x_digits : Int32) (x_wantsThing : Int32) (f_steps : Nat → Int32) (f_stack : Nat → Int32) (Post : Int32 → (Int32 × Int32 × Int32 × Int32 × Int32 × Int32 × (Nat → Int32) × (Nat → Int32)) → Prop) (hg : p_X4_takes F p1 x_size x_top x_open x_compared x_digits x_wantsThing f_steps f_stack Post) : MWi l D cT yX4_takes cX4_takes 2 (some .boolean) 3 65 0 0 [.ref h, .int p1] [(h, oX4 (.ref q_steps) (.ref q_stack) (.int x_size) (.int x_top) (.int x_open) (.int x_compared) (.int x_digits) (.int x_wantsThing)), (q_steps, aI cT 40 f_steps), (q_stack, aI cT 40 f_stack)] Post (fun (u : (Int32 × Int32 × Int32 × Int32 × Int32 × Int32 × (Nat → Int32) × (Nat → Int32))) => [(h, oX4 (.ref q_steps) (.ref q_stack) (.int u.1) (.int u.2.1) (.int u.2.2.1) (.int u.2.2.2.1) (.int u.2.2.2.2.1) (.int u.2.2.2.2.2.1)), (q_steps, aI cT 40 u.2.2.2.2.2.2.1), (q_stack, aI cT 40 u.2.2.2.2.2.2.2)]) := by
  refine MWi.of (by decide) (Nat.le_of_ble_eq_true rfl) ?_
  intro p e s m below meth c A hA C0 hnm hr hP hD ls hl
  have hl : lv_has ls 2 [(0, .ref h), (1, .int p1)] := hl
  have hx := C0.x
  have hb := C0.b
  have hS : va_S A s.heap s.heap [] := va_S.rf
  have hP : va_P D cls9 [(h, oX4 (.ref q_steps) (.ref q_stack) (.int x_size) (.int x_top) (.int x_open) (.int x_compared) (.int x_digits) (.int x_wantsThing)), (q_steps, aI cT 40 f_steps), (q_stack, aI cT 40 f_stack)] s.heap := hP
  have hD : va_D A [(h, oX4 (.ref q_steps) (.ref q_stack) (.int x_size) (.int x_top) (.int x_open) (.int x_compared) (.int x_digits) (.int x_wantsThing)), (q_steps, aI cT 40 f_steps), (q_stack, aI cT 40 f_stack)] := hD
  have L21 : ∀ (H : Heap) (locs : List Loc) (ls : Array Slot), p_X4_takes_21 F p1 x_size x_top x_open x_compared x_wantsThing f_steps f_stack Post → va_P D cls9 [(h, oX4 (.ref q_steps) (.ref q_stack) (.int x_size) (.int x_top) (.int x_open) (.int x_compared) (.int x_digits) (.int x_wantsThing)), (q_steps, aI cT 40 f_steps), (q_stack, aI cT 40 f_stack)] H → va_D A [(h, oX4 (.ref q_steps) (.ref q_stack) (.int x_size) (.int x_top) (.int x_open) (.int x_compared) (.int x_digits) (.int x_wantsThing)), (q_steps, aI cT 40 f_steps), (q_stack, aI cT 40 f_stack)] → va_S A s.heap H locs → lv_has ls 2 [(0, .ref h), (1, .int p1)] → W p l e (rmO 3 65 0 0) s m ([.ref h, .int p1] : List Value).toArray below meth c H locs 0 0 (MQ below (va_Qi Post (cB D A (fun (u : (Int32 × Int32 × Int32 × Int32 × Int32 × Int32 × (Nat → Int32) × (Nat → Int32))) => [(h, oX4 (.ref q_steps) (.ref q_stack) (.int u.1) (.int u.2.1) (.int u.2.2.1) (.int u.2.2.2.1) (.int u.2.2.2.2.1) (.int u.2.2.2.2.2.1)), (q_steps, aI cT 40 u.2.2.2.2.2.2.1), (q_stack, aI cT 40 u.2.2.2.2.2.2.2)])) A) ([.ref h, .int p1] : List Value).toArray s 0 0 A) (F0 m 21 ls []) := by
    intro H locs ls hg hP hD hS hl
    unfold p_X4_takes_21 at hg
    refine lv_aload_n hx hb dX4_takes_21 rfl (lv_at hl 0 rfl) ?_
    refine lv_iconst (v := (0 : Int32)) hx hb dX4_takes_22 (by decide) ?_
    refine pf_X4_61 C0 hP hD hS 0 rfl (Nat.le_of_ble_eq_true rfl) (ws2 := [(h, oX4 (.ref q_steps) (.ref q_stack) (.int x_size) (.int x_top) (.int x_open) (.int x_compared) (.int (0 : Int32)) (.int x_wantsThing)), (q_steps, aI cT 40 f_steps), (q_stack, aI cT 40 f_stack)]) rfl dX4_takes_23 (fun H locs hP hD hS => ?_)
    refine lv_aload_n hx hb dX4_takes_26 rfl (lv_at hl 0 rfl) ?_
    refine gf_X4_42 C0 hP 0 rfl rfl dX4_takes_27 ?_
    refine lv_if_eq (tgt := 41) hx hb dX4_takes_30 (by decide) (fun c_30 => ?_) (fun c_30 => ?_)
    · have hg := hg.1 c_30
      refine lv_aload_n hx hb dX4_takes_41 rfl (lv_at hl 0 rfl) ?_
      refine lv_iload_n hx hb dX4_takes_42 rfl (lv_at hl 1 rfl) ?_
      refine k_Vi (rest := []) (wr := []) (w2 := fun u_43 => [(h, oX4 (.ref q_steps) (.ref q_stack) (.int u_43.1) (.int u_43.2.1) (.int u_43.2.2.1) (.int u_43.2.2.2.1) (.int (0 : Int32)) (.int u_43.2.2.2.2.1)), (q_stack, aI cT 40 u_43.2.2.2.2.2.1), (q_steps, aI cT 40 u_43.2.2.2.2.2.2)]) C0 lk_X4_70 (c_X4_takesBehindThing l D cT F h p1 q_steps q_stack x_size x_top x_open x_compared (0 : Int32) x_wantsThing f_stack f_steps _ hg) hP hD hS hA [0, 2, 1] [] (by decide +kernel) rfl rfl (fun _ => rfl) rfl rfl ⟨Nat.le_of_ble_eq_true rfl, Nat.le_of_ble_eq_true rfl⟩ rfl hl.1 rfl (Nat.le_of_ble_eq_true rfl) dX4_takes_43 ⟨Nat.le_of_ble_eq_true rfl, Nat.le_of_ble_eq_true rfl⟩ ?_
      intro r_43 u_43 H locs hg hP hD hS
      obtain ⟨g_46, hg⟩ := hg
      exact k_zret C0 hr g_46 (u_43.1, u_43.2.1, u_43.2.2.1, u_43.2.2.2.1, (0 : Int32), u_43.2.2.2.2.1, u_43.2.2.2.2.2.2, u_43.2.2.2.2.2.1) hg (subP hP [0, 2, 1] rfl) (hD.sub [0, 2, 1] (nd2_ok _ (by decide +kernel)) rfl) hS dX4_takes_46
    have hg := hg.2 c_30
    refine lv_aload_n hx hb dX4_takes_33 rfl (lv_at hl 0 rfl) ?_
    refine lv_iload_n hx hb dX4_takes_34 rfl (lv_at hl 1 rfl) ?_
    refine k_Vi (rest := []) (wr := []) (w2 := fun u_35 => [(h, oX4 (.ref q_steps) (.ref q_stack) (.int u_35.1) (.int u_35.2.1) (.int u_35.2.2.1) (.int u_35.2.2.2.1) (.int (0 : Int32)) (.int u_35.2.2.2.2.1)), (q_steps, aI cT 40 u_35.2.2.2.2.2.1), (q_stack, aI cT 40 u_35.2.2.2.2.2.2)]) C0 lk_X4_67 (c_X4_takesThing l D cT F h p1 q_steps q_stack x_size x_top x_open x_compared (0 : Int32) x_wantsThing f_steps f_stack _ hg) hP hD hS hA [0, 1, 2] [] (by decide +kernel) rfl rfl (fun _ => rfl) rfl rfl ⟨Nat.le_of_ble_eq_true rfl, Nat.le_of_ble_eq_true rfl⟩ rfl hl.1 rfl (Nat.le_of_ble_eq_true rfl) dX4_takes_35 ⟨Nat.le_of_ble_eq_true rfl, Nat.le_of_ble_eq_true rfl⟩ ?_
    intro r_35 u_35 H locs hg hP hD hS
    refine lv_goto (tgt := 46) hx hb dX4_takes_38 (by decide) ?_
    obtain ⟨g_46, hg⟩ := hg
    exact k_zret C0 hr g_46 (u_35.1, u_35.2.1, u_35.2.2.1, u_35.2.2.2.1, (0 : Int32), u_35.2.2.2.2.1, u_35.2.2.2.2.2.1, u_35.2.2.2.2.2.2) hg hP hD hS dX4_takes_46
  unfold p_X4_takes at hg
  refine lv_iload_n hx hb dX4_takes_0 rfl (lv_at hl 1 rfl) ?_
  refine lv_bipush (v := (48 : Int32)) hx hb dX4_takes_1 (by decide) ?_
  refine lv_icmp_lt (tgt := 21) hx hb dX4_takes_3 (by decide) (fun c_3 => ?_) (fun c_3 => ?_)
  · have hg := hg.1 c_3
    exact L21 _ _ _ hg hP hD hS hl
  have hg := hg.2 c_3
  refine lv_iload_n hx hb dX4_takes_6 rfl (lv_at hl 1 rfl) ?_
  refine lv_bipush (v := (57 : Int32)) hx hb dX4_takes_7 (by decide) ?_
  refine lv_icmp_gt (tgt := 21) hx hb dX4_takes_9 (by decide) (fun c_9 => ?_) (fun c_9 => ?_)
  · have hg := hg.1 c_9
    exact L21 _ _ _ hg hP hD hS hl
  have hg := hg.2 c_9
  refine lv_aload_n hx hb dX4_takes_12 rfl (lv_at hl 0 rfl) ?_
  refine lv_iload_n hx hb dX4_takes_13 rfl (lv_at hl 1 rfl) ?_
  refine lv_bipush (v := (48 : Int32)) hx hb dX4_takes_14 (by decide) ?_
  refine lv_isub hx hb dX4_takes_16 ?_
  refine k_Vi (rest := []) (wr := [(q_stack, aI cT 40 f_stack)]) (w2 := fun u_17 => [(q_stack, aI cT 40 f_stack), (h, oX4 (.ref q_steps) (.ref q_stack) (.int u_17.1) (.int x_top) (.int x_open) (.int x_compared) (.int u_17.2.1) (.int u_17.2.2.1)), (q_steps, aI cT 40 u_17.2.2.2)]) C0 lk_X4_64 (c_X4_takesDigit l D cT F h (p1 - (48 : Int32)) q_steps (.ref q_stack) x_size x_top x_open x_compared x_digits x_wantsThing f_steps _ hg) hP hD hS hA [0, 1] [2] (by decide +kernel) rfl rfl (fun _ => rfl) rfl rfl ⟨Nat.le_of_ble_eq_true rfl, Nat.le_of_ble_eq_true rfl⟩ rfl hl.1 rfl (Nat.le_of_ble_eq_true rfl) dX4_takes_17 ⟨Nat.le_of_ble_eq_true rfl, Nat.le_of_ble_eq_true rfl⟩ ?_
  intro r_17 u_17 H locs hg hP hD hS
  obtain ⟨g_20, hg⟩ := hg
  exact k_zret C0 hr g_20 (u_17.1, x_top, x_open, x_compared, u_17.2.1, u_17.2.2.1, u_17.2.2.2, f_stack) hg (subP hP [1, 2, 0] rfl) (hD.sub [1, 2, 0] (nd2_ok _ (by decide +kernel)) rfl) hS dX4_takes_20
theorem dX4_read_0 : decode cX4_read 0 = .ok (.aload_n 0, 1) := by decide +kernel
theorem dX4_read_1 : decode cX4_read 1 = .ok (.invokevirtual 25, 3) := by decide +kernel
theorem dX4_read_4 : decode cX4_read 4 = .ok (.aload_n 1, 1) := by decide +kernel
theorem dX4_read_5 : decode cX4_read 5 = .ok (.getfield 28, 3) := by decide +kernel
theorem dX4_read_8 : decode cX4_read 8 = .ok (.ifCond .ne 9, 3) := by decide +kernel
theorem dX4_read_11 : decode cX4_read 11 = .ok (.aload_n 0, 1) := by decide +kernel
theorem dX4_read_12 : decode cX4_read 12 = .ok (.invokevirtual 18, 3) := by decide +kernel
theorem dX4_read_15 : decode cX4_read 15 = .ok (.iconst (-1), 1) := by decide +kernel
theorem dX4_read_16 : decode cX4_read 16 = .ok (.ireturn, 1) := by decide +kernel
theorem dX4_read_17 : decode cX4_read 17 = .ok (.iconst 0, 1) := by decide +kernel
theorem dX4_read_18 : decode cX4_read 18 = .ok (.istore_n 2, 1) := by decide +kernel
theorem dX4_read_19 : decode cX4_read 19 = .ok (.iload_n 2, 1) := by decide +kernel
theorem dX4_read_20 : decode cX4_read 20 = .ok (.aload_n 1, 1) := by decide +kernel
theorem dX4_read_21 : decode cX4_read 21 = .ok (.getfield 28, 3) := by decide +kernel
theorem dX4_read_24 : decode cX4_read 24 = .ok (.if_icmp .ge 29, 3) := by decide +kernel
theorem dX4_read_27 : decode cX4_read 27 = .ok (.iload_n 2, 1) := by decide +kernel
theorem dX4_read_28 : decode cX4_read 28 = .ok (.bipush 40, 2) := by decide +kernel
theorem dX4_read_30 : decode cX4_read 30 = .ok (.if_icmp .eq 15, 3) := by decide +kernel
theorem dX4_read_33 : decode cX4_read 33 = .ok (.aload_n 0, 1) := by decide +kernel
theorem dX4_read_34 : decode cX4_read 34 = .ok (.aload_n 1, 1) := by decide +kernel
theorem dX4_read_35 : decode cX4_read 35 = .ok (.iload_n 2, 1) := by decide +kernel
theorem dX4_read_36 : decode cX4_read 36 = .ok (.invokevirtual 34, 3) := by decide +kernel
theorem dX4_read_39 : decode cX4_read 39 = .ok (.invokevirtual 38, 3) := by decide +kernel
theorem dX4_read_42 : decode cX4_read 42 = .ok (.ifCond .ne 5, 3) := by decide +kernel
theorem dX4_read_45 : decode cX4_read 45 = .ok (.iload_n 2, 1) := by decide +kernel
theorem dX4_read_46 : decode cX4_read 46 = .ok (.ireturn, 1) := by decide +kernel
theorem dX4_read_47 : decode cX4_read 47 = .ok (.iinc 2 1, 3) := by decide +kernel
theorem dX4_read_50 : decode cX4_read 50 = .ok (.goto (-31), 3) := by decide +kernel
theorem dX4_read_53 : decode cX4_read 53 = .ok (.aload_n 0, 1) := by decide +kernel
theorem dX4_read_54 : decode cX4_read 54 = .ok (.getfield 42, 3) := by decide +kernel
theorem dX4_read_57 : decode cX4_read 57 = .ok (.ifCond .ne 10, 3) := by decide +kernel
theorem dX4_read_60 : decode cX4_read 60 = .ok (.aload_n 0, 1) := by decide +kernel
theorem dX4_read_61 : decode cX4_read 61 = .ok (.getfield 46, 3) := by decide +kernel
theorem dX4_read_64 : decode cX4_read 64 = .ok (.ifCond .le 8, 3) := by decide +kernel
theorem dX4_read_67 : decode cX4_read 67 = .ok (.aload_n 1, 1) := by decide +kernel
theorem dX4_read_68 : decode cX4_read 68 = .ok (.getfield 28, 3) := by decide +kernel
theorem dX4_read_71 : decode cX4_read 71 = .ok (.ireturn, 1) := by decide +kernel
theorem dX4_read_72 : decode cX4_read 72 = .ok (.aload_n 0, 1) := by decide +kernel
theorem dX4_read_73 : decode cX4_read 73 = .ok (.iconst 1, 1) := by decide +kernel
theorem dX4_read_74 : decode cX4_read 74 = .ok (.invokevirtual 49, 3) := by decide +kernel
theorem dX4_read_77 : decode cX4_read 77 = .ok (.iconst (-1), 1) := by decide +kernel
theorem dX4_read_78 : decode cX4_read 78 = .ok (.ireturn, 1) := by decide +kernel
noncomputable def p_X4_read_19 (F : Nat) (x_b1_length : Int32) (f_b1_signs : Nat → Int32) (Post : Int32 → (Int32 × Int32 × Int32 × Int32 × Int32 × Int32 × (Nat → Int32) × (Nat → Int32)) → Prop) (n : Nat) : Int32 → Int32 → Int32 → Int32 → Int32 → Int32 → Int32 → (Nat → Int32) → (Nat → Int32) → Prop := Nat.rec (motive := fun _ => Int32 → Int32 → Int32 → Int32 → Int32 → Int32 → Int32 → (Nat → Int32) → (Nat → Int32) → Prop) (fun _ _ _ _ _ _ _ _ _ => False) (fun _ k19 => fun (y2_19 : Int32) (x_size_19 : Int32) (x_top_19 : Int32) (x_open_19 : Int32) (x_compared_19 : Int32) (x_digits_19 : Int32) (x_wantsThing_19 : Int32) (f_steps_19 : Nat → Int32) (f_stack_19 : Nat → Int32) => ((x_b1_length ≤ y2_19 → ((¬ x_wantsThing_19 = 0 → (Post x_b1_length (x_size_19, x_top_19, x_open_19, x_compared_19, x_digits_19, x_wantsThing_19, f_steps_19, f_stack_19))) ∧ (x_wantsThing_19 = 0 → ((x_open_19 ≤ 0 → (p_X4_settle F (1 : Int32) x_size_19 x_top_19 f_stack_19 f_steps_19 (fun (u_74 : (Int32 × Int32 × (Nat → Int32))) => (Post (-1 : Int32) (u_74.1, u_74.2.1, x_open_19, x_compared_19, x_digits_19, x_wantsThing_19, u_74.2.2, f_stack_19))))) ∧ (¬ x_open_19 ≤ 0 → (Post x_b1_length (x_size_19, x_top_19, x_open_19, x_compared_19, x_digits_19, x_wantsThing_19, f_steps_19, f_stack_19))))))) ∧ (¬ x_b1_length ≤ y2_19 → ((y2_19 = (40 : Int32) → (Post y2_19 (x_size_19, x_top_19, x_open_19, x_compared_19, x_digits_19, x_wantsThing_19, f_steps_19, f_stack_19))) ∧ (¬ y2_19 = (40 : Int32) → (p_X5_at F y2_19 x_b1_length f_b1_signs (fun (r_36 : Int32) => (p_X4_takes F r_36 x_size_19 x_top_19 x_open_19 x_compared_19 x_digits_19 x_wantsThing_19 f_steps_19 f_stack_19 (fun (r_39 : Int32) (u_39 : (Int32 × Int32 × Int32 × Int32 × Int32 × Int32 × (Nat → Int32) × (Nat → Int32))) => ((¬ r_39 = 0 → (k19 (y2_19 + (1 : Int32)) u_39.1 u_39.2.1 u_39.2.2.1 u_39.2.2.2.1 u_39.2.2.2.2.1 u_39.2.2.2.2.2.1 u_39.2.2.2.2.2.2.1 u_39.2.2.2.2.2.2.2)) ∧ (r_39 = 0 → (Post y2_19 (u_39.1, u_39.2.1, u_39.2.2.1, u_39.2.2.2.1, u_39.2.2.2.2.1, u_39.2.2.2.2.2.1, u_39.2.2.2.2.2.2.1, u_39.2.2.2.2.2.2.2))))))))))))) n
theorem p_X4_read_19_s (F : Nat) (x_b1_length : Int32) (f_b1_signs : Nat → Int32) (Post : Int32 → (Int32 × Int32 × Int32 × Int32 × Int32 × Int32 × (Nat → Int32) × (Nat → Int32)) → Prop) (n : Nat) (y2_19 : Int32) (x_size_19 : Int32) (x_top_19 : Int32) (x_open_19 : Int32) (x_compared_19 : Int32) (x_digits_19 : Int32) (x_wantsThing_19 : Int32) (f_steps_19 : Nat → Int32) (f_stack_19 : Nat → Int32) : p_X4_read_19 F x_b1_length f_b1_signs Post (n + 1) y2_19 x_size_19 x_top_19 x_open_19 x_compared_19 x_digits_19 x_wantsThing_19 f_steps_19 f_stack_19 = ((x_b1_length ≤ y2_19 → ((¬ x_wantsThing_19 = 0 → (Post x_b1_length (x_size_19, x_top_19, x_open_19, x_compared_19, x_digits_19, x_wantsThing_19, f_steps_19, f_stack_19))) ∧ (x_wantsThing_19 = 0 → ((x_open_19 ≤ 0 → (p_X4_settle F (1 : Int32) x_size_19 x_top_19 f_stack_19 f_steps_19 (fun (u_74 : (Int32 × Int32 × (Nat → Int32))) => (Post (-1 : Int32) (u_74.1, u_74.2.1, x_open_19, x_compared_19, x_digits_19, x_wantsThing_19, u_74.2.2, f_stack_19))))) ∧ (¬ x_open_19 ≤ 0 → (Post x_b1_length (x_size_19, x_top_19, x_open_19, x_compared_19, x_digits_19, x_wantsThing_19, f_steps_19, f_stack_19))))))) ∧ (¬ x_b1_length ≤ y2_19 → ((y2_19 = (40 : Int32) → (Post y2_19 (x_size_19, x_top_19, x_open_19, x_compared_19, x_digits_19, x_wantsThing_19, f_steps_19, f_stack_19))) ∧ (¬ y2_19 = (40 : Int32) → (p_X5_at F y2_19 x_b1_length f_b1_signs (fun (r_36 : Int32) => (p_X4_takes F r_36 x_size_19 x_top_19 x_open_19 x_compared_19 x_digits_19 x_wantsThing_19 f_steps_19 f_stack_19 (fun (r_39 : Int32) (u_39 : (Int32 × Int32 × Int32 × Int32 × Int32 × Int32 × (Nat → Int32) × (Nat → Int32))) => ((¬ r_39 = 0 → ((p_X4_read_19 F x_b1_length f_b1_signs Post n) (y2_19 + (1 : Int32)) u_39.1 u_39.2.1 u_39.2.2.1 u_39.2.2.2.1 u_39.2.2.2.2.1 u_39.2.2.2.2.2.1 u_39.2.2.2.2.2.2.1 u_39.2.2.2.2.2.2.2)) ∧ (r_39 = 0 → (Post y2_19 (u_39.1, u_39.2.1, u_39.2.2.1, u_39.2.2.2.1, u_39.2.2.2.2.1, u_39.2.2.2.2.2.1, u_39.2.2.2.2.2.2.1, u_39.2.2.2.2.2.2.2)))))))))))) := rfl
def p_X4_read (F : Nat) (x_b1_length : Int32) (f_steps : Nat → Int32) (f_b1_signs : Nat → Int32) (f_stack : Nat → Int32) (Post : Int32 → (Int32 × Int32 × Int32 × Int32 × Int32 × Int32 × (Nat → Int32) × (Nat → Int32)) → Prop) : Prop := (p_X4_start F (fun (u_1 : (Int32 × Int32 × Int32 × Int32 × Int32 × Int32)) => ((¬ x_b1_length = 0 → (p_X4_read_19 F x_b1_length f_b1_signs Post F (0 : Int32) u_1.1 u_1.2.1 u_1.2.2.1 u_1.2.2.2.1 u_1.2.2.2.2.1 u_1.2.2.2.2.2 f_steps f_stack)) ∧ (x_b1_length = 0 → (p_X4_bePlain F u_1.1 f_steps (fun (u_12 : (Int32 × (Nat → Int32))) => (Post (-1 : Int32) (u_12.1, u_1.2.1, u_1.2.2.1, u_1.2.2.2.1, u_1.2.2.2.2.1, u_1.2.2.2.2.2, u_12.2, f_stack))))))))
set_option maxHeartbeats 4000000 in
set_option maxRecDepth 100000 in
theorem c_X4_read (l : Launch) (D : va_G) (cT : Nat → ClassId) (F : Nat) (h : Nat) (b1 : Nat) (q_steps : Nat) (q_stack : Nat) (x_size : Int32) (x_top : Int32) (x_open : Int32) (x_compared : Int32) (x_digits : Int32) (x_wantsThing : Int32) (q_b1_signs : Nat) (x_b1_length : Int32) (f_steps : Nat → Int32) (f_b1_signs : Nat → Int32) (f_stack : Nat → Int32) (Post : Int32 → (Int32 × Int32 × Int32 × Int32 × Int32 × Int32 × (Nat → Int32) × (Nat → Int32)) → Prop) (hg : p_X4_read F x_b1_length f_steps f_b1_signs f_stack Post) : MWi l D cT yX4_read cX4_read 3 (some .int) 4 86 0 0 [.ref h, .ref b1] [(h, oX4 (.ref q_steps) (.ref q_stack) (.int x_size) (.int x_top) (.int x_open) (.int x_compared) (.int x_digits) (.int x_wantsThing)), (b1, oX5 (.ref q_b1_signs) (.int x_b1_length)), (q_steps, aI cT 40 f_steps), (q_b1_signs, aC cT 80 f_b1_signs), (q_stack, aI cT 40 f_stack)] Post (fun (u : (Int32 × Int32 × Int32 × Int32 × Int32 × Int32 × (Nat → Int32) × (Nat → Int32))) => [(h, oX4 (.ref q_steps) (.ref q_stack) (.int u.1) (.int u.2.1) (.int u.2.2.1) (.int u.2.2.2.1) (.int u.2.2.2.2.1) (.int u.2.2.2.2.2.1)), (b1, oX5 (.ref q_b1_signs) (.int x_b1_length)), (q_steps, aI cT 40 u.2.2.2.2.2.2.1), (q_b1_signs, aC cT 80 f_b1_signs), (q_stack, aI cT 40 u.2.2.2.2.2.2.2)]) := by
  refine MWi.of (by decide) (Nat.le_of_ble_eq_true rfl) ?_
  intro p e s m below meth c A hA C0 hnm hr hP hD ls hl
  have hl : lv_has ls 3 [(0, .ref h), (1, .ref b1)] := hl
  have hx := C0.x
  have hb := C0.b
  have hS : va_S A s.heap s.heap [] := va_S.rf
  have hP : va_P D cls9 [(h, oX4 (.ref q_steps) (.ref q_stack) (.int x_size) (.int x_top) (.int x_open) (.int x_compared) (.int x_digits) (.int x_wantsThing)), (b1, oX5 (.ref q_b1_signs) (.int x_b1_length)), (q_steps, aI cT 40 f_steps), (q_b1_signs, aC cT 80 f_b1_signs), (q_stack, aI cT 40 f_stack)] s.heap := hP
  have hD : va_D A [(h, oX4 (.ref q_steps) (.ref q_stack) (.int x_size) (.int x_top) (.int x_open) (.int x_compared) (.int x_digits) (.int x_wantsThing)), (b1, oX5 (.ref q_b1_signs) (.int x_b1_length)), (q_steps, aI cT 40 f_steps), (q_b1_signs, aC cT 80 f_b1_signs), (q_stack, aI cT 40 f_stack)] := hD
  have L19 : ∀ (n19 : Nat) (y2_19 : Int32) (x_size_19 : Int32) (x_top_19 : Int32) (x_open_19 : Int32) (x_compared_19 : Int32) (x_digits_19 : Int32) (x_wantsThing_19 : Int32) (f_steps_19 : Nat → Int32) (f_stack_19 : Nat → Int32) (H : Heap) (locs : List Loc) (ls : Array Slot), p_X4_read_19 F x_b1_length f_b1_signs Post n19 y2_19 x_size_19 x_top_19 x_open_19 x_compared_19 x_digits_19 x_wantsThing_19 f_steps_19 f_stack_19 → va_P D cls9 [(h, oX4 (.ref q_steps) (.ref q_stack) (.int x_size_19) (.int x_top_19) (.int x_open_19) (.int x_compared_19) (.int x_digits_19) (.int x_wantsThing_19)), (b1, oX5 (.ref q_b1_signs) (.int x_b1_length)), (q_steps, aI cT 40 f_steps_19), (q_b1_signs, aC cT 80 f_b1_signs), (q_stack, aI cT 40 f_stack_19)] H → va_D A [(h, oX4 (.ref q_steps) (.ref q_stack) (.int x_size_19) (.int x_top_19) (.int x_open_19) (.int x_compared_19) (.int x_digits_19) (.int x_wantsThing_19)), (b1, oX5 (.ref q_b1_signs) (.int x_b1_length)), (q_steps, aI cT 40 f_steps_19), (q_b1_signs, aC cT 80 f_b1_signs), (q_stack, aI cT 40 f_stack_19)] → va_S A s.heap H locs → lv_has ls 3 [(0, .ref h), (1, .ref b1), (2, .int y2_19)] → W p l e (rmO 4 86 0 0) s m ([.ref h, .ref b1] : List Value).toArray below meth c H locs 0 0 (MQ below (va_Qi Post (cB D A (fun (u : (Int32 × Int32 × Int32 × Int32 × Int32 × Int32 × (Nat → Int32) × (Nat → Int32))) => [(h, oX4 (.ref q_steps) (.ref q_stack) (.int u.1) (.int u.2.1) (.int u.2.2.1) (.int u.2.2.2.1) (.int u.2.2.2.2.1) (.int u.2.2.2.2.2.1)), (b1, oX5 (.ref q_b1_signs) (.int x_b1_length)), (q_steps, aI cT 40 u.2.2.2.2.2.2.1), (q_b1_signs, aC cT 80 f_b1_signs), (q_stack, aI cT 40 u.2.2.2.2.2.2.2)])) A) ([.ref h, .ref b1] : List Value).toArray s 0 0 A) (F0 m 19 ls []) := by
    intro n19
    induction n19 with
    | zero =>
      intro y2_19 x_size_19 x_top_19 x_open_19 x_compared_19 x_digits_19 x_wantsThing_19 f_steps_19 f_stack_19 H locs ls hg hP hD hS hl
      exact False.elim hg
    | succ n19 ih19 =>
      intro y2_19 x_size_19 x_top_19 x_open_19 x_compared_19 x_digits_19 x_wantsThing_19 f_steps_19 f_stack_19 H locs ls hg hP hD hS hl
      rw [p_X4_read_19_s] at hg
      refine lv_iload_n hx hb dX4_read_19 rfl (lv_at hl 2 rfl) ?_
      refine lv_aload_n hx hb dX4_read_20 rfl (lv_at hl 1 rfl) ?_
      refine gf_X4_28 C0 hP 1 rfl rfl dX4_read_21 ?_
      refine lv_icmp_ge (tgt := 53) hx hb dX4_read_24 (by decide) (fun c_24 => ?_) (fun c_24 => ?_)
      · have hg := hg.1 c_24
        refine lv_aload_n hx hb dX4_read_53 rfl (lv_at hl 0 rfl) ?_
        refine gf_X4_42 C0 hP 0 rfl rfl dX4_read_54 ?_
        refine lv_if_ne (tgt := 67) hx hb dX4_read_57 (by decide) (fun c_57 => ?_) (fun c_57 => ?_)
        · have hg := hg.1 c_57
          refine lv_aload_n hx hb dX4_read_67 rfl (lv_at hl 1 rfl) ?_
          refine gf_X4_28 C0 hP 1 rfl rfl dX4_read_68 ?_
          exact k_iret C0 hr (x_size_19, x_top_19, x_open_19, x_compared_19, x_digits_19, x_wantsThing_19, f_steps_19, f_stack_19) hg hP hD hS dX4_read_71
        have hg := hg.2 c_57
        refine lv_aload_n hx hb dX4_read_60 rfl (lv_at hl 0 rfl) ?_
        refine gf_X4_46 C0 hP 0 rfl rfl dX4_read_61 ?_
        refine lv_if_le (tgt := 72) hx hb dX4_read_64 (by decide) (fun c_64 => ?_) (fun c_64 => ?_)
        · have hg := hg.1 c_64
          refine lv_aload_n hx hb dX4_read_72 rfl (lv_at hl 0 rfl) ?_
          refine lv_iconst (v := (1 : Int32)) hx hb dX4_read_73 (by decide) ?_
          refine k_Vv (rest := []) (wr := [(b1, oX5 (.ref q_b1_signs) (.int x_b1_length)), (q_b1_signs, aC cT 80 f_b1_signs)]) (w2 := fun u_74 => [(b1, oX5 (.ref q_b1_signs) (.int x_b1_length)), (q_b1_signs, aC cT 80 f_b1_signs), (h, oX4 (.ref q_steps) (.ref q_stack) (.int u_74.1) (.int u_74.2.1) (.int x_open_19) (.int x_compared_19) (.int x_digits_19) (.int x_wantsThing_19)), (q_stack, aI cT 40 f_stack_19), (q_steps, aI cT 40 u_74.2.2)]) C0 lk_X4_49 (c_X4_settle l D cT F h (1 : Int32) q_steps q_stack x_size_19 x_top_19 x_open_19 x_compared_19 x_digits_19 x_wantsThing_19 f_stack_19 f_steps_19 _ hg) hP hD hS hA [0, 4, 2] [1, 3] (by decide +kernel) rfl rfl (fun _ => rfl) rfl rfl ⟨Nat.le_of_ble_eq_true rfl, Nat.le_of_ble_eq_true rfl⟩ rfl hl.1 rfl (Nat.le_of_ble_eq_true rfl) dX4_read_74 ⟨Nat.le_of_ble_eq_true rfl, Nat.le_of_ble_eq_true rfl⟩ ?_
          intro u_74 H locs hg hP hD hS
          refine lv_iconst (v := (-1 : Int32)) hx hb dX4_read_77 (by decide) ?_
          exact k_iret C0 hr (u_74.1, u_74.2.1, x_open_19, x_compared_19, x_digits_19, x_wantsThing_19, u_74.2.2, f_stack_19) hg (subP hP [2, 0, 4, 1, 3] rfl) (hD.sub [2, 0, 4, 1, 3] (nd2_ok _ (by decide +kernel)) rfl) hS dX4_read_78
        have hg := hg.2 c_64
        refine lv_aload_n hx hb dX4_read_67 rfl (lv_at hl 1 rfl) ?_
        refine gf_X4_28 C0 hP 1 rfl rfl dX4_read_68 ?_
        exact k_iret C0 hr (x_size_19, x_top_19, x_open_19, x_compared_19, x_digits_19, x_wantsThing_19, f_steps_19, f_stack_19) hg hP hD hS dX4_read_71
      have hg := hg.2 c_24
      refine lv_iload_n hx hb dX4_read_27 rfl (lv_at hl 2 rfl) ?_
      refine lv_bipush (v := (40 : Int32)) hx hb dX4_read_28 (by decide) ?_
      refine lv_icmp_eq (tgt := 45) hx hb dX4_read_30 (by decide) (fun c_30 => ?_) (fun c_30 => ?_)
      · have hg := hg.1 c_30
        refine lv_iload_n hx hb dX4_read_45 rfl (lv_at hl 2 rfl) ?_
        exact k_iret C0 hr (x_size_19, x_top_19, x_open_19, x_compared_19, x_digits_19, x_wantsThing_19, f_steps_19, f_stack_19) hg hP hD hS dX4_read_46
      have hg := hg.2 c_30
      refine lv_aload_n hx hb dX4_read_33 rfl (lv_at hl 0 rfl) ?_
      refine lv_aload_n hx hb dX4_read_34 rfl (lv_at hl 1 rfl) ?_
      refine lv_iload_n hx hb dX4_read_35 rfl (lv_at hl 2 rfl) ?_
      refine k_Vxi (rest := [.ref h]) C0 lk_X4_34 (c_X5_at l D cT F b1 y2_19 q_b1_signs x_b1_length f_b1_signs _ hg) hP hD hS hA [1, 3] (by decide +kernel) rfl rfl rfl ⟨Nat.le_of_ble_eq_true rfl, Nat.le_of_ble_eq_true rfl⟩ rfl hl.1 rfl (Nat.le_of_ble_eq_true rfl) dX4_read_36 ⟨Nat.le_of_ble_eq_true rfl, Nat.le_of_ble_eq_true rfl⟩ (fun r_36 hg => ?_)
      refine k_Vi (rest := []) (wr := [(b1, oX5 (.ref q_b1_signs) (.int x_b1_length)), (q_b1_signs, aC cT 80 f_b1_signs)]) (w2 := fun u_39 => [(b1, oX5 (.ref q_b1_signs) (.int x_b1_length)), (q_b1_signs, aC cT 80 f_b1_signs), (h, oX4 (.ref q_steps) (.ref q_stack) (.int u_39.1) (.int u_39.2.1) (.int u_39.2.2.1) (.int u_39.2.2.2.1) (.int u_39.2.2.2.2.1) (.int u_39.2.2.2.2.2.1)), (q_steps, aI cT 40 u_39.2.2.2.2.2.2.1), (q_stack, aI cT 40 u_39.2.2.2.2.2.2.2)]) C0 lk_X4_38 (c_X4_takes l D cT F h r_36 q_steps q_stack x_size_19 x_top_19 x_open_19 x_compared_19 x_digits_19 x_wantsThing_19 f_steps_19 f_stack_19 _ hg) hP hD hS hA [0, 2, 4] [1, 3] (by decide +kernel) rfl rfl (fun _ => rfl) rfl rfl ⟨Nat.le_of_ble_eq_true rfl, Nat.le_of_ble_eq_true rfl⟩ rfl hl.1 rfl (Nat.le_of_ble_eq_true rfl) dX4_read_39 ⟨Nat.le_of_ble_eq_true rfl, Nat.le_of_ble_eq_true rfl⟩ ?_
      intro r_39 u_39 H locs hg hP hD hS
      refine lv_if_ne (tgt := 47) hx hb dX4_read_42 (by decide) (fun c_42 => ?_) (fun c_42 => ?_)
      · have hg := hg.1 c_42
        refine lv_iinc (v := (y2_19 + (1 : Int32))) (lv' := [(2, .int (y2_19 + (1 : Int32))), (0, .ref h), (1, .ref b1)]) hx hb dX4_read_47 hl (k := 2) rfl rfl (by decide) rfl (fun ls hl => ?_)
        refine lv_goto (tgt := 19) hx hb dX4_read_50 (by decide) ?_
        exact ih19 (y2_19 + (1 : Int32)) u_39.1 u_39.2.1 u_39.2.2.1 u_39.2.2.2.1 u_39.2.2.2.2.1 u_39.2.2.2.2.2.1 u_39.2.2.2.2.2.2.1 u_39.2.2.2.2.2.2.2 _ _ _ hg (subP hP [2, 0, 3, 1, 4] rfl) (hD.sub [2, 0, 3, 1, 4] (nd2_ok _ (by decide +kernel)) rfl) hS (lv_sub hl [1, 2, 0] rfl)
      have hg := hg.2 c_42
      refine lv_iload_n hx hb dX4_read_45 rfl (lv_at hl 2 rfl) ?_
      exact k_iret C0 hr (u_39.1, u_39.2.1, u_39.2.2.1, u_39.2.2.2.1, u_39.2.2.2.2.1, u_39.2.2.2.2.2.1, u_39.2.2.2.2.2.2.1, u_39.2.2.2.2.2.2.2) hg (subP hP [2, 0, 3, 1, 4] rfl) (hD.sub [2, 0, 3, 1, 4] (nd2_ok _ (by decide +kernel)) rfl) hS dX4_read_46
  unfold p_X4_read at hg
  refine lv_aload_n hx hb dX4_read_0 rfl (lv_at hl 0 rfl) ?_
  refine k_Vv (rest := []) (wr := [(b1, oX5 (.ref q_b1_signs) (.int x_b1_length)), (q_steps, aI cT 40 f_steps), (q_b1_signs, aC cT 80 f_b1_signs), (q_stack, aI cT 40 f_stack)]) (w2 := fun u_1 => [(b1, oX5 (.ref q_b1_signs) (.int x_b1_length)), (q_steps, aI cT 40 f_steps), (q_b1_signs, aC cT 80 f_b1_signs), (q_stack, aI cT 40 f_stack), (h, oX4 (.ref q_steps) (.ref q_stack) (.int u_1.1) (.int u_1.2.1) (.int u_1.2.2.1) (.int u_1.2.2.2.1) (.int u_1.2.2.2.2.1) (.int u_1.2.2.2.2.2))]) C0 lk_X4_25 (c_X4_start l D cT F h (.ref q_steps) (.ref q_stack) x_size x_top x_open x_compared x_digits x_wantsThing _ hg) hP hD hS hA [0] [1, 2, 3, 4] (by decide +kernel) rfl rfl (fun _ => rfl) rfl rfl ⟨Nat.le_of_ble_eq_true rfl, Nat.le_of_ble_eq_true rfl⟩ rfl hl.1 rfl (Nat.le_of_ble_eq_true rfl) dX4_read_1 ⟨Nat.le_of_ble_eq_true rfl, Nat.le_of_ble_eq_true rfl⟩ ?_
  intro u_1 H locs hg hP hD hS
  refine lv_aload_n hx hb dX4_read_4 rfl (lv_at hl 1 rfl) ?_
  refine gf_X4_28 C0 hP 0 rfl rfl dX4_read_5 ?_
  refine lv_if_ne (tgt := 17) hx hb dX4_read_8 (by decide) (fun c_8 => ?_) (fun c_8 => ?_)
  · have hg := hg.1 c_8
    refine lv_iconst (v := (0 : Int32)) hx hb dX4_read_17 (by decide) ?_
    refine lv_istore_n (lv' := [(2, .int (0 : Int32)), (0, .ref h), (1, .ref b1)]) hx hb dX4_read_18 rfl hl (by decide) rfl (fun ls hl => ?_)
    exact L19 F (0 : Int32) u_1.1 u_1.2.1 u_1.2.2.1 u_1.2.2.2.1 u_1.2.2.2.2.1 u_1.2.2.2.2.2 f_steps f_stack _ _ _ hg (subP hP [4, 0, 1, 2, 3] rfl) (hD.sub [4, 0, 1, 2, 3] (nd2_ok _ (by decide +kernel)) rfl) hS (lv_sub hl [1, 2, 0] rfl)
  have hg := hg.2 c_8
  refine lv_aload_n hx hb dX4_read_11 rfl (lv_at hl 0 rfl) ?_
  refine k_Vv (rest := []) (wr := [(b1, oX5 (.ref q_b1_signs) (.int x_b1_length)), (q_b1_signs, aC cT 80 f_b1_signs), (q_stack, aI cT 40 f_stack)]) (w2 := fun u_12 => [(b1, oX5 (.ref q_b1_signs) (.int x_b1_length)), (q_b1_signs, aC cT 80 f_b1_signs), (q_stack, aI cT 40 f_stack), (h, oX4 (.ref q_steps) (.ref q_stack) (.int u_12.1) (.int u_1.2.1) (.int u_1.2.2.1) (.int u_1.2.2.2.1) (.int u_1.2.2.2.2.1) (.int u_1.2.2.2.2.2)), (q_steps, aI cT 40 u_12.2)]) C0 lk_X4_18 (c_X4_bePlain l D cT F h q_steps (.ref q_stack) u_1.1 u_1.2.1 u_1.2.2.1 u_1.2.2.2.1 u_1.2.2.2.2.1 u_1.2.2.2.2.2 f_steps _ hg) hP hD hS hA [4, 1] [0, 2, 3] (by decide +kernel) rfl rfl (fun _ => rfl) rfl rfl ⟨Nat.le_of_ble_eq_true rfl, Nat.le_of_ble_eq_true rfl⟩ rfl hl.1 rfl (Nat.le_of_ble_eq_true rfl) dX4_read_12 ⟨Nat.le_of_ble_eq_true rfl, Nat.le_of_ble_eq_true rfl⟩ ?_
  intro u_12 H locs hg hP hD hS
  refine lv_iconst (v := (-1 : Int32)) hx hb dX4_read_15 (by decide) ?_
  exact k_iret C0 hr (u_12.1, u_1.2.1, u_1.2.2.1, u_1.2.2.2.1, u_1.2.2.2.2.1, u_1.2.2.2.2.2, u_12.2, f_stack) hg (subP hP [3, 0, 4, 1, 2] rfl) (hD.sub [3, 0, 4, 1, 2] (nd2_ok _ (by decide +kernel)) rfl) hS dX4_read_16
