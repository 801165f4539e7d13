theorem dX8_tens_0 : decode cX8_tens 0 = .ok (.lconst 1, 1) := by decide +kernel
theorem dX8_tens_1 : decode cX8_tens 1 = .ok (.lstore_n 1, 1) := by decide +kernel
theorem dX8_tens_2 : decode cX8_tens 2 = .ok (.iconst 0, 1) := by decide +kernel
theorem dX8_tens_3 : decode cX8_tens 3 = .ok (.istore_n 3, 1) := by decide +kernel
theorem dX8_tens_4 : decode cX8_tens 4 = .ok (.iload_n 3, 1) := by decide +kernel
theorem dX8_tens_5 : decode cX8_tens 5 = .ok (.iload_n 0, 1) := by decide +kernel
theorem dX8_tens_6 : decode cX8_tens 6 = .ok (.if_icmp .ge 15, 3) := by decide +kernel
theorem dX8_tens_9 : decode cX8_tens 9 = .ok (.lload_n 1, 1) := by decide +kernel
theorem dX8_tens_10 : decode cX8_tens 10 = .ok (.ldc2_w 354, 3) := by decide +kernel
theorem dX8_tens_13 : decode cX8_tens 13 = .ok (.lmul, 1) := by decide +kernel
theorem dX8_tens_14 : decode cX8_tens 14 = .ok (.lstore_n 1, 1) := by decide +kernel
theorem dX8_tens_15 : decode cX8_tens 15 = .ok (.iinc 3 1, 3) := by decide +kernel
theorem dX8_tens_18 : decode cX8_tens 18 = .ok (.goto (-14), 3) := by decide +kernel
theorem dX8_tens_21 : decode cX8_tens 21 = .ok (.lload_n 1, 1) := by decide +kernel
theorem dX8_tens_22 : decode cX8_tens 22 = .ok (.lreturn, 1) := by decide +kernel
noncomputable def p_X8_tens_4 (F : Nat) (p0 : Int32) (Post : Int64 → Prop) (n : Nat) : Int32 → Int64 → Prop := Nat.rec (motive := fun _ => Int32 → Int64 → Prop) (fun _ _ => False) (fun _ k4 => fun (y3_4 : Int32) (y1_4 : Int64) => ((p0 ≤ y3_4 → (Post y1_4)) ∧ (¬ p0 ≤ y3_4 → (k4 (y3_4 + (1 : Int32)) (y1_4 * (10 : Int64)))))) n
theorem p_X8_tens_4_s (F : Nat) (p0 : Int32) (Post : Int64 → Prop) (n : Nat) (y3_4 : Int32) (y1_4 : Int64) : p_X8_tens_4 F p0 Post (n + 1) y3_4 y1_4 = ((p0 ≤ y3_4 → (Post y1_4)) ∧ (¬ p0 ≤ y3_4 → ((p_X8_tens_4 F p0 Post n) (y3_4 + (1 : Int32)) (y1_4 * (10 : Int64))))) := rfl
def p_X8_tens (F : Nat) (p0 : Int32) (Post : Int64 → Prop) : Prop := (p_X8_tens_4 F p0 Post F (0 : Int32) (1 : Int64))
set_option maxHeartbeats 4000000 in
set_option maxRecDepth 100000 in
theorem c_X8_tens (l : Launch) (D : va_G) (cT : Nat → ClassId) (F : Nat) (p0 : Int32) (Post : Int64 → Prop) (hg : p_X8_tens F p0 Post) : MRl l D cT yX8_tens cX8_tens 4 (some .long) 0 0 [.int p0] [] Post := by
  refine MRl.of (by decide) (Nat.le_of_ble_eq_true rfl) ?_
  intro p e s m below meth c C0 hr hP hD ls hl
  have hl : lv_has ls 4 [(0, .int p0)] := hl
  have hx := C0.x
  have hb := C0.b
  have hP : va_P D cls9 [] s.heap := hP
  have hD : va_D (fun _ => True) [] := hD
  have L4 : ∀ (n4 : Nat) (y3_4 : Int32) (y1_4 : Int64) (ls : Array Slot), p_X8_tens_4 F p0 Post n4 y3_4 y1_4 → lv_has ls 4 [(0, .int p0), (1, .long y1_4), (3, .int y3_4)] → W p l e (rmO 0 0 0 0) s m ([.int p0] : List Value).toArray below meth c s.heap [] 0 0 (MQ below (vp_Sl Post) ([.int p0] : List Value).toArray s 0 0 (fun _ => False)) (F0 m 4 ls []) := by
    intro n4
    induction n4 with
    | zero =>
      intro y3_4 y1_4 ls hg hl
      exact False.elim hg
    | succ n4 ih4 =>
      intro y3_4 y1_4 ls hg hl
      rw [p_X8_tens_4_s] at hg
      refine lv_iload_n hx hb dX8_tens_4 rfl (lv_at hl 2 rfl) ?_
      refine lv_iload_n hx hb dX8_tens_5 rfl (lv_at hl 0 rfl) ?_
      refine lv_icmp_ge (tgt := 21) hx hb dX8_tens_6 (by decide) (fun c_6 => ?_) (fun c_6 => ?_)
      · have hg := hg.1 c_6
        refine lv_lload_n hx hb dX8_tens_21 rfl (lv_at hl 1 rfl) ?_
        exact k_xlret C0 hr hg dX8_tens_22
      have hg := hg.2 c_6
      refine lv_lload_n hx hb dX8_tens_9 rfl (lv_at hl 1 rfl) ?_
      refine lv_ldc2 (v := (10 : Int64)) hx hb C0.ow (C0.t w6_223) dX8_tens_10 ?_
      refine lv_lmul hx hb dX8_tens_13 ?_
      refine lv_lstore_n (lv' := [(1, .long (y1_4 * (10 : Int64))), (0, .int p0), (3, .int y3_4)]) hx hb dX8_tens_14 rfl hl (by decide) rfl (fun ls hl => ?_)
      refine lv_iinc (v := (y3_4 + (1 : Int32))) (lv' := [(3, .int (y3_4 + (1 : Int32))), (1, .long (y1_4 * (10 : Int64))), (0, .int p0)]) hx hb dX8_tens_15 hl (k := 2) rfl rfl (by decide) rfl (fun ls hl => ?_)
      refine lv_goto (tgt := 4) hx hb dX8_tens_18 (by decide) ?_
      exact ih4 (y3_4 + (1 : Int32)) (y1_4 * (10 : Int64)) _ hg (lv_sub hl [2, 1, 0] rfl)
  unfold p_X8_tens at hg
  refine lv_lconst (v := (1 : Int64)) hx hb dX8_tens_0 (by decide) ?_
  refine lv_lstore_n (lv' := [(1, .long (1 : Int64)), (0, .int p0)]) hx hb dX8_tens_1 rfl hl (by decide) rfl (fun ls hl => ?_)
  refine lv_iconst (v := (0 : Int32)) hx hb dX8_tens_2 (by decide) ?_
  refine lv_istore_n (lv' := [(3, .int (0 : Int32)), (1, .long (1 : Int64)), (0, .int p0)]) hx hb dX8_tens_3 rfl hl (by decide) rfl (fun ls hl => ?_)
  exact L4 F (0 : Int32) (1 : Int64) _ hg (lv_sub hl [2, 1, 0] rfl)
theorem dJ6_numberOfTrailingZeros_0f7a4_0 : decode cJ6_numberOfTrailingZeros_0f7a4 0 = .ok (.iload_n 0, 1) := by decide +kernel
theorem dJ6_numberOfTrailingZeros_0f7a4_1 : decode cJ6_numberOfTrailingZeros_0f7a4 1 = .ok (.iconst (-1), 1) := by decide +kernel
theorem dJ6_numberOfTrailingZeros_0f7a4_2 : decode cJ6_numberOfTrailingZeros_0f7a4 2 = .ok (.ixor, 1) := by decide +kernel
theorem dJ6_numberOfTrailingZeros_0f7a4_3 : decode cJ6_numberOfTrailingZeros_0f7a4 3 = .ok (.iload_n 0, 1) := by decide +kernel
theorem dJ6_numberOfTrailingZeros_0f7a4_4 : decode cJ6_numberOfTrailingZeros_0f7a4 4 = .ok (.iconst 1, 1) := by decide +kernel
theorem dJ6_numberOfTrailingZeros_0f7a4_5 : decode cJ6_numberOfTrailingZeros_0f7a4 5 = .ok (.isub, 1) := by decide +kernel
theorem dJ6_numberOfTrailingZeros_0f7a4_6 : decode cJ6_numberOfTrailingZeros_0f7a4 6 = .ok (.iand, 1) := by decide +kernel
theorem dJ6_numberOfTrailingZeros_0f7a4_7 : decode cJ6_numberOfTrailingZeros_0f7a4 7 = .ok (.istore_n 0, 1) := by decide +kernel
theorem dJ6_numberOfTrailingZeros_0f7a4_8 : decode cJ6_numberOfTrailingZeros_0f7a4 8 = .ok (.iload_n 0, 1) := by decide +kernel
theorem dJ6_numberOfTrailingZeros_0f7a4_9 : decode cJ6_numberOfTrailingZeros_0f7a4 9 = .ok (.ifCond .gt 8, 3) := by decide +kernel
theorem dJ6_numberOfTrailingZeros_0f7a4_12 : decode cJ6_numberOfTrailingZeros_0f7a4 12 = .ok (.iload_n 0, 1) := by decide +kernel
theorem dJ6_numberOfTrailingZeros_0f7a4_13 : decode cJ6_numberOfTrailingZeros_0f7a4 13 = .ok (.bipush 32, 2) := by decide +kernel
theorem dJ6_numberOfTrailingZeros_0f7a4_15 : decode cJ6_numberOfTrailingZeros_0f7a4 15 = .ok (.iand, 1) := by decide +kernel
theorem dJ6_numberOfTrailingZeros_0f7a4_16 : decode cJ6_numberOfTrailingZeros_0f7a4 16 = .ok (.ireturn, 1) := by decide +kernel
theorem dJ6_numberOfTrailingZeros_0f7a4_17 : decode cJ6_numberOfTrailingZeros_0f7a4 17 = .ok (.iconst 1, 1) := by decide +kernel
theorem dJ6_numberOfTrailingZeros_0f7a4_18 : decode cJ6_numberOfTrailingZeros_0f7a4 18 = .ok (.istore_n 1, 1) := by decide +kernel
theorem dJ6_numberOfTrailingZeros_0f7a4_19 : decode cJ6_numberOfTrailingZeros_0f7a4 19 = .ok (.iload_n 0, 1) := by decide +kernel
theorem dJ6_numberOfTrailingZeros_0f7a4_20 : decode cJ6_numberOfTrailingZeros_0f7a4 20 = .ok (.ldc_w 264, 3) := by decide +kernel
theorem dJ6_numberOfTrailingZeros_0f7a4_23 : decode cJ6_numberOfTrailingZeros_0f7a4 23 = .ok (.if_icmp .le 11, 3) := by decide +kernel
theorem dJ6_numberOfTrailingZeros_0f7a4_26 : decode cJ6_numberOfTrailingZeros_0f7a4 26 = .ok (.iinc 1 16, 3) := by decide +kernel
theorem dJ6_numberOfTrailingZeros_0f7a4_29 : decode cJ6_numberOfTrailingZeros_0f7a4 29 = .ok (.iload_n 0, 1) := by decide +kernel
theorem dJ6_numberOfTrailingZeros_0f7a4_30 : decode cJ6_numberOfTrailingZeros_0f7a4 30 = .ok (.bipush 16, 2) := by decide +kernel
theorem dJ6_numberOfTrailingZeros_0f7a4_32 : decode cJ6_numberOfTrailingZeros_0f7a4 32 = .ok (.iushr, 1) := by decide +kernel
theorem dJ6_numberOfTrailingZeros_0f7a4_33 : decode cJ6_numberOfTrailingZeros_0f7a4 33 = .ok (.istore_n 0, 1) := by decide +kernel
theorem dJ6_numberOfTrailingZeros_0f7a4_34 : decode cJ6_numberOfTrailingZeros_0f7a4 34 = .ok (.iload_n 0, 1) := by decide +kernel
theorem dJ6_numberOfTrailingZeros_0f7a4_35 : decode cJ6_numberOfTrailingZeros_0f7a4 35 = .ok (.sipush 256, 3) := by decide +kernel
theorem dJ6_numberOfTrailingZeros_0f7a4_38 : decode cJ6_numberOfTrailingZeros_0f7a4 38 = .ok (.if_icmp .le 11, 3) := by decide +kernel
theorem dJ6_numberOfTrailingZeros_0f7a4_41 : decode cJ6_numberOfTrailingZeros_0f7a4 41 = .ok (.iinc 1 8, 3) := by decide +kernel
theorem dJ6_numberOfTrailingZeros_0f7a4_44 : decode cJ6_numberOfTrailingZeros_0f7a4 44 = .ok (.iload_n 0, 1) := by decide +kernel
theorem dJ6_numberOfTrailingZeros_0f7a4_45 : decode cJ6_numberOfTrailingZeros_0f7a4 45 = .ok (.bipush 8, 2) := by decide +kernel
theorem dJ6_numberOfTrailingZeros_0f7a4_47 : decode cJ6_numberOfTrailingZeros_0f7a4 47 = .ok (.iushr, 1) := by decide +kernel
theorem dJ6_numberOfTrailingZeros_0f7a4_48 : decode cJ6_numberOfTrailingZeros_0f7a4 48 = .ok (.istore_n 0, 1) := by decide +kernel
theorem dJ6_numberOfTrailingZeros_0f7a4_49 : decode cJ6_numberOfTrailingZeros_0f7a4 49 = .ok (.iload_n 0, 1) := by decide +kernel
theorem dJ6_numberOfTrailingZeros_0f7a4_50 : decode cJ6_numberOfTrailingZeros_0f7a4 50 = .ok (.bipush 16, 2) := by decide +kernel
theorem dJ6_numberOfTrailingZeros_0f7a4_52 : decode cJ6_numberOfTrailingZeros_0f7a4 52 = .ok (.if_icmp .le 10, 3) := by decide +kernel
theorem dJ6_numberOfTrailingZeros_0f7a4_55 : decode cJ6_numberOfTrailingZeros_0f7a4 55 = .ok (.iinc 1 4, 3) := by decide +kernel
theorem dJ6_numberOfTrailingZeros_0f7a4_58 : decode cJ6_numberOfTrailingZeros_0f7a4 58 = .ok (.iload_n 0, 1) := by decide +kernel
theorem dJ6_numberOfTrailingZeros_0f7a4_59 : decode cJ6_numberOfTrailingZeros_0f7a4 59 = .ok (.iconst 4, 1) := by decide +kernel
theorem dJ6_numberOfTrailingZeros_0f7a4_60 : decode cJ6_numberOfTrailingZeros_0f7a4 60 = .ok (.iushr, 1) := by decide +kernel
theorem dJ6_numberOfTrailingZeros_0f7a4_61 : decode cJ6_numberOfTrailingZeros_0f7a4 61 = .ok (.istore_n 0, 1) := by decide +kernel
theorem dJ6_numberOfTrailingZeros_0f7a4_62 : decode cJ6_numberOfTrailingZeros_0f7a4 62 = .ok (.iload_n 0, 1) := by decide +kernel
theorem dJ6_numberOfTrailingZeros_0f7a4_63 : decode cJ6_numberOfTrailingZeros_0f7a4 63 = .ok (.iconst 4, 1) := by decide +kernel
theorem dJ6_numberOfTrailingZeros_0f7a4_64 : decode cJ6_numberOfTrailingZeros_0f7a4 64 = .ok (.if_icmp .le 10, 3) := by decide +kernel
theorem dJ6_numberOfTrailingZeros_0f7a4_67 : decode cJ6_numberOfTrailingZeros_0f7a4 67 = .ok (.iinc 1 2, 3) := by decide +kernel
theorem dJ6_numberOfTrailingZeros_0f7a4_70 : decode cJ6_numberOfTrailingZeros_0f7a4 70 = .ok (.iload_n 0, 1) := by decide +kernel
theorem dJ6_numberOfTrailingZeros_0f7a4_71 : decode cJ6_numberOfTrailingZeros_0f7a4 71 = .ok (.iconst 2, 1) := by decide +kernel
theorem dJ6_numberOfTrailingZeros_0f7a4_72 : decode cJ6_numberOfTrailingZeros_0f7a4 72 = .ok (.iushr, 1) := by decide +kernel
theorem dJ6_numberOfTrailingZeros_0f7a4_73 : decode cJ6_numberOfTrailingZeros_0f7a4 73 = .ok (.istore_n 0, 1) := by decide +kernel
theorem dJ6_numberOfTrailingZeros_0f7a4_74 : decode cJ6_numberOfTrailingZeros_0f7a4 74 = .ok (.iload_n 1, 1) := by decide +kernel
theorem dJ6_numberOfTrailingZeros_0f7a4_75 : decode cJ6_numberOfTrailingZeros_0f7a4 75 = .ok (.iload_n 0, 1) := by decide +kernel
theorem dJ6_numberOfTrailingZeros_0f7a4_76 : decode cJ6_numberOfTrailingZeros_0f7a4 76 = .ok (.iconst 1, 1) := by decide +kernel
theorem dJ6_numberOfTrailingZeros_0f7a4_77 : decode cJ6_numberOfTrailingZeros_0f7a4 77 = .ok (.iushr, 1) := by decide +kernel
theorem dJ6_numberOfTrailingZeros_0f7a4_78 : decode cJ6_numberOfTrailingZeros_0f7a4 78 = .ok (.iadd, 1) := by decide +kernel
theorem dJ6_numberOfTrailingZeros_0f7a4_79 : decode cJ6_numberOfTrailingZeros_0f7a4 79 = .ok (.ireturn, 1) := by decide +kernel
def p_J6_numberOfTrailingZeros_0f7a4_74 (F : Nat) (Post : Int32 → Prop) (y0_74 : Int32) (y1_74 : Int32) : Prop := (Post (y1_74 + ((y0_74.toUInt32 >>> ((1 : Int32).toUInt32 &&& Int32.toUInt32 31)).toInt32)))
def p_J6_numberOfTrailingZeros_0f7a4_62 (F : Nat) (Post : Int32 → Prop) (y0_62 : Int32) (y1_62 : Int32) : Prop := ((y0_62 ≤ (4 : Int32) → (p_J6_numberOfTrailingZeros_0f7a4_74 F Post y0_62 y1_62)) ∧ (¬ y0_62 ≤ (4 : Int32) → (p_J6_numberOfTrailingZeros_0f7a4_74 F Post ((y0_62.toUInt32 >>> ((2 : Int32).toUInt32 &&& Int32.toUInt32 31)).toInt32) (y1_62 + (2 : Int32)))))
def p_J6_numberOfTrailingZeros_0f7a4_49 (F : Nat) (Post : Int32 → Prop) (y0_49 : Int32) (y1_49 : Int32) : Prop := ((y0_49 ≤ (16 : Int32) → (p_J6_numberOfTrailingZeros_0f7a4_62 F Post y0_49 y1_49)) ∧ (¬ y0_49 ≤ (16 : Int32) → (p_J6_numberOfTrailingZeros_0f7a4_62 F Post ((y0_49.toUInt32 >>> ((4 : Int32).toUInt32 &&& Int32.toUInt32 31)).toInt32) (y1_49 + (4 : Int32)))))
def p_J6_numberOfTrailingZeros_0f7a4_34 (F : Nat) (Post : Int32 → Prop) (y1_34 : Int32) (y0_34 : Int32) : Prop := ((y0_34 ≤ (256 : Int32) → (p_J6_numberOfTrailingZeros_0f7a4_49 F Post y0_34 y1_34)) ∧ (¬ y0_34 ≤ (256 : Int32) → (p_J6_numberOfTrailingZeros_0f7a4_49 F Post ((y0_34.toUInt32 >>> ((8 : Int32).toUInt32 &&& Int32.toUInt32 31)).toInt32) (y1_34 + (8 : Int32)))))
def p_J6_numberOfTrailingZeros_0f7a4 (F : Nat) (p0 : Int32) (Post : Int32 → Prop) : Prop := ((0 < ((p0 ^^^ (-1 : Int32)) &&& (p0 - (1 : Int32))) → ((((p0 ^^^ (-1 : Int32)) &&& (p0 - (1 : Int32))) ≤ (65536 : Int32) → (p_J6_numberOfTrailingZeros_0f7a4_34 F Post (1 : Int32) ((p0 ^^^ (-1 : Int32)) &&& (p0 - (1 : Int32))))) ∧ (¬ ((p0 ^^^ (-1 : Int32)) &&& (p0 - (1 : Int32))) ≤ (65536 : Int32) → (p_J6_numberOfTrailingZeros_0f7a4_34 F Post ((1 : Int32) + (16 : Int32)) ((((p0 ^^^ (-1 : Int32)) &&& (p0 - (1 : Int32))).toUInt32 >>> ((16 : Int32).toUInt32 &&& Int32.toUInt32 31)).toInt32))))) ∧ (¬ 0 < ((p0 ^^^ (-1 : Int32)) &&& (p0 - (1 : Int32))) → (Post (((p0 ^^^ (-1 : Int32)) &&& (p0 - (1 : Int32))) &&& (32 : Int32)))))
set_option maxHeartbeats 4000000 in
set_option maxRecDepth 100000 in
theorem c_J6_numberOfTrailingZeros_0f7a4 (l : Launch) (D : va_G) (cT : Nat → ClassId) (F : Nat) (p0 : Int32) (Post : Int32 → Prop) (hg : p_J6_numberOfTrailingZeros_0f7a4 F p0 Post) : MRi l D cT yJ6_numberOfTrailingZeros_0f7a4 cJ6_numberOfTrailingZeros_0f7a4 2 (some .int) 0 0 [.int p0] [] Post := by
  refine MRi.of (by decide) (Nat.le_of_ble_eq_true rfl) ?_
  intro p e s m below meth c C0 hr hP hD ls hl
  have hl : lv_has ls 2 [(0, .int p0)] := hl
  have hx := C0.x
  have hb := C0.b
  have hP : va_P D cls9 [] s.heap := hP
  have hD : va_D (fun _ => True) [] := hD
  have L74 : ∀ (y0_74 : Int32) (y1_74 : Int32) (ls : Array Slot), p_J6_numberOfTrailingZeros_0f7a4_74 F Post y0_74 y1_74 → lv_has ls 2 [(0, .int y0_74), (1, .int y1_74)] → W p l e (rmO 0 0 0 0) s m ([.int p0] : List Value).toArray below meth c s.heap [] 0 0 (MQ below (vp_Si Post) ([.int p0] : List Value).toArray s 0 0 (fun _ => False)) (F0 m 74 ls []) := by
    intro y0_74 y1_74 ls hg hl
    unfold p_J6_numberOfTrailingZeros_0f7a4_74 at hg
    refine lv_iload_n hx hb dJ6_numberOfTrailingZeros_0f7a4_74 rfl (lv_at hl 1 rfl) ?_
    refine lv_iload_n hx hb dJ6_numberOfTrailingZeros_0f7a4_75 rfl (lv_at hl 0 rfl) ?_
    refine lv_iconst (v := (1 : Int32)) hx hb dJ6_numberOfTrailingZeros_0f7a4_76 (by decide) ?_
    refine lv_iushr (v := (y0_74.toUInt32 >>> ((1 : Int32).toUInt32 &&& Int32.toUInt32 31)).toInt32) hx hb dJ6_numberOfTrailingZeros_0f7a4_77 rfl ?_
    refine lv_iadd hx hb dJ6_numberOfTrailingZeros_0f7a4_78 ?_
    exact k_xiret C0 hr hg dJ6_numberOfTrailingZeros_0f7a4_79
  have L62 : ∀ (y0_62 : Int32) (y1_62 : Int32) (ls : Array Slot), p_J6_numberOfTrailingZeros_0f7a4_62 F Post y0_62 y1_62 → lv_has ls 2 [(0, .int y0_62), (1, .int y1_62)] → W p l e (rmO 0 0 0 0) s m ([.int p0] : List Value).toArray below meth c s.heap [] 0 0 (MQ below (vp_Si Post) ([.int p0] : List Value).toArray s 0 0 (fun _ => False)) (F0 m 62 ls []) := by
    intro y0_62 y1_62 ls hg hl
    unfold p_J6_numberOfTrailingZeros_0f7a4_62 at hg
    refine lv_iload_n hx hb dJ6_numberOfTrailingZeros_0f7a4_62 rfl (lv_at hl 0 rfl) ?_
    refine lv_iconst (v := (4 : Int32)) hx hb dJ6_numberOfTrailingZeros_0f7a4_63 (by decide) ?_
    refine lv_icmp_le (tgt := 74) hx hb dJ6_numberOfTrailingZeros_0f7a4_64 (by decide) (fun c_64 => ?_) (fun c_64 => ?_)
    · have hg := hg.1 c_64
      exact L74 y0_62 y1_62 _ hg hl
    have hg := hg.2 c_64
    refine lv_iinc (v := (y1_62 + (2 : Int32))) (lv' := [(1, .int (y1_62 + (2 : Int32))), (0, .int y0_62)]) hx hb dJ6_numberOfTrailingZeros_0f7a4_67 hl (k := 1) rfl rfl (by decide) rfl (fun ls hl => ?_)
    refine lv_iload_n hx hb dJ6_numberOfTrailingZeros_0f7a4_70 rfl (lv_at hl 1 rfl) ?_
    refine lv_iconst (v := (2 : Int32)) hx hb dJ6_numberOfTrailingZeros_0f7a4_71 (by decide) ?_
    refine lv_iushr (v := (y0_62.toUInt32 >>> ((2 : Int32).toUInt32 &&& Int32.toUInt32 31)).toInt32) hx hb dJ6_numberOfTrailingZeros_0f7a4_72 rfl ?_
    refine lv_istore_n (lv' := [(0, .int ((y0_62.toUInt32 >>> ((2 : Int32).toUInt32 &&& Int32.toUInt32 31)).toInt32)), (1, .int (y1_62 + (2 : Int32)))]) hx hb dJ6_numberOfTrailingZeros_0f7a4_73 rfl hl (by decide) rfl (fun ls hl => ?_)
    exact L74 ((y0_62.toUInt32 >>> ((2 : Int32).toUInt32 &&& Int32.toUInt32 31)).toInt32) (y1_62 + (2 : Int32)) _ hg hl
  have L49 : ∀ (y0_49 : Int32) (y1_49 : Int32) (ls : Array Slot), p_J6_numberOfTrailingZeros_0f7a4_49 F Post y0_49 y1_49 → lv_has ls 2 [(0, .int y0_49), (1, .int y1_49)] → W p l e (rmO 0 0 0 0) s m ([.int p0] : List Value).toArray below meth c s.heap [] 0 0 (MQ below (vp_Si Post) ([.int p0] : List Value).toArray s 0 0 (fun _ => False)) (F0 m 49 ls []) := by
    intro y0_49 y1_49 ls hg hl
    unfold p_J6_numberOfTrailingZeros_0f7a4_49 at hg
    refine lv_iload_n hx hb dJ6_numberOfTrailingZeros_0f7a4_49 rfl (lv_at hl 0 rfl) ?_
    refine lv_bipush (v := (16 : Int32)) hx hb dJ6_numberOfTrailingZeros_0f7a4_50 (by decide) ?_
    refine lv_icmp_le (tgt := 62) hx hb dJ6_numberOfTrailingZeros_0f7a4_52 (by decide) (fun c_52 => ?_) (fun c_52 => ?_)
    · have hg := hg.1 c_52
      exact L62 y0_49 y1_49 _ hg hl
    have hg := hg.2 c_52
    refine lv_iinc (v := (y1_49 + (4 : Int32))) (lv' := [(1, .int (y1_49 + (4 : Int32))), (0, .int y0_49)]) hx hb dJ6_numberOfTrailingZeros_0f7a4_55 hl (k := 1) rfl rfl (by decide) rfl (fun ls hl => ?_)
    refine lv_iload_n hx hb dJ6_numberOfTrailingZeros_0f7a4_58 rfl (lv_at hl 1 rfl) ?_
    refine lv_iconst (v := (4 : Int32)) hx hb dJ6_numberOfTrailingZeros_0f7a4_59 (by decide) ?_
    refine lv_iushr (v := (y0_49.toUInt32 >>> ((4 : Int32).toUInt32 &&& Int32.toUInt32 31)).toInt32) hx hb dJ6_numberOfTrailingZeros_0f7a4_60 rfl ?_
    refine lv_istore_n (lv' := [(0, .int ((y0_49.toUInt32 >>> ((4 : Int32).toUInt32 &&& Int32.toUInt32 31)).toInt32)), (1, .int (y1_49 + (4 : Int32)))]) hx hb dJ6_numberOfTrailingZeros_0f7a4_61 rfl hl (by decide) rfl (fun ls hl => ?_)
    exact L62 ((y0_49.toUInt32 >>> ((4 : Int32).toUInt32 &&& Int32.toUInt32 31)).toInt32) (y1_49 + (4 : Int32)) _ hg hl
  have L34 : ∀ (y1_34 : Int32) (y0_34 : Int32) (ls : Array Slot), p_J6_numberOfTrailingZeros_0f7a4_34 F Post y1_34 y0_34 → lv_has ls 2 [(0, .int y0_34), (1, .int y1_34)] → W p l e (rmO 0 0 0 0) s m ([.int p0] : List Value).toArray below meth c s.heap [] 0 0 (MQ below (vp_Si Post) ([.int p0] : List Value).toArray s 0 0 (fun _ => False)) (F0 m 34 ls []) := by
    intro y1_34 y0_34 ls hg hl
    unfold p_J6_numberOfTrailingZeros_0f7a4_34 at hg
    refine lv_iload_n hx hb dJ6_numberOfTrailingZeros_0f7a4_34 rfl (lv_at hl 0 rfl) ?_
    refine lv_sipush (v := (256 : Int32)) hx hb dJ6_numberOfTrailingZeros_0f7a4_35 (by decide) ?_
    refine lv_icmp_le (tgt := 49) hx hb dJ6_numberOfTrailingZeros_0f7a4_38 (by decide) (fun c_38 => ?_) (fun c_38 => ?_)
    · have hg := hg.1 c_38
      exact L49 y0_34 y1_34 _ hg hl
    have hg := hg.2 c_38
    refine lv_iinc (v := (y1_34 + (8 : Int32))) (lv' := [(1, .int (y1_34 + (8 : Int32))), (0, .int y0_34)]) hx hb dJ6_numberOfTrailingZeros_0f7a4_41 hl (k := 1) rfl rfl (by decide) rfl (fun ls hl => ?_)
    refine lv_iload_n hx hb dJ6_numberOfTrailingZeros_0f7a4_44 rfl (lv_at hl 1 rfl) ?_
    refine lv_bipush (v := (8 : Int32)) hx hb dJ6_numberOfTrailingZeros_0f7a4_45 (by decide) ?_
    refine lv_iushr (v := (y0_34.toUInt32 >>> ((8 : Int32).toUInt32 &&& Int32.toUInt32 31)).toInt32) hx hb dJ6_numberOfTrailingZeros_0f7a4_47 rfl ?_
    refine lv_istore_n (lv' := [(0, .int ((y0_34.toUInt32 >>> ((8 : Int32).toUInt32 &&& Int32.toUInt32 31)).toInt32)), (1, .int (y1_34 + (8 : Int32)))]) hx hb dJ6_numberOfTrailingZeros_0f7a4_48 rfl hl (by decide) rfl (fun ls hl => ?_)
    exact L49 ((y0_34.toUInt32 >>> ((8 : Int32).toUInt32 &&& Int32.toUInt32 31)).toInt32) (y1_34 + (8 : Int32)) _ hg hl
  unfold p_J6_numberOfTrailingZeros_0f7a4 at hg
  refine lv_iload_n hx hb dJ6_numberOfTrailingZeros_0f7a4_0 rfl (lv_at hl 0 rfl) ?_
  refine lv_iconst (v := (-1 : Int32)) hx hb dJ6_numberOfTrailingZeros_0f7a4_1 (by decide) ?_
  refine lv_ixor hx hb dJ6_numberOfTrailingZeros_0f7a4_2 ?_
  refine lv_iload_n hx hb dJ6_numberOfTrailingZeros_0f7a4_3 rfl (lv_at hl 0 rfl) ?_
  refine lv_iconst (v := (1 : Int32)) hx hb dJ6_numberOfTrailingZeros_0f7a4_4 (by decide) ?_
  refine lv_isub hx hb dJ6_numberOfTrailingZeros_0f7a4_5 ?_
  refine lv_iand hx hb dJ6_numberOfTrailingZeros_0f7a4_6 ?_
  refine lv_istore_n (lv' := [(0, .int ((p0 ^^^ (-1 : Int32)) &&& (p0 - (1 : Int32))))]) hx hb dJ6_numberOfTrailingZeros_0f7a4_7 rfl hl (by decide) rfl (fun ls hl => ?_)
  refine lv_iload_n hx hb dJ6_numberOfTrailingZeros_0f7a4_8 rfl (lv_at hl 0 rfl) ?_
  refine lv_if_gt (tgt := 17) hx hb dJ6_numberOfTrailingZeros_0f7a4_9 (by decide) (fun c_9 => ?_) (fun c_9 => ?_)
  · have hg := hg.1 c_9
    refine lv_iconst (v := (1 : Int32)) hx hb dJ6_numberOfTrailingZeros_0f7a4_17 (by decide) ?_
    refine lv_istore_n (lv' := [(1, .int (1 : Int32)), (0, .int ((p0 ^^^ (-1 : Int32)) &&& (p0 - (1 : Int32))))]) hx hb dJ6_numberOfTrailingZeros_0f7a4_18 rfl hl (by decide) rfl (fun ls hl => ?_)
    refine lv_iload_n hx hb dJ6_numberOfTrailingZeros_0f7a4_19 rfl (lv_at hl 1 rfl) ?_
    refine lv_ldcw (v := (65536 : Int32)) hx hb C0.ow (C0.t w7_6) dJ6_numberOfTrailingZeros_0f7a4_20 ?_
    refine lv_icmp_le (tgt := 34) hx hb dJ6_numberOfTrailingZeros_0f7a4_23 (by decide) (fun c_23 => ?_) (fun c_23 => ?_)
    · have hg := hg.1 c_23
      exact L34 (1 : Int32) ((p0 ^^^ (-1 : Int32)) &&& (p0 - (1 : Int32))) _ hg (lv_sub hl [1, 0] rfl)
    have hg := hg.2 c_23
    refine lv_iinc (v := ((1 : Int32) + (16 : Int32))) (lv' := [(1, .int ((1 : Int32) + (16 : Int32))), (0, .int ((p0 ^^^ (-1 : Int32)) &&& (p0 - (1 : Int32))))]) hx hb dJ6_numberOfTrailingZeros_0f7a4_26 hl (k := 0) rfl rfl (by decide) rfl (fun ls hl => ?_)
    refine lv_iload_n hx hb dJ6_numberOfTrailingZeros_0f7a4_29 rfl (lv_at hl 1 rfl) ?_
    refine lv_bipush (v := (16 : Int32)) hx hb dJ6_numberOfTrailingZeros_0f7a4_30 (by decide) ?_
    refine lv_iushr (v := (((p0 ^^^ (-1 : Int32)) &&& (p0 - (1 : Int32))).toUInt32 >>> ((16 : Int32).toUInt32 &&& Int32.toUInt32 31)).toInt32) hx hb dJ6_numberOfTrailingZeros_0f7a4_32 rfl ?_
    refine lv_istore_n (lv' := [(0, .int ((((p0 ^^^ (-1 : Int32)) &&& (p0 - (1 : Int32))).toUInt32 >>> ((16 : Int32).toUInt32 &&& Int32.toUInt32 31)).toInt32)), (1, .int ((1 : Int32) + (16 : Int32)))]) hx hb dJ6_numberOfTrailingZeros_0f7a4_33 rfl hl (by decide) rfl (fun ls hl => ?_)
    exact L34 ((1 : Int32) + (16 : Int32)) ((((p0 ^^^ (-1 : Int32)) &&& (p0 - (1 : Int32))).toUInt32 >>> ((16 : Int32).toUInt32 &&& Int32.toUInt32 31)).toInt32) _ hg hl
  have hg := hg.2 c_9
  refine lv_iload_n hx hb dJ6_numberOfTrailingZeros_0f7a4_12 rfl (lv_at hl 0 rfl) ?_
  refine lv_bipush (v := (32 : Int32)) hx hb dJ6_numberOfTrailingZeros_0f7a4_13 (by decide) ?_
  refine lv_iand hx hb dJ6_numberOfTrailingZeros_0f7a4_15 ?_
  exact k_xiret C0 hr hg dJ6_numberOfTrailingZeros_0f7a4_16
theorem dJ13_numberOfTrailingZeros_95d88_0 : decode cJ13_numberOfTrailingZeros_95d88 0 = .ok (.lload_n 0, 1) := by decide +kernel
theorem dJ13_numberOfTrailingZeros_95d88_1 : decode cJ13_numberOfTrailingZeros_95d88 1 = .ok (.l2i, 1) := by decide +kernel
theorem dJ13_numberOfTrailingZeros_95d88_2 : decode cJ13_numberOfTrailingZeros_95d88 2 = .ok (.istore_n 2, 1) := by decide +kernel
theorem dJ13_numberOfTrailingZeros_95d88_3 : decode cJ13_numberOfTrailingZeros_95d88 3 = .ok (.iload_n 2, 1) := by decide +kernel
theorem dJ13_numberOfTrailingZeros_95d88_4 : decode cJ13_numberOfTrailingZeros_95d88 4 = .ok (.ifCond .ne 17, 3) := by decide +kernel
theorem dJ13_numberOfTrailingZeros_95d88_7 : decode cJ13_numberOfTrailingZeros_95d88 7 = .ok (.bipush 32, 2) := by decide +kernel
theorem dJ13_numberOfTrailingZeros_95d88_9 : decode cJ13_numberOfTrailingZeros_95d88 9 = .ok (.lload_n 0, 1) := by decide +kernel
theorem dJ13_numberOfTrailingZeros_95d88_10 : decode cJ13_numberOfTrailingZeros_95d88 10 = .ok (.bipush 32, 2) := by decide +kernel
theorem dJ13_numberOfTrailingZeros_95d88_12 : decode cJ13_numberOfTrailingZeros_95d88 12 = .ok (.lushr, 1) := by decide +kernel
theorem dJ13_numberOfTrailingZeros_95d88_13 : decode cJ13_numberOfTrailingZeros_95d88 13 = .ok (.l2i, 1) := by decide +kernel
theorem dJ13_numberOfTrailingZeros_95d88_14 : decode cJ13_numberOfTrailingZeros_95d88 14 = .ok (.invokestatic 311, 3) := by decide +kernel
theorem dJ13_numberOfTrailingZeros_95d88_17 : decode cJ13_numberOfTrailingZeros_95d88 17 = .ok (.iadd, 1) := by decide +kernel
theorem dJ13_numberOfTrailingZeros_95d88_18 : decode cJ13_numberOfTrailingZeros_95d88 18 = .ok (.goto 7, 3) := by decide +kernel
theorem dJ13_numberOfTrailingZeros_95d88_21 : decode cJ13_numberOfTrailingZeros_95d88 21 = .ok (.iload_n 2, 1) := by decide +kernel
theorem dJ13_numberOfTrailingZeros_95d88_22 : decode cJ13_numberOfTrailingZeros_95d88 22 = .ok (.invokestatic 311, 3) := by decide +kernel
theorem dJ13_numberOfTrailingZeros_95d88_25 : decode cJ13_numberOfTrailingZeros_95d88 25 = .ok (.ireturn, 1) := by decide +kernel
def p_J13_numberOfTrailingZeros_95d88 (F : Nat) (p0 : Int64) (Post : Int32 → Prop) : Prop := ((¬ (p0.toInt32) = 0 → (p_J6_numberOfTrailingZeros_0f7a4 F (p0.toInt32) (fun (r_22 : Int32) => (Post r_22)))) ∧ ((p0.toInt32) = 0 → (p_J6_numberOfTrailingZeros_0f7a4 F (((p0.toUInt64 >>> ((32 : Int32).toInt64.toUInt64 &&& Int64.toUInt64 63)).toInt64).toInt32) (fun (r_14 : Int32) => (Post ((32 : Int32) + r_14))))))
set_option maxHeartbeats 4000000 in
set_option maxRecDepth 100000 in
theorem c_J13_numberOfTrailingZeros_95d88 (l : Launch) (D : va_G) (cT : Nat → ClassId) (F : Nat) (p0 : Int64) (Post : Int32 → Prop) (hg : p_J13_numberOfTrailingZeros_95d88 F p0 Post) : MRi l D cT yJ13_numberOfTrailingZeros_95d88 cJ13_numberOfTrailingZeros_95d88 3 (some .int) 1 21 [.long p0] [] Post := by
  refine MRi.of (by decide) (Nat.le_of_ble_eq_true rfl) ?_
  intro p e s m below meth c C0 hr hP hD ls hl
  have hl : lv_has ls 3 [(0, .long p0)] := hl
  have hx := C0.x
  have hb := C0.b
  have hP : va_P D cls9 [] s.heap := hP
  have hD : va_D (fun _ => True) [] := hD
  unfold p_J13_numberOfTrailingZeros_95d88 at hg
  refine lv_lload_n hx hb dJ13_numberOfTrailingZeros_95d88_0 rfl (lv_at hl 0 rfl) ?_
  refine lv_l2i (v := (p0.toInt32)) hx hb dJ13_numberOfTrailingZeros_95d88_1 rfl ?_
  refine lv_istore_n (lv' := [(2, .int (p0.toInt32)), (0, .long p0)]) hx hb dJ13_numberOfTrailingZeros_95d88_2 rfl hl (by decide) rfl (fun ls hl => ?_)
  refine lv_iload_n hx hb dJ13_numberOfTrailingZeros_95d88_3 rfl (lv_at hl 0 rfl) ?_
  refine lv_if_ne (tgt := 21) hx hb dJ13_numberOfTrailingZeros_95d88_4 (by decide) (fun c_4 => ?_) (fun c_4 => ?_)
  · have hg := hg.1 c_4
    refine lv_iload_n hx hb dJ13_numberOfTrailingZeros_95d88_21 rfl (lv_at hl 0 rfl) ?_
    refine k_Sxi (rest := []) C0 lk_J13_311 (c_J6_numberOfTrailingZeros_0f7a4 l D cT F (p0.toInt32) _ hg) hP hD [] (by decide +kernel) rfl ⟨Nat.le_of_ble_eq_true rfl, Nat.le_of_ble_eq_true rfl⟩ rfl hl.1 rfl (Nat.le_of_ble_eq_true rfl) dJ13_numberOfTrailingZeros_95d88_22 ⟨Nat.le_of_ble_eq_true rfl, Nat.le_of_ble_eq_true rfl⟩ (fun r_22 hg => ?_)
    exact k_xiret C0 hr hg dJ13_numberOfTrailingZeros_95d88_25
  have hg := hg.2 c_4
  refine lv_bipush (v := (32 : Int32)) hx hb dJ13_numberOfTrailingZeros_95d88_7 (by decide) ?_
  refine lv_lload_n hx hb dJ13_numberOfTrailingZeros_95d88_9 rfl (lv_at hl 1 rfl) ?_
  refine lv_bipush (v := (32 : Int32)) hx hb dJ13_numberOfTrailingZeros_95d88_10 (by decide) ?_
  refine lv_lushr (v := ((p0.toUInt64 >>> ((32 : Int32).toInt64.toUInt64 &&& Int64.toUInt64 63)).toInt64)) hx hb dJ13_numberOfTrailingZeros_95d88_12 rfl ?_
  refine lv_l2i (v := (((p0.toUInt64 >>> ((32 : Int32).toInt64.toUInt64 &&& Int64.toUInt64 63)).toInt64).toInt32)) hx hb dJ13_numberOfTrailingZeros_95d88_13 rfl ?_
  refine k_Sxi (rest := [.int (32 : Int32)]) C0 lk_J13_311 (c_J6_numberOfTrailingZeros_0f7a4 l D cT F (((p0.toUInt64 >>> ((32 : Int32).toInt64.toUInt64 &&& Int64.toUInt64 63)).toInt64).toInt32) _ hg) hP hD [] (by decide +kernel) rfl ⟨Nat.le_of_ble_eq_true rfl, Nat.le_of_ble_eq_true rfl⟩ rfl hl.1 rfl (Nat.le_of_ble_eq_true rfl) dJ13_numberOfTrailingZeros_95d88_14 ⟨Nat.le_of_ble_eq_true rfl, Nat.le_of_ble_eq_true rfl⟩ (fun r_14 hg => ?_)
  refine lv_iadd hx hb dJ13_numberOfTrailingZeros_95d88_17 ?_
  refine lv_goto (tgt := 25) hx hb dJ13_numberOfTrailingZeros_95d88_18 (by decide) ?_
  exact k_xiret C0 hr hg dJ13_numberOfTrailingZeros_95d88_25
theorem dX8_litters_0 : decode cX8_litters 0 = .ok (.aload_n 0, 1) := by decide +kernel
theorem dX8_litters_1 : decode cX8_litters 1 = .ok (.iconst 0, 1) := by decide +kernel
theorem dX8_litters_2 : decode cX8_litters 2 = .ok (.putfield 82, 3) := by decide +kernel
theorem dX8_litters_5 : decode cX8_litters 5 = .ok (.iload_n 1, 1) := by decide +kernel
theorem dX8_litters_6 : decode cX8_litters 6 = .ok (.iconst 0, 1) := by decide +kernel
theorem dX8_litters_7 : decode cX8_litters 7 = .ok (.bipush 40, 2) := by decide +kernel
theorem dX8_litters_9 : decode cX8_litters 9 = .ok (.invokestatic 92, 3) := by decide +kernel
theorem dX8_litters_12 : decode cX8_litters 12 = .ok (.ifCond .ne 5, 3) := by decide +kernel
theorem dX8_litters_15 : decode cX8_litters 15 = .ok (.iconst (-1), 1) := by decide +kernel
theorem dX8_litters_16 : decode cX8_litters 16 = .ok (.ireturn, 1) := by decide +kernel
theorem dX8_litters_17 : decode cX8_litters 17 = .ok (.iconst 0, 1) := by decide +kernel
theorem dX8_litters_18 : decode cX8_litters 18 = .ok (.istore_n 2, 1) := by decide +kernel
theorem dX8_litters_19 : decode cX8_litters 19 = .ok (.iload_n 2, 1) := by decide +kernel
theorem dX8_litters_20 : decode cX8_litters 20 = .ok (.iload_n 1, 1) := by decide +kernel
theorem dX8_litters_21 : decode cX8_litters 21 = .ok (.if_icmp .gt 64, 3) := by decide +kernel
theorem dX8_litters_24 : decode cX8_litters 24 = .ok (.lconst 0, 1) := by decide +kernel
theorem dX8_litters_25 : decode cX8_litters 25 = .ok (.lstore_n 3, 1) := by decide +kernel
theorem dX8_litters_26 : decode cX8_litters 26 = .ok (.iconst 1, 1) := by decide +kernel
theorem dX8_litters_27 : decode cX8_litters 27 = .ok (.istore 5, 2) := by decide +kernel
theorem dX8_litters_29 : decode cX8_litters 29 = .ok (.iconst 2, 1) := by decide +kernel
theorem dX8_litters_30 : decode cX8_litters 30 = .ok (.iload 5, 2) := by decide +kernel
theorem dX8_litters_32 : decode cX8_litters 32 = .ok (.imul, 1) := by decide +kernel
theorem dX8_litters_33 : decode cX8_litters 33 = .ok (.iload_n 2, 1) := by decide +kernel
theorem dX8_litters_34 : decode cX8_litters 34 = .ok (.if_icmp .ge 31, 3) := by decide +kernel
theorem dX8_litters_37 : decode cX8_litters 37 = .ok (.lload_n 3, 1) := by decide +kernel
theorem dX8_litters_38 : decode cX8_litters 38 = .ok (.lconst 1, 1) := by decide +kernel
theorem dX8_litters_39 : decode cX8_litters 39 = .ok (.aload_n 0, 1) := by decide +kernel
theorem dX8_litters_40 : decode cX8_litters 40 = .ok (.getfield 69, 3) := by decide +kernel
theorem dX8_litters_43 : decode cX8_litters 43 = .ok (.iload 5, 2) := by decide +kernel
theorem dX8_litters_45 : decode cX8_litters 45 = .ok (.iaload, 1) := by decide +kernel
theorem dX8_litters_46 : decode cX8_litters 46 = .ok (.aload_n 0, 1) := by decide +kernel
theorem dX8_litters_47 : decode cX8_litters 47 = .ok (.getfield 69, 3) := by decide +kernel
theorem dX8_litters_50 : decode cX8_litters 50 = .ok (.iload_n 2, 1) := by decide +kernel
theorem dX8_litters_51 : decode cX8_litters 51 = .ok (.iload 5, 2) := by decide +kernel
theorem dX8_litters_53 : decode cX8_litters 53 = .ok (.isub, 1) := by decide +kernel
theorem dX8_litters_54 : decode cX8_litters 54 = .ok (.iaload, 1) := by decide +kernel
theorem dX8_litters_55 : decode cX8_litters 55 = .ok (.ixor, 1) := by decide +kernel
theorem dX8_litters_56 : decode cX8_litters 56 = .ok (.lshl, 1) := by decide +kernel
theorem dX8_litters_57 : decode cX8_litters 57 = .ok (.lor, 1) := by decide +kernel
theorem dX8_litters_58 : decode cX8_litters 58 = .ok (.lstore_n 3, 1) := by decide +kernel
theorem dX8_litters_59 : decode cX8_litters 59 = .ok (.iinc 5 1, 3) := by decide +kernel
theorem dX8_litters_62 : decode cX8_litters 62 = .ok (.goto (-33), 3) := by decide +kernel
theorem dX8_litters_65 : decode cX8_litters 65 = .ok (.aload_n 0, 1) := by decide +kernel
theorem dX8_litters_66 : decode cX8_litters 66 = .ok (.getfield 69, 3) := by decide +kernel
theorem dX8_litters_69 : decode cX8_litters 69 = .ok (.iload_n 2, 1) := by decide +kernel
theorem dX8_litters_70 : decode cX8_litters 70 = .ok (.lload_n 3, 1) := by decide +kernel
theorem dX8_litters_71 : decode cX8_litters 71 = .ok (.ldc2_w 368, 3) := by decide +kernel
theorem dX8_litters_74 : decode cX8_litters 74 = .ok (.lxor, 1) := by decide +kernel
theorem dX8_litters_75 : decode cX8_litters 75 = .ok (.invokestatic 370, 3) := by decide +kernel
theorem dX8_litters_78 : decode cX8_litters 78 = .ok (.iastore, 1) := by decide +kernel
theorem dX8_litters_79 : decode cX8_litters 79 = .ok (.iinc 2 1, 3) := by decide +kernel
theorem dX8_litters_82 : decode cX8_litters 82 = .ok (.goto (-63), 3) := by decide +kernel
theorem dX8_litters_85 : decode cX8_litters 85 = .ok (.aload_n 0, 1) := by decide +kernel
theorem dX8_litters_86 : decode cX8_litters 86 = .ok (.iconst 0, 1) := by decide +kernel
theorem dX8_litters_87 : decode cX8_litters 87 = .ok (.putfield 86, 3) := by decide +kernel
theorem dX8_litters_90 : decode cX8_litters 90 = .ok (.aload_n 0, 1) := by decide +kernel
theorem dX8_litters_91 : decode cX8_litters 91 = .ok (.getfield 69, 3) := by decide +kernel
theorem dX8_litters_94 : decode cX8_litters 94 = .ok (.iload_n 1, 1) := by decide +kernel
theorem dX8_litters_95 : decode cX8_litters 95 = .ok (.iaload, 1) := by decide +kernel
theorem dX8_litters_96 : decode cX8_litters 96 = .ok (.ifCond .ne 5, 3) := by decide +kernel
theorem dX8_litters_99 : decode cX8_litters 99 = .ok (.iconst 0, 1) := by decide +kernel
theorem dX8_litters_100 : decode cX8_litters 100 = .ok (.ireturn, 1) := by decide +kernel
theorem dX8_litters_101 : decode cX8_litters 101 = .ok (.iconst 1, 1) := by decide +kernel
theorem dX8_litters_102 : decode cX8_litters 102 = .ok (.istore_n 2, 1) := by decide +kernel
theorem dX8_litters_103 : decode cX8_litters 103 = .ok (.aload_n 0, 1) := by decide +kernel
theorem dX8_litters_104 : decode cX8_litters 104 = .ok (.getfield 69, 3) := by decide +kernel
theorem dX8_litters_107 : decode cX8_litters 107 = .ok (.iload_n 2, 1) := by decide +kernel
theorem dX8_litters_108 : decode cX8_litters 108 = .ok (.iaload, 1) := by decide +kernel
theorem dX8_litters_109 : decode cX8_litters 109 = .ok (.aload_n 0, 1) := by decide +kernel
theorem dX8_litters_110 : decode cX8_litters 110 = .ok (.getfield 69, 3) := by decide +kernel
theorem dX8_litters_113 : decode cX8_litters 113 = .ok (.iload_n 1, 1) := by decide +kernel
theorem dX8_litters_114 : decode cX8_litters 114 = .ok (.iload_n 2, 1) := by decide +kernel
theorem dX8_litters_115 : decode cX8_litters 115 = .ok (.isub, 1) := by decide +kernel
theorem dX8_litters_116 : decode cX8_litters 116 = .ok (.iaload, 1) := by decide +kernel
theorem dX8_litters_117 : decode cX8_litters 117 = .ok (.if_icmp .eq 9, 3) := by decide +kernel
theorem dX8_litters_120 : decode cX8_litters 120 = .ok (.iinc 2 1, 3) := by decide +kernel
theorem dX8_litters_123 : decode cX8_litters 123 = .ok (.goto (-20), 3) := by decide +kernel
theorem dX8_litters_126 : decode cX8_litters 126 = .ok (.aload_n 0, 1) := by decide +kernel
theorem dX8_litters_127 : decode cX8_litters 127 = .ok (.iload_n 2, 1) := by decide +kernel
theorem dX8_litters_128 : decode cX8_litters 128 = .ok (.i2l, 1) := by decide +kernel
theorem dX8_litters_129 : decode cX8_litters 129 = .ok (.invokevirtual 249, 3) := by decide +kernel
theorem dX8_litters_132 : decode cX8_litters 132 = .ok (.iconst 1, 1) := by decide +kernel
theorem dX8_litters_133 : decode cX8_litters 133 = .ok (.ireturn, 1) := by decide +kernel
noncomputable def p_X8_litters_103 (F : Nat) (p1 : Int32) (f_row : Nat → Int64) (f_worth_19 : Nat → Int32) (Post : Int32 → (Int32 × Int32 × (Nat → Int32) × (Nat → Int64)) → Prop) (n : Nat) : Int32 → Prop := Nat.rec (motive := fun _ => Int32 → Prop) (fun _ => False) (fun _ k103 => fun (y2_103 : Int32) => (vp_in y2_103 41 ∧ (vp_in (p1 - y2_103) 41 ∧ (((f_worth_19 y2_103.toNatClampNeg) = (f_worth_19 (p1 - y2_103).toNatClampNeg) → (p_X8_tell F (y2_103.toInt64) (0 : Int32) f_row (fun (u_129 : (Int32 × (Nat → Int64))) => (Post (1 : Int32) (u_129.1, (0 : Int32), f_worth_19, u_129.2))))) ∧ (¬ (f_worth_19 y2_103.toNatClampNeg) = (f_worth_19 (p1 - y2_103).toNatClampNeg) → (k103 (y2_103 + (1 : Int32)))))))) n
theorem p_X8_litters_103_s (F : Nat) (p1 : Int32) (f_row : Nat → Int64) (f_worth_19 : Nat → Int32) (Post : Int32 → (Int32 × Int32 × (Nat → Int32) × (Nat → Int64)) → Prop) (n : Nat) (y2_103 : Int32) : p_X8_litters_103 F p1 f_row f_worth_19 Post (n + 1) y2_103 = (vp_in y2_103 41 ∧ (vp_in (p1 - y2_103) 41 ∧ (((f_worth_19 y2_103.toNatClampNeg) = (f_worth_19 (p1 - y2_103).toNatClampNeg) → (p_X8_tell F (y2_103.toInt64) (0 : Int32) f_row (fun (u_129 : (Int32 × (Nat → Int64))) => (Post (1 : Int32) (u_129.1, (0 : Int32), f_worth_19, u_129.2))))) ∧ (¬ (f_worth_19 y2_103.toNatClampNeg) = (f_worth_19 (p1 - y2_103).toNatClampNeg) → ((p_X8_litters_103 F p1 f_row f_worth_19 Post n) (y2_103 + (1 : Int32))))))) := rfl
noncomputable def p_X8_litters_29 (F : Nat) (y2_19 : Int32) (f_worth_19 : Nat → Int32) (k19 : Int32 → (Nat → Int32) → Prop) (Post : Int32 → (Int32 × Int32 × (Nat → Int32) × (Nat → Int64)) → Prop) (n : Nat) : Int32 → Int64 → Prop := Nat.rec (motive := fun _ => Int32 → Int64 → Prop) (fun _ _ => False) (fun _ k29 => fun (y5_29 : Int32) (y3_29 : Int64) => ((y2_19 ≤ ((2 : Int32) * y5_29) → (p_J13_numberOfTrailingZeros_95d88 F (y3_29 ^^^ (-1 : Int64)) (fun (r_75 : Int32) => (vp_in y2_19 41 ∧ (k19 (y2_19 + (1 : Int32)) (upd f_worth_19 y2_19.toNatClampNeg r_75)))))) ∧ (¬ y2_19 ≤ ((2 : Int32) * y5_29) → (vp_in y5_29 41 ∧ (vp_in (y2_19 - y5_29) 41 ∧ (k29 (y5_29 + (1 : Int32)) (y3_29 ||| ((1 : Int64) <<< (((f_worth_19 y5_29.toNatClampNeg) ^^^ (f_worth_19 (y2_19 - y5_29).toNatClampNeg)).toInt64 &&& 63))))))))) n
theorem p_X8_litters_29_s (F : Nat) (y2_19 : Int32) (f_worth_19 : Nat → Int32) (k19 : Int32 → (Nat → Int32) → Prop) (Post : Int32 → (Int32 × Int32 × (Nat → Int32) × (Nat → Int64)) → Prop) (n : Nat) (y5_29 : Int32) (y3_29 : Int64) : p_X8_litters_29 F y2_19 f_worth_19 k19 Post (n + 1) y5_29 y3_29 = ((y2_19 ≤ ((2 : Int32) * y5_29) → (p_J13_numberOfTrailingZeros_95d88 F (y3_29 ^^^ (-1 : Int64)) (fun (r_75 : Int32) => (vp_in y2_19 41 ∧ (k19 (y2_19 + (1 : Int32)) (upd f_worth_19 y2_19.toNatClampNeg r_75)))))) ∧ (¬ y2_19 ≤ ((2 : Int32) * y5_29) → (vp_in y5_29 41 ∧ (vp_in (y2_19 - y5_29) 41 ∧ ((p_X8_litters_29 F y2_19 f_worth_19 k19 Post n) (y5_29 + (1 : Int32)) (y3_29 ||| ((1 : Int64) <<< (((f_worth_19 y5_29.toNatClampNeg) ^^^ (f_worth_19 (y2_19 - y5_29).toNatClampNeg)).toInt64 &&& 63)))))))) := rfl
noncomputable def p_X8_litters_19 (F : Nat) (p1 : Int32) (f_row : Nat → Int64) (Post : Int32 → (Int32 × Int32 × (Nat → Int32) × (Nat → Int64)) → Prop) (n : Nat) : Int32 → (Nat → Int32) → Prop := Nat.rec (motive := fun _ => Int32 → (Nat → Int32) → Prop) (fun _ _ => False) (fun _ k19 => fun (y2_19 : Int32) (f_worth_19 : Nat → Int32) => ((p1 < y2_19 → (vp_in p1 41 ∧ ((¬ (f_worth_19 p1.toNatClampNeg) = 0 → (p_X8_litters_103 F p1 f_row f_worth_19 Post F (1 : Int32))) ∧ ((f_worth_19 p1.toNatClampNeg) = 0 → (Post (0 : Int32) ((0 : Int32), (0 : Int32), f_worth_19, f_row)))))) ∧ (¬ p1 < y2_19 → (p_X8_litters_29 F y2_19 f_worth_19 k19 Post F (1 : Int32) (0 : Int64))))) n
theorem p_X8_litters_19_s (F : Nat) (p1 : Int32) (f_row : Nat → Int64) (Post : Int32 → (Int32 × Int32 × (Nat → Int32) × (Nat → Int64)) → Prop) (n : Nat) (y2_19 : Int32) (f_worth_19 : Nat → Int32) : p_X8_litters_19 F p1 f_row Post (n + 1) y2_19 f_worth_19 = ((p1 < y2_19 → (vp_in p1 41 ∧ ((¬ (f_worth_19 p1.toNatClampNeg) = 0 → (p_X8_litters_103 F p1 f_row f_worth_19 Post F (1 : Int32))) ∧ ((f_worth_19 p1.toNatClampNeg) = 0 → (Post (0 : Int32) ((0 : Int32), (0 : Int32), f_worth_19, f_row)))))) ∧ (¬ p1 < y2_19 → (p_X8_litters_29 F y2_19 f_worth_19 (p_X8_litters_19 F p1 f_row Post n) Post F (1 : Int32) (0 : Int64)))) := rfl
def p_X8_litters (F : Nat) (p1 : Int32) (x_rowMany : Int32) (f_worth : Nat → Int32) (f_row : Nat → Int64) (Post : Int32 → (Int32 × Int32 × (Nat → Int32) × (Nat → Int64)) → Prop) : Prop := (p_X8_in F p1 (0 : Int32) (40 : Int32) (fun (r_9 : Int32) => ((¬ r_9 = 0 → (p_X8_litters_19 F p1 f_row Post F (0 : Int32) f_worth)) ∧ (r_9 = 0 → (Post (-1 : Int32) (x_rowMany, (0 : Int32), f_worth, f_row))))))
set_option maxHeartbeats 4000000 in
set_option maxRecDepth 100000 in
theorem c_X8_litters (l : Launch) (D : va_G) (cT : Nat → ClassId) (F : Nat) (h : Nat) (p1 : Int32) (w_now : Value) (x_arches : Int32) (x_cats : Int32) (w_text : Value) (x_typed : Int32) (q_row : Nat) (x_rowMany : Int32) (x_thrown : Int32) (w_read : Value) (x_length : Int32) (x_top : Int32) (x_at : Int32) (x_wrong : Int32) (w_told : Value) (w_rule : Value) (w_otherRule : Value) (x_ruleSize : Int32) (x_isAsked : Int32) (w_asked : Value) (w_undos : Value) (x_undoMany : Int32) (w_aside : Value) (w_then : Value) (w_hold : Value) (x_dropped : Int32) (w_acts : Value) (w_guarded : Value) (w_train : Value) (x_trolleyEnd : Int32) (w_feltOf : Value) (w_feltBy : Value) (x_feltMany : Int32) (w_many : Value) (w_heardOf : Value) (w_heardBy : Value) (x_heardMany : Int32) (q_worth : Nat) (x_drawn : Int32) (x_came : Int32) (w_kept : Value) (w_isKept : Value) (w_keptCame : Value) (f_worth : Nat → Int32) (f_row : Nat → Int64) (Post : Int32 → (Int32 × Int32 × (Nat → Int32) × (Nat → Int64)) → Prop) (hg : p_X8_litters F p1 x_rowMany f_worth f_row Post) : MWi l D cT yX8_litters cX8_litters 6 (some .int) 2 43 0 0 [.ref h, .int p1] [(h, oX8 w_now (.int x_arches) (.int x_cats) w_text (.int x_typed) (.ref q_row) (.int x_rowMany) (.int x_thrown) w_read (.int x_length) (.int x_top) (.int x_at) (.int x_wrong) w_told w_rule w_otherRule (.int x_ruleSize) (.int x_isAsked) w_asked w_undos (.int x_undoMany) w_aside w_then w_hold (.int x_dropped) w_acts w_guarded w_train (.int x_trolleyEnd) w_feltOf w_feltBy (.int x_feltMany) w_many w_heardOf w_heardBy (.int x_heardMany) (.ref q_worth) (.int x_drawn) (.int x_came) w_kept w_isKept w_keptCame), (q_worth, aI cT 41 f_worth), (q_row, aJ cT 16 f_row)] Post (fun (u : (Int32 × Int32 × (Nat → Int32) × (Nat → Int64))) => [(h, oX8 w_now (.int x_arches) (.int x_cats) w_text (.int x_typed) (.ref q_row) (.int u.1) (.int u.2.1) w_read (.int x_length) (.int x_top) (.int x_at) (.int x_wrong) w_told w_rule w_otherRule (.int x_ruleSize) (.int x_isAsked) w_asked w_undos (.int x_undoMany) w_aside w_then w_hold (.int x_dropped) w_acts w_guarded w_train (.int x_trolleyEnd) w_feltOf w_feltBy (.int x_feltMany) w_many w_heardOf w_heardBy (.int x_heardMany) (.ref q_worth) (.int x_drawn) (.int x_came) w_kept w_isKept w_keptCame), (q_worth, aI cT 41 u.2.2.1), (q_row, aJ cT 16 u.2.2.2)]) := by
  refine MWi.of (by decide) (Nat.le_of_ble_eq_true rfl) ?_
  intro p e s m below meth c A hA C0 hnm hr hP hD ls hl
  have hl : lv_has ls 6 [(0, .ref h), (1, .int p1)] := hl
  have hx := C0.x
  have hb := C0.b
  have hS : va_S A s.heap s.heap [] := va_S.rf
  have hP : va_P D cls9 [(h, oX8 w_now (.int x_arches) (.int x_cats) w_text (.int x_typed) (.ref q_row) (.int x_rowMany) (.int x_thrown) w_read (.int x_length) (.int x_top) (.int x_at) (.int x_wrong) w_told w_rule w_otherRule (.int x_ruleSize) (.int x_isAsked) w_asked w_undos (.int x_undoMany) w_aside w_then w_hold (.int x_dropped) w_acts w_guarded w_train (.int x_trolleyEnd) w_feltOf w_feltBy (.int x_feltMany) w_many w_heardOf w_heardBy (.int x_heardMany) (.ref q_worth) (.int x_drawn) (.int x_came) w_kept w_isKept w_keptCame), (q_worth, aI cT 41 f_worth), (q_row, aJ cT 16 f_row)] s.heap := hP
  have hD : va_D A [(h, oX8 w_now (.int x_arches) (.int x_cats) w_text (.int x_typed) (.ref q_row) (.int x_rowMany) (.int x_thrown) w_read (.int x_length) (.int x_top) (.int x_at) (.int x_wrong) w_told w_rule w_otherRule (.int x_ruleSize) (.int x_isAsked) w_asked w_undos (.int x_undoMany) w_aside w_then w_hold (.int x_dropped) w_acts w_guarded w_train (.int x_trolleyEnd) w_feltOf w_feltBy (.int x_feltMany) w_many w_heardOf w_heardBy (.int x_heardMany) (.ref q_worth) (.int x_drawn) (.int x_came) w_kept w_isKept w_keptCame), (q_worth, aI cT 41 f_worth), (q_row, aJ cT 16 f_row)] := hD
  have L103 : ∀ (f_worth_19 : Nat → Int32) (n103 : Nat) (y2_103 : Int32) (H : Heap) (locs : List Loc) (ls : Array Slot), p_X8_litters_103 F p1 f_row f_worth_19 Post n103 y2_103 → va_P D cls9 [(h, oX8 w_now (.int x_arches) (.int x_cats) w_text (.int x_typed) (.ref q_row) (.int (0 : Int32)) (.int (0 : Int32)) w_read (.int x_length) (.int x_top) (.int x_at) (.int x_wrong) w_told w_rule w_otherRule (.int x_ruleSize) (.int x_isAsked) w_asked w_undos (.int x_undoMany) w_aside w_then w_hold (.int x_dropped) w_acts w_guarded w_train (.int x_trolleyEnd) w_feltOf w_feltBy (.int x_feltMany) w_many w_heardOf w_heardBy (.int x_heardMany) (.ref q_worth) (.int x_drawn) (.int x_came) w_kept w_isKept w_keptCame), (q_worth, aI cT 41 f_worth_19), (q_row, aJ cT 16 f_row)] H → va_D A [(h, oX8 w_now (.int x_arches) (.int x_cats) w_text (.int x_typed) (.ref q_row) (.int (0 : Int32)) (.int (0 : Int32)) w_read (.int x_length) (.int x_top) (.int x_at) (.int x_wrong) w_told w_rule w_otherRule (.int x_ruleSize) (.int x_isAsked) w_asked w_undos (.int x_undoMany) w_aside w_then w_hold (.int x_dropped) w_acts w_guarded w_train (.int x_trolleyEnd) w_feltOf w_feltBy (.int x_feltMany) w_many w_heardOf w_heardBy (.int x_heardMany) (.ref q_worth) (.int x_drawn) (.int x_came) w_kept w_isKept w_keptCame), (q_worth, aI cT 41 f_worth_19), (q_row, aJ cT 16 f_row)] → va_S A s.heap H locs → lv_has ls 6 [(0, .ref h), (1, .int p1), (2, .int y2_103)] → W p l e (rmO 2 43 0 0) s m ([.ref h, .int p1] : List Value).toArray below meth c H locs 0 0 (MQ below (va_Qi Post (cB D A (fun (u : (Int32 × Int32 × (Nat → Int32) × (Nat → Int64))) => [(h, oX8 w_now (.int x_arches) (.int x_cats) w_text (.int x_typed) (.ref q_row) (.int u.1) (.int u.2.1) w_read (.int x_length) (.int x_top) (.int x_at) (.int x_wrong) w_told w_rule w_otherRule (.int x_ruleSize) (.int x_isAsked) w_asked w_undos (.int x_undoMany) w_aside w_then w_hold (.int x_dropped) w_acts w_guarded w_train (.int x_trolleyEnd) w_feltOf w_feltBy (.int x_feltMany) w_many w_heardOf w_heardBy (.int x_heardMany) (.ref q_worth) (.int x_drawn) (.int x_came) w_kept w_isKept w_keptCame), (q_worth, aI cT 41 u.2.2.1), (q_row, aJ cT 16 u.2.2.2)])) A) ([.ref h, .int p1] : List Value).toArray s 0 0 A) (F0 m 103 ls []) := by
    intro f_worth_19 n103
    induction n103 with
    | zero =>
      intro y2_103 H locs ls hg hP hD hS hl
      exact False.elim hg
    | succ n103 ih103 =>
      intro y2_103 H locs ls hg hP hD hS hl
      rw [p_X8_litters_103_s] at hg
      refine lv_aload_n hx hb dX8_litters_103 rfl (lv_at hl 0 rfl) ?_
      refine gf_X8_69 C0 hP 0 rfl rfl dX8_litters_104 ?_
      refine lv_iload_n hx hb dX8_litters_107 rfl (lv_at hl 2 rfl) ?_
      obtain ⟨g_108, hg⟩ := hg
      refine k_iald C0 hP 1 rfl g_108 dX8_litters_108 ?_
      refine lv_aload_n hx hb dX8_litters_109 rfl (lv_at hl 0 rfl) ?_
      refine gf_X8_69 C0 hP 0 rfl rfl dX8_litters_110 ?_
      refine lv_iload_n hx hb dX8_litters_113 rfl (lv_at hl 1 rfl) ?_
      refine lv_iload_n hx hb dX8_litters_114 rfl (lv_at hl 2 rfl) ?_
      refine lv_isub hx hb dX8_litters_115 ?_
      obtain ⟨g_116, hg⟩ := hg
      refine k_iald C0 hP 1 rfl g_116 dX8_litters_116 ?_
      refine lv_icmp_eq (tgt := 126) hx hb dX8_litters_117 (by decide) (fun c_117 => ?_) (fun c_117 => ?_)
      · have hg := hg.1 c_117
        refine lv_aload_n hx hb dX8_litters_126 rfl (lv_at hl 0 rfl) ?_
        refine lv_iload_n hx hb dX8_litters_127 rfl (lv_at hl 2 rfl) ?_
        refine lv_i2l (v := (y2_103.toInt64)) hx hb dX8_litters_128 rfl ?_
        refine k_Vv (rest := []) (wr := [(q_worth, aI cT 41 f_worth_19)]) (w2 := fun u_129 => [(q_worth, aI cT 41 f_worth_19), (h, oX8 w_now (.int x_arches) (.int x_cats) w_text (.int x_typed) (.ref q_row) (.int u_129.1) (.int (0 : Int32)) w_read (.int x_length) (.int x_top) (.int x_at) (.int x_wrong) w_told w_rule w_otherRule (.int x_ruleSize) (.int x_isAsked) w_asked w_undos (.int x_undoMany) w_aside w_then w_hold (.int x_dropped) w_acts w_guarded w_train (.int x_trolleyEnd) w_feltOf w_feltBy (.int x_feltMany) w_many w_heardOf w_heardBy (.int x_heardMany) (.ref q_worth) (.int x_drawn) (.int x_came) w_kept w_isKept w_keptCame), (q_row, aJ cT 16 u_129.2)]) C0 lk_X8_249 (c_X8_tell l D cT F h (y2_103.toInt64) w_now x_arches x_cats w_text x_typed q_row (0 : Int32) (0 : Int32) w_read x_length x_top x_at x_wrong w_told w_rule w_otherRule x_ruleSize x_isAsked w_asked w_undos x_undoMany w_aside w_then w_hold x_dropped w_acts w_guarded w_train x_trolleyEnd w_feltOf w_feltBy x_feltMany w_many w_heardOf w_heardBy x_heardMany (.ref q_worth) x_drawn x_came w_kept w_isKept w_keptCame f_row _ hg) hP hD hS hA [0, 2] [1] (by decide +kernel) rfl rfl (fun _ => rfl) rfl rfl ⟨Nat.le_of_ble_eq_true rfl, Nat.le_of_ble_eq_true rfl⟩ rfl hl.1 rfl (Nat.le_of_ble_eq_true rfl) dX8_litters_129 ⟨Nat.le_of_ble_eq_true rfl, Nat.le_of_ble_eq_true rfl⟩ ?_
        intro u_129 H locs hg hP hD hS
        refine lv_iconst (v := (1 : Int32)) hx hb dX8_litters_132 (by decide) ?_
        exact k_iret C0 hr (u_129.1, (0 : Int32), f_worth_19, u_129.2) hg (subP hP [1, 0, 2] rfl) (hD.sub [1, 0, 2] (nd2_ok _ (by decide +kernel)) rfl) hS dX8_litters_133
      have hg := hg.2 c_117
      refine lv_iinc (v := (y2_103 + (1 : Int32))) (lv' := [(2, .int (y2_103 + (1 : Int32))), (0, .ref h), (1, .int p1)]) hx hb dX8_litters_120 hl (k := 2) rfl rfl (by decide) rfl (fun ls hl => ?_)
      refine lv_goto (tgt := 103) hx hb dX8_litters_123 (by decide) ?_
      exact ih103 (y2_103 + (1 : Int32)) _ _ _ hg hP hD hS (lv_sub hl [1, 2, 0] rfl)
  have L19 : ∀ (n19 : Nat) (y2_19 : Int32) (f_worth_19 : Nat → Int32) (H : Heap) (locs : List Loc) (ls : Array Slot), p_X8_litters_19 F p1 f_row Post n19 y2_19 f_worth_19 → va_P D cls9 [(h, oX8 w_now (.int x_arches) (.int x_cats) w_text (.int x_typed) (.ref q_row) (.int x_rowMany) (.int (0 : Int32)) w_read (.int x_length) (.int x_top) (.int x_at) (.int x_wrong) w_told w_rule w_otherRule (.int x_ruleSize) (.int x_isAsked) w_asked w_undos (.int x_undoMany) w_aside w_then w_hold (.int x_dropped) w_acts w_guarded w_train (.int x_trolleyEnd) w_feltOf w_feltBy (.int x_feltMany) w_many w_heardOf w_heardBy (.int x_heardMany) (.ref q_worth) (.int x_drawn) (.int x_came) w_kept w_isKept w_keptCame), (q_worth, aI cT 41 f_worth_19), (q_row, aJ cT 16 f_row)] H → va_D A [(h, oX8 w_now (.int x_arches) (.int x_cats) w_text (.int x_typed) (.ref q_row) (.int x_rowMany) (.int (0 : Int32)) w_read (.int x_length) (.int x_top) (.int x_at) (.int x_wrong) w_told w_rule w_otherRule (.int x_ruleSize) (.int x_isAsked) w_asked w_undos (.int x_undoMany) w_aside w_then w_hold (.int x_dropped) w_acts w_guarded w_train (.int x_trolleyEnd) w_feltOf w_feltBy (.int x_feltMany) w_many w_heardOf w_heardBy (.int x_heardMany) (.ref q_worth) (.int x_drawn) (.int x_came) w_kept w_isKept w_keptCame), (q_worth, aI cT 41 f_worth_19), (q_row, aJ cT 16 f_row)] → va_S A s.heap H locs → lv_has ls 6 [(0, .ref h), (1, .int p1), (2, .int y2_19)] → W p l e (rmO 2 43 0 0) s m ([.ref h, .int p1] : List Value).toArray below meth c H locs 0 0 (MQ below (va_Qi Post (cB D A (fun (u : (Int32 × Int32 × (Nat → Int32) × (Nat → Int64))) => [(h, oX8 w_now (.int x_arches) (.int x_cats) w_text (.int x_typed) (.ref q_row) (.int u.1) (.int u.2.1) w_read (.int x_length) (.int x_top) (.int x_at) (.int x_wrong) w_told w_rule w_otherRule (.int x_ruleSize) (.int x_isAsked) w_asked w_undos (.int x_undoMany) w_aside w_then w_hold (.int x_dropped) w_acts w_guarded w_train (.int x_trolleyEnd) w_feltOf w_feltBy (.int x_feltMany) w_many w_heardOf w_heardBy (.int x_heardMany) (.ref q_worth) (.int x_drawn) (.int x_came) w_kept w_isKept w_keptCame), (q_worth, aI cT 41 u.2.2.1), (q_row, aJ cT 16 u.2.2.2)])) A) ([.ref h, .int p1] : List Value).toArray s 0 0 A) (F0 m 19 ls []) := by
    intro n19
    induction n19 with
    | zero =>
      intro y2_19 f_worth_19 H locs ls hg hP hD hS hl
      exact False.elim hg
    | succ n19 ih19 =>
      have L29 : ∀ (y2_19 : Int32) (f_worth_19 : Nat → Int32) (n29 : Nat) (y5_29 : Int32) (y3_29 : Int64) (H : Heap) (locs : List Loc) (ls : Array Slot), p_X8_litters_29 F y2_19 f_worth_19 (p_X8_litters_19 F p1 f_row Post n19) Post n29 y5_29 y3_29 → va_P D cls9 [(h, oX8 w_now (.int x_arches) (.int x_cats) w_text (.int x_typed) (.ref q_row) (.int x_rowMany) (.int (0 : Int32)) w_read (.int x_length) (.int x_top) (.int x_at) (.int x_wrong) w_told w_rule w_otherRule (.int x_ruleSize) (.int x_isAsked) w_asked w_undos (.int x_undoMany) w_aside w_then w_hold (.int x_dropped) w_acts w_guarded w_train (.int x_trolleyEnd) w_feltOf w_feltBy (.int x_feltMany) w_many w_heardOf w_heardBy (.int x_heardMany) (.ref q_worth) (.int x_drawn) (.int x_came) w_kept w_isKept w_keptCame), (q_worth, aI cT 41 f_worth_19), (q_row, aJ cT 16 f_row)] H → va_D A [(h, oX8 w_now (.int x_arches) (.int x_cats) w_text (.int x_typed) (.ref q_row) (.int x_rowMany) (.int (0 : Int32)) w_read (.int x_length) (.int x_top) (.int x_at) (.int x_wrong) w_told w_rule w_otherRule (.int x_ruleSize) (.int x_isAsked) w_asked w_undos (.int x_undoMany) w_aside w_then w_hold (.int x_dropped) w_acts w_guarded w_train (.int x_trolleyEnd) w_feltOf w_feltBy (.int x_feltMany) w_many w_heardOf w_heardBy (.int x_heardMany) (.ref q_worth) (.int x_drawn) (.int x_came) w_kept w_isKept w_keptCame), (q_worth, aI cT 41 f_worth_19), (q_row, aJ cT 16 f_row)] → va_S A s.heap H locs → lv_has ls 6 [(0, .ref h), (1, .int p1), (2, .int y2_19), (3, .long y3_29), (5, .int y5_29)] → W p l e (rmO 2 43 0 0) s m ([.ref h, .int p1] : List Value).toArray below meth c H locs 0 0 (MQ below (va_Qi Post (cB D A (fun (u : (Int32 × Int32 × (Nat → Int32) × (Nat → Int64))) => [(h, oX8 w_now (.int x_arches) (.int x_cats) w_text (.int x_typed) (.ref q_row) (.int u.1) (.int u.2.1) w_read (.int x_length) (.int x_top) (.int x_at) (.int x_wrong) w_told w_rule w_otherRule (.int x_ruleSize) (.int x_isAsked) w_asked w_undos (.int x_undoMany) w_aside w_then w_hold (.int x_dropped) w_acts w_guarded w_train (.int x_trolleyEnd) w_feltOf w_feltBy (.int x_feltMany) w_many w_heardOf w_heardBy (.int x_heardMany) (.ref q_worth) (.int x_drawn) (.int x_came) w_kept w_isKept w_keptCame), (q_worth, aI cT 41 u.2.2.1), (q_row, aJ cT 16 u.2.2.2)])) A) ([.ref h, .int p1] : List Value).toArray s 0 0 A) (F0 m 29 ls []) := by
        intro y2_19 f_worth_19 n29
        induction n29 with
        | zero =>
          intro y5_29 y3_29 H locs ls hg hP hD hS hl
          exact False.elim hg
        | succ n29 ih29 =>
          intro y5_29 y3_29 H locs ls hg hP hD hS hl
          rw [p_X8_litters_29_s] at hg
          refine lv_iconst (v := (2 : Int32)) hx hb dX8_litters_29 (by decide) ?_
          refine lv_iload hx hb dX8_litters_30 (lv_at hl 4 rfl) ?_
          refine lv_imul hx hb dX8_litters_32 ?_
          refine lv_iload_n hx hb dX8_litters_33 rfl (lv_at hl 2 rfl) ?_
          refine lv_icmp_ge (tgt := 65) hx hb dX8_litters_34 (by decide) (fun c_34 => ?_) (fun c_34 => ?_)
          · have hg := hg.1 c_34
            refine lv_aload_n hx hb dX8_litters_65 rfl (lv_at hl 0 rfl) ?_
            refine gf_X8_69 C0 hP 0 rfl rfl dX8_litters_66 ?_
            refine lv_iload_n hx hb dX8_litters_69 rfl (lv_at hl 2 rfl) ?_
            refine lv_lload_n hx hb dX8_litters_70 rfl (lv_at hl 3 rfl) ?_
            refine lv_ldc2 (v := (-1 : Int64)) hx hb C0.ow (C0.t w6_239) dX8_litters_71 ?_
            refine lv_lxor hx hb dX8_litters_74 ?_
            refine k_Sxi (rest := [.int y2_19, .ref q_worth]) C0 lk_X8_370 (c_J13_numberOfTrailingZeros_95d88 l D cT F (y3_29 ^^^ (-1 : Int64)) _ hg) hP hD [] (by decide +kernel) rfl ⟨Nat.le_of_ble_eq_true rfl, Nat.le_of_ble_eq_true rfl⟩ rfl hl.1 rfl (Nat.le_of_ble_eq_true rfl) dX8_litters_75 ⟨Nat.le_of_ble_eq_true rfl, Nat.le_of_ble_eq_true rfl⟩ (fun r_75 hg => ?_)
            obtain ⟨g_78, hg⟩ := hg
            refine k_iast C0 hP hD hS 1 rfl g_78 (ws' := [(h, oX8 w_now (.int x_arches) (.int x_cats) w_text (.int x_typed) (.ref q_row) (.int x_rowMany) (.int (0 : Int32)) w_read (.int x_length) (.int x_top) (.int x_at) (.int x_wrong) w_told w_rule w_otherRule (.int x_ruleSize) (.int x_isAsked) w_asked w_undos (.int x_undoMany) w_aside w_then w_hold (.int x_dropped) w_acts w_guarded w_train (.int x_trolleyEnd) w_feltOf w_feltBy (.int x_feltMany) w_many w_heardOf w_heardBy (.int x_heardMany) (.ref q_worth) (.int x_drawn) (.int x_came) w_kept w_isKept w_keptCame), (q_worth, aI cT 41 (upd f_worth_19 y2_19.toNatClampNeg r_75)), (q_row, aJ cT 16 f_row)]) rfl dX8_litters_78 (fun H locs hP hD hS => ?_)
            refine lv_iinc (v := (y2_19 + (1 : Int32))) (lv' := [(2, .int (y2_19 + (1 : Int32))), (0, .ref h), (1, .int p1), (3, .long y3_29), (5, .int y5_29)]) hx hb dX8_litters_79 hl (k := 2) rfl rfl (by decide) rfl (fun ls hl => ?_)
            refine lv_goto (tgt := 19) hx hb dX8_litters_82 (by decide) ?_
            exact ih19 (y2_19 + (1 : Int32)) (upd f_worth_19 y2_19.toNatClampNeg r_75) _ _ _ hg hP hD hS (lv_sub hl [1, 2, 0] rfl)
          have hg := hg.2 c_34
          refine lv_lload_n hx hb dX8_litters_37 rfl (lv_at hl 3 rfl) ?_
          refine lv_lconst (v := (1 : Int64)) hx hb dX8_litters_38 (by decide) ?_
          refine lv_aload_n hx hb dX8_litters_39 rfl (lv_at hl 0 rfl) ?_
          refine gf_X8_69 C0 hP 0 rfl rfl dX8_litters_40 ?_
          refine lv_iload hx hb dX8_litters_43 (lv_at hl 4 rfl) ?_
          obtain ⟨g_45, hg⟩ := hg
          refine k_iald C0 hP 1 rfl g_45 dX8_litters_45 ?_
          refine lv_aload_n hx hb dX8_litters_46 rfl (lv_at hl 0 rfl) ?_
          refine gf_X8_69 C0 hP 0 rfl rfl dX8_litters_47 ?_
          refine lv_iload_n hx hb dX8_litters_50 rfl (lv_at hl 2 rfl) ?_
          refine lv_iload hx hb dX8_litters_51 (lv_at hl 4 rfl) ?_
          refine lv_isub hx hb dX8_litters_53 ?_
          obtain ⟨g_54, hg⟩ := hg
          refine k_iald C0 hP 1 rfl g_54 dX8_litters_54 ?_
          refine lv_ixor hx hb dX8_litters_55 ?_
          refine lv_lshl (v := ((1 : Int64) <<< (((f_worth_19 y5_29.toNatClampNeg) ^^^ (f_worth_19 (y2_19 - y5_29).toNatClampNeg)).toInt64 &&& 63))) hx hb dX8_litters_56 rfl ?_
          refine lv_lor hx hb dX8_litters_57 ?_
          refine lv_lstore_n (lv' := [(3, .long (y3_29 ||| ((1 : Int64) <<< (((f_worth_19 y5_29.toNatClampNeg) ^^^ (f_worth_19 (y2_19 - y5_29).toNatClampNeg)).toInt64 &&& 63)))), (0, .ref h), (1, .int p1), (2, .int y2_19), (5, .int y5_29)]) hx hb dX8_litters_58 rfl hl (by decide) rfl (fun ls hl => ?_)
          refine lv_iinc (v := (y5_29 + (1 : Int32))) (lv' := [(5, .int (y5_29 + (1 : Int32))), (3, .long (y3_29 ||| ((1 : Int64) <<< (((f_worth_19 y5_29.toNatClampNeg) ^^^ (f_worth_19 (y2_19 - y5_29).toNatClampNeg)).toInt64 &&& 63)))), (0, .ref h), (1, .int p1), (2, .int y2_19)]) hx hb dX8_litters_59 hl (k := 4) rfl rfl (by decide) rfl (fun ls hl => ?_)
          refine lv_goto (tgt := 29) hx hb dX8_litters_62 (by decide) ?_
          exact ih29 (y5_29 + (1 : Int32)) (y3_29 ||| ((1 : Int64) <<< (((f_worth_19 y5_29.toNatClampNeg) ^^^ (f_worth_19 (y2_19 - y5_29).toNatClampNeg)).toInt64 &&& 63))) _ _ _ hg hP hD hS (lv_sub hl [2, 3, 4, 1, 0] rfl)
      intro y2_19 f_worth_19 H locs ls hg hP hD hS hl
      rw [p_X8_litters_19_s] at hg
      refine lv_iload_n hx hb dX8_litters_19 rfl (lv_at hl 2 rfl) ?_
      refine lv_iload_n hx hb dX8_litters_20 rfl (lv_at hl 1 rfl) ?_
      refine lv_icmp_gt (tgt := 85) hx hb dX8_litters_21 (by decide) (fun c_21 => ?_) (fun c_21 => ?_)
      · have hg := hg.1 c_21
        refine lv_aload_n hx hb dX8_litters_85 rfl (lv_at hl 0 rfl) ?_
        refine lv_iconst (v := (0 : Int32)) hx hb dX8_litters_86 (by decide) ?_
        refine pf_X8_86 C0 hP hD hS 0 rfl (Nat.le_of_ble_eq_true rfl) (ws2 := [(h, oX8 w_now (.int x_arches) (.int x_cats) w_text (.int x_typed) (.ref q_row) (.int (0 : Int32)) (.int (0 : Int32)) w_read (.int x_length) (.int x_top) (.int x_at) (.int x_wrong) w_told w_rule w_otherRule (.int x_ruleSize) (.int x_isAsked) w_asked w_undos (.int x_undoMany) w_aside w_then w_hold (.int x_dropped) w_acts w_guarded w_train (.int x_trolleyEnd) w_feltOf w_feltBy (.int x_feltMany) w_many w_heardOf w_heardBy (.int x_heardMany) (.ref q_worth) (.int x_drawn) (.int x_came) w_kept w_isKept w_keptCame), (q_worth, aI cT 41 f_worth_19), (q_row, aJ cT 16 f_row)]) rfl dX8_litters_87 (fun H locs hP hD hS => ?_)
        refine lv_aload_n hx hb dX8_litters_90 rfl (lv_at hl 0 rfl) ?_
        refine gf_X8_69 C0 hP 0 rfl rfl dX8_litters_91 ?_
        refine lv_iload_n hx hb dX8_litters_94 rfl (lv_at hl 1 rfl) ?_
        obtain ⟨g_95, hg⟩ := hg
        refine k_iald C0 hP 1 rfl g_95 dX8_litters_95 ?_
        refine lv_if_ne (tgt := 101) hx hb dX8_litters_96 (by decide) (fun c_96 => ?_) (fun c_96 => ?_)
        · have hg := hg.1 c_96
          refine lv_iconst (v := (1 : Int32)) hx hb dX8_litters_101 (by decide) ?_
          refine lv_istore_n (lv' := [(2, .int (1 : Int32)), (0, .ref h), (1, .int p1)]) hx hb dX8_litters_102 rfl hl (by decide) rfl (fun ls hl => ?_)
          exact L103 f_worth_19 F (1 : Int32) _ _ _ hg hP hD hS (lv_sub hl [1, 2, 0] rfl)
        have hg := hg.2 c_96
        refine lv_iconst (v := (0 : Int32)) hx hb dX8_litters_99 (by decide) ?_
        exact k_iret C0 hr ((0 : Int32), (0 : Int32), f_worth_19, f_row) hg hP hD hS dX8_litters_100
      have hg := hg.2 c_21
      refine lv_lconst (v := (0 : Int64)) hx hb dX8_litters_24 (by decide) ?_
      refine lv_lstore_n (lv' := [(3, .long (0 : Int64)), (0, .ref h), (1, .int p1), (2, .int y2_19)]) hx hb dX8_litters_25 rfl hl (by decide) rfl (fun ls hl => ?_)
      refine lv_iconst (v := (1 : Int32)) hx hb dX8_litters_26 (by decide) ?_
      refine lv_istore (lv' := [(5, .int (1 : Int32)), (3, .long (0 : Int64)), (0, .ref h), (1, .int p1), (2, .int y2_19)]) hx hb dX8_litters_27 hl (by decide) rfl (fun ls hl => ?_)
      exact L29 y2_19 f_worth_19 F (1 : Int32) (0 : Int64) _ _ _ hg hP hD hS (lv_sub hl [2, 3, 4, 1, 0] rfl)
  unfold p_X8_litters at hg
  refine lv_aload_n hx hb dX8_litters_0 rfl (lv_at hl 0 rfl) ?_
  refine lv_iconst (v := (0 : Int32)) hx hb dX8_litters_1 (by decide) ?_
  refine pf_X8_82 C0 hP hD hS 0 rfl (Nat.le_of_ble_eq_true rfl) (ws2 := [(h, oX8 w_now (.int x_arches) (.int x_cats) w_text (.int x_typed) (.ref q_row) (.int x_rowMany) (.int (0 : Int32)) w_read (.int x_length) (.int x_top) (.int x_at) (.int x_wrong) w_told w_rule w_otherRule (.int x_ruleSize) (.int x_isAsked) w_asked w_undos (.int x_undoMany) w_aside w_then w_hold (.int x_dropped) w_acts w_guarded w_train (.int x_trolleyEnd) w_feltOf w_feltBy (.int x_feltMany) w_many w_heardOf w_heardBy (.int x_heardMany) (.ref q_worth) (.int x_drawn) (.int x_came) w_kept w_isKept w_keptCame), (q_worth, aI cT 41 f_worth), (q_row, aJ cT 16 f_row)]) rfl dX8_litters_2 (fun H locs hP hD hS => ?_)
  refine lv_iload_n hx hb dX8_litters_5 rfl (lv_at hl 1 rfl) ?_
  refine lv_iconst (v := (0 : Int32)) hx hb dX8_litters_6 (by decide) ?_
  refine lv_bipush (v := (40 : Int32)) hx hb dX8_litters_7 (by decide) ?_
  refine k_Sxi (rest := []) C0 lk_X8_92 (c_X8_in l D cT F p1 (0 : Int32) (40 : Int32) _ hg) hP hD [] (by decide +kernel) rfl ⟨Nat.le_of_ble_eq_true rfl, Nat.le_of_ble_eq_true rfl⟩ rfl hl.1 rfl (Nat.le_of_ble_eq_true rfl) dX8_litters_9 ⟨Nat.le_of_ble_eq_true rfl, Nat.le_of_ble_eq_true rfl⟩ (fun r_9 hg => ?_)
  refine lv_if_ne (tgt := 17) hx hb dX8_litters_12 (by decide) (fun c_12 => ?_) (fun c_12 => ?_)
  · have hg := hg.1 c_12
    refine lv_iconst (v := (0 : Int32)) hx hb dX8_litters_17 (by decide) ?_
    refine lv_istore_n (lv' := [(2, .int (0 : Int32)), (0, .ref h), (1, .int p1)]) hx hb dX8_litters_18 rfl hl (by decide) rfl (fun ls hl => ?_)
    exact L19 F (0 : Int32) f_worth _ _ _ hg hP hD hS (lv_sub hl [1, 2, 0] rfl)
  have hg := hg.2 c_12
  refine lv_iconst (v := (-1 : Int32)) hx hb dX8_litters_15 (by decide) ?_
  exact k_iret C0 hr (x_rowMany, (0 : Int32), f_worth, f_row) hg hP hD hS dX8_litters_16
theorem dX8_gets_0 : decode cX8_gets 0 = .ok (.iconst 3, 1) := by decide +kernel
theorem dX8_gets_1 : decode cX8_gets 1 = .ok (.iload_n 0, 1) := by decide +kernel
theorem dX8_gets_2 : decode cX8_gets 2 = .ok (.imul, 1) := by decide +kernel
theorem dX8_gets_3 : decode cX8_gets 3 = .ok (.iload_n 0, 1) := by decide +kernel
theorem dX8_gets_4 : decode cX8_gets 4 = .ok (.iload_n 1, 1) := by decide +kernel
theorem dX8_gets_5 : decode cX8_gets 5 = .ok (.iadd, 1) := by decide +kernel
theorem dX8_gets_6 : decode cX8_gets 6 = .ok (.iload_n 2, 1) := by decide +kernel
theorem dX8_gets_7 : decode cX8_gets 7 = .ok (.if_icmp .gt 8, 3) := by decide +kernel
theorem dX8_gets_10 : decode cX8_gets 10 = .ok (.bipush 20, 2) := by decide +kernel
theorem dX8_gets_12 : decode cX8_gets 12 = .ok (.goto 4, 3) := by decide +kernel
theorem dX8_gets_15 : decode cX8_gets 15 = .ok (.iconst 0, 1) := by decide +kernel
theorem dX8_gets_16 : decode cX8_gets 16 = .ok (.iadd, 1) := by decide +kernel
theorem dX8_gets_17 : decode cX8_gets 17 = .ok (.iload_n 0, 1) := by decide +kernel
theorem dX8_gets_18 : decode cX8_gets 18 = .ok (.iload_n 1, 1) := by decide +kernel
theorem dX8_gets_19 : decode cX8_gets 19 = .ok (.if_icmp .le 7, 3) := by decide +kernel
theorem dX8_gets_22 : decode cX8_gets 22 = .ok (.iconst 4, 1) := by decide +kernel
theorem dX8_gets_23 : decode cX8_gets 23 = .ok (.goto 4, 3) := by decide +kernel
theorem dX8_gets_26 : decode cX8_gets 26 = .ok (.iconst 0, 1) := by decide +kernel
theorem dX8_gets_27 : decode cX8_gets 27 = .ok (.isub, 1) := by decide +kernel
theorem dX8_gets_28 : decode cX8_gets 28 = .ok (.ireturn, 1) := by decide +kernel
def p_X8_gets_16 (F : Nat) (p0 : Int32) (p1 : Int32) (Post : Int32 → Prop) (s1_16 : Int32) : Prop := ((p0 ≤ p1 → (Post ((((3 : Int32) * p0) + s1_16) - (0 : Int32)))) ∧ (¬ p0 ≤ p1 → (Post ((((3 : Int32) * p0) + s1_16) - (4 : Int32)))))
def p_X8_gets (F : Nat) (p0 : Int32) (p1 : Int32) (p2 : Int32) (Post : Int32 → Prop) : Prop := ((p2 < (p0 + p1) → (p_X8_gets_16 F p0 p1 Post (0 : Int32))) ∧ (¬ p2 < (p0 + p1) → (p_X8_gets_16 F p0 p1 Post (20 : Int32))))
set_option maxHeartbeats 4000000 in
set_option maxRecDepth 100000 in
theorem c_X8_gets (l : Launch) (D : va_G) (cT : Nat → ClassId) (F : Nat) (p0 : Int32) (p1 : Int32) (p2 : Int32) (Post : Int32 → Prop) (hg : p_X8_gets F p0 p1 p2 Post) : MRi l D cT yX8_gets cX8_gets 3 (some .int) 0 0 [.int p0, .int p1, .int p2] [] Post := by
  refine MRi.of (by decide) (Nat.le_of_ble_eq_true rfl) ?_
  intro p e s m below meth c C0 hr hP hD ls hl
  have hl : lv_has ls 3 [(0, .int p0), (1, .int p1), (2, .int p2)] := hl
  have hx := C0.x
  have hb := C0.b
  have hP : va_P D cls9 [] s.heap := hP
  have hD : va_D (fun _ => True) [] := hD
  have L16 : ∀ (s1_16 : Int32) (ls : Array Slot), p_X8_gets_16 F p0 p1 Post s1_16 → lv_has ls 3 [(0, .int p0), (1, .int p1)] → W p l e (rmO 0 0 0 0) s m ([.int p0, .int p1, .int p2] : List Value).toArray below meth c s.heap [] 0 0 (MQ below (vp_Si Post) ([.int p0, .int p1, .int p2] : List Value).toArray s 0 0 (fun _ => False)) (F0 m 16 ls [.int s1_16, .int ((3 : Int32) * p0)]) := by
    intro s1_16 ls hg hl
    unfold p_X8_gets_16 at hg
    refine lv_iadd hx hb dX8_gets_16 ?_
    refine lv_iload_n hx hb dX8_gets_17 rfl (lv_at hl 0 rfl) ?_
    refine lv_iload_n hx hb dX8_gets_18 rfl (lv_at hl 1 rfl) ?_
    refine lv_icmp_le (tgt := 26) hx hb dX8_gets_19 (by decide) (fun c_19 => ?_) (fun c_19 => ?_)
    · have hg := hg.1 c_19
      refine lv_iconst (v := (0 : Int32)) hx hb dX8_gets_26 (by decide) ?_
      refine lv_isub hx hb dX8_gets_27 ?_
      exact k_xiret C0 hr hg dX8_gets_28
    have hg := hg.2 c_19
    refine lv_iconst (v := (4 : Int32)) hx hb dX8_gets_22 (by decide) ?_
    refine lv_goto (tgt := 27) hx hb dX8_gets_23 (by decide) ?_
    refine lv_isub hx hb dX8_gets_27 ?_
    exact k_xiret C0 hr hg dX8_gets_28
  unfold p_X8_gets at hg
  refine lv_iconst (v := (3 : Int32)) hx hb dX8_gets_0 (by decide) ?_
  refine lv_iload_n hx hb dX8_gets_1 rfl (lv_at hl 0 rfl) ?_
  refine lv_imul hx hb dX8_gets_2 ?_
  refine lv_iload_n hx hb dX8_gets_3 rfl (lv_at hl 0 rfl) ?_
  refine lv_iload_n hx hb dX8_gets_4 rfl (lv_at hl 1 rfl) ?_
  refine lv_iadd hx hb dX8_gets_5 ?_
  refine lv_iload_n hx hb dX8_gets_6 rfl (lv_at hl 2 rfl) ?_
  refine lv_icmp_gt (tgt := 15) hx hb dX8_gets_7 (by decide) (fun c_7 => ?_) (fun c_7 => ?_)
  · have hg := hg.1 c_7
    refine lv_iconst (v := (0 : Int32)) hx hb dX8_gets_15 (by decide) ?_
    exact L16 (0 : Int32) _ hg (lv_sub hl [0, 1] rfl)
  have hg := hg.2 c_7
  refine lv_bipush (v := (20 : Int32)) hx hb dX8_gets_10 (by decide) ?_
  refine lv_goto (tgt := 16) hx hb dX8_gets_12 (by decide) ?_
  exact L16 (20 : Int32) _ hg (lv_sub hl [0, 1] rfl)
theorem dX8_isBest_0 : decode cX8_isBest 0 = .ok (.iconst 0, 1) := by decide +kernel
theorem dX8_isBest_1 : decode cX8_isBest 1 = .ok (.istore_n 3, 1) := by decide +kernel
theorem dX8_isBest_2 : decode cX8_isBest 2 = .ok (.iload_n 3, 1) := by decide +kernel
theorem dX8_isBest_3 : decode cX8_isBest 3 = .ok (.bipush 9, 2) := by decide +kernel
theorem dX8_isBest_5 : decode cX8_isBest 5 = .ok (.if_icmp .gt 26, 3) := by decide +kernel
theorem dX8_isBest_8 : decode cX8_isBest 8 = .ok (.iload_n 3, 1) := by decide +kernel
theorem dX8_isBest_9 : decode cX8_isBest 9 = .ok (.iload_n 1, 1) := by decide +kernel
theorem dX8_isBest_10 : decode cX8_isBest 10 = .ok (.iload_n 2, 1) := by decide +kernel
theorem dX8_isBest_11 : decode cX8_isBest 11 = .ok (.invokestatic 376, 3) := by decide +kernel
theorem dX8_isBest_14 : decode cX8_isBest 14 = .ok (.iload_n 0, 1) := by decide +kernel
theorem dX8_isBest_15 : decode cX8_isBest 15 = .ok (.iload_n 1, 1) := by decide +kernel
theorem dX8_isBest_16 : decode cX8_isBest 16 = .ok (.iload_n 2, 1) := by decide +kernel
theorem dX8_isBest_17 : decode cX8_isBest 17 = .ok (.invokestatic 376, 3) := by decide +kernel
theorem dX8_isBest_20 : decode cX8_isBest 20 = .ok (.if_icmp .le 5, 3) := by decide +kernel
theorem dX8_isBest_23 : decode cX8_isBest 23 = .ok (.iconst 0, 1) := by decide +kernel
theorem dX8_isBest_24 : decode cX8_isBest 24 = .ok (.ireturn, 1) := by decide +kernel
theorem dX8_isBest_25 : decode cX8_isBest 25 = .ok (.iinc 3 1, 3) := by decide +kernel
theorem dX8_isBest_28 : decode cX8_isBest 28 = .ok (.goto (-26), 3) := by decide +kernel
theorem dX8_isBest_31 : decode cX8_isBest 31 = .ok (.iconst 1, 1) := by decide +kernel
theorem dX8_isBest_32 : decode cX8_isBest 32 = .ok (.ireturn, 1) := by decide +kernel
noncomputable def p_X8_isBest_2 (F : Nat) (p0 : Int32) (p1 : Int32) (p2 : Int32) (Post : Int32 → Prop) (n : Nat) : Int32 → Prop := Nat.rec (motive := fun _ => Int32 → Prop) (fun _ => False) (fun _ k2 => fun (y3_2 : Int32) => (((9 : Int32) < y3_2 → (Post (1 : Int32))) ∧ (¬ (9 : Int32) < y3_2 → (p_X8_gets F y3_2 p1 p2 (fun (r_11 : Int32) => (p_X8_gets F p0 p1 p2 (fun (r_17 : Int32) => ((r_11 ≤ r_17 → (k2 (y3_2 + (1 : Int32)))) ∧ (¬ r_11 ≤ r_17 → (Post (0 : Int32))))))))))) n
theorem p_X8_isBest_2_s (F : Nat) (p0 : Int32) (p1 : Int32) (p2 : Int32) (Post : Int32 → Prop) (n : Nat) (y3_2 : Int32) : p_X8_isBest_2 F p0 p1 p2 Post (n + 1) y3_2 = (((9 : Int32) < y3_2 → (Post (1 : Int32))) ∧ (¬ (9 : Int32) < y3_2 → (p_X8_gets F y3_2 p1 p2 (fun (r_11 : Int32) => (p_X8_gets F p0 p1 p2 (fun (r_17 : Int32) => ((r_11 ≤ r_17 → ((p_X8_isBest_2 F p0 p1 p2 Post n) (y3_2 + (1 : Int32)))) ∧ (¬ r_11 ≤ r_17 → (Post (0 : Int32)))))))))) := rfl
def p_X8_isBest (F : Nat) (p0 : Int32) (p1 : Int32) (p2 : Int32) (Post : Int32 → Prop) : Prop := (p_X8_isBest_2 F p0 p1 p2 Post F (0 : Int32))
set_option maxHeartbeats 4000000 in
set_option maxRecDepth 100000 in
theorem c_X8_isBest (l : Launch) (D : va_G) (cT : Nat → ClassId) (F : Nat) (p0 : Int32) (p1 : Int32) (p2 : Int32) (Post : Int32 → Prop) (hg : p_X8_isBest F p0 p1 p2 Post) : MRi l D cT yX8_isBest cX8_isBest 4 (some .boolean) 1 22 [.int p0, .int p1, .int p2] [] Post := by
  refine MRi.of (by decide) (Nat.le_of_ble_eq_true rfl) ?_
  intro p e s m below meth c C0 hr hP hD ls hl
  have hl : lv_has ls 4 [(0, .int p0), (1, .int p1), (2, .int p2)] := hl
  have hx := C0.x
  have hb := C0.b
  have hP : va_P D cls9 [] s.heap := hP
  have hD : va_D (fun _ => True) [] := hD
  have L2 : ∀ (n2 : Nat) (y3_2 : Int32) (ls : Array Slot), p_X8_isBest_2 F p0 p1 p2 Post n2 y3_2 → lv_has ls 4 [(0, .int p0), (1, .int p1), (2, .int p2), (3, .int y3_2)] → W p l e (rmO 1 22 0 0) s m ([.int p0, .int p1, .int p2] : List Value).toArray below meth c s.heap [] 0 0 (MQ below (vp_Si Post) ([.int p0, .int p1, .int p2] : List Value).toArray s 0 0 (fun _ => False)) (F0 m 2 ls []) := by
    intro n2
    induction n2 with
    | zero =>
      intro y3_2 ls hg hl
      exact False.elim hg
    | succ n2 ih2 =>
      intro y3_2 ls hg hl
      rw [p_X8_isBest_2_s] at hg
      refine lv_iload_n hx hb dX8_isBest_2 rfl (lv_at hl 3 rfl) ?_
      refine lv_bipush (v := (9 : Int32)) hx hb dX8_isBest_3 (by decide) ?_
      refine lv_icmp_gt (tgt := 31) hx hb dX8_isBest_5 (by decide) (fun c_5 => ?_) (fun c_5 => ?_)
      · have hg := hg.1 c_5
        refine lv_iconst (v := (1 : Int32)) hx hb dX8_isBest_31 (by decide) ?_
        exact k_xzret C0 hr (Or.inr rfl) hg dX8_isBest_32
      have hg := hg.2 c_5
      refine lv_iload_n hx hb dX8_isBest_8 rfl (lv_at hl 3 rfl) ?_
      refine lv_iload_n hx hb dX8_isBest_9 rfl (lv_at hl 1 rfl) ?_
      refine lv_iload_n hx hb dX8_isBest_10 rfl (lv_at hl 2 rfl) ?_
      refine k_Sxi (rest := []) C0 lk_X8_376 (c_X8_gets l D cT F y3_2 p1 p2 _ hg) hP hD [] (by decide +kernel) rfl ⟨Nat.le_of_ble_eq_true rfl, Nat.le_of_ble_eq_true rfl⟩ rfl hl.1 rfl (Nat.le_of_ble_eq_true rfl) dX8_isBest_11 ⟨Nat.le_of_ble_eq_true rfl, Nat.le_of_ble_eq_true rfl⟩ (fun r_11 hg => ?_)
      refine lv_iload_n hx hb dX8_isBest_14 rfl (lv_at hl 0 rfl) ?_
      refine lv_iload_n hx hb dX8_isBest_15 rfl (lv_at hl 1 rfl) ?_
      refine lv_iload_n hx hb dX8_isBest_16 rfl (lv_at hl 2 rfl) ?_
      refine k_Sxi (rest := [.int r_11]) C0 lk_X8_376 (c_X8_gets l D cT F p0 p1 p2 _ hg) hP hD [] (by decide +kernel) rfl ⟨Nat.le_of_ble_eq_true rfl, Nat.le_of_ble_eq_true rfl⟩ rfl hl.1 rfl (Nat.le_of_ble_eq_true rfl) dX8_isBest_17 ⟨Nat.le_of_ble_eq_true rfl, Nat.le_of_ble_eq_true rfl⟩ (fun r_17 hg => ?_)
      refine lv_icmp_le (tgt := 25) hx hb dX8_isBest_20 (by decide) (fun c_20 => ?_) (fun c_20 => ?_)
      · have hg := hg.1 c_20
        refine lv_iinc (v := (y3_2 + (1 : Int32))) (lv' := [(3, .int (y3_2 + (1 : Int32))), (0, .int p0), (1, .int p1), (2, .int p2)]) hx hb dX8_isBest_25 hl (k := 3) rfl rfl (by decide) rfl (fun ls hl => ?_)
        refine lv_goto (tgt := 2) hx hb dX8_isBest_28 (by decide) ?_
        exact ih2 (y3_2 + (1 : Int32)) _ hg (lv_sub hl [1, 2, 3, 0] rfl)
      have hg := hg.2 c_20
      refine lv_iconst (v := (0 : Int32)) hx hb dX8_isBest_23 (by decide) ?_
      exact k_xzret C0 hr (Or.inl rfl) hg dX8_isBest_24
  unfold p_X8_isBest at hg
  refine lv_iconst (v := (0 : Int32)) hx hb dX8_isBest_0 (by decide) ?_
  refine lv_istore_n (lv' := [(3, .int (0 : Int32)), (0, .int p0), (1, .int p1), (2, .int p2)]) hx hb dX8_isBest_1 rfl hl (by decide) rfl (fun ls hl => ?_)
  exact L2 F (0 : Int32) _ hg (lv_sub hl [1, 2, 3, 0] rfl)
theorem dX8_rests_0 : decode cX8_rests 0 = .ok (.aload_n 0, 1) := by decide +kernel
theorem dX8_rests_1 : decode cX8_rests 1 = .ok (.iconst 0, 1) := by decide +kernel
theorem dX8_rests_2 : decode cX8_rests 2 = .ok (.putfield 82, 3) := by decide +kernel
theorem dX8_rests_5 : decode cX8_rests 5 = .ok (.iload_n 1, 1) := by decide +kernel
theorem dX8_rests_6 : decode cX8_rests 6 = .ok (.iconst 0, 1) := by decide +kernel
theorem dX8_rests_7 : decode cX8_rests 7 = .ok (.bipush 18, 2) := by decide +kernel
theorem dX8_rests_9 : decode cX8_rests 9 = .ok (.invokestatic 92, 3) := by decide +kernel
theorem dX8_rests_12 : decode cX8_rests 12 = .ok (.ifCond .ne 5, 3) := by decide +kernel
theorem dX8_rests_15 : decode cX8_rests 15 = .ok (.iconst (-1), 1) := by decide +kernel
theorem dX8_rests_16 : decode cX8_rests 16 = .ok (.ireturn, 1) := by decide +kernel
theorem dX8_rests_17 : decode cX8_rests 17 = .ok (.iconst 0, 1) := by decide +kernel
theorem dX8_rests_18 : decode cX8_rests 18 = .ok (.istore_n 2, 1) := by decide +kernel
theorem dX8_rests_19 : decode cX8_rests 19 = .ok (.aload_n 0, 1) := by decide +kernel
theorem dX8_rests_20 : decode cX8_rests 20 = .ok (.iconst 0, 1) := by decide +kernel
theorem dX8_rests_21 : decode cX8_rests 21 = .ok (.putfield 86, 3) := by decide +kernel
theorem dX8_rests_24 : decode cX8_rests 24 = .ok (.iconst 0, 1) := by decide +kernel
theorem dX8_rests_25 : decode cX8_rests 25 = .ok (.istore_n 3, 1) := by decide +kernel
theorem dX8_rests_26 : decode cX8_rests 26 = .ok (.iload_n 3, 1) := by decide +kernel
theorem dX8_rests_27 : decode cX8_rests 27 = .ok (.bipush 9, 2) := by decide +kernel
theorem dX8_rests_29 : decode cX8_rests 29 = .ok (.if_icmp .gt 68, 3) := by decide +kernel
theorem dX8_rests_32 : decode cX8_rests 32 = .ok (.iconst 0, 1) := by decide +kernel
theorem dX8_rests_33 : decode cX8_rests 33 = .ok (.istore 4, 2) := by decide +kernel
theorem dX8_rests_35 : decode cX8_rests 35 = .ok (.iload 4, 2) := by decide +kernel
theorem dX8_rests_37 : decode cX8_rests 37 = .ok (.bipush 9, 2) := by decide +kernel
theorem dX8_rests_39 : decode cX8_rests 39 = .ok (.if_icmp .gt 52, 3) := by decide +kernel
theorem dX8_rests_42 : decode cX8_rests 42 = .ok (.iload_n 3, 1) := by decide +kernel
theorem dX8_rests_43 : decode cX8_rests 43 = .ok (.iload 4, 2) := by decide +kernel
theorem dX8_rests_45 : decode cX8_rests 45 = .ok (.iload_n 1, 1) := by decide +kernel
theorem dX8_rests_46 : decode cX8_rests 46 = .ok (.invokestatic 380, 3) := by decide +kernel
theorem dX8_rests_49 : decode cX8_rests 49 = .ok (.ifCond .eq 36, 3) := by decide +kernel
theorem dX8_rests_52 : decode cX8_rests 52 = .ok (.iload 4, 2) := by decide +kernel
theorem dX8_rests_54 : decode cX8_rests 54 = .ok (.iload_n 3, 1) := by decide +kernel
theorem dX8_rests_55 : decode cX8_rests 55 = .ok (.iload_n 1, 1) := by decide +kernel
theorem dX8_rests_56 : decode cX8_rests 56 = .ok (.invokestatic 380, 3) := by decide +kernel
theorem dX8_rests_59 : decode cX8_rests 59 = .ok (.ifCond .ne 6, 3) := by decide +kernel
theorem dX8_rests_62 : decode cX8_rests 62 = .ok (.goto 23, 3) := by decide +kernel
theorem dX8_rests_65 : decode cX8_rests 65 = .ok (.iload_n 2, 1) := by decide +kernel
theorem dX8_rests_66 : decode cX8_rests 66 = .ok (.ifCond .ne 16, 3) := by decide +kernel
theorem dX8_rests_69 : decode cX8_rests 69 = .ok (.aload_n 0, 1) := by decide +kernel
theorem dX8_rests_70 : decode cX8_rests 70 = .ok (.iload_n 3, 1) := by decide +kernel
theorem dX8_rests_71 : decode cX8_rests 71 = .ok (.i2l, 1) := by decide +kernel
theorem dX8_rests_72 : decode cX8_rests 72 = .ok (.invokevirtual 249, 3) := by decide +kernel
theorem dX8_rests_75 : decode cX8_rests 75 = .ok (.aload_n 0, 1) := by decide +kernel
theorem dX8_rests_76 : decode cX8_rests 76 = .ok (.iload 4, 2) := by decide +kernel
theorem dX8_rests_78 : decode cX8_rests 78 = .ok (.i2l, 1) := by decide +kernel
theorem dX8_rests_79 : decode cX8_rests 79 = .ok (.invokevirtual 249, 3) := by decide +kernel
theorem dX8_rests_82 : decode cX8_rests 82 = .ok (.iinc 2 1, 3) := by decide +kernel
theorem dX8_rests_85 : decode cX8_rests 85 = .ok (.iinc 4 1, 3) := by decide +kernel
theorem dX8_rests_88 : decode cX8_rests 88 = .ok (.goto (-53), 3) := by decide +kernel
theorem dX8_rests_91 : decode cX8_rests 91 = .ok (.iinc 3 1, 3) := by decide +kernel
theorem dX8_rests_94 : decode cX8_rests 94 = .ok (.goto (-68), 3) := by decide +kernel
theorem dX8_rests_97 : decode cX8_rests 97 = .ok (.iload_n 2, 1) := by decide +kernel
theorem dX8_rests_98 : decode cX8_rests 98 = .ok (.ireturn, 1) := by decide +kernel
def p_X8_rests_85 (F : Nat) (y4_35 : Int32) (k26 : Int32 → Int32 → Int32 → (Nat → Int64) → Prop) (k35 : Int32 → Int32 → Int32 → (Nat → Int64) → Prop) (Post : Int32 → (Int32 × Int32 × (Nat → Int64)) → Prop) (y2_85 : Int32) (x_rowMany_85 : Int32) (f_row_85 : Nat → Int64) : Prop := (k35 (y4_35 + (1 : Int32)) y2_85 x_rowMany_85 f_row_85)
def p_X8_rests_82 (F : Nat) (y4_35 : Int32) (y2_35 : Int32) (k26 : Int32 → Int32 → Int32 → (Nat → Int64) → Prop) (k35 : Int32 → Int32 → Int32 → (Nat → Int64) → Prop) (Post : Int32 → (Int32 × Int32 × (Nat → Int64)) → Prop) (x_rowMany_82 : Int32) (f_row_82 : Nat → Int64) : Prop := (p_X8_rests_85 F y4_35 k26 k35 Post (y2_35 + (1 : Int32)) x_rowMany_82 f_row_82)
noncomputable def p_X8_rests_35 (F : Nat) (p1 : Int32) (y3_26 : Int32) (k26 : Int32 → Int32 → Int32 → (Nat → Int64) → Prop) (Post : Int32 → (Int32 × Int32 × (Nat → Int64)) → Prop) (n : Nat) : Int32 → Int32 → Int32 → (Nat → Int64) → Prop := Nat.rec (motive := fun _ => Int32 → Int32 → Int32 → (Nat → Int64) → Prop) (fun _ _ _ _ => False) (fun _ k35 => fun (y4_35 : Int32) (y2_35 : Int32) (x_rowMany_35 : Int32) (f_row_35 : Nat → Int64) => (((9 : Int32) < y4_35 → (k26 (y3_26 + (1 : Int32)) y2_35 x_rowMany_35 f_row_35)) ∧ (¬ (9 : Int32) < y4_35 → (p_X8_isBest F y3_26 y4_35 p1 (fun (r_46 : Int32) => ((r_46 = 0 → (p_X8_rests_85 F y4_35 k26 k35 Post y2_35 x_rowMany_35 f_row_35)) ∧ (¬ r_46 = 0 → (p_X8_isBest F y4_35 y3_26 p1 (fun (r_56 : Int32) => ((¬ r_56 = 0 → ((¬ y2_35 = 0 → (p_X8_rests_82 F y4_35 y2_35 k26 k35 Post x_rowMany_35 f_row_35)) ∧ (y2_35 = 0 → (p_X8_tell F (y3_26.toInt64) x_rowMany_35 f_row_35 (fun (u_72 : (Int32 × (Nat → Int64))) => (p_X8_tell F (y4_35.toInt64) u_72.1 u_72.2 (fun (u_79 : (Int32 × (Nat → Int64))) => (p_X8_rests_82 F y4_35 y2_35 k26 k35 Post u_79.1 u_79.2)))))))) ∧ (r_56 = 0 → (p_X8_rests_85 F y4_35 k26 k35 Post y2_35 x_rowMany_35 f_row_35)))))))))))) n
theorem p_X8_rests_35_s (F : Nat) (p1 : Int32) (y3_26 : Int32) (k26 : Int32 → Int32 → Int32 → (Nat → Int64) → Prop) (Post : Int32 → (Int32 × Int32 × (Nat → Int64)) → Prop) (n : Nat) (y4_35 : Int32) (y2_35 : Int32) (x_rowMany_35 : Int32) (f_row_35 : Nat → Int64) : p_X8_rests_35 F p1 y3_26 k26 Post (n + 1) y4_35 y2_35 x_rowMany_35 f_row_35 = (((9 : Int32) < y4_35 → (k26 (y3_26 + (1 : Int32)) y2_35 x_rowMany_35 f_row_35)) ∧ (¬ (9 : Int32) < y4_35 → (p_X8_isBest F y3_26 y4_35 p1 (fun (r_46 : Int32) => ((r_46 = 0 → (p_X8_rests_85 F y4_35 k26 (p_X8_rests_35 F p1 y3_26 k26 Post n) Post y2_35 x_rowMany_35 f_row_35)) ∧ (¬ r_46 = 0 → (p_X8_isBest F y4_35 y3_26 p1 (fun (r_56 : Int32) => ((¬ r_56 = 0 → ((¬ y2_35 = 0 → (p_X8_rests_82 F y4_35 y2_35 k26 (p_X8_rests_35 F p1 y3_26 k26 Post n) Post x_rowMany_35 f_row_35)) ∧ (y2_35 = 0 → (p_X8_tell F (y3_26.toInt64) x_rowMany_35 f_row_35 (fun (u_72 : (Int32 × (Nat → Int64))) => (p_X8_tell F (y4_35.toInt64) u_72.1 u_72.2 (fun (u_79 : (Int32 × (Nat → Int64))) => (p_X8_rests_82 F y4_35 y2_35 k26 (p_X8_rests_35 F p1 y3_26 k26 Post n) Post u_79.1 u_79.2)))))))) ∧ (r_56 = 0 → (p_X8_rests_85 F y4_35 k26 (p_X8_rests_35 F p1 y3_26 k26 Post n) Post y2_35 x_rowMany_35 f_row_35))))))))))) := rfl
noncomputable def p_X8_rests_26 (F : Nat) (p1 : Int32) (Post : Int32 → (Int32 × Int32 × (Nat → Int64)) → Prop) (n : Nat) : Int32 → Int32 → Int32 → (Nat → Int64) → Prop := Nat.rec (motive := fun _ => Int32 → Int32 → Int32 → (Nat → Int64) → Prop) (fun _ _ _ _ => False) (fun _ k26 => fun (y3_26 : Int32) (y2_26 : Int32) (x_rowMany_26 : Int32) (f_row_26 : Nat → Int64) => (((9 : Int32) < y3_26 → (Post y2_26 (x_rowMany_26, (0 : Int32), f_row_26))) ∧ (¬ (9 : Int32) < y3_26 → (p_X8_rests_35 F p1 y3_26 k26 Post F (0 : Int32) y2_26 x_rowMany_26 f_row_26)))) n
theorem p_X8_rests_26_s (F : Nat) (p1 : Int32) (Post : Int32 → (Int32 × Int32 × (Nat → Int64)) → Prop) (n : Nat) (y3_26 : Int32) (y2_26 : Int32) (x_rowMany_26 : Int32) (f_row_26 : Nat → Int64) : p_X8_rests_26 F p1 Post (n + 1) y3_26 y2_26 x_rowMany_26 f_row_26 = (((9 : Int32) < y3_26 → (Post y2_26 (x_rowMany_26, (0 : Int32), f_row_26))) ∧ (¬ (9 : Int32) < y3_26 → (p_X8_rests_35 F p1 y3_26 (p_X8_rests_26 F p1 Post n) Post F (0 : Int32) y2_26 x_rowMany_26 f_row_26))) := rfl
def p_X8_rests (F : Nat) (p1 : Int32) (x_rowMany : Int32) (f_row : Nat → Int64) (Post : Int32 → (Int32 × Int32 × (Nat → Int64)) → Prop) : Prop := (p_X8_in F p1 (0 : Int32) (18 : Int32) (fun (r_9 : Int32) => ((¬ r_9 = 0 → (p_X8_rests_26 F p1 Post F (0 : Int32) (0 : Int32) (0 : Int32) f_row)) ∧ (r_9 = 0 → (Post (-1 : Int32) (x_rowMany, (0 : Int32), f_row))))))
set_option maxHeartbeats 4000000 in
set_option maxRecDepth 100000 in
theorem c_X8_rests (l : Launch) (D : va_G) (cT : Nat → ClassId) (F : Nat) (h : Nat) (p1 : Int32) (w_now : Value) (x_arches : Int32) (x_cats : Int32) (w_text : Value) (x_typed : Int32) (q_row : Nat) (x_rowMany : Int32) (x_thrown : Int32) (w_read : Value) (x_length : Int32) (x_top : Int32) (x_at : Int32) (x_wrong : Int32) (w_told : Value) (w_rule : Value) (w_otherRule : Value) (x_ruleSize : Int32) (x_isAsked : Int32) (w_asked : Value) (w_undos : Value) (x_undoMany : Int32) (w_aside : Value) (w_then : Value) (w_hold : Value) (x_dropped : Int32) (w_acts : Value) (w_guarded : Value) (w_train : Value) (x_trolleyEnd : Int32) (w_feltOf : Value) (w_feltBy : Value) (x_feltMany : Int32) (w_many : Value) (w_heardOf : Value) (w_heardBy : Value) (x_heardMany : Int32) (w_worth : Value) (x_drawn : Int32) (x_came : Int32) (w_kept : Value) (w_isKept : Value) (w_keptCame : Value) (f_row : Nat → Int64) (Post : Int32 → (Int32 × Int32 × (Nat → Int64)) → Prop) (hg : p_X8_rests F p1 x_rowMany f_row Post) : MWi l D cT yX8_rests cX8_rests 5 (some .int) 2 45 0 0 [.ref h, .int p1] [(h, oX8 w_now (.int x_arches) (.int x_cats) w_text (.int x_typed) (.ref q_row) (.int x_rowMany) (.int x_thrown) w_read (.int x_length) (.int x_top) (.int x_at) (.int x_wrong) w_told w_rule w_otherRule (.int x_ruleSize) (.int x_isAsked) w_asked w_undos (.int x_undoMany) w_aside w_then w_hold (.int x_dropped) w_acts w_guarded w_train (.int x_trolleyEnd) w_feltOf w_feltBy (.int x_feltMany) w_many w_heardOf w_heardBy (.int x_heardMany) w_worth (.int x_drawn) (.int x_came) w_kept w_isKept w_keptCame), (q_row, aJ cT 16 f_row)] Post (fun (u : (Int32 × Int32 × (Nat → Int64))) => [(h, oX8 w_now (.int x_arches) (.int x_cats) w_text (.int x_typed) (.ref q_row) (.int u.1) (.int u.2.1) w_read (.int x_length) (.int x_top) (.int x_at) (.int x_wrong) w_told w_rule w_otherRule (.int x_ruleSize) (.int x_isAsked) w_asked w_undos (.int x_undoMany) w_aside w_then w_hold (.int x_dropped) w_acts w_guarded w_train (.int x_trolleyEnd) w_feltOf w_feltBy (.int x_feltMany) w_many w_heardOf w_heardBy (.int x_heardMany) w_worth (.int x_drawn) (.int x_came) w_kept w_isKept w_keptCame), (q_row, aJ cT 16 u.2.2)]) := by
  refine MWi.of (by decide) (Nat.le_of_ble_eq_true rfl) ?_
  intro p e s m below meth c A hA C0 hnm hr hP hD ls hl
  have hl : lv_has ls 5 [(0, .ref h), (1, .int p1)] := hl
  have hx := C0.x
  have hb := C0.b
  have hS : va_S A s.heap s.heap [] := va_S.rf
  have hP : va_P D cls9 [(h, oX8 w_now (.int x_arches) (.int x_cats) w_text (.int x_typed) (.ref q_row) (.int x_rowMany) (.int x_thrown) w_read (.int x_length) (.int x_top) (.int x_at) (.int x_wrong) w_told w_rule w_otherRule (.int x_ruleSize) (.int x_isAsked) w_asked w_undos (.int x_undoMany) w_aside w_then w_hold (.int x_dropped) w_acts w_guarded w_train (.int x_trolleyEnd) w_feltOf w_feltBy (.int x_feltMany) w_many w_heardOf w_heardBy (.int x_heardMany) w_worth (.int x_drawn) (.int x_came) w_kept w_isKept w_keptCame), (q_row, aJ cT 16 f_row)] s.heap := hP
  have hD : va_D A [(h, oX8 w_now (.int x_arches) (.int x_cats) w_text (.int x_typed) (.ref q_row) (.int x_rowMany) (.int x_thrown) w_read (.int x_length) (.int x_top) (.int x_at) (.int x_wrong) w_told w_rule w_otherRule (.int x_ruleSize) (.int x_isAsked) w_asked w_undos (.int x_undoMany) w_aside w_then w_hold (.int x_dropped) w_acts w_guarded w_train (.int x_trolleyEnd) w_feltOf w_feltBy (.int x_feltMany) w_many w_heardOf w_heardBy (.int x_heardMany) w_worth (.int x_drawn) (.int x_came) w_kept w_isKept w_keptCame), (q_row, aJ cT 16 f_row)] := hD
  have L26 : ∀ (n26 : Nat) (y3_26 : Int32) (y2_26 : Int32) (x_rowMany_26 : Int32) (f_row_26 : Nat → Int64) (H : Heap) (locs : List Loc) (ls : Array Slot), p_X8_rests_26 F p1 Post n26 y3_26 y2_26 x_rowMany_26 f_row_26 → va_P D cls9 [(h, oX8 w_now (.int x_arches) (.int x_cats) w_text (.int x_typed) (.ref q_row) (.int x_rowMany_26) (.int (0 : Int32)) w_read (.int x_length) (.int x_top) (.int x_at) (.int x_wrong) w_told w_rule w_otherRule (.int x_ruleSize) (.int x_isAsked) w_asked w_undos (.int x_undoMany) w_aside w_then w_hold (.int x_dropped) w_acts w_guarded w_train (.int x_trolleyEnd) w_feltOf w_feltBy (.int x_feltMany) w_many w_heardOf w_heardBy (.int x_heardMany) w_worth (.int x_drawn) (.int x_came) w_kept w_isKept w_keptCame), (q_row, aJ cT 16 f_row_26)] H → va_D A [(h, oX8 w_now (.int x_arches) (.int x_cats) w_text (.int x_typed) (.ref q_row) (.int x_rowMany_26) (.int (0 : Int32)) w_read (.int x_length) (.int x_top) (.int x_at) (.int x_wrong) w_told w_rule w_otherRule (.int x_ruleSize) (.int x_isAsked) w_asked w_undos (.int x_undoMany) w_aside w_then w_hold (.int x_dropped) w_acts w_guarded w_train (.int x_trolleyEnd) w_feltOf w_feltBy (.int x_feltMany) w_many w_heardOf w_heardBy (.int x_heardMany) w_worth (.int x_drawn) (.int x_came) w_kept w_isKept w_keptCame), (q_row, aJ cT 16 f_row_26)] → va_S A s.heap H locs → lv_has ls 5 [(0, .ref h), (1, .int p1), (2, .int y2_26), (3, .int y3_26)] → W p l e (rmO 2 45 0 0) s m ([.ref h, .int p1] : List Value).toArray below meth c H locs 0 0 (MQ below (va_Qi Post (cB D A (fun (u : (Int32 × Int32 × (Nat → Int64))) => [(h, oX8 w_now (.int x_arches) (.int x_cats) w_text (.int x_typed) (.ref q_row) (.int u.1) (.int u.2.1) w_read (.int x_length) (.int x_top) (.int x_at) (.int x_wrong) w_told w_rule w_otherRule (.int x_ruleSize) (.int x_isAsked) w_asked w_undos (.int x_undoMany) w_aside w_then w_hold (.int x_dropped) w_acts w_guarded w_train (.int x_trolleyEnd) w_feltOf w_feltBy (.int x_feltMany) w_many w_heardOf w_heardBy (.int x_heardMany) w_worth (.int x_drawn) (.int x_came) w_kept w_isKept w_keptCame), (q_row, aJ cT 16 u.2.2)])) A) ([.ref h, .int p1] : List Value).toArray s 0 0 A) (F0 m 26 ls []) := by
    intro n26
    induction n26 with
    | zero =>
      intro y3_26 y2_26 x_rowMany_26 f_row_26 H locs ls hg hP hD hS hl
      exact False.elim hg
    | succ n26 ih26 =>
      have L35 : ∀ (y3_26 : Int32) (n35 : Nat) (y4_35 : Int32) (y2_35 : Int32) (x_rowMany_35 : Int32) (f_row_35 : Nat → Int64) (H : Heap) (locs : List Loc) (ls : Array Slot), p_X8_rests_35 F p1 y3_26 (p_X8_rests_26 F p1 Post n26) Post n35 y4_35 y2_35 x_rowMany_35 f_row_35 → va_P D cls9 [(h, oX8 w_now (.int x_arches) (.int x_cats) w_text (.int x_typed) (.ref q_row) (.int x_rowMany_35) (.int (0 : Int32)) w_read (.int x_length) (.int x_top) (.int x_at) (.int x_wrong) w_told w_rule w_otherRule (.int x_ruleSize) (.int x_isAsked) w_asked w_undos (.int x_undoMany) w_aside w_then w_hold (.int x_dropped) w_acts w_guarded w_train (.int x_trolleyEnd) w_feltOf w_feltBy (.int x_feltMany) w_many w_heardOf w_heardBy (.int x_heardMany) w_worth (.int x_drawn) (.int x_came) w_kept w_isKept w_keptCame), (q_row, aJ cT 16 f_row_35)] H → va_D A [(h, oX8 w_now (.int x_arches) (.int x_cats) w_text (.int x_typed) (.ref q_row) (.int x_rowMany_35) (.int (0 : Int32)) w_read (.int x_length) (.int x_top) (.int x_at) (.int x_wrong) w_told w_rule w_otherRule (.int x_ruleSize) (.int x_isAsked) w_asked w_undos (.int x_undoMany) w_aside w_then w_hold (.int x_dropped) w_acts w_guarded w_train (.int x_trolleyEnd) w_feltOf w_feltBy (.int x_feltMany) w_many w_heardOf w_heardBy (.int x_heardMany) w_worth (.int x_drawn) (.int x_came) w_kept w_isKept w_keptCame), (q_row, aJ cT 16 f_row_35)] → va_S A s.heap H locs → lv_has ls 5 [(0, .ref h), (1, .int p1), (2, .int y2_35), (3, .int y3_26), (4, .int y4_35)] → W p l e (rmO 2 45 0 0) s m ([.ref h, .int p1] : List Value).toArray below meth c H locs 0 0 (MQ below (va_Qi Post (cB D A (fun (u : (Int32 × Int32 × (Nat → Int64))) => [(h, oX8 w_now (.int x_arches) (.int x_cats) w_text (.int x_typed) (.ref q_row) (.int u.1) (.int u.2.1) w_read (.int x_length) (.int x_top) (.int x_at) (.int x_wrong) w_told w_rule w_otherRule (.int x_ruleSize) (.int x_isAsked) w_asked w_undos (.int x_undoMany) w_aside w_then w_hold (.int x_dropped) w_acts w_guarded w_train (.int x_trolleyEnd) w_feltOf w_feltBy (.int x_feltMany) w_many w_heardOf w_heardBy (.int x_heardMany) w_worth (.int x_drawn) (.int x_came) w_kept w_isKept w_keptCame), (q_row, aJ cT 16 u.2.2)])) A) ([.ref h, .int p1] : List Value).toArray s 0 0 A) (F0 m 35 ls []) := by
        intro y3_26 n35
        induction n35 with
        | zero =>
          intro y4_35 y2_35 x_rowMany_35 f_row_35 H locs ls hg hP hD hS hl
          exact False.elim hg
        | succ n35 ih35 =>
          have L85 : ∀ (y4_35 : Int32) (y2_85 : Int32) (x_rowMany_85 : Int32) (f_row_85 : Nat → Int64) (H : Heap) (locs : List Loc) (ls : Array Slot), p_X8_rests_85 F y4_35 (p_X8_rests_26 F p1 Post n26) (p_X8_rests_35 F p1 y3_26 (p_X8_rests_26 F p1 Post n26) Post n35) Post y2_85 x_rowMany_85 f_row_85 → va_P D cls9 [(h, oX8 w_now (.int x_arches) (.int x_cats) w_text (.int x_typed) (.ref q_row) (.int x_rowMany_85) (.int (0 : Int32)) w_read (.int x_length) (.int x_top) (.int x_at) (.int x_wrong) w_told w_rule w_otherRule (.int x_ruleSize) (.int x_isAsked) w_asked w_undos (.int x_undoMany) w_aside w_then w_hold (.int x_dropped) w_acts w_guarded w_train (.int x_trolleyEnd) w_feltOf w_feltBy (.int x_feltMany) w_many w_heardOf w_heardBy (.int x_heardMany) w_worth (.int x_drawn) (.int x_came) w_kept w_isKept w_keptCame), (q_row, aJ cT 16 f_row_85)] H → va_D A [(h, oX8 w_now (.int x_arches) (.int x_cats) w_text (.int x_typed) (.ref q_row) (.int x_rowMany_85) (.int (0 : Int32)) w_read (.int x_length) (.int x_top) (.int x_at) (.int x_wrong) w_told w_rule w_otherRule (.int x_ruleSize) (.int x_isAsked) w_asked w_undos (.int x_undoMany) w_aside w_then w_hold (.int x_dropped) w_acts w_guarded w_train (.int x_trolleyEnd) w_feltOf w_feltBy (.int x_feltMany) w_many w_heardOf w_heardBy (.int x_heardMany) w_worth (.int x_drawn) (.int x_came) w_kept w_isKept w_keptCame), (q_row, aJ cT 16 f_row_85)] → va_S A s.heap H locs → lv_has ls 5 [(0, .ref h), (1, .int p1), (2, .int y2_85), (3, .int y3_26), (4, .int y4_35)] → W p l e (rmO 2 45 0 0) s m ([.ref h, .int p1] : List Value).toArray below meth c H locs 0 0 (MQ below (va_Qi Post (cB D A (fun (u : (Int32 × Int32 × (Nat → Int64))) => [(h, oX8 w_now (.int x_arches) (.int x_cats) w_text (.int x_typed) (.ref q_row) (.int u.1) (.int u.2.1) w_read (.int x_length) (.int x_top) (.int x_at) (.int x_wrong) w_told w_rule w_otherRule (.int x_ruleSize) (.int x_isAsked) w_asked w_undos (.int x_undoMany) w_aside w_then w_hold (.int x_dropped) w_acts w_guarded w_train (.int x_trolleyEnd) w_feltOf w_feltBy (.int x_feltMany) w_many w_heardOf w_heardBy (.int x_heardMany) w_worth (.int x_drawn) (.int x_came) w_kept w_isKept w_keptCame), (q_row, aJ cT 16 u.2.2)])) A) ([.ref h, .int p1] : List Value).toArray s 0 0 A) (F0 m 85 ls []) := by
            intro y4_35 y2_85 x_rowMany_85 f_row_85 H locs ls hg hP hD hS hl
            unfold p_X8_rests_85 at hg
            refine lv_iinc (v := (y4_35 + (1 : Int32))) (lv' := [(4, .int (y4_35 + (1 : Int32))), (0, .ref h), (1, .int p1), (2, .int y2_85), (3, .int y3_26)]) hx hb dX8_rests_85 hl (k := 4) rfl rfl (by decide) rfl (fun ls hl => ?_)
            refine lv_goto (tgt := 35) hx hb dX8_rests_88 (by decide) ?_
            exact ih35 (y4_35 + (1 : Int32)) y2_85 x_rowMany_85 f_row_85 _ _ _ hg hP hD hS (lv_sub hl [1, 2, 3, 4, 0] rfl)
          have L82 : ∀ (y4_35 : Int32) (y2_35 : Int32) (x_rowMany_82 : Int32) (f_row_82 : Nat → Int64) (H : Heap) (locs : List Loc) (ls : Array Slot), p_X8_rests_82 F y4_35 y2_35 (p_X8_rests_26 F p1 Post n26) (p_X8_rests_35 F p1 y3_26 (p_X8_rests_26 F p1 Post n26) Post n35) Post x_rowMany_82 f_row_82 → va_P D cls9 [(h, oX8 w_now (.int x_arches) (.int x_cats) w_text (.int x_typed) (.ref q_row) (.int x_rowMany_82) (.int (0 : Int32)) w_read (.int x_length) (.int x_top) (.int x_at) (.int x_wrong) w_told w_rule w_otherRule (.int x_ruleSize) (.int x_isAsked) w_asked w_undos (.int x_undoMany) w_aside w_then w_hold (.int x_dropped) w_acts w_guarded w_train (.int x_trolleyEnd) w_feltOf w_feltBy (.int x_feltMany) w_many w_heardOf w_heardBy (.int x_heardMany) w_worth (.int x_drawn) (.int x_came) w_kept w_isKept w_keptCame), (q_row, aJ cT 16 f_row_82)] H → va_D A [(h, oX8 w_now (.int x_arches) (.int x_cats) w_text (.int x_typed) (.ref q_row) (.int x_rowMany_82) (.int (0 : Int32)) w_read (.int x_length) (.int x_top) (.int x_at) (.int x_wrong) w_told w_rule w_otherRule (.int x_ruleSize) (.int x_isAsked) w_asked w_undos (.int x_undoMany) w_aside w_then w_hold (.int x_dropped) w_acts w_guarded w_train (.int x_trolleyEnd) w_feltOf w_feltBy (.int x_feltMany) w_many w_heardOf w_heardBy (.int x_heardMany) w_worth (.int x_drawn) (.int x_came) w_kept w_isKept w_keptCame), (q_row, aJ cT 16 f_row_82)] → va_S A s.heap H locs → lv_has ls 5 [(0, .ref h), (1, .int p1), (2, .int y2_35), (3, .int y3_26), (4, .int y4_35)] → W p l e (rmO 2 45 0 0) s m ([.ref h, .int p1] : List Value).toArray below meth c H locs 0 0 (MQ below (va_Qi Post (cB D A (fun (u : (Int32 × Int32 × (Nat → Int64))) => [(h, oX8 w_now (.int x_arches) (.int x_cats) w_text (.int x_typed) (.ref q_row) (.int u.1) (.int u.2.1) w_read (.int x_length) (.int x_top) (.int x_at) (.int x_wrong) w_told w_rule w_otherRule (.int x_ruleSize) (.int x_isAsked) w_asked w_undos (.int x_undoMany) w_aside w_then w_hold (.int x_dropped) w_acts w_guarded w_train (.int x_trolleyEnd) w_feltOf w_feltBy (.int x_feltMany) w_many w_heardOf w_heardBy (.int x_heardMany) w_worth (.int x_drawn) (.int x_came) w_kept w_isKept w_keptCame), (q_row, aJ cT 16 u.2.2)])) A) ([.ref h, .int p1] : List Value).toArray s 0 0 A) (F0 m 82 ls []) := by
            intro y4_35 y2_35 x_rowMany_82 f_row_82 H locs ls hg hP hD hS hl
            unfold p_X8_rests_82 at hg
            refine lv_iinc (v := (y2_35 + (1 : Int32))) (lv' := [(2, .int (y2_35 + (1 : Int32))), (0, .ref h), (1, .int p1), (3, .int y3_26), (4, .int y4_35)]) hx hb dX8_rests_82 hl (k := 2) rfl rfl (by decide) rfl (fun ls hl => ?_)
            exact L85 y4_35 (y2_35 + (1 : Int32)) x_rowMany_82 f_row_82 _ _ _ hg hP hD hS (lv_sub hl [1, 2, 0, 3, 4] rfl)
          intro y4_35 y2_35 x_rowMany_35 f_row_35 H locs ls hg hP hD hS hl
          rw [p_X8_rests_35_s] at hg
          refine lv_iload hx hb dX8_rests_35 (lv_at hl 4 rfl) ?_
          refine lv_bipush (v := (9 : Int32)) hx hb dX8_rests_37 (by decide) ?_
          refine lv_icmp_gt (tgt := 91) hx hb dX8_rests_39 (by decide) (fun c_39 => ?_) (fun c_39 => ?_)
          · have hg := hg.1 c_39
            refine lv_iinc (v := (y3_26 + (1 : Int32))) (lv' := [(3, .int (y3_26 + (1 : Int32))), (0, .ref h), (1, .int p1), (2, .int y2_35), (4, .int y4_35)]) hx hb dX8_rests_91 hl (k := 3) rfl rfl (by decide) rfl (fun ls hl => ?_)
            refine lv_goto (tgt := 26) hx hb dX8_rests_94 (by decide) ?_
            exact ih26 (y3_26 + (1 : Int32)) y2_35 x_rowMany_35 f_row_35 _ _ _ hg hP hD hS (lv_sub hl [1, 2, 3, 0] rfl)
          have hg := hg.2 c_39
          refine lv_iload_n hx hb dX8_rests_42 rfl (lv_at hl 3 rfl) ?_
          refine lv_iload hx hb dX8_rests_43 (lv_at hl 4 rfl) ?_
          refine lv_iload_n hx hb dX8_rests_45 rfl (lv_at hl 1 rfl) ?_
          refine k_Sxi (rest := []) C0 lk_X8_380 (c_X8_isBest l D cT F y3_26 y4_35 p1 _ hg) hP hD [] (by decide +kernel) rfl ⟨Nat.le_of_ble_eq_true rfl, Nat.le_of_ble_eq_true rfl⟩ rfl hl.1 rfl (Nat.le_of_ble_eq_true rfl) dX8_rests_46 ⟨Nat.le_of_ble_eq_true rfl, Nat.le_of_ble_eq_true rfl⟩ (fun r_46 hg => ?_)
          refine lv_if_eq (tgt := 85) hx hb dX8_rests_49 (by decide) (fun c_49 => ?_) (fun c_49 => ?_)
          · have hg := hg.1 c_49
            exact L85 y4_35 y2_35 x_rowMany_35 f_row_35 _ _ _ hg hP hD hS hl
          have hg := hg.2 c_49
          refine lv_iload hx hb dX8_rests_52 (lv_at hl 4 rfl) ?_
          refine lv_iload_n hx hb dX8_rests_54 rfl (lv_at hl 3 rfl) ?_
          refine lv_iload_n hx hb dX8_rests_55 rfl (lv_at hl 1 rfl) ?_
          refine k_Sxi (rest := []) C0 lk_X8_380 (c_X8_isBest l D cT F y4_35 y3_26 p1 _ hg) hP hD [] (by decide +kernel) rfl ⟨Nat.le_of_ble_eq_true rfl, Nat.le_of_ble_eq_true rfl⟩ rfl hl.1 rfl (Nat.le_of_ble_eq_true rfl) dX8_rests_56 ⟨Nat.le_of_ble_eq_true rfl, Nat.le_of_ble_eq_true rfl⟩ (fun r_56 hg => ?_)
          refine lv_if_ne (tgt := 65) hx hb dX8_rests_59 (by decide) (fun c_59 => ?_) (fun c_59 => ?_)
          · have hg := hg.1 c_59
            refine lv_iload_n hx hb dX8_rests_65 rfl (lv_at hl 2 rfl) ?_
            refine lv_if_ne (tgt := 82) hx hb dX8_rests_66 (by decide) (fun c_66 => ?_) (fun c_66 => ?_)
            · have hg := hg.1 c_66
              exact L82 y4_35 y2_35 x_rowMany_35 f_row_35 _ _ _ hg hP hD hS hl
            have hg := hg.2 c_66
            refine lv_aload_n hx hb dX8_rests_69 rfl (lv_at hl 0 rfl) ?_
            refine lv_iload_n hx hb dX8_rests_70 rfl (lv_at hl 3 rfl) ?_
            refine lv_i2l (v := (y3_26.toInt64)) hx hb dX8_rests_71 rfl ?_
            refine k_Vv (rest := []) (wr := []) (w2 := fun u_72 => [(h, oX8 w_now (.int x_arches) (.int x_cats) w_text (.int x_typed) (.ref q_row) (.int u_72.1) (.int (0 : Int32)) w_read (.int x_length) (.int x_top) (.int x_at) (.int x_wrong) w_told w_rule w_otherRule (.int x_ruleSize) (.int x_isAsked) w_asked w_undos (.int x_undoMany) w_aside w_then w_hold (.int x_dropped) w_acts w_guarded w_train (.int x_trolleyEnd) w_feltOf w_feltBy (.int x_feltMany) w_many w_heardOf w_heardBy (.int x_heardMany) w_worth (.int x_drawn) (.int x_came) w_kept w_isKept w_keptCame), (q_row, aJ cT 16 u_72.2)]) C0 lk_X8_249 (c_X8_tell l D cT F h (y3_26.toInt64) w_now x_arches x_cats w_text x_typed q_row x_rowMany_35 (0 : Int32) w_read x_length x_top x_at x_wrong w_told w_rule w_otherRule x_ruleSize x_isAsked w_asked w_undos x_undoMany w_aside w_then w_hold x_dropped w_acts w_guarded w_train x_trolleyEnd w_feltOf w_feltBy x_feltMany w_many w_heardOf w_heardBy x_heardMany w_worth x_drawn x_came w_kept w_isKept w_keptCame f_row_35 _ hg) hP hD hS hA [0, 1] [] (by decide +kernel) rfl rfl (fun _ => rfl) rfl rfl ⟨Nat.le_of_ble_eq_true rfl, Nat.le_of_ble_eq_true rfl⟩ rfl hl.1 rfl (Nat.le_of_ble_eq_true rfl) dX8_rests_72 ⟨Nat.le_of_ble_eq_true rfl, Nat.le_of_ble_eq_true rfl⟩ ?_
            intro u_72 H locs hg hP hD hS
            refine lv_aload_n hx hb dX8_rests_75 rfl (lv_at hl 0 rfl) ?_
            refine lv_iload hx hb dX8_rests_76 (lv_at hl 4 rfl) ?_
            refine lv_i2l (v := (y4_35.toInt64)) hx hb dX8_rests_78 rfl ?_
            refine k_Vv (rest := []) (wr := []) (w2 := fun u_79 => [(h, oX8 w_now (.int x_arches) (.int x_cats) w_text (.int x_typed) (.ref q_row) (.int u_79.1) (.int (0 : Int32)) w_read (.int x_length) (.int x_top) (.int x_at) (.int x_wrong) w_told w_rule w_otherRule (.int x_ruleSize) (.int x_isAsked) w_asked w_undos (.int x_undoMany) w_aside w_then w_hold (.int x_dropped) w_acts w_guarded w_train (.int x_trolleyEnd) w_feltOf w_feltBy (.int x_feltMany) w_many w_heardOf w_heardBy (.int x_heardMany) w_worth (.int x_drawn) (.int x_came) w_kept w_isKept w_keptCame), (q_row, aJ cT 16 u_79.2)]) C0 lk_X8_249 (c_X8_tell l D cT F h (y4_35.toInt64) w_now x_arches x_cats w_text x_typed q_row u_72.1 (0 : Int32) w_read x_length x_top x_at x_wrong w_told w_rule w_otherRule x_ruleSize x_isAsked w_asked w_undos x_undoMany w_aside w_then w_hold x_dropped w_acts w_guarded w_train x_trolleyEnd w_feltOf w_feltBy x_feltMany w_many w_heardOf w_heardBy x_heardMany w_worth x_drawn x_came w_kept w_isKept w_keptCame u_72.2 _ hg) hP hD hS hA [0, 1] [] (by decide +kernel) rfl rfl (fun _ => rfl) rfl rfl ⟨Nat.le_of_ble_eq_true rfl, Nat.le_of_ble_eq_true rfl⟩ rfl hl.1 rfl (Nat.le_of_ble_eq_true rfl) dX8_rests_79 ⟨Nat.le_of_ble_eq_true rfl, Nat.le_of_ble_eq_true rfl⟩ ?_
            intro u_79 H locs hg hP hD hS
            exact L82 y4_35 y2_35 u_79.1 u_79.2 _ _ _ hg hP hD hS hl
          have hg := hg.2 c_59
          refine lv_goto (tgt := 85) hx hb dX8_rests_62 (by decide) ?_
          exact L85 y4_35 y2_35 x_rowMany_35 f_row_35 _ _ _ hg hP hD hS hl
      intro y3_26 y2_26 x_rowMany_26 f_row_26 H locs ls hg hP hD hS hl
      rw [p_X8_rests_26_s] at hg
      refine lv_iload_n hx hb dX8_rests_26 rfl (lv_at hl 3 rfl) ?_
      refine lv_bipush (v := (9 : Int32)) hx hb dX8_rests_27 (by decide) ?_
      refine lv_icmp_gt (tgt := 97) hx hb dX8_rests_29 (by decide) (fun c_29 => ?_) (fun c_29 => ?_)
      · have hg := hg.1 c_29
        refine lv_iload_n hx hb dX8_rests_97 rfl (lv_at hl 2 rfl) ?_
        exact k_iret C0 hr (x_rowMany_26, (0 : Int32), f_row_26) hg hP hD hS dX8_rests_98
      have hg := hg.2 c_29
      refine lv_iconst (v := (0 : Int32)) hx hb dX8_rests_32 (by decide) ?_
      refine lv_istore (lv' := [(4, .int (0 : Int32)), (0, .ref h), (1, .int p1), (2, .int y2_26), (3, .int y3_26)]) hx hb dX8_rests_33 hl (by decide) rfl (fun ls hl => ?_)
      exact L35 y3_26 F (0 : Int32) y2_26 x_rowMany_26 f_row_26 _ _ _ hg hP hD hS (lv_sub hl [1, 2, 3, 4, 0] rfl)
  unfold p_X8_rests at hg
  refine lv_aload_n hx hb dX8_rests_0 rfl (lv_at hl 0 rfl) ?_
  refine lv_iconst (v := (0 : Int32)) hx hb dX8_rests_1 (by decide) ?_
  refine pf_X8_82 C0 hP hD hS 0 rfl (Nat.le_of_ble_eq_true rfl) (ws2 := [(h, oX8 w_now (.int x_arches) (.int x_cats) w_text (.int x_typed) (.ref q_row) (.int x_rowMany) (.int (0 : Int32)) w_read (.int x_length) (.int x_top) (.int x_at) (.int x_wrong) w_told w_rule w_otherRule (.int x_ruleSize) (.int x_isAsked) w_asked w_undos (.int x_undoMany) w_aside w_then w_hold (.int x_dropped) w_acts w_guarded w_train (.int x_trolleyEnd) w_feltOf w_feltBy (.int x_feltMany) w_many w_heardOf w_heardBy (.int x_heardMany) w_worth (.int x_drawn) (.int x_came) w_kept w_isKept w_keptCame), (q_row, aJ cT 16 f_row)]) rfl dX8_rests_2 (fun H locs hP hD hS => ?_)
  refine lv_iload_n hx hb dX8_rests_5 rfl (lv_at hl 1 rfl) ?_
  refine lv_iconst (v := (0 : Int32)) hx hb dX8_rests_6 (by decide) ?_
  refine lv_bipush (v := (18 : Int32)) hx hb dX8_rests_7 (by decide) ?_
  refine k_Sxi (rest := []) C0 lk_X8_92 (c_X8_in l D cT F p1 (0 : Int32) (18 : Int32) _ hg) hP hD [] (by decide +kernel) rfl ⟨Nat.le_of_ble_eq_true rfl, Nat.le_of_ble_eq_true rfl⟩ rfl hl.1 rfl (Nat.le_of_ble_eq_true rfl) dX8_rests_9 ⟨Nat.le_of_ble_eq_true rfl, Nat.le_of_ble_eq_true rfl⟩ (fun r_9 hg => ?_)
  refine lv_if_ne (tgt := 17) hx hb dX8_rests_12 (by decide) (fun c_12 => ?_) (fun c_12 => ?_)
  · have hg := hg.1 c_12
    refine lv_iconst (v := (0 : Int32)) hx hb dX8_rests_17 (by decide) ?_
    refine lv_istore_n (lv' := [(2, .int (0 : Int32)), (0, .ref h), (1, .int p1)]) hx hb dX8_rests_18 rfl hl (by decide) rfl (fun ls hl => ?_)
    refine lv_aload_n hx hb dX8_rests_19 rfl (lv_at hl 1 rfl) ?_
    refine lv_iconst (v := (0 : Int32)) hx hb dX8_rests_20 (by decide) ?_
    refine pf_X8_86 C0 hP hD hS 0 rfl (Nat.le_of_ble_eq_true rfl) (ws2 := [(h, oX8 w_now (.int x_arches) (.int x_cats) w_text (.int x_typed) (.ref q_row) (.int (0 : Int32)) (.int (0 : Int32)) w_read (.int x_length) (.int x_top) (.int x_at) (.int x_wrong) w_told w_rule w_otherRule (.int x_ruleSize) (.int x_isAsked) w_asked w_undos (.int x_undoMany) w_aside w_then w_hold (.int x_dropped) w_acts w_guarded w_train (.int x_trolleyEnd) w_feltOf w_feltBy (.int x_feltMany) w_many w_heardOf w_heardBy (.int x_heardMany) w_worth (.int x_drawn) (.int x_came) w_kept w_isKept w_keptCame), (q_row, aJ cT 16 f_row)]) rfl dX8_rests_21 (fun H locs hP hD hS => ?_)
    refine lv_iconst (v := (0 : Int32)) hx hb dX8_rests_24 (by decide) ?_
    refine lv_istore_n (lv' := [(3, .int (0 : Int32)), (2, .int (0 : Int32)), (0, .ref h), (1, .int p1)]) hx hb dX8_rests_25 rfl hl (by decide) rfl (fun ls hl => ?_)
    exact L26 F (0 : Int32) (0 : Int32) (0 : Int32) f_row _ _ _ hg hP hD hS (lv_sub hl [2, 3, 1, 0] rfl)
  have hg := hg.2 c_12
  refine lv_iconst (v := (-1 : Int32)) hx hb dX8_rests_15 (by decide) ?_
  exact k_iret C0 hr (x_rowMany, (0 : Int32), f_row) hg hP hD hS dX8_rests_16
theorem dX8_draw_0 : decode cX8_draw 0 = .ok (.aload_n 0, 1) := by decide +kernel
theorem dX8_draw_1 : decode cX8_draw 1 = .ok (.aload_n 0, 1) := by decide +kernel
theorem dX8_draw_2 : decode cX8_draw 2 = .ok (.getfield 383, 3) := by decide +kernel
theorem dX8_draw_5 : decode cX8_draw 5 = .ok (.ldc_w 386, 3) := by decide +kernel
theorem dX8_draw_8 : decode cX8_draw 8 = .ok (.imul, 1) := by decide +kernel
theorem dX8_draw_9 : decode cX8_draw 9 = .ok (.sipush 12345, 3) := by decide +kernel
theorem dX8_draw_12 : decode cX8_draw 12 = .ok (.iadd, 1) := by decide +kernel
theorem dX8_draw_13 : decode cX8_draw 13 = .ok (.putfield 383, 3) := by decide +kernel
theorem dX8_draw_16 : decode cX8_draw 16 = .ok (.aload_n 0, 1) := by decide +kernel
theorem dX8_draw_17 : decode cX8_draw 17 = .ok (.getfield 383, 3) := by decide +kernel
theorem dX8_draw_20 : decode cX8_draw 20 = .ok (.bipush 16, 2) := by decide +kernel
theorem dX8_draw_22 : decode cX8_draw 22 = .ok (.iushr, 1) := by decide +kernel
theorem dX8_draw_23 : decode cX8_draw 23 = .ok (.iload_n 1, 1) := by decide +kernel
theorem dX8_draw_24 : decode cX8_draw 24 = .ok (.irem, 1) := by decide +kernel
theorem dX8_draw_25 : decode cX8_draw 25 = .ok (.ireturn, 1) := by decide +kernel
def p_X8_draw (F : Nat) (p1 : Int32) (x_drawn : Int32) (Post : Int32 → Int32 → Prop) : Prop := (¬ p1 = 0 ∧ (Post (((((x_drawn * (1103515245 : Int32)) + (12345 : Int32)).toUInt32 >>> ((16 : Int32).toUInt32 &&& Int32.toUInt32 31)).toInt32) - ((((x_drawn * (1103515245 : Int32)) + (12345 : Int32)).toUInt32 >>> ((16 : Int32).toUInt32 &&& Int32.toUInt32 31)).toInt32) / p1 * p1) ((x_drawn * (1103515245 : Int32)) + (12345 : Int32))))
set_option maxHeartbeats 4000000 in
set_option maxRecDepth 100000 in
theorem c_X8_draw (l : Launch) (D : va_G) (cT : Nat → ClassId) (F : Nat) (h : Nat) (p1 : Int32) (w_now : Value) (x_arches : Int32) (x_cats : Int32) (w_text : Value) (x_typed : Int32) (w_row : Value) (x_rowMany : Int32) (x_thrown : Int32) (w_read : Value) (x_length : Int32) (x_top : Int32) (x_at : Int32) (x_wrong : Int32) (w_told : Value) (w_rule : Value) (w_otherRule : Value) (x_ruleSize : Int32) (x_isAsked : Int32) (w_asked : Value) (w_undos : Value) (x_undoMany : Int32) (w_aside : Value) (w_then : Value) (w_hold : Value) (x_dropped : Int32) (w_acts : Value) (w_guarded : Value) (w_train : Value) (x_trolleyEnd : Int32) (w_feltOf : Value) (w_feltBy : Value) (x_feltMany : Int32) (w_many : Value) (w_heardOf : Value) (w_heardBy : Value) (x_heardMany : Int32) (w_worth : Value) (x_drawn : Int32) (x_came : Int32) (w_kept : Value) (w_isKept : Value) (w_keptCame : Value) (Post : Int32 → Int32 → Prop) (hg : p_X8_draw F p1 x_drawn Post) : MWi l D cT yX8_draw cX8_draw 2 (some .int) 0 0 0 0 [.ref h, .int p1] [(h, oX8 w_now (.int x_arches) (.int x_cats) w_text (.int x_typed) w_row (.int x_rowMany) (.int x_thrown) w_read (.int x_length) (.int x_top) (.int x_at) (.int x_wrong) w_told w_rule w_otherRule (.int x_ruleSize) (.int x_isAsked) w_asked w_undos (.int x_undoMany) w_aside w_then w_hold (.int x_dropped) w_acts w_guarded w_train (.int x_trolleyEnd) w_feltOf w_feltBy (.int x_feltMany) w_many w_heardOf w_heardBy (.int x_heardMany) w_worth (.int x_drawn) (.int x_came) w_kept w_isKept w_keptCame)] Post (fun (u : Int32) => [(h, oX8 w_now (.int x_arches) (.int x_cats) w_text (.int x_typed) w_row (.int x_rowMany) (.int x_thrown) w_read (.int x_length) (.int x_top) (.int x_at) (.int x_wrong) w_told w_rule w_otherRule (.int x_ruleSize) (.int x_isAsked) w_asked w_undos (.int x_undoMany) w_aside w_then w_hold (.int x_dropped) w_acts w_guarded w_train (.int x_trolleyEnd) w_feltOf w_feltBy (.int x_feltMany) w_many w_heardOf w_heardBy (.int x_heardMany) w_worth (.int u) (.int x_came) w_kept w_isKept w_keptCame)]) := by
  refine MWi.of (by decide) (Nat.le_of_ble_eq_true rfl) ?_
  intro p e s m below meth c A hA C0 hnm hr hP hD ls hl
  have hl : lv_has ls 2 [(0, .ref h), (1, .int p1)] := hl
  have hx := C0.x
  have hb := C0.b
  have hS : va_S A s.heap s.heap [] := va_S.rf
  have hP : va_P D cls9 [(h, oX8 w_now (.int x_arches) (.int x_cats) w_text (.int x_typed) w_row (.int x_rowMany) (.int x_thrown) w_read (.int x_length) (.int x_top) (.int x_at) (.int x_wrong) w_told w_rule w_otherRule (.int x_ruleSize) (.int x_isAsked) w_asked w_undos (.int x_undoMany) w_aside w_then w_hold (.int x_dropped) w_acts w_guarded w_train (.int x_trolleyEnd) w_feltOf w_feltBy (.int x_feltMany) w_many w_heardOf w_heardBy (.int x_heardMany) w_worth (.int x_drawn) (.int x_came) w_kept w_isKept w_keptCame)] s.heap := hP
  have hD : va_D A [(h, oX8 w_now (.int x_arches) (.int x_cats) w_text (.int x_typed) w_row (.int x_rowMany) (.int x_thrown) w_read (.int x_length) (.int x_top) (.int x_at) (.int x_wrong) w_told w_rule w_otherRule (.int x_ruleSize) (.int x_isAsked) w_asked w_undos (.int x_undoMany) w_aside w_then w_hold (.int x_dropped) w_acts w_guarded w_train (.int x_trolleyEnd) w_feltOf w_feltBy (.int x_feltMany) w_many w_heardOf w_heardBy (.int x_heardMany) w_worth (.int x_drawn) (.int x_came) w_kept w_isKept w_keptCame)] := hD
  unfold p_X8_draw at hg
  refine lv_aload_n hx hb dX8_draw_0 rfl (lv_at hl 0 rfl) ?_
  refine lv_aload_n hx hb dX8_draw_1 rfl (lv_at hl 0 rfl) ?_
  refine gf_X8_383 C0 hP 0 rfl rfl dX8_draw_2 ?_
  refine lv_ldcw (v := (1103515245 : Int32)) hx hb C0.ow (C0.t w7_29) dX8_draw_5 ?_
  refine lv_imul hx hb dX8_draw_8 ?_
  refine lv_sipush (v := (12345 : Int32)) hx hb dX8_draw_9 (by decide) ?_
  refine lv_iadd hx hb dX8_draw_12 ?_
  refine pf_X8_383 C0 hP hD hS 0 rfl (Nat.le_of_ble_eq_true rfl) (ws2 := [(h, oX8 w_now (.int x_arches) (.int x_cats) w_text (.int x_typed) w_row (.int x_rowMany) (.int x_thrown) w_read (.int x_length) (.int x_top) (.int x_at) (.int x_wrong) w_told w_rule w_otherRule (.int x_ruleSize) (.int x_isAsked) w_asked w_undos (.int x_undoMany) w_aside w_then w_hold (.int x_dropped) w_acts w_guarded w_train (.int x_trolleyEnd) w_feltOf w_feltBy (.int x_feltMany) w_many w_heardOf w_heardBy (.int x_heardMany) w_worth (.int ((x_drawn * (1103515245 : Int32)) + (12345 : Int32))) (.int x_came) w_kept w_isKept w_keptCame)]) rfl dX8_draw_13 (fun H locs hP hD hS => ?_)
  refine lv_aload_n hx hb dX8_draw_16 rfl (lv_at hl 0 rfl) ?_
  refine gf_X8_383 C0 hP 0 rfl rfl dX8_draw_17 ?_
  refine lv_bipush (v := (16 : Int32)) hx hb dX8_draw_20 (by decide) ?_
  refine lv_iushr (v := (((x_drawn * (1103515245 : Int32)) + (12345 : Int32)).toUInt32 >>> ((16 : Int32).toUInt32 &&& Int32.toUInt32 31)).toInt32) hx hb dX8_draw_22 rfl ?_
  refine lv_iload_n hx hb dX8_draw_23 rfl (lv_at hl 1 rfl) ?_
  obtain ⟨g_24, hg⟩ := hg
  refine lv_irem hx hb dX8_draw_24 g_24 ?_
  exact k_iret C0 hr ((x_drawn * (1103515245 : Int32)) + (12345 : Int32)) hg hP hD hS dX8_draw_25
theorem dX8_keep_0 : decode cX8_keep 0 = .ok (.aload_n 0, 1) := by decide +kernel
theorem dX8_keep_1 : decode cX8_keep 1 = .ok (.iconst 0, 1) := by decide +kernel
theorem dX8_keep_2 : decode cX8_keep 2 = .ok (.putfield 82, 3) := by decide +kernel
theorem dX8_keep_5 : decode cX8_keep 5 = .ok (.iload_n 1, 1) := by decide +kernel
theorem dX8_keep_6 : decode cX8_keep 6 = .ok (.iconst 0, 1) := by decide +kernel
theorem dX8_keep_7 : decode cX8_keep 7 = .ok (.iconst 1, 1) := by decide +kernel
theorem dX8_keep_8 : decode cX8_keep 8 = .ok (.invokestatic 92, 3) := by decide +kernel
theorem dX8_keep_11 : decode cX8_keep 11 = .ok (.ifCond .ne 5, 3) := by decide +kernel
theorem dX8_keep_14 : decode cX8_keep 14 = .ok (.iconst 0, 1) := by decide +kernel
theorem dX8_keep_15 : decode cX8_keep 15 = .ok (.ireturn, 1) := by decide +kernel
theorem dX8_keep_16 : decode cX8_keep 16 = .ok (.aload_n 0, 1) := by decide +kernel
theorem dX8_keep_17 : decode cX8_keep 17 = .ok (.getfield 75, 3) := by decide +kernel
theorem dX8_keep_20 : decode cX8_keep 20 = .ok (.iload_n 1, 1) := by decide +kernel
theorem dX8_keep_21 : decode cX8_keep 21 = .ok (.iconst 1, 1) := by decide +kernel
theorem dX8_keep_22 : decode cX8_keep 22 = .ok (.bastore, 1) := by decide +kernel
theorem dX8_keep_23 : decode cX8_keep 23 = .ok (.aload_n 0, 1) := by decide +kernel
theorem dX8_keep_24 : decode cX8_keep 24 = .ok (.getfield 79, 3) := by decide +kernel
theorem dX8_keep_27 : decode cX8_keep 27 = .ok (.iload_n 1, 1) := by decide +kernel
theorem dX8_keep_28 : decode cX8_keep 28 = .ok (.aload_n 0, 1) := by decide +kernel
theorem dX8_keep_29 : decode cX8_keep 29 = .ok (.getfield 144, 3) := by decide +kernel
theorem dX8_keep_32 : decode cX8_keep 32 = .ok (.iastore, 1) := by decide +kernel
theorem dX8_keep_33 : decode cX8_keep 33 = .ok (.aload_n 0, 1) := by decide +kernel
theorem dX8_keep_34 : decode cX8_keep 34 = .ok (.getfield 9, 3) := by decide +kernel
theorem dX8_keep_37 : decode cX8_keep 37 = .ok (.aload_n 0, 1) := by decide +kernel
theorem dX8_keep_38 : decode cX8_keep 38 = .ok (.getfield 72, 3) := by decide +kernel
theorem dX8_keep_41 : decode cX8_keep 41 = .ok (.bipush 47, 2) := by decide +kernel
theorem dX8_keep_43 : decode cX8_keep 43 = .ok (.iload_n 1, 1) := by decide +kernel
theorem dX8_keep_44 : decode cX8_keep 44 = .ok (.imul, 1) := by decide +kernel
theorem dX8_keep_45 : decode cX8_keep 45 = .ok (.invokestatic 231, 3) := by decide +kernel
theorem dX8_keep_48 : decode cX8_keep 48 = .ok (.iconst 1, 1) := by decide +kernel
theorem dX8_keep_49 : decode cX8_keep 49 = .ok (.ireturn, 1) := by decide +kernel
def p_X8_keep (F : Nat) (p1 : Int32) (x_came : Int32) (f_isKept : Nat → Int32) (f_keptCame : Nat → Int32) (f_now : Nat → Int32) (f_kept : Nat → Int32) (Post : Int32 → (Int32 × (Nat → Int32) × (Nat → Int32) × (Nat → Int32)) → Prop) : Prop := (p_X8_in F p1 (0 : Int32) (1 : Int32) (fun (r_8 : Int32) => ((¬ r_8 = 0 → (vp_in p1 2 ∧ (vp_in p1 2 ∧ (p_X8_lay F ((47 : Int32) * p1) 47 f_now 94 f_kept (fun (u_45 : (Nat → Int32)) => (Post (1 : Int32) ((0 : Int32), (upd f_isKept p1.toNatClampNeg (vp_nar .boolean (1 : Int32))), (upd f_keptCame p1.toNatClampNeg x_came), u_45))))))) ∧ (r_8 = 0 → (Post (0 : Int32) ((0 : Int32), f_isKept, f_keptCame, f_kept))))))
set_option maxHeartbeats 4000000 in
set_option maxRecDepth 100000 in
theorem c_X8_keep (l : Launch) (D : va_G) (cT : Nat → ClassId) (F : Nat) (h : Nat) (p1 : Int32) (q_now : Nat) (x_arches : Int32) (x_cats : Int32) (w_text : Value) (x_typed : Int32) (w_row : Value) (x_rowMany : Int32) (x_thrown : Int32) (w_read : Value) (x_length : Int32) (x_top : Int32) (x_at : Int32) (x_wrong : Int32) (w_told : Value) (w_rule : Value) (w_otherRule : Value) (x_ruleSize : Int32) (x_isAsked : Int32) (w_asked : Value) (w_undos : Value) (x_undoMany : Int32) (w_aside : Value) (w_then : Value) (w_hold : Value) (x_dropped : Int32) (w_acts : Value) (w_guarded : Value) (w_train : Value) (x_trolleyEnd : Int32) (w_feltOf : Value) (w_feltBy : Value) (x_feltMany : Int32) (w_many : Value) (w_heardOf : Value) (w_heardBy : Value) (x_heardMany : Int32) (w_worth : Value) (x_drawn : Int32) (x_came : Int32) (q_kept : Nat) (q_isKept : Nat) (q_keptCame : Nat) (f_isKept : Nat → Int32) (f_keptCame : Nat → Int32) (f_now : Nat → Int32) (f_kept : Nat → Int32) (Post : Int32 → (Int32 × (Nat → Int32) × (Nat → Int32) × (Nat → Int32)) → Prop) (hg : p_X8_keep F p1 x_came f_isKept f_keptCame f_now f_kept Post) : MWi l D cT yX8_keep cX8_keep 2 (some .boolean) 1 23 0 0 [.ref h, .int p1] [(h, oX8 (.ref q_now) (.int x_arches) (.int x_cats) w_text (.int x_typed) w_row (.int x_rowMany) (.int x_thrown) w_read (.int x_length) (.int x_top) (.int x_at) (.int x_wrong) w_told w_rule w_otherRule (.int x_ruleSize) (.int x_isAsked) w_asked w_undos (.int x_undoMany) w_aside w_then w_hold (.int x_dropped) w_acts w_guarded w_train (.int x_trolleyEnd) w_feltOf w_feltBy (.int x_feltMany) w_many w_heardOf w_heardBy (.int x_heardMany) w_worth (.int x_drawn) (.int x_came) (.ref q_kept) (.ref q_isKept) (.ref q_keptCame)), (q_isKept, aZ cT 2 f_isKept), (q_keptCame, aI cT 2 f_keptCame), (q_now, aI cT 47 f_now), (q_kept, aI cT 94 f_kept)] Post (fun (u : (Int32 × (Nat → Int32) × (Nat → Int32) × (Nat → Int32))) => [(h, oX8 (.ref q_now) (.int x_arches) (.int x_cats) w_text (.int x_typed) w_row (.int x_rowMany) (.int u.1) w_read (.int x_length) (.int x_top) (.int x_at) (.int x_wrong) w_told w_rule w_otherRule (.int x_ruleSize) (.int x_isAsked) w_asked w_undos (.int x_undoMany) w_aside w_then w_hold (.int x_dropped) w_acts w_guarded w_train (.int x_trolleyEnd) w_feltOf w_feltBy (.int x_feltMany) w_many w_heardOf w_heardBy (.int x_heardMany) w_worth (.int x_drawn) (.int x_came) (.ref q_kept) (.ref q_isKept) (.ref q_keptCame)), (q_isKept, aZ cT 2 u.2.1), (q_keptCame, aI cT 2 u.2.2.1), (q_now, aI cT 47 f_now), (q_kept, aI cT 94 u.2.2.2)]) := by
  refine MWi.of (by decide) (Nat.le_of_ble_eq_true rfl) ?_
  intro p e s m below meth c A hA C0 hnm hr hP hD ls hl
  have hl : lv_has ls 2 [(0, .ref h), (1, .int p1)] := hl
  have hx := C0.x
  have hb := C0.b
  have hS : va_S A s.heap s.heap [] := va_S.rf
  have hP : va_P D cls9 [(h, oX8 (.ref q_now) (.int x_arches) (.int x_cats) w_text (.int x_typed) w_row (.int x_rowMany) (.int x_thrown) w_read (.int x_length) (.int x_top) (.int x_at) (.int x_wrong) w_told w_rule w_otherRule (.int x_ruleSize) (.int x_isAsked) w_asked w_undos (.int x_undoMany) w_aside w_then w_hold (.int x_dropped) w_acts w_guarded w_train (.int x_trolleyEnd) w_feltOf w_feltBy (.int x_feltMany) w_many w_heardOf w_heardBy (.int x_heardMany) w_worth (.int x_drawn) (.int x_came) (.ref q_kept) (.ref q_isKept) (.ref q_keptCame)), (q_isKept, aZ cT 2 f_isKept), (q_keptCame, aI cT 2 f_keptCame), (q_now, aI cT 47 f_now), (q_kept, aI cT 94 f_kept)] s.heap := hP
  have hD : va_D A [(h, oX8 (.ref q_now) (.int x_arches) (.int x_cats) w_text (.int x_typed) w_row (.int x_rowMany) (.int x_thrown) w_read (.int x_length) (.int x_top) (.int x_at) (.int x_wrong) w_told w_rule w_otherRule (.int x_ruleSize) (.int x_isAsked) w_asked w_undos (.int x_undoMany) w_aside w_then w_hold (.int x_dropped) w_acts w_guarded w_train (.int x_trolleyEnd) w_feltOf w_feltBy (.int x_feltMany) w_many w_heardOf w_heardBy (.int x_heardMany) w_worth (.int x_drawn) (.int x_came) (.ref q_kept) (.ref q_isKept) (.ref q_keptCame)), (q_isKept, aZ cT 2 f_isKept), (q_keptCame, aI cT 2 f_keptCame), (q_now, aI cT 47 f_now), (q_kept, aI cT 94 f_kept)] := hD
  unfold p_X8_keep at hg
  refine lv_aload_n hx hb dX8_keep_0 rfl (lv_at hl 0 rfl) ?_
  refine lv_iconst (v := (0 : Int32)) hx hb dX8_keep_1 (by decide) ?_
  refine pf_X8_82 C0 hP hD hS 0 rfl (Nat.le_of_ble_eq_true rfl) (ws2 := [(h, oX8 (.ref q_now) (.int x_arches) (.int x_cats) w_text (.int x_typed) w_row (.int x_rowMany) (.int (0 : Int32)) w_read (.int x_length) (.int x_top) (.int x_at) (.int x_wrong) w_told w_rule w_otherRule (.int x_ruleSize) (.int x_isAsked) w_asked w_undos (.int x_undoMany) w_aside w_then w_hold (.int x_dropped) w_acts w_guarded w_train (.int x_trolleyEnd) w_feltOf w_feltBy (.int x_feltMany) w_many w_heardOf w_heardBy (.int x_heardMany) w_worth (.int x_drawn) (.int x_came) (.ref q_kept) (.ref q_isKept) (.ref q_keptCame)), (q_isKept, aZ cT 2 f_isKept), (q_keptCame, aI cT 2 f_keptCame), (q_now, aI cT 47 f_now), (q_kept, aI cT 94 f_kept)]) rfl dX8_keep_2 (fun H locs hP hD hS => ?_)
  refine lv_iload_n hx hb dX8_keep_5 rfl (lv_at hl 1 rfl) ?_
  refine lv_iconst (v := (0 : Int32)) hx hb dX8_keep_6 (by decide) ?_
  refine lv_iconst (v := (1 : Int32)) hx hb dX8_keep_7 (by decide) ?_
  refine k_Sxi (rest := []) C0 lk_X8_92 (c_X8_in l D cT F p1 (0 : Int32) (1 : Int32) _ hg) hP hD [] (by decide +kernel) rfl ⟨Nat.le_of_ble_eq_true rfl, Nat.le_of_ble_eq_true rfl⟩ rfl hl.1 rfl (Nat.le_of_ble_eq_true rfl) dX8_keep_8 ⟨Nat.le_of_ble_eq_true rfl, Nat.le_of_ble_eq_true rfl⟩ (fun r_8 hg => ?_)
  refine lv_if_ne (tgt := 16) hx hb dX8_keep_11 (by decide) (fun c_11 => ?_) (fun c_11 => ?_)
  · have hg := hg.1 c_11
    refine lv_aload_n hx hb dX8_keep_16 rfl (lv_at hl 0 rfl) ?_
    refine gf_X8_75 C0 hP 0 rfl rfl dX8_keep_17 ?_
    refine lv_iload_n hx hb dX8_keep_20 rfl (lv_at hl 1 rfl) ?_
    refine lv_iconst (v := (1 : Int32)) hx hb dX8_keep_21 (by decide) ?_
    obtain ⟨g_22, hg⟩ := hg
    refine k_zast C0 hP hD hS 1 rfl g_22 (ws' := [(h, oX8 (.ref q_now) (.int x_arches) (.int x_cats) w_text (.int x_typed) w_row (.int x_rowMany) (.int (0 : Int32)) w_read (.int x_length) (.int x_top) (.int x_at) (.int x_wrong) w_told w_rule w_otherRule (.int x_ruleSize) (.int x_isAsked) w_asked w_undos (.int x_undoMany) w_aside w_then w_hold (.int x_dropped) w_acts w_guarded w_train (.int x_trolleyEnd) w_feltOf w_feltBy (.int x_feltMany) w_many w_heardOf w_heardBy (.int x_heardMany) w_worth (.int x_drawn) (.int x_came) (.ref q_kept) (.ref q_isKept) (.ref q_keptCame)), (q_isKept, aZ cT 2 (upd f_isKept p1.toNatClampNeg (vp_nar .boolean (1 : Int32)))), (q_keptCame, aI cT 2 f_keptCame), (q_now, aI cT 47 f_now), (q_kept, aI cT 94 f_kept)]) rfl dX8_keep_22 (fun H locs hP hD hS => ?_)
    refine lv_aload_n hx hb dX8_keep_23 rfl (lv_at hl 0 rfl) ?_
    refine gf_X8_79 C0 hP 0 rfl rfl dX8_keep_24 ?_
    refine lv_iload_n hx hb dX8_keep_27 rfl (lv_at hl 1 rfl) ?_
    refine lv_aload_n hx hb dX8_keep_28 rfl (lv_at hl 0 rfl) ?_
    refine gf_X8_144 C0 hP 0 rfl rfl dX8_keep_29 ?_
    obtain ⟨g_32, hg⟩ := hg
    refine k_iast C0 hP hD hS 2 rfl g_32 (ws' := [(h, oX8 (.ref q_now) (.int x_arches) (.int x_cats) w_text (.int x_typed) w_row (.int x_rowMany) (.int (0 : Int32)) w_read (.int x_length) (.int x_top) (.int x_at) (.int x_wrong) w_told w_rule w_otherRule (.int x_ruleSize) (.int x_isAsked) w_asked w_undos (.int x_undoMany) w_aside w_then w_hold (.int x_dropped) w_acts w_guarded w_train (.int x_trolleyEnd) w_feltOf w_feltBy (.int x_feltMany) w_many w_heardOf w_heardBy (.int x_heardMany) w_worth (.int x_drawn) (.int x_came) (.ref q_kept) (.ref q_isKept) (.ref q_keptCame)), (q_isKept, aZ cT 2 (upd f_isKept p1.toNatClampNeg (vp_nar .boolean (1 : Int32)))), (q_keptCame, aI cT 2 (upd f_keptCame p1.toNatClampNeg x_came)), (q_now, aI cT 47 f_now), (q_kept, aI cT 94 f_kept)]) rfl dX8_keep_32 (fun H locs hP hD hS => ?_)
    refine lv_aload_n hx hb dX8_keep_33 rfl (lv_at hl 0 rfl) ?_
    refine gf_X8_9 C0 hP 0 rfl rfl dX8_keep_34 ?_
    refine lv_aload_n hx hb dX8_keep_37 rfl (lv_at hl 0 rfl) ?_
    refine gf_X8_72 C0 hP 0 rfl rfl dX8_keep_38 ?_
    refine lv_bipush (v := (47 : Int32)) hx hb dX8_keep_41 (by decide) ?_
    refine lv_iload_n hx hb dX8_keep_43 rfl (lv_at hl 1 rfl) ?_
    refine lv_imul hx hb dX8_keep_44 ?_
    refine k_Sv (rest := []) (wr := [(h, oX8 (.ref q_now) (.int x_arches) (.int x_cats) w_text (.int x_typed) w_row (.int x_rowMany) (.int (0 : Int32)) w_read (.int x_length) (.int x_top) (.int x_at) (.int x_wrong) w_told w_rule w_otherRule (.int x_ruleSize) (.int x_isAsked) w_asked w_undos (.int x_undoMany) w_aside w_then w_hold (.int x_dropped) w_acts w_guarded w_train (.int x_trolleyEnd) w_feltOf w_feltBy (.int x_feltMany) w_many w_heardOf w_heardBy (.int x_heardMany) w_worth (.int x_drawn) (.int x_came) (.ref q_kept) (.ref q_isKept) (.ref q_keptCame)), (q_isKept, aZ cT 2 (upd f_isKept p1.toNatClampNeg (vp_nar .boolean (1 : Int32)))), (q_keptCame, aI cT 2 (upd f_keptCame p1.toNatClampNeg x_came))]) (w2 := fun u_45 => [(h, oX8 (.ref q_now) (.int x_arches) (.int x_cats) w_text (.int x_typed) w_row (.int x_rowMany) (.int (0 : Int32)) w_read (.int x_length) (.int x_top) (.int x_at) (.int x_wrong) w_told w_rule w_otherRule (.int x_ruleSize) (.int x_isAsked) w_asked w_undos (.int x_undoMany) w_aside w_then w_hold (.int x_dropped) w_acts w_guarded w_train (.int x_trolleyEnd) w_feltOf w_feltBy (.int x_feltMany) w_many w_heardOf w_heardBy (.int x_heardMany) w_worth (.int x_drawn) (.int x_came) (.ref q_kept) (.ref q_isKept) (.ref q_keptCame)), (q_isKept, aZ cT 2 (upd f_isKept p1.toNatClampNeg (vp_nar .boolean (1 : Int32)))), (q_keptCame, aI cT 2 (upd f_keptCame p1.toNatClampNeg x_came)), (q_now, aI cT 47 f_now), (q_kept, aI cT 94 u_45)]) C0 lk_X8_231 (c_X8_lay l D cT F q_now q_kept ((47 : Int32) * p1) 47 f_now 94 f_kept _ hg) hP hD hS hA [3, 4] [0, 1, 2] (by decide +kernel) rfl rfl (fun _ => rfl) ⟨Nat.le_of_ble_eq_true rfl, Nat.le_of_ble_eq_true rfl⟩ rfl hl.1 rfl (Nat.le_of_ble_eq_true rfl) dX8_keep_45 ⟨Nat.le_of_ble_eq_true rfl, Nat.le_of_ble_eq_true rfl⟩ ?_
    intro u_45 H locs hg hP hD hS
    refine lv_iconst (v := (1 : Int32)) hx hb dX8_keep_48 (by decide) ?_
    exact k_zret C0 hr (Or.inr rfl) ((0 : Int32), (upd f_isKept p1.toNatClampNeg (vp_nar .boolean (1 : Int32))), (upd f_keptCame p1.toNatClampNeg x_came), u_45) hg hP hD hS dX8_keep_49
  have hg := hg.2 c_11
  refine lv_iconst (v := (0 : Int32)) hx hb dX8_keep_14 (by decide) ?_
  exact k_zret C0 hr (Or.inl rfl) ((0 : Int32), f_isKept, f_keptCame, f_kept) hg hP hD hS dX8_keep_15
theorem dX8_again_0 : decode cX8_again 0 = .ok (.aload_n 0, 1) := by decide +kernel
theorem dX8_again_1 : decode cX8_again 1 = .ok (.iconst 0, 1) := by decide +kernel
theorem dX8_again_2 : decode cX8_again 2 = .ok (.putfield 82, 3) := by decide +kernel
theorem dX8_again_5 : decode cX8_again 5 = .ok (.iload_n 1, 1) := by decide +kernel
theorem dX8_again_6 : decode cX8_again 6 = .ok (.iconst 0, 1) := by decide +kernel
theorem dX8_again_7 : decode cX8_again 7 = .ok (.iconst 1, 1) := by decide +kernel
theorem dX8_again_8 : decode cX8_again 8 = .ok (.invokestatic 92, 3) := by decide +kernel
theorem dX8_again_11 : decode cX8_again 11 = .ok (.ifCond .eq 25, 3) := by decide +kernel
theorem dX8_again_14 : decode cX8_again 14 = .ok (.aload_n 0, 1) := by decide +kernel
theorem dX8_again_15 : decode cX8_again 15 = .ok (.getfield 75, 3) := by decide +kernel
theorem dX8_again_18 : decode cX8_again 18 = .ok (.iload_n 1, 1) := by decide +kernel
theorem dX8_again_19 : decode cX8_again 19 = .ok (.baload, 1) := by decide +kernel
theorem dX8_again_20 : decode cX8_again 20 = .ok (.ifCond .eq 16, 3) := by decide +kernel
theorem dX8_again_23 : decode cX8_again 23 = .ok (.aload_n 0, 1) := by decide +kernel
theorem dX8_again_24 : decode cX8_again 24 = .ok (.getfield 79, 3) := by decide +kernel
theorem dX8_again_27 : decode cX8_again 27 = .ok (.iload_n 1, 1) := by decide +kernel
theorem dX8_again_28 : decode cX8_again 28 = .ok (.iaload, 1) := by decide +kernel
theorem dX8_again_29 : decode cX8_again 29 = .ok (.aload_n 0, 1) := by decide +kernel
theorem dX8_again_30 : decode cX8_again 30 = .ok (.getfield 144, 3) := by decide +kernel
theorem dX8_again_33 : decode cX8_again 33 = .ok (.if_icmp .eq 5, 3) := by decide +kernel
theorem dX8_again_36 : decode cX8_again 36 = .ok (.iconst 0, 1) := by decide +kernel
theorem dX8_again_37 : decode cX8_again 37 = .ok (.ireturn, 1) := by decide +kernel
theorem dX8_again_38 : decode cX8_again 38 = .ok (.iconst 0, 1) := by decide +kernel
theorem dX8_again_39 : decode cX8_again 39 = .ok (.istore_n 2, 1) := by decide +kernel
theorem dX8_again_40 : decode cX8_again 40 = .ok (.iload_n 2, 1) := by decide +kernel
theorem dX8_again_41 : decode cX8_again 41 = .ok (.bipush 47, 2) := by decide +kernel
theorem dX8_again_43 : decode cX8_again 43 = .ok (.if_icmp .ge 26, 3) := by decide +kernel
theorem dX8_again_46 : decode cX8_again 46 = .ok (.aload_n 0, 1) := by decide +kernel
theorem dX8_again_47 : decode cX8_again 47 = .ok (.getfield 9, 3) := by decide +kernel
theorem dX8_again_50 : decode cX8_again 50 = .ok (.iload_n 2, 1) := by decide +kernel
theorem dX8_again_51 : decode cX8_again 51 = .ok (.aload_n 0, 1) := by decide +kernel
theorem dX8_again_52 : decode cX8_again 52 = .ok (.getfield 72, 3) := by decide +kernel
theorem dX8_again_55 : decode cX8_again 55 = .ok (.bipush 47, 2) := by decide +kernel
theorem dX8_again_57 : decode cX8_again 57 = .ok (.iload_n 1, 1) := by decide +kernel
theorem dX8_again_58 : decode cX8_again 58 = .ok (.imul, 1) := by decide +kernel
theorem dX8_again_59 : decode cX8_again 59 = .ok (.iload_n 2, 1) := by decide +kernel
theorem dX8_again_60 : decode cX8_again 60 = .ok (.iadd, 1) := by decide +kernel
theorem dX8_again_61 : decode cX8_again 61 = .ok (.iaload, 1) := by decide +kernel
theorem dX8_again_62 : decode cX8_again 62 = .ok (.iastore, 1) := by decide +kernel
theorem dX8_again_63 : decode cX8_again 63 = .ok (.iinc 2 1, 3) := by decide +kernel
theorem dX8_again_66 : decode cX8_again 66 = .ok (.goto (-26), 3) := by decide +kernel
theorem dX8_again_69 : decode cX8_again 69 = .ok (.aload_n 0, 1) := by decide +kernel
theorem dX8_again_70 : decode cX8_again 70 = .ok (.iconst 0, 1) := by decide +kernel
theorem dX8_again_71 : decode cX8_again 71 = .ok (.putfield 141, 3) := by decide +kernel
theorem dX8_again_74 : decode cX8_again 74 = .ok (.iconst 1, 1) := by decide +kernel
theorem dX8_again_75 : decode cX8_again 75 = .ok (.ireturn, 1) := by decide +kernel
noncomputable def p_X8_again_40 (F : Nat) (p1 : Int32) (f_kept : Nat → Int32) (Post : Int32 → (Int32 × Int32 × (Nat → Int32)) → Prop) (n : Nat) : Int32 → (Nat → Int32) → Prop := Nat.rec (motive := fun _ => Int32 → (Nat → Int32) → Prop) (fun _ _ => False) (fun _ k40 => fun (y2_40 : Int32) (f_now_40 : Nat → Int32) => (((47 : Int32) ≤ y2_40 → (Post (1 : Int32) ((0 : Int32), (0 : Int32), f_now_40))) ∧ (¬ (47 : Int32) ≤ y2_40 → (vp_in (((47 : Int32) * p1) + y2_40) 94 ∧ (vp_in y2_40 47 ∧ (k40 (y2_40 + (1 : Int32)) (upd f_now_40 y2_40.toNatClampNeg (f_kept (((47 : Int32) * p1) + y2_40).toNatClampNeg)))))))) n
theorem p_X8_again_40_s (F : Nat) (p1 : Int32) (f_kept : Nat → Int32) (Post : Int32 → (Int32 × Int32 × (Nat → Int32)) → Prop) (n : Nat) (y2_40 : Int32) (f_now_40 : Nat → Int32) : p_X8_again_40 F p1 f_kept Post (n + 1) y2_40 f_now_40 = (((47 : Int32) ≤ y2_40 → (Post (1 : Int32) ((0 : Int32), (0 : Int32), f_now_40))) ∧ (¬ (47 : Int32) ≤ y2_40 → (vp_in (((47 : Int32) * p1) + y2_40) 94 ∧ (vp_in y2_40 47 ∧ ((p_X8_again_40 F p1 f_kept Post n) (y2_40 + (1 : Int32)) (upd f_now_40 y2_40.toNatClampNeg (f_kept (((47 : Int32) * p1) + y2_40).toNatClampNeg))))))) := rfl
def p_X8_again (F : Nat) (p1 : Int32) (x_undoMany : Int32) (x_came : Int32) (f_isKept : Nat → Int32) (f_keptCame : Nat → Int32) (f_kept : Nat → Int32) (f_now : Nat → Int32) (Post : Int32 → (Int32 × Int32 × (Nat → Int32)) → Prop) : Prop := (p_X8_in F p1 (0 : Int32) (1 : Int32) (fun (r_8 : Int32) => ((r_8 = 0 → (Post (0 : Int32) ((0 : Int32), x_undoMany, f_now))) ∧ (¬ r_8 = 0 → (vp_in p1 2 ∧ (((f_isKept p1.toNatClampNeg) = 0 → (Post (0 : Int32) ((0 : Int32), x_undoMany, f_now))) ∧ (¬ (f_isKept p1.toNatClampNeg) = 0 → (vp_in p1 2 ∧ (((f_keptCame p1.toNatClampNeg) = x_came → (p_X8_again_40 F p1 f_kept Post F (0 : Int32) f_now)) ∧ (¬ (f_keptCame p1.toNatClampNeg) = x_came → (Post (0 : Int32) ((0 : Int32), x_undoMany, f_now))))))))))))
set_option maxHeartbeats 4000000 in
set_option maxRecDepth 100000 in
theorem c_X8_again (l : Launch) (D : va_G) (cT : Nat → ClassId) (F : Nat) (h : Nat) (p1 : Int32) (q_now : Nat) (x_arches : Int32) (x_cats : Int32) (w_text : Value) (x_typed : Int32) (w_row : Value) (x_rowMany : Int32) (x_thrown : Int32) (w_read : Value) (x_length : Int32) (x_top : Int32) (x_at : Int32) (x_wrong : Int32) (w_told : Value) (w_rule : Value) (w_otherRule : Value) (x_ruleSize : Int32) (x_isAsked : Int32) (w_asked : Value) (w_undos : Value) (x_undoMany : Int32) (w_aside : Value) (w_then : Value) (w_hold : Value) (x_dropped : Int32) (w_acts : Value) (w_guarded : Value) (w_train : Value) (x_trolleyEnd : Int32) (w_feltOf : Value) (w_feltBy : Value) (x_feltMany : Int32) (w_many : Value) (w_heardOf : Value) (w_heardBy : Value) (x_heardMany : Int32) (w_worth : Value) (x_drawn : Int32) (x_came : Int32) (q_kept : Nat) (q_isKept : Nat) (q_keptCame : Nat) (f_isKept : Nat → Int32) (f_keptCame : Nat → Int32) (f_kept : Nat → Int32) (f_now : Nat → Int32) (Post : Int32 → (Int32 × Int32 × (Nat → Int32)) → Prop) (hg : p_X8_again F p1 x_undoMany x_came f_isKept f_keptCame f_kept f_now Post) : MWi l D cT yX8_again cX8_again 3 (some .boolean) 1 22 0 0 [.ref h, .int p1] [(h, oX8 (.ref q_now) (.int x_arches) (.int x_cats) w_text (.int x_typed) w_row (.int x_rowMany) (.int x_thrown) w_read (.int x_length) (.int x_top) (.int x_at) (.int x_wrong) w_told w_rule w_otherRule (.int x_ruleSize) (.int x_isAsked) w_asked w_undos (.int x_undoMany) w_aside w_then w_hold (.int x_dropped) w_acts w_guarded w_train (.int x_trolleyEnd) w_feltOf w_feltBy (.int x_feltMany) w_many w_heardOf w_heardBy (.int x_heardMany) w_worth (.int x_drawn) (.int x_came) (.ref q_kept) (.ref q_isKept) (.ref q_keptCame)), (q_isKept, aZ cT 2 f_isKept), (q_keptCame, aI cT 2 f_keptCame), (q_kept, aI cT 94 f_kept), (q_now, aI cT 47 f_now)] Post (fun (u : (Int32 × Int32 × (Nat → Int32))) => [(h, oX8 (.ref q_now) (.int x_arches) (.int x_cats) w_text (.int x_typed) w_row (.int x_rowMany) (.int u.1) w_read (.int x_length) (.int x_top) (.int x_at) (.int x_wrong) w_told w_rule w_otherRule (.int x_ruleSize) (.int x_isAsked) w_asked w_undos (.int u.2.1) w_aside w_then w_hold (.int x_dropped) w_acts w_guarded w_train (.int x_trolleyEnd) w_feltOf w_feltBy (.int x_feltMany) w_many w_heardOf w_heardBy (.int x_heardMany) w_worth (.int x_drawn) (.int x_came) (.ref q_kept) (.ref q_isKept) (.ref q_keptCame)), (q_isKept, aZ cT 2 f_isKept), (q_keptCame, aI cT 2 f_keptCame), (q_kept, aI cT 94 f_kept), (q_now, aI cT 47 u.2.2)]) := by
  refine MWi.of (by decide) (Nat.le_of_ble_eq_true rfl) ?_
  intro p e s m below meth c A hA C0 hnm hr hP hD ls hl
  have hl : lv_has ls 3 [(0, .ref h), (1, .int p1)] := hl
  have hx := C0.x
  have hb := C0.b
  have hS : va_S A s.heap s.heap [] := va_S.rf
  have hP : va_P D cls9 [(h, oX8 (.ref q_now) (.int x_arches) (.int x_cats) w_text (.int x_typed) w_row (.int x_rowMany) (.int x_thrown) w_read (.int x_length) (.int x_top) (.int x_at) (.int x_wrong) w_told w_rule w_otherRule (.int x_ruleSize) (.int x_isAsked) w_asked w_undos (.int x_undoMany) w_aside w_then w_hold (.int x_dropped) w_acts w_guarded w_train (.int x_trolleyEnd) w_feltOf w_feltBy (.int x_feltMany) w_many w_heardOf w_heardBy (.int x_heardMany) w_worth (.int x_drawn) (.int x_came) (.ref q_kept) (.ref q_isKept) (.ref q_keptCame)), (q_isKept, aZ cT 2 f_isKept), (q_keptCame, aI cT 2 f_keptCame), (q_kept, aI cT 94 f_kept), (q_now, aI cT 47 f_now)] s.heap := hP
  have hD : va_D A [(h, oX8 (.ref q_now) (.int x_arches) (.int x_cats) w_text (.int x_typed) w_row (.int x_rowMany) (.int x_thrown) w_read (.int x_length) (.int x_top) (.int x_at) (.int x_wrong) w_told w_rule w_otherRule (.int x_ruleSize) (.int x_isAsked) w_asked w_undos (.int x_undoMany) w_aside w_then w_hold (.int x_dropped) w_acts w_guarded w_train (.int x_trolleyEnd) w_feltOf w_feltBy (.int x_feltMany) w_many w_heardOf w_heardBy (.int x_heardMany) w_worth (.int x_drawn) (.int x_came) (.ref q_kept) (.ref q_isKept) (.ref q_keptCame)), (q_isKept, aZ cT 2 f_isKept), (q_keptCame, aI cT 2 f_keptCame), (q_kept, aI cT 94 f_kept), (q_now, aI cT 47 f_now)] := hD
  have L40 : ∀ (n40 : Nat) (y2_40 : Int32) (f_now_40 : Nat → Int32) (H : Heap) (locs : List Loc) (ls : Array Slot), p_X8_again_40 F p1 f_kept Post n40 y2_40 f_now_40 → va_P D cls9 [(h, oX8 (.ref q_now) (.int x_arches) (.int x_cats) w_text (.int x_typed) w_row (.int x_rowMany) (.int (0 : Int32)) w_read (.int x_length) (.int x_top) (.int x_at) (.int x_wrong) w_told w_rule w_otherRule (.int x_ruleSize) (.int x_isAsked) w_asked w_undos (.int x_undoMany) w_aside w_then w_hold (.int x_dropped) w_acts w_guarded w_train (.int x_trolleyEnd) w_feltOf w_feltBy (.int x_feltMany) w_many w_heardOf w_heardBy (.int x_heardMany) w_worth (.int x_drawn) (.int x_came) (.ref q_kept) (.ref q_isKept) (.ref q_keptCame)), (q_isKept, aZ cT 2 f_isKept), (q_keptCame, aI cT 2 f_keptCame), (q_kept, aI cT 94 f_kept), (q_now, aI cT 47 f_now_40)] H → va_D A [(h, oX8 (.ref q_now) (.int x_arches) (.int x_cats) w_text (.int x_typed) w_row (.int x_rowMany) (.int (0 : Int32)) w_read (.int x_length) (.int x_top) (.int x_at) (.int x_wrong) w_told w_rule w_otherRule (.int x_ruleSize) (.int x_isAsked) w_asked w_undos (.int x_undoMany) w_aside w_then w_hold (.int x_dropped) w_acts w_guarded w_train (.int x_trolleyEnd) w_feltOf w_feltBy (.int x_feltMany) w_many w_heardOf w_heardBy (.int x_heardMany) w_worth (.int x_drawn) (.int x_came) (.ref q_kept) (.ref q_isKept) (.ref q_keptCame)), (q_isKept, aZ cT 2 f_isKept), (q_keptCame, aI cT 2 f_keptCame), (q_kept, aI cT 94 f_kept), (q_now, aI cT 47 f_now_40)] → va_S A s.heap H locs → lv_has ls 3 [(0, .ref h), (1, .int p1), (2, .int y2_40)] → W p l e (rmO 1 22 0 0) s m ([.ref h, .int p1] : List Value).toArray below meth c H locs 0 0 (MQ below (va_Qi Post (cB D A (fun (u : (Int32 × Int32 × (Nat → Int32))) => [(h, oX8 (.ref q_now) (.int x_arches) (.int x_cats) w_text (.int x_typed) w_row (.int x_rowMany) (.int u.1) w_read (.int x_length) (.int x_top) (.int x_at) (.int x_wrong) w_told w_rule w_otherRule (.int x_ruleSize) (.int x_isAsked) w_asked w_undos (.int u.2.1) w_aside w_then w_hold (.int x_dropped) w_acts w_guarded w_train (.int x_trolleyEnd) w_feltOf w_feltBy (.int x_feltMany) w_many w_heardOf w_heardBy (.int x_heardMany) w_worth (.int x_drawn) (.int x_came) (.ref q_kept) (.ref q_isKept) (.ref q_keptCame)), (q_isKept, aZ cT 2 f_isKept), (q_keptCame, aI cT 2 f_keptCame), (q_kept, aI cT 94 f_kept), (q_now, aI cT 47 u.2.2)])) A) ([.ref h, .int p1] : List Value).toArray s 0 0 A) (F0 m 40 ls []) := by
    intro n40
    induction n40 with
    | zero =>
      intro y2_40 f_now_40 H locs ls hg hP hD hS hl
      exact False.elim hg
    | succ n40 ih40 =>
      intro y2_40 f_now_40 H locs ls hg hP hD hS hl
      rw [p_X8_again_40_s] at hg
      refine lv_iload_n hx hb dX8_again_40 rfl (lv_at hl 2 rfl) ?_
      refine lv_bipush (v := (47 : Int32)) hx hb dX8_again_41 (by decide) ?_
      refine lv_icmp_ge (tgt := 69) hx hb dX8_again_43 (by decide) (fun c_43 => ?_) (fun c_43 => ?_)
      · have hg := hg.1 c_43
        refine lv_aload_n hx hb dX8_again_69 rfl (lv_at hl 0 rfl) ?_
        refine lv_iconst (v := (0 : Int32)) hx hb dX8_again_70 (by decide) ?_
        refine pf_X8_141 C0 hP hD hS 0 rfl (Nat.le_of_ble_eq_true rfl) (ws2 := [(h, oX8 (.ref q_now) (.int x_arches) (.int x_cats) w_text (.int x_typed) w_row (.int x_rowMany) (.int (0 : Int32)) w_read (.int x_length) (.int x_top) (.int x_at) (.int x_wrong) w_told w_rule w_otherRule (.int x_ruleSize) (.int x_isAsked) w_asked w_undos (.int (0 : Int32)) w_aside w_then w_hold (.int x_dropped) w_acts w_guarded w_train (.int x_trolleyEnd) w_feltOf w_feltBy (.int x_feltMany) w_many w_heardOf w_heardBy (.int x_heardMany) w_worth (.int x_drawn) (.int x_came) (.ref q_kept) (.ref q_isKept) (.ref q_keptCame)), (q_isKept, aZ cT 2 f_isKept), (q_keptCame, aI cT 2 f_keptCame), (q_kept, aI cT 94 f_kept), (q_now, aI cT 47 f_now_40)]) rfl dX8_again_71 (fun H locs hP hD hS => ?_)
        refine lv_iconst (v := (1 : Int32)) hx hb dX8_again_74 (by decide) ?_
        exact k_zret C0 hr (Or.inr rfl) ((0 : Int32), (0 : Int32), f_now_40) hg hP hD hS dX8_again_75
      have hg := hg.2 c_43
      refine lv_aload_n hx hb dX8_again_46 rfl (lv_at hl 0 rfl) ?_
      refine gf_X8_9 C0 hP 0 rfl rfl dX8_again_47 ?_
      refine lv_iload_n hx hb dX8_again_50 rfl (lv_at hl 2 rfl) ?_
      refine lv_aload_n hx hb dX8_again_51 rfl (lv_at hl 0 rfl) ?_
      refine gf_X8_72 C0 hP 0 rfl rfl dX8_again_52 ?_
      refine lv_bipush (v := (47 : Int32)) hx hb dX8_again_55 (by decide) ?_
      refine lv_iload_n hx hb dX8_again_57 rfl (lv_at hl 1 rfl) ?_
      refine lv_imul hx hb dX8_again_58 ?_
      refine lv_iload_n hx hb dX8_again_59 rfl (lv_at hl 2 rfl) ?_
      refine lv_iadd hx hb dX8_again_60 ?_
      obtain ⟨g_61, hg⟩ := hg
      refine k_iald C0 hP 3 rfl g_61 dX8_again_61 ?_
      obtain ⟨g_62, hg⟩ := hg
      refine k_iast C0 hP hD hS 4 rfl g_62 (ws' := [(h, oX8 (.ref q_now) (.int x_arches) (.int x_cats) w_text (.int x_typed) w_row (.int x_rowMany) (.int (0 : Int32)) w_read (.int x_length) (.int x_top) (.int x_at) (.int x_wrong) w_told w_rule w_otherRule (.int x_ruleSize) (.int x_isAsked) w_asked w_undos (.int x_undoMany) w_aside w_then w_hold (.int x_dropped) w_acts w_guarded w_train (.int x_trolleyEnd) w_feltOf w_feltBy (.int x_feltMany) w_many w_heardOf w_heardBy (.int x_heardMany) w_worth (.int x_drawn) (.int x_came) (.ref q_kept) (.ref q_isKept) (.ref q_keptCame)), (q_isKept, aZ cT 2 f_isKept), (q_keptCame, aI cT 2 f_keptCame), (q_kept, aI cT 94 f_kept), (q_now, aI cT 47 (upd f_now_40 y2_40.toNatClampNeg (f_kept (((47 : Int32) * p1) + y2_40).toNatClampNeg)))]) rfl dX8_again_62 (fun H locs hP hD hS => ?_)
      refine lv_iinc (v := (y2_40 + (1 : Int32))) (lv' := [(2, .int (y2_40 + (1 : Int32))), (0, .ref h), (1, .int p1)]) hx hb dX8_again_63 hl (k := 2) rfl rfl (by decide) rfl (fun ls hl => ?_)
      refine lv_goto (tgt := 40) hx hb dX8_again_66 (by decide) ?_
      exact ih40 (y2_40 + (1 : Int32)) (upd f_now_40 y2_40.toNatClampNeg (f_kept (((47 : Int32) * p1) + y2_40).toNatClampNeg)) _ _ _ hg hP hD hS (lv_sub hl [1, 2, 0] rfl)
  unfold p_X8_again at hg
  refine lv_aload_n hx hb dX8_again_0 rfl (lv_at hl 0 rfl) ?_
  refine lv_iconst (v := (0 : Int32)) hx hb dX8_again_1 (by decide) ?_
  refine pf_X8_82 C0 hP hD hS 0 rfl (Nat.le_of_ble_eq_true rfl) (ws2 := [(h, oX8 (.ref q_now) (.int x_arches) (.int x_cats) w_text (.int x_typed) w_row (.int x_rowMany) (.int (0 : Int32)) w_read (.int x_length) (.int x_top) (.int x_at) (.int x_wrong) w_told w_rule w_otherRule (.int x_ruleSize) (.int x_isAsked) w_asked w_undos (.int x_undoMany) w_aside w_then w_hold (.int x_dropped) w_acts w_guarded w_train (.int x_trolleyEnd) w_feltOf w_feltBy (.int x_feltMany) w_many w_heardOf w_heardBy (.int x_heardMany) w_worth (.int x_drawn) (.int x_came) (.ref q_kept) (.ref q_isKept) (.ref q_keptCame)), (q_isKept, aZ cT 2 f_isKept), (q_keptCame, aI cT 2 f_keptCame), (q_kept, aI cT 94 f_kept), (q_now, aI cT 47 f_now)]) rfl dX8_again_2 (fun H locs hP hD hS => ?_)
  refine lv_iload_n hx hb dX8_again_5 rfl (lv_at hl 1 rfl) ?_
  refine lv_iconst (v := (0 : Int32)) hx hb dX8_again_6 (by decide) ?_
  refine lv_iconst (v := (1 : Int32)) hx hb dX8_again_7 (by decide) ?_
  refine k_Sxi (rest := []) C0 lk_X8_92 (c_X8_in l D cT F p1 (0 : Int32) (1 : Int32) _ hg) hP hD [] (by decide +kernel) rfl ⟨Nat.le_of_ble_eq_true rfl, Nat.le_of_ble_eq_true rfl⟩ rfl hl.1 rfl (Nat.le_of_ble_eq_true rfl) dX8_again_8 ⟨Nat.le_of_ble_eq_true rfl, Nat.le_of_ble_eq_true rfl⟩ (fun r_8 hg => ?_)
  refine lv_if_eq (tgt := 36) hx hb dX8_again_11 (by decide) (fun c_11 => ?_) (fun c_11 => ?_)
  · have hg := hg.1 c_11
    refine lv_iconst (v := (0 : Int32)) hx hb dX8_again_36 (by decide) ?_
    exact k_zret C0 hr (Or.inl rfl) ((0 : Int32), x_undoMany, f_now) hg hP hD hS dX8_again_37
  have hg := hg.2 c_11
  refine lv_aload_n hx hb dX8_again_14 rfl (lv_at hl 0 rfl) ?_
  refine gf_X8_75 C0 hP 0 rfl rfl dX8_again_15 ?_
  refine lv_iload_n hx hb dX8_again_18 rfl (lv_at hl 1 rfl) ?_
  obtain ⟨g_19, hg⟩ := hg
  refine k_zald C0 hP 1 rfl g_19 dX8_again_19 ?_
  refine lv_if_eq (tgt := 36) hx hb dX8_again_20 (by decide) (fun c_20 => ?_) (fun c_20 => ?_)
  · have hg := hg.1 c_20
    refine lv_iconst (v := (0 : Int32)) hx hb dX8_again_36 (by decide) ?_
    exact k_zret C0 hr (Or.inl rfl) ((0 : Int32), x_undoMany, f_now) hg hP hD hS dX8_again_37
  have hg := hg.2 c_20
  refine lv_aload_n hx hb dX8_again_23 rfl (lv_at hl 0 rfl) ?_
  refine gf_X8_79 C0 hP 0 rfl rfl dX8_again_24 ?_
  refine lv_iload_n hx hb dX8_again_27 rfl (lv_at hl 1 rfl) ?_
  obtain ⟨g_28, hg⟩ := hg
  refine k_iald C0 hP 2 rfl g_28 dX8_again_28 ?_
  refine lv_aload_n hx hb dX8_again_29 rfl (lv_at hl 0 rfl) ?_
  refine gf_X8_144 C0 hP 0 rfl rfl dX8_again_30 ?_
  refine lv_icmp_eq (tgt := 38) hx hb dX8_again_33 (by decide) (fun c_33 => ?_) (fun c_33 => ?_)
  · have hg := hg.1 c_33
    refine lv_iconst (v := (0 : Int32)) hx hb dX8_again_38 (by decide) ?_
    refine lv_istore_n (lv' := [(2, .int (0 : Int32)), (0, .ref h), (1, .int p1)]) hx hb dX8_again_39 rfl hl (by decide) rfl (fun ls hl => ?_)
    exact L40 F (0 : Int32) f_now _ _ _ hg hP hD hS (lv_sub hl [1, 2, 0] rfl)
  have hg := hg.2 c_33
  refine lv_iconst (v := (0 : Int32)) hx hb dX8_again_36 (by decide) ?_
  exact k_zret C0 hr (Or.inl rfl) ((0 : Int32), x_undoMany, f_now) hg hP hD hS dX8_again_37
theorem dX8_row_0 : decode cX8_row 0 = .ok (.aload_n 0, 1) := by decide +kernel
theorem dX8_row_1 : decode cX8_row 1 = .ok (.iconst 0, 1) := by decide +kernel
theorem dX8_row_2 : decode cX8_row 2 = .ok (.putfield 82, 3) := by decide +kernel
theorem dX8_row_5 : decode cX8_row 5 = .ok (.iload_n 1, 1) := by decide +kernel
theorem dX8_row_6 : decode cX8_row 6 = .ok (.iconst 0, 1) := by decide +kernel
theorem dX8_row_7 : decode cX8_row 7 = .ok (.aload_n 0, 1) := by decide +kernel
theorem dX8_row_8 : decode cX8_row 8 = .ok (.getfield 86, 3) := by decide +kernel
theorem dX8_row_11 : decode cX8_row 11 = .ok (.iconst 1, 1) := by decide +kernel
theorem dX8_row_12 : decode cX8_row 12 = .ok (.isub, 1) := by decide +kernel
theorem dX8_row_13 : decode cX8_row 13 = .ok (.invokestatic 92, 3) := by decide +kernel
theorem dX8_row_16 : decode cX8_row 16 = .ok (.ifCond .eq 12, 3) := by decide +kernel
theorem dX8_row_19 : decode cX8_row 19 = .ok (.aload_n 0, 1) := by decide +kernel
theorem dX8_row_20 : decode cX8_row 20 = .ok (.getfield 17, 3) := by decide +kernel
theorem dX8_row_23 : decode cX8_row 23 = .ok (.iload_n 1, 1) := by decide +kernel
theorem dX8_row_24 : decode cX8_row 24 = .ok (.laload, 1) := by decide +kernel
theorem dX8_row_25 : decode cX8_row 25 = .ok (.goto 8, 3) := by decide +kernel
theorem dX8_row_28 : decode cX8_row 28 = .ok (.aload_n 0, 1) := by decide +kernel
theorem dX8_row_29 : decode cX8_row 29 = .ok (.invokevirtual 218, 3) := by decide +kernel
theorem dX8_row_32 : decode cX8_row 32 = .ok (.i2l, 1) := by decide +kernel
theorem dX8_row_33 : decode cX8_row 33 = .ok (.lreturn, 1) := by decide +kernel
def p_X8_row (F : Nat) (p1 : Int32) (x_rowMany : Int32) (f_row : Nat → Int64) (Post : Int64 → Int32 → Prop) : Prop := (p_X8_in F p1 (0 : Int32) (x_rowMany - (1 : Int32)) (fun (r_13 : Int32) => ((r_13 = 0 → (p_X8_lost F (fun (r_29 : Int32) (u_29 : Int32) => (Post (r_29.toInt64) u_29)))) ∧ (¬ r_13 = 0 → (vp_in p1 16 ∧ (Post (f_row p1.toNatClampNeg) (0 : Int32)))))))
set_option maxHeartbeats 4000000 in
set_option maxRecDepth 100000 in
theorem c_X8_row (l : Launch) (D : va_G) (cT : Nat → ClassId) (F : Nat) (h : Nat) (p1 : Int32) (w_now : Value) (x_arches : Int32) (x_cats : Int32) (w_text : Value) (x_typed : Int32) (q_row : Nat) (x_rowMany : Int32) (x_thrown : Int32) (w_read : Value) (x_length : Int32) (x_top : Int32) (x_at : Int32) (x_wrong : Int32) (w_told : Value) (w_rule : Value) (w_otherRule : Value) (x_ruleSize : Int32) (x_isAsked : Int32) (w_asked : Value) (w_undos : Value) (x_undoMany : Int32) (w_aside : Value) (w_then : Value) (w_hold : Value) (x_dropped : Int32) (w_acts : Value) (w_guarded : Value) (w_train : Value) (x_trolleyEnd : Int32) (w_feltOf : Value) (w_feltBy : Value) (x_feltMany : Int32) (w_many : Value) (w_heardOf : Value) (w_heardBy : Value) (x_heardMany : Int32) (w_worth : Value) (x_drawn : Int32) (x_came : Int32) (w_kept : Value) (w_isKept : Value) (w_keptCame : Value) (f_row : Nat → Int64) (Post : Int64 → Int32 → Prop) (hg : p_X8_row F p1 x_rowMany f_row Post) : MWl l D cT yX8_row cX8_row 2 (some .long) 1 22 0 0 [.ref h, .int p1] [(h, oX8 w_now (.int x_arches) (.int x_cats) w_text (.int x_typed) (.ref q_row) (.int x_rowMany) (.int x_thrown) w_read (.int x_length) (.int x_top) (.int x_at) (.int x_wrong) w_told w_rule w_otherRule (.int x_ruleSize) (.int x_isAsked) w_asked w_undos (.int x_undoMany) w_aside w_then w_hold (.int x_dropped) w_acts w_guarded w_train (.int x_trolleyEnd) w_feltOf w_feltBy (.int x_feltMany) w_many w_heardOf w_heardBy (.int x_heardMany) w_worth (.int x_drawn) (.int x_came) w_kept w_isKept w_keptCame), (q_row, aJ cT 16 f_row)] Post (fun (u : Int32) => [(h, oX8 w_now (.int x_arches) (.int x_cats) w_text (.int x_typed) (.ref q_row) (.int x_rowMany) (.int u) w_read (.int x_length) (.int x_top) (.int x_at) (.int x_wrong) w_told w_rule w_otherRule (.int x_ruleSize) (.int x_isAsked) w_asked w_undos (.int x_undoMany) w_aside w_then w_hold (.int x_dropped) w_acts w_guarded w_train (.int x_trolleyEnd) w_feltOf w_feltBy (.int x_feltMany) w_many w_heardOf w_heardBy (.int x_heardMany) w_worth (.int x_drawn) (.int x_came) w_kept w_isKept w_keptCame), (q_row, aJ cT 16 f_row)]) := by
  refine MWl.of (by decide) (Nat.le_of_ble_eq_true rfl) ?_
  intro p e s m below meth c A hA C0 hnm hr hP hD ls hl
  have hl : lv_has ls 2 [(0, .ref h), (1, .int p1)] := hl
  have hx := C0.x
  have hb := C0.b
  have hS : va_S A s.heap s.heap [] := va_S.rf
  have hP : va_P D cls9 [(h, oX8 w_now (.int x_arches) (.int x_cats) w_text (.int x_typed) (.ref q_row) (.int x_rowMany) (.int x_thrown) w_read (.int x_length) (.int x_top) (.int x_at) (.int x_wrong) w_told w_rule w_otherRule (.int x_ruleSize) (.int x_isAsked) w_asked w_undos (.int x_undoMany) w_aside w_then w_hold (.int x_dropped) w_acts w_guarded w_train (.int x_trolleyEnd) w_feltOf w_feltBy (.int x_feltMany) w_many w_heardOf w_heardBy (.int x_heardMany) w_worth (.int x_drawn) (.int x_came) w_kept w_isKept w_keptCame), (q_row, aJ cT 16 f_row)] s.heap := hP
  have hD : va_D A [(h, oX8 w_now (.int x_arches) (.int x_cats) w_text (.int x_typed) (.ref q_row) (.int x_rowMany) (.int x_thrown) w_read (.int x_length) (.int x_top) (.int x_at) (.int x_wrong) w_told w_rule w_otherRule (.int x_ruleSize) (.int x_isAsked) w_asked w_undos (.int x_undoMany) w_aside w_then w_hold (.int x_dropped) w_acts w_guarded w_train (.int x_trolleyEnd) w_feltOf w_feltBy (.int x_feltMany) w_many w_heardOf w_heardBy (.int x_heardMany) w_worth (.int x_drawn) (.int x_came) w_kept w_isKept w_keptCame), (q_row, aJ cT 16 f_row)] := hD
  unfold p_X8_row at hg
  refine lv_aload_n hx hb dX8_row_0 rfl (lv_at hl 0 rfl) ?_
  refine lv_iconst (v := (0 : Int32)) hx hb dX8_row_1 (by decide) ?_
  refine pf_X8_82 C0 hP hD hS 0 rfl (Nat.le_of_ble_eq_true rfl) (ws2 := [(h, oX8 w_now (.int x_arches) (.int x_cats) w_text (.int x_typed) (.ref q_row) (.int x_rowMany) (.int (0 : Int32)) w_read (.int x_length) (.int x_top) (.int x_at) (.int x_wrong) w_told w_rule w_otherRule (.int x_ruleSize) (.int x_isAsked) w_asked w_undos (.int x_undoMany) w_aside w_then w_hold (.int x_dropped) w_acts w_guarded w_train (.int x_trolleyEnd) w_feltOf w_feltBy (.int x_feltMany) w_many w_heardOf w_heardBy (.int x_heardMany) w_worth (.int x_drawn) (.int x_came) w_kept w_isKept w_keptCame), (q_row, aJ cT 16 f_row)]) rfl dX8_row_2 (fun H locs hP hD hS => ?_)
  refine lv_iload_n hx hb dX8_row_5 rfl (lv_at hl 1 rfl) ?_
  refine lv_iconst (v := (0 : Int32)) hx hb dX8_row_6 (by decide) ?_
  refine lv_aload_n hx hb dX8_row_7 rfl (lv_at hl 0 rfl) ?_
  refine gf_X8_86 C0 hP 0 rfl rfl dX8_row_8 ?_
  refine lv_iconst (v := (1 : Int32)) hx hb dX8_row_11 (by decide) ?_
  refine lv_isub hx hb dX8_row_12 ?_
  refine k_Sxi (rest := []) C0 lk_X8_92 (c_X8_in l D cT F p1 (0 : Int32) (x_rowMany - (1 : Int32)) _ hg) hP hD [] (by decide +kernel) rfl ⟨Nat.le_of_ble_eq_true rfl, Nat.le_of_ble_eq_true rfl⟩ rfl hl.1 rfl (Nat.le_of_ble_eq_true rfl) dX8_row_13 ⟨Nat.le_of_ble_eq_true rfl, Nat.le_of_ble_eq_true rfl⟩ (fun r_13 hg => ?_)
  refine lv_if_eq (tgt := 28) hx hb dX8_row_16 (by decide) (fun c_16 => ?_) (fun c_16 => ?_)
  · have hg := hg.1 c_16
    refine lv_aload_n hx hb dX8_row_28 rfl (lv_at hl 0 rfl) ?_
    refine k_Vi (rest := []) (wr := [(q_row, aJ cT 16 f_row)]) (w2 := fun u_29 => [(q_row, aJ cT 16 f_row), (h, oX8 w_now (.int x_arches) (.int x_cats) w_text (.int x_typed) (.ref q_row) (.int x_rowMany) (.int u_29) w_read (.int x_length) (.int x_top) (.int x_at) (.int x_wrong) w_told w_rule w_otherRule (.int x_ruleSize) (.int x_isAsked) w_asked w_undos (.int x_undoMany) w_aside w_then w_hold (.int x_dropped) w_acts w_guarded w_train (.int x_trolleyEnd) w_feltOf w_feltBy (.int x_feltMany) w_many w_heardOf w_heardBy (.int x_heardMany) w_worth (.int x_drawn) (.int x_came) w_kept w_isKept w_keptCame)]) C0 lk_X8_218 (c_X8_lost l D cT F h w_now x_arches x_cats w_text x_typed (.ref q_row) x_rowMany (0 : Int32) w_read x_length x_top x_at x_wrong w_told w_rule w_otherRule x_ruleSize x_isAsked w_asked w_undos x_undoMany w_aside w_then w_hold x_dropped w_acts w_guarded w_train x_trolleyEnd w_feltOf w_feltBy x_feltMany w_many w_heardOf w_heardBy x_heardMany w_worth x_drawn x_came w_kept w_isKept w_keptCame _ hg) hP hD hS hA [0] [1] (by decide +kernel) rfl rfl (fun _ => rfl) rfl rfl ⟨Nat.le_of_ble_eq_true rfl, Nat.le_of_ble_eq_true rfl⟩ rfl hl.1 rfl (Nat.le_of_ble_eq_true rfl) dX8_row_29 ⟨Nat.le_of_ble_eq_true rfl, Nat.le_of_ble_eq_true rfl⟩ ?_
    intro r_29 u_29 H locs hg hP hD hS
    refine lv_i2l (v := (r_29.toInt64)) hx hb dX8_row_32 rfl ?_
    exact k_lret C0 hr u_29 hg (subP hP [1, 0] rfl) (hD.sub [1, 0] (nd2_ok _ (by decide +kernel)) rfl) hS dX8_row_33
  have hg := hg.2 c_16
  refine lv_aload_n hx hb dX8_row_19 rfl (lv_at hl 0 rfl) ?_
  refine gf_X8_17 C0 hP 0 rfl rfl dX8_row_20 ?_
  refine lv_iload_n hx hb dX8_row_23 rfl (lv_at hl 1 rfl) ?_
  obtain ⟨g_24, hg⟩ := hg
  refine k_lald C0 hP 1 rfl g_24 dX8_row_24 ?_
  refine lv_goto (tgt := 33) hx hb dX8_row_25 (by decide) ?_
  exact k_lret C0 hr (0 : Int32) hg hP hD hS dX8_row_33
