theorem dX7_addToWays_0 : decode cX7_addToWays 0 = .ok (.bipush 72, 2) := by decide +kernel
theorem dX7_addToWays_2 : decode cX7_addToWays 2 = .ok (.istore_n 3, 1) := by decide +kernel
theorem dX7_addToWays_3 : decode cX7_addToWays 3 = .ok (.iload_n 3, 1) := by decide +kernel
theorem dX7_addToWays_4 : decode cX7_addToWays 4 = .ok (.ifCond .lt 55, 3) := by decide +kernel
theorem dX7_addToWays_7 : decode cX7_addToWays 7 = .ok (.aload_n 0, 1) := by decide +kernel
theorem dX7_addToWays_8 : decode cX7_addToWays 8 = .ok (.getfield 76, 3) := by decide +kernel
theorem dX7_addToWays_11 : decode cX7_addToWays 11 = .ok (.iload_n 3, 1) := by decide +kernel
theorem dX7_addToWays_12 : decode cX7_addToWays 12 = .ok (.laload, 1) := by decide +kernel
theorem dX7_addToWays_13 : decode cX7_addToWays 13 = .ok (.lstore 4, 2) := by decide +kernel
theorem dX7_addToWays_15 : decode cX7_addToWays 15 = .ok (.aload_n 0, 1) := by decide +kernel
theorem dX7_addToWays_16 : decode cX7_addToWays 16 = .ok (.getfield 76, 3) := by decide +kernel
theorem dX7_addToWays_19 : decode cX7_addToWays 19 = .ok (.iload_n 3, 1) := by decide +kernel
theorem dX7_addToWays_20 : decode cX7_addToWays 20 = .ok (.lload 4, 2) := by decide +kernel
theorem dX7_addToWays_22 : decode cX7_addToWays 22 = .ok (.iload_n 2, 1) := by decide +kernel
theorem dX7_addToWays_23 : decode cX7_addToWays 23 = .ok (.i2l, 1) := by decide +kernel
theorem dX7_addToWays_24 : decode cX7_addToWays 24 = .ok (.lmul, 1) := by decide +kernel
theorem dX7_addToWays_25 : decode cX7_addToWays 25 = .ok (.lastore, 1) := by decide +kernel
theorem dX7_addToWays_26 : decode cX7_addToWays 26 = .ok (.iload_n 3, 1) := by decide +kernel
theorem dX7_addToWays_27 : decode cX7_addToWays 27 = .ok (.iload_n 1, 1) := by decide +kernel
theorem dX7_addToWays_28 : decode cX7_addToWays 28 = .ok (.iadd, 1) := by decide +kernel
theorem dX7_addToWays_29 : decode cX7_addToWays 29 = .ok (.bipush 72, 2) := by decide +kernel
theorem dX7_addToWays_31 : decode cX7_addToWays 31 = .ok (.if_icmp .gt 22, 3) := by decide +kernel
theorem dX7_addToWays_34 : decode cX7_addToWays 34 = .ok (.aload_n 0, 1) := by decide +kernel
theorem dX7_addToWays_35 : decode cX7_addToWays 35 = .ok (.getfield 76, 3) := by decide +kernel
theorem dX7_addToWays_38 : decode cX7_addToWays 38 = .ok (.iload_n 3, 1) := by decide +kernel
theorem dX7_addToWays_39 : decode cX7_addToWays 39 = .ok (.iload_n 1, 1) := by decide +kernel
theorem dX7_addToWays_40 : decode cX7_addToWays 40 = .ok (.iadd, 1) := by decide +kernel
theorem dX7_addToWays_41 : decode cX7_addToWays 41 = .ok (.dup2, 1) := by decide +kernel
theorem dX7_addToWays_42 : decode cX7_addToWays 42 = .ok (.laload, 1) := by decide +kernel
theorem dX7_addToWays_43 : decode cX7_addToWays 43 = .ok (.lload 4, 2) := by decide +kernel
theorem dX7_addToWays_45 : decode cX7_addToWays 45 = .ok (.bipush 10, 2) := by decide +kernel
theorem dX7_addToWays_47 : decode cX7_addToWays 47 = .ok (.iload_n 2, 1) := by decide +kernel
theorem dX7_addToWays_48 : decode cX7_addToWays 48 = .ok (.isub, 1) := by decide +kernel
theorem dX7_addToWays_49 : decode cX7_addToWays 49 = .ok (.i2l, 1) := by decide +kernel
theorem dX7_addToWays_50 : decode cX7_addToWays 50 = .ok (.lmul, 1) := by decide +kernel
theorem dX7_addToWays_51 : decode cX7_addToWays 51 = .ok (.ladd, 1) := by decide +kernel
theorem dX7_addToWays_52 : decode cX7_addToWays 52 = .ok (.lastore, 1) := by decide +kernel
theorem dX7_addToWays_53 : decode cX7_addToWays 53 = .ok (.iinc 3 (-1), 3) := by decide +kernel
theorem dX7_addToWays_56 : decode cX7_addToWays 56 = .ok (.goto (-53), 3) := by decide +kernel
theorem dX7_addToWays_59 : decode cX7_addToWays 59 = .ok (.return_, 1) := by decide +kernel
def p_X7_addToWays_53 (F : Nat) (y3_3 : Int32) (k3 : Int32 → (Nat → Int64) → Prop) (Post : (Nat → Int64) → Prop) (f_ways_53 : Nat → Int64) : Prop := (k3 (y3_3 + (-1 : Int32)) f_ways_53)
noncomputable def p_X7_addToWays_3 (F : Nat) (p1 : Int32) (p2 : Int32) (Post : (Nat → Int64) → Prop) (n : Nat) : Int32 → (Nat → Int64) → Prop := Nat.rec (motive := fun _ => Int32 → (Nat → Int64) → Prop) (fun _ _ => False) (fun _ k3 => fun (y3_3 : Int32) (f_ways_3 : Nat → Int64) => ((y3_3 < 0 → (Post f_ways_3)) ∧ (¬ y3_3 < 0 → (vp_in y3_3 73 ∧ (vp_in y3_3 73 ∧ (((72 : Int32) < (y3_3 + p1) → (p_X7_addToWays_53 F y3_3 k3 Post (vp_updL f_ways_3 y3_3.toNatClampNeg ((f_ways_3 y3_3.toNatClampNeg) * (p2.toInt64))))) ∧ (¬ (72 : Int32) < (y3_3 + p1) → (vp_in (y3_3 + p1) 73 ∧ (vp_in (y3_3 + p1) 73 ∧ (p_X7_addToWays_53 F y3_3 k3 Post (vp_updL (vp_updL f_ways_3 y3_3.toNatClampNeg ((f_ways_3 y3_3.toNatClampNeg) * (p2.toInt64))) (y3_3 + p1).toNatClampNeg (((vp_updL f_ways_3 y3_3.toNatClampNeg ((f_ways_3 y3_3.toNatClampNeg) * (p2.toInt64))) (y3_3 + p1).toNatClampNeg) + ((f_ways_3 y3_3.toNatClampNeg) * (((10 : Int32) - p2).toInt64)))))))))))))) n
theorem p_X7_addToWays_3_s (F : Nat) (p1 : Int32) (p2 : Int32) (Post : (Nat → Int64) → Prop) (n : Nat) (y3_3 : Int32) (f_ways_3 : Nat → Int64) : p_X7_addToWays_3 F p1 p2 Post (n + 1) y3_3 f_ways_3 = ((y3_3 < 0 → (Post f_ways_3)) ∧ (¬ y3_3 < 0 → (vp_in y3_3 73 ∧ (vp_in y3_3 73 ∧ (((72 : Int32) < (y3_3 + p1) → (p_X7_addToWays_53 F y3_3 (p_X7_addToWays_3 F p1 p2 Post n) Post (vp_updL f_ways_3 y3_3.toNatClampNeg ((f_ways_3 y3_3.toNatClampNeg) * (p2.toInt64))))) ∧ (¬ (72 : Int32) < (y3_3 + p1) → (vp_in (y3_3 + p1) 73 ∧ (vp_in (y3_3 + p1) 73 ∧ (p_X7_addToWays_53 F y3_3 (p_X7_addToWays_3 F p1 p2 Post n) Post (vp_updL (vp_updL f_ways_3 y3_3.toNatClampNeg ((f_ways_3 y3_3.toNatClampNeg) * (p2.toInt64))) (y3_3 + p1).toNatClampNeg (((vp_updL f_ways_3 y3_3.toNatClampNeg ((f_ways_3 y3_3.toNatClampNeg) * (p2.toInt64))) (y3_3 + p1).toNatClampNeg) + ((f_ways_3 y3_3.toNatClampNeg) * (((10 : Int32) - p2).toInt64))))))))))))) := rfl
def p_X7_addToWays (F : Nat) (p1 : Int32) (p2 : Int32) (f_ways : Nat → Int64) (Post : (Nat → Int64) → Prop) : Prop := (p_X7_addToWays_3 F p1 p2 Post F (72 : Int32) f_ways)
set_option maxHeartbeats 4000000 in
set_option maxRecDepth 100000 in
theorem c_X7_addToWays (l : Launch) (D : va_G) (cT : Nat → ClassId) (F : Nat) (h : Nat) (p1 : Int32) (p2 : Int32) (w_text : Value) (w_told : Value) (w_now : Value) (w_before : Value) (w_trial : Value) (w_past : Value) (w_kept : Value) (w_feltNotes : Value) (w_heardNotes : Value) (w_draws : Value) (w_purrs : Value) (w_alone : Value) (w_nimbers : Value) (q_ways : Nat) (w_ruling : Value) (w_spare : Value) (f_ways : Nat → Int64) (Post : (Nat → Int64) → Prop) (hg : p_X7_addToWays F p1 p2 f_ways Post) : MWv l D cT yX7_addToWays cX7_addToWays 6 none 0 0 0 0 [.ref h, .int p1, .int p2] [(h, oX7 w_text w_told w_now w_before w_trial w_past w_kept w_feltNotes w_heardNotes w_draws w_purrs w_alone w_nimbers (.ref q_ways) w_ruling w_spare), (q_ways, aJ cT 73 f_ways)] Post (fun (u : (Nat → Int64)) => [(h, oX7 w_text w_told w_now w_before w_trial w_past w_kept w_feltNotes w_heardNotes w_draws w_purrs w_alone w_nimbers (.ref q_ways) w_ruling w_spare), (q_ways, aJ cT 73 u)]) := by
  refine MWv.of (by decide) (Nat.le_of_ble_eq_true rfl) ?_
  intro p e s m below meth c A hA C0 hnm hr hP hD ls hl
  have hl : lv_has ls 6 [(0, .ref h), (1, .int p1), (2, .int p2)] := hl
  have hx := C0.x
  have hb := C0.b
  have hS : va_S A s.heap s.heap [] := va_S.rf
  have hP : va_P D cls9 [(h, oX7 w_text w_told w_now w_before w_trial w_past w_kept w_feltNotes w_heardNotes w_draws w_purrs w_alone w_nimbers (.ref q_ways) w_ruling w_spare), (q_ways, aJ cT 73 f_ways)] s.heap := hP
  have hD : va_D A [(h, oX7 w_text w_told w_now w_before w_trial w_past w_kept w_feltNotes w_heardNotes w_draws w_purrs w_alone w_nimbers (.ref q_ways) w_ruling w_spare), (q_ways, aJ cT 73 f_ways)] := hD
  have L3 : ∀ (n3 : Nat) (y3_3 : Int32) (f_ways_3 : Nat → Int64) (H : Heap) (locs : List Loc) (ls : Array Slot), p_X7_addToWays_3 F p1 p2 Post n3 y3_3 f_ways_3 → va_P D cls9 [(h, oX7 w_text w_told w_now w_before w_trial w_past w_kept w_feltNotes w_heardNotes w_draws w_purrs w_alone w_nimbers (.ref q_ways) w_ruling w_spare), (q_ways, aJ cT 73 f_ways_3)] H → va_D A [(h, oX7 w_text w_told w_now w_before w_trial w_past w_kept w_feltNotes w_heardNotes w_draws w_purrs w_alone w_nimbers (.ref q_ways) w_ruling w_spare), (q_ways, aJ cT 73 f_ways_3)] → va_S A s.heap H locs → lv_has ls 6 [(0, .ref h), (1, .int p1), (2, .int p2), (3, .int y3_3)] → W p l e (rmO 0 0 0 0) s m ([.ref h, .int p1, .int p2] : List Value).toArray below meth c H locs 0 0 (MQ below (va_Qv Post (cB D A (fun (u : (Nat → Int64)) => [(h, oX7 w_text w_told w_now w_before w_trial w_past w_kept w_feltNotes w_heardNotes w_draws w_purrs w_alone w_nimbers (.ref q_ways) w_ruling w_spare), (q_ways, aJ cT 73 u)])) A) ([.ref h, .int p1, .int p2] : List Value).toArray s 0 0 A) (F0 m 3 ls []) := by
    intro n3
    induction n3 with
    | zero =>
      intro y3_3 f_ways_3 H locs ls hg hP hD hS hl
      exact False.elim hg
    | succ n3 ih3 =>
      have L53 : ∀ (y3_3 : Int32) (f_ways_53 : Nat → Int64) (H : Heap) (locs : List Loc) (ls : Array Slot), p_X7_addToWays_53 F y3_3 (p_X7_addToWays_3 F p1 p2 Post n3) Post f_ways_53 → va_P D cls9 [(h, oX7 w_text w_told w_now w_before w_trial w_past w_kept w_feltNotes w_heardNotes w_draws w_purrs w_alone w_nimbers (.ref q_ways) w_ruling w_spare), (q_ways, aJ cT 73 f_ways_53)] H → va_D A [(h, oX7 w_text w_told w_now w_before w_trial w_past w_kept w_feltNotes w_heardNotes w_draws w_purrs w_alone w_nimbers (.ref q_ways) w_ruling w_spare), (q_ways, aJ cT 73 f_ways_53)] → va_S A s.heap H locs → lv_has ls 6 [(0, .ref h), (1, .int p1), (2, .int p2), (3, .int y3_3)] → W p l e (rmO 0 0 0 0) s m ([.ref h, .int p1, .int p2] : List Value).toArray below meth c H locs 0 0 (MQ below (va_Qv Post (cB D A (fun (u : (Nat → Int64)) => [(h, oX7 w_text w_told w_now w_before w_trial w_past w_kept w_feltNotes w_heardNotes w_draws w_purrs w_alone w_nimbers (.ref q_ways) w_ruling w_spare), (q_ways, aJ cT 73 u)])) A) ([.ref h, .int p1, .int p2] : List Value).toArray s 0 0 A) (F0 m 53 ls []) := by
        intro y3_3 f_ways_53 H locs ls hg hP hD hS hl
        unfold p_X7_addToWays_53 at hg
        refine lv_iinc (v := (y3_3 + (-1 : Int32))) (lv' := [(3, .int (y3_3 + (-1 : Int32))), (0, .ref h), (1, .int p1), (2, .int p2)]) hx hb dX7_addToWays_53 hl (k := 3) rfl rfl (by decide) rfl (fun ls hl => ?_)
        refine lv_goto (tgt := 3) hx hb dX7_addToWays_56 (by decide) ?_
        exact ih3 (y3_3 + (-1 : Int32)) f_ways_53 _ _ _ hg hP hD hS (lv_sub hl [1, 2, 3, 0] rfl)
      intro y3_3 f_ways_3 H locs ls hg hP hD hS hl
      rw [p_X7_addToWays_3_s] at hg
      refine lv_iload_n hx hb dX7_addToWays_3 rfl (lv_at hl 3 rfl) ?_
      refine lv_if_lt (tgt := 59) hx hb dX7_addToWays_4 (by decide) (fun c_4 => ?_) (fun c_4 => ?_)
      · have hg := hg.1 c_4
        exact k_vret C0 hr f_ways_3 hg hP hD hS dX7_addToWays_59
      have hg := hg.2 c_4
      refine lv_aload_n hx hb dX7_addToWays_7 rfl (lv_at hl 0 rfl) ?_
      refine gf_X7_76 C0 hP 0 rfl rfl dX7_addToWays_8 ?_
      refine lv_iload_n hx hb dX7_addToWays_11 rfl (lv_at hl 3 rfl) ?_
      obtain ⟨g_12, hg⟩ := hg
      refine k_lald C0 hP 1 rfl g_12 dX7_addToWays_12 ?_
      refine lv_lstore (lv' := [(4, .long (f_ways_3 y3_3.toNatClampNeg)), (0, .ref h), (1, .int p1), (2, .int p2), (3, .int y3_3)]) hx hb dX7_addToWays_13 hl (by decide) rfl (fun ls hl => ?_)
      refine lv_aload_n hx hb dX7_addToWays_15 rfl (lv_at hl 1 rfl) ?_
      refine gf_X7_76 C0 hP 0 rfl rfl dX7_addToWays_16 ?_
      refine lv_iload_n hx hb dX7_addToWays_19 rfl (lv_at hl 4 rfl) ?_
      refine lv_lload hx hb dX7_addToWays_20 (lv_at hl 0 rfl) ?_
      refine lv_iload_n hx hb dX7_addToWays_22 rfl (lv_at hl 3 rfl) ?_
      refine lv_i2l (v := (p2.toInt64)) hx hb dX7_addToWays_23 rfl ?_
      refine lv_lmul hx hb dX7_addToWays_24 ?_
      obtain ⟨g_25, hg⟩ := hg
      refine k_last C0 hP hD hS 1 rfl g_25 (ws' := [(h, oX7 w_text w_told w_now w_before w_trial w_past w_kept w_feltNotes w_heardNotes w_draws w_purrs w_alone w_nimbers (.ref q_ways) w_ruling w_spare), (q_ways, aJ cT 73 (vp_updL f_ways_3 y3_3.toNatClampNeg ((f_ways_3 y3_3.toNatClampNeg) * (p2.toInt64))))]) rfl dX7_addToWays_25 (fun H locs hP hD hS => ?_)
      refine lv_iload_n hx hb dX7_addToWays_26 rfl (lv_at hl 4 rfl) ?_
      refine lv_iload_n hx hb dX7_addToWays_27 rfl (lv_at hl 2 rfl) ?_
      refine lv_iadd hx hb dX7_addToWays_28 ?_
      refine lv_bipush (v := (72 : Int32)) hx hb dX7_addToWays_29 (by decide) ?_
      refine lv_icmp_gt (tgt := 53) hx hb dX7_addToWays_31 (by decide) (fun c_31 => ?_) (fun c_31 => ?_)
      · have hg := hg.1 c_31
        exact L53 y3_3 (vp_updL f_ways_3 y3_3.toNatClampNeg ((f_ways_3 y3_3.toNatClampNeg) * (p2.toInt64))) _ _ _ hg hP hD hS (lv_sub hl [1, 2, 3, 4] rfl)
      have hg := hg.2 c_31
      refine lv_aload_n hx hb dX7_addToWays_34 rfl (lv_at hl 1 rfl) ?_
      refine gf_X7_76 C0 hP 0 rfl rfl dX7_addToWays_35 ?_
      refine lv_iload_n hx hb dX7_addToWays_38 rfl (lv_at hl 4 rfl) ?_
      refine lv_iload_n hx hb dX7_addToWays_39 rfl (lv_at hl 2 rfl) ?_
      refine lv_iadd hx hb dX7_addToWays_40 ?_
      refine lv_dup2_11 hx hb dX7_addToWays_41 rfl rfl ?_
      obtain ⟨g_42, hg⟩ := hg
      refine k_lald C0 hP 1 rfl g_42 dX7_addToWays_42 ?_
      refine lv_lload hx hb dX7_addToWays_43 (lv_at hl 0 rfl) ?_
      refine lv_bipush (v := (10 : Int32)) hx hb dX7_addToWays_45 (by decide) ?_
      refine lv_iload_n hx hb dX7_addToWays_47 rfl (lv_at hl 3 rfl) ?_
      refine lv_isub hx hb dX7_addToWays_48 ?_
      refine lv_i2l (v := (((10 : Int32) - p2).toInt64)) hx hb dX7_addToWays_49 rfl ?_
      refine lv_lmul hx hb dX7_addToWays_50 ?_
      refine lv_ladd hx hb dX7_addToWays_51 ?_
      obtain ⟨g_52, hg⟩ := hg
      refine k_last C0 hP hD hS 1 rfl g_52 (ws' := [(h, oX7 w_text w_told w_now w_before w_trial w_past w_kept w_feltNotes w_heardNotes w_draws w_purrs w_alone w_nimbers (.ref q_ways) w_ruling w_spare), (q_ways, aJ cT 73 (vp_updL (vp_updL f_ways_3 y3_3.toNatClampNeg ((f_ways_3 y3_3.toNatClampNeg) * (p2.toInt64))) (y3_3 + p1).toNatClampNeg (((vp_updL f_ways_3 y3_3.toNatClampNeg ((f_ways_3 y3_3.toNatClampNeg) * (p2.toInt64))) (y3_3 + p1).toNatClampNeg) + ((f_ways_3 y3_3.toNatClampNeg) * (((10 : Int32) - p2).toInt64)))))]) rfl dX7_addToWays_52 (fun H locs hP hD hS => ?_)
      exact L53 y3_3 (vp_updL (vp_updL f_ways_3 y3_3.toNatClampNeg ((f_ways_3 y3_3.toNatClampNeg) * (p2.toInt64))) (y3_3 + p1).toNatClampNeg (((vp_updL f_ways_3 y3_3.toNatClampNeg ((f_ways_3 y3_3.toNatClampNeg) * (p2.toInt64))) (y3_3 + p1).toNatClampNeg) + ((f_ways_3 y3_3.toNatClampNeg) * (((10 : Int32) - p2).toInt64)))) _ _ _ hg hP hD hS (lv_sub hl [1, 2, 3, 4] rfl)
  unfold p_X7_addToWays at hg
  refine lv_bipush (v := (72 : Int32)) hx hb dX7_addToWays_0 (by decide) ?_
  refine lv_istore_n (lv' := [(3, .int (72 : Int32)), (0, .ref h), (1, .int p1), (2, .int p2)]) hx hb dX7_addToWays_2 rfl hl (by decide) rfl (fun ls hl => ?_)
  exact L3 F (72 : Int32) f_ways _ _ _ hg hP hD hS (lv_sub hl [1, 2, 3, 0] rfl)
theorem dX7_waysToHold_0 : decode cX7_waysToHold 0 = .ok (.iconst 0, 1) := by decide +kernel
theorem dX7_waysToHold_1 : decode cX7_waysToHold 1 = .ok (.istore_n 3, 1) := by decide +kernel
theorem dX7_waysToHold_2 : decode cX7_waysToHold 2 = .ok (.iload_n 3, 1) := by decide +kernel
theorem dX7_waysToHold_3 : decode cX7_waysToHold 3 = .ok (.bipush 72, 2) := by decide +kernel
theorem dX7_waysToHold_5 : decode cX7_waysToHold 5 = .ok (.if_icmp .gt 24, 3) := by decide +kernel
theorem dX7_waysToHold_8 : decode cX7_waysToHold 8 = .ok (.aload_n 0, 1) := by decide +kernel
theorem dX7_waysToHold_9 : decode cX7_waysToHold 9 = .ok (.getfield 76, 3) := by decide +kernel
theorem dX7_waysToHold_12 : decode cX7_waysToHold 12 = .ok (.iload_n 3, 1) := by decide +kernel
theorem dX7_waysToHold_13 : decode cX7_waysToHold 13 = .ok (.iload_n 3, 1) := by decide +kernel
theorem dX7_waysToHold_14 : decode cX7_waysToHold 14 = .ok (.ifCond .ne 7, 3) := by decide +kernel
theorem dX7_waysToHold_17 : decode cX7_waysToHold 17 = .ok (.lconst 1, 1) := by decide +kernel
theorem dX7_waysToHold_18 : decode cX7_waysToHold 18 = .ok (.goto 4, 3) := by decide +kernel
theorem dX7_waysToHold_21 : decode cX7_waysToHold 21 = .ok (.lconst 0, 1) := by decide +kernel
theorem dX7_waysToHold_22 : decode cX7_waysToHold 22 = .ok (.lastore, 1) := by decide +kernel
theorem dX7_waysToHold_23 : decode cX7_waysToHold 23 = .ok (.iinc 3 1, 3) := by decide +kernel
theorem dX7_waysToHold_26 : decode cX7_waysToHold 26 = .ok (.goto (-24), 3) := by decide +kernel
theorem dX7_waysToHold_29 : decode cX7_waysToHold 29 = .ok (.iconst 0, 1) := by decide +kernel
theorem dX7_waysToHold_30 : decode cX7_waysToHold 30 = .ok (.istore_n 3, 1) := by decide +kernel
theorem dX7_waysToHold_31 : decode cX7_waysToHold 31 = .ok (.iload_n 3, 1) := by decide +kernel
theorem dX7_waysToHold_32 : decode cX7_waysToHold 32 = .ok (.aload_n 0, 1) := by decide +kernel
theorem dX7_waysToHold_33 : decode cX7_waysToHold 33 = .ok (.getfield 26, 3) := by decide +kernel
theorem dX7_waysToHold_36 : decode cX7_waysToHold 36 = .ok (.getfield 118, 3) := by decide +kernel
theorem dX7_waysToHold_39 : decode cX7_waysToHold 39 = .ok (.if_icmp .ge 33, 3) := by decide +kernel
theorem dX7_waysToHold_42 : decode cX7_waysToHold 42 = .ok (.aload_n 0, 1) := by decide +kernel
theorem dX7_waysToHold_43 : decode cX7_waysToHold 43 = .ok (.getfield 26, 3) := by decide +kernel
theorem dX7_waysToHold_46 : decode cX7_waysToHold 46 = .ok (.getfield 168, 3) := by decide +kernel
theorem dX7_waysToHold_49 : decode cX7_waysToHold 49 = .ok (.iload_n 3, 1) := by decide +kernel
theorem dX7_waysToHold_50 : decode cX7_waysToHold 50 = .ok (.iaload, 1) := by decide +kernel
theorem dX7_waysToHold_51 : decode cX7_waysToHold 51 = .ok (.iload_n 1, 1) := by decide +kernel
theorem dX7_waysToHold_52 : decode cX7_waysToHold 52 = .ok (.if_icmp .ne 14, 3) := by decide +kernel
theorem dX7_waysToHold_55 : decode cX7_waysToHold 55 = .ok (.aload_n 0, 1) := by decide +kernel
theorem dX7_waysToHold_56 : decode cX7_waysToHold 56 = .ok (.aload_n 0, 1) := by decide +kernel
theorem dX7_waysToHold_57 : decode cX7_waysToHold 57 = .ok (.getfield 66, 3) := by decide +kernel
theorem dX7_waysToHold_60 : decode cX7_waysToHold 60 = .ok (.iload_n 3, 1) := by decide +kernel
theorem dX7_waysToHold_61 : decode cX7_waysToHold 61 = .ok (.iaload, 1) := by decide +kernel
theorem dX7_waysToHold_62 : decode cX7_waysToHold 62 = .ok (.iload_n 2, 1) := by decide +kernel
theorem dX7_waysToHold_63 : decode cX7_waysToHold 63 = .ok (.invokevirtual 363, 3) := by decide +kernel
theorem dX7_waysToHold_66 : decode cX7_waysToHold 66 = .ok (.iinc 3 1, 3) := by decide +kernel
theorem dX7_waysToHold_69 : decode cX7_waysToHold 69 = .ok (.goto (-38), 3) := by decide +kernel
theorem dX7_waysToHold_72 : decode cX7_waysToHold 72 = .ok (.lconst 0, 1) := by decide +kernel
theorem dX7_waysToHold_73 : decode cX7_waysToHold 73 = .ok (.lstore_n 3, 1) := by decide +kernel
theorem dX7_waysToHold_74 : decode cX7_waysToHold 74 = .ok (.aload_n 0, 1) := by decide +kernel
theorem dX7_waysToHold_75 : decode cX7_waysToHold 75 = .ok (.getfield 26, 3) := by decide +kernel
theorem dX7_waysToHold_78 : decode cX7_waysToHold 78 = .ok (.getfield 140, 3) := by decide +kernel
theorem dX7_waysToHold_81 : decode cX7_waysToHold 81 = .ok (.iload_n 1, 1) := by decide +kernel
theorem dX7_waysToHold_82 : decode cX7_waysToHold 82 = .ok (.iaload, 1) := by decide +kernel
theorem dX7_waysToHold_83 : decode cX7_waysToHold 83 = .ok (.istore 5, 2) := by decide +kernel
theorem dX7_waysToHold_85 : decode cX7_waysToHold 85 = .ok (.iload 5, 2) := by decide +kernel
theorem dX7_waysToHold_87 : decode cX7_waysToHold 87 = .ok (.bipush 72, 2) := by decide +kernel
theorem dX7_waysToHold_89 : decode cX7_waysToHold 89 = .ok (.if_icmp .gt 19, 3) := by decide +kernel
theorem dX7_waysToHold_92 : decode cX7_waysToHold 92 = .ok (.lload_n 3, 1) := by decide +kernel
theorem dX7_waysToHold_93 : decode cX7_waysToHold 93 = .ok (.aload_n 0, 1) := by decide +kernel
theorem dX7_waysToHold_94 : decode cX7_waysToHold 94 = .ok (.getfield 76, 3) := by decide +kernel
theorem dX7_waysToHold_97 : decode cX7_waysToHold 97 = .ok (.iload 5, 2) := by decide +kernel
theorem dX7_waysToHold_99 : decode cX7_waysToHold 99 = .ok (.laload, 1) := by decide +kernel
theorem dX7_waysToHold_100 : decode cX7_waysToHold 100 = .ok (.ladd, 1) := by decide +kernel
theorem dX7_waysToHold_101 : decode cX7_waysToHold 101 = .ok (.lstore_n 3, 1) := by decide +kernel
theorem dX7_waysToHold_102 : decode cX7_waysToHold 102 = .ok (.iinc 5 1, 3) := by decide +kernel
theorem dX7_waysToHold_105 : decode cX7_waysToHold 105 = .ok (.goto (-20), 3) := by decide +kernel
theorem dX7_waysToHold_108 : decode cX7_waysToHold 108 = .ok (.lload_n 3, 1) := by decide +kernel
theorem dX7_waysToHold_109 : decode cX7_waysToHold 109 = .ok (.lreturn, 1) := by decide +kernel
noncomputable def p_X7_waysToHold_85 (F : Nat) (f_ways_31 : Nat → Int64) (Post : Int64 → (Nat → Int64) → Prop) (n : Nat) : Int32 → Int64 → Prop := Nat.rec (motive := fun _ => Int32 → Int64 → Prop) (fun _ _ => False) (fun _ k85 => fun (y5_85 : Int32) (y3_85 : Int64) => (((72 : Int32) < y5_85 → (Post y3_85 f_ways_31)) ∧ (¬ (72 : Int32) < y5_85 → (vp_in y5_85 73 ∧ (k85 (y5_85 + (1 : Int32)) (y3_85 + (f_ways_31 y5_85.toNatClampNeg))))))) n
theorem p_X7_waysToHold_85_s (F : Nat) (f_ways_31 : Nat → Int64) (Post : Int64 → (Nat → Int64) → Prop) (n : Nat) (y5_85 : Int32) (y3_85 : Int64) : p_X7_waysToHold_85 F f_ways_31 Post (n + 1) y5_85 y3_85 = (((72 : Int32) < y5_85 → (Post y3_85 f_ways_31)) ∧ (¬ (72 : Int32) < y5_85 → (vp_in y5_85 73 ∧ ((p_X7_waysToHold_85 F f_ways_31 Post n) (y5_85 + (1 : Int32)) (y3_85 + (f_ways_31 y5_85.toNatClampNeg)))))) := rfl
def p_X7_waysToHold_66 (F : Nat) (y3_31 : Int32) (k31 : Int32 → (Nat → Int64) → Prop) (Post : Int64 → (Nat → Int64) → Prop) (f_ways_66 : Nat → Int64) : Prop := (k31 (y3_31 + (1 : Int32)) f_ways_66)
noncomputable def p_X7_waysToHold_31 (F : Nat) (p1 : Int32) (p2 : Int32) (x_now_cats : Int32) (f_now_place : Nat → Int32) (f_purrs : Nat → Int32) (f_now_load : Nat → Int32) (Post : Int64 → (Nat → Int64) → Prop) (n : Nat) : Int32 → (Nat → Int64) → Prop := Nat.rec (motive := fun _ => Int32 → (Nat → Int64) → Prop) (fun _ _ => False) (fun _ k31 => fun (y3_31 : Int32) (f_ways_31 : Nat → Int64) => ((x_now_cats ≤ y3_31 → (vp_in p1 6 ∧ (p_X7_waysToHold_85 F f_ways_31 Post F (f_now_load p1.toNatClampNeg) (0 : Int64)))) ∧ (¬ x_now_cats ≤ y3_31 → (vp_in y3_31 8 ∧ ((¬ (f_now_place y3_31.toNatClampNeg) = p1 → (p_X7_waysToHold_66 F y3_31 k31 Post f_ways_31)) ∧ ((f_now_place y3_31.toNatClampNeg) = p1 → (vp_in y3_31 8 ∧ (p_X7_addToWays F (f_purrs y3_31.toNatClampNeg) p2 f_ways_31 (fun (u_63 : (Nat → Int64)) => (p_X7_waysToHold_66 F y3_31 k31 Post u_63)))))))))) n
theorem p_X7_waysToHold_31_s (F : Nat) (p1 : Int32) (p2 : Int32) (x_now_cats : Int32) (f_now_place : Nat → Int32) (f_purrs : Nat → Int32) (f_now_load : Nat → Int32) (Post : Int64 → (Nat → Int64) → Prop) (n : Nat) (y3_31 : Int32) (f_ways_31 : Nat → Int64) : p_X7_waysToHold_31 F p1 p2 x_now_cats f_now_place f_purrs f_now_load Post (n + 1) y3_31 f_ways_31 = ((x_now_cats ≤ y3_31 → (vp_in p1 6 ∧ (p_X7_waysToHold_85 F f_ways_31 Post F (f_now_load p1.toNatClampNeg) (0 : Int64)))) ∧ (¬ x_now_cats ≤ y3_31 → (vp_in y3_31 8 ∧ ((¬ (f_now_place y3_31.toNatClampNeg) = p1 → (p_X7_waysToHold_66 F y3_31 (p_X7_waysToHold_31 F p1 p2 x_now_cats f_now_place f_purrs f_now_load Post n) Post f_ways_31)) ∧ ((f_now_place y3_31.toNatClampNeg) = p1 → (vp_in y3_31 8 ∧ (p_X7_addToWays F (f_purrs y3_31.toNatClampNeg) p2 f_ways_31 (fun (u_63 : (Nat → Int64)) => (p_X7_waysToHold_66 F y3_31 (p_X7_waysToHold_31 F p1 p2 x_now_cats f_now_place f_purrs f_now_load Post n) Post u_63))))))))) := rfl
def p_X7_waysToHold_22 (F : Nat) (y3_2 : Int32) (f_ways_2 : Nat → Int64) (k2 : Int32 → (Nat → Int64) → Prop) (Post : Int64 → (Nat → Int64) → Prop) (s2_22 : Int64) : Prop := (vp_in y3_2 73 ∧ (k2 (y3_2 + (1 : Int32)) (vp_updL f_ways_2 y3_2.toNatClampNeg s2_22)))
noncomputable def p_X7_waysToHold_2 (F : Nat) (p1 : Int32) (p2 : Int32) (x_now_cats : Int32) (f_now_place : Nat → Int32) (f_purrs : Nat → Int32) (f_now_load : Nat → Int32) (Post : Int64 → (Nat → Int64) → Prop) (n : Nat) : Int32 → (Nat → Int64) → Prop := Nat.rec (motive := fun _ => Int32 → (Nat → Int64) → Prop) (fun _ _ => False) (fun _ k2 => fun (y3_2 : Int32) (f_ways_2 : Nat → Int64) => (((72 : Int32) < y3_2 → (p_X7_waysToHold_31 F p1 p2 x_now_cats f_now_place f_purrs f_now_load Post F (0 : Int32) f_ways_2)) ∧ (¬ (72 : Int32) < y3_2 → ((¬ y3_2 = 0 → (p_X7_waysToHold_22 F y3_2 f_ways_2 k2 Post (0 : Int64))) ∧ (y3_2 = 0 → (p_X7_waysToHold_22 F y3_2 f_ways_2 k2 Post (1 : Int64))))))) n
theorem p_X7_waysToHold_2_s (F : Nat) (p1 : Int32) (p2 : Int32) (x_now_cats : Int32) (f_now_place : Nat → Int32) (f_purrs : Nat → Int32) (f_now_load : Nat → Int32) (Post : Int64 → (Nat → Int64) → Prop) (n : Nat) (y3_2 : Int32) (f_ways_2 : Nat → Int64) : p_X7_waysToHold_2 F p1 p2 x_now_cats f_now_place f_purrs f_now_load Post (n + 1) y3_2 f_ways_2 = (((72 : Int32) < y3_2 → (p_X7_waysToHold_31 F p1 p2 x_now_cats f_now_place f_purrs f_now_load Post F (0 : Int32) f_ways_2)) ∧ (¬ (72 : Int32) < y3_2 → ((¬ y3_2 = 0 → (p_X7_waysToHold_22 F y3_2 f_ways_2 (p_X7_waysToHold_2 F p1 p2 x_now_cats f_now_place f_purrs f_now_load Post n) Post (0 : Int64))) ∧ (y3_2 = 0 → (p_X7_waysToHold_22 F y3_2 f_ways_2 (p_X7_waysToHold_2 F p1 p2 x_now_cats f_now_place f_purrs f_now_load Post n) Post (1 : Int64)))))) := rfl
def p_X7_waysToHold (F : Nat) (p1 : Int32) (p2 : Int32) (f_ways : Nat → Int64) (x_now_cats : Int32) (f_now_place : Nat → Int32) (f_purrs : Nat → Int32) (f_now_load : Nat → Int32) (Post : Int64 → (Nat → Int64) → Prop) : Prop := (p_X7_waysToHold_2 F p1 p2 x_now_cats f_now_place f_purrs f_now_load Post F (0 : Int32) f_ways)
set_option maxHeartbeats 4000000 in
set_option maxRecDepth 100000 in
theorem c_X7_waysToHold (l : Launch) (D : va_G) (cT : Nat → ClassId) (F : Nat) (h : Nat) (p1 : Int32) (p2 : Int32) (w_text : Value) (w_told : Value) (q_now : Nat) (w_before : Value) (w_trial : Value) (w_past : Value) (w_kept : Value) (w_feltNotes : Value) (w_heardNotes : Value) (w_draws : Value) (q_purrs : Nat) (w_alone : Value) (w_nimbers : Value) (q_ways : Nat) (w_ruling : Value) (w_spare : Value) (f_ways : Nat → Int64) (q_now_load : Nat) (w_now_sag : Value) (w_now_joy : Value) (w_now_bowl : Value) (w_now_grief : Value) (q_now_place : Nat) (x_now_arches : Int32) (x_now_cats : Int32) (x_now_store : Int32) (x_now_hour : Int32) (x_now_drops : Int32) (f_now_place : Nat → Int32) (f_purrs : Nat → Int32) (f_now_load : Nat → Int32) (Post : Int64 → (Nat → Int64) → Prop) (hg : p_X7_waysToHold F p1 p2 f_ways x_now_cats f_now_place f_purrs f_now_load Post) : MWl l D cT yX7_waysToHold cX7_waysToHold 6 (some .long) 1 25 0 0 [.ref h, .int p1, .int p2] [(h, oX7 w_text w_told (.ref q_now) w_before w_trial w_past w_kept w_feltNotes w_heardNotes w_draws (.ref q_purrs) w_alone w_nimbers (.ref q_ways) w_ruling w_spare), (q_ways, aJ cT 73 f_ways), (q_now, oX6 (.ref q_now_load) w_now_sag w_now_joy w_now_bowl w_now_grief (.ref q_now_place) (.int x_now_arches) (.int x_now_cats) (.int x_now_store) (.int x_now_hour) (.int x_now_drops)), (q_now_place, aI cT 8 f_now_place), (q_purrs, aI cT 8 f_purrs), (q_now_load, aI cT 6 f_now_load)] Post (fun (u : (Nat → Int64)) => [(h, oX7 w_text w_told (.ref q_now) w_before w_trial w_past w_kept w_feltNotes w_heardNotes w_draws (.ref q_purrs) w_alone w_nimbers (.ref q_ways) w_ruling w_spare), (q_ways, aJ cT 73 u), (q_now, oX6 (.ref q_now_load) w_now_sag w_now_joy w_now_bowl w_now_grief (.ref q_now_place) (.int x_now_arches) (.int x_now_cats) (.int x_now_store) (.int x_now_hour) (.int x_now_drops)), (q_now_place, aI cT 8 f_now_place), (q_purrs, aI cT 8 f_purrs), (q_now_load, aI cT 6 f_now_load)]) := by
  refine MWl.of (by decide) (Nat.le_of_ble_eq_true rfl) ?_
  intro p e s m below meth c A hA C0 hnm hr hP hD ls hl
  have hl : lv_has ls 6 [(0, .ref h), (1, .int p1), (2, .int p2)] := hl
  have hx := C0.x
  have hb := C0.b
  have hS : va_S A s.heap s.heap [] := va_S.rf
  have hP : va_P D cls9 [(h, oX7 w_text w_told (.ref q_now) w_before w_trial w_past w_kept w_feltNotes w_heardNotes w_draws (.ref q_purrs) w_alone w_nimbers (.ref q_ways) w_ruling w_spare), (q_ways, aJ cT 73 f_ways), (q_now, oX6 (.ref q_now_load) w_now_sag w_now_joy w_now_bowl w_now_grief (.ref q_now_place) (.int x_now_arches) (.int x_now_cats) (.int x_now_store) (.int x_now_hour) (.int x_now_drops)), (q_now_place, aI cT 8 f_now_place), (q_purrs, aI cT 8 f_purrs), (q_now_load, aI cT 6 f_now_load)] s.heap := hP
  have hD : va_D A [(h, oX7 w_text w_told (.ref q_now) w_before w_trial w_past w_kept w_feltNotes w_heardNotes w_draws (.ref q_purrs) w_alone w_nimbers (.ref q_ways) w_ruling w_spare), (q_ways, aJ cT 73 f_ways), (q_now, oX6 (.ref q_now_load) w_now_sag w_now_joy w_now_bowl w_now_grief (.ref q_now_place) (.int x_now_arches) (.int x_now_cats) (.int x_now_store) (.int x_now_hour) (.int x_now_drops)), (q_now_place, aI cT 8 f_now_place), (q_purrs, aI cT 8 f_purrs), (q_now_load, aI cT 6 f_now_load)] := hD
  have L85 : ∀ (f_ways_31 : Nat → Int64) (n85 : Nat) (y5_85 : Int32) (y3_85 : Int64) (H : Heap) (locs : List Loc) (ls : Array Slot), p_X7_waysToHold_85 F f_ways_31 Post n85 y5_85 y3_85 → va_P D cls9 [(h, oX7 w_text w_told (.ref q_now) w_before w_trial w_past w_kept w_feltNotes w_heardNotes w_draws (.ref q_purrs) w_alone w_nimbers (.ref q_ways) w_ruling w_spare), (q_ways, aJ cT 73 f_ways_31), (q_now, oX6 (.ref q_now_load) w_now_sag w_now_joy w_now_bowl w_now_grief (.ref q_now_place) (.int x_now_arches) (.int x_now_cats) (.int x_now_store) (.int x_now_hour) (.int x_now_drops)), (q_now_place, aI cT 8 f_now_place), (q_purrs, aI cT 8 f_purrs), (q_now_load, aI cT 6 f_now_load)] H → va_D A [(h, oX7 w_text w_told (.ref q_now) w_before w_trial w_past w_kept w_feltNotes w_heardNotes w_draws (.ref q_purrs) w_alone w_nimbers (.ref q_ways) w_ruling w_spare), (q_ways, aJ cT 73 f_ways_31), (q_now, oX6 (.ref q_now_load) w_now_sag w_now_joy w_now_bowl w_now_grief (.ref q_now_place) (.int x_now_arches) (.int x_now_cats) (.int x_now_store) (.int x_now_hour) (.int x_now_drops)), (q_now_place, aI cT 8 f_now_place), (q_purrs, aI cT 8 f_purrs), (q_now_load, aI cT 6 f_now_load)] → va_S A s.heap H locs → lv_has ls 6 [(0, .ref h), (3, .long y3_85), (5, .int y5_85)] → W p l e (rmO 1 25 0 0) s m ([.ref h, .int p1, .int p2] : List Value).toArray below meth c H locs 0 0 (MQ below (va_Ql Post (cB D A (fun (u : (Nat → Int64)) => [(h, oX7 w_text w_told (.ref q_now) w_before w_trial w_past w_kept w_feltNotes w_heardNotes w_draws (.ref q_purrs) w_alone w_nimbers (.ref q_ways) w_ruling w_spare), (q_ways, aJ cT 73 u), (q_now, oX6 (.ref q_now_load) w_now_sag w_now_joy w_now_bowl w_now_grief (.ref q_now_place) (.int x_now_arches) (.int x_now_cats) (.int x_now_store) (.int x_now_hour) (.int x_now_drops)), (q_now_place, aI cT 8 f_now_place), (q_purrs, aI cT 8 f_purrs), (q_now_load, aI cT 6 f_now_load)])) A) ([.ref h, .int p1, .int p2] : List Value).toArray s 0 0 A) (F0 m 85 ls []) := by
    intro f_ways_31 n85
    induction n85 with
    | zero =>
      intro y5_85 y3_85 H locs ls hg hP hD hS hl
      exact False.elim hg
    | succ n85 ih85 =>
      intro y5_85 y3_85 H locs ls hg hP hD hS hl
      rw [p_X7_waysToHold_85_s] at hg
      refine lv_iload hx hb dX7_waysToHold_85 (lv_at hl 2 rfl) ?_
      refine lv_bipush (v := (72 : Int32)) hx hb dX7_waysToHold_87 (by decide) ?_
      refine lv_icmp_gt (tgt := 108) hx hb dX7_waysToHold_89 (by decide) (fun c_89 => ?_) (fun c_89 => ?_)
      · have hg := hg.1 c_89
        refine lv_lload_n hx hb dX7_waysToHold_108 rfl (lv_at hl 1 rfl) ?_
        exact k_lret C0 hr f_ways_31 hg hP hD hS dX7_waysToHold_109
      have hg := hg.2 c_89
      refine lv_lload_n hx hb dX7_waysToHold_92 rfl (lv_at hl 1 rfl) ?_
      refine lv_aload_n hx hb dX7_waysToHold_93 rfl (lv_at hl 0 rfl) ?_
      refine gf_X7_76 C0 hP 0 rfl rfl dX7_waysToHold_94 ?_
      refine lv_iload hx hb dX7_waysToHold_97 (lv_at hl 2 rfl) ?_
      obtain ⟨g_99, hg⟩ := hg
      refine k_lald C0 hP 1 rfl g_99 dX7_waysToHold_99 ?_
      refine lv_ladd hx hb dX7_waysToHold_100 ?_
      refine lv_lstore_n (lv' := [(3, .long (y3_85 + (f_ways_31 y5_85.toNatClampNeg))), (0, .ref h), (5, .int y5_85)]) hx hb dX7_waysToHold_101 rfl hl (by decide) rfl (fun ls hl => ?_)
      refine lv_iinc (v := (y5_85 + (1 : Int32))) (lv' := [(5, .int (y5_85 + (1 : Int32))), (3, .long (y3_85 + (f_ways_31 y5_85.toNatClampNeg))), (0, .ref h)]) hx hb dX7_waysToHold_102 hl (k := 2) rfl rfl (by decide) rfl (fun ls hl => ?_)
      refine lv_goto (tgt := 85) hx hb dX7_waysToHold_105 (by decide) ?_
      exact ih85 (y5_85 + (1 : Int32)) (y3_85 + (f_ways_31 y5_85.toNatClampNeg)) _ _ _ hg hP hD hS (lv_sub hl [2, 1, 0] rfl)
  have L31 : ∀ (n31 : Nat) (y3_31 : Int32) (f_ways_31 : Nat → Int64) (H : Heap) (locs : List Loc) (ls : Array Slot), p_X7_waysToHold_31 F p1 p2 x_now_cats f_now_place f_purrs f_now_load Post n31 y3_31 f_ways_31 → va_P D cls9 [(h, oX7 w_text w_told (.ref q_now) w_before w_trial w_past w_kept w_feltNotes w_heardNotes w_draws (.ref q_purrs) w_alone w_nimbers (.ref q_ways) w_ruling w_spare), (q_ways, aJ cT 73 f_ways_31), (q_now, oX6 (.ref q_now_load) w_now_sag w_now_joy w_now_bowl w_now_grief (.ref q_now_place) (.int x_now_arches) (.int x_now_cats) (.int x_now_store) (.int x_now_hour) (.int x_now_drops)), (q_now_place, aI cT 8 f_now_place), (q_purrs, aI cT 8 f_purrs), (q_now_load, aI cT 6 f_now_load)] H → va_D A [(h, oX7 w_text w_told (.ref q_now) w_before w_trial w_past w_kept w_feltNotes w_heardNotes w_draws (.ref q_purrs) w_alone w_nimbers (.ref q_ways) w_ruling w_spare), (q_ways, aJ cT 73 f_ways_31), (q_now, oX6 (.ref q_now_load) w_now_sag w_now_joy w_now_bowl w_now_grief (.ref q_now_place) (.int x_now_arches) (.int x_now_cats) (.int x_now_store) (.int x_now_hour) (.int x_now_drops)), (q_now_place, aI cT 8 f_now_place), (q_purrs, aI cT 8 f_purrs), (q_now_load, aI cT 6 f_now_load)] → va_S A s.heap H locs → lv_has ls 6 [(0, .ref h), (1, .int p1), (2, .int p2), (3, .int y3_31)] → W p l e (rmO 1 25 0 0) s m ([.ref h, .int p1, .int p2] : List Value).toArray below meth c H locs 0 0 (MQ below (va_Ql Post (cB D A (fun (u : (Nat → Int64)) => [(h, oX7 w_text w_told (.ref q_now) w_before w_trial w_past w_kept w_feltNotes w_heardNotes w_draws (.ref q_purrs) w_alone w_nimbers (.ref q_ways) w_ruling w_spare), (q_ways, aJ cT 73 u), (q_now, oX6 (.ref q_now_load) w_now_sag w_now_joy w_now_bowl w_now_grief (.ref q_now_place) (.int x_now_arches) (.int x_now_cats) (.int x_now_store) (.int x_now_hour) (.int x_now_drops)), (q_now_place, aI cT 8 f_now_place), (q_purrs, aI cT 8 f_purrs), (q_now_load, aI cT 6 f_now_load)])) A) ([.ref h, .int p1, .int p2] : List Value).toArray s 0 0 A) (F0 m 31 ls []) := by
    intro n31
    induction n31 with
    | zero =>
      intro y3_31 f_ways_31 H locs ls hg hP hD hS hl
      exact False.elim hg
    | succ n31 ih31 =>
      have L66 : ∀ (y3_31 : Int32) (f_ways_66 : Nat → Int64) (H : Heap) (locs : List Loc) (ls : Array Slot), p_X7_waysToHold_66 F y3_31 (p_X7_waysToHold_31 F p1 p2 x_now_cats f_now_place f_purrs f_now_load Post n31) Post f_ways_66 → va_P D cls9 [(h, oX7 w_text w_told (.ref q_now) w_before w_trial w_past w_kept w_feltNotes w_heardNotes w_draws (.ref q_purrs) w_alone w_nimbers (.ref q_ways) w_ruling w_spare), (q_ways, aJ cT 73 f_ways_66), (q_now, oX6 (.ref q_now_load) w_now_sag w_now_joy w_now_bowl w_now_grief (.ref q_now_place) (.int x_now_arches) (.int x_now_cats) (.int x_now_store) (.int x_now_hour) (.int x_now_drops)), (q_now_place, aI cT 8 f_now_place), (q_purrs, aI cT 8 f_purrs), (q_now_load, aI cT 6 f_now_load)] H → va_D A [(h, oX7 w_text w_told (.ref q_now) w_before w_trial w_past w_kept w_feltNotes w_heardNotes w_draws (.ref q_purrs) w_alone w_nimbers (.ref q_ways) w_ruling w_spare), (q_ways, aJ cT 73 f_ways_66), (q_now, oX6 (.ref q_now_load) w_now_sag w_now_joy w_now_bowl w_now_grief (.ref q_now_place) (.int x_now_arches) (.int x_now_cats) (.int x_now_store) (.int x_now_hour) (.int x_now_drops)), (q_now_place, aI cT 8 f_now_place), (q_purrs, aI cT 8 f_purrs), (q_now_load, aI cT 6 f_now_load)] → va_S A s.heap H locs → lv_has ls 6 [(0, .ref h), (1, .int p1), (2, .int p2), (3, .int y3_31)] → W p l e (rmO 1 25 0 0) s m ([.ref h, .int p1, .int p2] : List Value).toArray below meth c H locs 0 0 (MQ below (va_Ql Post (cB D A (fun (u : (Nat → Int64)) => [(h, oX7 w_text w_told (.ref q_now) w_before w_trial w_past w_kept w_feltNotes w_heardNotes w_draws (.ref q_purrs) w_alone w_nimbers (.ref q_ways) w_ruling w_spare), (q_ways, aJ cT 73 u), (q_now, oX6 (.ref q_now_load) w_now_sag w_now_joy w_now_bowl w_now_grief (.ref q_now_place) (.int x_now_arches) (.int x_now_cats) (.int x_now_store) (.int x_now_hour) (.int x_now_drops)), (q_now_place, aI cT 8 f_now_place), (q_purrs, aI cT 8 f_purrs), (q_now_load, aI cT 6 f_now_load)])) A) ([.ref h, .int p1, .int p2] : List Value).toArray s 0 0 A) (F0 m 66 ls []) := by
        intro y3_31 f_ways_66 H locs ls hg hP hD hS hl
        unfold p_X7_waysToHold_66 at hg
        refine lv_iinc (v := (y3_31 + (1 : Int32))) (lv' := [(3, .int (y3_31 + (1 : Int32))), (0, .ref h), (1, .int p1), (2, .int p2)]) hx hb dX7_waysToHold_66 hl (k := 3) rfl rfl (by decide) rfl (fun ls hl => ?_)
        refine lv_goto (tgt := 31) hx hb dX7_waysToHold_69 (by decide) ?_
        exact ih31 (y3_31 + (1 : Int32)) f_ways_66 _ _ _ hg hP hD hS (lv_sub hl [1, 2, 3, 0] rfl)
      intro y3_31 f_ways_31 H locs ls hg hP hD hS hl
      rw [p_X7_waysToHold_31_s] at hg
      refine lv_iload_n hx hb dX7_waysToHold_31 rfl (lv_at hl 3 rfl) ?_
      refine lv_aload_n hx hb dX7_waysToHold_32 rfl (lv_at hl 0 rfl) ?_
      refine gf_X7_26 C0 hP 0 rfl rfl dX7_waysToHold_33 ?_
      refine gf_X7_118 C0 hP 2 rfl rfl dX7_waysToHold_36 ?_
      refine lv_icmp_ge (tgt := 72) hx hb dX7_waysToHold_39 (by decide) (fun c_39 => ?_) (fun c_39 => ?_)
      · have hg := hg.1 c_39
        refine lv_lconst (v := (0 : Int64)) hx hb dX7_waysToHold_72 (by decide) ?_
        refine lv_lstore_n (lv' := [(3, .long (0 : Int64)), (0, .ref h), (1, .int p1), (2, .int p2)]) hx hb dX7_waysToHold_73 rfl hl (by decide) rfl (fun ls hl => ?_)
        refine lv_aload_n hx hb dX7_waysToHold_74 rfl (lv_at hl 1 rfl) ?_
        refine gf_X7_26 C0 hP 0 rfl rfl dX7_waysToHold_75 ?_
        refine gf_X7_140 C0 hP 2 rfl rfl dX7_waysToHold_78 ?_
        refine lv_iload_n hx hb dX7_waysToHold_81 rfl (lv_at hl 2 rfl) ?_
        obtain ⟨g_82, hg⟩ := hg
        refine k_iald C0 hP 5 rfl g_82 dX7_waysToHold_82 ?_
        refine lv_istore (lv' := [(5, .int (f_now_load p1.toNatClampNeg)), (3, .long (0 : Int64)), (0, .ref h), (1, .int p1), (2, .int p2)]) hx hb dX7_waysToHold_83 hl (by decide) rfl (fun ls hl => ?_)
        exact L85 f_ways_31 F (f_now_load p1.toNatClampNeg) (0 : Int64) _ _ _ hg hP hD hS (lv_sub hl [2, 1, 0] rfl)
      have hg := hg.2 c_39
      refine lv_aload_n hx hb dX7_waysToHold_42 rfl (lv_at hl 0 rfl) ?_
      refine gf_X7_26 C0 hP 0 rfl rfl dX7_waysToHold_43 ?_
      refine gf_X7_168 C0 hP 2 rfl rfl dX7_waysToHold_46 ?_
      refine lv_iload_n hx hb dX7_waysToHold_49 rfl (lv_at hl 3 rfl) ?_
      obtain ⟨g_50, hg⟩ := hg
      refine k_iald C0 hP 3 rfl g_50 dX7_waysToHold_50 ?_
      refine lv_iload_n hx hb dX7_waysToHold_51 rfl (lv_at hl 1 rfl) ?_
      refine lv_icmp_ne (tgt := 66) hx hb dX7_waysToHold_52 (by decide) (fun c_52 => ?_) (fun c_52 => ?_)
      · have hg := hg.1 c_52
        exact L66 y3_31 f_ways_31 _ _ _ hg hP hD hS hl
      have hg := hg.2 c_52
      refine lv_aload_n hx hb dX7_waysToHold_55 rfl (lv_at hl 0 rfl) ?_
      refine lv_aload_n hx hb dX7_waysToHold_56 rfl (lv_at hl 0 rfl) ?_
      refine gf_X7_66 C0 hP 0 rfl rfl dX7_waysToHold_57 ?_
      refine lv_iload_n hx hb dX7_waysToHold_60 rfl (lv_at hl 3 rfl) ?_
      obtain ⟨g_61, hg⟩ := hg
      refine k_iald C0 hP 4 rfl g_61 dX7_waysToHold_61 ?_
      refine lv_iload_n hx hb dX7_waysToHold_62 rfl (lv_at hl 2 rfl) ?_
      refine k_Vv (rest := []) (wr := [(q_now, oX6 (.ref q_now_load) w_now_sag w_now_joy w_now_bowl w_now_grief (.ref q_now_place) (.int x_now_arches) (.int x_now_cats) (.int x_now_store) (.int x_now_hour) (.int x_now_drops)), (q_now_place, aI cT 8 f_now_place), (q_purrs, aI cT 8 f_purrs), (q_now_load, aI cT 6 f_now_load)]) (w2 := fun u_63 => [(q_now, oX6 (.ref q_now_load) w_now_sag w_now_joy w_now_bowl w_now_grief (.ref q_now_place) (.int x_now_arches) (.int x_now_cats) (.int x_now_store) (.int x_now_hour) (.int x_now_drops)), (q_now_place, aI cT 8 f_now_place), (q_purrs, aI cT 8 f_purrs), (q_now_load, aI cT 6 f_now_load), (h, oX7 w_text w_told (.ref q_now) w_before w_trial w_past w_kept w_feltNotes w_heardNotes w_draws (.ref q_purrs) w_alone w_nimbers (.ref q_ways) w_ruling w_spare), (q_ways, aJ cT 73 u_63)]) C0 lk_X7_363 (c_X7_addToWays l D cT F h (f_purrs y3_31.toNatClampNeg) p2 w_text w_told (.ref q_now) w_before w_trial w_past w_kept w_feltNotes w_heardNotes w_draws (.ref q_purrs) w_alone w_nimbers q_ways w_ruling w_spare f_ways_31 _ hg) hP hD hS hA [0, 1] [2, 3, 4, 5] (by decide +kernel) rfl rfl (fun _ => rfl) rfl rfl ⟨Nat.le_of_ble_eq_true rfl, Nat.le_of_ble_eq_true rfl⟩ rfl hl.1 rfl (Nat.le_of_ble_eq_true rfl) dX7_waysToHold_63 ⟨Nat.le_of_ble_eq_true rfl, Nat.le_of_ble_eq_true rfl⟩ ?_
      intro u_63 H locs hg hP hD hS
      exact L66 y3_31 u_63 _ _ _ hg (subP hP [4, 5, 0, 1, 2, 3] rfl) (hD.sub [4, 5, 0, 1, 2, 3] (nd2_ok _ (by decide +kernel)) rfl) hS hl
  have L2 : ∀ (n2 : Nat) (y3_2 : Int32) (f_ways_2 : Nat → Int64) (H : Heap) (locs : List Loc) (ls : Array Slot), p_X7_waysToHold_2 F p1 p2 x_now_cats f_now_place f_purrs f_now_load Post n2 y3_2 f_ways_2 → va_P D cls9 [(h, oX7 w_text w_told (.ref q_now) w_before w_trial w_past w_kept w_feltNotes w_heardNotes w_draws (.ref q_purrs) w_alone w_nimbers (.ref q_ways) w_ruling w_spare), (q_ways, aJ cT 73 f_ways_2), (q_now, oX6 (.ref q_now_load) w_now_sag w_now_joy w_now_bowl w_now_grief (.ref q_now_place) (.int x_now_arches) (.int x_now_cats) (.int x_now_store) (.int x_now_hour) (.int x_now_drops)), (q_now_place, aI cT 8 f_now_place), (q_purrs, aI cT 8 f_purrs), (q_now_load, aI cT 6 f_now_load)] H → va_D A [(h, oX7 w_text w_told (.ref q_now) w_before w_trial w_past w_kept w_feltNotes w_heardNotes w_draws (.ref q_purrs) w_alone w_nimbers (.ref q_ways) w_ruling w_spare), (q_ways, aJ cT 73 f_ways_2), (q_now, oX6 (.ref q_now_load) w_now_sag w_now_joy w_now_bowl w_now_grief (.ref q_now_place) (.int x_now_arches) (.int x_now_cats) (.int x_now_store) (.int x_now_hour) (.int x_now_drops)), (q_now_place, aI cT 8 f_now_place), (q_purrs, aI cT 8 f_purrs), (q_now_load, aI cT 6 f_now_load)] → va_S A s.heap H locs → lv_has ls 6 [(0, .ref h), (1, .int p1), (2, .int p2), (3, .int y3_2)] → W p l e (rmO 1 25 0 0) s m ([.ref h, .int p1, .int p2] : List Value).toArray below meth c H locs 0 0 (MQ below (va_Ql Post (cB D A (fun (u : (Nat → Int64)) => [(h, oX7 w_text w_told (.ref q_now) w_before w_trial w_past w_kept w_feltNotes w_heardNotes w_draws (.ref q_purrs) w_alone w_nimbers (.ref q_ways) w_ruling w_spare), (q_ways, aJ cT 73 u), (q_now, oX6 (.ref q_now_load) w_now_sag w_now_joy w_now_bowl w_now_grief (.ref q_now_place) (.int x_now_arches) (.int x_now_cats) (.int x_now_store) (.int x_now_hour) (.int x_now_drops)), (q_now_place, aI cT 8 f_now_place), (q_purrs, aI cT 8 f_purrs), (q_now_load, aI cT 6 f_now_load)])) A) ([.ref h, .int p1, .int p2] : List Value).toArray s 0 0 A) (F0 m 2 ls []) := by
    intro n2
    induction n2 with
    | zero =>
      intro y3_2 f_ways_2 H locs ls hg hP hD hS hl
      exact False.elim hg
    | succ n2 ih2 =>
      have L22 : ∀ (y3_2 : Int32) (f_ways_2 : Nat → Int64) (s2_22 : Int64) (H : Heap) (locs : List Loc) (ls : Array Slot), p_X7_waysToHold_22 F y3_2 f_ways_2 (p_X7_waysToHold_2 F p1 p2 x_now_cats f_now_place f_purrs f_now_load Post n2) Post s2_22 → va_P D cls9 [(h, oX7 w_text w_told (.ref q_now) w_before w_trial w_past w_kept w_feltNotes w_heardNotes w_draws (.ref q_purrs) w_alone w_nimbers (.ref q_ways) w_ruling w_spare), (q_ways, aJ cT 73 f_ways_2), (q_now, oX6 (.ref q_now_load) w_now_sag w_now_joy w_now_bowl w_now_grief (.ref q_now_place) (.int x_now_arches) (.int x_now_cats) (.int x_now_store) (.int x_now_hour) (.int x_now_drops)), (q_now_place, aI cT 8 f_now_place), (q_purrs, aI cT 8 f_purrs), (q_now_load, aI cT 6 f_now_load)] H → va_D A [(h, oX7 w_text w_told (.ref q_now) w_before w_trial w_past w_kept w_feltNotes w_heardNotes w_draws (.ref q_purrs) w_alone w_nimbers (.ref q_ways) w_ruling w_spare), (q_ways, aJ cT 73 f_ways_2), (q_now, oX6 (.ref q_now_load) w_now_sag w_now_joy w_now_bowl w_now_grief (.ref q_now_place) (.int x_now_arches) (.int x_now_cats) (.int x_now_store) (.int x_now_hour) (.int x_now_drops)), (q_now_place, aI cT 8 f_now_place), (q_purrs, aI cT 8 f_purrs), (q_now_load, aI cT 6 f_now_load)] → va_S A s.heap H locs → lv_has ls 6 [(0, .ref h), (1, .int p1), (2, .int p2), (3, .int y3_2)] → W p l e (rmO 1 25 0 0) s m ([.ref h, .int p1, .int p2] : List Value).toArray below meth c H locs 0 0 (MQ below (va_Ql Post (cB D A (fun (u : (Nat → Int64)) => [(h, oX7 w_text w_told (.ref q_now) w_before w_trial w_past w_kept w_feltNotes w_heardNotes w_draws (.ref q_purrs) w_alone w_nimbers (.ref q_ways) w_ruling w_spare), (q_ways, aJ cT 73 u), (q_now, oX6 (.ref q_now_load) w_now_sag w_now_joy w_now_bowl w_now_grief (.ref q_now_place) (.int x_now_arches) (.int x_now_cats) (.int x_now_store) (.int x_now_hour) (.int x_now_drops)), (q_now_place, aI cT 8 f_now_place), (q_purrs, aI cT 8 f_purrs), (q_now_load, aI cT 6 f_now_load)])) A) ([.ref h, .int p1, .int p2] : List Value).toArray s 0 0 A) (F0 m 22 ls [.long s2_22, .int y3_2, .ref q_ways]) := by
        intro y3_2 f_ways_2 s2_22 H locs ls hg hP hD hS hl
        unfold p_X7_waysToHold_22 at hg
        obtain ⟨g_22, hg⟩ := hg
        refine k_last C0 hP hD hS 1 rfl g_22 (ws' := [(h, oX7 w_text w_told (.ref q_now) w_before w_trial w_past w_kept w_feltNotes w_heardNotes w_draws (.ref q_purrs) w_alone w_nimbers (.ref q_ways) w_ruling w_spare), (q_ways, aJ cT 73 (vp_updL f_ways_2 y3_2.toNatClampNeg s2_22)), (q_now, oX6 (.ref q_now_load) w_now_sag w_now_joy w_now_bowl w_now_grief (.ref q_now_place) (.int x_now_arches) (.int x_now_cats) (.int x_now_store) (.int x_now_hour) (.int x_now_drops)), (q_now_place, aI cT 8 f_now_place), (q_purrs, aI cT 8 f_purrs), (q_now_load, aI cT 6 f_now_load)]) rfl dX7_waysToHold_22 (fun H locs hP hD hS => ?_)
        refine lv_iinc (v := (y3_2 + (1 : Int32))) (lv' := [(3, .int (y3_2 + (1 : Int32))), (0, .ref h), (1, .int p1), (2, .int p2)]) hx hb dX7_waysToHold_23 hl (k := 3) rfl rfl (by decide) rfl (fun ls hl => ?_)
        refine lv_goto (tgt := 2) hx hb dX7_waysToHold_26 (by decide) ?_
        exact ih2 (y3_2 + (1 : Int32)) (vp_updL f_ways_2 y3_2.toNatClampNeg s2_22) _ _ _ hg hP hD hS (lv_sub hl [1, 2, 3, 0] rfl)
      intro y3_2 f_ways_2 H locs ls hg hP hD hS hl
      rw [p_X7_waysToHold_2_s] at hg
      refine lv_iload_n hx hb dX7_waysToHold_2 rfl (lv_at hl 3 rfl) ?_
      refine lv_bipush (v := (72 : Int32)) hx hb dX7_waysToHold_3 (by decide) ?_
      refine lv_icmp_gt (tgt := 29) hx hb dX7_waysToHold_5 (by decide) (fun c_5 => ?_) (fun c_5 => ?_)
      · have hg := hg.1 c_5
        refine lv_iconst (v := (0 : Int32)) hx hb dX7_waysToHold_29 (by decide) ?_
        refine lv_istore_n (lv' := [(3, .int (0 : Int32)), (0, .ref h), (1, .int p1), (2, .int p2)]) hx hb dX7_waysToHold_30 rfl hl (by decide) rfl (fun ls hl => ?_)
        exact L31 F (0 : Int32) f_ways_2 _ _ _ hg hP hD hS (lv_sub hl [1, 2, 3, 0] rfl)
      have hg := hg.2 c_5
      refine lv_aload_n hx hb dX7_waysToHold_8 rfl (lv_at hl 0 rfl) ?_
      refine gf_X7_76 C0 hP 0 rfl rfl dX7_waysToHold_9 ?_
      refine lv_iload_n hx hb dX7_waysToHold_12 rfl (lv_at hl 3 rfl) ?_
      refine lv_iload_n hx hb dX7_waysToHold_13 rfl (lv_at hl 3 rfl) ?_
      refine lv_if_ne (tgt := 21) hx hb dX7_waysToHold_14 (by decide) (fun c_14 => ?_) (fun c_14 => ?_)
      · have hg := hg.1 c_14
        refine lv_lconst (v := (0 : Int64)) hx hb dX7_waysToHold_21 (by decide) ?_
        exact L22 y3_2 f_ways_2 (0 : Int64) _ _ _ hg hP hD hS hl
      have hg := hg.2 c_14
      refine lv_lconst (v := (1 : Int64)) hx hb dX7_waysToHold_17 (by decide) ?_
      refine lv_goto (tgt := 22) hx hb dX7_waysToHold_18 (by decide) ?_
      exact L22 y3_2 f_ways_2 (1 : Int64) _ _ _ hg hP hD hS hl
  unfold p_X7_waysToHold at hg
  refine lv_iconst (v := (0 : Int32)) hx hb dX7_waysToHold_0 (by decide) ?_
  refine lv_istore_n (lv' := [(3, .int (0 : Int32)), (0, .ref h), (1, .int p1), (2, .int p2)]) hx hb dX7_waysToHold_1 rfl hl (by decide) rfl (fun ls hl => ?_)
  exact L2 F (0 : Int32) f_ways _ _ _ hg hP hD hS (lv_sub hl [1, 2, 3, 0] rfl)
theorem dX7_tensFor_0 : decode cX7_tensFor 0 = .ok (.lconst 1, 1) := by decide +kernel
theorem dX7_tensFor_1 : decode cX7_tensFor 1 = .ok (.lstore_n 1, 1) := by decide +kernel
theorem dX7_tensFor_2 : decode cX7_tensFor 2 = .ok (.iconst 0, 1) := by decide +kernel
theorem dX7_tensFor_3 : decode cX7_tensFor 3 = .ok (.istore_n 3, 1) := by decide +kernel
theorem dX7_tensFor_4 : decode cX7_tensFor 4 = .ok (.iload_n 3, 1) := by decide +kernel
theorem dX7_tensFor_5 : decode cX7_tensFor 5 = .ok (.iload_n 0, 1) := by decide +kernel
theorem dX7_tensFor_6 : decode cX7_tensFor 6 = .ok (.if_icmp .ge 15, 3) := by decide +kernel
theorem dX7_tensFor_9 : decode cX7_tensFor 9 = .ok (.lload_n 1, 1) := by decide +kernel
theorem dX7_tensFor_10 : decode cX7_tensFor 10 = .ok (.ldc2_w 367, 3) := by decide +kernel
theorem dX7_tensFor_13 : decode cX7_tensFor 13 = .ok (.lmul, 1) := by decide +kernel
theorem dX7_tensFor_14 : decode cX7_tensFor 14 = .ok (.lstore_n 1, 1) := by decide +kernel
theorem dX7_tensFor_15 : decode cX7_tensFor 15 = .ok (.iinc 3 1, 3) := by decide +kernel
theorem dX7_tensFor_18 : decode cX7_tensFor 18 = .ok (.goto (-14), 3) := by decide +kernel
theorem dX7_tensFor_21 : decode cX7_tensFor 21 = .ok (.lload_n 1, 1) := by decide +kernel
theorem dX7_tensFor_22 : decode cX7_tensFor 22 = .ok (.lreturn, 1) := by decide +kernel
noncomputable def p_X7_tensFor_4 (F : Nat) (p0 : Int32) (Post : Int64 → Prop) (n : Nat) : Int32 → Int64 → Prop := Nat.rec (motive := fun _ => Int32 → Int64 → Prop) (fun _ _ => False) (fun _ k4 => fun (y3_4 : Int32) (y1_4 : Int64) => ((p0 ≤ y3_4 → (Post y1_4)) ∧ (¬ p0 ≤ y3_4 → (k4 (y3_4 + (1 : Int32)) (y1_4 * (10 : Int64)))))) n
theorem p_X7_tensFor_4_s (F : Nat) (p0 : Int32) (Post : Int64 → Prop) (n : Nat) (y3_4 : Int32) (y1_4 : Int64) : p_X7_tensFor_4 F p0 Post (n + 1) y3_4 y1_4 = ((p0 ≤ y3_4 → (Post y1_4)) ∧ (¬ p0 ≤ y3_4 → ((p_X7_tensFor_4 F p0 Post n) (y3_4 + (1 : Int32)) (y1_4 * (10 : Int64))))) := rfl
def p_X7_tensFor (F : Nat) (p0 : Int32) (Post : Int64 → Prop) : Prop := (p_X7_tensFor_4 F p0 Post F (0 : Int32) (1 : Int64))
set_option maxHeartbeats 4000000 in
set_option maxRecDepth 100000 in
theorem c_X7_tensFor (l : Launch) (D : va_G) (cT : Nat → ClassId) (F : Nat) (p0 : Int32) (Post : Int64 → Prop) (hg : p_X7_tensFor F p0 Post) : MRl l D cT yX7_tensFor cX7_tensFor 4 (some .long) 0 0 [.int p0] [] Post := by
  refine MRl.of (by decide) (Nat.le_of_ble_eq_true rfl) ?_
  intro p e s m below meth c hA C0 hr hP hD hS ls hl
  have hl : lv_has ls 4 [(0, .int p0)] := hl
  have hx := C0.x
  have hb := C0.b
  have hP : va_P D cls9 [] s.heap := hP
  have hD : va_D (fun q => cT 6 ≤ q) [] := hD
  have L4 : ∀ (n4 : Nat) (y3_4 : Int32) (y1_4 : Int64) (ls : Array Slot), p_X7_tensFor_4 F p0 Post n4 y3_4 y1_4 → lv_has ls 4 [(0, .int p0), (1, .long y1_4), (3, .int y3_4)] → W p l e (rmO 0 0 0 0) s m ([.int p0] : List Value).toArray below meth c s.heap [] 0 0 (MQ below (vp_Sl Post) ([.int p0] : List Value).toArray s 0 0 (fun _ => False)) (F0 m 4 ls []) := by
    intro n4
    induction n4 with
    | zero =>
      intro y3_4 y1_4 ls hg hl
      exact False.elim hg
    | succ n4 ih4 =>
      intro y3_4 y1_4 ls hg hl
      rw [p_X7_tensFor_4_s] at hg
      refine lv_iload_n hx hb dX7_tensFor_4 rfl (lv_at hl 2 rfl) ?_
      refine lv_iload_n hx hb dX7_tensFor_5 rfl (lv_at hl 0 rfl) ?_
      refine lv_icmp_ge (tgt := 21) hx hb dX7_tensFor_6 (by decide) (fun c_6 => ?_) (fun c_6 => ?_)
      · have hg := hg.1 c_6
        refine lv_lload_n hx hb dX7_tensFor_21 rfl (lv_at hl 1 rfl) ?_
        exact k_xlret C0 hr hg dX7_tensFor_22
      have hg := hg.2 c_6
      refine lv_lload_n hx hb dX7_tensFor_9 rfl (lv_at hl 1 rfl) ?_
      refine lv_ldc2 (v := (10 : Int64)) hx hb C0.ow (C0.t w4_27) dX7_tensFor_10 ?_
      refine lv_lmul hx hb dX7_tensFor_13 ?_
      refine lv_lstore_n (lv' := [(1, .long (y1_4 * (10 : Int64))), (0, .int p0), (3, .int y3_4)]) hx hb dX7_tensFor_14 rfl hl (by decide) rfl (fun ls hl => ?_)
      refine lv_iinc (v := (y3_4 + (1 : Int32))) (lv' := [(3, .int (y3_4 + (1 : Int32))), (1, .long (y1_4 * (10 : Int64))), (0, .int p0)]) hx hb dX7_tensFor_15 hl (k := 2) rfl rfl (by decide) rfl (fun ls hl => ?_)
      refine lv_goto (tgt := 4) hx hb dX7_tensFor_18 (by decide) ?_
      exact ih4 (y3_4 + (1 : Int32)) (y1_4 * (10 : Int64)) _ hg (lv_sub hl [2, 1, 0] rfl)
  unfold p_X7_tensFor at hg
  refine lv_lconst (v := (1 : Int64)) hx hb dX7_tensFor_0 (by decide) ?_
  refine lv_lstore_n (lv' := [(1, .long (1 : Int64)), (0, .int p0)]) hx hb dX7_tensFor_1 rfl hl (by decide) rfl (fun ls hl => ?_)
  refine lv_iconst (v := (0 : Int32)) hx hb dX7_tensFor_2 (by decide) ?_
  refine lv_istore_n (lv' := [(3, .int (0 : Int32)), (1, .long (1 : Int64)), (0, .int p0)]) hx hb dX7_tensFor_3 rfl hl (by decide) rfl (fun ls hl => ?_)
  exact L4 F (0 : Int32) (1 : Int64) _ hg (lv_sub hl [2, 1, 0] rfl)
theorem dX7_tellFraction_0 : decode cX7_tellFraction 0 = .ok (.lload_n 1, 1) := by decide +kernel
theorem dX7_tellFraction_1 : decode cX7_tellFraction 1 = .ok (.lstore 5, 2) := by decide +kernel
theorem dX7_tellFraction_3 : decode cX7_tellFraction 3 = .ok (.lload_n 3, 1) := by decide +kernel
theorem dX7_tellFraction_4 : decode cX7_tellFraction 4 = .ok (.lstore 7, 2) := by decide +kernel
theorem dX7_tellFraction_6 : decode cX7_tellFraction 6 = .ok (.iconst 0, 1) := by decide +kernel
theorem dX7_tellFraction_7 : decode cX7_tellFraction 7 = .ok (.istore 9, 2) := by decide +kernel
theorem dX7_tellFraction_9 : decode cX7_tellFraction 9 = .ok (.iload 9, 2) := by decide +kernel
theorem dX7_tellFraction_11 : decode cX7_tellFraction 11 = .ok (.sipush 1000, 3) := by decide +kernel
theorem dX7_tellFraction_14 : decode cX7_tellFraction 14 = .ok (.if_icmp .ge 31, 3) := by decide +kernel
theorem dX7_tellFraction_17 : decode cX7_tellFraction 17 = .ok (.lload 5, 2) := by decide +kernel
theorem dX7_tellFraction_19 : decode cX7_tellFraction 19 = .ok (.lconst 0, 1) := by decide +kernel
theorem dX7_tellFraction_20 : decode cX7_tellFraction 20 = .ok (.lcmp, 1) := by decide +kernel
theorem dX7_tellFraction_21 : decode cX7_tellFraction 21 = .ok (.ifCond .le 24, 3) := by decide +kernel
theorem dX7_tellFraction_24 : decode cX7_tellFraction 24 = .ok (.lload 7, 2) := by decide +kernel
theorem dX7_tellFraction_26 : decode cX7_tellFraction 26 = .ok (.lload 5, 2) := by decide +kernel
theorem dX7_tellFraction_28 : decode cX7_tellFraction 28 = .ok (.lrem, 1) := by decide +kernel
theorem dX7_tellFraction_29 : decode cX7_tellFraction 29 = .ok (.lstore 10, 2) := by decide +kernel
theorem dX7_tellFraction_31 : decode cX7_tellFraction 31 = .ok (.lload 5, 2) := by decide +kernel
theorem dX7_tellFraction_33 : decode cX7_tellFraction 33 = .ok (.lstore 7, 2) := by decide +kernel
theorem dX7_tellFraction_35 : decode cX7_tellFraction 35 = .ok (.lload 10, 2) := by decide +kernel
theorem dX7_tellFraction_37 : decode cX7_tellFraction 37 = .ok (.lstore 5, 2) := by decide +kernel
theorem dX7_tellFraction_39 : decode cX7_tellFraction 39 = .ok (.iinc 9 1, 3) := by decide +kernel
theorem dX7_tellFraction_42 : decode cX7_tellFraction 42 = .ok (.goto (-33), 3) := by decide +kernel
theorem dX7_tellFraction_45 : decode cX7_tellFraction 45 = .ok (.lload 7, 2) := by decide +kernel
theorem dX7_tellFraction_47 : decode cX7_tellFraction 47 = .ok (.lconst 0, 1) := by decide +kernel
theorem dX7_tellFraction_48 : decode cX7_tellFraction 48 = .ok (.lcmp, 1) := by decide +kernel
theorem dX7_tellFraction_49 : decode cX7_tellFraction 49 = .ok (.ifCond .le 25, 3) := by decide +kernel
theorem dX7_tellFraction_52 : decode cX7_tellFraction 52 = .ok (.aload_n 0, 1) := by decide +kernel
theorem dX7_tellFraction_53 : decode cX7_tellFraction 53 = .ok (.getfield 19, 3) := by decide +kernel
theorem dX7_tellFraction_56 : decode cX7_tellFraction 56 = .ok (.invokevirtual 201, 3) := by decide +kernel
theorem dX7_tellFraction_59 : decode cX7_tellFraction 59 = .ok (.lload_n 1, 1) := by decide +kernel
theorem dX7_tellFraction_60 : decode cX7_tellFraction 60 = .ok (.lload 7, 2) := by decide +kernel
theorem dX7_tellFraction_62 : decode cX7_tellFraction 62 = .ok (.ldiv, 1) := by decide +kernel
theorem dX7_tellFraction_63 : decode cX7_tellFraction 63 = .ok (.invokevirtual 205, 3) := by decide +kernel
theorem dX7_tellFraction_66 : decode cX7_tellFraction 66 = .ok (.lload_n 3, 1) := by decide +kernel
theorem dX7_tellFraction_67 : decode cX7_tellFraction 67 = .ok (.lload 7, 2) := by decide +kernel
theorem dX7_tellFraction_69 : decode cX7_tellFraction 69 = .ok (.ldiv, 1) := by decide +kernel
theorem dX7_tellFraction_70 : decode cX7_tellFraction 70 = .ok (.invokevirtual 205, 3) := by decide +kernel
theorem dX7_tellFraction_73 : decode cX7_tellFraction 73 = .ok (.pop, 1) := by decide +kernel
theorem dX7_tellFraction_74 : decode cX7_tellFraction 74 = .ok (.return_, 1) := by decide +kernel
def p_X7_tellFraction_45 (F : Nat) (p1 : Int64) (p3 : Int64) (x_told_size : Int32) (f_told_numbers : Nat → Int64) (y7_9 : Int64) (Post : (Int32 × (Nat → Int64)) → Prop) : Prop := (((lg_cmp y7_9 (0 : Int64)) ≤ 0 → (Post (x_told_size, f_told_numbers))) ∧ (¬ (lg_cmp y7_9 (0 : Int64)) ≤ 0 → (p_X3_anew F (fun (u_56 : Int32) => (¬ y7_9 = 0 ∧ (p_X3_add F (p1 / y7_9) u_56 f_told_numbers (fun (u_63 : (Int32 × (Nat → Int64))) => (¬ y7_9 = 0 ∧ (p_X3_add F (p3 / y7_9) u_63.1 u_63.2 (fun (u_70 : (Int32 × (Nat → Int64))) => (Post (u_70.1, u_70.2))))))))))))
noncomputable def p_X7_tellFraction_9 (F : Nat) (p1 : Int64) (p3 : Int64) (x_told_size : Int32) (f_told_numbers : Nat → Int64) (Post : (Int32 × (Nat → Int64)) → Prop) (n : Nat) : Int32 → Int64 → Int64 → Prop := Nat.rec (motive := fun _ => Int32 → Int64 → Int64 → Prop) (fun _ _ _ => False) (fun _ k9 => fun (y9_9 : Int32) (y7_9 : Int64) (y5_9 : Int64) => (((1000 : Int32) ≤ y9_9 → (p_X7_tellFraction_45 F p1 p3 x_told_size f_told_numbers y7_9 Post )) ∧ (¬ (1000 : Int32) ≤ y9_9 → (((lg_cmp y5_9 (0 : Int64)) ≤ 0 → (p_X7_tellFraction_45 F p1 p3 x_told_size f_told_numbers y7_9 Post )) ∧ (¬ (lg_cmp y5_9 (0 : Int64)) ≤ 0 → (¬ y5_9 = 0 ∧ (k9 (y9_9 + (1 : Int32)) y5_9 (y7_9 - y7_9 / y5_9 * y5_9)))))))) n
theorem p_X7_tellFraction_9_s (F : Nat) (p1 : Int64) (p3 : Int64) (x_told_size : Int32) (f_told_numbers : Nat → Int64) (Post : (Int32 × (Nat → Int64)) → Prop) (n : Nat) (y9_9 : Int32) (y7_9 : Int64) (y5_9 : Int64) : p_X7_tellFraction_9 F p1 p3 x_told_size f_told_numbers Post (n + 1) y9_9 y7_9 y5_9 = (((1000 : Int32) ≤ y9_9 → (p_X7_tellFraction_45 F p1 p3 x_told_size f_told_numbers y7_9 Post )) ∧ (¬ (1000 : Int32) ≤ y9_9 → (((lg_cmp y5_9 (0 : Int64)) ≤ 0 → (p_X7_tellFraction_45 F p1 p3 x_told_size f_told_numbers y7_9 Post )) ∧ (¬ (lg_cmp y5_9 (0 : Int64)) ≤ 0 → (¬ y5_9 = 0 ∧ ((p_X7_tellFraction_9 F p1 p3 x_told_size f_told_numbers Post n) (y9_9 + (1 : Int32)) y5_9 (y7_9 - y7_9 / y5_9 * y5_9))))))) := rfl
def p_X7_tellFraction (F : Nat) (p1 : Int64) (p3 : Int64) (x_told_size : Int32) (f_told_numbers : Nat → Int64) (Post : (Int32 × (Nat → Int64)) → Prop) : Prop := (p_X7_tellFraction_9 F p1 p3 x_told_size f_told_numbers Post F (0 : Int32) p3 p1)
set_option maxHeartbeats 4000000 in
set_option maxRecDepth 100000 in
theorem c_X7_tellFraction (l : Launch) (D : va_G) (cT : Nat → ClassId) (F : Nat) (h : Nat) (p1 : Int64) (p3 : Int64) (w_text : Value) (q_told : Nat) (w_now : Value) (w_before : Value) (w_trial : Value) (w_past : Value) (w_kept : Value) (w_feltNotes : Value) (w_heardNotes : Value) (w_draws : Value) (w_purrs : Value) (w_alone : Value) (w_nimbers : Value) (w_ways : Value) (w_ruling : Value) (w_spare : Value) (q_told_numbers : Nat) (x_told_size : Int32) (f_told_numbers : Nat → Int64) (Post : (Int32 × (Nat → Int64)) → Prop) (hg : p_X7_tellFraction F p1 p3 x_told_size f_told_numbers Post) : MWv l D cT yX7_tellFraction cX7_tellFraction 12 none 1 22 0 0 [.ref h, .long p1, .long p3] [(h, oX7 w_text (.ref q_told) w_now w_before w_trial w_past w_kept w_feltNotes w_heardNotes w_draws w_purrs w_alone w_nimbers w_ways w_ruling w_spare), (q_told, oX3 (.ref q_told_numbers) (.int x_told_size)), (q_told_numbers, aJ cT 8 f_told_numbers)] Post (fun (u : (Int32 × (Nat → Int64))) => [(h, oX7 w_text (.ref q_told) w_now w_before w_trial w_past w_kept w_feltNotes w_heardNotes w_draws w_purrs w_alone w_nimbers w_ways w_ruling w_spare), (q_told, oX3 (.ref q_told_numbers) (.int u.1)), (q_told_numbers, aJ cT 8 u.2)]) := by
  refine MWv.of (by decide) (Nat.le_of_ble_eq_true rfl) ?_
  intro p e s m below meth c A hA C0 hnm hr hP hD ls hl
  have hl : lv_has ls 12 [(0, .ref h), (1, .long p1), (3, .long p3)] := hl
  have hx := C0.x
  have hb := C0.b
  have hS : va_S A s.heap s.heap [] := va_S.rf
  have hP : va_P D cls9 [(h, oX7 w_text (.ref q_told) w_now w_before w_trial w_past w_kept w_feltNotes w_heardNotes w_draws w_purrs w_alone w_nimbers w_ways w_ruling w_spare), (q_told, oX3 (.ref q_told_numbers) (.int x_told_size)), (q_told_numbers, aJ cT 8 f_told_numbers)] s.heap := hP
  have hD : va_D A [(h, oX7 w_text (.ref q_told) w_now w_before w_trial w_past w_kept w_feltNotes w_heardNotes w_draws w_purrs w_alone w_nimbers w_ways w_ruling w_spare), (q_told, oX3 (.ref q_told_numbers) (.int x_told_size)), (q_told_numbers, aJ cT 8 f_told_numbers)] := hD
  have L45 : ∀ (y7_9 : Int64) (H : Heap) (locs : List Loc) (ls : Array Slot), p_X7_tellFraction_45 F p1 p3 x_told_size f_told_numbers y7_9 Post → va_P D cls9 [(h, oX7 w_text (.ref q_told) w_now w_before w_trial w_past w_kept w_feltNotes w_heardNotes w_draws w_purrs w_alone w_nimbers w_ways w_ruling w_spare), (q_told, oX3 (.ref q_told_numbers) (.int x_told_size)), (q_told_numbers, aJ cT 8 f_told_numbers)] H → va_D A [(h, oX7 w_text (.ref q_told) w_now w_before w_trial w_past w_kept w_feltNotes w_heardNotes w_draws w_purrs w_alone w_nimbers w_ways w_ruling w_spare), (q_told, oX3 (.ref q_told_numbers) (.int x_told_size)), (q_told_numbers, aJ cT 8 f_told_numbers)] → va_S A s.heap H locs → lv_has ls 12 [(0, .ref h), (1, .long p1), (3, .long p3), (7, .long y7_9)] → W p l e (rmO 1 22 0 0) s m ([.ref h, .long p1, .long p3] : List Value).toArray below meth c H locs 0 0 (MQ below (va_Qv Post (cB D A (fun (u : (Int32 × (Nat → Int64))) => [(h, oX7 w_text (.ref q_told) w_now w_before w_trial w_past w_kept w_feltNotes w_heardNotes w_draws w_purrs w_alone w_nimbers w_ways w_ruling w_spare), (q_told, oX3 (.ref q_told_numbers) (.int u.1)), (q_told_numbers, aJ cT 8 u.2)])) A) ([.ref h, .long p1, .long p3] : List Value).toArray s 0 0 A) (F0 m 45 ls []) := by
    intro y7_9 H locs ls hg hP hD hS hl
    unfold p_X7_tellFraction_45 at hg
    refine lv_lload hx hb dX7_tellFraction_45 (lv_at hl 3 rfl) ?_
    refine lv_lconst (v := (0 : Int64)) hx hb dX7_tellFraction_47 (by decide) ?_
    refine W.lcmp hx hb dX7_tellFraction_48 ?_
    refine lv_if_le (tgt := 74) hx hb dX7_tellFraction_49 (by decide) (fun c_49 => ?_) (fun c_49 => ?_)
    · have hg := hg.1 c_49
      exact k_vret C0 hr (x_told_size, f_told_numbers) hg hP hD hS dX7_tellFraction_74
    have hg := hg.2 c_49
    refine lv_aload_n hx hb dX7_tellFraction_52 rfl (lv_at hl 0 rfl) ?_
    refine gf_X7_19 C0 hP 0 rfl rfl dX7_tellFraction_53 ?_
    refine k_Vr (rest := []) (wr := [(h, oX7 w_text (.ref q_told) w_now w_before w_trial w_past w_kept w_feltNotes w_heardNotes w_draws w_purrs w_alone w_nimbers w_ways w_ruling w_spare), (q_told_numbers, aJ cT 8 f_told_numbers)]) (w2 := fun u_56 => [(h, oX7 w_text (.ref q_told) w_now w_before w_trial w_past w_kept w_feltNotes w_heardNotes w_draws w_purrs w_alone w_nimbers w_ways w_ruling w_spare), (q_told_numbers, aJ cT 8 f_told_numbers), (q_told, oX3 (.ref q_told_numbers) (.int u_56))]) C0 lk_X7_201 (c_X3_anew l D cT F q_told (.ref q_told_numbers) x_told_size _ hg) hP hD hS hA [1] [0, 2] (by decide +kernel) rfl rfl (fun _ => rfl) rfl rfl ⟨Nat.le_of_ble_eq_true rfl, Nat.le_of_ble_eq_true rfl⟩ rfl hl.1 rfl (Nat.le_of_ble_eq_true rfl) dX7_tellFraction_56 ⟨Nat.le_of_ble_eq_true rfl, Nat.le_of_ble_eq_true rfl⟩ ?_
    intro u_56 H locs hg hP hD hS
    refine lv_lload_n hx hb dX7_tellFraction_59 rfl (lv_at hl 1 rfl) ?_
    refine lv_lload hx hb dX7_tellFraction_60 (lv_at hl 3 rfl) ?_
    obtain ⟨g_62, hg⟩ := hg
    refine lv_ldiv hx hb dX7_tellFraction_62 g_62 ?_
    refine k_Vr (rest := []) (wr := [(h, oX7 w_text (.ref q_told) w_now w_before w_trial w_past w_kept w_feltNotes w_heardNotes w_draws w_purrs w_alone w_nimbers w_ways w_ruling w_spare)]) (w2 := fun u_63 => [(h, oX7 w_text (.ref q_told) w_now w_before w_trial w_past w_kept w_feltNotes w_heardNotes w_draws w_purrs w_alone w_nimbers w_ways w_ruling w_spare), (q_told, oX3 (.ref q_told_numbers) (.int u_63.1)), (q_told_numbers, aJ cT 8 u_63.2)]) C0 lk_X7_205 (c_X3_add l D cT F q_told (p1 / y7_9) q_told_numbers u_56 f_told_numbers _ hg) hP hD hS hA [2, 1] [0] (by decide +kernel) rfl rfl (fun _ => rfl) rfl rfl ⟨Nat.le_of_ble_eq_true rfl, Nat.le_of_ble_eq_true rfl⟩ rfl hl.1 rfl (Nat.le_of_ble_eq_true rfl) dX7_tellFraction_63 ⟨Nat.le_of_ble_eq_true rfl, Nat.le_of_ble_eq_true rfl⟩ ?_
    intro u_63 H locs hg hP hD hS
    refine lv_lload_n hx hb dX7_tellFraction_66 rfl (lv_at hl 2 rfl) ?_
    refine lv_lload hx hb dX7_tellFraction_67 (lv_at hl 3 rfl) ?_
    obtain ⟨g_69, hg⟩ := hg
    refine lv_ldiv hx hb dX7_tellFraction_69 g_69 ?_
    refine k_Vr (rest := []) (wr := [(h, oX7 w_text (.ref q_told) w_now w_before w_trial w_past w_kept w_feltNotes w_heardNotes w_draws w_purrs w_alone w_nimbers w_ways w_ruling w_spare)]) (w2 := fun u_70 => [(h, oX7 w_text (.ref q_told) w_now w_before w_trial w_past w_kept w_feltNotes w_heardNotes w_draws w_purrs w_alone w_nimbers w_ways w_ruling w_spare), (q_told, oX3 (.ref q_told_numbers) (.int u_70.1)), (q_told_numbers, aJ cT 8 u_70.2)]) C0 lk_X7_205 (c_X3_add l D cT F q_told (p3 / y7_9) q_told_numbers u_63.1 u_63.2 _ hg) hP hD hS hA [1, 2] [0] (by decide +kernel) rfl rfl (fun _ => rfl) rfl rfl ⟨Nat.le_of_ble_eq_true rfl, Nat.le_of_ble_eq_true rfl⟩ rfl hl.1 rfl (Nat.le_of_ble_eq_true rfl) dX7_tellFraction_70 ⟨Nat.le_of_ble_eq_true rfl, Nat.le_of_ble_eq_true rfl⟩ ?_
    intro u_70 H locs hg hP hD hS
    refine lv_pop hx hb dX7_tellFraction_73 rfl ?_
    exact k_vret C0 hr (u_70.1, u_70.2) hg hP hD hS dX7_tellFraction_74
  have L9 : ∀ (n9 : Nat) (y9_9 : Int32) (y7_9 : Int64) (y5_9 : Int64) (H : Heap) (locs : List Loc) (ls : Array Slot), p_X7_tellFraction_9 F p1 p3 x_told_size f_told_numbers Post n9 y9_9 y7_9 y5_9 → va_P D cls9 [(h, oX7 w_text (.ref q_told) w_now w_before w_trial w_past w_kept w_feltNotes w_heardNotes w_draws w_purrs w_alone w_nimbers w_ways w_ruling w_spare), (q_told, oX3 (.ref q_told_numbers) (.int x_told_size)), (q_told_numbers, aJ cT 8 f_told_numbers)] H → va_D A [(h, oX7 w_text (.ref q_told) w_now w_before w_trial w_past w_kept w_feltNotes w_heardNotes w_draws w_purrs w_alone w_nimbers w_ways w_ruling w_spare), (q_told, oX3 (.ref q_told_numbers) (.int x_told_size)), (q_told_numbers, aJ cT 8 f_told_numbers)] → va_S A s.heap H locs → lv_has ls 12 [(0, .ref h), (1, .long p1), (3, .long p3), (5, .long y5_9), (7, .long y7_9), (9, .int y9_9)] → W p l e (rmO 1 22 0 0) s m ([.ref h, .long p1, .long p3] : List Value).toArray below meth c H locs 0 0 (MQ below (va_Qv Post (cB D A (fun (u : (Int32 × (Nat → Int64))) => [(h, oX7 w_text (.ref q_told) w_now w_before w_trial w_past w_kept w_feltNotes w_heardNotes w_draws w_purrs w_alone w_nimbers w_ways w_ruling w_spare), (q_told, oX3 (.ref q_told_numbers) (.int u.1)), (q_told_numbers, aJ cT 8 u.2)])) A) ([.ref h, .long p1, .long p3] : List Value).toArray s 0 0 A) (F0 m 9 ls []) := by
    intro n9
    induction n9 with
    | zero =>
      intro y9_9 y7_9 y5_9 H locs ls hg hP hD hS hl
      exact False.elim hg
    | succ n9 ih9 =>
      intro y9_9 y7_9 y5_9 H locs ls hg hP hD hS hl
      rw [p_X7_tellFraction_9_s] at hg
      refine lv_iload hx hb dX7_tellFraction_9 (lv_at hl 5 rfl) ?_
      refine lv_sipush (v := (1000 : Int32)) hx hb dX7_tellFraction_11 (by decide) ?_
      refine lv_icmp_ge (tgt := 45) hx hb dX7_tellFraction_14 (by decide) (fun c_14 => ?_) (fun c_14 => ?_)
      · have hg := hg.1 c_14
        exact L45 y7_9 _ _ _ hg hP hD hS (lv_sub hl [0, 1, 2, 4] rfl)
      have hg := hg.2 c_14
      refine lv_lload hx hb dX7_tellFraction_17 (lv_at hl 3 rfl) ?_
      refine lv_lconst (v := (0 : Int64)) hx hb dX7_tellFraction_19 (by decide) ?_
      refine W.lcmp hx hb dX7_tellFraction_20 ?_
      refine lv_if_le (tgt := 45) hx hb dX7_tellFraction_21 (by decide) (fun c_21 => ?_) (fun c_21 => ?_)
      · have hg := hg.1 c_21
        exact L45 y7_9 _ _ _ hg hP hD hS (lv_sub hl [0, 1, 2, 4] rfl)
      have hg := hg.2 c_21
      refine lv_lload hx hb dX7_tellFraction_24 (lv_at hl 4 rfl) ?_
      refine lv_lload hx hb dX7_tellFraction_26 (lv_at hl 3 rfl) ?_
      obtain ⟨g_28, hg⟩ := hg
      refine lv_lrem hx hb dX7_tellFraction_28 g_28 ?_
      refine lv_lstore (lv' := [(10, .long (y7_9 - y7_9 / y5_9 * y5_9)), (0, .ref h), (1, .long p1), (3, .long p3), (5, .long y5_9), (7, .long y7_9), (9, .int y9_9)]) hx hb dX7_tellFraction_29 hl (by decide) rfl (fun ls hl => ?_)
      refine lv_lload hx hb dX7_tellFraction_31 (lv_at hl 4 rfl) ?_
      refine lv_lstore (lv' := [(7, .long y5_9), (10, .long (y7_9 - y7_9 / y5_9 * y5_9)), (0, .ref h), (1, .long p1), (3, .long p3), (5, .long y5_9), (9, .int y9_9)]) hx hb dX7_tellFraction_33 hl (by decide) rfl (fun ls hl => ?_)
      refine lv_lload hx hb dX7_tellFraction_35 (lv_at hl 1 rfl) ?_
      refine lv_lstore (lv' := [(5, .long (y7_9 - y7_9 / y5_9 * y5_9)), (7, .long y5_9), (10, .long (y7_9 - y7_9 / y5_9 * y5_9)), (0, .ref h), (1, .long p1), (3, .long p3), (9, .int y9_9)]) hx hb dX7_tellFraction_37 hl (by decide) rfl (fun ls hl => ?_)
      refine lv_iinc (v := (y9_9 + (1 : Int32))) (lv' := [(9, .int (y9_9 + (1 : Int32))), (5, .long (y7_9 - y7_9 / y5_9 * y5_9)), (7, .long y5_9), (10, .long (y7_9 - y7_9 / y5_9 * y5_9)), (0, .ref h), (1, .long p1), (3, .long p3)]) hx hb dX7_tellFraction_39 hl (k := 6) rfl rfl (by decide) rfl (fun ls hl => ?_)
      refine lv_goto (tgt := 9) hx hb dX7_tellFraction_42 (by decide) ?_
      exact ih9 (y9_9 + (1 : Int32)) y5_9 (y7_9 - y7_9 / y5_9 * y5_9) _ _ _ hg hP hD hS (lv_sub hl [4, 5, 6, 1, 2, 0] rfl)
  unfold p_X7_tellFraction at hg
  refine lv_lload_n hx hb dX7_tellFraction_0 rfl (lv_at hl 1 rfl) ?_
  refine lv_lstore (lv' := [(5, .long p1), (0, .ref h), (1, .long p1), (3, .long p3)]) hx hb dX7_tellFraction_1 hl (by decide) rfl (fun ls hl => ?_)
  refine lv_lload_n hx hb dX7_tellFraction_3 rfl (lv_at hl 3 rfl) ?_
  refine lv_lstore (lv' := [(7, .long p3), (5, .long p1), (0, .ref h), (1, .long p1), (3, .long p3)]) hx hb dX7_tellFraction_4 hl (by decide) rfl (fun ls hl => ?_)
  refine lv_iconst (v := (0 : Int32)) hx hb dX7_tellFraction_6 (by decide) ?_
  refine lv_istore (lv' := [(9, .int (0 : Int32)), (7, .long p3), (5, .long p1), (0, .ref h), (1, .long p1), (3, .long p3)]) hx hb dX7_tellFraction_7 hl (by decide) rfl (fun ls hl => ?_)
  exact L9 F (0 : Int32) p3 p1 _ _ _ hg hP hD hS (lv_sub hl [3, 4, 5, 2, 1, 0] rfl)
theorem dX7_odds_0 : decode cX7_odds 0 = .ok (.aload_n 0, 1) := by decide +kernel
theorem dX7_odds_1 : decode cX7_odds 1 = .ok (.getfield 26, 3) := by decide +kernel
theorem dX7_odds_4 : decode cX7_odds 4 = .ok (.iload_n 1, 1) := by decide +kernel
theorem dX7_odds_5 : decode cX7_odds 5 = .ok (.invokevirtual 136, 3) := by decide +kernel
theorem dX7_odds_8 : decode cX7_odds 8 = .ok (.ifCond .eq 13, 3) := by decide +kernel
theorem dX7_odds_11 : decode cX7_odds 11 = .ok (.iload_n 2, 1) := by decide +kernel
theorem dX7_odds_12 : decode cX7_odds 12 = .ok (.ifCond .lt 9, 3) := by decide +kernel
theorem dX7_odds_15 : decode cX7_odds 15 = .ok (.iload_n 2, 1) := by decide +kernel
theorem dX7_odds_16 : decode cX7_odds 16 = .ok (.bipush 10, 2) := by decide +kernel
theorem dX7_odds_18 : decode cX7_odds 18 = .ok (.if_icmp .le 5, 3) := by decide +kernel
theorem dX7_odds_21 : decode cX7_odds 21 = .ok (.iconst (-1), 1) := by decide +kernel
theorem dX7_odds_22 : decode cX7_odds 22 = .ok (.ireturn, 1) := by decide +kernel
theorem dX7_odds_23 : decode cX7_odds 23 = .ok (.aload_n 0, 1) := by decide +kernel
theorem dX7_odds_24 : decode cX7_odds 24 = .ok (.invokevirtual 313, 3) := by decide +kernel
theorem dX7_odds_27 : decode cX7_odds 27 = .ok (.aload_n 0, 1) := by decide +kernel
theorem dX7_odds_28 : decode cX7_odds 28 = .ok (.aload_n 0, 1) := by decide +kernel
theorem dX7_odds_29 : decode cX7_odds 29 = .ok (.iload_n 1, 1) := by decide +kernel
theorem dX7_odds_30 : decode cX7_odds 30 = .ok (.iload_n 2, 1) := by decide +kernel
theorem dX7_odds_31 : decode cX7_odds 31 = .ok (.invokevirtual 351, 3) := by decide +kernel
theorem dX7_odds_34 : decode cX7_odds 34 = .ok (.aload_n 0, 1) := by decide +kernel
theorem dX7_odds_35 : decode cX7_odds 35 = .ok (.getfield 26, 3) := by decide +kernel
theorem dX7_odds_38 : decode cX7_odds 38 = .ok (.iload_n 1, 1) := by decide +kernel
theorem dX7_odds_39 : decode cX7_odds 39 = .ok (.invokevirtual 146, 3) := by decide +kernel
theorem dX7_odds_42 : decode cX7_odds 42 = .ok (.invokestatic 253, 3) := by decide +kernel
theorem dX7_odds_45 : decode cX7_odds 45 = .ok (.invokestatic 355, 3) := by decide +kernel
theorem dX7_odds_48 : decode cX7_odds 48 = .ok (.invokevirtual 359, 3) := by decide +kernel
theorem dX7_odds_51 : decode cX7_odds 51 = .ok (.iconst 0, 1) := by decide +kernel
theorem dX7_odds_52 : decode cX7_odds 52 = .ok (.ireturn, 1) := by decide +kernel
def p_X7_odds (F : Nat) (p1 : Int32) (p2 : Int32) (x_now_arches : Int32) (x_now_cats : Int32) (x_now_hour : Int32) (x_ruling_size : Int32) (x_ruling_top : Int32) (f_now_place : Nat → Int32) (f_ruling_steps : Nat → Int32) (f_ruling_stack : Nat → Int32) (f_now_sag : Nat → Int32) (f_now_load : Nat → Int32) (f_now_joy : Nat → Int32) (f_now_grief : Nat → Int32) (f_now_bowl : Nat → Int32) (f_purrs : Nat → Int32) (f_ways : Nat → Int64) (x_told_size : Int32) (f_told_numbers : Nat → Int64) (Post : Int32 → (Int32 × (Nat → Int32) × (Nat → Int32) × (Nat → Int64) × Int32 × (Nat → Int64)) → Prop) : Prop := (p_X6_hasArch F p1 x_now_arches (fun (r_5 : Int32) => ((r_5 = 0 → (Post (-1 : Int32) (x_ruling_top, f_ruling_stack, f_purrs, f_ways, x_told_size, f_told_numbers))) ∧ (¬ r_5 = 0 → ((p2 < 0 → (Post (-1 : Int32) (x_ruling_top, f_ruling_stack, f_purrs, f_ways, x_told_size, f_told_numbers))) ∧ (¬ p2 < 0 → ((p2 ≤ (10 : Int32) → (p_X7_findPurrs F x_now_arches x_now_cats x_now_hour x_ruling_size x_ruling_top f_now_place f_ruling_steps f_ruling_stack f_now_sag f_now_load f_now_joy f_now_grief f_now_bowl f_purrs (fun (u_24 : (Int32 × (Nat → Int32) × (Nat → Int32))) => (p_X7_waysToHold F p1 p2 f_ways x_now_cats f_now_place u_24.2.2 f_now_load (fun (r_31 : Int64) (u_31 : (Nat → Int64)) => (p_X6_catsIn F p1 x_now_cats f_now_place (fun (r_39 : Int32) => (p_J6_bitCount_0f7a4 F r_39 (fun (r_42 : Int32) => (p_X7_tensFor F r_42 (fun (r_45 : Int64) => (p_X7_tellFraction F r_31 r_45 x_told_size f_told_numbers (fun (u_48 : (Int32 × (Nat → Int64))) => (Post (0 : Int32) (u_24.1, u_24.2.1, u_24.2.2, u_31, u_48.1, u_48.2))))))))))))))) ∧ (¬ p2 ≤ (10 : Int32) → (Post (-1 : Int32) (x_ruling_top, f_ruling_stack, f_purrs, f_ways, x_told_size, f_told_numbers))))))))))
set_option maxHeartbeats 4000000 in
set_option maxRecDepth 100000 in
theorem c_X7_odds (l : Launch) (D : va_G) (cT : Nat → ClassId) (F : Nat) (h : Nat) (p1 : Int32) (p2 : Int32) (w_text : Value) (q_told : Nat) (q_now : Nat) (w_before : Value) (w_trial : Value) (w_past : Value) (w_kept : Value) (w_feltNotes : Value) (w_heardNotes : Value) (w_draws : Value) (q_purrs : Nat) (w_alone : Value) (w_nimbers : Value) (q_ways : Nat) (q_ruling : Nat) (w_spare : Value) (q_now_load : Nat) (q_now_sag : Nat) (q_now_joy : Nat) (q_now_bowl : Nat) (q_now_grief : Nat) (q_now_place : Nat) (x_now_arches : Int32) (x_now_cats : Int32) (x_now_store : Int32) (x_now_hour : Int32) (x_now_drops : Int32) (q_ruling_steps : Nat) (q_ruling_stack : Nat) (x_ruling_size : Int32) (x_ruling_top : Int32) (x_ruling_open : Int32) (x_ruling_compared : Int32) (x_ruling_digits : Int32) (x_ruling_wantsThing : Int32) (f_now_place : Nat → Int32) (f_ruling_steps : Nat → Int32) (f_ruling_stack : Nat → Int32) (f_now_sag : Nat → Int32) (f_now_load : Nat → Int32) (f_now_joy : Nat → Int32) (f_now_grief : Nat → Int32) (f_now_bowl : Nat → Int32) (f_purrs : Nat → Int32) (f_ways : Nat → Int64) (q_told_numbers : Nat) (x_told_size : Int32) (f_told_numbers : Nat → Int64) (Post : Int32 → (Int32 × (Nat → Int32) × (Nat → Int32) × (Nat → Int64) × Int32 × (Nat → Int64)) → Prop) (hg : p_X7_odds F p1 p2 x_now_arches x_now_cats x_now_hour x_ruling_size x_ruling_top f_now_place f_ruling_steps f_ruling_stack f_now_sag f_now_load f_now_joy f_now_grief f_now_bowl f_purrs f_ways x_told_size f_told_numbers Post) : MWi l D cT yX7_odds cX7_odds 3 (some .int) 5 120 0 0 [.ref h, .int p1, .int p2] [(h, oX7 w_text (.ref q_told) (.ref q_now) w_before w_trial w_past w_kept w_feltNotes w_heardNotes w_draws (.ref q_purrs) w_alone w_nimbers (.ref q_ways) (.ref q_ruling) w_spare), (q_now, oX6 (.ref q_now_load) (.ref q_now_sag) (.ref q_now_joy) (.ref q_now_bowl) (.ref q_now_grief) (.ref q_now_place) (.int x_now_arches) (.int x_now_cats) (.int x_now_store) (.int x_now_hour) (.int x_now_drops)), (q_ruling, oX4 (.ref q_ruling_steps) (.ref q_ruling_stack) (.int x_ruling_size) (.int x_ruling_top) (.int x_ruling_open) (.int x_ruling_compared) (.int x_ruling_digits) (.int x_ruling_wantsThing)), (q_now_place, aI cT 8 f_now_place), (q_ruling_steps, aI cT 40 f_ruling_steps), (q_ruling_stack, aI cT 40 f_ruling_stack), (q_now_sag, aI cT 6 f_now_sag), (q_now_load, aI cT 6 f_now_load), (q_now_joy, aI cT 8 f_now_joy), (q_now_grief, aI cT 8 f_now_grief), (q_now_bowl, aI cT 8 f_now_bowl), (q_purrs, aI cT 8 f_purrs), (q_ways, aJ cT 73 f_ways), (q_told, oX3 (.ref q_told_numbers) (.int x_told_size)), (q_told_numbers, aJ cT 8 f_told_numbers)] Post (fun (u : (Int32 × (Nat → Int32) × (Nat → Int32) × (Nat → Int64) × Int32 × (Nat → Int64))) => [(h, oX7 w_text (.ref q_told) (.ref q_now) w_before w_trial w_past w_kept w_feltNotes w_heardNotes w_draws (.ref q_purrs) w_alone w_nimbers (.ref q_ways) (.ref q_ruling) w_spare), (q_now, oX6 (.ref q_now_load) (.ref q_now_sag) (.ref q_now_joy) (.ref q_now_bowl) (.ref q_now_grief) (.ref q_now_place) (.int x_now_arches) (.int x_now_cats) (.int x_now_store) (.int x_now_hour) (.int x_now_drops)), (q_ruling, oX4 (.ref q_ruling_steps) (.ref q_ruling_stack) (.int x_ruling_size) (.int u.1) (.int x_ruling_open) (.int x_ruling_compared) (.int x_ruling_digits) (.int x_ruling_wantsThing)), (q_now_place, aI cT 8 f_now_place), (q_ruling_steps, aI cT 40 f_ruling_steps), (q_ruling_stack, aI cT 40 u.2.1), (q_now_sag, aI cT 6 f_now_sag), (q_now_load, aI cT 6 f_now_load), (q_now_joy, aI cT 8 f_now_joy), (q_now_grief, aI cT 8 f_now_grief), (q_now_bowl, aI cT 8 f_now_bowl), (q_purrs, aI cT 8 u.2.2.1), (q_ways, aJ cT 73 u.2.2.2.1), (q_told, oX3 (.ref q_told_numbers) (.int u.2.2.2.2.1)), (q_told_numbers, aJ cT 8 u.2.2.2.2.2)]) := by
  refine MWi.of (by decide) (Nat.le_of_ble_eq_true rfl) ?_
  intro p e s m below meth c A hA C0 hnm hr hP hD ls hl
  have hl : lv_has ls 3 [(0, .ref h), (1, .int p1), (2, .int p2)] := hl
  have hx := C0.x
  have hb := C0.b
  have hS : va_S A s.heap s.heap [] := va_S.rf
  have hP : va_P D cls9 [(h, oX7 w_text (.ref q_told) (.ref q_now) w_before w_trial w_past w_kept w_feltNotes w_heardNotes w_draws (.ref q_purrs) w_alone w_nimbers (.ref q_ways) (.ref q_ruling) w_spare), (q_now, oX6 (.ref q_now_load) (.ref q_now_sag) (.ref q_now_joy) (.ref q_now_bowl) (.ref q_now_grief) (.ref q_now_place) (.int x_now_arches) (.int x_now_cats) (.int x_now_store) (.int x_now_hour) (.int x_now_drops)), (q_ruling, oX4 (.ref q_ruling_steps) (.ref q_ruling_stack) (.int x_ruling_size) (.int x_ruling_top) (.int x_ruling_open) (.int x_ruling_compared) (.int x_ruling_digits) (.int x_ruling_wantsThing)), (q_now_place, aI cT 8 f_now_place), (q_ruling_steps, aI cT 40 f_ruling_steps), (q_ruling_stack, aI cT 40 f_ruling_stack), (q_now_sag, aI cT 6 f_now_sag), (q_now_load, aI cT 6 f_now_load), (q_now_joy, aI cT 8 f_now_joy), (q_now_grief, aI cT 8 f_now_grief), (q_now_bowl, aI cT 8 f_now_bowl), (q_purrs, aI cT 8 f_purrs), (q_ways, aJ cT 73 f_ways), (q_told, oX3 (.ref q_told_numbers) (.int x_told_size)), (q_told_numbers, aJ cT 8 f_told_numbers)] s.heap := hP
  have hD : va_D A [(h, oX7 w_text (.ref q_told) (.ref q_now) w_before w_trial w_past w_kept w_feltNotes w_heardNotes w_draws (.ref q_purrs) w_alone w_nimbers (.ref q_ways) (.ref q_ruling) w_spare), (q_now, oX6 (.ref q_now_load) (.ref q_now_sag) (.ref q_now_joy) (.ref q_now_bowl) (.ref q_now_grief) (.ref q_now_place) (.int x_now_arches) (.int x_now_cats) (.int x_now_store) (.int x_now_hour) (.int x_now_drops)), (q_ruling, oX4 (.ref q_ruling_steps) (.ref q_ruling_stack) (.int x_ruling_size) (.int x_ruling_top) (.int x_ruling_open) (.int x_ruling_compared) (.int x_ruling_digits) (.int x_ruling_wantsThing)), (q_now_place, aI cT 8 f_now_place), (q_ruling_steps, aI cT 40 f_ruling_steps), (q_ruling_stack, aI cT 40 f_ruling_stack), (q_now_sag, aI cT 6 f_now_sag), (q_now_load, aI cT 6 f_now_load), (q_now_joy, aI cT 8 f_now_joy), (q_now_grief, aI cT 8 f_now_grief), (q_now_bowl, aI cT 8 f_now_bowl), (q_purrs, aI cT 8 f_purrs), (q_ways, aJ cT 73 f_ways), (q_told, oX3 (.ref q_told_numbers) (.int x_told_size)), (q_told_numbers, aJ cT 8 f_told_numbers)] := hD
  unfold p_X7_odds at hg
  refine lv_aload_n hx hb dX7_odds_0 rfl (lv_at hl 0 rfl) ?_
  refine gf_X7_26 C0 hP 0 rfl rfl dX7_odds_1 ?_
  refine lv_iload_n hx hb dX7_odds_4 rfl (lv_at hl 1 rfl) ?_
  refine k_Vxi (rest := []) C0 lk_X7_136 (c_X6_hasArch l D cT F q_now p1 (.ref q_now_load) (.ref q_now_sag) (.ref q_now_joy) (.ref q_now_bowl) (.ref q_now_grief) (.ref q_now_place) x_now_arches x_now_cats x_now_store x_now_hour x_now_drops _ hg) hP hD hS hA [1] (by decide +kernel) rfl rfl rfl ⟨Nat.le_of_ble_eq_true rfl, Nat.le_of_ble_eq_true rfl⟩ rfl hl.1 rfl (Nat.le_of_ble_eq_true rfl) dX7_odds_5 ⟨Nat.le_of_ble_eq_true rfl, Nat.le_of_ble_eq_true rfl⟩ (fun r_5 hg => ?_)
  refine lv_if_eq (tgt := 21) hx hb dX7_odds_8 (by decide) (fun c_8 => ?_) (fun c_8 => ?_)
  · have hg := hg.1 c_8
    refine lv_iconst (v := (-1 : Int32)) hx hb dX7_odds_21 (by decide) ?_
    exact k_iret C0 hr (x_ruling_top, f_ruling_stack, f_purrs, f_ways, x_told_size, f_told_numbers) hg hP hD hS dX7_odds_22
  have hg := hg.2 c_8
  refine lv_iload_n hx hb dX7_odds_11 rfl (lv_at hl 2 rfl) ?_
  refine lv_if_lt (tgt := 21) hx hb dX7_odds_12 (by decide) (fun c_12 => ?_) (fun c_12 => ?_)
  · have hg := hg.1 c_12
    refine lv_iconst (v := (-1 : Int32)) hx hb dX7_odds_21 (by decide) ?_
    exact k_iret C0 hr (x_ruling_top, f_ruling_stack, f_purrs, f_ways, x_told_size, f_told_numbers) hg hP hD hS dX7_odds_22
  have hg := hg.2 c_12
  refine lv_iload_n hx hb dX7_odds_15 rfl (lv_at hl 2 rfl) ?_
  refine lv_bipush (v := (10 : Int32)) hx hb dX7_odds_16 (by decide) ?_
  refine lv_icmp_le (tgt := 23) hx hb dX7_odds_18 (by decide) (fun c_18 => ?_) (fun c_18 => ?_)
  · have hg := hg.1 c_18
    refine lv_aload_n hx hb dX7_odds_23 rfl (lv_at hl 0 rfl) ?_
    refine k_Vv (rest := []) (wr := [(q_ways, aJ cT 73 f_ways), (q_told, oX3 (.ref q_told_numbers) (.int x_told_size)), (q_told_numbers, aJ cT 8 f_told_numbers)]) (w2 := fun u_24 => [(q_ways, aJ cT 73 f_ways), (q_told, oX3 (.ref q_told_numbers) (.int x_told_size)), (q_told_numbers, aJ cT 8 f_told_numbers), (h, oX7 w_text (.ref q_told) (.ref q_now) w_before w_trial w_past w_kept w_feltNotes w_heardNotes w_draws (.ref q_purrs) w_alone w_nimbers (.ref q_ways) (.ref q_ruling) w_spare), (q_now, oX6 (.ref q_now_load) (.ref q_now_sag) (.ref q_now_joy) (.ref q_now_bowl) (.ref q_now_grief) (.ref q_now_place) (.int x_now_arches) (.int x_now_cats) (.int x_now_store) (.int x_now_hour) (.int x_now_drops)), (q_ruling, oX4 (.ref q_ruling_steps) (.ref q_ruling_stack) (.int x_ruling_size) (.int u_24.1) (.int x_ruling_open) (.int x_ruling_compared) (.int x_ruling_digits) (.int x_ruling_wantsThing)), (q_now_place, aI cT 8 f_now_place), (q_ruling_steps, aI cT 40 f_ruling_steps), (q_ruling_stack, aI cT 40 u_24.2.1), (q_now_sag, aI cT 6 f_now_sag), (q_now_load, aI cT 6 f_now_load), (q_now_joy, aI cT 8 f_now_joy), (q_now_grief, aI cT 8 f_now_grief), (q_now_bowl, aI cT 8 f_now_bowl), (q_purrs, aI cT 8 u_24.2.2)]) C0 lk_X7_313 (c_X7_findPurrs l D cT F h w_text (.ref q_told) q_now w_before w_trial w_past w_kept w_feltNotes w_heardNotes w_draws q_purrs w_alone w_nimbers (.ref q_ways) q_ruling w_spare q_now_load q_now_sag q_now_joy q_now_bowl q_now_grief q_now_place x_now_arches x_now_cats x_now_store x_now_hour x_now_drops q_ruling_steps q_ruling_stack x_ruling_size x_ruling_top x_ruling_open x_ruling_compared x_ruling_digits x_ruling_wantsThing f_now_place f_ruling_steps f_ruling_stack f_now_sag f_now_load f_now_joy f_now_grief f_now_bowl f_purrs _ hg) hP hD hS hA [0, 1, 2, 3, 4, 5, 6, 7, 8, 9, 10, 11] [12, 13, 14] (by decide +kernel) rfl rfl (fun _ => rfl) rfl rfl ⟨Nat.le_of_ble_eq_true rfl, Nat.le_of_ble_eq_true rfl⟩ rfl hl.1 rfl (Nat.le_of_ble_eq_true rfl) dX7_odds_24 ⟨Nat.le_of_ble_eq_true rfl, Nat.le_of_ble_eq_true rfl⟩ ?_
    intro u_24 H locs hg hP hD hS
    refine lv_aload_n hx hb dX7_odds_27 rfl (lv_at hl 0 rfl) ?_
    refine lv_aload_n hx hb dX7_odds_28 rfl (lv_at hl 0 rfl) ?_
    refine lv_iload_n hx hb dX7_odds_29 rfl (lv_at hl 1 rfl) ?_
    refine lv_iload_n hx hb dX7_odds_30 rfl (lv_at hl 2 rfl) ?_
    refine k_Vl (rest := [.ref h]) (wr := [(q_told, oX3 (.ref q_told_numbers) (.int x_told_size)), (q_told_numbers, aJ cT 8 f_told_numbers), (q_ruling, oX4 (.ref q_ruling_steps) (.ref q_ruling_stack) (.int x_ruling_size) (.int u_24.1) (.int x_ruling_open) (.int x_ruling_compared) (.int x_ruling_digits) (.int x_ruling_wantsThing)), (q_ruling_steps, aI cT 40 f_ruling_steps), (q_ruling_stack, aI cT 40 u_24.2.1), (q_now_sag, aI cT 6 f_now_sag), (q_now_joy, aI cT 8 f_now_joy), (q_now_grief, aI cT 8 f_now_grief), (q_now_bowl, aI cT 8 f_now_bowl)]) (w2 := fun u_31 => [(q_told, oX3 (.ref q_told_numbers) (.int x_told_size)), (q_told_numbers, aJ cT 8 f_told_numbers), (q_ruling, oX4 (.ref q_ruling_steps) (.ref q_ruling_stack) (.int x_ruling_size) (.int u_24.1) (.int x_ruling_open) (.int x_ruling_compared) (.int x_ruling_digits) (.int x_ruling_wantsThing)), (q_ruling_steps, aI cT 40 f_ruling_steps), (q_ruling_stack, aI cT 40 u_24.2.1), (q_now_sag, aI cT 6 f_now_sag), (q_now_joy, aI cT 8 f_now_joy), (q_now_grief, aI cT 8 f_now_grief), (q_now_bowl, aI cT 8 f_now_bowl), (h, oX7 w_text (.ref q_told) (.ref q_now) w_before w_trial w_past w_kept w_feltNotes w_heardNotes w_draws (.ref q_purrs) w_alone w_nimbers (.ref q_ways) (.ref q_ruling) w_spare), (q_ways, aJ cT 73 u_31), (q_now, oX6 (.ref q_now_load) (.ref q_now_sag) (.ref q_now_joy) (.ref q_now_bowl) (.ref q_now_grief) (.ref q_now_place) (.int x_now_arches) (.int x_now_cats) (.int x_now_store) (.int x_now_hour) (.int x_now_drops)), (q_now_place, aI cT 8 f_now_place), (q_purrs, aI cT 8 u_24.2.2), (q_now_load, aI cT 6 f_now_load)]) C0 lk_X7_351 (c_X7_waysToHold l D cT F h p1 p2 w_text (.ref q_told) q_now w_before w_trial w_past w_kept w_feltNotes w_heardNotes w_draws q_purrs w_alone w_nimbers q_ways (.ref q_ruling) w_spare f_ways q_now_load (.ref q_now_sag) (.ref q_now_joy) (.ref q_now_bowl) (.ref q_now_grief) q_now_place x_now_arches x_now_cats x_now_store x_now_hour x_now_drops f_now_place u_24.2.2 f_now_load _ hg) hP hD hS hA [3, 0, 4, 6, 14, 10] [1, 2, 5, 7, 8, 9, 11, 12, 13] (by decide +kernel) rfl rfl (fun _ => rfl) rfl rfl ⟨Nat.le_of_ble_eq_true rfl, Nat.le_of_ble_eq_true rfl⟩ rfl hl.1 rfl (Nat.le_of_ble_eq_true rfl) dX7_odds_31 ⟨Nat.le_of_ble_eq_true rfl, Nat.le_of_ble_eq_true rfl⟩ ?_
    intro r_31 u_31 H locs hg hP hD hS
    refine lv_aload_n hx hb dX7_odds_34 rfl (lv_at hl 0 rfl) ?_
    refine gf_X7_26 C0 hP 9 rfl rfl dX7_odds_35 ?_
    refine lv_iload_n hx hb dX7_odds_38 rfl (lv_at hl 1 rfl) ?_
    refine k_Vxi (rest := [.long r_31, .ref h]) C0 lk_X7_146 (c_X6_catsIn l D cT F q_now p1 (.ref q_now_load) (.ref q_now_sag) (.ref q_now_joy) (.ref q_now_bowl) (.ref q_now_grief) q_now_place x_now_arches x_now_cats x_now_store x_now_hour x_now_drops f_now_place _ hg) hP hD hS hA [11, 12] (by decide +kernel) rfl rfl rfl ⟨Nat.le_of_ble_eq_true rfl, Nat.le_of_ble_eq_true rfl⟩ rfl hl.1 rfl (Nat.le_of_ble_eq_true rfl) dX7_odds_39 ⟨Nat.le_of_ble_eq_true rfl, Nat.le_of_ble_eq_true rfl⟩ (fun r_39 hg => ?_)
    refine k_Sxi (rest := [.long r_31, .ref h]) C0 lk_X7_253 (c_J6_bitCount_0f7a4 l D cT F r_39 _ hg) hP hD hS hA [] (by decide +kernel) rfl ⟨Nat.le_of_ble_eq_true rfl, Nat.le_of_ble_eq_true rfl⟩ rfl hl.1 rfl (Nat.le_of_ble_eq_true rfl) dX7_odds_42 ⟨Nat.le_of_ble_eq_true rfl, Nat.le_of_ble_eq_true rfl⟩ (fun r_42 hg => ?_)
    refine k_Sxl (rest := [.long r_31, .ref h]) C0 lk_X7_355 (c_X7_tensFor l D cT F r_42 _ hg) hP hD hS hA [] (by decide +kernel) rfl ⟨Nat.le_of_ble_eq_true rfl, Nat.le_of_ble_eq_true rfl⟩ rfl hl.1 rfl (Nat.le_of_ble_eq_true rfl) dX7_odds_45 ⟨Nat.le_of_ble_eq_true rfl, Nat.le_of_ble_eq_true rfl⟩ (fun r_45 hg => ?_)
    refine k_Vv (rest := []) (wr := [(q_ruling, oX4 (.ref q_ruling_steps) (.ref q_ruling_stack) (.int x_ruling_size) (.int u_24.1) (.int x_ruling_open) (.int x_ruling_compared) (.int x_ruling_digits) (.int x_ruling_wantsThing)), (q_ruling_steps, aI cT 40 f_ruling_steps), (q_ruling_stack, aI cT 40 u_24.2.1), (q_now_sag, aI cT 6 f_now_sag), (q_now_joy, aI cT 8 f_now_joy), (q_now_grief, aI cT 8 f_now_grief), (q_now_bowl, aI cT 8 f_now_bowl), (q_ways, aJ cT 73 u_31), (q_now, oX6 (.ref q_now_load) (.ref q_now_sag) (.ref q_now_joy) (.ref q_now_bowl) (.ref q_now_grief) (.ref q_now_place) (.int x_now_arches) (.int x_now_cats) (.int x_now_store) (.int x_now_hour) (.int x_now_drops)), (q_now_place, aI cT 8 f_now_place), (q_purrs, aI cT 8 u_24.2.2), (q_now_load, aI cT 6 f_now_load)]) (w2 := fun u_48 => [(q_ruling, oX4 (.ref q_ruling_steps) (.ref q_ruling_stack) (.int x_ruling_size) (.int u_24.1) (.int x_ruling_open) (.int x_ruling_compared) (.int x_ruling_digits) (.int x_ruling_wantsThing)), (q_ruling_steps, aI cT 40 f_ruling_steps), (q_ruling_stack, aI cT 40 u_24.2.1), (q_now_sag, aI cT 6 f_now_sag), (q_now_joy, aI cT 8 f_now_joy), (q_now_grief, aI cT 8 f_now_grief), (q_now_bowl, aI cT 8 f_now_bowl), (q_ways, aJ cT 73 u_31), (q_now, oX6 (.ref q_now_load) (.ref q_now_sag) (.ref q_now_joy) (.ref q_now_bowl) (.ref q_now_grief) (.ref q_now_place) (.int x_now_arches) (.int x_now_cats) (.int x_now_store) (.int x_now_hour) (.int x_now_drops)), (q_now_place, aI cT 8 f_now_place), (q_purrs, aI cT 8 u_24.2.2), (q_now_load, aI cT 6 f_now_load), (h, oX7 w_text (.ref q_told) (.ref q_now) w_before w_trial w_past w_kept w_feltNotes w_heardNotes w_draws (.ref q_purrs) w_alone w_nimbers (.ref q_ways) (.ref q_ruling) w_spare), (q_told, oX3 (.ref q_told_numbers) (.int u_48.1)), (q_told_numbers, aJ cT 8 u_48.2)]) C0 lk_X7_359 (c_X7_tellFraction l D cT F h r_31 r_45 w_text q_told (.ref q_now) w_before w_trial w_past w_kept w_feltNotes w_heardNotes w_draws (.ref q_purrs) w_alone w_nimbers (.ref q_ways) (.ref q_ruling) w_spare q_told_numbers x_told_size f_told_numbers _ hg) hP hD hS hA [9, 0, 1] [2, 3, 4, 5, 6, 7, 8, 10, 11, 12, 13, 14] (by decide +kernel) rfl rfl (fun _ => rfl) rfl rfl ⟨Nat.le_of_ble_eq_true rfl, Nat.le_of_ble_eq_true rfl⟩ rfl hl.1 rfl (Nat.le_of_ble_eq_true rfl) dX7_odds_48 ⟨Nat.le_of_ble_eq_true rfl, Nat.le_of_ble_eq_true rfl⟩ ?_
    intro u_48 H locs hg hP hD hS
    refine lv_iconst (v := (0 : Int32)) hx hb dX7_odds_51 (by decide) ?_
    exact k_iret C0 hr (u_24.1, u_24.2.1, u_24.2.2, u_31, u_48.1, u_48.2) hg (subP hP [12, 8, 0, 9, 1, 2, 3, 11, 4, 5, 6, 10, 7, 13, 14] rfl) (hD.sub [12, 8, 0, 9, 1, 2, 3, 11, 4, 5, 6, 10, 7, 13, 14] (nd2_ok _ (by decide +kernel)) rfl) hS dX7_odds_52
  have hg := hg.2 c_18
  refine lv_iconst (v := (-1 : Int32)) hx hb dX7_odds_21 (by decide) ?_
  exact k_iret C0 hr (x_ruling_top, f_ruling_stack, f_purrs, f_ways, x_told_size, f_told_numbers) hg hP hD hS dX7_odds_22
theorem dX7_stands_0 : decode cX7_stands 0 = .ok (.iload_n 1, 1) := by decide +kernel
theorem dX7_stands_1 : decode cX7_stands 1 = .ok (.ifCond .lt 9, 3) := by decide +kernel
theorem dX7_stands_4 : decode cX7_stands 4 = .ok (.iload_n 1, 1) := by decide +kernel
theorem dX7_stands_5 : decode cX7_stands 5 = .ok (.bipush 10, 2) := by decide +kernel
theorem dX7_stands_7 : decode cX7_stands 7 = .ok (.if_icmp .le 5, 3) := by decide +kernel
theorem dX7_stands_10 : decode cX7_stands 10 = .ok (.iconst (-1), 1) := by decide +kernel
theorem dX7_stands_11 : decode cX7_stands 11 = .ok (.ireturn, 1) := by decide +kernel
theorem dX7_stands_12 : decode cX7_stands 12 = .ok (.aload_n 0, 1) := by decide +kernel
theorem dX7_stands_13 : decode cX7_stands 13 = .ok (.invokevirtual 313, 3) := by decide +kernel
theorem dX7_stands_16 : decode cX7_stands 16 = .ok (.lconst 1, 1) := by decide +kernel
theorem dX7_stands_17 : decode cX7_stands 17 = .ok (.lstore_n 2, 1) := by decide +kernel
theorem dX7_stands_18 : decode cX7_stands 18 = .ok (.iconst 0, 1) := by decide +kernel
theorem dX7_stands_19 : decode cX7_stands 19 = .ok (.istore 4, 2) := by decide +kernel
theorem dX7_stands_21 : decode cX7_stands 21 = .ok (.iload 4, 2) := by decide +kernel
theorem dX7_stands_23 : decode cX7_stands 23 = .ok (.aload_n 0, 1) := by decide +kernel
theorem dX7_stands_24 : decode cX7_stands 24 = .ok (.getfield 26, 3) := by decide +kernel
theorem dX7_stands_27 : decode cX7_stands 27 = .ok (.getfield 98, 3) := by decide +kernel
theorem dX7_stands_30 : decode cX7_stands 30 = .ok (.if_icmp .ge 19, 3) := by decide +kernel
theorem dX7_stands_33 : decode cX7_stands 33 = .ok (.lload_n 2, 1) := by decide +kernel
theorem dX7_stands_34 : decode cX7_stands 34 = .ok (.aload_n 0, 1) := by decide +kernel
theorem dX7_stands_35 : decode cX7_stands 35 = .ok (.iload 4, 2) := by decide +kernel
theorem dX7_stands_37 : decode cX7_stands 37 = .ok (.iload_n 1, 1) := by decide +kernel
theorem dX7_stands_38 : decode cX7_stands 38 = .ok (.invokevirtual 351, 3) := by decide +kernel
theorem dX7_stands_41 : decode cX7_stands 41 = .ok (.lmul, 1) := by decide +kernel
theorem dX7_stands_42 : decode cX7_stands 42 = .ok (.lstore_n 2, 1) := by decide +kernel
theorem dX7_stands_43 : decode cX7_stands 43 = .ok (.iinc 4 1, 3) := by decide +kernel
theorem dX7_stands_46 : decode cX7_stands 46 = .ok (.goto (-25), 3) := by decide +kernel
theorem dX7_stands_49 : decode cX7_stands 49 = .ok (.aload_n 0, 1) := by decide +kernel
theorem dX7_stands_50 : decode cX7_stands 50 = .ok (.lload_n 2, 1) := by decide +kernel
theorem dX7_stands_51 : decode cX7_stands 51 = .ok (.aload_n 0, 1) := by decide +kernel
theorem dX7_stands_52 : decode cX7_stands 52 = .ok (.getfield 26, 3) := by decide +kernel
theorem dX7_stands_55 : decode cX7_stands 55 = .ok (.getfield 118, 3) := by decide +kernel
theorem dX7_stands_58 : decode cX7_stands 58 = .ok (.invokestatic 355, 3) := by decide +kernel
theorem dX7_stands_61 : decode cX7_stands 61 = .ok (.invokevirtual 359, 3) := by decide +kernel
theorem dX7_stands_64 : decode cX7_stands 64 = .ok (.iconst 0, 1) := by decide +kernel
theorem dX7_stands_65 : decode cX7_stands 65 = .ok (.ireturn, 1) := by decide +kernel
noncomputable def p_X7_stands_21 (F : Nat) (p1 : Int32) (x_now_arches : Int32) (x_now_cats : Int32) (f_now_place : Nat → Int32) (f_now_load : Nat → Int32) (x_told_size : Int32) (f_told_numbers : Nat → Int64) (u_13 : (Int32 × (Nat → Int32) × (Nat → Int32))) (Post : Int32 → (Int32 × (Nat → Int32) × (Nat → Int32) × (Nat → Int64) × Int32 × (Nat → Int64)) → Prop) (n : Nat) : Int32 → Int64 → (Nat → Int64) → Prop := Nat.rec (motive := fun _ => Int32 → Int64 → (Nat → Int64) → Prop) (fun _ _ _ => False) (fun _ k21 => fun (y4_21 : Int32) (y2_21 : Int64) (f_ways_21 : Nat → Int64) => ((x_now_arches ≤ y4_21 → (p_X7_tensFor F x_now_cats (fun (r_58 : Int64) => (p_X7_tellFraction F y2_21 r_58 x_told_size f_told_numbers (fun (u_61 : (Int32 × (Nat → Int64))) => (Post (0 : Int32) (u_13.1, u_13.2.1, u_13.2.2, f_ways_21, u_61.1, u_61.2))))))) ∧ (¬ x_now_arches ≤ y4_21 → (p_X7_waysToHold F y4_21 p1 f_ways_21 x_now_cats f_now_place u_13.2.2 f_now_load (fun (r_38 : Int64) (u_38 : (Nat → Int64)) => (k21 (y4_21 + (1 : Int32)) (y2_21 * r_38) u_38)))))) n
theorem p_X7_stands_21_s (F : Nat) (p1 : Int32) (x_now_arches : Int32) (x_now_cats : Int32) (f_now_place : Nat → Int32) (f_now_load : Nat → Int32) (x_told_size : Int32) (f_told_numbers : Nat → Int64) (u_13 : (Int32 × (Nat → Int32) × (Nat → Int32))) (Post : Int32 → (Int32 × (Nat → Int32) × (Nat → Int32) × (Nat → Int64) × Int32 × (Nat → Int64)) → Prop) (n : Nat) (y4_21 : Int32) (y2_21 : Int64) (f_ways_21 : Nat → Int64) : p_X7_stands_21 F p1 x_now_arches x_now_cats f_now_place f_now_load x_told_size f_told_numbers u_13 Post (n + 1) y4_21 y2_21 f_ways_21 = ((x_now_arches ≤ y4_21 → (p_X7_tensFor F x_now_cats (fun (r_58 : Int64) => (p_X7_tellFraction F y2_21 r_58 x_told_size f_told_numbers (fun (u_61 : (Int32 × (Nat → Int64))) => (Post (0 : Int32) (u_13.1, u_13.2.1, u_13.2.2, f_ways_21, u_61.1, u_61.2))))))) ∧ (¬ x_now_arches ≤ y4_21 → (p_X7_waysToHold F y4_21 p1 f_ways_21 x_now_cats f_now_place u_13.2.2 f_now_load (fun (r_38 : Int64) (u_38 : (Nat → Int64)) => ((p_X7_stands_21 F p1 x_now_arches x_now_cats f_now_place f_now_load x_told_size f_told_numbers u_13 Post n) (y4_21 + (1 : Int32)) (y2_21 * r_38) u_38))))) := rfl
def p_X7_stands (F : Nat) (p1 : Int32) (x_now_arches : Int32) (x_now_cats : Int32) (x_now_hour : Int32) (x_ruling_size : Int32) (x_ruling_top : Int32) (f_now_place : Nat → Int32) (f_ruling_steps : Nat → Int32) (f_ruling_stack : Nat → Int32) (f_now_sag : Nat → Int32) (f_now_load : Nat → Int32) (f_now_joy : Nat → Int32) (f_now_grief : Nat → Int32) (f_now_bowl : Nat → Int32) (f_purrs : Nat → Int32) (f_ways : Nat → Int64) (x_told_size : Int32) (f_told_numbers : Nat → Int64) (Post : Int32 → (Int32 × (Nat → Int32) × (Nat → Int32) × (Nat → Int64) × Int32 × (Nat → Int64)) → Prop) : Prop := ((p1 < 0 → (Post (-1 : Int32) (x_ruling_top, f_ruling_stack, f_purrs, f_ways, x_told_size, f_told_numbers))) ∧ (¬ p1 < 0 → ((p1 ≤ (10 : Int32) → (p_X7_findPurrs F x_now_arches x_now_cats x_now_hour x_ruling_size x_ruling_top f_now_place f_ruling_steps f_ruling_stack f_now_sag f_now_load f_now_joy f_now_grief f_now_bowl f_purrs (fun (u_13 : (Int32 × (Nat → Int32) × (Nat → Int32))) => (p_X7_stands_21 F p1 x_now_arches x_now_cats f_now_place f_now_load x_told_size f_told_numbers u_13 Post F (0 : Int32) (1 : Int64) f_ways)))) ∧ (¬ p1 ≤ (10 : Int32) → (Post (-1 : Int32) (x_ruling_top, f_ruling_stack, f_purrs, f_ways, x_told_size, f_told_numbers))))))
set_option maxHeartbeats 4000000 in
set_option maxRecDepth 100000 in
theorem c_X7_stands (l : Launch) (D : va_G) (cT : Nat → ClassId) (F : Nat) (h : Nat) (p1 : Int32) (w_text : Value) (q_told : Nat) (q_now : Nat) (w_before : Value) (w_trial : Value) (w_past : Value) (w_kept : Value) (w_feltNotes : Value) (w_heardNotes : Value) (w_draws : Value) (q_purrs : Nat) (w_alone : Value) (w_nimbers : Value) (q_ways : Nat) (q_ruling : Nat) (w_spare : Value) (q_now_load : Nat) (q_now_sag : Nat) (q_now_joy : Nat) (q_now_bowl : Nat) (q_now_grief : Nat) (q_now_place : Nat) (x_now_arches : Int32) (x_now_cats : Int32) (x_now_store : Int32) (x_now_hour : Int32) (x_now_drops : Int32) (q_ruling_steps : Nat) (q_ruling_stack : Nat) (x_ruling_size : Int32) (x_ruling_top : Int32) (x_ruling_open : Int32) (x_ruling_compared : Int32) (x_ruling_digits : Int32) (x_ruling_wantsThing : Int32) (f_now_place : Nat → Int32) (f_ruling_steps : Nat → Int32) (f_ruling_stack : Nat → Int32) (f_now_sag : Nat → Int32) (f_now_load : Nat → Int32) (f_now_joy : Nat → Int32) (f_now_grief : Nat → Int32) (f_now_bowl : Nat → Int32) (f_purrs : Nat → Int32) (f_ways : Nat → Int64) (q_told_numbers : Nat) (x_told_size : Int32) (f_told_numbers : Nat → Int64) (Post : Int32 → (Int32 × (Nat → Int32) × (Nat → Int32) × (Nat → Int64) × Int32 × (Nat → Int64)) → Prop) (hg : p_X7_stands F p1 x_now_arches x_now_cats x_now_hour x_ruling_size x_ruling_top f_now_place f_ruling_steps f_ruling_stack f_now_sag f_now_load f_now_joy f_now_grief f_now_bowl f_purrs f_ways x_told_size f_told_numbers Post) : MWi l D cT yX7_stands cX7_stands 5 (some .int) 5 120 0 0 [.ref h, .int p1] [(h, oX7 w_text (.ref q_told) (.ref q_now) w_before w_trial w_past w_kept w_feltNotes w_heardNotes w_draws (.ref q_purrs) w_alone w_nimbers (.ref q_ways) (.ref q_ruling) w_spare), (q_now, oX6 (.ref q_now_load) (.ref q_now_sag) (.ref q_now_joy) (.ref q_now_bowl) (.ref q_now_grief) (.ref q_now_place) (.int x_now_arches) (.int x_now_cats) (.int x_now_store) (.int x_now_hour) (.int x_now_drops)), (q_ruling, oX4 (.ref q_ruling_steps) (.ref q_ruling_stack) (.int x_ruling_size) (.int x_ruling_top) (.int x_ruling_open) (.int x_ruling_compared) (.int x_ruling_digits) (.int x_ruling_wantsThing)), (q_now_place, aI cT 8 f_now_place), (q_ruling_steps, aI cT 40 f_ruling_steps), (q_ruling_stack, aI cT 40 f_ruling_stack), (q_now_sag, aI cT 6 f_now_sag), (q_now_load, aI cT 6 f_now_load), (q_now_joy, aI cT 8 f_now_joy), (q_now_grief, aI cT 8 f_now_grief), (q_now_bowl, aI cT 8 f_now_bowl), (q_purrs, aI cT 8 f_purrs), (q_ways, aJ cT 73 f_ways), (q_told, oX3 (.ref q_told_numbers) (.int x_told_size)), (q_told_numbers, aJ cT 8 f_told_numbers)] Post (fun (u : (Int32 × (Nat → Int32) × (Nat → Int32) × (Nat → Int64) × Int32 × (Nat → Int64))) => [(h, oX7 w_text (.ref q_told) (.ref q_now) w_before w_trial w_past w_kept w_feltNotes w_heardNotes w_draws (.ref q_purrs) w_alone w_nimbers (.ref q_ways) (.ref q_ruling) w_spare), (q_now, oX6 (.ref q_now_load) (.ref q_now_sag) (.ref q_now_joy) (.ref q_now_bowl) (.ref q_now_grief) (.ref q_now_place) (.int x_now_arches) (.int x_now_cats) (.int x_now_store) (.int x_now_hour) (.int x_now_drops)), (q_ruling, oX4 (.ref q_ruling_steps) (.ref q_ruling_stack) (.int x_ruling_size) (.int u.1) (.int x_ruling_open) (.int x_ruling_compared) (.int x_ruling_digits) (.int x_ruling_wantsThing)), (q_now_place, aI cT 8 f_now_place), (q_ruling_steps, aI cT 40 f_ruling_steps), (q_ruling_stack, aI cT 40 u.2.1), (q_now_sag, aI cT 6 f_now_sag), (q_now_load, aI cT 6 f_now_load), (q_now_joy, aI cT 8 f_now_joy), (q_now_grief, aI cT 8 f_now_grief), (q_now_bowl, aI cT 8 f_now_bowl), (q_purrs, aI cT 8 u.2.2.1), (q_ways, aJ cT 73 u.2.2.2.1), (q_told, oX3 (.ref q_told_numbers) (.int u.2.2.2.2.1)), (q_told_numbers, aJ cT 8 u.2.2.2.2.2)]) := by
  refine MWi.of (by decide) (Nat.le_of_ble_eq_true rfl) ?_
  intro p e s m below meth c A hA C0 hnm hr hP hD ls hl
  have hl : lv_has ls 5 [(0, .ref h), (1, .int p1)] := hl
  have hx := C0.x
  have hb := C0.b
  have hS : va_S A s.heap s.heap [] := va_S.rf
  have hP : va_P D cls9 [(h, oX7 w_text (.ref q_told) (.ref q_now) w_before w_trial w_past w_kept w_feltNotes w_heardNotes w_draws (.ref q_purrs) w_alone w_nimbers (.ref q_ways) (.ref q_ruling) w_spare), (q_now, oX6 (.ref q_now_load) (.ref q_now_sag) (.ref q_now_joy) (.ref q_now_bowl) (.ref q_now_grief) (.ref q_now_place) (.int x_now_arches) (.int x_now_cats) (.int x_now_store) (.int x_now_hour) (.int x_now_drops)), (q_ruling, oX4 (.ref q_ruling_steps) (.ref q_ruling_stack) (.int x_ruling_size) (.int x_ruling_top) (.int x_ruling_open) (.int x_ruling_compared) (.int x_ruling_digits) (.int x_ruling_wantsThing)), (q_now_place, aI cT 8 f_now_place), (q_ruling_steps, aI cT 40 f_ruling_steps), (q_ruling_stack, aI cT 40 f_ruling_stack), (q_now_sag, aI cT 6 f_now_sag), (q_now_load, aI cT 6 f_now_load), (q_now_joy, aI cT 8 f_now_joy), (q_now_grief, aI cT 8 f_now_grief), (q_now_bowl, aI cT 8 f_now_bowl), (q_purrs, aI cT 8 f_purrs), (q_ways, aJ cT 73 f_ways), (q_told, oX3 (.ref q_told_numbers) (.int x_told_size)), (q_told_numbers, aJ cT 8 f_told_numbers)] s.heap := hP
  have hD : va_D A [(h, oX7 w_text (.ref q_told) (.ref q_now) w_before w_trial w_past w_kept w_feltNotes w_heardNotes w_draws (.ref q_purrs) w_alone w_nimbers (.ref q_ways) (.ref q_ruling) w_spare), (q_now, oX6 (.ref q_now_load) (.ref q_now_sag) (.ref q_now_joy) (.ref q_now_bowl) (.ref q_now_grief) (.ref q_now_place) (.int x_now_arches) (.int x_now_cats) (.int x_now_store) (.int x_now_hour) (.int x_now_drops)), (q_ruling, oX4 (.ref q_ruling_steps) (.ref q_ruling_stack) (.int x_ruling_size) (.int x_ruling_top) (.int x_ruling_open) (.int x_ruling_compared) (.int x_ruling_digits) (.int x_ruling_wantsThing)), (q_now_place, aI cT 8 f_now_place), (q_ruling_steps, aI cT 40 f_ruling_steps), (q_ruling_stack, aI cT 40 f_ruling_stack), (q_now_sag, aI cT 6 f_now_sag), (q_now_load, aI cT 6 f_now_load), (q_now_joy, aI cT 8 f_now_joy), (q_now_grief, aI cT 8 f_now_grief), (q_now_bowl, aI cT 8 f_now_bowl), (q_purrs, aI cT 8 f_purrs), (q_ways, aJ cT 73 f_ways), (q_told, oX3 (.ref q_told_numbers) (.int x_told_size)), (q_told_numbers, aJ cT 8 f_told_numbers)] := hD
  have L21 : ∀ (u_13 : (Int32 × (Nat → Int32) × (Nat → Int32))) (n21 : Nat) (y4_21 : Int32) (y2_21 : Int64) (f_ways_21 : Nat → Int64) (H : Heap) (locs : List Loc) (ls : Array Slot), p_X7_stands_21 F p1 x_now_arches x_now_cats f_now_place f_now_load x_told_size f_told_numbers u_13 Post n21 y4_21 y2_21 f_ways_21 → va_P D cls9 [(h, oX7 w_text (.ref q_told) (.ref q_now) w_before w_trial w_past w_kept w_feltNotes w_heardNotes w_draws (.ref q_purrs) w_alone w_nimbers (.ref q_ways) (.ref q_ruling) w_spare), (q_now, oX6 (.ref q_now_load) (.ref q_now_sag) (.ref q_now_joy) (.ref q_now_bowl) (.ref q_now_grief) (.ref q_now_place) (.int x_now_arches) (.int x_now_cats) (.int x_now_store) (.int x_now_hour) (.int x_now_drops)), (q_ruling, oX4 (.ref q_ruling_steps) (.ref q_ruling_stack) (.int x_ruling_size) (.int u_13.1) (.int x_ruling_open) (.int x_ruling_compared) (.int x_ruling_digits) (.int x_ruling_wantsThing)), (q_now_place, aI cT 8 f_now_place), (q_ruling_steps, aI cT 40 f_ruling_steps), (q_ruling_stack, aI cT 40 u_13.2.1), (q_now_sag, aI cT 6 f_now_sag), (q_now_load, aI cT 6 f_now_load), (q_now_joy, aI cT 8 f_now_joy), (q_now_grief, aI cT 8 f_now_grief), (q_now_bowl, aI cT 8 f_now_bowl), (q_purrs, aI cT 8 u_13.2.2), (q_ways, aJ cT 73 f_ways_21), (q_told, oX3 (.ref q_told_numbers) (.int x_told_size)), (q_told_numbers, aJ cT 8 f_told_numbers)] H → va_D A [(h, oX7 w_text (.ref q_told) (.ref q_now) w_before w_trial w_past w_kept w_feltNotes w_heardNotes w_draws (.ref q_purrs) w_alone w_nimbers (.ref q_ways) (.ref q_ruling) w_spare), (q_now, oX6 (.ref q_now_load) (.ref q_now_sag) (.ref q_now_joy) (.ref q_now_bowl) (.ref q_now_grief) (.ref q_now_place) (.int x_now_arches) (.int x_now_cats) (.int x_now_store) (.int x_now_hour) (.int x_now_drops)), (q_ruling, oX4 (.ref q_ruling_steps) (.ref q_ruling_stack) (.int x_ruling_size) (.int u_13.1) (.int x_ruling_open) (.int x_ruling_compared) (.int x_ruling_digits) (.int x_ruling_wantsThing)), (q_now_place, aI cT 8 f_now_place), (q_ruling_steps, aI cT 40 f_ruling_steps), (q_ruling_stack, aI cT 40 u_13.2.1), (q_now_sag, aI cT 6 f_now_sag), (q_now_load, aI cT 6 f_now_load), (q_now_joy, aI cT 8 f_now_joy), (q_now_grief, aI cT 8 f_now_grief), (q_now_bowl, aI cT 8 f_now_bowl), (q_purrs, aI cT 8 u_13.2.2), (q_ways, aJ cT 73 f_ways_21), (q_told, oX3 (.ref q_told_numbers) (.int x_told_size)), (q_told_numbers, aJ cT 8 f_told_numbers)] → va_S A s.heap H locs → lv_has ls 5 [(0, .ref h), (1, .int p1), (2, .long y2_21), (4, .int y4_21)] → W p l e (rmO 5 120 0 0) s m ([.ref h, .int p1] : List Value).toArray below meth c H locs 0 0 (MQ below (va_Qi Post (cB D A (fun (u : (Int32 × (Nat → Int32) × (Nat → Int32) × (Nat → Int64) × Int32 × (Nat → Int64))) => [(h, oX7 w_text (.ref q_told) (.ref q_now) w_before w_trial w_past w_kept w_feltNotes w_heardNotes w_draws (.ref q_purrs) w_alone w_nimbers (.ref q_ways) (.ref q_ruling) w_spare), (q_now, oX6 (.ref q_now_load) (.ref q_now_sag) (.ref q_now_joy) (.ref q_now_bowl) (.ref q_now_grief) (.ref q_now_place) (.int x_now_arches) (.int x_now_cats) (.int x_now_store) (.int x_now_hour) (.int x_now_drops)), (q_ruling, oX4 (.ref q_ruling_steps) (.ref q_ruling_stack) (.int x_ruling_size) (.int u.1) (.int x_ruling_open) (.int x_ruling_compared) (.int x_ruling_digits) (.int x_ruling_wantsThing)), (q_now_place, aI cT 8 f_now_place), (q_ruling_steps, aI cT 40 f_ruling_steps), (q_ruling_stack, aI cT 40 u.2.1), (q_now_sag, aI cT 6 f_now_sag), (q_now_load, aI cT 6 f_now_load), (q_now_joy, aI cT 8 f_now_joy), (q_now_grief, aI cT 8 f_now_grief), (q_now_bowl, aI cT 8 f_now_bowl), (q_purrs, aI cT 8 u.2.2.1), (q_ways, aJ cT 73 u.2.2.2.1), (q_told, oX3 (.ref q_told_numbers) (.int u.2.2.2.2.1)), (q_told_numbers, aJ cT 8 u.2.2.2.2.2)])) A) ([.ref h, .int p1] : List Value).toArray s 0 0 A) (F0 m 21 ls []) := by
    intro u_13 n21
    induction n21 with
    | zero =>
      intro y4_21 y2_21 f_ways_21 H locs ls hg hP hD hS hl
      exact False.elim hg
    | succ n21 ih21 =>
      intro y4_21 y2_21 f_ways_21 H locs ls hg hP hD hS hl
      rw [p_X7_stands_21_s] at hg
      refine lv_iload hx hb dX7_stands_21 (lv_at hl 3 rfl) ?_
      refine lv_aload_n hx hb dX7_stands_23 rfl (lv_at hl 0 rfl) ?_
      refine gf_X7_26 C0 hP 0 rfl rfl dX7_stands_24 ?_
      refine gf_X7_98 C0 hP 1 rfl rfl dX7_stands_27 ?_
      refine lv_icmp_ge (tgt := 49) hx hb dX7_stands_30 (by decide) (fun c_30 => ?_) (fun c_30 => ?_)
      · have hg := hg.1 c_30
        refine lv_aload_n hx hb dX7_stands_49 rfl (lv_at hl 0 rfl) ?_
        refine lv_lload_n hx hb dX7_stands_50 rfl (lv_at hl 2 rfl) ?_
        refine lv_aload_n hx hb dX7_stands_51 rfl (lv_at hl 0 rfl) ?_
        refine gf_X7_26 C0 hP 0 rfl rfl dX7_stands_52 ?_
        refine gf_X7_118 C0 hP 1 rfl rfl dX7_stands_55 ?_
        refine k_Sxl (rest := [.long y2_21, .ref h]) C0 lk_X7_355 (c_X7_tensFor l D cT F x_now_cats _ hg) hP hD hS hA [] (by decide +kernel) rfl ⟨Nat.le_of_ble_eq_true rfl, Nat.le_of_ble_eq_true rfl⟩ rfl hl.1 rfl (Nat.le_of_ble_eq_true rfl) dX7_stands_58 ⟨Nat.le_of_ble_eq_true rfl, Nat.le_of_ble_eq_true rfl⟩ (fun r_58 hg => ?_)
        refine k_Vv (rest := []) (wr := [(q_now, oX6 (.ref q_now_load) (.ref q_now_sag) (.ref q_now_joy) (.ref q_now_bowl) (.ref q_now_grief) (.ref q_now_place) (.int x_now_arches) (.int x_now_cats) (.int x_now_store) (.int x_now_hour) (.int x_now_drops)), (q_ruling, oX4 (.ref q_ruling_steps) (.ref q_ruling_stack) (.int x_ruling_size) (.int u_13.1) (.int x_ruling_open) (.int x_ruling_compared) (.int x_ruling_digits) (.int x_ruling_wantsThing)), (q_now_place, aI cT 8 f_now_place), (q_ruling_steps, aI cT 40 f_ruling_steps), (q_ruling_stack, aI cT 40 u_13.2.1), (q_now_sag, aI cT 6 f_now_sag), (q_now_load, aI cT 6 f_now_load), (q_now_joy, aI cT 8 f_now_joy), (q_now_grief, aI cT 8 f_now_grief), (q_now_bowl, aI cT 8 f_now_bowl), (q_purrs, aI cT 8 u_13.2.2), (q_ways, aJ cT 73 f_ways_21)]) (w2 := fun u_61 => [(q_now, oX6 (.ref q_now_load) (.ref q_now_sag) (.ref q_now_joy) (.ref q_now_bowl) (.ref q_now_grief) (.ref q_now_place) (.int x_now_arches) (.int x_now_cats) (.int x_now_store) (.int x_now_hour) (.int x_now_drops)), (q_ruling, oX4 (.ref q_ruling_steps) (.ref q_ruling_stack) (.int x_ruling_size) (.int u_13.1) (.int x_ruling_open) (.int x_ruling_compared) (.int x_ruling_digits) (.int x_ruling_wantsThing)), (q_now_place, aI cT 8 f_now_place), (q_ruling_steps, aI cT 40 f_ruling_steps), (q_ruling_stack, aI cT 40 u_13.2.1), (q_now_sag, aI cT 6 f_now_sag), (q_now_load, aI cT 6 f_now_load), (q_now_joy, aI cT 8 f_now_joy), (q_now_grief, aI cT 8 f_now_grief), (q_now_bowl, aI cT 8 f_now_bowl), (q_purrs, aI cT 8 u_13.2.2), (q_ways, aJ cT 73 f_ways_21), (h, oX7 w_text (.ref q_told) (.ref q_now) w_before w_trial w_past w_kept w_feltNotes w_heardNotes w_draws (.ref q_purrs) w_alone w_nimbers (.ref q_ways) (.ref q_ruling) w_spare), (q_told, oX3 (.ref q_told_numbers) (.int u_61.1)), (q_told_numbers, aJ cT 8 u_61.2)]) C0 lk_X7_359 (c_X7_tellFraction l D cT F h y2_21 r_58 w_text q_told (.ref q_now) w_before w_trial w_past w_kept w_feltNotes w_heardNotes w_draws (.ref q_purrs) w_alone w_nimbers (.ref q_ways) (.ref q_ruling) w_spare q_told_numbers x_told_size f_told_numbers _ hg) hP hD hS hA [0, 13, 14] [1, 2, 3, 4, 5, 6, 7, 8, 9, 10, 11, 12] (by decide +kernel) rfl rfl (fun _ => rfl) rfl rfl ⟨Nat.le_of_ble_eq_true rfl, Nat.le_of_ble_eq_true rfl⟩ rfl hl.1 rfl (Nat.le_of_ble_eq_true rfl) dX7_stands_61 ⟨Nat.le_of_ble_eq_true rfl, Nat.le_of_ble_eq_true rfl⟩ ?_
        intro u_61 H locs hg hP hD hS
        refine lv_iconst (v := (0 : Int32)) hx hb dX7_stands_64 (by decide) ?_
        exact k_iret C0 hr (u_13.1, u_13.2.1, u_13.2.2, f_ways_21, u_61.1, u_61.2) hg (subP hP [12, 0, 1, 2, 3, 4, 5, 6, 7, 8, 9, 10, 11, 13, 14] rfl) (hD.sub [12, 0, 1, 2, 3, 4, 5, 6, 7, 8, 9, 10, 11, 13, 14] (nd2_ok _ (by decide +kernel)) rfl) hS dX7_stands_65
      have hg := hg.2 c_30
      refine lv_lload_n hx hb dX7_stands_33 rfl (lv_at hl 2 rfl) ?_
      refine lv_aload_n hx hb dX7_stands_34 rfl (lv_at hl 0 rfl) ?_
      refine lv_iload hx hb dX7_stands_35 (lv_at hl 3 rfl) ?_
      refine lv_iload_n hx hb dX7_stands_37 rfl (lv_at hl 1 rfl) ?_
      refine k_Vl (rest := [.long y2_21]) (wr := [(q_ruling, oX4 (.ref q_ruling_steps) (.ref q_ruling_stack) (.int x_ruling_size) (.int u_13.1) (.int x_ruling_open) (.int x_ruling_compared) (.int x_ruling_digits) (.int x_ruling_wantsThing)), (q_ruling_steps, aI cT 40 f_ruling_steps), (q_ruling_stack, aI cT 40 u_13.2.1), (q_now_sag, aI cT 6 f_now_sag), (q_now_joy, aI cT 8 f_now_joy), (q_now_grief, aI cT 8 f_now_grief), (q_now_bowl, aI cT 8 f_now_bowl), (q_told, oX3 (.ref q_told_numbers) (.int x_told_size)), (q_told_numbers, aJ cT 8 f_told_numbers)]) (w2 := fun u_38 => [(q_ruling, oX4 (.ref q_ruling_steps) (.ref q_ruling_stack) (.int x_ruling_size) (.int u_13.1) (.int x_ruling_open) (.int x_ruling_compared) (.int x_ruling_digits) (.int x_ruling_wantsThing)), (q_ruling_steps, aI cT 40 f_ruling_steps), (q_ruling_stack, aI cT 40 u_13.2.1), (q_now_sag, aI cT 6 f_now_sag), (q_now_joy, aI cT 8 f_now_joy), (q_now_grief, aI cT 8 f_now_grief), (q_now_bowl, aI cT 8 f_now_bowl), (q_told, oX3 (.ref q_told_numbers) (.int x_told_size)), (q_told_numbers, aJ cT 8 f_told_numbers), (h, oX7 w_text (.ref q_told) (.ref q_now) w_before w_trial w_past w_kept w_feltNotes w_heardNotes w_draws (.ref q_purrs) w_alone w_nimbers (.ref q_ways) (.ref q_ruling) w_spare), (q_ways, aJ cT 73 u_38), (q_now, oX6 (.ref q_now_load) (.ref q_now_sag) (.ref q_now_joy) (.ref q_now_bowl) (.ref q_now_grief) (.ref q_now_place) (.int x_now_arches) (.int x_now_cats) (.int x_now_store) (.int x_now_hour) (.int x_now_drops)), (q_now_place, aI cT 8 f_now_place), (q_purrs, aI cT 8 u_13.2.2), (q_now_load, aI cT 6 f_now_load)]) C0 lk_X7_351 (c_X7_waysToHold l D cT F h y4_21 p1 w_text (.ref q_told) q_now w_before w_trial w_past w_kept w_feltNotes w_heardNotes w_draws q_purrs w_alone w_nimbers q_ways (.ref q_ruling) w_spare f_ways_21 q_now_load (.ref q_now_sag) (.ref q_now_joy) (.ref q_now_bowl) (.ref q_now_grief) q_now_place x_now_arches x_now_cats x_now_store x_now_hour x_now_drops f_now_place u_13.2.2 f_now_load _ hg) hP hD hS hA [0, 12, 1, 3, 11, 7] [2, 4, 5, 6, 8, 9, 10, 13, 14] (by decide +kernel) rfl rfl (fun _ => rfl) rfl rfl ⟨Nat.le_of_ble_eq_true rfl, Nat.le_of_ble_eq_true rfl⟩ rfl hl.1 rfl (Nat.le_of_ble_eq_true rfl) dX7_stands_38 ⟨Nat.le_of_ble_eq_true rfl, Nat.le_of_ble_eq_true rfl⟩ ?_
      intro r_38 u_38 H locs hg hP hD hS
      refine lv_lmul hx hb dX7_stands_41 ?_
      refine lv_lstore_n (lv' := [(2, .long (y2_21 * r_38)), (0, .ref h), (1, .int p1), (4, .int y4_21)]) hx hb dX7_stands_42 rfl hl (by decide) rfl (fun ls hl => ?_)
      refine lv_iinc (v := (y4_21 + (1 : Int32))) (lv' := [(4, .int (y4_21 + (1 : Int32))), (2, .long (y2_21 * r_38)), (0, .ref h), (1, .int p1)]) hx hb dX7_stands_43 hl (k := 3) rfl rfl (by decide) rfl (fun ls hl => ?_)
      refine lv_goto (tgt := 21) hx hb dX7_stands_46 (by decide) ?_
      exact ih21 (y4_21 + (1 : Int32)) (y2_21 * r_38) u_38 _ _ _ hg (subP hP [9, 11, 0, 12, 1, 2, 3, 14, 4, 5, 6, 13, 10, 7, 8] rfl) (hD.sub [9, 11, 0, 12, 1, 2, 3, 14, 4, 5, 6, 13, 10, 7, 8] (nd2_ok _ (by decide +kernel)) rfl) hS (lv_sub hl [2, 3, 1, 0] rfl)
  unfold p_X7_stands at hg
  refine lv_iload_n hx hb dX7_stands_0 rfl (lv_at hl 1 rfl) ?_
  refine lv_if_lt (tgt := 10) hx hb dX7_stands_1 (by decide) (fun c_1 => ?_) (fun c_1 => ?_)
  · have hg := hg.1 c_1
    refine lv_iconst (v := (-1 : Int32)) hx hb dX7_stands_10 (by decide) ?_
    exact k_iret C0 hr (x_ruling_top, f_ruling_stack, f_purrs, f_ways, x_told_size, f_told_numbers) hg hP hD hS dX7_stands_11
  have hg := hg.2 c_1
  refine lv_iload_n hx hb dX7_stands_4 rfl (lv_at hl 1 rfl) ?_
  refine lv_bipush (v := (10 : Int32)) hx hb dX7_stands_5 (by decide) ?_
  refine lv_icmp_le (tgt := 12) hx hb dX7_stands_7 (by decide) (fun c_7 => ?_) (fun c_7 => ?_)
  · have hg := hg.1 c_7
    refine lv_aload_n hx hb dX7_stands_12 rfl (lv_at hl 0 rfl) ?_
    refine k_Vv (rest := []) (wr := [(q_ways, aJ cT 73 f_ways), (q_told, oX3 (.ref q_told_numbers) (.int x_told_size)), (q_told_numbers, aJ cT 8 f_told_numbers)]) (w2 := fun u_13 => [(q_ways, aJ cT 73 f_ways), (q_told, oX3 (.ref q_told_numbers) (.int x_told_size)), (q_told_numbers, aJ cT 8 f_told_numbers), (h, oX7 w_text (.ref q_told) (.ref q_now) w_before w_trial w_past w_kept w_feltNotes w_heardNotes w_draws (.ref q_purrs) w_alone w_nimbers (.ref q_ways) (.ref q_ruling) w_spare), (q_now, oX6 (.ref q_now_load) (.ref q_now_sag) (.ref q_now_joy) (.ref q_now_bowl) (.ref q_now_grief) (.ref q_now_place) (.int x_now_arches) (.int x_now_cats) (.int x_now_store) (.int x_now_hour) (.int x_now_drops)), (q_ruling, oX4 (.ref q_ruling_steps) (.ref q_ruling_stack) (.int x_ruling_size) (.int u_13.1) (.int x_ruling_open) (.int x_ruling_compared) (.int x_ruling_digits) (.int x_ruling_wantsThing)), (q_now_place, aI cT 8 f_now_place), (q_ruling_steps, aI cT 40 f_ruling_steps), (q_ruling_stack, aI cT 40 u_13.2.1), (q_now_sag, aI cT 6 f_now_sag), (q_now_load, aI cT 6 f_now_load), (q_now_joy, aI cT 8 f_now_joy), (q_now_grief, aI cT 8 f_now_grief), (q_now_bowl, aI cT 8 f_now_bowl), (q_purrs, aI cT 8 u_13.2.2)]) C0 lk_X7_313 (c_X7_findPurrs l D cT F h w_text (.ref q_told) q_now w_before w_trial w_past w_kept w_feltNotes w_heardNotes w_draws q_purrs w_alone w_nimbers (.ref q_ways) q_ruling w_spare q_now_load q_now_sag q_now_joy q_now_bowl q_now_grief q_now_place x_now_arches x_now_cats x_now_store x_now_hour x_now_drops q_ruling_steps q_ruling_stack x_ruling_size x_ruling_top x_ruling_open x_ruling_compared x_ruling_digits x_ruling_wantsThing f_now_place f_ruling_steps f_ruling_stack f_now_sag f_now_load f_now_joy f_now_grief f_now_bowl f_purrs _ hg) hP hD hS hA [0, 1, 2, 3, 4, 5, 6, 7, 8, 9, 10, 11] [12, 13, 14] (by decide +kernel) rfl rfl (fun _ => rfl) rfl rfl ⟨Nat.le_of_ble_eq_true rfl, Nat.le_of_ble_eq_true rfl⟩ rfl hl.1 rfl (Nat.le_of_ble_eq_true rfl) dX7_stands_13 ⟨Nat.le_of_ble_eq_true rfl, Nat.le_of_ble_eq_true rfl⟩ ?_
    intro u_13 H locs hg hP hD hS
    refine lv_lconst (v := (1 : Int64)) hx hb dX7_stands_16 (by decide) ?_
    refine lv_lstore_n (lv' := [(2, .long (1 : Int64)), (0, .ref h), (1, .int p1)]) hx hb dX7_stands_17 rfl hl (by decide) rfl (fun ls hl => ?_)
    refine lv_iconst (v := (0 : Int32)) hx hb dX7_stands_18 (by decide) ?_
    refine lv_istore (lv' := [(4, .int (0 : Int32)), (2, .long (1 : Int64)), (0, .ref h), (1, .int p1)]) hx hb dX7_stands_19 hl (by decide) rfl (fun ls hl => ?_)
    exact L21 u_13 F (0 : Int32) (1 : Int64) f_ways _ _ _ hg (subP hP [3, 4, 5, 6, 7, 8, 9, 10, 11, 12, 13, 14, 0, 1, 2] rfl) (hD.sub [3, 4, 5, 6, 7, 8, 9, 10, 11, 12, 13, 14, 0, 1, 2] (nd2_ok _ (by decide +kernel)) rfl) hS (lv_sub hl [2, 3, 1, 0] rfl)
  have hg := hg.2 c_7
  refine lv_iconst (v := (-1 : Int32)) hx hb dX7_stands_10 (by decide) ?_
  exact k_iret C0 hr (x_ruling_top, f_ruling_stack, f_purrs, f_ways, x_told_size, f_told_numbers) hg hP hD hS dX7_stands_11
theorem dX7_nimberOf_0 : decode cX7_nimberOf 0 = .ok (.lconst 0, 1) := by decide +kernel
theorem dX7_nimberOf_1 : decode cX7_nimberOf 1 = .ok (.lstore_n 2, 1) := by decide +kernel
theorem dX7_nimberOf_2 : decode cX7_nimberOf 2 = .ok (.iconst 1, 1) := by decide +kernel
theorem dX7_nimberOf_3 : decode cX7_nimberOf 3 = .ok (.istore 4, 2) := by decide +kernel
theorem dX7_nimberOf_5 : decode cX7_nimberOf 5 = .ok (.iconst 2, 1) := by decide +kernel
theorem dX7_nimberOf_6 : decode cX7_nimberOf 6 = .ok (.iload 4, 2) := by decide +kernel
theorem dX7_nimberOf_8 : decode cX7_nimberOf 8 = .ok (.imul, 1) := by decide +kernel
theorem dX7_nimberOf_9 : decode cX7_nimberOf 9 = .ok (.iload_n 1, 1) := by decide +kernel
theorem dX7_nimberOf_10 : decode cX7_nimberOf 10 = .ok (.if_icmp .ge 31, 3) := by decide +kernel
theorem dX7_nimberOf_13 : decode cX7_nimberOf 13 = .ok (.lload_n 2, 1) := by decide +kernel
theorem dX7_nimberOf_14 : decode cX7_nimberOf 14 = .ok (.lconst 1, 1) := by decide +kernel
theorem dX7_nimberOf_15 : decode cX7_nimberOf 15 = .ok (.aload_n 0, 1) := by decide +kernel
theorem dX7_nimberOf_16 : decode cX7_nimberOf 16 = .ok (.getfield 73, 3) := by decide +kernel
theorem dX7_nimberOf_19 : decode cX7_nimberOf 19 = .ok (.iload 4, 2) := by decide +kernel
theorem dX7_nimberOf_21 : decode cX7_nimberOf 21 = .ok (.iaload, 1) := by decide +kernel
theorem dX7_nimberOf_22 : decode cX7_nimberOf 22 = .ok (.aload_n 0, 1) := by decide +kernel
theorem dX7_nimberOf_23 : decode cX7_nimberOf 23 = .ok (.getfield 73, 3) := by decide +kernel
theorem dX7_nimberOf_26 : decode cX7_nimberOf 26 = .ok (.iload_n 1, 1) := by decide +kernel
theorem dX7_nimberOf_27 : decode cX7_nimberOf 27 = .ok (.iload 4, 2) := by decide +kernel
theorem dX7_nimberOf_29 : decode cX7_nimberOf 29 = .ok (.isub, 1) := by decide +kernel
theorem dX7_nimberOf_30 : decode cX7_nimberOf 30 = .ok (.iaload, 1) := by decide +kernel
theorem dX7_nimberOf_31 : decode cX7_nimberOf 31 = .ok (.ixor, 1) := by decide +kernel
theorem dX7_nimberOf_32 : decode cX7_nimberOf 32 = .ok (.lshl, 1) := by decide +kernel
theorem dX7_nimberOf_33 : decode cX7_nimberOf 33 = .ok (.lor, 1) := by decide +kernel
theorem dX7_nimberOf_34 : decode cX7_nimberOf 34 = .ok (.lstore_n 2, 1) := by decide +kernel
theorem dX7_nimberOf_35 : decode cX7_nimberOf 35 = .ok (.iinc 4 1, 3) := by decide +kernel
theorem dX7_nimberOf_38 : decode cX7_nimberOf 38 = .ok (.goto (-33), 3) := by decide +kernel
theorem dX7_nimberOf_41 : decode cX7_nimberOf 41 = .ok (.iconst 0, 1) := by decide +kernel
theorem dX7_nimberOf_42 : decode cX7_nimberOf 42 = .ok (.istore 4, 2) := by decide +kernel
theorem dX7_nimberOf_44 : decode cX7_nimberOf 44 = .ok (.iload 4, 2) := by decide +kernel
theorem dX7_nimberOf_46 : decode cX7_nimberOf 46 = .ok (.bipush 40, 2) := by decide +kernel
theorem dX7_nimberOf_48 : decode cX7_nimberOf 48 = .ok (.if_icmp .ge 23, 3) := by decide +kernel
theorem dX7_nimberOf_51 : decode cX7_nimberOf 51 = .ok (.lload_n 2, 1) := by decide +kernel
theorem dX7_nimberOf_52 : decode cX7_nimberOf 52 = .ok (.iload 4, 2) := by decide +kernel
theorem dX7_nimberOf_54 : decode cX7_nimberOf 54 = .ok (.lshr, 1) := by decide +kernel
theorem dX7_nimberOf_55 : decode cX7_nimberOf 55 = .ok (.lconst 1, 1) := by decide +kernel
theorem dX7_nimberOf_56 : decode cX7_nimberOf 56 = .ok (.land, 1) := by decide +kernel
theorem dX7_nimberOf_57 : decode cX7_nimberOf 57 = .ok (.lconst 0, 1) := by decide +kernel
theorem dX7_nimberOf_58 : decode cX7_nimberOf 58 = .ok (.lcmp, 1) := by decide +kernel
theorem dX7_nimberOf_59 : decode cX7_nimberOf 59 = .ok (.ifCond .ne 6, 3) := by decide +kernel
theorem dX7_nimberOf_62 : decode cX7_nimberOf 62 = .ok (.iload 4, 2) := by decide +kernel
theorem dX7_nimberOf_64 : decode cX7_nimberOf 64 = .ok (.ireturn, 1) := by decide +kernel
theorem dX7_nimberOf_65 : decode cX7_nimberOf 65 = .ok (.iinc 4 1, 3) := by decide +kernel
theorem dX7_nimberOf_68 : decode cX7_nimberOf 68 = .ok (.goto (-24), 3) := by decide +kernel
theorem dX7_nimberOf_71 : decode cX7_nimberOf 71 = .ok (.bipush 40, 2) := by decide +kernel
theorem dX7_nimberOf_73 : decode cX7_nimberOf 73 = .ok (.ireturn, 1) := by decide +kernel
noncomputable def p_X7_nimberOf_44 (F : Nat) (y2_5 : Int64) (Post : Int32 → Prop) (n : Nat) : Int32 → Prop := Nat.rec (motive := fun _ => Int32 → Prop) (fun _ => False) (fun _ k44 => fun (y4_44 : Int32) => (((40 : Int32) ≤ y4_44 → (Post (40 : Int32))) ∧ (¬ (40 : Int32) ≤ y4_44 → ((¬ (lg_cmp ((y2_5 >>> (y4_44.toInt64 &&& 63)) &&& (1 : Int64)) (0 : Int64)) = 0 → (k44 (y4_44 + (1 : Int32)))) ∧ ((lg_cmp ((y2_5 >>> (y4_44.toInt64 &&& 63)) &&& (1 : Int64)) (0 : Int64)) = 0 → (Post y4_44)))))) n
theorem p_X7_nimberOf_44_s (F : Nat) (y2_5 : Int64) (Post : Int32 → Prop) (n : Nat) (y4_44 : Int32) : p_X7_nimberOf_44 F y2_5 Post (n + 1) y4_44 = (((40 : Int32) ≤ y4_44 → (Post (40 : Int32))) ∧ (¬ (40 : Int32) ≤ y4_44 → ((¬ (lg_cmp ((y2_5 >>> (y4_44.toInt64 &&& 63)) &&& (1 : Int64)) (0 : Int64)) = 0 → ((p_X7_nimberOf_44 F y2_5 Post n) (y4_44 + (1 : Int32)))) ∧ ((lg_cmp ((y2_5 >>> (y4_44.toInt64 &&& 63)) &&& (1 : Int64)) (0 : Int64)) = 0 → (Post y4_44))))) := rfl
noncomputable def p_X7_nimberOf_5 (F : Nat) (p1 : Int32) (f_nimbers : Nat → Int32) (Post : Int32 → Prop) (n : Nat) : Int32 → Int64 → Prop := Nat.rec (motive := fun _ => Int32 → Int64 → Prop) (fun _ _ => False) (fun _ k5 => fun (y4_5 : Int32) (y2_5 : Int64) => ((p1 ≤ ((2 : Int32) * y4_5) → (p_X7_nimberOf_44 F y2_5 Post F (0 : Int32))) ∧ (¬ p1 ≤ ((2 : Int32) * y4_5) → (vp_in y4_5 41 ∧ (vp_in (p1 - y4_5) 41 ∧ (k5 (y4_5 + (1 : Int32)) (y2_5 ||| ((1 : Int64) <<< (((f_nimbers y4_5.toNatClampNeg) ^^^ (f_nimbers (p1 - y4_5).toNatClampNeg)).toInt64 &&& 63))))))))) n
theorem p_X7_nimberOf_5_s (F : Nat) (p1 : Int32) (f_nimbers : Nat → Int32) (Post : Int32 → Prop) (n : Nat) (y4_5 : Int32) (y2_5 : Int64) : p_X7_nimberOf_5 F p1 f_nimbers Post (n + 1) y4_5 y2_5 = ((p1 ≤ ((2 : Int32) * y4_5) → (p_X7_nimberOf_44 F y2_5 Post F (0 : Int32))) ∧ (¬ p1 ≤ ((2 : Int32) * y4_5) → (vp_in y4_5 41 ∧ (vp_in (p1 - y4_5) 41 ∧ ((p_X7_nimberOf_5 F p1 f_nimbers Post n) (y4_5 + (1 : Int32)) (y2_5 ||| ((1 : Int64) <<< (((f_nimbers y4_5.toNatClampNeg) ^^^ (f_nimbers (p1 - y4_5).toNatClampNeg)).toInt64 &&& 63)))))))) := rfl
def p_X7_nimberOf (F : Nat) (p1 : Int32) (f_nimbers : Nat → Int32) (Post : Int32 → Prop) : Prop := (p_X7_nimberOf_5 F p1 f_nimbers Post F (1 : Int32) (0 : Int64))
set_option maxHeartbeats 4000000 in
set_option maxRecDepth 100000 in
theorem c_X7_nimberOf (l : Launch) (D : va_G) (cT : Nat → ClassId) (F : Nat) (h : Nat) (p1 : Int32) (w_text : Value) (w_told : Value) (w_now : Value) (w_before : Value) (w_trial : Value) (w_past : Value) (w_kept : Value) (w_feltNotes : Value) (w_heardNotes : Value) (w_draws : Value) (w_purrs : Value) (w_alone : Value) (q_nimbers : Nat) (w_ways : Value) (w_ruling : Value) (w_spare : Value) (f_nimbers : Nat → Int32) (Post : Int32 → Prop) (hg : p_X7_nimberOf F p1 f_nimbers Post) : MRi l D cT yX7_nimberOf cX7_nimberOf 5 (some .int) 0 0 [.ref h, .int p1] [(h, oX7 w_text w_told w_now w_before w_trial w_past w_kept w_feltNotes w_heardNotes w_draws w_purrs w_alone (.ref q_nimbers) w_ways w_ruling w_spare), (q_nimbers, aI cT 41 f_nimbers)] Post := by
  refine MRi.of (by decide) (Nat.le_of_ble_eq_true rfl) ?_
  intro p e s m below meth c hA C0 hr hP hD hS ls hl
  have hl : lv_has ls 5 [(0, .ref h), (1, .int p1)] := hl
  have hx := C0.x
  have hb := C0.b
  have hP : va_P D cls9 [(h, oX7 w_text w_told w_now w_before w_trial w_past w_kept w_feltNotes w_heardNotes w_draws w_purrs w_alone (.ref q_nimbers) w_ways w_ruling w_spare), (q_nimbers, aI cT 41 f_nimbers)] s.heap := hP
  have hD : va_D (fun q => cT 6 ≤ q) [(h, oX7 w_text w_told w_now w_before w_trial w_past w_kept w_feltNotes w_heardNotes w_draws w_purrs w_alone (.ref q_nimbers) w_ways w_ruling w_spare), (q_nimbers, aI cT 41 f_nimbers)] := hD
  have L44 : ∀ (y2_5 : Int64) (n44 : Nat) (y4_44 : Int32) (ls : Array Slot), p_X7_nimberOf_44 F y2_5 Post n44 y4_44 → lv_has ls 5 [(2, .long y2_5), (4, .int y4_44)] → W p l e (rmO 0 0 0 0) s m ([.ref h, .int p1] : List Value).toArray below meth c s.heap [] 0 0 (MQ below (vp_Si Post) ([.ref h, .int p1] : List Value).toArray s 0 0 (fun _ => False)) (F0 m 44 ls []) := by
    intro y2_5 n44
    induction n44 with
    | zero =>
      intro y4_44 ls hg hl
      exact False.elim hg
    | succ n44 ih44 =>
      intro y4_44 ls hg hl
      rw [p_X7_nimberOf_44_s] at hg
      refine lv_iload hx hb dX7_nimberOf_44 (lv_at hl 1 rfl) ?_
      refine lv_bipush (v := (40 : Int32)) hx hb dX7_nimberOf_46 (by decide) ?_
      refine lv_icmp_ge (tgt := 71) hx hb dX7_nimberOf_48 (by decide) (fun c_48 => ?_) (fun c_48 => ?_)
      · have hg := hg.1 c_48
        refine lv_bipush (v := (40 : Int32)) hx hb dX7_nimberOf_71 (by decide) ?_
        exact k_xiret C0 hr hg dX7_nimberOf_73
      have hg := hg.2 c_48
      refine lv_lload_n hx hb dX7_nimberOf_51 rfl (lv_at hl 0 rfl) ?_
      refine lv_iload hx hb dX7_nimberOf_52 (lv_at hl 1 rfl) ?_
      refine lv_lshr (v := (y2_5 >>> (y4_44.toInt64 &&& 63))) hx hb dX7_nimberOf_54 rfl ?_
      refine lv_lconst (v := (1 : Int64)) hx hb dX7_nimberOf_55 (by decide) ?_
      refine lv_land hx hb dX7_nimberOf_56 ?_
      refine lv_lconst (v := (0 : Int64)) hx hb dX7_nimberOf_57 (by decide) ?_
      refine W.lcmp hx hb dX7_nimberOf_58 ?_
      refine lv_if_ne (tgt := 65) hx hb dX7_nimberOf_59 (by decide) (fun c_59 => ?_) (fun c_59 => ?_)
      · have hg := hg.1 c_59
        refine lv_iinc (v := (y4_44 + (1 : Int32))) (lv' := [(4, .int (y4_44 + (1 : Int32))), (2, .long y2_5)]) hx hb dX7_nimberOf_65 hl (k := 1) rfl rfl (by decide) rfl (fun ls hl => ?_)
        refine lv_goto (tgt := 44) hx hb dX7_nimberOf_68 (by decide) ?_
        exact ih44 (y4_44 + (1 : Int32)) _ hg (lv_sub hl [1, 0] rfl)
      have hg := hg.2 c_59
      refine lv_iload hx hb dX7_nimberOf_62 (lv_at hl 1 rfl) ?_
      exact k_xiret C0 hr hg dX7_nimberOf_64
  have L5 : ∀ (n5 : Nat) (y4_5 : Int32) (y2_5 : Int64) (ls : Array Slot), p_X7_nimberOf_5 F p1 f_nimbers Post n5 y4_5 y2_5 → lv_has ls 5 [(0, .ref h), (1, .int p1), (2, .long y2_5), (4, .int y4_5)] → W p l e (rmO 0 0 0 0) s m ([.ref h, .int p1] : List Value).toArray below meth c s.heap [] 0 0 (MQ below (vp_Si Post) ([.ref h, .int p1] : List Value).toArray s 0 0 (fun _ => False)) (F0 m 5 ls []) := by
    intro n5
    induction n5 with
    | zero =>
      intro y4_5 y2_5 ls hg hl
      exact False.elim hg
    | succ n5 ih5 =>
      intro y4_5 y2_5 ls hg hl
      rw [p_X7_nimberOf_5_s] at hg
      refine lv_iconst (v := (2 : Int32)) hx hb dX7_nimberOf_5 (by decide) ?_
      refine lv_iload hx hb dX7_nimberOf_6 (lv_at hl 3 rfl) ?_
      refine lv_imul hx hb dX7_nimberOf_8 ?_
      refine lv_iload_n hx hb dX7_nimberOf_9 rfl (lv_at hl 1 rfl) ?_
      refine lv_icmp_ge (tgt := 41) hx hb dX7_nimberOf_10 (by decide) (fun c_10 => ?_) (fun c_10 => ?_)
      · have hg := hg.1 c_10
        refine lv_iconst (v := (0 : Int32)) hx hb dX7_nimberOf_41 (by decide) ?_
        refine lv_istore (lv' := [(4, .int (0 : Int32)), (0, .ref h), (1, .int p1), (2, .long y2_5)]) hx hb dX7_nimberOf_42 hl (by decide) rfl (fun ls hl => ?_)
        exact L44 y2_5 F (0 : Int32) _ hg (lv_sub hl [3, 0] rfl)
      have hg := hg.2 c_10
      refine lv_lload_n hx hb dX7_nimberOf_13 rfl (lv_at hl 2 rfl) ?_
      refine lv_lconst (v := (1 : Int64)) hx hb dX7_nimberOf_14 (by decide) ?_
      refine lv_aload_n hx hb dX7_nimberOf_15 rfl (lv_at hl 0 rfl) ?_
      refine gf_X7_73 C0 hP 0 rfl rfl dX7_nimberOf_16 ?_
      refine lv_iload hx hb dX7_nimberOf_19 (lv_at hl 3 rfl) ?_
      obtain ⟨g_21, hg⟩ := hg
      refine k_iald C0 hP 1 rfl g_21 dX7_nimberOf_21 ?_
      refine lv_aload_n hx hb dX7_nimberOf_22 rfl (lv_at hl 0 rfl) ?_
      refine gf_X7_73 C0 hP 0 rfl rfl dX7_nimberOf_23 ?_
      refine lv_iload_n hx hb dX7_nimberOf_26 rfl (lv_at hl 1 rfl) ?_
      refine lv_iload hx hb dX7_nimberOf_27 (lv_at hl 3 rfl) ?_
      refine lv_isub hx hb dX7_nimberOf_29 ?_
      obtain ⟨g_30, hg⟩ := hg
      refine k_iald C0 hP 1 rfl g_30 dX7_nimberOf_30 ?_
      refine lv_ixor hx hb dX7_nimberOf_31 ?_
      refine lv_lshl (v := ((1 : Int64) <<< (((f_nimbers y4_5.toNatClampNeg) ^^^ (f_nimbers (p1 - y4_5).toNatClampNeg)).toInt64 &&& 63))) hx hb dX7_nimberOf_32 rfl ?_
      refine lv_lor hx hb dX7_nimberOf_33 ?_
      refine lv_lstore_n (lv' := [(2, .long (y2_5 ||| ((1 : Int64) <<< (((f_nimbers y4_5.toNatClampNeg) ^^^ (f_nimbers (p1 - y4_5).toNatClampNeg)).toInt64 &&& 63)))), (0, .ref h), (1, .int p1), (4, .int y4_5)]) hx hb dX7_nimberOf_34 rfl hl (by decide) rfl (fun ls hl => ?_)
      refine lv_iinc (v := (y4_5 + (1 : Int32))) (lv' := [(4, .int (y4_5 + (1 : Int32))), (2, .long (y2_5 ||| ((1 : Int64) <<< (((f_nimbers y4_5.toNatClampNeg) ^^^ (f_nimbers (p1 - y4_5).toNatClampNeg)).toInt64 &&& 63)))), (0, .ref h), (1, .int p1)]) hx hb dX7_nimberOf_35 hl (k := 3) rfl rfl (by decide) rfl (fun ls hl => ?_)
      refine lv_goto (tgt := 5) hx hb dX7_nimberOf_38 (by decide) ?_
      exact ih5 (y4_5 + (1 : Int32)) (y2_5 ||| ((1 : Int64) <<< (((f_nimbers y4_5.toNatClampNeg) ^^^ (f_nimbers (p1 - y4_5).toNatClampNeg)).toInt64 &&& 63))) _ hg (lv_sub hl [2, 3, 1, 0] rfl)
  unfold p_X7_nimberOf at hg
  refine lv_lconst (v := (0 : Int64)) hx hb dX7_nimberOf_0 (by decide) ?_
  refine lv_lstore_n (lv' := [(2, .long (0 : Int64)), (0, .ref h), (1, .int p1)]) hx hb dX7_nimberOf_1 rfl hl (by decide) rfl (fun ls hl => ?_)
  refine lv_iconst (v := (1 : Int32)) hx hb dX7_nimberOf_2 (by decide) ?_
  refine lv_istore (lv' := [(4, .int (1 : Int32)), (2, .long (0 : Int64)), (0, .ref h), (1, .int p1)]) hx hb dX7_nimberOf_3 hl (by decide) rfl (fun ls hl => ?_)
  exact L5 F (1 : Int32) (0 : Int64) _ hg (lv_sub hl [2, 3, 1, 0] rfl)
theorem dX7_litters_0 : decode cX7_litters 0 = .ok (.iload_n 1, 1) := by decide +kernel
theorem dX7_litters_1 : decode cX7_litters 1 = .ok (.ifCond .lt 9, 3) := by decide +kernel
theorem dX7_litters_4 : decode cX7_litters 4 = .ok (.iload_n 1, 1) := by decide +kernel
theorem dX7_litters_5 : decode cX7_litters 5 = .ok (.bipush 40, 2) := by decide +kernel
theorem dX7_litters_7 : decode cX7_litters 7 = .ok (.if_icmp .le 5, 3) := by decide +kernel
theorem dX7_litters_10 : decode cX7_litters 10 = .ok (.iconst (-1), 1) := by decide +kernel
theorem dX7_litters_11 : decode cX7_litters 11 = .ok (.ireturn, 1) := by decide +kernel
theorem dX7_litters_12 : decode cX7_litters 12 = .ok (.iconst 0, 1) := by decide +kernel
theorem dX7_litters_13 : decode cX7_litters 13 = .ok (.istore_n 2, 1) := by decide +kernel
theorem dX7_litters_14 : decode cX7_litters 14 = .ok (.iload_n 2, 1) := by decide +kernel
theorem dX7_litters_15 : decode cX7_litters 15 = .ok (.iload_n 1, 1) := by decide +kernel
theorem dX7_litters_16 : decode cX7_litters 16 = .ok (.if_icmp .gt 20, 3) := by decide +kernel
theorem dX7_litters_19 : decode cX7_litters 19 = .ok (.aload_n 0, 1) := by decide +kernel
theorem dX7_litters_20 : decode cX7_litters 20 = .ok (.getfield 73, 3) := by decide +kernel
theorem dX7_litters_23 : decode cX7_litters 23 = .ok (.iload_n 2, 1) := by decide +kernel
theorem dX7_litters_24 : decode cX7_litters 24 = .ok (.aload_n 0, 1) := by decide +kernel
theorem dX7_litters_25 : decode cX7_litters 25 = .ok (.iload_n 2, 1) := by decide +kernel
theorem dX7_litters_26 : decode cX7_litters 26 = .ok (.invokevirtual 369, 3) := by decide +kernel
theorem dX7_litters_29 : decode cX7_litters 29 = .ok (.iastore, 1) := by decide +kernel
theorem dX7_litters_30 : decode cX7_litters 30 = .ok (.iinc 2 1, 3) := by decide +kernel
theorem dX7_litters_33 : decode cX7_litters 33 = .ok (.goto (-19), 3) := by decide +kernel
theorem dX7_litters_36 : decode cX7_litters 36 = .ok (.aload_n 0, 1) := by decide +kernel
theorem dX7_litters_37 : decode cX7_litters 37 = .ok (.getfield 19, 3) := by decide +kernel
theorem dX7_litters_40 : decode cX7_litters 40 = .ok (.invokevirtual 201, 3) := by decide +kernel
theorem dX7_litters_43 : decode cX7_litters 43 = .ok (.pop, 1) := by decide +kernel
theorem dX7_litters_44 : decode cX7_litters 44 = .ok (.iconst 1, 1) := by decide +kernel
theorem dX7_litters_45 : decode cX7_litters 45 = .ok (.istore_n 2, 1) := by decide +kernel
theorem dX7_litters_46 : decode cX7_litters 46 = .ok (.iconst 2, 1) := by decide +kernel
theorem dX7_litters_47 : decode cX7_litters 47 = .ok (.iload_n 2, 1) := by decide +kernel
theorem dX7_litters_48 : decode cX7_litters 48 = .ok (.imul, 1) := by decide +kernel
theorem dX7_litters_49 : decode cX7_litters 49 = .ok (.iload_n 1, 1) := by decide +kernel
theorem dX7_litters_50 : decode cX7_litters 50 = .ok (.if_icmp .ge 38, 3) := by decide +kernel
theorem dX7_litters_53 : decode cX7_litters 53 = .ok (.aload_n 0, 1) := by decide +kernel
theorem dX7_litters_54 : decode cX7_litters 54 = .ok (.getfield 73, 3) := by decide +kernel
theorem dX7_litters_57 : decode cX7_litters 57 = .ok (.iload_n 2, 1) := by decide +kernel
theorem dX7_litters_58 : decode cX7_litters 58 = .ok (.iaload, 1) := by decide +kernel
theorem dX7_litters_59 : decode cX7_litters 59 = .ok (.aload_n 0, 1) := by decide +kernel
theorem dX7_litters_60 : decode cX7_litters 60 = .ok (.getfield 73, 3) := by decide +kernel
theorem dX7_litters_63 : decode cX7_litters 63 = .ok (.iload_n 1, 1) := by decide +kernel
theorem dX7_litters_64 : decode cX7_litters 64 = .ok (.iload_n 2, 1) := by decide +kernel
theorem dX7_litters_65 : decode cX7_litters 65 = .ok (.isub, 1) := by decide +kernel
theorem dX7_litters_66 : decode cX7_litters 66 = .ok (.iaload, 1) := by decide +kernel
theorem dX7_litters_67 : decode cX7_litters 67 = .ok (.if_icmp .ne 15, 3) := by decide +kernel
theorem dX7_litters_70 : decode cX7_litters 70 = .ok (.aload_n 0, 1) := by decide +kernel
theorem dX7_litters_71 : decode cX7_litters 71 = .ok (.getfield 19, 3) := by decide +kernel
theorem dX7_litters_74 : decode cX7_litters 74 = .ok (.iload_n 2, 1) := by decide +kernel
theorem dX7_litters_75 : decode cX7_litters 75 = .ok (.i2l, 1) := by decide +kernel
theorem dX7_litters_76 : decode cX7_litters 76 = .ok (.invokevirtual 205, 3) := by decide +kernel
theorem dX7_litters_79 : decode cX7_litters 79 = .ok (.pop, 1) := by decide +kernel
theorem dX7_litters_80 : decode cX7_litters 80 = .ok (.iconst 1, 1) := by decide +kernel
theorem dX7_litters_81 : decode cX7_litters 81 = .ok (.ireturn, 1) := by decide +kernel
theorem dX7_litters_82 : decode cX7_litters 82 = .ok (.iinc 2 1, 3) := by decide +kernel
theorem dX7_litters_85 : decode cX7_litters 85 = .ok (.goto (-39), 3) := by decide +kernel
theorem dX7_litters_88 : decode cX7_litters 88 = .ok (.iconst 0, 1) := by decide +kernel
theorem dX7_litters_89 : decode cX7_litters 89 = .ok (.ireturn, 1) := by decide +kernel
noncomputable def p_X7_litters_46 (F : Nat) (p1 : Int32) (f_told_numbers : Nat → Int64) (u_40 : Int32) (f_nimbers_14 : Nat → Int32) (Post : Int32 → ((Nat → Int32) × Int32 × (Nat → Int64)) → Prop) (n : Nat) : Int32 → Prop := Nat.rec (motive := fun _ => Int32 → Prop) (fun _ => False) (fun _ k46 => fun (y2_46 : Int32) => ((p1 ≤ ((2 : Int32) * y2_46) → (Post (0 : Int32) (f_nimbers_14, u_40, f_told_numbers))) ∧ (¬ p1 ≤ ((2 : Int32) * y2_46) → (vp_in y2_46 41 ∧ (vp_in (p1 - y2_46) 41 ∧ ((¬ (f_nimbers_14 y2_46.toNatClampNeg) = (f_nimbers_14 (p1 - y2_46).toNatClampNeg) → (k46 (y2_46 + (1 : Int32)))) ∧ ((f_nimbers_14 y2_46.toNatClampNeg) = (f_nimbers_14 (p1 - y2_46).toNatClampNeg) → (p_X3_add F (y2_46.toInt64) u_40 f_told_numbers (fun (u_76 : (Int32 × (Nat → Int64))) => (Post (1 : Int32) (f_nimbers_14, u_76.1, u_76.2))))))))))) n
theorem p_X7_litters_46_s (F : Nat) (p1 : Int32) (f_told_numbers : Nat → Int64) (u_40 : Int32) (f_nimbers_14 : Nat → Int32) (Post : Int32 → ((Nat → Int32) × Int32 × (Nat → Int64)) → Prop) (n : Nat) (y2_46 : Int32) : p_X7_litters_46 F p1 f_told_numbers u_40 f_nimbers_14 Post (n + 1) y2_46 = ((p1 ≤ ((2 : Int32) * y2_46) → (Post (0 : Int32) (f_nimbers_14, u_40, f_told_numbers))) ∧ (¬ p1 ≤ ((2 : Int32) * y2_46) → (vp_in y2_46 41 ∧ (vp_in (p1 - y2_46) 41 ∧ ((¬ (f_nimbers_14 y2_46.toNatClampNeg) = (f_nimbers_14 (p1 - y2_46).toNatClampNeg) → ((p_X7_litters_46 F p1 f_told_numbers u_40 f_nimbers_14 Post n) (y2_46 + (1 : Int32)))) ∧ ((f_nimbers_14 y2_46.toNatClampNeg) = (f_nimbers_14 (p1 - y2_46).toNatClampNeg) → (p_X3_add F (y2_46.toInt64) u_40 f_told_numbers (fun (u_76 : (Int32 × (Nat → Int64))) => (Post (1 : Int32) (f_nimbers_14, u_76.1, u_76.2)))))))))) := rfl
noncomputable def p_X7_litters_14 (F : Nat) (p1 : Int32) (f_told_numbers : Nat → Int64) (Post : Int32 → ((Nat → Int32) × Int32 × (Nat → Int64)) → Prop) (n : Nat) : Int32 → (Nat → Int32) → Prop := Nat.rec (motive := fun _ => Int32 → (Nat → Int32) → Prop) (fun _ _ => False) (fun _ k14 => fun (y2_14 : Int32) (f_nimbers_14 : Nat → Int32) => ((p1 < y2_14 → (p_X3_anew F (fun (u_40 : Int32) => (p_X7_litters_46 F p1 f_told_numbers u_40 f_nimbers_14 Post F (1 : Int32))))) ∧ (¬ p1 < y2_14 → (p_X7_nimberOf F y2_14 f_nimbers_14 (fun (r_26 : Int32) => (vp_in y2_14 41 ∧ (k14 (y2_14 + (1 : Int32)) (upd f_nimbers_14 y2_14.toNatClampNeg r_26)))))))) n
theorem p_X7_litters_14_s (F : Nat) (p1 : Int32) (f_told_numbers : Nat → Int64) (Post : Int32 → ((Nat → Int32) × Int32 × (Nat → Int64)) → Prop) (n : Nat) (y2_14 : Int32) (f_nimbers_14 : Nat → Int32) : p_X7_litters_14 F p1 f_told_numbers Post (n + 1) y2_14 f_nimbers_14 = ((p1 < y2_14 → (p_X3_anew F (fun (u_40 : Int32) => (p_X7_litters_46 F p1 f_told_numbers u_40 f_nimbers_14 Post F (1 : Int32))))) ∧ (¬ p1 < y2_14 → (p_X7_nimberOf F y2_14 f_nimbers_14 (fun (r_26 : Int32) => (vp_in y2_14 41 ∧ ((p_X7_litters_14 F p1 f_told_numbers Post n) (y2_14 + (1 : Int32)) (upd f_nimbers_14 y2_14.toNatClampNeg r_26))))))) := rfl
def p_X7_litters (F : Nat) (p1 : Int32) (f_nimbers : Nat → Int32) (x_told_size : Int32) (f_told_numbers : Nat → Int64) (Post : Int32 → ((Nat → Int32) × Int32 × (Nat → Int64)) → Prop) : Prop := ((p1 < 0 → (Post (-1 : Int32) (f_nimbers, x_told_size, f_told_numbers))) ∧ (¬ p1 < 0 → ((p1 ≤ (40 : Int32) → (p_X7_litters_14 F p1 f_told_numbers Post F (0 : Int32) f_nimbers)) ∧ (¬ p1 ≤ (40 : Int32) → (Post (-1 : Int32) (f_nimbers, x_told_size, f_told_numbers))))))
set_option maxHeartbeats 4000000 in
set_option maxRecDepth 100000 in
theorem c_X7_litters (l : Launch) (D : va_G) (cT : Nat → ClassId) (F : Nat) (h : Nat) (p1 : Int32) (w_text : Value) (q_told : Nat) (w_now : Value) (w_before : Value) (w_trial : Value) (w_past : Value) (w_kept : Value) (w_feltNotes : Value) (w_heardNotes : Value) (w_draws : Value) (w_purrs : Value) (w_alone : Value) (q_nimbers : Nat) (w_ways : Value) (w_ruling : Value) (w_spare : Value) (f_nimbers : Nat → Int32) (q_told_numbers : Nat) (x_told_size : Int32) (f_told_numbers : Nat → Int64) (Post : Int32 → ((Nat → Int32) × Int32 × (Nat → Int64)) → Prop) (hg : p_X7_litters F p1 f_nimbers x_told_size f_told_numbers Post) : MWi l D cT yX7_litters cX7_litters 3 (some .int) 1 24 0 0 [.ref h, .int p1] [(h, oX7 w_text (.ref q_told) w_now w_before w_trial w_past w_kept w_feltNotes w_heardNotes w_draws w_purrs w_alone (.ref q_nimbers) w_ways w_ruling w_spare), (q_nimbers, aI cT 41 f_nimbers), (q_told, oX3 (.ref q_told_numbers) (.int x_told_size)), (q_told_numbers, aJ cT 8 f_told_numbers)] Post (fun (u : ((Nat → Int32) × Int32 × (Nat → Int64))) => [(h, oX7 w_text (.ref q_told) w_now w_before w_trial w_past w_kept w_feltNotes w_heardNotes w_draws w_purrs w_alone (.ref q_nimbers) w_ways w_ruling w_spare), (q_nimbers, aI cT 41 u.1), (q_told, oX3 (.ref q_told_numbers) (.int u.2.1)), (q_told_numbers, aJ cT 8 u.2.2)]) := by
  refine MWi.of (by decide) (Nat.le_of_ble_eq_true rfl) ?_
  intro p e s m below meth c A hA C0 hnm hr hP hD ls hl
  have hl : lv_has ls 3 [(0, .ref h), (1, .int p1)] := hl
  have hx := C0.x
  have hb := C0.b
  have hS : va_S A s.heap s.heap [] := va_S.rf
  have hP : va_P D cls9 [(h, oX7 w_text (.ref q_told) w_now w_before w_trial w_past w_kept w_feltNotes w_heardNotes w_draws w_purrs w_alone (.ref q_nimbers) w_ways w_ruling w_spare), (q_nimbers, aI cT 41 f_nimbers), (q_told, oX3 (.ref q_told_numbers) (.int x_told_size)), (q_told_numbers, aJ cT 8 f_told_numbers)] s.heap := hP
  have hD : va_D A [(h, oX7 w_text (.ref q_told) w_now w_before w_trial w_past w_kept w_feltNotes w_heardNotes w_draws w_purrs w_alone (.ref q_nimbers) w_ways w_ruling w_spare), (q_nimbers, aI cT 41 f_nimbers), (q_told, oX3 (.ref q_told_numbers) (.int x_told_size)), (q_told_numbers, aJ cT 8 f_told_numbers)] := hD
  have L46 : ∀ (u_40 : Int32) (f_nimbers_14 : Nat → Int32) (n46 : Nat) (y2_46 : Int32) (H : Heap) (locs : List Loc) (ls : Array Slot), p_X7_litters_46 F p1 f_told_numbers u_40 f_nimbers_14 Post n46 y2_46 → va_P D cls9 [(h, oX7 w_text (.ref q_told) w_now w_before w_trial w_past w_kept w_feltNotes w_heardNotes w_draws w_purrs w_alone (.ref q_nimbers) w_ways w_ruling w_spare), (q_nimbers, aI cT 41 f_nimbers_14), (q_told, oX3 (.ref q_told_numbers) (.int u_40)), (q_told_numbers, aJ cT 8 f_told_numbers)] H → va_D A [(h, oX7 w_text (.ref q_told) w_now w_before w_trial w_past w_kept w_feltNotes w_heardNotes w_draws w_purrs w_alone (.ref q_nimbers) w_ways w_ruling w_spare), (q_nimbers, aI cT 41 f_nimbers_14), (q_told, oX3 (.ref q_told_numbers) (.int u_40)), (q_told_numbers, aJ cT 8 f_told_numbers)] → va_S A s.heap H locs → lv_has ls 3 [(0, .ref h), (1, .int p1), (2, .int y2_46)] → W p l e (rmO 1 24 0 0) s m ([.ref h, .int p1] : List Value).toArray below meth c H locs 0 0 (MQ below (va_Qi Post (cB D A (fun (u : ((Nat → Int32) × Int32 × (Nat → Int64))) => [(h, oX7 w_text (.ref q_told) w_now w_before w_trial w_past w_kept w_feltNotes w_heardNotes w_draws w_purrs w_alone (.ref q_nimbers) w_ways w_ruling w_spare), (q_nimbers, aI cT 41 u.1), (q_told, oX3 (.ref q_told_numbers) (.int u.2.1)), (q_told_numbers, aJ cT 8 u.2.2)])) A) ([.ref h, .int p1] : List Value).toArray s 0 0 A) (F0 m 46 ls []) := by
    intro u_40 f_nimbers_14 n46
    induction n46 with
    | zero =>
      intro y2_46 H locs ls hg hP hD hS hl
      exact False.elim hg
    | succ n46 ih46 =>
      intro y2_46 H locs ls hg hP hD hS hl
      rw [p_X7_litters_46_s] at hg
      refine lv_iconst (v := (2 : Int32)) hx hb dX7_litters_46 (by decide) ?_
      refine lv_iload_n hx hb dX7_litters_47 rfl (lv_at hl 2 rfl) ?_
      refine lv_imul hx hb dX7_litters_48 ?_
      refine lv_iload_n hx hb dX7_litters_49 rfl (lv_at hl 1 rfl) ?_
      refine lv_icmp_ge (tgt := 88) hx hb dX7_litters_50 (by decide) (fun c_50 => ?_) (fun c_50 => ?_)
      · have hg := hg.1 c_50
        refine lv_iconst (v := (0 : Int32)) hx hb dX7_litters_88 (by decide) ?_
        exact k_iret C0 hr (f_nimbers_14, u_40, f_told_numbers) hg hP hD hS dX7_litters_89
      have hg := hg.2 c_50
      refine lv_aload_n hx hb dX7_litters_53 rfl (lv_at hl 0 rfl) ?_
      refine gf_X7_73 C0 hP 0 rfl rfl dX7_litters_54 ?_
      refine lv_iload_n hx hb dX7_litters_57 rfl (lv_at hl 2 rfl) ?_
      obtain ⟨g_58, hg⟩ := hg
      refine k_iald C0 hP 1 rfl g_58 dX7_litters_58 ?_
      refine lv_aload_n hx hb dX7_litters_59 rfl (lv_at hl 0 rfl) ?_
      refine gf_X7_73 C0 hP 0 rfl rfl dX7_litters_60 ?_
      refine lv_iload_n hx hb dX7_litters_63 rfl (lv_at hl 1 rfl) ?_
      refine lv_iload_n hx hb dX7_litters_64 rfl (lv_at hl 2 rfl) ?_
      refine lv_isub hx hb dX7_litters_65 ?_
      obtain ⟨g_66, hg⟩ := hg
      refine k_iald C0 hP 1 rfl g_66 dX7_litters_66 ?_
      refine lv_icmp_ne (tgt := 82) hx hb dX7_litters_67 (by decide) (fun c_67 => ?_) (fun c_67 => ?_)
      · have hg := hg.1 c_67
        refine lv_iinc (v := (y2_46 + (1 : Int32))) (lv' := [(2, .int (y2_46 + (1 : Int32))), (0, .ref h), (1, .int p1)]) hx hb dX7_litters_82 hl (k := 2) rfl rfl (by decide) rfl (fun ls hl => ?_)
        refine lv_goto (tgt := 46) hx hb dX7_litters_85 (by decide) ?_
        exact ih46 (y2_46 + (1 : Int32)) _ _ _ hg hP hD hS (lv_sub hl [1, 2, 0] rfl)
      have hg := hg.2 c_67
      refine lv_aload_n hx hb dX7_litters_70 rfl (lv_at hl 0 rfl) ?_
      refine gf_X7_19 C0 hP 0 rfl rfl dX7_litters_71 ?_
      refine lv_iload_n hx hb dX7_litters_74 rfl (lv_at hl 2 rfl) ?_
      refine lv_i2l (v := (y2_46.toInt64)) hx hb dX7_litters_75 rfl ?_
      refine k_Vr (rest := []) (wr := [(h, oX7 w_text (.ref q_told) w_now w_before w_trial w_past w_kept w_feltNotes w_heardNotes w_draws w_purrs w_alone (.ref q_nimbers) w_ways w_ruling w_spare), (q_nimbers, aI cT 41 f_nimbers_14)]) (w2 := fun u_76 => [(h, oX7 w_text (.ref q_told) w_now w_before w_trial w_past w_kept w_feltNotes w_heardNotes w_draws w_purrs w_alone (.ref q_nimbers) w_ways w_ruling w_spare), (q_nimbers, aI cT 41 f_nimbers_14), (q_told, oX3 (.ref q_told_numbers) (.int u_76.1)), (q_told_numbers, aJ cT 8 u_76.2)]) C0 lk_X7_205 (c_X3_add l D cT F q_told (y2_46.toInt64) q_told_numbers u_40 f_told_numbers _ hg) hP hD hS hA [2, 3] [0, 1] (by decide +kernel) rfl rfl (fun _ => rfl) rfl rfl ⟨Nat.le_of_ble_eq_true rfl, Nat.le_of_ble_eq_true rfl⟩ rfl hl.1 rfl (Nat.le_of_ble_eq_true rfl) dX7_litters_76 ⟨Nat.le_of_ble_eq_true rfl, Nat.le_of_ble_eq_true rfl⟩ ?_
      intro u_76 H locs hg hP hD hS
      refine lv_pop hx hb dX7_litters_79 rfl ?_
      refine lv_iconst (v := (1 : Int32)) hx hb dX7_litters_80 (by decide) ?_
      exact k_iret C0 hr (f_nimbers_14, u_76.1, u_76.2) hg hP hD hS dX7_litters_81
  have L14 : ∀ (n14 : Nat) (y2_14 : Int32) (f_nimbers_14 : Nat → Int32) (H : Heap) (locs : List Loc) (ls : Array Slot), p_X7_litters_14 F p1 f_told_numbers Post n14 y2_14 f_nimbers_14 → va_P D cls9 [(h, oX7 w_text (.ref q_told) w_now w_before w_trial w_past w_kept w_feltNotes w_heardNotes w_draws w_purrs w_alone (.ref q_nimbers) w_ways w_ruling w_spare), (q_nimbers, aI cT 41 f_nimbers_14), (q_told, oX3 (.ref q_told_numbers) (.int x_told_size)), (q_told_numbers, aJ cT 8 f_told_numbers)] H → va_D A [(h, oX7 w_text (.ref q_told) w_now w_before w_trial w_past w_kept w_feltNotes w_heardNotes w_draws w_purrs w_alone (.ref q_nimbers) w_ways w_ruling w_spare), (q_nimbers, aI cT 41 f_nimbers_14), (q_told, oX3 (.ref q_told_numbers) (.int x_told_size)), (q_told_numbers, aJ cT 8 f_told_numbers)] → va_S A s.heap H locs → lv_has ls 3 [(0, .ref h), (1, .int p1), (2, .int y2_14)] → W p l e (rmO 1 24 0 0) s m ([.ref h, .int p1] : List Value).toArray below meth c H locs 0 0 (MQ below (va_Qi Post (cB D A (fun (u : ((Nat → Int32) × Int32 × (Nat → Int64))) => [(h, oX7 w_text (.ref q_told) w_now w_before w_trial w_past w_kept w_feltNotes w_heardNotes w_draws w_purrs w_alone (.ref q_nimbers) w_ways w_ruling w_spare), (q_nimbers, aI cT 41 u.1), (q_told, oX3 (.ref q_told_numbers) (.int u.2.1)), (q_told_numbers, aJ cT 8 u.2.2)])) A) ([.ref h, .int p1] : List Value).toArray s 0 0 A) (F0 m 14 ls []) := by
    intro n14
    induction n14 with
    | zero =>
      intro y2_14 f_nimbers_14 H locs ls hg hP hD hS hl
      exact False.elim hg
    | succ n14 ih14 =>
      intro y2_14 f_nimbers_14 H locs ls hg hP hD hS hl
      rw [p_X7_litters_14_s] at hg
      refine lv_iload_n hx hb dX7_litters_14 rfl (lv_at hl 2 rfl) ?_
      refine lv_iload_n hx hb dX7_litters_15 rfl (lv_at hl 1 rfl) ?_
      refine lv_icmp_gt (tgt := 36) hx hb dX7_litters_16 (by decide) (fun c_16 => ?_) (fun c_16 => ?_)
      · have hg := hg.1 c_16
        refine lv_aload_n hx hb dX7_litters_36 rfl (lv_at hl 0 rfl) ?_
        refine gf_X7_19 C0 hP 0 rfl rfl dX7_litters_37 ?_
        refine k_Vr (rest := []) (wr := [(h, oX7 w_text (.ref q_told) w_now w_before w_trial w_past w_kept w_feltNotes w_heardNotes w_draws w_purrs w_alone (.ref q_nimbers) w_ways w_ruling w_spare), (q_nimbers, aI cT 41 f_nimbers_14), (q_told_numbers, aJ cT 8 f_told_numbers)]) (w2 := fun u_40 => [(h, oX7 w_text (.ref q_told) w_now w_before w_trial w_past w_kept w_feltNotes w_heardNotes w_draws w_purrs w_alone (.ref q_nimbers) w_ways w_ruling w_spare), (q_nimbers, aI cT 41 f_nimbers_14), (q_told_numbers, aJ cT 8 f_told_numbers), (q_told, oX3 (.ref q_told_numbers) (.int u_40))]) C0 lk_X7_201 (c_X3_anew l D cT F q_told (.ref q_told_numbers) x_told_size _ hg) hP hD hS hA [2] [0, 1, 3] (by decide +kernel) rfl rfl (fun _ => rfl) rfl rfl ⟨Nat.le_of_ble_eq_true rfl, Nat.le_of_ble_eq_true rfl⟩ rfl hl.1 rfl (Nat.le_of_ble_eq_true rfl) dX7_litters_40 ⟨Nat.le_of_ble_eq_true rfl, Nat.le_of_ble_eq_true rfl⟩ ?_
        intro u_40 H locs hg hP hD hS
        refine lv_pop hx hb dX7_litters_43 rfl ?_
        refine lv_iconst (v := (1 : Int32)) hx hb dX7_litters_44 (by decide) ?_
        refine lv_istore_n (lv' := [(2, .int (1 : Int32)), (0, .ref h), (1, .int p1)]) hx hb dX7_litters_45 rfl hl (by decide) rfl (fun ls hl => ?_)
        exact L46 u_40 f_nimbers_14 F (1 : Int32) _ _ _ hg (subP hP [0, 1, 3, 2] rfl) (hD.sub [0, 1, 3, 2] (nd2_ok _ (by decide +kernel)) rfl) hS (lv_sub hl [1, 2, 0] rfl)
      have hg := hg.2 c_16
      refine lv_aload_n hx hb dX7_litters_19 rfl (lv_at hl 0 rfl) ?_
      refine gf_X7_73 C0 hP 0 rfl rfl dX7_litters_20 ?_
      refine lv_iload_n hx hb dX7_litters_23 rfl (lv_at hl 2 rfl) ?_
      refine lv_aload_n hx hb dX7_litters_24 rfl (lv_at hl 0 rfl) ?_
      refine lv_iload_n hx hb dX7_litters_25 rfl (lv_at hl 2 rfl) ?_
      refine k_Vxi (rest := [.int y2_14, .ref q_nimbers]) C0 lk_X7_369 (c_X7_nimberOf l D cT F h y2_14 w_text (.ref q_told) w_now w_before w_trial w_past w_kept w_feltNotes w_heardNotes w_draws w_purrs w_alone q_nimbers w_ways w_ruling w_spare f_nimbers_14 _ hg) hP hD hS hA [0, 1] (by decide +kernel) rfl rfl rfl ⟨Nat.le_of_ble_eq_true rfl, Nat.le_of_ble_eq_true rfl⟩ rfl hl.1 rfl (Nat.le_of_ble_eq_true rfl) dX7_litters_26 ⟨Nat.le_of_ble_eq_true rfl, Nat.le_of_ble_eq_true rfl⟩ (fun r_26 hg => ?_)
      obtain ⟨g_29, hg⟩ := hg
      refine k_iast C0 hP hD hS 1 rfl g_29 (ws' := [(h, oX7 w_text (.ref q_told) w_now w_before w_trial w_past w_kept w_feltNotes w_heardNotes w_draws w_purrs w_alone (.ref q_nimbers) w_ways w_ruling w_spare), (q_nimbers, aI cT 41 (upd f_nimbers_14 y2_14.toNatClampNeg r_26)), (q_told, oX3 (.ref q_told_numbers) (.int x_told_size)), (q_told_numbers, aJ cT 8 f_told_numbers)]) rfl dX7_litters_29 (fun H locs hP hD hS => ?_)
      refine lv_iinc (v := (y2_14 + (1 : Int32))) (lv' := [(2, .int (y2_14 + (1 : Int32))), (0, .ref h), (1, .int p1)]) hx hb dX7_litters_30 hl (k := 2) rfl rfl (by decide) rfl (fun ls hl => ?_)
      refine lv_goto (tgt := 14) hx hb dX7_litters_33 (by decide) ?_
      exact ih14 (y2_14 + (1 : Int32)) (upd f_nimbers_14 y2_14.toNatClampNeg r_26) _ _ _ hg hP hD hS (lv_sub hl [1, 2, 0] rfl)
  unfold p_X7_litters at hg
  refine lv_iload_n hx hb dX7_litters_0 rfl (lv_at hl 1 rfl) ?_
  refine lv_if_lt (tgt := 10) hx hb dX7_litters_1 (by decide) (fun c_1 => ?_) (fun c_1 => ?_)
  · have hg := hg.1 c_1
    refine lv_iconst (v := (-1 : Int32)) hx hb dX7_litters_10 (by decide) ?_
    exact k_iret C0 hr (f_nimbers, x_told_size, f_told_numbers) hg hP hD hS dX7_litters_11
  have hg := hg.2 c_1
  refine lv_iload_n hx hb dX7_litters_4 rfl (lv_at hl 1 rfl) ?_
  refine lv_bipush (v := (40 : Int32)) hx hb dX7_litters_5 (by decide) ?_
  refine lv_icmp_le (tgt := 12) hx hb dX7_litters_7 (by decide) (fun c_7 => ?_) (fun c_7 => ?_)
  · have hg := hg.1 c_7
    refine lv_iconst (v := (0 : Int32)) hx hb dX7_litters_12 (by decide) ?_
    refine lv_istore_n (lv' := [(2, .int (0 : Int32)), (0, .ref h), (1, .int p1)]) hx hb dX7_litters_13 rfl hl (by decide) rfl (fun ls hl => ?_)
    exact L14 F (0 : Int32) f_nimbers _ _ _ hg hP hD hS (lv_sub hl [1, 2, 0] rfl)
  have hg := hg.2 c_7
  refine lv_iconst (v := (-1 : Int32)) hx hb dX7_litters_10 (by decide) ?_
  exact k_iret C0 hr (f_nimbers, x_told_size, f_told_numbers) hg hP hD hS dX7_litters_11
theorem dX7_worthOf_0 : decode cX7_worthOf 0 = .ok (.iconst 3, 1) := by decide +kernel
theorem dX7_worthOf_1 : decode cX7_worthOf 1 = .ok (.iload_n 0, 1) := by decide +kernel
theorem dX7_worthOf_2 : decode cX7_worthOf 2 = .ok (.imul, 1) := by decide +kernel
theorem dX7_worthOf_3 : decode cX7_worthOf 3 = .ok (.iload_n 0, 1) := by decide +kernel
theorem dX7_worthOf_4 : decode cX7_worthOf 4 = .ok (.iload_n 1, 1) := by decide +kernel
theorem dX7_worthOf_5 : decode cX7_worthOf 5 = .ok (.iadd, 1) := by decide +kernel
theorem dX7_worthOf_6 : decode cX7_worthOf 6 = .ok (.iload_n 2, 1) := by decide +kernel
theorem dX7_worthOf_7 : decode cX7_worthOf 7 = .ok (.if_icmp .gt 8, 3) := by decide +kernel
theorem dX7_worthOf_10 : decode cX7_worthOf 10 = .ok (.bipush 20, 2) := by decide +kernel
theorem dX7_worthOf_12 : decode cX7_worthOf 12 = .ok (.goto 4, 3) := by decide +kernel
theorem dX7_worthOf_15 : decode cX7_worthOf 15 = .ok (.iconst 0, 1) := by decide +kernel
theorem dX7_worthOf_16 : decode cX7_worthOf 16 = .ok (.iadd, 1) := by decide +kernel
theorem dX7_worthOf_17 : decode cX7_worthOf 17 = .ok (.iload_n 0, 1) := by decide +kernel
theorem dX7_worthOf_18 : decode cX7_worthOf 18 = .ok (.iload_n 1, 1) := by decide +kernel
theorem dX7_worthOf_19 : decode cX7_worthOf 19 = .ok (.if_icmp .le 7, 3) := by decide +kernel
theorem dX7_worthOf_22 : decode cX7_worthOf 22 = .ok (.iconst 4, 1) := by decide +kernel
theorem dX7_worthOf_23 : decode cX7_worthOf 23 = .ok (.goto 4, 3) := by decide +kernel
theorem dX7_worthOf_26 : decode cX7_worthOf 26 = .ok (.iconst 0, 1) := by decide +kernel
theorem dX7_worthOf_27 : decode cX7_worthOf 27 = .ok (.isub, 1) := by decide +kernel
theorem dX7_worthOf_28 : decode cX7_worthOf 28 = .ok (.ireturn, 1) := by decide +kernel
def p_X7_worthOf_16 (F : Nat) (p0 : Int32) (p1 : Int32) (Post : Int32 → Prop) (s1_16 : Int32) : Prop := ((p0 ≤ p1 → (Post ((((3 : Int32) * p0) + s1_16) - (0 : Int32)))) ∧ (¬ p0 ≤ p1 → (Post ((((3 : Int32) * p0) + s1_16) - (4 : Int32)))))
def p_X7_worthOf (F : Nat) (p0 : Int32) (p1 : Int32) (p2 : Int32) (Post : Int32 → Prop) : Prop := ((p2 < (p0 + p1) → (p_X7_worthOf_16 F p0 p1 Post (0 : Int32))) ∧ (¬ p2 < (p0 + p1) → (p_X7_worthOf_16 F p0 p1 Post (20 : Int32))))
set_option maxHeartbeats 4000000 in
set_option maxRecDepth 100000 in
theorem c_X7_worthOf (l : Launch) (D : va_G) (cT : Nat → ClassId) (F : Nat) (p0 : Int32) (p1 : Int32) (p2 : Int32) (Post : Int32 → Prop) (hg : p_X7_worthOf F p0 p1 p2 Post) : MRi l D cT yX7_worthOf cX7_worthOf 3 (some .int) 0 0 [.int p0, .int p1, .int p2] [] Post := by
  refine MRi.of (by decide) (Nat.le_of_ble_eq_true rfl) ?_
  intro p e s m below meth c hA C0 hr hP hD hS ls hl
  have hl : lv_has ls 3 [(0, .int p0), (1, .int p1), (2, .int p2)] := hl
  have hx := C0.x
  have hb := C0.b
  have hP : va_P D cls9 [] s.heap := hP
  have hD : va_D (fun q => cT 6 ≤ q) [] := hD
  have L16 : ∀ (s1_16 : Int32) (ls : Array Slot), p_X7_worthOf_16 F p0 p1 Post s1_16 → lv_has ls 3 [(0, .int p0), (1, .int p1)] → W p l e (rmO 0 0 0 0) s m ([.int p0, .int p1, .int p2] : List Value).toArray below meth c s.heap [] 0 0 (MQ below (vp_Si Post) ([.int p0, .int p1, .int p2] : List Value).toArray s 0 0 (fun _ => False)) (F0 m 16 ls [.int s1_16, .int ((3 : Int32) * p0)]) := by
    intro s1_16 ls hg hl
    unfold p_X7_worthOf_16 at hg
    refine lv_iadd hx hb dX7_worthOf_16 ?_
    refine lv_iload_n hx hb dX7_worthOf_17 rfl (lv_at hl 0 rfl) ?_
    refine lv_iload_n hx hb dX7_worthOf_18 rfl (lv_at hl 1 rfl) ?_
    refine lv_icmp_le (tgt := 26) hx hb dX7_worthOf_19 (by decide) (fun c_19 => ?_) (fun c_19 => ?_)
    · have hg := hg.1 c_19
      refine lv_iconst (v := (0 : Int32)) hx hb dX7_worthOf_26 (by decide) ?_
      refine lv_isub hx hb dX7_worthOf_27 ?_
      exact k_xiret C0 hr hg dX7_worthOf_28
    have hg := hg.2 c_19
    refine lv_iconst (v := (4 : Int32)) hx hb dX7_worthOf_22 (by decide) ?_
    refine lv_goto (tgt := 27) hx hb dX7_worthOf_23 (by decide) ?_
    refine lv_isub hx hb dX7_worthOf_27 ?_
    exact k_xiret C0 hr hg dX7_worthOf_28
  unfold p_X7_worthOf at hg
  refine lv_iconst (v := (3 : Int32)) hx hb dX7_worthOf_0 (by decide) ?_
  refine lv_iload_n hx hb dX7_worthOf_1 rfl (lv_at hl 0 rfl) ?_
  refine lv_imul hx hb dX7_worthOf_2 ?_
  refine lv_iload_n hx hb dX7_worthOf_3 rfl (lv_at hl 0 rfl) ?_
  refine lv_iload_n hx hb dX7_worthOf_4 rfl (lv_at hl 1 rfl) ?_
  refine lv_iadd hx hb dX7_worthOf_5 ?_
  refine lv_iload_n hx hb dX7_worthOf_6 rfl (lv_at hl 2 rfl) ?_
  refine lv_icmp_gt (tgt := 15) hx hb dX7_worthOf_7 (by decide) (fun c_7 => ?_) (fun c_7 => ?_)
  · have hg := hg.1 c_7
    refine lv_iconst (v := (0 : Int32)) hx hb dX7_worthOf_15 (by decide) ?_
    exact L16 (0 : Int32) _ hg (lv_sub hl [0, 1] rfl)
  have hg := hg.2 c_7
  refine lv_bipush (v := (20 : Int32)) hx hb dX7_worthOf_10 (by decide) ?_
  refine lv_goto (tgt := 16) hx hb dX7_worthOf_12 (by decide) ?_
  exact L16 (20 : Int32) _ hg (lv_sub hl [0, 1] rfl)
theorem dX7_staysAt_0 : decode cX7_staysAt 0 = .ok (.iconst 0, 1) := by decide +kernel
theorem dX7_staysAt_1 : decode cX7_staysAt 1 = .ok (.istore_n 3, 1) := by decide +kernel
theorem dX7_staysAt_2 : decode cX7_staysAt 2 = .ok (.iload_n 3, 1) := by decide +kernel
theorem dX7_staysAt_3 : decode cX7_staysAt 3 = .ok (.bipush 9, 2) := by decide +kernel
theorem dX7_staysAt_5 : decode cX7_staysAt 5 = .ok (.if_icmp .gt 26, 3) := by decide +kernel
theorem dX7_staysAt_8 : decode cX7_staysAt 8 = .ok (.iload_n 3, 1) := by decide +kernel
theorem dX7_staysAt_9 : decode cX7_staysAt 9 = .ok (.iload_n 1, 1) := by decide +kernel
theorem dX7_staysAt_10 : decode cX7_staysAt 10 = .ok (.iload_n 2, 1) := by decide +kernel
theorem dX7_staysAt_11 : decode cX7_staysAt 11 = .ok (.invokestatic 375, 3) := by decide +kernel
theorem dX7_staysAt_14 : decode cX7_staysAt 14 = .ok (.iload_n 0, 1) := by decide +kernel
theorem dX7_staysAt_15 : decode cX7_staysAt 15 = .ok (.iload_n 1, 1) := by decide +kernel
theorem dX7_staysAt_16 : decode cX7_staysAt 16 = .ok (.iload_n 2, 1) := by decide +kernel
theorem dX7_staysAt_17 : decode cX7_staysAt 17 = .ok (.invokestatic 375, 3) := by decide +kernel
theorem dX7_staysAt_20 : decode cX7_staysAt 20 = .ok (.if_icmp .le 5, 3) := by decide +kernel
theorem dX7_staysAt_23 : decode cX7_staysAt 23 = .ok (.iconst 0, 1) := by decide +kernel
theorem dX7_staysAt_24 : decode cX7_staysAt 24 = .ok (.ireturn, 1) := by decide +kernel
theorem dX7_staysAt_25 : decode cX7_staysAt 25 = .ok (.iinc 3 1, 3) := by decide +kernel
theorem dX7_staysAt_28 : decode cX7_staysAt 28 = .ok (.goto (-26), 3) := by decide +kernel
theorem dX7_staysAt_31 : decode cX7_staysAt 31 = .ok (.iconst 1, 1) := by decide +kernel
theorem dX7_staysAt_32 : decode cX7_staysAt 32 = .ok (.ireturn, 1) := by decide +kernel
noncomputable def p_X7_staysAt_2 (F : Nat) (p0 : Int32) (p1 : Int32) (p2 : Int32) (Post : Int32 → Prop) (n : Nat) : Int32 → Prop := Nat.rec (motive := fun _ => Int32 → Prop) (fun _ => False) (fun _ k2 => fun (y3_2 : Int32) => (((9 : Int32) < y3_2 → (Post (1 : Int32))) ∧ (¬ (9 : Int32) < y3_2 → (p_X7_worthOf F y3_2 p1 p2 (fun (r_11 : Int32) => (p_X7_worthOf F p0 p1 p2 (fun (r_17 : Int32) => ((r_11 ≤ r_17 → (k2 (y3_2 + (1 : Int32)))) ∧ (¬ r_11 ≤ r_17 → (Post (0 : Int32))))))))))) n
theorem p_X7_staysAt_2_s (F : Nat) (p0 : Int32) (p1 : Int32) (p2 : Int32) (Post : Int32 → Prop) (n : Nat) (y3_2 : Int32) : p_X7_staysAt_2 F p0 p1 p2 Post (n + 1) y3_2 = (((9 : Int32) < y3_2 → (Post (1 : Int32))) ∧ (¬ (9 : Int32) < y3_2 → (p_X7_worthOf F y3_2 p1 p2 (fun (r_11 : Int32) => (p_X7_worthOf F p0 p1 p2 (fun (r_17 : Int32) => ((r_11 ≤ r_17 → ((p_X7_staysAt_2 F p0 p1 p2 Post n) (y3_2 + (1 : Int32)))) ∧ (¬ r_11 ≤ r_17 → (Post (0 : Int32)))))))))) := rfl
def p_X7_staysAt (F : Nat) (p0 : Int32) (p1 : Int32) (p2 : Int32) (Post : Int32 → Prop) : Prop := (p_X7_staysAt_2 F p0 p1 p2 Post F (0 : Int32))
set_option maxHeartbeats 4000000 in
set_option maxRecDepth 100000 in
theorem c_X7_staysAt (l : Launch) (D : va_G) (cT : Nat → ClassId) (F : Nat) (p0 : Int32) (p1 : Int32) (p2 : Int32) (Post : Int32 → Prop) (hg : p_X7_staysAt F p0 p1 p2 Post) : MRi l D cT yX7_staysAt cX7_staysAt 4 (some .boolean) 1 22 [.int p0, .int p1, .int p2] [] Post := by
  refine MRi.of (by decide) (Nat.le_of_ble_eq_true rfl) ?_
  intro p e s m below meth c hA C0 hr hP hD hS ls hl
  have hl : lv_has ls 4 [(0, .int p0), (1, .int p1), (2, .int p2)] := hl
  have hx := C0.x
  have hb := C0.b
  have hP : va_P D cls9 [] s.heap := hP
  have hD : va_D (fun q => cT 6 ≤ q) [] := hD
  have L2 : ∀ (n2 : Nat) (y3_2 : Int32) (ls : Array Slot), p_X7_staysAt_2 F p0 p1 p2 Post n2 y3_2 → lv_has ls 4 [(0, .int p0), (1, .int p1), (2, .int p2), (3, .int y3_2)] → W p l e (rmO 1 22 0 0) s m ([.int p0, .int p1, .int p2] : List Value).toArray below meth c s.heap [] 0 0 (MQ below (vp_Si Post) ([.int p0, .int p1, .int p2] : List Value).toArray s 0 0 (fun _ => False)) (F0 m 2 ls []) := by
    intro n2
    induction n2 with
    | zero =>
      intro y3_2 ls hg hl
      exact False.elim hg
    | succ n2 ih2 =>
      intro y3_2 ls hg hl
      rw [p_X7_staysAt_2_s] at hg
      refine lv_iload_n hx hb dX7_staysAt_2 rfl (lv_at hl 3 rfl) ?_
      refine lv_bipush (v := (9 : Int32)) hx hb dX7_staysAt_3 (by decide) ?_
      refine lv_icmp_gt (tgt := 31) hx hb dX7_staysAt_5 (by decide) (fun c_5 => ?_) (fun c_5 => ?_)
      · have hg := hg.1 c_5
        refine lv_iconst (v := (1 : Int32)) hx hb dX7_staysAt_31 (by decide) ?_
        exact k_xzret C0 hr (Or.inr rfl) hg dX7_staysAt_32
      have hg := hg.2 c_5
      refine lv_iload_n hx hb dX7_staysAt_8 rfl (lv_at hl 3 rfl) ?_
      refine lv_iload_n hx hb dX7_staysAt_9 rfl (lv_at hl 1 rfl) ?_
      refine lv_iload_n hx hb dX7_staysAt_10 rfl (lv_at hl 2 rfl) ?_
      refine k_Sxi (rest := []) C0 lk_X7_375 (c_X7_worthOf l D cT F y3_2 p1 p2 _ hg) hP hD hS hA [] (by decide +kernel) rfl ⟨Nat.le_of_ble_eq_true rfl, Nat.le_of_ble_eq_true rfl⟩ rfl hl.1 rfl (Nat.le_of_ble_eq_true rfl) dX7_staysAt_11 ⟨Nat.le_of_ble_eq_true rfl, Nat.le_of_ble_eq_true rfl⟩ (fun r_11 hg => ?_)
      refine lv_iload_n hx hb dX7_staysAt_14 rfl (lv_at hl 0 rfl) ?_
      refine lv_iload_n hx hb dX7_staysAt_15 rfl (lv_at hl 1 rfl) ?_
      refine lv_iload_n hx hb dX7_staysAt_16 rfl (lv_at hl 2 rfl) ?_
      refine k_Sxi (rest := [.int r_11]) C0 lk_X7_375 (c_X7_worthOf l D cT F p0 p1 p2 _ hg) hP hD hS hA [] (by decide +kernel) rfl ⟨Nat.le_of_ble_eq_true rfl, Nat.le_of_ble_eq_true rfl⟩ rfl hl.1 rfl (Nat.le_of_ble_eq_true rfl) dX7_staysAt_17 ⟨Nat.le_of_ble_eq_true rfl, Nat.le_of_ble_eq_true rfl⟩ (fun r_17 hg => ?_)
      refine lv_icmp_le (tgt := 25) hx hb dX7_staysAt_20 (by decide) (fun c_20 => ?_) (fun c_20 => ?_)
      · have hg := hg.1 c_20
        refine lv_iinc (v := (y3_2 + (1 : Int32))) (lv' := [(3, .int (y3_2 + (1 : Int32))), (0, .int p0), (1, .int p1), (2, .int p2)]) hx hb dX7_staysAt_25 hl (k := 3) rfl rfl (by decide) rfl (fun ls hl => ?_)
        refine lv_goto (tgt := 2) hx hb dX7_staysAt_28 (by decide) ?_
        exact ih2 (y3_2 + (1 : Int32)) _ hg (lv_sub hl [1, 2, 3, 0] rfl)
      have hg := hg.2 c_20
      refine lv_iconst (v := (0 : Int32)) hx hb dX7_staysAt_23 (by decide) ?_
      exact k_xzret C0 hr (Or.inl rfl) hg dX7_staysAt_24
  unfold p_X7_staysAt at hg
  refine lv_iconst (v := (0 : Int32)) hx hb dX7_staysAt_0 (by decide) ?_
  refine lv_istore_n (lv' := [(3, .int (0 : Int32)), (0, .int p0), (1, .int p1), (2, .int p2)]) hx hb dX7_staysAt_1 rfl hl (by decide) rfl (fun ls hl => ?_)
  exact L2 F (0 : Int32) _ hg (lv_sub hl [1, 2, 3, 0] rfl)
theorem dX7_rests_0 : decode cX7_rests 0 = .ok (.iload_n 1, 1) := by decide +kernel
theorem dX7_rests_1 : decode cX7_rests 1 = .ok (.ifCond .lt 9, 3) := by decide +kernel
theorem dX7_rests_4 : decode cX7_rests 4 = .ok (.iload_n 1, 1) := by decide +kernel
theorem dX7_rests_5 : decode cX7_rests 5 = .ok (.bipush 18, 2) := by decide +kernel
theorem dX7_rests_7 : decode cX7_rests 7 = .ok (.if_icmp .le 5, 3) := by decide +kernel
theorem dX7_rests_10 : decode cX7_rests 10 = .ok (.iconst (-1), 1) := by decide +kernel
theorem dX7_rests_11 : decode cX7_rests 11 = .ok (.ireturn, 1) := by decide +kernel
theorem dX7_rests_12 : decode cX7_rests 12 = .ok (.iconst 0, 1) := by decide +kernel
theorem dX7_rests_13 : decode cX7_rests 13 = .ok (.istore_n 2, 1) := by decide +kernel
theorem dX7_rests_14 : decode cX7_rests 14 = .ok (.aload_n 0, 1) := by decide +kernel
theorem dX7_rests_15 : decode cX7_rests 15 = .ok (.getfield 19, 3) := by decide +kernel
theorem dX7_rests_18 : decode cX7_rests 18 = .ok (.invokevirtual 201, 3) := by decide +kernel
theorem dX7_rests_21 : decode cX7_rests 21 = .ok (.pop, 1) := by decide +kernel
theorem dX7_rests_22 : decode cX7_rests 22 = .ok (.iconst 0, 1) := by decide +kernel
theorem dX7_rests_23 : decode cX7_rests 23 = .ok (.istore_n 3, 1) := by decide +kernel
theorem dX7_rests_24 : decode cX7_rests 24 = .ok (.iload_n 3, 1) := by decide +kernel
theorem dX7_rests_25 : decode cX7_rests 25 = .ok (.bipush 9, 2) := by decide +kernel
theorem dX7_rests_27 : decode cX7_rests 27 = .ok (.if_icmp .gt 69, 3) := by decide +kernel
theorem dX7_rests_30 : decode cX7_rests 30 = .ok (.iconst 0, 1) := by decide +kernel
theorem dX7_rests_31 : decode cX7_rests 31 = .ok (.istore 4, 2) := by decide +kernel
theorem dX7_rests_33 : decode cX7_rests 33 = .ok (.iload 4, 2) := by decide +kernel
theorem dX7_rests_35 : decode cX7_rests 35 = .ok (.bipush 9, 2) := by decide +kernel
theorem dX7_rests_37 : decode cX7_rests 37 = .ok (.if_icmp .gt 53, 3) := by decide +kernel
theorem dX7_rests_40 : decode cX7_rests 40 = .ok (.iload_n 3, 1) := by decide +kernel
theorem dX7_rests_41 : decode cX7_rests 41 = .ok (.iload 4, 2) := by decide +kernel
theorem dX7_rests_43 : decode cX7_rests 43 = .ok (.iload_n 1, 1) := by decide +kernel
theorem dX7_rests_44 : decode cX7_rests 44 = .ok (.invokestatic 372, 3) := by decide +kernel
theorem dX7_rests_47 : decode cX7_rests 47 = .ok (.ifCond .eq 37, 3) := by decide +kernel
theorem dX7_rests_50 : decode cX7_rests 50 = .ok (.iload 4, 2) := by decide +kernel
theorem dX7_rests_52 : decode cX7_rests 52 = .ok (.iload_n 3, 1) := by decide +kernel
theorem dX7_rests_53 : decode cX7_rests 53 = .ok (.iload_n 1, 1) := by decide +kernel
theorem dX7_rests_54 : decode cX7_rests 54 = .ok (.invokestatic 372, 3) := by decide +kernel
theorem dX7_rests_57 : decode cX7_rests 57 = .ok (.ifCond .eq 27, 3) := by decide +kernel
theorem dX7_rests_60 : decode cX7_rests 60 = .ok (.iinc 2 1, 3) := by decide +kernel
theorem dX7_rests_63 : decode cX7_rests 63 = .ok (.iload_n 2, 1) := by decide +kernel
theorem dX7_rests_64 : decode cX7_rests 64 = .ok (.iconst 1, 1) := by decide +kernel
theorem dX7_rests_65 : decode cX7_rests 65 = .ok (.if_icmp .ne 19, 3) := by decide +kernel
theorem dX7_rests_68 : decode cX7_rests 68 = .ok (.aload_n 0, 1) := by decide +kernel
theorem dX7_rests_69 : decode cX7_rests 69 = .ok (.getfield 19, 3) := by decide +kernel
theorem dX7_rests_72 : decode cX7_rests 72 = .ok (.iload_n 3, 1) := by decide +kernel
theorem dX7_rests_73 : decode cX7_rests 73 = .ok (.i2l, 1) := by decide +kernel
theorem dX7_rests_74 : decode cX7_rests 74 = .ok (.invokevirtual 205, 3) := by decide +kernel
theorem dX7_rests_77 : decode cX7_rests 77 = .ok (.iload 4, 2) := by decide +kernel
theorem dX7_rests_79 : decode cX7_rests 79 = .ok (.i2l, 1) := by decide +kernel
theorem dX7_rests_80 : decode cX7_rests 80 = .ok (.invokevirtual 205, 3) := by decide +kernel
theorem dX7_rests_83 : decode cX7_rests 83 = .ok (.pop, 1) := by decide +kernel
theorem dX7_rests_84 : decode cX7_rests 84 = .ok (.iinc 4 1, 3) := by decide +kernel
theorem dX7_rests_87 : decode cX7_rests 87 = .ok (.goto (-54), 3) := by decide +kernel
theorem dX7_rests_90 : decode cX7_rests 90 = .ok (.iinc 3 1, 3) := by decide +kernel
theorem dX7_rests_93 : decode cX7_rests 93 = .ok (.goto (-69), 3) := by decide +kernel
theorem dX7_rests_96 : decode cX7_rests 96 = .ok (.iload_n 2, 1) := by decide +kernel
theorem dX7_rests_97 : decode cX7_rests 97 = .ok (.ireturn, 1) := by decide +kernel
def p_X7_rests_84 (F : Nat) (y4_33 : Int32) (k24 : Int32 → Int32 → Int32 → (Nat → Int64) → Prop) (k33 : Int32 → Int32 → Int32 → (Nat → Int64) → Prop) (Post : Int32 → (Int32 × (Nat → Int64)) → Prop) (y2_84 : Int32) (x_told_size_84 : Int32) (f_told_numbers_84 : Nat → Int64) : Prop := (k33 (y4_33 + (1 : Int32)) y2_84 x_told_size_84 f_told_numbers_84)
noncomputable def p_X7_rests_33 (F : Nat) (p1 : Int32) (y3_24 : Int32) (k24 : Int32 → Int32 → Int32 → (Nat → Int64) → Prop) (Post : Int32 → (Int32 × (Nat → Int64)) → Prop) (n : Nat) : Int32 → Int32 → Int32 → (Nat → Int64) → Prop := Nat.rec (motive := fun _ => Int32 → Int32 → Int32 → (Nat → Int64) → Prop) (fun _ _ _ _ => False) (fun _ k33 => fun (y4_33 : Int32) (y2_33 : Int32) (x_told_size_33 : Int32) (f_told_numbers_33 : Nat → Int64) => (((9 : Int32) < y4_33 → (k24 (y3_24 + (1 : Int32)) y2_33 x_told_size_33 f_told_numbers_33)) ∧ (¬ (9 : Int32) < y4_33 → (p_X7_staysAt F y3_24 y4_33 p1 (fun (r_44 : Int32) => ((r_44 = 0 → (p_X7_rests_84 F y4_33 k24 k33 Post y2_33 x_told_size_33 f_told_numbers_33)) ∧ (¬ r_44 = 0 → (p_X7_staysAt F y4_33 y3_24 p1 (fun (r_54 : Int32) => ((r_54 = 0 → (p_X7_rests_84 F y4_33 k24 k33 Post y2_33 x_told_size_33 f_told_numbers_33)) ∧ (¬ r_54 = 0 → ((¬ (y2_33 + (1 : Int32)) = (1 : Int32) → (p_X7_rests_84 F y4_33 k24 k33 Post (y2_33 + (1 : Int32)) x_told_size_33 f_told_numbers_33)) ∧ ((y2_33 + (1 : Int32)) = (1 : Int32) → (p_X3_add F (y3_24.toInt64) x_told_size_33 f_told_numbers_33 (fun (u_74 : (Int32 × (Nat → Int64))) => (p_X3_add F (y4_33.toInt64) u_74.1 u_74.2 (fun (u_80 : (Int32 × (Nat → Int64))) => (p_X7_rests_84 F y4_33 k24 k33 Post (y2_33 + (1 : Int32)) u_80.1 u_80.2)))))))))))))))))) n
theorem p_X7_rests_33_s (F : Nat) (p1 : Int32) (y3_24 : Int32) (k24 : Int32 → Int32 → Int32 → (Nat → Int64) → Prop) (Post : Int32 → (Int32 × (Nat → Int64)) → Prop) (n : Nat) (y4_33 : Int32) (y2_33 : Int32) (x_told_size_33 : Int32) (f_told_numbers_33 : Nat → Int64) : p_X7_rests_33 F p1 y3_24 k24 Post (n + 1) y4_33 y2_33 x_told_size_33 f_told_numbers_33 = (((9 : Int32) < y4_33 → (k24 (y3_24 + (1 : Int32)) y2_33 x_told_size_33 f_told_numbers_33)) ∧ (¬ (9 : Int32) < y4_33 → (p_X7_staysAt F y3_24 y4_33 p1 (fun (r_44 : Int32) => ((r_44 = 0 → (p_X7_rests_84 F y4_33 k24 (p_X7_rests_33 F p1 y3_24 k24 Post n) Post y2_33 x_told_size_33 f_told_numbers_33)) ∧ (¬ r_44 = 0 → (p_X7_staysAt F y4_33 y3_24 p1 (fun (r_54 : Int32) => ((r_54 = 0 → (p_X7_rests_84 F y4_33 k24 (p_X7_rests_33 F p1 y3_24 k24 Post n) Post y2_33 x_told_size_33 f_told_numbers_33)) ∧ (¬ r_54 = 0 → ((¬ (y2_33 + (1 : Int32)) = (1 : Int32) → (p_X7_rests_84 F y4_33 k24 (p_X7_rests_33 F p1 y3_24 k24 Post n) Post (y2_33 + (1 : Int32)) x_told_size_33 f_told_numbers_33)) ∧ ((y2_33 + (1 : Int32)) = (1 : Int32) → (p_X3_add F (y3_24.toInt64) x_told_size_33 f_told_numbers_33 (fun (u_74 : (Int32 × (Nat → Int64))) => (p_X3_add F (y4_33.toInt64) u_74.1 u_74.2 (fun (u_80 : (Int32 × (Nat → Int64))) => (p_X7_rests_84 F y4_33 k24 (p_X7_rests_33 F p1 y3_24 k24 Post n) Post (y2_33 + (1 : Int32)) u_80.1 u_80.2))))))))))))))))) := rfl
noncomputable def p_X7_rests_24 (F : Nat) (p1 : Int32) (Post : Int32 → (Int32 × (Nat → Int64)) → Prop) (n : Nat) : Int32 → Int32 → Int32 → (Nat → Int64) → Prop := Nat.rec (motive := fun _ => Int32 → Int32 → Int32 → (Nat → Int64) → Prop) (fun _ _ _ _ => False) (fun _ k24 => fun (y3_24 : Int32) (y2_24 : Int32) (x_told_size_24 : Int32) (f_told_numbers_24 : Nat → Int64) => (((9 : Int32) < y3_24 → (Post y2_24 (x_told_size_24, f_told_numbers_24))) ∧ (¬ (9 : Int32) < y3_24 → (p_X7_rests_33 F p1 y3_24 k24 Post F (0 : Int32) y2_24 x_told_size_24 f_told_numbers_24)))) n
theorem p_X7_rests_24_s (F : Nat) (p1 : Int32) (Post : Int32 → (Int32 × (Nat → Int64)) → Prop) (n : Nat) (y3_24 : Int32) (y2_24 : Int32) (x_told_size_24 : Int32) (f_told_numbers_24 : Nat → Int64) : p_X7_rests_24 F p1 Post (n + 1) y3_24 y2_24 x_told_size_24 f_told_numbers_24 = (((9 : Int32) < y3_24 → (Post y2_24 (x_told_size_24, f_told_numbers_24))) ∧ (¬ (9 : Int32) < y3_24 → (p_X7_rests_33 F p1 y3_24 (p_X7_rests_24 F p1 Post n) Post F (0 : Int32) y2_24 x_told_size_24 f_told_numbers_24))) := rfl
def p_X7_rests (F : Nat) (p1 : Int32) (x_told_size : Int32) (f_told_numbers : Nat → Int64) (Post : Int32 → (Int32 × (Nat → Int64)) → Prop) : Prop := ((p1 < 0 → (Post (-1 : Int32) (x_told_size, f_told_numbers))) ∧ (¬ p1 < 0 → ((p1 ≤ (18 : Int32) → (p_X3_anew F (fun (u_18 : Int32) => (p_X7_rests_24 F p1 Post F (0 : Int32) (0 : Int32) u_18 f_told_numbers)))) ∧ (¬ p1 ≤ (18 : Int32) → (Post (-1 : Int32) (x_told_size, f_told_numbers))))))
set_option maxHeartbeats 4000000 in
set_option maxRecDepth 100000 in
theorem c_X7_rests (l : Launch) (D : va_G) (cT : Nat → ClassId) (F : Nat) (h : Nat) (p1 : Int32) (w_text : Value) (q_told : Nat) (w_now : Value) (w_before : Value) (w_trial : Value) (w_past : Value) (w_kept : Value) (w_feltNotes : Value) (w_heardNotes : Value) (w_draws : Value) (w_purrs : Value) (w_alone : Value) (w_nimbers : Value) (w_ways : Value) (w_ruling : Value) (w_spare : Value) (q_told_numbers : Nat) (x_told_size : Int32) (f_told_numbers : Nat → Int64) (Post : Int32 → (Int32 × (Nat → Int64)) → Prop) (hg : p_X7_rests F p1 x_told_size f_told_numbers Post) : MWi l D cT yX7_rests cX7_rests 5 (some .int) 2 45 0 0 [.ref h, .int p1] [(h, oX7 w_text (.ref q_told) w_now w_before w_trial w_past w_kept w_feltNotes w_heardNotes w_draws w_purrs w_alone w_nimbers w_ways w_ruling w_spare), (q_told, oX3 (.ref q_told_numbers) (.int x_told_size)), (q_told_numbers, aJ cT 8 f_told_numbers)] Post (fun (u : (Int32 × (Nat → Int64))) => [(h, oX7 w_text (.ref q_told) w_now w_before w_trial w_past w_kept w_feltNotes w_heardNotes w_draws w_purrs w_alone w_nimbers w_ways w_ruling w_spare), (q_told, oX3 (.ref q_told_numbers) (.int u.1)), (q_told_numbers, aJ cT 8 u.2)]) := by
  refine MWi.of (by decide) (Nat.le_of_ble_eq_true rfl) ?_
  intro p e s m below meth c A hA C0 hnm hr hP hD ls hl
  have hl : lv_has ls 5 [(0, .ref h), (1, .int p1)] := hl
  have hx := C0.x
  have hb := C0.b
  have hS : va_S A s.heap s.heap [] := va_S.rf
  have hP : va_P D cls9 [(h, oX7 w_text (.ref q_told) w_now w_before w_trial w_past w_kept w_feltNotes w_heardNotes w_draws w_purrs w_alone w_nimbers w_ways w_ruling w_spare), (q_told, oX3 (.ref q_told_numbers) (.int x_told_size)), (q_told_numbers, aJ cT 8 f_told_numbers)] s.heap := hP
  have hD : va_D A [(h, oX7 w_text (.ref q_told) w_now w_before w_trial w_past w_kept w_feltNotes w_heardNotes w_draws w_purrs w_alone w_nimbers w_ways w_ruling w_spare), (q_told, oX3 (.ref q_told_numbers) (.int x_told_size)), (q_told_numbers, aJ cT 8 f_told_numbers)] := hD
  have L24 : ∀ (n24 : Nat) (y3_24 : Int32) (y2_24 : Int32) (x_told_size_24 : Int32) (f_told_numbers_24 : Nat → Int64) (H : Heap) (locs : List Loc) (ls : Array Slot), p_X7_rests_24 F p1 Post n24 y3_24 y2_24 x_told_size_24 f_told_numbers_24 → va_P D cls9 [(h, oX7 w_text (.ref q_told) w_now w_before w_trial w_past w_kept w_feltNotes w_heardNotes w_draws w_purrs w_alone w_nimbers w_ways w_ruling w_spare), (q_told, oX3 (.ref q_told_numbers) (.int x_told_size_24)), (q_told_numbers, aJ cT 8 f_told_numbers_24)] H → va_D A [(h, oX7 w_text (.ref q_told) w_now w_before w_trial w_past w_kept w_feltNotes w_heardNotes w_draws w_purrs w_alone w_nimbers w_ways w_ruling w_spare), (q_told, oX3 (.ref q_told_numbers) (.int x_told_size_24)), (q_told_numbers, aJ cT 8 f_told_numbers_24)] → va_S A s.heap H locs → lv_has ls 5 [(0, .ref h), (1, .int p1), (2, .int y2_24), (3, .int y3_24)] → W p l e (rmO 2 45 0 0) s m ([.ref h, .int p1] : List Value).toArray below meth c H locs 0 0 (MQ below (va_Qi Post (cB D A (fun (u : (Int32 × (Nat → Int64))) => [(h, oX7 w_text (.ref q_told) w_now w_before w_trial w_past w_kept w_feltNotes w_heardNotes w_draws w_purrs w_alone w_nimbers w_ways w_ruling w_spare), (q_told, oX3 (.ref q_told_numbers) (.int u.1)), (q_told_numbers, aJ cT 8 u.2)])) A) ([.ref h, .int p1] : List Value).toArray s 0 0 A) (F0 m 24 ls []) := by
    intro n24
    induction n24 with
    | zero =>
      intro y3_24 y2_24 x_told_size_24 f_told_numbers_24 H locs ls hg hP hD hS hl
      exact False.elim hg
    | succ n24 ih24 =>
      have L33 : ∀ (y3_24 : Int32) (n33 : Nat) (y4_33 : Int32) (y2_33 : Int32) (x_told_size_33 : Int32) (f_told_numbers_33 : Nat → Int64) (H : Heap) (locs : List Loc) (ls : Array Slot), p_X7_rests_33 F p1 y3_24 (p_X7_rests_24 F p1 Post n24) Post n33 y4_33 y2_33 x_told_size_33 f_told_numbers_33 → va_P D cls9 [(h, oX7 w_text (.ref q_told) w_now w_before w_trial w_past w_kept w_feltNotes w_heardNotes w_draws w_purrs w_alone w_nimbers w_ways w_ruling w_spare), (q_told, oX3 (.ref q_told_numbers) (.int x_told_size_33)), (q_told_numbers, aJ cT 8 f_told_numbers_33)] H → va_D A [(h, oX7 w_text (.ref q_told) w_now w_before w_trial w_past w_kept w_feltNotes w_heardNotes w_draws w_purrs w_alone w_nimbers w_ways w_ruling w_spare), (q_told, oX3 (.ref q_told_numbers) (.int x_told_size_33)), (q_told_numbers, aJ cT 8 f_told_numbers_33)] → va_S A s.heap H locs → lv_has ls 5 [(0, .ref h), (1, .int p1), (2, .int y2_33), (3, .int y3_24), (4, .int y4_33)] → W p l e (rmO 2 45 0 0) s m ([.ref h, .int p1] : List Value).toArray below meth c H locs 0 0 (MQ below (va_Qi Post (cB D A (fun (u : (Int32 × (Nat → Int64))) => [(h, oX7 w_text (.ref q_told) w_now w_before w_trial w_past w_kept w_feltNotes w_heardNotes w_draws w_purrs w_alone w_nimbers w_ways w_ruling w_spare), (q_told, oX3 (.ref q_told_numbers) (.int u.1)), (q_told_numbers, aJ cT 8 u.2)])) A) ([.ref h, .int p1] : List Value).toArray s 0 0 A) (F0 m 33 ls []) := by
        intro y3_24 n33
        induction n33 with
        | zero =>
          intro y4_33 y2_33 x_told_size_33 f_told_numbers_33 H locs ls hg hP hD hS hl
          exact False.elim hg
        | succ n33 ih33 =>
          have L84 : ∀ (y4_33 : Int32) (y2_84 : Int32) (x_told_size_84 : Int32) (f_told_numbers_84 : Nat → Int64) (H : Heap) (locs : List Loc) (ls : Array Slot), p_X7_rests_84 F y4_33 (p_X7_rests_24 F p1 Post n24) (p_X7_rests_33 F p1 y3_24 (p_X7_rests_24 F p1 Post n24) Post n33) Post y2_84 x_told_size_84 f_told_numbers_84 → va_P D cls9 [(h, oX7 w_text (.ref q_told) w_now w_before w_trial w_past w_kept w_feltNotes w_heardNotes w_draws w_purrs w_alone w_nimbers w_ways w_ruling w_spare), (q_told, oX3 (.ref q_told_numbers) (.int x_told_size_84)), (q_told_numbers, aJ cT 8 f_told_numbers_84)] H → va_D A [(h, oX7 w_text (.ref q_told) w_now w_before w_trial w_past w_kept w_feltNotes w_heardNotes w_draws w_purrs w_alone w_nimbers w_ways w_ruling w_spare), (q_told, oX3 (.ref q_told_numbers) (.int x_told_size_84)), (q_told_numbers, aJ cT 8 f_told_numbers_84)] → va_S A s.heap H locs → lv_has ls 5 [(0, .ref h), (1, .int p1), (2, .int y2_84), (3, .int y3_24), (4, .int y4_33)] → W p l e (rmO 2 45 0 0) s m ([.ref h, .int p1] : List Value).toArray below meth c H locs 0 0 (MQ below (va_Qi Post (cB D A (fun (u : (Int32 × (Nat → Int64))) => [(h, oX7 w_text (.ref q_told) w_now w_before w_trial w_past w_kept w_feltNotes w_heardNotes w_draws w_purrs w_alone w_nimbers w_ways w_ruling w_spare), (q_told, oX3 (.ref q_told_numbers) (.int u.1)), (q_told_numbers, aJ cT 8 u.2)])) A) ([.ref h, .int p1] : List Value).toArray s 0 0 A) (F0 m 84 ls []) := by
            intro y4_33 y2_84 x_told_size_84 f_told_numbers_84 H locs ls hg hP hD hS hl
            unfold p_X7_rests_84 at hg
            refine lv_iinc (v := (y4_33 + (1 : Int32))) (lv' := [(4, .int (y4_33 + (1 : Int32))), (0, .ref h), (1, .int p1), (2, .int y2_84), (3, .int y3_24)]) hx hb dX7_rests_84 hl (k := 4) rfl rfl (by decide) rfl (fun ls hl => ?_)
            refine lv_goto (tgt := 33) hx hb dX7_rests_87 (by decide) ?_
            exact ih33 (y4_33 + (1 : Int32)) y2_84 x_told_size_84 f_told_numbers_84 _ _ _ hg hP hD hS (lv_sub hl [1, 2, 3, 4, 0] rfl)
          intro y4_33 y2_33 x_told_size_33 f_told_numbers_33 H locs ls hg hP hD hS hl
          rw [p_X7_rests_33_s] at hg
          refine lv_iload hx hb dX7_rests_33 (lv_at hl 4 rfl) ?_
          refine lv_bipush (v := (9 : Int32)) hx hb dX7_rests_35 (by decide) ?_
          refine lv_icmp_gt (tgt := 90) hx hb dX7_rests_37 (by decide) (fun c_37 => ?_) (fun c_37 => ?_)
          · have hg := hg.1 c_37
            refine lv_iinc (v := (y3_24 + (1 : Int32))) (lv' := [(3, .int (y3_24 + (1 : Int32))), (0, .ref h), (1, .int p1), (2, .int y2_33), (4, .int y4_33)]) hx hb dX7_rests_90 hl (k := 3) rfl rfl (by decide) rfl (fun ls hl => ?_)
            refine lv_goto (tgt := 24) hx hb dX7_rests_93 (by decide) ?_
            exact ih24 (y3_24 + (1 : Int32)) y2_33 x_told_size_33 f_told_numbers_33 _ _ _ hg hP hD hS (lv_sub hl [1, 2, 3, 0] rfl)
          have hg := hg.2 c_37
          refine lv_iload_n hx hb dX7_rests_40 rfl (lv_at hl 3 rfl) ?_
          refine lv_iload hx hb dX7_rests_41 (lv_at hl 4 rfl) ?_
          refine lv_iload_n hx hb dX7_rests_43 rfl (lv_at hl 1 rfl) ?_
          refine k_Sxi (rest := []) C0 lk_X7_372 (c_X7_staysAt l D cT F y3_24 y4_33 p1 _ hg) hP hD hS hA [] (by decide +kernel) rfl ⟨Nat.le_of_ble_eq_true rfl, Nat.le_of_ble_eq_true rfl⟩ rfl hl.1 rfl (Nat.le_of_ble_eq_true rfl) dX7_rests_44 ⟨Nat.le_of_ble_eq_true rfl, Nat.le_of_ble_eq_true rfl⟩ (fun r_44 hg => ?_)
          refine lv_if_eq (tgt := 84) hx hb dX7_rests_47 (by decide) (fun c_47 => ?_) (fun c_47 => ?_)
          · have hg := hg.1 c_47
            exact L84 y4_33 y2_33 x_told_size_33 f_told_numbers_33 _ _ _ hg hP hD hS hl
          have hg := hg.2 c_47
          refine lv_iload hx hb dX7_rests_50 (lv_at hl 4 rfl) ?_
          refine lv_iload_n hx hb dX7_rests_52 rfl (lv_at hl 3 rfl) ?_
          refine lv_iload_n hx hb dX7_rests_53 rfl (lv_at hl 1 rfl) ?_
          refine k_Sxi (rest := []) C0 lk_X7_372 (c_X7_staysAt l D cT F y4_33 y3_24 p1 _ hg) hP hD hS hA [] (by decide +kernel) rfl ⟨Nat.le_of_ble_eq_true rfl, Nat.le_of_ble_eq_true rfl⟩ rfl hl.1 rfl (Nat.le_of_ble_eq_true rfl) dX7_rests_54 ⟨Nat.le_of_ble_eq_true rfl, Nat.le_of_ble_eq_true rfl⟩ (fun r_54 hg => ?_)
          refine lv_if_eq (tgt := 84) hx hb dX7_rests_57 (by decide) (fun c_57 => ?_) (fun c_57 => ?_)
          · have hg := hg.1 c_57
            exact L84 y4_33 y2_33 x_told_size_33 f_told_numbers_33 _ _ _ hg hP hD hS hl
          have hg := hg.2 c_57
          refine lv_iinc (v := (y2_33 + (1 : Int32))) (lv' := [(2, .int (y2_33 + (1 : Int32))), (0, .ref h), (1, .int p1), (3, .int y3_24), (4, .int y4_33)]) hx hb dX7_rests_60 hl (k := 2) rfl rfl (by decide) rfl (fun ls hl => ?_)
          refine lv_iload_n hx hb dX7_rests_63 rfl (lv_at hl 0 rfl) ?_
          refine lv_iconst (v := (1 : Int32)) hx hb dX7_rests_64 (by decide) ?_
          refine lv_icmp_ne (tgt := 84) hx hb dX7_rests_65 (by decide) (fun c_65 => ?_) (fun c_65 => ?_)
          · have hg := hg.1 c_65
            exact L84 y4_33 (y2_33 + (1 : Int32)) x_told_size_33 f_told_numbers_33 _ _ _ hg hP hD hS (lv_sub hl [1, 2, 0, 3, 4] rfl)
          have hg := hg.2 c_65
          refine lv_aload_n hx hb dX7_rests_68 rfl (lv_at hl 1 rfl) ?_
          refine gf_X7_19 C0 hP 0 rfl rfl dX7_rests_69 ?_
          refine lv_iload_n hx hb dX7_rests_72 rfl (lv_at hl 3 rfl) ?_
          refine lv_i2l (v := (y3_24.toInt64)) hx hb dX7_rests_73 rfl ?_
          refine k_Vr (rest := []) (wr := [(h, oX7 w_text (.ref q_told) w_now w_before w_trial w_past w_kept w_feltNotes w_heardNotes w_draws w_purrs w_alone w_nimbers w_ways w_ruling w_spare)]) (w2 := fun u_74 => [(h, oX7 w_text (.ref q_told) w_now w_before w_trial w_past w_kept w_feltNotes w_heardNotes w_draws w_purrs w_alone w_nimbers w_ways w_ruling w_spare), (q_told, oX3 (.ref q_told_numbers) (.int u_74.1)), (q_told_numbers, aJ cT 8 u_74.2)]) C0 lk_X7_205 (c_X3_add l D cT F q_told (y3_24.toInt64) q_told_numbers x_told_size_33 f_told_numbers_33 _ hg) hP hD hS hA [1, 2] [0] (by decide +kernel) rfl rfl (fun _ => rfl) rfl rfl ⟨Nat.le_of_ble_eq_true rfl, Nat.le_of_ble_eq_true rfl⟩ rfl hl.1 rfl (Nat.le_of_ble_eq_true rfl) dX7_rests_74 ⟨Nat.le_of_ble_eq_true rfl, Nat.le_of_ble_eq_true rfl⟩ ?_
          intro u_74 H locs hg hP hD hS
          refine lv_iload hx hb dX7_rests_77 (lv_at hl 4 rfl) ?_
          refine lv_i2l (v := (y4_33.toInt64)) hx hb dX7_rests_79 rfl ?_
          refine k_Vr (rest := []) (wr := [(h, oX7 w_text (.ref q_told) w_now w_before w_trial w_past w_kept w_feltNotes w_heardNotes w_draws w_purrs w_alone w_nimbers w_ways w_ruling w_spare)]) (w2 := fun u_80 => [(h, oX7 w_text (.ref q_told) w_now w_before w_trial w_past w_kept w_feltNotes w_heardNotes w_draws w_purrs w_alone w_nimbers w_ways w_ruling w_spare), (q_told, oX3 (.ref q_told_numbers) (.int u_80.1)), (q_told_numbers, aJ cT 8 u_80.2)]) C0 lk_X7_205 (c_X3_add l D cT F q_told (y4_33.toInt64) q_told_numbers u_74.1 u_74.2 _ hg) hP hD hS hA [1, 2] [0] (by decide +kernel) rfl rfl (fun _ => rfl) rfl rfl ⟨Nat.le_of_ble_eq_true rfl, Nat.le_of_ble_eq_true rfl⟩ rfl hl.1 rfl (Nat.le_of_ble_eq_true rfl) dX7_rests_80 ⟨Nat.le_of_ble_eq_true rfl, Nat.le_of_ble_eq_true rfl⟩ ?_
          intro u_80 H locs hg hP hD hS
          refine lv_pop hx hb dX7_rests_83 rfl ?_
          exact L84 y4_33 (y2_33 + (1 : Int32)) u_80.1 u_80.2 _ _ _ hg hP hD hS (lv_sub hl [1, 2, 0, 3, 4] rfl)
      intro y3_24 y2_24 x_told_size_24 f_told_numbers_24 H locs ls hg hP hD hS hl
      rw [p_X7_rests_24_s] at hg
      refine lv_iload_n hx hb dX7_rests_24 rfl (lv_at hl 3 rfl) ?_
      refine lv_bipush (v := (9 : Int32)) hx hb dX7_rests_25 (by decide) ?_
      refine lv_icmp_gt (tgt := 96) hx hb dX7_rests_27 (by decide) (fun c_27 => ?_) (fun c_27 => ?_)
      · have hg := hg.1 c_27
        refine lv_iload_n hx hb dX7_rests_96 rfl (lv_at hl 2 rfl) ?_
        exact k_iret C0 hr (x_told_size_24, f_told_numbers_24) hg hP hD hS dX7_rests_97
      have hg := hg.2 c_27
      refine lv_iconst (v := (0 : Int32)) hx hb dX7_rests_30 (by decide) ?_
      refine lv_istore (lv' := [(4, .int (0 : Int32)), (0, .ref h), (1, .int p1), (2, .int y2_24), (3, .int y3_24)]) hx hb dX7_rests_31 hl (by decide) rfl (fun ls hl => ?_)
      exact L33 y3_24 F (0 : Int32) y2_24 x_told_size_24 f_told_numbers_24 _ _ _ hg hP hD hS (lv_sub hl [1, 2, 3, 4, 0] rfl)
  unfold p_X7_rests at hg
  refine lv_iload_n hx hb dX7_rests_0 rfl (lv_at hl 1 rfl) ?_
  refine lv_if_lt (tgt := 10) hx hb dX7_rests_1 (by decide) (fun c_1 => ?_) (fun c_1 => ?_)
  · have hg := hg.1 c_1
    refine lv_iconst (v := (-1 : Int32)) hx hb dX7_rests_10 (by decide) ?_
    exact k_iret C0 hr (x_told_size, f_told_numbers) hg hP hD hS dX7_rests_11
  have hg := hg.2 c_1
  refine lv_iload_n hx hb dX7_rests_4 rfl (lv_at hl 1 rfl) ?_
  refine lv_bipush (v := (18 : Int32)) hx hb dX7_rests_5 (by decide) ?_
  refine lv_icmp_le (tgt := 12) hx hb dX7_rests_7 (by decide) (fun c_7 => ?_) (fun c_7 => ?_)
  · have hg := hg.1 c_7
    refine lv_iconst (v := (0 : Int32)) hx hb dX7_rests_12 (by decide) ?_
    refine lv_istore_n (lv' := [(2, .int (0 : Int32)), (0, .ref h), (1, .int p1)]) hx hb dX7_rests_13 rfl hl (by decide) rfl (fun ls hl => ?_)
    refine lv_aload_n hx hb dX7_rests_14 rfl (lv_at hl 1 rfl) ?_
    refine gf_X7_19 C0 hP 0 rfl rfl dX7_rests_15 ?_
    refine k_Vr (rest := []) (wr := [(h, oX7 w_text (.ref q_told) w_now w_before w_trial w_past w_kept w_feltNotes w_heardNotes w_draws w_purrs w_alone w_nimbers w_ways w_ruling w_spare), (q_told_numbers, aJ cT 8 f_told_numbers)]) (w2 := fun u_18 => [(h, oX7 w_text (.ref q_told) w_now w_before w_trial w_past w_kept w_feltNotes w_heardNotes w_draws w_purrs w_alone w_nimbers w_ways w_ruling w_spare), (q_told_numbers, aJ cT 8 f_told_numbers), (q_told, oX3 (.ref q_told_numbers) (.int u_18))]) C0 lk_X7_201 (c_X3_anew l D cT F q_told (.ref q_told_numbers) x_told_size _ hg) hP hD hS hA [1] [0, 2] (by decide +kernel) rfl rfl (fun _ => rfl) rfl rfl ⟨Nat.le_of_ble_eq_true rfl, Nat.le_of_ble_eq_true rfl⟩ rfl hl.1 rfl (Nat.le_of_ble_eq_true rfl) dX7_rests_18 ⟨Nat.le_of_ble_eq_true rfl, Nat.le_of_ble_eq_true rfl⟩ ?_
    intro u_18 H locs hg hP hD hS
    refine lv_pop hx hb dX7_rests_21 rfl ?_
    refine lv_iconst (v := (0 : Int32)) hx hb dX7_rests_22 (by decide) ?_
    refine lv_istore_n (lv' := [(3, .int (0 : Int32)), (2, .int (0 : Int32)), (0, .ref h), (1, .int p1)]) hx hb dX7_rests_23 rfl hl (by decide) rfl (fun ls hl => ?_)
    exact L24 F (0 : Int32) (0 : Int32) u_18 f_told_numbers _ _ _ hg (subP hP [0, 2, 1] rfl) (hD.sub [0, 2, 1] (nd2_ok _ (by decide +kernel)) rfl) hS (lv_sub hl [2, 3, 1, 0] rfl)
  have hg := hg.2 c_7
  refine lv_iconst (v := (-1 : Int32)) hx hb dX7_rests_10 (by decide) ?_
  exact k_iret C0 hr (x_told_size, f_told_numbers) hg hP hD hS dX7_rests_11
theorem dX7_law_0 : decode cX7_law 0 = .ok (.aload_n 0, 1) := by decide +kernel
theorem dX7_law_1 : decode cX7_law 1 = .ok (.invokevirtual 128, 3) := by decide +kernel
theorem dX7_law_4 : decode cX7_law 4 = .ok (.istore_n 1, 1) := by decide +kernel
theorem dX7_law_5 : decode cX7_law 5 = .ok (.iload_n 1, 1) := by decide +kernel
theorem dX7_law_6 : decode cX7_law 6 = .ok (.iconst (-1), 1) := by decide +kernel
theorem dX7_law_7 : decode cX7_law 7 = .ok (.if_icmp .eq 9, 3) := by decide +kernel
theorem dX7_law_10 : decode cX7_law 10 = .ok (.sipush (-10000), 3) := by decide +kernel
theorem dX7_law_13 : decode cX7_law 13 = .ok (.iload_n 1, 1) := by decide +kernel
theorem dX7_law_14 : decode cX7_law 14 = .ok (.isub, 1) := by decide +kernel
theorem dX7_law_15 : decode cX7_law 15 = .ok (.ireturn, 1) := by decide +kernel
theorem dX7_law_16 : decode cX7_law 16 = .ok (.aload_n 0, 1) := by decide +kernel
theorem dX7_law_17 : decode cX7_law 17 = .ok (.bipush 10, 2) := by decide +kernel
theorem dX7_law_19 : decode cX7_law 19 = .ok (.invokevirtual 293, 3) := by decide +kernel
theorem dX7_law_22 : decode cX7_law 22 = .ok (.istore_n 2, 1) := by decide +kernel
theorem dX7_law_23 : decode cX7_law 23 = .ok (.aload_n 0, 1) := by decide +kernel
theorem dX7_law_24 : decode cX7_law 24 = .ok (.getfield 33, 3) := by decide +kernel
theorem dX7_law_27 : decode cX7_law 27 = .ok (.aload_n 0, 1) := by decide +kernel
theorem dX7_law_28 : decode cX7_law 28 = .ok (.getfield 26, 3) := by decide +kernel
theorem dX7_law_31 : decode cX7_law 31 = .ok (.invokevirtual 191, 3) := by decide +kernel
theorem dX7_law_34 : decode cX7_law 34 = .ok (.aload_n 0, 1) := by decide +kernel
theorem dX7_law_35 : decode cX7_law 35 = .ok (.getfield 33, 3) := by decide +kernel
theorem dX7_law_38 : decode cX7_law 38 = .ok (.aload_n 0, 1) := by decide +kernel
theorem dX7_law_39 : decode cX7_law 39 = .ok (.getfield 87, 3) := by decide +kernel
theorem dX7_law_42 : decode cX7_law 42 = .ok (.bipush 10, 2) := by decide +kernel
theorem dX7_law_44 : decode cX7_law 44 = .ok (.invokevirtual 195, 3) := by decide +kernel
theorem dX7_law_47 : decode cX7_law 47 = .ok (.pop, 1) := by decide +kernel
theorem dX7_law_48 : decode cX7_law 48 = .ok (.aload_n 0, 1) := by decide +kernel
theorem dX7_law_49 : decode cX7_law 49 = .ok (.getfield 33, 3) := by decide +kernel
theorem dX7_law_52 : decode cX7_law 52 = .ok (.invokevirtual 211, 3) := by decide +kernel
theorem dX7_law_55 : decode cX7_law 55 = .ok (.istore_n 3, 1) := by decide +kernel
theorem dX7_law_56 : decode cX7_law 56 = .ok (.aload_n 0, 1) := by decide +kernel
theorem dX7_law_57 : decode cX7_law 57 = .ok (.getfield 19, 3) := by decide +kernel
theorem dX7_law_60 : decode cX7_law 60 = .ok (.invokevirtual 201, 3) := by decide +kernel
theorem dX7_law_63 : decode cX7_law 63 = .ok (.iload_n 3, 1) := by decide +kernel
theorem dX7_law_64 : decode cX7_law 64 = .ok (.i2l, 1) := by decide +kernel
theorem dX7_law_65 : decode cX7_law 65 = .ok (.invokevirtual 205, 3) := by decide +kernel
theorem dX7_law_68 : decode cX7_law 68 = .ok (.iload_n 2, 1) := by decide +kernel
theorem dX7_law_69 : decode cX7_law 69 = .ok (.i2l, 1) := by decide +kernel
theorem dX7_law_70 : decode cX7_law 70 = .ok (.invokevirtual 205, 3) := by decide +kernel
theorem dX7_law_73 : decode cX7_law 73 = .ok (.pop, 1) := by decide +kernel
theorem dX7_law_74 : decode cX7_law 74 = .ok (.iconst 0, 1) := by decide +kernel
theorem dX7_law_75 : decode cX7_law 75 = .ok (.istore 4, 2) := by decide +kernel
theorem dX7_law_77 : decode cX7_law 77 = .ok (.iload 4, 2) := by decide +kernel
theorem dX7_law_79 : decode cX7_law 79 = .ok (.aload_n 0, 1) := by decide +kernel
theorem dX7_law_80 : decode cX7_law 80 = .ok (.getfield 26, 3) := by decide +kernel
theorem dX7_law_83 : decode cX7_law 83 = .ok (.getfield 98, 3) := by decide +kernel
theorem dX7_law_86 : decode cX7_law 86 = .ok (.if_icmp .ge 31, 3) := by decide +kernel
theorem dX7_law_89 : decode cX7_law 89 = .ok (.aload_n 0, 1) := by decide +kernel
theorem dX7_law_90 : decode cX7_law 90 = .ok (.getfield 19, 3) := by decide +kernel
theorem dX7_law_93 : decode cX7_law 93 = .ok (.aload_n 0, 1) := by decide +kernel
theorem dX7_law_94 : decode cX7_law 94 = .ok (.getfield 26, 3) := by decide +kernel
theorem dX7_law_97 : decode cX7_law 97 = .ok (.aload_n 0, 1) := by decide +kernel
theorem dX7_law_98 : decode cX7_law 98 = .ok (.getfield 87, 3) := by decide +kernel
theorem dX7_law_101 : decode cX7_law 101 = .ok (.iload 4, 2) := by decide +kernel
theorem dX7_law_103 : decode cX7_law 103 = .ok (.invokevirtual 149, 3) := by decide +kernel
theorem dX7_law_106 : decode cX7_law 106 = .ok (.i2l, 1) := by decide +kernel
theorem dX7_law_107 : decode cX7_law 107 = .ok (.invokevirtual 205, 3) := by decide +kernel
theorem dX7_law_110 : decode cX7_law 110 = .ok (.pop, 1) := by decide +kernel
theorem dX7_law_111 : decode cX7_law 111 = .ok (.iinc 4 1, 3) := by decide +kernel
theorem dX7_law_114 : decode cX7_law 114 = .ok (.goto (-37), 3) := by decide +kernel
theorem dX7_law_117 : decode cX7_law 117 = .ok (.iload_n 3, 1) := by decide +kernel
theorem dX7_law_118 : decode cX7_law 118 = .ok (.iload_n 2, 1) := by decide +kernel
theorem dX7_law_119 : decode cX7_law 119 = .ok (.isub, 1) := by decide +kernel
theorem dX7_law_120 : decode cX7_law 120 = .ok (.ireturn, 1) := by decide +kernel
noncomputable def p_X7_law_77 (F : Nat) (x_now_arches : Int32) (x_now_cats : Int32) (x_now_hour : Int32) (f_now_load : Nat → Int32) (f_now_sag : Nat → Int32) (f_now_joy : Nat → Int32) (f_now_bowl : Nat → Int32) (f_now_grief : Nat → Int32) (f_now_place : Nat → Int32) (u_1 : (Int32 × Int32 × Int32 × Int32 × Int32 × Int32 × Int32 × (Nat → Int32) × (Nat → Int32))) (r_19 : Int32) (u_19 : (Int32 × Int32 × Int32 × Int32 × Int32 × (Nat → Int32) × (Nat → Int32) × (Nat → Int32) × (Nat → Int32) × (Nat → Int32) × (Nat → Int32) × Int32 × (Nat → Int32))) (u_31 : (Int32 × Int32 × Int32 × Int32 × Int32 × (Nat → Int32) × (Nat → Int32) × (Nat → Int32) × (Nat → Int32) × (Nat → Int32) × (Nat → Int32))) (u_44 : (Int32 × Int32 × Int32 × (Nat → Int32) × (Nat → Int32) × (Nat → Int32) × (Nat → Int32) × (Nat → Int32))) (r_52 : Int32) (Post : Int32 → (Int32 × Int32 × Int32 × Int32 × Int32 × Int32 × Int32 × (Nat → Int32) × (Nat → Int32) × Int32 × Int32 × Int32 × Int32 × Int32 × Int32 × (Nat → Int32) × (Nat → Int32) × (Nat → Int32) × (Nat → Int32) × (Nat → Int32) × (Nat → Int32) × (Nat → Int32) × Int32 × (Nat → Int64)) → Prop) (n : Nat) : Int32 → Int32 → (Nat → Int32) → Int32 → (Nat → Int64) → Prop := Nat.rec (motive := fun _ => Int32 → Int32 → (Nat → Int32) → Int32 → (Nat → Int64) → Prop) (fun _ _ _ _ _ => False) (fun _ k77 => fun (y4_77 : Int32) (x_spare_top_77 : Int32) (f_spare_stack_77 : Nat → Int32) (x_told_size_77 : Int32) (f_told_numbers_77 : Nat → Int64) => ((x_now_arches ≤ y4_77 → (Post (r_52 - r_19) (u_1.1, x_spare_top_77, u_1.2.2.1, u_1.2.2.2.1, u_1.2.2.2.2.1, u_1.2.2.2.2.2.1, u_1.2.2.2.2.2.2.1, u_1.2.2.2.2.2.2.2.1, f_spare_stack_77, u_31.1, u_31.2.1, u_31.2.2.1, u_44.1, u_44.2.1, u_19.2.2.2.2.2.2.2.2.2.2.2.1, u_31.2.2.2.2.2.1, u_44.2.2.2.2.1, u_44.2.2.2.2.2.1, u_44.2.2.2.2.2.2.2, u_44.2.2.2.2.2.2.1, u_31.2.2.2.2.2.2.2.2.2.2, u_19.2.2.2.2.2.2.2.2.2.2.2.2, x_told_size_77, f_told_numbers_77))) ∧ (¬ x_now_arches ≤ y4_77 → (p_X6_holdOf F y4_77 x_now_arches x_now_cats x_now_hour f_now_place u_1.1 x_spare_top_77 u_1.2.2.2.2.2.2.2.1 f_spare_stack_77 f_now_sag f_now_load f_now_joy f_now_grief f_now_bowl (fun (r_103 : Int32) (u_103 : (Int32 × (Nat → Int32))) => (p_X3_add F (r_103.toInt64) x_told_size_77 f_told_numbers_77 (fun (u_107 : (Int32 × (Nat → Int64))) => (k77 (y4_77 + (1 : Int32)) u_103.1 u_103.2 u_107.1 u_107.2)))))))) n
theorem p_X7_law_77_s (F : Nat) (x_now_arches : Int32) (x_now_cats : Int32) (x_now_hour : Int32) (f_now_load : Nat → Int32) (f_now_sag : Nat → Int32) (f_now_joy : Nat → Int32) (f_now_bowl : Nat → Int32) (f_now_grief : Nat → Int32) (f_now_place : Nat → Int32) (u_1 : (Int32 × Int32 × Int32 × Int32 × Int32 × Int32 × Int32 × (Nat → Int32) × (Nat → Int32))) (r_19 : Int32) (u_19 : (Int32 × Int32 × Int32 × Int32 × Int32 × (Nat → Int32) × (Nat → Int32) × (Nat → Int32) × (Nat → Int32) × (Nat → Int32) × (Nat → Int32) × Int32 × (Nat → Int32))) (u_31 : (Int32 × Int32 × Int32 × Int32 × Int32 × (Nat → Int32) × (Nat → Int32) × (Nat → Int32) × (Nat → Int32) × (Nat → Int32) × (Nat → Int32))) (u_44 : (Int32 × Int32 × Int32 × (Nat → Int32) × (Nat → Int32) × (Nat → Int32) × (Nat → Int32) × (Nat → Int32))) (r_52 : Int32) (Post : Int32 → (Int32 × Int32 × Int32 × Int32 × Int32 × Int32 × Int32 × (Nat → Int32) × (Nat → Int32) × Int32 × Int32 × Int32 × Int32 × Int32 × Int32 × (Nat → Int32) × (Nat → Int32) × (Nat → Int32) × (Nat → Int32) × (Nat → Int32) × (Nat → Int32) × (Nat → Int32) × Int32 × (Nat → Int64)) → Prop) (n : Nat) (y4_77 : Int32) (x_spare_top_77 : Int32) (f_spare_stack_77 : Nat → Int32) (x_told_size_77 : Int32) (f_told_numbers_77 : Nat → Int64) : p_X7_law_77 F x_now_arches x_now_cats x_now_hour f_now_load f_now_sag f_now_joy f_now_bowl f_now_grief f_now_place u_1 r_19 u_19 u_31 u_44 r_52 Post (n + 1) y4_77 x_spare_top_77 f_spare_stack_77 x_told_size_77 f_told_numbers_77 = ((x_now_arches ≤ y4_77 → (Post (r_52 - r_19) (u_1.1, x_spare_top_77, u_1.2.2.1, u_1.2.2.2.1, u_1.2.2.2.2.1, u_1.2.2.2.2.2.1, u_1.2.2.2.2.2.2.1, u_1.2.2.2.2.2.2.2.1, f_spare_stack_77, u_31.1, u_31.2.1, u_31.2.2.1, u_44.1, u_44.2.1, u_19.2.2.2.2.2.2.2.2.2.2.2.1, u_31.2.2.2.2.2.1, u_44.2.2.2.2.1, u_44.2.2.2.2.2.1, u_44.2.2.2.2.2.2.2, u_44.2.2.2.2.2.2.1, u_31.2.2.2.2.2.2.2.2.2.2, u_19.2.2.2.2.2.2.2.2.2.2.2.2, x_told_size_77, f_told_numbers_77))) ∧ (¬ x_now_arches ≤ y4_77 → (p_X6_holdOf F y4_77 x_now_arches x_now_cats x_now_hour f_now_place u_1.1 x_spare_top_77 u_1.2.2.2.2.2.2.2.1 f_spare_stack_77 f_now_sag f_now_load f_now_joy f_now_grief f_now_bowl (fun (r_103 : Int32) (u_103 : (Int32 × (Nat → Int32))) => (p_X3_add F (r_103.toInt64) x_told_size_77 f_told_numbers_77 (fun (u_107 : (Int32 × (Nat → Int64))) => ((p_X7_law_77 F x_now_arches x_now_cats x_now_hour f_now_load f_now_sag f_now_joy f_now_bowl f_now_grief f_now_place u_1 r_19 u_19 u_31 u_44 r_52 Post n) (y4_77 + (1 : Int32)) u_103.1 u_103.2 u_107.1 u_107.2))))))) := rfl
def p_X7_law (F : Nat) (x_text_length : Int32) (f_spare_steps : Nat → Int32) (f_text_signs : Nat → Int32) (f_spare_stack : Nat → Int32) (x_now_arches : Int32) (x_now_cats : Int32) (x_now_store : Int32) (x_now_hour : Int32) (x_now_drops : Int32) (x_trial_arches : Int32) (x_trial_cats : Int32) (x_trial_store : Int32) (x_trial_hour : Int32) (x_trial_drops : Int32) (x_ruling_size : Int32) (x_ruling_top : Int32) (f_now_load : Nat → Int32) (f_trial_load : Nat → Int32) (f_now_sag : Nat → Int32) (f_trial_sag : Nat → Int32) (f_now_joy : Nat → Int32) (f_trial_joy : Nat → Int32) (f_now_bowl : Nat → Int32) (f_trial_bowl : Nat → Int32) (f_now_grief : Nat → Int32) (f_trial_grief : Nat → Int32) (f_now_place : Nat → Int32) (f_trial_place : Nat → Int32) (f_ruling_steps : Nat → Int32) (f_ruling_stack : Nat → Int32) (x_told_size : Int32) (f_told_numbers : Nat → Int64) (Post : Int32 → (Int32 × Int32 × Int32 × Int32 × Int32 × Int32 × Int32 × (Nat → Int32) × (Nat → Int32) × Int32 × Int32 × Int32 × Int32 × Int32 × Int32 × (Nat → Int32) × (Nat → Int32) × (Nat → Int32) × (Nat → Int32) × (Nat → Int32) × (Nat → Int32) × (Nat → Int32) × Int32 × (Nat → Int64)) → Prop) : Prop := (p_X7_readSpare F x_text_length f_spare_steps f_text_signs f_spare_stack (fun (r_1 : Int32) (u_1 : (Int32 × Int32 × Int32 × Int32 × Int32 × Int32 × Int32 × (Nat → Int32) × (Nat → Int32))) => ((r_1 = (-1 : Int32) → (p_X7_sagsIn F (10 : Int32) x_now_arches x_now_cats x_now_store x_now_hour x_now_drops f_now_load f_trial_load f_now_sag f_trial_sag f_now_joy f_trial_joy f_now_bowl f_trial_bowl f_now_grief f_trial_grief f_now_place f_trial_place x_ruling_size x_ruling_top f_ruling_steps f_ruling_stack (fun (r_19 : Int32) (u_19 : (Int32 × Int32 × Int32 × Int32 × Int32 × (Nat → Int32) × (Nat → Int32) × (Nat → Int32) × (Nat → Int32) × (Nat → Int32) × (Nat → Int32) × Int32 × (Nat → Int32))) => (p_X6_become F x_now_arches x_now_cats x_now_store x_now_hour x_now_drops f_now_load u_19.2.2.2.2.2.1 f_now_sag u_19.2.2.2.2.2.2.1 f_now_joy u_19.2.2.2.2.2.2.2.1 f_now_bowl u_19.2.2.2.2.2.2.2.2.1 f_now_grief u_19.2.2.2.2.2.2.2.2.2.1 f_now_place u_19.2.2.2.2.2.2.2.2.2.2.1 (fun (u_31 : (Int32 × Int32 × Int32 × Int32 × Int32 × (Nat → Int32) × (Nat → Int32) × (Nat → Int32) × (Nat → Int32) × (Nat → Int32) × (Nat → Int32))) => (p_X6_passHours F (10 : Int32) u_31.1 u_31.2.1 u_31.2.2.2.1 u_31.2.2.2.2.1 u_1.1 u_1.2.1 u_31.2.2.2.2.2.1 u_31.2.2.2.2.2.2.2.2.2.2 u_1.2.2.2.2.2.2.2.1 u_1.2.2.2.2.2.2.2.2 u_31.2.2.2.2.2.2.1 u_31.2.2.2.2.2.2.2.1 u_31.2.2.2.2.2.2.2.2.2.1 u_31.2.2.2.2.2.2.2.2.1 (fun (r_44 : Int32) (u_44 : (Int32 × Int32 × Int32 × (Nat → Int32) × (Nat → Int32) × (Nat → Int32) × (Nat → Int32) × (Nat → Int32))) => (p_X6_allSags F u_31.1 u_44.2.2.2.2.1 (fun (r_52 : Int32) => (p_X3_anew F (fun (u_60 : Int32) => (p_X3_add F (r_52.toInt64) u_60 f_told_numbers (fun (u_65 : (Int32 × (Nat → Int64))) => (p_X3_add F (r_19.toInt64) u_65.1 u_65.2 (fun (u_70 : (Int32 × (Nat → Int64))) => (p_X7_law_77 F x_now_arches x_now_cats x_now_hour f_now_load f_now_sag f_now_joy f_now_bowl f_now_grief f_now_place u_1 r_19 u_19 u_31 u_44 r_52 Post F (0 : Int32) u_44.2.2.1 u_44.2.2.2.1 u_70.1 u_70.2)))))))))))))))) ∧ (¬ r_1 = (-1 : Int32) → (Post ((-10000 : Int32) - r_1) (u_1.1, u_1.2.1, u_1.2.2.1, u_1.2.2.2.1, u_1.2.2.2.2.1, u_1.2.2.2.2.2.1, u_1.2.2.2.2.2.2.1, u_1.2.2.2.2.2.2.2.1, u_1.2.2.2.2.2.2.2.2, x_trial_arches, x_trial_cats, x_trial_store, x_trial_hour, x_trial_drops, x_ruling_top, f_trial_load, f_trial_sag, f_trial_joy, f_trial_bowl, f_trial_grief, f_trial_place, f_ruling_stack, x_told_size, f_told_numbers))))))
set_option maxHeartbeats 4000000 in
set_option maxRecDepth 100000 in
theorem c_X7_law (l : Launch) (D : va_G) (cT : Nat → ClassId) (F : Nat) (h : Nat) (q_text : Nat) (q_told : Nat) (q_now : Nat) (w_before : Value) (q_trial : Nat) (w_past : Value) (w_kept : Value) (w_feltNotes : Value) (w_heardNotes : Value) (w_draws : Value) (w_purrs : Value) (w_alone : Value) (w_nimbers : Value) (w_ways : Value) (q_ruling : Nat) (q_spare : Nat) (q_spare_steps : Nat) (q_spare_stack : Nat) (x_spare_size : Int32) (x_spare_top : Int32) (x_spare_open : Int32) (x_spare_compared : Int32) (x_spare_digits : Int32) (x_spare_wantsThing : Int32) (q_text_signs : Nat) (x_text_length : Int32) (f_spare_steps : Nat → Int32) (f_text_signs : Nat → Int32) (f_spare_stack : Nat → Int32) (q_now_load : Nat) (q_now_sag : Nat) (q_now_joy : Nat) (q_now_bowl : Nat) (q_now_grief : Nat) (q_now_place : Nat) (x_now_arches : Int32) (x_now_cats : Int32) (x_now_store : Int32) (x_now_hour : Int32) (x_now_drops : Int32) (q_trial_load : Nat) (q_trial_sag : Nat) (q_trial_joy : Nat) (q_trial_bowl : Nat) (q_trial_grief : Nat) (q_trial_place : Nat) (x_trial_arches : Int32) (x_trial_cats : Int32) (x_trial_store : Int32) (x_trial_hour : Int32) (x_trial_drops : Int32) (q_ruling_steps : Nat) (q_ruling_stack : Nat) (x_ruling_size : Int32) (x_ruling_top : Int32) (x_ruling_open : Int32) (x_ruling_compared : Int32) (x_ruling_digits : Int32) (x_ruling_wantsThing : Int32) (f_now_load : Nat → Int32) (f_trial_load : Nat → Int32) (f_now_sag : Nat → Int32) (f_trial_sag : Nat → Int32) (f_now_joy : Nat → Int32) (f_trial_joy : Nat → Int32) (f_now_bowl : Nat → Int32) (f_trial_bowl : Nat → Int32) (f_now_grief : Nat → Int32) (f_trial_grief : Nat → Int32) (f_now_place : Nat → Int32) (f_trial_place : Nat → Int32) (f_ruling_steps : Nat → Int32) (f_ruling_stack : Nat → Int32) (q_told_numbers : Nat) (x_told_size : Int32) (f_told_numbers : Nat → Int64) (Post : Int32 → (Int32 × Int32 × Int32 × Int32 × Int32 × Int32 × Int32 × (Nat → Int32) × (Nat → Int32) × Int32 × Int32 × Int32 × Int32 × Int32 × Int32 × (Nat → Int32) × (Nat → Int32) × (Nat → Int32) × (Nat → Int32) × (Nat → Int32) × (Nat → Int32) × (Nat → Int32) × Int32 × (Nat → Int64)) → Prop) (hg : p_X7_law F x_text_length f_spare_steps f_text_signs f_spare_stack x_now_arches x_now_cats x_now_store x_now_hour x_now_drops x_trial_arches x_trial_cats x_trial_store x_trial_hour x_trial_drops x_ruling_size x_ruling_top f_now_load f_trial_load f_now_sag f_trial_sag f_now_joy f_trial_joy f_now_bowl f_trial_bowl f_now_grief f_trial_grief f_now_place f_trial_place f_ruling_steps f_ruling_stack x_told_size f_told_numbers Post) : MWi l D cT yX7_law cX7_law 5 (some .int) 7 172 0 0 [.ref h] [(h, oX7 (.ref q_text) (.ref q_told) (.ref q_now) w_before (.ref q_trial) w_past w_kept w_feltNotes w_heardNotes w_draws w_purrs w_alone w_nimbers w_ways (.ref q_ruling) (.ref q_spare)), (q_spare, oX4 (.ref q_spare_steps) (.ref q_spare_stack) (.int x_spare_size) (.int x_spare_top) (.int x_spare_open) (.int x_spare_compared) (.int x_spare_digits) (.int x_spare_wantsThing)), (q_text, oX5 (.ref q_text_signs) (.int x_text_length)), (q_spare_steps, aI cT 40 f_spare_steps), (q_text_signs, aC cT 80 f_text_signs), (q_spare_stack, aI cT 40 f_spare_stack), (q_now, oX6 (.ref q_now_load) (.ref q_now_sag) (.ref q_now_joy) (.ref q_now_bowl) (.ref q_now_grief) (.ref q_now_place) (.int x_now_arches) (.int x_now_cats) (.int x_now_store) (.int x_now_hour) (.int x_now_drops)), (q_trial, oX6 (.ref q_trial_load) (.ref q_trial_sag) (.ref q_trial_joy) (.ref q_trial_bowl) (.ref q_trial_grief) (.ref q_trial_place) (.int x_trial_arches) (.int x_trial_cats) (.int x_trial_store) (.int x_trial_hour) (.int x_trial_drops)), (q_ruling, oX4 (.ref q_ruling_steps) (.ref q_ruling_stack) (.int x_ruling_size) (.int x_ruling_top) (.int x_ruling_open) (.int x_ruling_compared) (.int x_ruling_digits) (.int x_ruling_wantsThing)), (q_now_load, aI cT 6 f_now_load), (q_trial_load, aI cT 6 f_trial_load), (q_now_sag, aI cT 6 f_now_sag), (q_trial_sag, aI cT 6 f_trial_sag), (q_now_joy, aI cT 8 f_now_joy), (q_trial_joy, aI cT 8 f_trial_joy), (q_now_bowl, aI cT 8 f_now_bowl), (q_trial_bowl, aI cT 8 f_trial_bowl), (q_now_grief, aI cT 8 f_now_grief), (q_trial_grief, aI cT 8 f_trial_grief), (q_now_place, aI cT 8 f_now_place), (q_trial_place, aI cT 8 f_trial_place), (q_ruling_steps, aI cT 40 f_ruling_steps), (q_ruling_stack, aI cT 40 f_ruling_stack), (q_told, oX3 (.ref q_told_numbers) (.int x_told_size)), (q_told_numbers, aJ cT 8 f_told_numbers)] Post (fun (u : (Int32 × Int32 × Int32 × Int32 × Int32 × Int32 × Int32 × (Nat → Int32) × (Nat → Int32) × Int32 × Int32 × Int32 × Int32 × Int32 × Int32 × (Nat → Int32) × (Nat → Int32) × (Nat → Int32) × (Nat → Int32) × (Nat → Int32) × (Nat → Int32) × (Nat → Int32) × Int32 × (Nat → Int64))) => [(h, oX7 (.ref q_text) (.ref q_told) (.ref q_now) w_before (.ref q_trial) w_past w_kept w_feltNotes w_heardNotes w_draws w_purrs w_alone w_nimbers w_ways (.ref q_ruling) (.ref q_spare)), (q_spare, oX4 (.ref q_spare_steps) (.ref q_spare_stack) (.int u.1) (.int u.2.1) (.int u.2.2.1) (.int u.2.2.2.1) (.int u.2.2.2.2.1) (.int u.2.2.2.2.2.1)), (q_text, oX5 (.ref q_text_signs) (.int u.2.2.2.2.2.2.1)), (q_spare_steps, aI cT 40 u.2.2.2.2.2.2.2.1), (q_text_signs, aC cT 80 f_text_signs), (q_spare_stack, aI cT 40 u.2.2.2.2.2.2.2.2.1), (q_now, oX6 (.ref q_now_load) (.ref q_now_sag) (.ref q_now_joy) (.ref q_now_bowl) (.ref q_now_grief) (.ref q_now_place) (.int x_now_arches) (.int x_now_cats) (.int x_now_store) (.int x_now_hour) (.int x_now_drops)), (q_trial, oX6 (.ref q_trial_load) (.ref q_trial_sag) (.ref q_trial_joy) (.ref q_trial_bowl) (.ref q_trial_grief) (.ref q_trial_place) (.int u.2.2.2.2.2.2.2.2.2.1) (.int u.2.2.2.2.2.2.2.2.2.2.1) (.int u.2.2.2.2.2.2.2.2.2.2.2.1) (.int u.2.2.2.2.2.2.2.2.2.2.2.2.1) (.int u.2.2.2.2.2.2.2.2.2.2.2.2.2.1)), (q_ruling, oX4 (.ref q_ruling_steps) (.ref q_ruling_stack) (.int x_ruling_size) (.int u.2.2.2.2.2.2.2.2.2.2.2.2.2.2.1) (.int x_ruling_open) (.int x_ruling_compared) (.int x_ruling_digits) (.int x_ruling_wantsThing)), (q_now_load, aI cT 6 f_now_load), (q_trial_load, aI cT 6 u.2.2.2.2.2.2.2.2.2.2.2.2.2.2.2.1), (q_now_sag, aI cT 6 f_now_sag), (q_trial_sag, aI cT 6 u.2.2.2.2.2.2.2.2.2.2.2.2.2.2.2.2.1), (q_now_joy, aI cT 8 f_now_joy), (q_trial_joy, aI cT 8 u.2.2.2.2.2.2.2.2.2.2.2.2.2.2.2.2.2.1), (q_now_bowl, aI cT 8 f_now_bowl), (q_trial_bowl, aI cT 8 u.2.2.2.2.2.2.2.2.2.2.2.2.2.2.2.2.2.2.1), (q_now_grief, aI cT 8 f_now_grief), (q_trial_grief, aI cT 8 u.2.2.2.2.2.2.2.2.2.2.2.2.2.2.2.2.2.2.2.1), (q_now_place, aI cT 8 f_now_place), (q_trial_place, aI cT 8 u.2.2.2.2.2.2.2.2.2.2.2.2.2.2.2.2.2.2.2.2.1), (q_ruling_steps, aI cT 40 f_ruling_steps), (q_ruling_stack, aI cT 40 u.2.2.2.2.2.2.2.2.2.2.2.2.2.2.2.2.2.2.2.2.2.1), (q_told, oX3 (.ref q_told_numbers) (.int u.2.2.2.2.2.2.2.2.2.2.2.2.2.2.2.2.2.2.2.2.2.2.1)), (q_told_numbers, aJ cT 8 u.2.2.2.2.2.2.2.2.2.2.2.2.2.2.2.2.2.2.2.2.2.2.2)]) := by
  refine MWi.of (by decide) (Nat.le_of_ble_eq_true rfl) ?_
  intro p e s m below meth c A hA C0 hnm hr hP hD ls hl
  have hl : lv_has ls 5 [(0, .ref h)] := hl
  have hx := C0.x
  have hb := C0.b
  have hS : va_S A s.heap s.heap [] := va_S.rf
  have hP : va_P D cls9 [(h, oX7 (.ref q_text) (.ref q_told) (.ref q_now) w_before (.ref q_trial) w_past w_kept w_feltNotes w_heardNotes w_draws w_purrs w_alone w_nimbers w_ways (.ref q_ruling) (.ref q_spare)), (q_spare, oX4 (.ref q_spare_steps) (.ref q_spare_stack) (.int x_spare_size) (.int x_spare_top) (.int x_spare_open) (.int x_spare_compared) (.int x_spare_digits) (.int x_spare_wantsThing)), (q_text, oX5 (.ref q_text_signs) (.int x_text_length)), (q_spare_steps, aI cT 40 f_spare_steps), (q_text_signs, aC cT 80 f_text_signs), (q_spare_stack, aI cT 40 f_spare_stack), (q_now, oX6 (.ref q_now_load) (.ref q_now_sag) (.ref q_now_joy) (.ref q_now_bowl) (.ref q_now_grief) (.ref q_now_place) (.int x_now_arches) (.int x_now_cats) (.int x_now_store) (.int x_now_hour) (.int x_now_drops)), (q_trial, oX6 (.ref q_trial_load) (.ref q_trial_sag) (.ref q_trial_joy) (.ref q_trial_bowl) (.ref q_trial_grief) (.ref q_trial_place) (.int x_trial_arches) (.int x_trial_cats) (.int x_trial_store) (.int x_trial_hour) (.int x_trial_drops)), (q_ruling, oX4 (.ref q_ruling_steps) (.ref q_ruling_stack) (.int x_ruling_size) (.int x_ruling_top) (.int x_ruling_open) (.int x_ruling_compared) (.int x_ruling_digits) (.int x_ruling_wantsThing)), (q_now_load, aI cT 6 f_now_load), (q_trial_load, aI cT 6 f_trial_load), (q_now_sag, aI cT 6 f_now_sag), (q_trial_sag, aI cT 6 f_trial_sag), (q_now_joy, aI cT 8 f_now_joy), (q_trial_joy, aI cT 8 f_trial_joy), (q_now_bowl, aI cT 8 f_now_bowl), (q_trial_bowl, aI cT 8 f_trial_bowl), (q_now_grief, aI cT 8 f_now_grief), (q_trial_grief, aI cT 8 f_trial_grief), (q_now_place, aI cT 8 f_now_place), (q_trial_place, aI cT 8 f_trial_place), (q_ruling_steps, aI cT 40 f_ruling_steps), (q_ruling_stack, aI cT 40 f_ruling_stack), (q_told, oX3 (.ref q_told_numbers) (.int x_told_size)), (q_told_numbers, aJ cT 8 f_told_numbers)] s.heap := hP
  have hD : va_D A [(h, oX7 (.ref q_text) (.ref q_told) (.ref q_now) w_before (.ref q_trial) w_past w_kept w_feltNotes w_heardNotes w_draws w_purrs w_alone w_nimbers w_ways (.ref q_ruling) (.ref q_spare)), (q_spare, oX4 (.ref q_spare_steps) (.ref q_spare_stack) (.int x_spare_size) (.int x_spare_top) (.int x_spare_open) (.int x_spare_compared) (.int x_spare_digits) (.int x_spare_wantsThing)), (q_text, oX5 (.ref q_text_signs) (.int x_text_length)), (q_spare_steps, aI cT 40 f_spare_steps), (q_text_signs, aC cT 80 f_text_signs), (q_spare_stack, aI cT 40 f_spare_stack), (q_now, oX6 (.ref q_now_load) (.ref q_now_sag) (.ref q_now_joy) (.ref q_now_bowl) (.ref q_now_grief) (.ref q_now_place) (.int x_now_arches) (.int x_now_cats) (.int x_now_store) (.int x_now_hour) (.int x_now_drops)), (q_trial, oX6 (.ref q_trial_load) (.ref q_trial_sag) (.ref q_trial_joy) (.ref q_trial_bowl) (.ref q_trial_grief) (.ref q_trial_place) (.int x_trial_arches) (.int x_trial_cats) (.int x_trial_store) (.int x_trial_hour) (.int x_trial_drops)), (q_ruling, oX4 (.ref q_ruling_steps) (.ref q_ruling_stack) (.int x_ruling_size) (.int x_ruling_top) (.int x_ruling_open) (.int x_ruling_compared) (.int x_ruling_digits) (.int x_ruling_wantsThing)), (q_now_load, aI cT 6 f_now_load), (q_trial_load, aI cT 6 f_trial_load), (q_now_sag, aI cT 6 f_now_sag), (q_trial_sag, aI cT 6 f_trial_sag), (q_now_joy, aI cT 8 f_now_joy), (q_trial_joy, aI cT 8 f_trial_joy), (q_now_bowl, aI cT 8 f_now_bowl), (q_trial_bowl, aI cT 8 f_trial_bowl), (q_now_grief, aI cT 8 f_now_grief), (q_trial_grief, aI cT 8 f_trial_grief), (q_now_place, aI cT 8 f_now_place), (q_trial_place, aI cT 8 f_trial_place), (q_ruling_steps, aI cT 40 f_ruling_steps), (q_ruling_stack, aI cT 40 f_ruling_stack), (q_told, oX3 (.ref q_told_numbers) (.int x_told_size)), (q_told_numbers, aJ cT 8 f_told_numbers)] := hD
  have L77 : ∀ (u_1 : (Int32 × Int32 × Int32 × Int32 × Int32 × Int32 × Int32 × (Nat → Int32) × (Nat → Int32))) (r_19 : Int32) (u_19 : (Int32 × Int32 × Int32 × Int32 × Int32 × (Nat → Int32) × (Nat → Int32) × (Nat → Int32) × (Nat → Int32) × (Nat → Int32) × (Nat → Int32) × Int32 × (Nat → Int32))) (u_31 : (Int32 × Int32 × Int32 × Int32 × Int32 × (Nat → Int32) × (Nat → Int32) × (Nat → Int32) × (Nat → Int32) × (Nat → Int32) × (Nat → Int32))) (u_44 : (Int32 × Int32 × Int32 × (Nat → Int32) × (Nat → Int32) × (Nat → Int32) × (Nat → Int32) × (Nat → Int32))) (r_52 : Int32) (n77 : Nat) (y4_77 : Int32) (x_spare_top_77 : Int32) (f_spare_stack_77 : Nat → Int32) (x_told_size_77 : Int32) (f_told_numbers_77 : Nat → Int64) (H : Heap) (locs : List Loc) (ls : Array Slot), p_X7_law_77 F x_now_arches x_now_cats x_now_hour f_now_load f_now_sag f_now_joy f_now_bowl f_now_grief f_now_place u_1 r_19 u_19 u_31 u_44 r_52 Post n77 y4_77 x_spare_top_77 f_spare_stack_77 x_told_size_77 f_told_numbers_77 → va_P D cls9 [(h, oX7 (.ref q_text) (.ref q_told) (.ref q_now) w_before (.ref q_trial) w_past w_kept w_feltNotes w_heardNotes w_draws w_purrs w_alone w_nimbers w_ways (.ref q_ruling) (.ref q_spare)), (q_spare, oX4 (.ref q_spare_steps) (.ref q_spare_stack) (.int u_1.1) (.int x_spare_top_77) (.int u_1.2.2.1) (.int u_1.2.2.2.1) (.int u_1.2.2.2.2.1) (.int u_1.2.2.2.2.2.1)), (q_text, oX5 (.ref q_text_signs) (.int u_1.2.2.2.2.2.2.1)), (q_spare_steps, aI cT 40 u_1.2.2.2.2.2.2.2.1), (q_text_signs, aC cT 80 f_text_signs), (q_spare_stack, aI cT 40 f_spare_stack_77), (q_now, oX6 (.ref q_now_load) (.ref q_now_sag) (.ref q_now_joy) (.ref q_now_bowl) (.ref q_now_grief) (.ref q_now_place) (.int x_now_arches) (.int x_now_cats) (.int x_now_store) (.int x_now_hour) (.int x_now_drops)), (q_trial, oX6 (.ref q_trial_load) (.ref q_trial_sag) (.ref q_trial_joy) (.ref q_trial_bowl) (.ref q_trial_grief) (.ref q_trial_place) (.int u_31.1) (.int u_31.2.1) (.int u_31.2.2.1) (.int u_44.1) (.int u_44.2.1)), (q_ruling, oX4 (.ref q_ruling_steps) (.ref q_ruling_stack) (.int x_ruling_size) (.int u_19.2.2.2.2.2.2.2.2.2.2.2.1) (.int x_ruling_open) (.int x_ruling_compared) (.int x_ruling_digits) (.int x_ruling_wantsThing)), (q_now_load, aI cT 6 f_now_load), (q_trial_load, aI cT 6 u_31.2.2.2.2.2.1), (q_now_sag, aI cT 6 f_now_sag), (q_trial_sag, aI cT 6 u_44.2.2.2.2.1), (q_now_joy, aI cT 8 f_now_joy), (q_trial_joy, aI cT 8 u_44.2.2.2.2.2.1), (q_now_bowl, aI cT 8 f_now_bowl), (q_trial_bowl, aI cT 8 u_44.2.2.2.2.2.2.2), (q_now_grief, aI cT 8 f_now_grief), (q_trial_grief, aI cT 8 u_44.2.2.2.2.2.2.1), (q_now_place, aI cT 8 f_now_place), (q_trial_place, aI cT 8 u_31.2.2.2.2.2.2.2.2.2.2), (q_ruling_steps, aI cT 40 f_ruling_steps), (q_ruling_stack, aI cT 40 u_19.2.2.2.2.2.2.2.2.2.2.2.2), (q_told, oX3 (.ref q_told_numbers) (.int x_told_size_77)), (q_told_numbers, aJ cT 8 f_told_numbers_77)] H → va_D A [(h, oX7 (.ref q_text) (.ref q_told) (.ref q_now) w_before (.ref q_trial) w_past w_kept w_feltNotes w_heardNotes w_draws w_purrs w_alone w_nimbers w_ways (.ref q_ruling) (.ref q_spare)), (q_spare, oX4 (.ref q_spare_steps) (.ref q_spare_stack) (.int u_1.1) (.int x_spare_top_77) (.int u_1.2.2.1) (.int u_1.2.2.2.1) (.int u_1.2.2.2.2.1) (.int u_1.2.2.2.2.2.1)), (q_text, oX5 (.ref q_text_signs) (.int u_1.2.2.2.2.2.2.1)), (q_spare_steps, aI cT 40 u_1.2.2.2.2.2.2.2.1), (q_text_signs, aC cT 80 f_text_signs), (q_spare_stack, aI cT 40 f_spare_stack_77), (q_now, oX6 (.ref q_now_load) (.ref q_now_sag) (.ref q_now_joy) (.ref q_now_bowl) (.ref q_now_grief) (.ref q_now_place) (.int x_now_arches) (.int x_now_cats) (.int x_now_store) (.int x_now_hour) (.int x_now_drops)), (q_trial, oX6 (.ref q_trial_load) (.ref q_trial_sag) (.ref q_trial_joy) (.ref q_trial_bowl) (.ref q_trial_grief) (.ref q_trial_place) (.int u_31.1) (.int u_31.2.1) (.int u_31.2.2.1) (.int u_44.1) (.int u_44.2.1)), (q_ruling, oX4 (.ref q_ruling_steps) (.ref q_ruling_stack) (.int x_ruling_size) (.int u_19.2.2.2.2.2.2.2.2.2.2.2.1) (.int x_ruling_open) (.int x_ruling_compared) (.int x_ruling_digits) (.int x_ruling_wantsThing)), (q_now_load, aI cT 6 f_now_load), (q_trial_load, aI cT 6 u_31.2.2.2.2.2.1), (q_now_sag, aI cT 6 f_now_sag), (q_trial_sag, aI cT 6 u_44.2.2.2.2.1), (q_now_joy, aI cT 8 f_now_joy), (q_trial_joy, aI cT 8 u_44.2.2.2.2.2.1), (q_now_bowl, aI cT 8 f_now_bowl), (q_trial_bowl, aI cT 8 u_44.2.2.2.2.2.2.2), (q_now_grief, aI cT 8 f_now_grief), (q_trial_grief, aI cT 8 u_44.2.2.2.2.2.2.1), (q_now_place, aI cT 8 f_now_place), (q_trial_place, aI cT 8 u_31.2.2.2.2.2.2.2.2.2.2), (q_ruling_steps, aI cT 40 f_ruling_steps), (q_ruling_stack, aI cT 40 u_19.2.2.2.2.2.2.2.2.2.2.2.2), (q_told, oX3 (.ref q_told_numbers) (.int x_told_size_77)), (q_told_numbers, aJ cT 8 f_told_numbers_77)] → va_S A s.heap H locs → lv_has ls 5 [(0, .ref h), (2, .int r_19), (3, .int r_52), (4, .int y4_77)] → W p l e (rmO 7 172 0 0) s m ([.ref h] : List Value).toArray below meth c H locs 0 0 (MQ below (va_Qi Post (cB D A (fun (u : (Int32 × Int32 × Int32 × Int32 × Int32 × Int32 × Int32 × (Nat → Int32) × (Nat → Int32) × Int32 × Int32 × Int32 × Int32 × Int32 × Int32 × (Nat → Int32) × (Nat → Int32) × (Nat → Int32) × (Nat → Int32) × (Nat → Int32) × (Nat → Int32) × (Nat → Int32) × Int32 × (Nat → Int64))) => [(h, oX7 (.ref q_text) (.ref q_told) (.ref q_now) w_before (.ref q_trial) w_past w_kept w_feltNotes w_heardNotes w_draws w_purrs w_alone w_nimbers w_ways (.ref q_ruling) (.ref q_spare)), (q_spare, oX4 (.ref q_spare_steps) (.ref q_spare_stack) (.int u.1) (.int u.2.1) (.int u.2.2.1) (.int u.2.2.2.1) (.int u.2.2.2.2.1) (.int u.2.2.2.2.2.1)), (q_text, oX5 (.ref q_text_signs) (.int u.2.2.2.2.2.2.1)), (q_spare_steps, aI cT 40 u.2.2.2.2.2.2.2.1), (q_text_signs, aC cT 80 f_text_signs), (q_spare_stack, aI cT 40 u.2.2.2.2.2.2.2.2.1), (q_now, oX6 (.ref q_now_load) (.ref q_now_sag) (.ref q_now_joy) (.ref q_now_bowl) (.ref q_now_grief) (.ref q_now_place) (.int x_now_arches) (.int x_now_cats) (.int x_now_store) (.int x_now_hour) (.int x_now_drops)), (q_trial, oX6 (.ref q_trial_load) (.ref q_trial_sag) (.ref q_trial_joy) (.ref q_trial_bowl) (.ref q_trial_grief) (.ref q_trial_place) (.int u.2.2.2.2.2.2.2.2.2.1) (.int u.2.2.2.2.2.2.2.2.2.2.1) (.int u.2.2.2.2.2.2.2.2.2.2.2.1) (.int u.2.2.2.2.2.2.2.2.2.2.2.2.1) (.int u.2.2.2.2.2.2.2.2.2.2.2.2.2.1)), (q_ruling, oX4 (.ref q_ruling_steps) (.ref q_ruling_stack) (.int x_ruling_size) (.int u.2.2.2.2.2.2.2.2.2.2.2.2.2.2.1) (.int x_ruling_open) (.int x_ruling_compared) (.int x_ruling_digits) (.int x_ruling_wantsThing)), (q_now_load, aI cT 6 f_now_load), (q_trial_load, aI cT 6 u.2.2.2.2.2.2.2.2.2.2.2.2.2.2.2.1), (q_now_sag, aI cT 6 f_now_sag), (q_trial_sag, aI cT 6 u.2.2.2.2.2.2.2.2.2.2.2.2.2.2.2.2.1), (q_now_joy, aI cT 8 f_now_joy), (q_trial_joy, aI cT 8 u.2.2.2.2.2.2.2.2.2.2.2.2.2.2.2.2.2.1), (q_now_bowl, aI cT 8 f_now_bowl), (q_trial_bowl, aI cT 8 u.2.2.2.2.2.2.2.2.2.2.2.2.2.2.2.2.2.2.1), (q_now_grief, aI cT 8 f_now_grief), (q_trial_grief, aI cT 8 u.2.2.2.2.2.2.2.2.2.2.2.2.2.2.2.2.2.2.2.1), (q_now_place, aI cT 8 f_now_place), (q_trial_place, aI cT 8 u.2.2.2.2.2.2.2.2.2.2.2.2.2.2.2.2.2.2.2.2.1), (q_ruling_steps, aI cT 40 f_ruling_steps), (q_ruling_stack, aI cT 40 u.2.2.2.2.2.2.2.2.2.2.2.2.2.2.2.2.2.2.2.2.2.1), (q_told, oX3 (.ref q_told_numbers) (.int u.2.2.2.2.2.2.2.2.2.2.2.2.2.2.2.2.2.2.2.2.2.2.1)), (q_told_numbers, aJ cT 8 u.2.2.2.2.2.2.2.2.2.2.2.2.2.2.2.2.2.2.2.2.2.2.2)])) A) ([.ref h] : List Value).toArray s 0 0 A) (F0 m 77 ls []) := by
    intro u_1 r_19 u_19 u_31 u_44 r_52 n77
    induction n77 with
    | zero =>
      intro y4_77 x_spare_top_77 f_spare_stack_77 x_told_size_77 f_told_numbers_77 H locs ls hg hP hD hS hl
      exact False.elim hg
    | succ n77 ih77 =>
      intro y4_77 x_spare_top_77 f_spare_stack_77 x_told_size_77 f_told_numbers_77 H locs ls hg hP hD hS hl
      rw [p_X7_law_77_s] at hg
      refine lv_iload hx hb dX7_law_77 (lv_at hl 3 rfl) ?_
      refine lv_aload_n hx hb dX7_law_79 rfl (lv_at hl 0 rfl) ?_
      refine gf_X7_26 C0 hP 0 rfl rfl dX7_law_80 ?_
      refine gf_X7_98 C0 hP 6 rfl rfl dX7_law_83 ?_
      refine lv_icmp_ge (tgt := 117) hx hb dX7_law_86 (by decide) (fun c_86 => ?_) (fun c_86 => ?_)
      · have hg := hg.1 c_86
        refine lv_iload_n hx hb dX7_law_117 rfl (lv_at hl 2 rfl) ?_
        refine lv_iload_n hx hb dX7_law_118 rfl (lv_at hl 1 rfl) ?_
        refine lv_isub hx hb dX7_law_119 ?_
        exact k_iret C0 hr (u_1.1, x_spare_top_77, u_1.2.2.1, u_1.2.2.2.1, u_1.2.2.2.2.1, u_1.2.2.2.2.2.1, u_1.2.2.2.2.2.2.1, u_1.2.2.2.2.2.2.2.1, f_spare_stack_77, u_31.1, u_31.2.1, u_31.2.2.1, u_44.1, u_44.2.1, u_19.2.2.2.2.2.2.2.2.2.2.2.1, u_31.2.2.2.2.2.1, u_44.2.2.2.2.1, u_44.2.2.2.2.2.1, u_44.2.2.2.2.2.2.2, u_44.2.2.2.2.2.2.1, u_31.2.2.2.2.2.2.2.2.2.2, u_19.2.2.2.2.2.2.2.2.2.2.2.2, x_told_size_77, f_told_numbers_77) hg hP hD hS dX7_law_120
      have hg := hg.2 c_86
      refine lv_aload_n hx hb dX7_law_89 rfl (lv_at hl 0 rfl) ?_
      refine gf_X7_19 C0 hP 0 rfl rfl dX7_law_90 ?_
      refine lv_aload_n hx hb dX7_law_93 rfl (lv_at hl 0 rfl) ?_
      refine gf_X7_26 C0 hP 0 rfl rfl dX7_law_94 ?_
      refine lv_aload_n hx hb dX7_law_97 rfl (lv_at hl 0 rfl) ?_
      refine gf_X7_87 C0 hP 0 rfl rfl dX7_law_98 ?_
      refine lv_iload hx hb dX7_law_101 (lv_at hl 3 rfl) ?_
      refine k_Vi (rest := [.ref q_told]) (wr := [(h, oX7 (.ref q_text) (.ref q_told) (.ref q_now) w_before (.ref q_trial) w_past w_kept w_feltNotes w_heardNotes w_draws w_purrs w_alone w_nimbers w_ways (.ref q_ruling) (.ref q_spare)), (q_text, oX5 (.ref q_text_signs) (.int u_1.2.2.2.2.2.2.1)), (q_text_signs, aC cT 80 f_text_signs), (q_trial, oX6 (.ref q_trial_load) (.ref q_trial_sag) (.ref q_trial_joy) (.ref q_trial_bowl) (.ref q_trial_grief) (.ref q_trial_place) (.int u_31.1) (.int u_31.2.1) (.int u_31.2.2.1) (.int u_44.1) (.int u_44.2.1)), (q_ruling, oX4 (.ref q_ruling_steps) (.ref q_ruling_stack) (.int x_ruling_size) (.int u_19.2.2.2.2.2.2.2.2.2.2.2.1) (.int x_ruling_open) (.int x_ruling_compared) (.int x_ruling_digits) (.int x_ruling_wantsThing)), (q_trial_load, aI cT 6 u_31.2.2.2.2.2.1), (q_trial_sag, aI cT 6 u_44.2.2.2.2.1), (q_trial_joy, aI cT 8 u_44.2.2.2.2.2.1), (q_trial_bowl, aI cT 8 u_44.2.2.2.2.2.2.2), (q_trial_grief, aI cT 8 u_44.2.2.2.2.2.2.1), (q_trial_place, aI cT 8 u_31.2.2.2.2.2.2.2.2.2.2), (q_ruling_steps, aI cT 40 f_ruling_steps), (q_ruling_stack, aI cT 40 u_19.2.2.2.2.2.2.2.2.2.2.2.2), (q_told, oX3 (.ref q_told_numbers) (.int x_told_size_77)), (q_told_numbers, aJ cT 8 f_told_numbers_77)]) (w2 := fun u_103 => [(h, oX7 (.ref q_text) (.ref q_told) (.ref q_now) w_before (.ref q_trial) w_past w_kept w_feltNotes w_heardNotes w_draws w_purrs w_alone w_nimbers w_ways (.ref q_ruling) (.ref q_spare)), (q_text, oX5 (.ref q_text_signs) (.int u_1.2.2.2.2.2.2.1)), (q_text_signs, aC cT 80 f_text_signs), (q_trial, oX6 (.ref q_trial_load) (.ref q_trial_sag) (.ref q_trial_joy) (.ref q_trial_bowl) (.ref q_trial_grief) (.ref q_trial_place) (.int u_31.1) (.int u_31.2.1) (.int u_31.2.2.1) (.int u_44.1) (.int u_44.2.1)), (q_ruling, oX4 (.ref q_ruling_steps) (.ref q_ruling_stack) (.int x_ruling_size) (.int u_19.2.2.2.2.2.2.2.2.2.2.2.1) (.int x_ruling_open) (.int x_ruling_compared) (.int x_ruling_digits) (.int x_ruling_wantsThing)), (q_trial_load, aI cT 6 u_31.2.2.2.2.2.1), (q_trial_sag, aI cT 6 u_44.2.2.2.2.1), (q_trial_joy, aI cT 8 u_44.2.2.2.2.2.1), (q_trial_bowl, aI cT 8 u_44.2.2.2.2.2.2.2), (q_trial_grief, aI cT 8 u_44.2.2.2.2.2.2.1), (q_trial_place, aI cT 8 u_31.2.2.2.2.2.2.2.2.2.2), (q_ruling_steps, aI cT 40 f_ruling_steps), (q_ruling_stack, aI cT 40 u_19.2.2.2.2.2.2.2.2.2.2.2.2), (q_told, oX3 (.ref q_told_numbers) (.int x_told_size_77)), (q_told_numbers, aJ cT 8 f_told_numbers_77), (q_now, oX6 (.ref q_now_load) (.ref q_now_sag) (.ref q_now_joy) (.ref q_now_bowl) (.ref q_now_grief) (.ref q_now_place) (.int x_now_arches) (.int x_now_cats) (.int x_now_store) (.int x_now_hour) (.int x_now_drops)), (q_now_place, aI cT 8 f_now_place), (q_spare, oX4 (.ref q_spare_steps) (.ref q_spare_stack) (.int u_1.1) (.int u_103.1) (.int u_1.2.2.1) (.int u_1.2.2.2.1) (.int u_1.2.2.2.2.1) (.int u_1.2.2.2.2.2.1)), (q_spare_steps, aI cT 40 u_1.2.2.2.2.2.2.2.1), (q_spare_stack, aI cT 40 u_103.2), (q_now_sag, aI cT 6 f_now_sag), (q_now_load, aI cT 6 f_now_load), (q_now_joy, aI cT 8 f_now_joy), (q_now_grief, aI cT 8 f_now_grief), (q_now_bowl, aI cT 8 f_now_bowl)]) C0 lk_X7_149 (c_X6_holdOf l D cT F q_now q_spare y4_77 q_now_load q_now_sag q_now_joy q_now_bowl q_now_grief q_now_place x_now_arches x_now_cats x_now_store x_now_hour x_now_drops f_now_place q_spare_steps q_spare_stack u_1.1 x_spare_top_77 u_1.2.2.1 u_1.2.2.2.1 u_1.2.2.2.2.1 u_1.2.2.2.2.2.1 u_1.2.2.2.2.2.2.2.1 f_spare_stack_77 f_now_sag f_now_load f_now_joy f_now_grief f_now_bowl _ hg) hP hD hS hA [6, 19, 1, 3, 5, 11, 9, 13, 17, 15] [0, 2, 4, 7, 8, 10, 12, 14, 16, 18, 20, 21, 22, 23, 24] (by decide +kernel) rfl rfl (fun _ => rfl) rfl rfl ⟨Nat.le_of_ble_eq_true rfl, Nat.le_of_ble_eq_true rfl⟩ rfl hl.1 rfl (Nat.le_of_ble_eq_true rfl) dX7_law_103 ⟨Nat.le_of_ble_eq_true rfl, Nat.le_of_ble_eq_true rfl⟩ ?_
      intro r_103 u_103 H locs hg hP hD hS
      refine lv_i2l (v := (r_103.toInt64)) hx hb dX7_law_106 rfl ?_
      refine k_Vr (rest := []) (wr := [(h, oX7 (.ref q_text) (.ref q_told) (.ref q_now) w_before (.ref q_trial) w_past w_kept w_feltNotes w_heardNotes w_draws w_purrs w_alone w_nimbers w_ways (.ref q_ruling) (.ref q_spare)), (q_text, oX5 (.ref q_text_signs) (.int u_1.2.2.2.2.2.2.1)), (q_text_signs, aC cT 80 f_text_signs), (q_trial, oX6 (.ref q_trial_load) (.ref q_trial_sag) (.ref q_trial_joy) (.ref q_trial_bowl) (.ref q_trial_grief) (.ref q_trial_place) (.int u_31.1) (.int u_31.2.1) (.int u_31.2.2.1) (.int u_44.1) (.int u_44.2.1)), (q_ruling, oX4 (.ref q_ruling_steps) (.ref q_ruling_stack) (.int x_ruling_size) (.int u_19.2.2.2.2.2.2.2.2.2.2.2.1) (.int x_ruling_open) (.int x_ruling_compared) (.int x_ruling_digits) (.int x_ruling_wantsThing)), (q_trial_load, aI cT 6 u_31.2.2.2.2.2.1), (q_trial_sag, aI cT 6 u_44.2.2.2.2.1), (q_trial_joy, aI cT 8 u_44.2.2.2.2.2.1), (q_trial_bowl, aI cT 8 u_44.2.2.2.2.2.2.2), (q_trial_grief, aI cT 8 u_44.2.2.2.2.2.2.1), (q_trial_place, aI cT 8 u_31.2.2.2.2.2.2.2.2.2.2), (q_ruling_steps, aI cT 40 f_ruling_steps), (q_ruling_stack, aI cT 40 u_19.2.2.2.2.2.2.2.2.2.2.2.2), (q_now, oX6 (.ref q_now_load) (.ref q_now_sag) (.ref q_now_joy) (.ref q_now_bowl) (.ref q_now_grief) (.ref q_now_place) (.int x_now_arches) (.int x_now_cats) (.int x_now_store) (.int x_now_hour) (.int x_now_drops)), (q_now_place, aI cT 8 f_now_place), (q_spare, oX4 (.ref q_spare_steps) (.ref q_spare_stack) (.int u_1.1) (.int u_103.1) (.int u_1.2.2.1) (.int u_1.2.2.2.1) (.int u_1.2.2.2.2.1) (.int u_1.2.2.2.2.2.1)), (q_spare_steps, aI cT 40 u_1.2.2.2.2.2.2.2.1), (q_spare_stack, aI cT 40 u_103.2), (q_now_sag, aI cT 6 f_now_sag), (q_now_load, aI cT 6 f_now_load), (q_now_joy, aI cT 8 f_now_joy), (q_now_grief, aI cT 8 f_now_grief), (q_now_bowl, aI cT 8 f_now_bowl)]) (w2 := fun u_107 => [(h, oX7 (.ref q_text) (.ref q_told) (.ref q_now) w_before (.ref q_trial) w_past w_kept w_feltNotes w_heardNotes w_draws w_purrs w_alone w_nimbers w_ways (.ref q_ruling) (.ref q_spare)), (q_text, oX5 (.ref q_text_signs) (.int u_1.2.2.2.2.2.2.1)), (q_text_signs, aC cT 80 f_text_signs), (q_trial, oX6 (.ref q_trial_load) (.ref q_trial_sag) (.ref q_trial_joy) (.ref q_trial_bowl) (.ref q_trial_grief) (.ref q_trial_place) (.int u_31.1) (.int u_31.2.1) (.int u_31.2.2.1) (.int u_44.1) (.int u_44.2.1)), (q_ruling, oX4 (.ref q_ruling_steps) (.ref q_ruling_stack) (.int x_ruling_size) (.int u_19.2.2.2.2.2.2.2.2.2.2.2.1) (.int x_ruling_open) (.int x_ruling_compared) (.int x_ruling_digits) (.int x_ruling_wantsThing)), (q_trial_load, aI cT 6 u_31.2.2.2.2.2.1), (q_trial_sag, aI cT 6 u_44.2.2.2.2.1), (q_trial_joy, aI cT 8 u_44.2.2.2.2.2.1), (q_trial_bowl, aI cT 8 u_44.2.2.2.2.2.2.2), (q_trial_grief, aI cT 8 u_44.2.2.2.2.2.2.1), (q_trial_place, aI cT 8 u_31.2.2.2.2.2.2.2.2.2.2), (q_ruling_steps, aI cT 40 f_ruling_steps), (q_ruling_stack, aI cT 40 u_19.2.2.2.2.2.2.2.2.2.2.2.2), (q_now, oX6 (.ref q_now_load) (.ref q_now_sag) (.ref q_now_joy) (.ref q_now_bowl) (.ref q_now_grief) (.ref q_now_place) (.int x_now_arches) (.int x_now_cats) (.int x_now_store) (.int x_now_hour) (.int x_now_drops)), (q_now_place, aI cT 8 f_now_place), (q_spare, oX4 (.ref q_spare_steps) (.ref q_spare_stack) (.int u_1.1) (.int u_103.1) (.int u_1.2.2.1) (.int u_1.2.2.2.1) (.int u_1.2.2.2.2.1) (.int u_1.2.2.2.2.2.1)), (q_spare_steps, aI cT 40 u_1.2.2.2.2.2.2.2.1), (q_spare_stack, aI cT 40 u_103.2), (q_now_sag, aI cT 6 f_now_sag), (q_now_load, aI cT 6 f_now_load), (q_now_joy, aI cT 8 f_now_joy), (q_now_grief, aI cT 8 f_now_grief), (q_now_bowl, aI cT 8 f_now_bowl), (q_told, oX3 (.ref q_told_numbers) (.int u_107.1)), (q_told_numbers, aJ cT 8 u_107.2)]) C0 lk_X7_205 (c_X3_add l D cT F q_told (r_103.toInt64) q_told_numbers x_told_size_77 f_told_numbers_77 _ hg) hP hD hS hA [13, 14] [0, 1, 2, 3, 4, 5, 6, 7, 8, 9, 10, 11, 12, 15, 16, 17, 18, 19, 20, 21, 22, 23, 24] (by decide +kernel) rfl rfl (fun _ => rfl) rfl rfl ⟨Nat.le_of_ble_eq_true rfl, Nat.le_of_ble_eq_true rfl⟩ rfl hl.1 rfl (Nat.le_of_ble_eq_true rfl) dX7_law_107 ⟨Nat.le_of_ble_eq_true rfl, Nat.le_of_ble_eq_true rfl⟩ ?_
      intro u_107 H locs hg hP hD hS
      refine lv_pop hx hb dX7_law_110 rfl ?_
      refine lv_iinc (v := (y4_77 + (1 : Int32))) (lv' := [(4, .int (y4_77 + (1 : Int32))), (0, .ref h), (2, .int r_19), (3, .int r_52)]) hx hb dX7_law_111 hl (k := 3) rfl rfl (by decide) rfl (fun ls hl => ?_)
      refine lv_goto (tgt := 77) hx hb dX7_law_114 (by decide) ?_
      exact ih77 (y4_77 + (1 : Int32)) u_103.1 u_103.2 u_107.1 u_107.2 _ _ _ hg (subP hP [0, 15, 1, 16, 2, 17, 13, 3, 4, 19, 5, 18, 6, 20, 7, 22, 8, 21, 9, 14, 10, 11, 12, 23, 24] rfl) (hD.sub [0, 15, 1, 16, 2, 17, 13, 3, 4, 19, 5, 18, 6, 20, 7, 22, 8, 21, 9, 14, 10, 11, 12, 23, 24] (nd2_ok _ (by decide +kernel)) rfl) hS (lv_sub hl [1, 2, 3, 0] rfl)
  unfold p_X7_law at hg
  refine lv_aload_n hx hb dX7_law_0 rfl (lv_at hl 0 rfl) ?_
  refine k_Vi (rest := []) (wr := [(q_now, oX6 (.ref q_now_load) (.ref q_now_sag) (.ref q_now_joy) (.ref q_now_bowl) (.ref q_now_grief) (.ref q_now_place) (.int x_now_arches) (.int x_now_cats) (.int x_now_store) (.int x_now_hour) (.int x_now_drops)), (q_trial, oX6 (.ref q_trial_load) (.ref q_trial_sag) (.ref q_trial_joy) (.ref q_trial_bowl) (.ref q_trial_grief) (.ref q_trial_place) (.int x_trial_arches) (.int x_trial_cats) (.int x_trial_store) (.int x_trial_hour) (.int x_trial_drops)), (q_ruling, oX4 (.ref q_ruling_steps) (.ref q_ruling_stack) (.int x_ruling_size) (.int x_ruling_top) (.int x_ruling_open) (.int x_ruling_compared) (.int x_ruling_digits) (.int x_ruling_wantsThing)), (q_now_load, aI cT 6 f_now_load), (q_trial_load, aI cT 6 f_trial_load), (q_now_sag, aI cT 6 f_now_sag), (q_trial_sag, aI cT 6 f_trial_sag), (q_now_joy, aI cT 8 f_now_joy), (q_trial_joy, aI cT 8 f_trial_joy), (q_now_bowl, aI cT 8 f_now_bowl), (q_trial_bowl, aI cT 8 f_trial_bowl), (q_now_grief, aI cT 8 f_now_grief), (q_trial_grief, aI cT 8 f_trial_grief), (q_now_place, aI cT 8 f_now_place), (q_trial_place, aI cT 8 f_trial_place), (q_ruling_steps, aI cT 40 f_ruling_steps), (q_ruling_stack, aI cT 40 f_ruling_stack), (q_told, oX3 (.ref q_told_numbers) (.int x_told_size)), (q_told_numbers, aJ cT 8 f_told_numbers)]) (w2 := fun u_1 => [(q_now, oX6 (.ref q_now_load) (.ref q_now_sag) (.ref q_now_joy) (.ref q_now_bowl) (.ref q_now_grief) (.ref q_now_place) (.int x_now_arches) (.int x_now_cats) (.int x_now_store) (.int x_now_hour) (.int x_now_drops)), (q_trial, oX6 (.ref q_trial_load) (.ref q_trial_sag) (.ref q_trial_joy) (.ref q_trial_bowl) (.ref q_trial_grief) (.ref q_trial_place) (.int x_trial_arches) (.int x_trial_cats) (.int x_trial_store) (.int x_trial_hour) (.int x_trial_drops)), (q_ruling, oX4 (.ref q_ruling_steps) (.ref q_ruling_stack) (.int x_ruling_size) (.int x_ruling_top) (.int x_ruling_open) (.int x_ruling_compared) (.int x_ruling_digits) (.int x_ruling_wantsThing)), (q_now_load, aI cT 6 f_now_load), (q_trial_load, aI cT 6 f_trial_load), (q_now_sag, aI cT 6 f_now_sag), (q_trial_sag, aI cT 6 f_trial_sag), (q_now_joy, aI cT 8 f_now_joy), (q_trial_joy, aI cT 8 f_trial_joy), (q_now_bowl, aI cT 8 f_now_bowl), (q_trial_bowl, aI cT 8 f_trial_bowl), (q_now_grief, aI cT 8 f_now_grief), (q_trial_grief, aI cT 8 f_trial_grief), (q_now_place, aI cT 8 f_now_place), (q_trial_place, aI cT 8 f_trial_place), (q_ruling_steps, aI cT 40 f_ruling_steps), (q_ruling_stack, aI cT 40 f_ruling_stack), (q_told, oX3 (.ref q_told_numbers) (.int x_told_size)), (q_told_numbers, aJ cT 8 f_told_numbers), (h, oX7 (.ref q_text) (.ref q_told) (.ref q_now) w_before (.ref q_trial) w_past w_kept w_feltNotes w_heardNotes w_draws w_purrs w_alone w_nimbers w_ways (.ref q_ruling) (.ref q_spare)), (q_spare, oX4 (.ref q_spare_steps) (.ref q_spare_stack) (.int u_1.1) (.int u_1.2.1) (.int u_1.2.2.1) (.int u_1.2.2.2.1) (.int u_1.2.2.2.2.1) (.int u_1.2.2.2.2.2.1)), (q_text, oX5 (.ref q_text_signs) (.int u_1.2.2.2.2.2.2.1)), (q_spare_steps, aI cT 40 u_1.2.2.2.2.2.2.2.1), (q_text_signs, aC cT 80 f_text_signs), (q_spare_stack, aI cT 40 u_1.2.2.2.2.2.2.2.2)]) C0 lk_X7_128 (c_X7_readSpare l D cT F h q_text (.ref q_told) (.ref q_now) w_before (.ref q_trial) w_past w_kept w_feltNotes w_heardNotes w_draws w_purrs w_alone w_nimbers w_ways (.ref q_ruling) q_spare q_spare_steps q_spare_stack x_spare_size x_spare_top x_spare_open x_spare_compared x_spare_digits x_spare_wantsThing q_text_signs x_text_length f_spare_steps f_text_signs f_spare_stack _ hg) hP hD hS hA [0, 1, 2, 3, 4, 5] [6, 7, 8, 9, 10, 11, 12, 13, 14, 15, 16, 17, 18, 19, 20, 21, 22, 23, 24] (by decide +kernel) rfl rfl (fun _ => rfl) rfl rfl ⟨Nat.le_of_ble_eq_true rfl, Nat.le_of_ble_eq_true rfl⟩ rfl hl.1 rfl (Nat.le_of_ble_eq_true rfl) dX7_law_1 ⟨Nat.le_of_ble_eq_true rfl, Nat.le_of_ble_eq_true rfl⟩ ?_
  intro r_1 u_1 H locs hg hP hD hS
  refine lv_istore_n (lv' := [(1, .int r_1), (0, .ref h)]) hx hb dX7_law_4 rfl hl (by decide) rfl (fun ls hl => ?_)
  refine lv_iload_n hx hb dX7_law_5 rfl (lv_at hl 0 rfl) ?_
  refine lv_iconst (v := (-1 : Int32)) hx hb dX7_law_6 (by decide) ?_
  refine lv_icmp_eq (tgt := 16) hx hb dX7_law_7 (by decide) (fun c_7 => ?_) (fun c_7 => ?_)
  · have hg := hg.1 c_7
    refine lv_aload_n hx hb dX7_law_16 rfl (lv_at hl 1 rfl) ?_
    refine lv_bipush (v := (10 : Int32)) hx hb dX7_law_17 (by decide) ?_
    refine k_Vi (rest := []) (wr := [(q_told, oX3 (.ref q_told_numbers) (.int x_told_size)), (q_told_numbers, aJ cT 8 f_told_numbers), (q_spare, oX4 (.ref q_spare_steps) (.ref q_spare_stack) (.int u_1.1) (.int u_1.2.1) (.int u_1.2.2.1) (.int u_1.2.2.2.1) (.int u_1.2.2.2.2.1) (.int u_1.2.2.2.2.2.1)), (q_text, oX5 (.ref q_text_signs) (.int u_1.2.2.2.2.2.2.1)), (q_spare_steps, aI cT 40 u_1.2.2.2.2.2.2.2.1), (q_text_signs, aC cT 80 f_text_signs), (q_spare_stack, aI cT 40 u_1.2.2.2.2.2.2.2.2)]) (w2 := fun u_19 => [(q_told, oX3 (.ref q_told_numbers) (.int x_told_size)), (q_told_numbers, aJ cT 8 f_told_numbers), (q_spare, oX4 (.ref q_spare_steps) (.ref q_spare_stack) (.int u_1.1) (.int u_1.2.1) (.int u_1.2.2.1) (.int u_1.2.2.2.1) (.int u_1.2.2.2.2.1) (.int u_1.2.2.2.2.2.1)), (q_text, oX5 (.ref q_text_signs) (.int u_1.2.2.2.2.2.2.1)), (q_spare_steps, aI cT 40 u_1.2.2.2.2.2.2.2.1), (q_text_signs, aC cT 80 f_text_signs), (q_spare_stack, aI cT 40 u_1.2.2.2.2.2.2.2.2), (h, oX7 (.ref q_text) (.ref q_told) (.ref q_now) w_before (.ref q_trial) w_past w_kept w_feltNotes w_heardNotes w_draws w_purrs w_alone w_nimbers w_ways (.ref q_ruling) (.ref q_spare)), (q_now, oX6 (.ref q_now_load) (.ref q_now_sag) (.ref q_now_joy) (.ref q_now_bowl) (.ref q_now_grief) (.ref q_now_place) (.int x_now_arches) (.int x_now_cats) (.int x_now_store) (.int x_now_hour) (.int x_now_drops)), (q_trial, oX6 (.ref q_trial_load) (.ref q_trial_sag) (.ref q_trial_joy) (.ref q_trial_bowl) (.ref q_trial_grief) (.ref q_trial_place) (.int u_19.1) (.int u_19.2.1) (.int u_19.2.2.1) (.int u_19.2.2.2.1) (.int u_19.2.2.2.2.1)), (q_now_load, aI cT 6 f_now_load), (q_trial_load, aI cT 6 u_19.2.2.2.2.2.1), (q_now_sag, aI cT 6 f_now_sag), (q_trial_sag, aI cT 6 u_19.2.2.2.2.2.2.1), (q_now_joy, aI cT 8 f_now_joy), (q_trial_joy, aI cT 8 u_19.2.2.2.2.2.2.2.1), (q_now_bowl, aI cT 8 f_now_bowl), (q_trial_bowl, aI cT 8 u_19.2.2.2.2.2.2.2.2.1), (q_now_grief, aI cT 8 f_now_grief), (q_trial_grief, aI cT 8 u_19.2.2.2.2.2.2.2.2.2.1), (q_now_place, aI cT 8 f_now_place), (q_trial_place, aI cT 8 u_19.2.2.2.2.2.2.2.2.2.2.1), (q_ruling, oX4 (.ref q_ruling_steps) (.ref q_ruling_stack) (.int x_ruling_size) (.int u_19.2.2.2.2.2.2.2.2.2.2.2.1) (.int x_ruling_open) (.int x_ruling_compared) (.int x_ruling_digits) (.int x_ruling_wantsThing)), (q_ruling_steps, aI cT 40 f_ruling_steps), (q_ruling_stack, aI cT 40 u_19.2.2.2.2.2.2.2.2.2.2.2.2)]) C0 lk_X7_293 (c_X7_sagsIn l D cT F h (10 : Int32) (.ref q_text) (.ref q_told) q_now w_before q_trial w_past w_kept w_feltNotes w_heardNotes w_draws w_purrs w_alone w_nimbers w_ways q_ruling (.ref q_spare) q_now_load q_now_sag q_now_joy q_now_bowl q_now_grief q_now_place x_now_arches x_now_cats x_now_store x_now_hour x_now_drops q_trial_load q_trial_sag q_trial_joy q_trial_bowl q_trial_grief q_trial_place x_trial_arches x_trial_cats x_trial_store x_trial_hour x_trial_drops f_now_load f_trial_load f_now_sag f_trial_sag f_now_joy f_trial_joy f_now_bowl f_trial_bowl f_now_grief f_trial_grief f_now_place f_trial_place q_ruling_steps q_ruling_stack x_ruling_size x_ruling_top x_ruling_open x_ruling_compared x_ruling_digits x_ruling_wantsThing f_ruling_steps f_ruling_stack _ hg) hP hD hS hA [19, 0, 1, 3, 4, 5, 6, 7, 8, 9, 10, 11, 12, 13, 14, 2, 15, 16] [17, 18, 20, 21, 22, 23, 24] (by decide +kernel) rfl rfl (fun _ => rfl) rfl rfl ⟨Nat.le_of_ble_eq_true rfl, Nat.le_of_ble_eq_true rfl⟩ rfl hl.1 rfl (Nat.le_of_ble_eq_true rfl) dX7_law_19 ⟨Nat.le_of_ble_eq_true rfl, Nat.le_of_ble_eq_true rfl⟩ ?_
    intro r_19 u_19 H locs hg hP hD hS
    refine lv_istore_n (lv' := [(2, .int r_19), (1, .int r_1), (0, .ref h)]) hx hb dX7_law_22 rfl hl (by decide) rfl (fun ls hl => ?_)
    refine lv_aload_n hx hb dX7_law_23 rfl (lv_at hl 2 rfl) ?_
    refine gf_X7_33 C0 hP 7 rfl rfl dX7_law_24 ?_
    refine lv_aload_n hx hb dX7_law_27 rfl (lv_at hl 2 rfl) ?_
    refine gf_X7_26 C0 hP 7 rfl rfl dX7_law_28 ?_
    refine k_Vv (rest := []) (wr := [(q_told, oX3 (.ref q_told_numbers) (.int x_told_size)), (q_told_numbers, aJ cT 8 f_told_numbers), (q_spare, oX4 (.ref q_spare_steps) (.ref q_spare_stack) (.int u_1.1) (.int u_1.2.1) (.int u_1.2.2.1) (.int u_1.2.2.2.1) (.int u_1.2.2.2.2.1) (.int u_1.2.2.2.2.2.1)), (q_text, oX5 (.ref q_text_signs) (.int u_1.2.2.2.2.2.2.1)), (q_spare_steps, aI cT 40 u_1.2.2.2.2.2.2.2.1), (q_text_signs, aC cT 80 f_text_signs), (q_spare_stack, aI cT 40 u_1.2.2.2.2.2.2.2.2), (h, oX7 (.ref q_text) (.ref q_told) (.ref q_now) w_before (.ref q_trial) w_past w_kept w_feltNotes w_heardNotes w_draws w_purrs w_alone w_nimbers w_ways (.ref q_ruling) (.ref q_spare)), (q_ruling, oX4 (.ref q_ruling_steps) (.ref q_ruling_stack) (.int x_ruling_size) (.int u_19.2.2.2.2.2.2.2.2.2.2.2.1) (.int x_ruling_open) (.int x_ruling_compared) (.int x_ruling_digits) (.int x_ruling_wantsThing)), (q_ruling_steps, aI cT 40 f_ruling_steps), (q_ruling_stack, aI cT 40 u_19.2.2.2.2.2.2.2.2.2.2.2.2)]) (w2 := fun u_31 => [(q_told, oX3 (.ref q_told_numbers) (.int x_told_size)), (q_told_numbers, aJ cT 8 f_told_numbers), (q_spare, oX4 (.ref q_spare_steps) (.ref q_spare_stack) (.int u_1.1) (.int u_1.2.1) (.int u_1.2.2.1) (.int u_1.2.2.2.1) (.int u_1.2.2.2.2.1) (.int u_1.2.2.2.2.2.1)), (q_text, oX5 (.ref q_text_signs) (.int u_1.2.2.2.2.2.2.1)), (q_spare_steps, aI cT 40 u_1.2.2.2.2.2.2.2.1), (q_text_signs, aC cT 80 f_text_signs), (q_spare_stack, aI cT 40 u_1.2.2.2.2.2.2.2.2), (h, oX7 (.ref q_text) (.ref q_told) (.ref q_now) w_before (.ref q_trial) w_past w_kept w_feltNotes w_heardNotes w_draws w_purrs w_alone w_nimbers w_ways (.ref q_ruling) (.ref q_spare)), (q_ruling, oX4 (.ref q_ruling_steps) (.ref q_ruling_stack) (.int x_ruling_size) (.int u_19.2.2.2.2.2.2.2.2.2.2.2.1) (.int x_ruling_open) (.int x_ruling_compared) (.int x_ruling_digits) (.int x_ruling_wantsThing)), (q_ruling_steps, aI cT 40 f_ruling_steps), (q_ruling_stack, aI cT 40 u_19.2.2.2.2.2.2.2.2.2.2.2.2), (q_trial, oX6 (.ref q_trial_load) (.ref q_trial_sag) (.ref q_trial_joy) (.ref q_trial_bowl) (.ref q_trial_grief) (.ref q_trial_place) (.int u_31.1) (.int u_31.2.1) (.int u_31.2.2.1) (.int u_31.2.2.2.1) (.int u_31.2.2.2.2.1)), (q_now, oX6 (.ref q_now_load) (.ref q_now_sag) (.ref q_now_joy) (.ref q_now_bowl) (.ref q_now_grief) (.ref q_now_place) (.int x_now_arches) (.int x_now_cats) (.int x_now_store) (.int x_now_hour) (.int x_now_drops)), (q_now_load, aI cT 6 f_now_load), (q_trial_load, aI cT 6 u_31.2.2.2.2.2.1), (q_now_sag, aI cT 6 f_now_sag), (q_trial_sag, aI cT 6 u_31.2.2.2.2.2.2.1), (q_now_joy, aI cT 8 f_now_joy), (q_trial_joy, aI cT 8 u_31.2.2.2.2.2.2.2.1), (q_now_bowl, aI cT 8 f_now_bowl), (q_trial_bowl, aI cT 8 u_31.2.2.2.2.2.2.2.2.1), (q_now_grief, aI cT 8 f_now_grief), (q_trial_grief, aI cT 8 u_31.2.2.2.2.2.2.2.2.2.1), (q_now_place, aI cT 8 f_now_place), (q_trial_place, aI cT 8 u_31.2.2.2.2.2.2.2.2.2.2)]) C0 lk_X7_191 (c_X6_become l D cT F q_trial q_now q_trial_load q_trial_sag q_trial_joy q_trial_bowl q_trial_grief q_trial_place u_19.1 u_19.2.1 u_19.2.2.1 u_19.2.2.2.1 u_19.2.2.2.2.1 q_now_load q_now_sag q_now_joy q_now_bowl q_now_grief q_now_place x_now_arches x_now_cats x_now_store x_now_hour x_now_drops f_now_load u_19.2.2.2.2.2.1 f_now_sag u_19.2.2.2.2.2.2.1 f_now_joy u_19.2.2.2.2.2.2.2.1 f_now_bowl u_19.2.2.2.2.2.2.2.2.1 f_now_grief u_19.2.2.2.2.2.2.2.2.2.1 f_now_place u_19.2.2.2.2.2.2.2.2.2.2.1 _ hg) hP hD hS hA [9, 8, 10, 11, 12, 13, 14, 15, 16, 17, 18, 19, 20, 21] [0, 1, 2, 3, 4, 5, 6, 7, 22, 23, 24] (by decide +kernel) rfl rfl (fun _ => rfl) rfl rfl ⟨Nat.le_of_ble_eq_true rfl, Nat.le_of_ble_eq_true rfl⟩ rfl hl.1 rfl (Nat.le_of_ble_eq_true rfl) dX7_law_31 ⟨Nat.le_of_ble_eq_true rfl, Nat.le_of_ble_eq_true rfl⟩ ?_
    intro u_31 H locs hg hP hD hS
    refine lv_aload_n hx hb dX7_law_34 rfl (lv_at hl 2 rfl) ?_
    refine gf_X7_33 C0 hP 7 rfl rfl dX7_law_35 ?_
    refine lv_aload_n hx hb dX7_law_38 rfl (lv_at hl 2 rfl) ?_
    refine gf_X7_87 C0 hP 7 rfl rfl dX7_law_39 ?_
    refine lv_bipush (v := (10 : Int32)) hx hb dX7_law_42 (by decide) ?_
    refine k_Vi (rest := []) (wr := [(q_told, oX3 (.ref q_told_numbers) (.int x_told_size)), (q_told_numbers, aJ cT 8 f_told_numbers), (q_text, oX5 (.ref q_text_signs) (.int u_1.2.2.2.2.2.2.1)), (q_text_signs, aC cT 80 f_text_signs), (h, oX7 (.ref q_text) (.ref q_told) (.ref q_now) w_before (.ref q_trial) w_past w_kept w_feltNotes w_heardNotes w_draws w_purrs w_alone w_nimbers w_ways (.ref q_ruling) (.ref q_spare)), (q_ruling, oX4 (.ref q_ruling_steps) (.ref q_ruling_stack) (.int x_ruling_size) (.int u_19.2.2.2.2.2.2.2.2.2.2.2.1) (.int x_ruling_open) (.int x_ruling_compared) (.int x_ruling_digits) (.int x_ruling_wantsThing)), (q_ruling_steps, aI cT 40 f_ruling_steps), (q_ruling_stack, aI cT 40 u_19.2.2.2.2.2.2.2.2.2.2.2.2), (q_now, oX6 (.ref q_now_load) (.ref q_now_sag) (.ref q_now_joy) (.ref q_now_bowl) (.ref q_now_grief) (.ref q_now_place) (.int x_now_arches) (.int x_now_cats) (.int x_now_store) (.int x_now_hour) (.int x_now_drops)), (q_now_load, aI cT 6 f_now_load), (q_now_sag, aI cT 6 f_now_sag), (q_now_joy, aI cT 8 f_now_joy), (q_now_bowl, aI cT 8 f_now_bowl), (q_now_grief, aI cT 8 f_now_grief), (q_now_place, aI cT 8 f_now_place)]) (w2 := fun u_44 => [(q_told, oX3 (.ref q_told_numbers) (.int x_told_size)), (q_told_numbers, aJ cT 8 f_told_numbers), (q_text, oX5 (.ref q_text_signs) (.int u_1.2.2.2.2.2.2.1)), (q_text_signs, aC cT 80 f_text_signs), (h, oX7 (.ref q_text) (.ref q_told) (.ref q_now) w_before (.ref q_trial) w_past w_kept w_feltNotes w_heardNotes w_draws w_purrs w_alone w_nimbers w_ways (.ref q_ruling) (.ref q_spare)), (q_ruling, oX4 (.ref q_ruling_steps) (.ref q_ruling_stack) (.int x_ruling_size) (.int u_19.2.2.2.2.2.2.2.2.2.2.2.1) (.int x_ruling_open) (.int x_ruling_compared) (.int x_ruling_digits) (.int x_ruling_wantsThing)), (q_ruling_steps, aI cT 40 f_ruling_steps), (q_ruling_stack, aI cT 40 u_19.2.2.2.2.2.2.2.2.2.2.2.2), (q_now, oX6 (.ref q_now_load) (.ref q_now_sag) (.ref q_now_joy) (.ref q_now_bowl) (.ref q_now_grief) (.ref q_now_place) (.int x_now_arches) (.int x_now_cats) (.int x_now_store) (.int x_now_hour) (.int x_now_drops)), (q_now_load, aI cT 6 f_now_load), (q_now_sag, aI cT 6 f_now_sag), (q_now_joy, aI cT 8 f_now_joy), (q_now_bowl, aI cT 8 f_now_bowl), (q_now_grief, aI cT 8 f_now_grief), (q_now_place, aI cT 8 f_now_place), (q_trial, oX6 (.ref q_trial_load) (.ref q_trial_sag) (.ref q_trial_joy) (.ref q_trial_bowl) (.ref q_trial_grief) (.ref q_trial_place) (.int u_31.1) (.int u_31.2.1) (.int u_31.2.2.1) (.int u_44.1) (.int u_44.2.1)), (q_spare, oX4 (.ref q_spare_steps) (.ref q_spare_stack) (.int u_1.1) (.int u_44.2.2.1) (.int u_1.2.2.1) (.int u_1.2.2.2.1) (.int u_1.2.2.2.2.1) (.int u_1.2.2.2.2.2.1)), (q_trial_load, aI cT 6 u_31.2.2.2.2.2.1), (q_trial_place, aI cT 8 u_31.2.2.2.2.2.2.2.2.2.2), (q_spare_steps, aI cT 40 u_1.2.2.2.2.2.2.2.1), (q_spare_stack, aI cT 40 u_44.2.2.2.1), (q_trial_sag, aI cT 6 u_44.2.2.2.2.1), (q_trial_joy, aI cT 8 u_44.2.2.2.2.2.1), (q_trial_grief, aI cT 8 u_44.2.2.2.2.2.2.1), (q_trial_bowl, aI cT 8 u_44.2.2.2.2.2.2.2)]) C0 lk_X7_195 (c_X6_passHours l D cT F q_trial q_spare (10 : Int32) q_trial_load q_trial_sag q_trial_joy q_trial_bowl q_trial_grief q_trial_place u_31.1 u_31.2.1 u_31.2.2.1 u_31.2.2.2.1 u_31.2.2.2.2.1 q_spare_steps q_spare_stack u_1.1 u_1.2.1 u_1.2.2.1 u_1.2.2.2.1 u_1.2.2.2.2.1 u_1.2.2.2.2.2.1 u_31.2.2.2.2.2.1 u_31.2.2.2.2.2.2.2.2.2.2 u_1.2.2.2.2.2.2.2.1 u_1.2.2.2.2.2.2.2.2 u_31.2.2.2.2.2.2.1 u_31.2.2.2.2.2.2.2.1 u_31.2.2.2.2.2.2.2.2.2.1 u_31.2.2.2.2.2.2.2.2.1 _ hg) hP hD hS hA [11, 2, 14, 24, 4, 6, 16, 18, 22, 20] [0, 1, 3, 5, 7, 8, 9, 10, 12, 13, 15, 17, 19, 21, 23] (by decide +kernel) rfl rfl (fun _ => rfl) rfl rfl ⟨Nat.le_of_ble_eq_true rfl, Nat.le_of_ble_eq_true rfl⟩ rfl hl.1 rfl (Nat.le_of_ble_eq_true rfl) dX7_law_44 ⟨Nat.le_of_ble_eq_true rfl, Nat.le_of_ble_eq_true rfl⟩ ?_
    intro r_44 u_44 H locs hg hP hD hS
    refine lv_pop hx hb dX7_law_47 rfl ?_
    refine lv_aload_n hx hb dX7_law_48 rfl (lv_at hl 2 rfl) ?_
    refine gf_X7_33 C0 hP 4 rfl rfl dX7_law_49 ?_
    refine k_Vxi (rest := []) C0 lk_X7_211 (c_X6_allSags l D cT F q_trial (.ref q_trial_load) q_trial_sag (.ref q_trial_joy) (.ref q_trial_bowl) (.ref q_trial_grief) (.ref q_trial_place) u_31.1 u_31.2.1 u_31.2.2.1 u_44.1 u_44.2.1 u_44.2.2.2.2.1 _ hg) hP hD hS hA [15, 21] (by decide +kernel) rfl rfl rfl ⟨Nat.le_of_ble_eq_true rfl, Nat.le_of_ble_eq_true rfl⟩ rfl hl.1 rfl (Nat.le_of_ble_eq_true rfl) dX7_law_52 ⟨Nat.le_of_ble_eq_true rfl, Nat.le_of_ble_eq_true rfl⟩ (fun r_52 hg => ?_)
    refine lv_istore_n (lv' := [(3, .int r_52), (2, .int r_19), (1, .int r_1), (0, .ref h)]) hx hb dX7_law_55 rfl hl (by decide) rfl (fun ls hl => ?_)
    refine lv_aload_n hx hb dX7_law_56 rfl (lv_at hl 3 rfl) ?_
    refine gf_X7_19 C0 hP 4 rfl rfl dX7_law_57 ?_
    refine k_Vr (rest := []) (wr := [(q_told_numbers, aJ cT 8 f_told_numbers), (q_text, oX5 (.ref q_text_signs) (.int u_1.2.2.2.2.2.2.1)), (q_text_signs, aC cT 80 f_text_signs), (h, oX7 (.ref q_text) (.ref q_told) (.ref q_now) w_before (.ref q_trial) w_past w_kept w_feltNotes w_heardNotes w_draws w_purrs w_alone w_nimbers w_ways (.ref q_ruling) (.ref q_spare)), (q_ruling, oX4 (.ref q_ruling_steps) (.ref q_ruling_stack) (.int x_ruling_size) (.int u_19.2.2.2.2.2.2.2.2.2.2.2.1) (.int x_ruling_open) (.int x_ruling_compared) (.int x_ruling_digits) (.int x_ruling_wantsThing)), (q_ruling_steps, aI cT 40 f_ruling_steps), (q_ruling_stack, aI cT 40 u_19.2.2.2.2.2.2.2.2.2.2.2.2), (q_now, oX6 (.ref q_now_load) (.ref q_now_sag) (.ref q_now_joy) (.ref q_now_bowl) (.ref q_now_grief) (.ref q_now_place) (.int x_now_arches) (.int x_now_cats) (.int x_now_store) (.int x_now_hour) (.int x_now_drops)), (q_now_load, aI cT 6 f_now_load), (q_now_sag, aI cT 6 f_now_sag), (q_now_joy, aI cT 8 f_now_joy), (q_now_bowl, aI cT 8 f_now_bowl), (q_now_grief, aI cT 8 f_now_grief), (q_now_place, aI cT 8 f_now_place), (q_trial, oX6 (.ref q_trial_load) (.ref q_trial_sag) (.ref q_trial_joy) (.ref q_trial_bowl) (.ref q_trial_grief) (.ref q_trial_place) (.int u_31.1) (.int u_31.2.1) (.int u_31.2.2.1) (.int u_44.1) (.int u_44.2.1)), (q_spare, oX4 (.ref q_spare_steps) (.ref q_spare_stack) (.int u_1.1) (.int u_44.2.2.1) (.int u_1.2.2.1) (.int u_1.2.2.2.1) (.int u_1.2.2.2.2.1) (.int u_1.2.2.2.2.2.1)), (q_trial_load, aI cT 6 u_31.2.2.2.2.2.1), (q_trial_place, aI cT 8 u_31.2.2.2.2.2.2.2.2.2.2), (q_spare_steps, aI cT 40 u_1.2.2.2.2.2.2.2.1), (q_spare_stack, aI cT 40 u_44.2.2.2.1), (q_trial_sag, aI cT 6 u_44.2.2.2.2.1), (q_trial_joy, aI cT 8 u_44.2.2.2.2.2.1), (q_trial_grief, aI cT 8 u_44.2.2.2.2.2.2.1), (q_trial_bowl, aI cT 8 u_44.2.2.2.2.2.2.2)]) (w2 := fun u_60 => [(q_told_numbers, aJ cT 8 f_told_numbers), (q_text, oX5 (.ref q_text_signs) (.int u_1.2.2.2.2.2.2.1)), (q_text_signs, aC cT 80 f_text_signs), (h, oX7 (.ref q_text) (.ref q_told) (.ref q_now) w_before (.ref q_trial) w_past w_kept w_feltNotes w_heardNotes w_draws w_purrs w_alone w_nimbers w_ways (.ref q_ruling) (.ref q_spare)), (q_ruling, oX4 (.ref q_ruling_steps) (.ref q_ruling_stack) (.int x_ruling_size) (.int u_19.2.2.2.2.2.2.2.2.2.2.2.1) (.int x_ruling_open) (.int x_ruling_compared) (.int x_ruling_digits) (.int x_ruling_wantsThing)), (q_ruling_steps, aI cT 40 f_ruling_steps), (q_ruling_stack, aI cT 40 u_19.2.2.2.2.2.2.2.2.2.2.2.2), (q_now, oX6 (.ref q_now_load) (.ref q_now_sag) (.ref q_now_joy) (.ref q_now_bowl) (.ref q_now_grief) (.ref q_now_place) (.int x_now_arches) (.int x_now_cats) (.int x_now_store) (.int x_now_hour) (.int x_now_drops)), (q_now_load, aI cT 6 f_now_load), (q_now_sag, aI cT 6 f_now_sag), (q_now_joy, aI cT 8 f_now_joy), (q_now_bowl, aI cT 8 f_now_bowl), (q_now_grief, aI cT 8 f_now_grief), (q_now_place, aI cT 8 f_now_place), (q_trial, oX6 (.ref q_trial_load) (.ref q_trial_sag) (.ref q_trial_joy) (.ref q_trial_bowl) (.ref q_trial_grief) (.ref q_trial_place) (.int u_31.1) (.int u_31.2.1) (.int u_31.2.2.1) (.int u_44.1) (.int u_44.2.1)), (q_spare, oX4 (.ref q_spare_steps) (.ref q_spare_stack) (.int u_1.1) (.int u_44.2.2.1) (.int u_1.2.2.1) (.int u_1.2.2.2.1) (.int u_1.2.2.2.2.1) (.int u_1.2.2.2.2.2.1)), (q_trial_load, aI cT 6 u_31.2.2.2.2.2.1), (q_trial_place, aI cT 8 u_31.2.2.2.2.2.2.2.2.2.2), (q_spare_steps, aI cT 40 u_1.2.2.2.2.2.2.2.1), (q_spare_stack, aI cT 40 u_44.2.2.2.1), (q_trial_sag, aI cT 6 u_44.2.2.2.2.1), (q_trial_joy, aI cT 8 u_44.2.2.2.2.2.1), (q_trial_grief, aI cT 8 u_44.2.2.2.2.2.2.1), (q_trial_bowl, aI cT 8 u_44.2.2.2.2.2.2.2), (q_told, oX3 (.ref q_told_numbers) (.int u_60))]) C0 lk_X7_201 (c_X3_anew l D cT F q_told (.ref q_told_numbers) x_told_size _ hg) hP hD hS hA [0] [1, 2, 3, 4, 5, 6, 7, 8, 9, 10, 11, 12, 13, 14, 15, 16, 17, 18, 19, 20, 21, 22, 23, 24] (by decide +kernel) rfl rfl (fun _ => rfl) rfl rfl ⟨Nat.le_of_ble_eq_true rfl, Nat.le_of_ble_eq_true rfl⟩ rfl hl.1 rfl (Nat.le_of_ble_eq_true rfl) dX7_law_60 ⟨Nat.le_of_ble_eq_true rfl, Nat.le_of_ble_eq_true rfl⟩ ?_
    intro u_60 H locs hg hP hD hS
    refine lv_iload_n hx hb dX7_law_63 rfl (lv_at hl 0 rfl) ?_
    refine lv_i2l (v := (r_52.toInt64)) hx hb dX7_law_64 rfl ?_
    refine k_Vr (rest := []) (wr := [(q_text, oX5 (.ref q_text_signs) (.int u_1.2.2.2.2.2.2.1)), (q_text_signs, aC cT 80 f_text_signs), (h, oX7 (.ref q_text) (.ref q_told) (.ref q_now) w_before (.ref q_trial) w_past w_kept w_feltNotes w_heardNotes w_draws w_purrs w_alone w_nimbers w_ways (.ref q_ruling) (.ref q_spare)), (q_ruling, oX4 (.ref q_ruling_steps) (.ref q_ruling_stack) (.int x_ruling_size) (.int u_19.2.2.2.2.2.2.2.2.2.2.2.1) (.int x_ruling_open) (.int x_ruling_compared) (.int x_ruling_digits) (.int x_ruling_wantsThing)), (q_ruling_steps, aI cT 40 f_ruling_steps), (q_ruling_stack, aI cT 40 u_19.2.2.2.2.2.2.2.2.2.2.2.2), (q_now, oX6 (.ref q_now_load) (.ref q_now_sag) (.ref q_now_joy) (.ref q_now_bowl) (.ref q_now_grief) (.ref q_now_place) (.int x_now_arches) (.int x_now_cats) (.int x_now_store) (.int x_now_hour) (.int x_now_drops)), (q_now_load, aI cT 6 f_now_load), (q_now_sag, aI cT 6 f_now_sag), (q_now_joy, aI cT 8 f_now_joy), (q_now_bowl, aI cT 8 f_now_bowl), (q_now_grief, aI cT 8 f_now_grief), (q_now_place, aI cT 8 f_now_place), (q_trial, oX6 (.ref q_trial_load) (.ref q_trial_sag) (.ref q_trial_joy) (.ref q_trial_bowl) (.ref q_trial_grief) (.ref q_trial_place) (.int u_31.1) (.int u_31.2.1) (.int u_31.2.2.1) (.int u_44.1) (.int u_44.2.1)), (q_spare, oX4 (.ref q_spare_steps) (.ref q_spare_stack) (.int u_1.1) (.int u_44.2.2.1) (.int u_1.2.2.1) (.int u_1.2.2.2.1) (.int u_1.2.2.2.2.1) (.int u_1.2.2.2.2.2.1)), (q_trial_load, aI cT 6 u_31.2.2.2.2.2.1), (q_trial_place, aI cT 8 u_31.2.2.2.2.2.2.2.2.2.2), (q_spare_steps, aI cT 40 u_1.2.2.2.2.2.2.2.1), (q_spare_stack, aI cT 40 u_44.2.2.2.1), (q_trial_sag, aI cT 6 u_44.2.2.2.2.1), (q_trial_joy, aI cT 8 u_44.2.2.2.2.2.1), (q_trial_grief, aI cT 8 u_44.2.2.2.2.2.2.1), (q_trial_bowl, aI cT 8 u_44.2.2.2.2.2.2.2)]) (w2 := fun u_65 => [(q_text, oX5 (.ref q_text_signs) (.int u_1.2.2.2.2.2.2.1)), (q_text_signs, aC cT 80 f_text_signs), (h, oX7 (.ref q_text) (.ref q_told) (.ref q_now) w_before (.ref q_trial) w_past w_kept w_feltNotes w_heardNotes w_draws w_purrs w_alone w_nimbers w_ways (.ref q_ruling) (.ref q_spare)), (q_ruling, oX4 (.ref q_ruling_steps) (.ref q_ruling_stack) (.int x_ruling_size) (.int u_19.2.2.2.2.2.2.2.2.2.2.2.1) (.int x_ruling_open) (.int x_ruling_compared) (.int x_ruling_digits) (.int x_ruling_wantsThing)), (q_ruling_steps, aI cT 40 f_ruling_steps), (q_ruling_stack, aI cT 40 u_19.2.2.2.2.2.2.2.2.2.2.2.2), (q_now, oX6 (.ref q_now_load) (.ref q_now_sag) (.ref q_now_joy) (.ref q_now_bowl) (.ref q_now_grief) (.ref q_now_place) (.int x_now_arches) (.int x_now_cats) (.int x_now_store) (.int x_now_hour) (.int x_now_drops)), (q_now_load, aI cT 6 f_now_load), (q_now_sag, aI cT 6 f_now_sag), (q_now_joy, aI cT 8 f_now_joy), (q_now_bowl, aI cT 8 f_now_bowl), (q_now_grief, aI cT 8 f_now_grief), (q_now_place, aI cT 8 f_now_place), (q_trial, oX6 (.ref q_trial_load) (.ref q_trial_sag) (.ref q_trial_joy) (.ref q_trial_bowl) (.ref q_trial_grief) (.ref q_trial_place) (.int u_31.1) (.int u_31.2.1) (.int u_31.2.2.1) (.int u_44.1) (.int u_44.2.1)), (q_spare, oX4 (.ref q_spare_steps) (.ref q_spare_stack) (.int u_1.1) (.int u_44.2.2.1) (.int u_1.2.2.1) (.int u_1.2.2.2.1) (.int u_1.2.2.2.2.1) (.int u_1.2.2.2.2.2.1)), (q_trial_load, aI cT 6 u_31.2.2.2.2.2.1), (q_trial_place, aI cT 8 u_31.2.2.2.2.2.2.2.2.2.2), (q_spare_steps, aI cT 40 u_1.2.2.2.2.2.2.2.1), (q_spare_stack, aI cT 40 u_44.2.2.2.1), (q_trial_sag, aI cT 6 u_44.2.2.2.2.1), (q_trial_joy, aI cT 8 u_44.2.2.2.2.2.1), (q_trial_grief, aI cT 8 u_44.2.2.2.2.2.2.1), (q_trial_bowl, aI cT 8 u_44.2.2.2.2.2.2.2), (q_told, oX3 (.ref q_told_numbers) (.int u_65.1)), (q_told_numbers, aJ cT 8 u_65.2)]) C0 lk_X7_205 (c_X3_add l D cT F q_told (r_52.toInt64) q_told_numbers u_60 f_told_numbers _ hg) hP hD hS hA [24, 0] [1, 2, 3, 4, 5, 6, 7, 8, 9, 10, 11, 12, 13, 14, 15, 16, 17, 18, 19, 20, 21, 22, 23] (by decide +kernel) rfl rfl (fun _ => rfl) rfl rfl ⟨Nat.le_of_ble_eq_true rfl, Nat.le_of_ble_eq_true rfl⟩ rfl hl.1 rfl (Nat.le_of_ble_eq_true rfl) dX7_law_65 ⟨Nat.le_of_ble_eq_true rfl, Nat.le_of_ble_eq_true rfl⟩ ?_
    intro u_65 H locs hg hP hD hS
    refine lv_iload_n hx hb dX7_law_68 rfl (lv_at hl 1 rfl) ?_
    refine lv_i2l (v := (r_19.toInt64)) hx hb dX7_law_69 rfl ?_
    refine k_Vr (rest := []) (wr := [(q_text, oX5 (.ref q_text_signs) (.int u_1.2.2.2.2.2.2.1)), (q_text_signs, aC cT 80 f_text_signs), (h, oX7 (.ref q_text) (.ref q_told) (.ref q_now) w_before (.ref q_trial) w_past w_kept w_feltNotes w_heardNotes w_draws w_purrs w_alone w_nimbers w_ways (.ref q_ruling) (.ref q_spare)), (q_ruling, oX4 (.ref q_ruling_steps) (.ref q_ruling_stack) (.int x_ruling_size) (.int u_19.2.2.2.2.2.2.2.2.2.2.2.1) (.int x_ruling_open) (.int x_ruling_compared) (.int x_ruling_digits) (.int x_ruling_wantsThing)), (q_ruling_steps, aI cT 40 f_ruling_steps), (q_ruling_stack, aI cT 40 u_19.2.2.2.2.2.2.2.2.2.2.2.2), (q_now, oX6 (.ref q_now_load) (.ref q_now_sag) (.ref q_now_joy) (.ref q_now_bowl) (.ref q_now_grief) (.ref q_now_place) (.int x_now_arches) (.int x_now_cats) (.int x_now_store) (.int x_now_hour) (.int x_now_drops)), (q_now_load, aI cT 6 f_now_load), (q_now_sag, aI cT 6 f_now_sag), (q_now_joy, aI cT 8 f_now_joy), (q_now_bowl, aI cT 8 f_now_bowl), (q_now_grief, aI cT 8 f_now_grief), (q_now_place, aI cT 8 f_now_place), (q_trial, oX6 (.ref q_trial_load) (.ref q_trial_sag) (.ref q_trial_joy) (.ref q_trial_bowl) (.ref q_trial_grief) (.ref q_trial_place) (.int u_31.1) (.int u_31.2.1) (.int u_31.2.2.1) (.int u_44.1) (.int u_44.2.1)), (q_spare, oX4 (.ref q_spare_steps) (.ref q_spare_stack) (.int u_1.1) (.int u_44.2.2.1) (.int u_1.2.2.1) (.int u_1.2.2.2.1) (.int u_1.2.2.2.2.1) (.int u_1.2.2.2.2.2.1)), (q_trial_load, aI cT 6 u_31.2.2.2.2.2.1), (q_trial_place, aI cT 8 u_31.2.2.2.2.2.2.2.2.2.2), (q_spare_steps, aI cT 40 u_1.2.2.2.2.2.2.2.1), (q_spare_stack, aI cT 40 u_44.2.2.2.1), (q_trial_sag, aI cT 6 u_44.2.2.2.2.1), (q_trial_joy, aI cT 8 u_44.2.2.2.2.2.1), (q_trial_grief, aI cT 8 u_44.2.2.2.2.2.2.1), (q_trial_bowl, aI cT 8 u_44.2.2.2.2.2.2.2)]) (w2 := fun u_70 => [(q_text, oX5 (.ref q_text_signs) (.int u_1.2.2.2.2.2.2.1)), (q_text_signs, aC cT 80 f_text_signs), (h, oX7 (.ref q_text) (.ref q_told) (.ref q_now) w_before (.ref q_trial) w_past w_kept w_feltNotes w_heardNotes w_draws w_purrs w_alone w_nimbers w_ways (.ref q_ruling) (.ref q_spare)), (q_ruling, oX4 (.ref q_ruling_steps) (.ref q_ruling_stack) (.int x_ruling_size) (.int u_19.2.2.2.2.2.2.2.2.2.2.2.1) (.int x_ruling_open) (.int x_ruling_compared) (.int x_ruling_digits) (.int x_ruling_wantsThing)), (q_ruling_steps, aI cT 40 f_ruling_steps), (q_ruling_stack, aI cT 40 u_19.2.2.2.2.2.2.2.2.2.2.2.2), (q_now, oX6 (.ref q_now_load) (.ref q_now_sag) (.ref q_now_joy) (.ref q_now_bowl) (.ref q_now_grief) (.ref q_now_place) (.int x_now_arches) (.int x_now_cats) (.int x_now_store) (.int x_now_hour) (.int x_now_drops)), (q_now_load, aI cT 6 f_now_load), (q_now_sag, aI cT 6 f_now_sag), (q_now_joy, aI cT 8 f_now_joy), (q_now_bowl, aI cT 8 f_now_bowl), (q_now_grief, aI cT 8 f_now_grief), (q_now_place, aI cT 8 f_now_place), (q_trial, oX6 (.ref q_trial_load) (.ref q_trial_sag) (.ref q_trial_joy) (.ref q_trial_bowl) (.ref q_trial_grief) (.ref q_trial_place) (.int u_31.1) (.int u_31.2.1) (.int u_31.2.2.1) (.int u_44.1) (.int u_44.2.1)), (q_spare, oX4 (.ref q_spare_steps) (.ref q_spare_stack) (.int u_1.1) (.int u_44.2.2.1) (.int u_1.2.2.1) (.int u_1.2.2.2.1) (.int u_1.2.2.2.2.1) (.int u_1.2.2.2.2.2.1)), (q_trial_load, aI cT 6 u_31.2.2.2.2.2.1), (q_trial_place, aI cT 8 u_31.2.2.2.2.2.2.2.2.2.2), (q_spare_steps, aI cT 40 u_1.2.2.2.2.2.2.2.1), (q_spare_stack, aI cT 40 u_44.2.2.2.1), (q_trial_sag, aI cT 6 u_44.2.2.2.2.1), (q_trial_joy, aI cT 8 u_44.2.2.2.2.2.1), (q_trial_grief, aI cT 8 u_44.2.2.2.2.2.2.1), (q_trial_bowl, aI cT 8 u_44.2.2.2.2.2.2.2), (q_told, oX3 (.ref q_told_numbers) (.int u_70.1)), (q_told_numbers, aJ cT 8 u_70.2)]) C0 lk_X7_205 (c_X3_add l D cT F q_told (r_19.toInt64) q_told_numbers u_65.1 u_65.2 _ hg) hP hD hS hA [23, 24] [0, 1, 2, 3, 4, 5, 6, 7, 8, 9, 10, 11, 12, 13, 14, 15, 16, 17, 18, 19, 20, 21, 22] (by decide +kernel) rfl rfl (fun _ => rfl) rfl rfl ⟨Nat.le_of_ble_eq_true rfl, Nat.le_of_ble_eq_true rfl⟩ rfl hl.1 rfl (Nat.le_of_ble_eq_true rfl) dX7_law_70 ⟨Nat.le_of_ble_eq_true rfl, Nat.le_of_ble_eq_true rfl⟩ ?_
    intro u_70 H locs hg hP hD hS
    refine lv_pop hx hb dX7_law_73 rfl ?_
    refine lv_iconst (v := (0 : Int32)) hx hb dX7_law_74 (by decide) ?_
    refine lv_istore (lv' := [(4, .int (0 : Int32)), (3, .int r_52), (2, .int r_19), (1, .int r_1), (0, .ref h)]) hx hb dX7_law_75 hl (by decide) rfl (fun ls hl => ?_)
    exact L77 u_1 r_19 u_19 u_31 u_44 r_52 F (0 : Int32) u_44.2.2.1 u_44.2.2.2.1 u_70.1 u_70.2 _ _ _ hg (subP hP [2, 14, 0, 17, 1, 18, 6, 13, 3, 7, 15, 8, 19, 9, 20, 10, 22, 11, 21, 12, 16, 4, 5, 23, 24] rfl) (hD.sub [2, 14, 0, 17, 1, 18, 6, 13, 3, 7, 15, 8, 19, 9, 20, 10, 22, 11, 21, 12, 16, 4, 5, 23, 24] (nd2_ok _ (by decide +kernel)) rfl) hS (lv_sub hl [4, 2, 1, 0] rfl)
  have hg := hg.2 c_7
  refine lv_sipush (v := (-10000 : Int32)) hx hb dX7_law_10 (by decide) ?_
  refine lv_iload_n hx hb dX7_law_13 rfl (lv_at hl 0 rfl) ?_
  refine lv_isub hx hb dX7_law_14 ?_
  exact k_iret C0 hr (u_1.1, u_1.2.1, u_1.2.2.1, u_1.2.2.2.1, u_1.2.2.2.2.1, u_1.2.2.2.2.2.1, u_1.2.2.2.2.2.2.1, u_1.2.2.2.2.2.2.2.1, u_1.2.2.2.2.2.2.2.2, x_trial_arches, x_trial_cats, x_trial_store, x_trial_hour, x_trial_drops, x_ruling_top, f_trial_load, f_trial_sag, f_trial_joy, f_trial_bowl, f_trial_grief, f_trial_place, f_ruling_stack, x_told_size, f_told_numbers) hg (subP hP [19, 20, 21, 22, 23, 24, 0, 1, 2, 3, 4, 5, 6, 7, 8, 9, 10, 11, 12, 13, 14, 15, 16, 17, 18] rfl) (hD.sub [19, 20, 21, 22, 23, 24, 0, 1, 2, 3, 4, 5, 6, 7, 8, 9, 10, 11, 12, 13, 14, 15, 16, 17, 18] (nd2_ok _ (by decide +kernel)) rfl) hS dX7_law_15
theorem dX7_drawnAct_0 : decode cX7_drawnAct 0 = .ok (.aload_n 0, 1) := by decide +kernel
theorem dX7_drawnAct_1 : decode cX7_drawnAct 1 = .ok (.getfield 62, 3) := by decide +kernel
theorem dX7_drawnAct_4 : decode cX7_drawnAct 4 = .ok (.iconst 4, 1) := by decide +kernel
theorem dX7_drawnAct_5 : decode cX7_drawnAct 5 = .ok (.invokevirtual 387, 3) := by decide +kernel
theorem dX7_drawnAct_8 : decode cX7_drawnAct 8 = .ok (.istore_n 1, 1) := by decide +kernel
theorem dX7_drawnAct_9 : decode cX7_drawnAct 9 = .ok (.iload_n 1, 1) := by decide +kernel
theorem dX7_drawnAct_10 : decode cX7_drawnAct 10 = .ok (.iconst 2, 1) := by decide +kernel
theorem dX7_drawnAct_11 : decode cX7_drawnAct 11 = .ok (.if_icmp .ge 15, 3) := by decide +kernel
theorem dX7_drawnAct_14 : decode cX7_drawnAct 14 = .ok (.aload_n 0, 1) := by decide +kernel
theorem dX7_drawnAct_15 : decode cX7_drawnAct 15 = .ok (.getfield 33, 3) := by decide +kernel
theorem dX7_drawnAct_18 : decode cX7_drawnAct 18 = .ok (.aload_n 0, 1) := by decide +kernel
theorem dX7_drawnAct_19 : decode cX7_drawnAct 19 = .ok (.getfield 83, 3) := by decide +kernel
theorem dX7_drawnAct_22 : decode cX7_drawnAct 22 = .ok (.invokevirtual 258, 3) := by decide +kernel
theorem dX7_drawnAct_25 : decode cX7_drawnAct 25 = .ok (.ireturn, 1) := by decide +kernel
theorem dX7_drawnAct_26 : decode cX7_drawnAct 26 = .ok (.aload_n 0, 1) := by decide +kernel
theorem dX7_drawnAct_27 : decode cX7_drawnAct 27 = .ok (.getfield 33, 3) := by decide +kernel
theorem dX7_drawnAct_30 : decode cX7_drawnAct 30 = .ok (.getfield 118, 3) := by decide +kernel
theorem dX7_drawnAct_33 : decode cX7_drawnAct 33 = .ok (.ifCond .le 64, 3) := by decide +kernel
theorem dX7_drawnAct_36 : decode cX7_drawnAct 36 = .ok (.aload_n 0, 1) := by decide +kernel
theorem dX7_drawnAct_37 : decode cX7_drawnAct 37 = .ok (.getfield 62, 3) := by decide +kernel
theorem dX7_drawnAct_40 : decode cX7_drawnAct 40 = .ok (.aload_n 0, 1) := by decide +kernel
theorem dX7_drawnAct_41 : decode cX7_drawnAct 41 = .ok (.getfield 33, 3) := by decide +kernel
theorem dX7_drawnAct_44 : decode cX7_drawnAct 44 = .ok (.getfield 118, 3) := by decide +kernel
theorem dX7_drawnAct_47 : decode cX7_drawnAct 47 = .ok (.invokevirtual 387, 3) := by decide +kernel
theorem dX7_drawnAct_50 : decode cX7_drawnAct 50 = .ok (.istore_n 2, 1) := by decide +kernel
theorem dX7_drawnAct_51 : decode cX7_drawnAct 51 = .ok (.iload_n 1, 1) := by decide +kernel
theorem dX7_drawnAct_52 : decode cX7_drawnAct 52 = .ok (.iconst 2, 1) := by decide +kernel
theorem dX7_drawnAct_53 : decode cX7_drawnAct 53 = .ok (.if_icmp .ne 25, 3) := by decide +kernel
theorem dX7_drawnAct_56 : decode cX7_drawnAct 56 = .ok (.aload_n 0, 1) := by decide +kernel
theorem dX7_drawnAct_57 : decode cX7_drawnAct 57 = .ok (.getfield 33, 3) := by decide +kernel
theorem dX7_drawnAct_60 : decode cX7_drawnAct 60 = .ok (.iload_n 2, 1) := by decide +kernel
theorem dX7_drawnAct_61 : decode cX7_drawnAct 61 = .ok (.iconst 1, 1) := by decide +kernel
theorem dX7_drawnAct_62 : decode cX7_drawnAct 62 = .ok (.aload_n 0, 1) := by decide +kernel
theorem dX7_drawnAct_63 : decode cX7_drawnAct 63 = .ok (.getfield 62, 3) := by decide +kernel
theorem dX7_drawnAct_66 : decode cX7_drawnAct 66 = .ok (.iconst 3, 1) := by decide +kernel
theorem dX7_drawnAct_67 : decode cX7_drawnAct 67 = .ok (.invokevirtual 387, 3) := by decide +kernel
theorem dX7_drawnAct_70 : decode cX7_drawnAct 70 = .ok (.iadd, 1) := by decide +kernel
theorem dX7_drawnAct_71 : decode cX7_drawnAct 71 = .ok (.invokevirtual 214, 3) := by decide +kernel
theorem dX7_drawnAct_74 : decode cX7_drawnAct 74 = .ok (.pop, 1) := by decide +kernel
theorem dX7_drawnAct_75 : decode cX7_drawnAct 75 = .ok (.goto 22, 3) := by decide +kernel
theorem dX7_drawnAct_78 : decode cX7_drawnAct 78 = .ok (.aload_n 0, 1) := by decide +kernel
theorem dX7_drawnAct_79 : decode cX7_drawnAct 79 = .ok (.getfield 33, 3) := by decide +kernel
theorem dX7_drawnAct_82 : decode cX7_drawnAct 82 = .ok (.iload_n 2, 1) := by decide +kernel
theorem dX7_drawnAct_83 : decode cX7_drawnAct 83 = .ok (.iconst 1, 1) := by decide +kernel
theorem dX7_drawnAct_84 : decode cX7_drawnAct 84 = .ok (.aload_n 0, 1) := by decide +kernel
theorem dX7_drawnAct_85 : decode cX7_drawnAct 85 = .ok (.getfield 62, 3) := by decide +kernel
theorem dX7_drawnAct_88 : decode cX7_drawnAct 88 = .ok (.iconst 5, 1) := by decide +kernel
theorem dX7_drawnAct_89 : decode cX7_drawnAct 89 = .ok (.invokevirtual 387, 3) := by decide +kernel
theorem dX7_drawnAct_92 : decode cX7_drawnAct 92 = .ok (.iadd, 1) := by decide +kernel
theorem dX7_drawnAct_93 : decode cX7_drawnAct 93 = .ok (.invokevirtual 223, 3) := by decide +kernel
theorem dX7_drawnAct_96 : decode cX7_drawnAct 96 = .ok (.pop, 1) := by decide +kernel
theorem dX7_drawnAct_97 : decode cX7_drawnAct 97 = .ok (.iconst 0, 1) := by decide +kernel
theorem dX7_drawnAct_98 : decode cX7_drawnAct 98 = .ok (.ireturn, 1) := by decide +kernel
def p_X7_drawnAct (F : Nat) (x_draws_last : Int32) (x_trial_arches : Int32) (x_trial_cats : Int32) (x_trial_store : Int32) (x_trial_hour : Int32) (x_trial_drops : Int32) (x_ruling_size : Int32) (x_ruling_top : Int32) (f_trial_load : Nat → Int32) (f_trial_place : Nat → Int32) (f_ruling_steps : Nat → Int32) (f_ruling_stack : Nat → Int32) (f_trial_sag : Nat → Int32) (f_trial_joy : Nat → Int32) (f_trial_grief : Nat → Int32) (f_trial_bowl : Nat → Int32) (Post : Int32 → (Int32 × Int32 × Int32 × Int32 × Int32 × (Nat → Int32) × (Nat → Int32) × (Nat → Int32) × (Nat → Int32) × (Nat → Int32)) → Prop) : Prop := (p_X0_below F (4 : Int32) x_draws_last (fun (r_5 : Int32) (u_5 : Int32) => (((2 : Int32) ≤ r_5 → ((x_trial_cats ≤ 0 → (Post (0 : Int32) (u_5, x_trial_store, x_trial_hour, x_trial_drops, x_ruling_top, f_ruling_stack, f_trial_sag, f_trial_joy, f_trial_grief, f_trial_bowl))) ∧ (¬ x_trial_cats ≤ 0 → (p_X0_below F x_trial_cats u_5 (fun (r_47 : Int32) (u_47 : Int32) => ((¬ r_5 = (2 : Int32) → (p_X0_below F (5 : Int32) u_47 (fun (r_89 : Int32) (u_89 : Int32) => (p_X6_sadden F r_47 ((1 : Int32) + r_89) x_trial_cats f_trial_grief (fun (r_93 : Int32) (u_93 : (Nat → Int32)) => (Post (0 : Int32) (u_89, x_trial_store, x_trial_hour, x_trial_drops, x_ruling_top, f_ruling_stack, f_trial_sag, f_trial_joy, u_93, f_trial_bowl))))))) ∧ (r_5 = (2 : Int32) → (p_X0_below F (3 : Int32) u_47 (fun (r_67 : Int32) (u_67 : Int32) => (p_X6_feed F r_47 ((1 : Int32) + r_67) x_trial_cats x_trial_store f_trial_bowl (fun (r_71 : Int32) (u_71 : (Int32 × (Nat → Int32))) => (Post (0 : Int32) (u_67, u_71.1, x_trial_hour, x_trial_drops, x_ruling_top, f_ruling_stack, f_trial_sag, f_trial_joy, f_trial_grief, u_71.2))))))))))))) ∧ (¬ (2 : Int32) ≤ r_5 → (p_X6_passHour F x_trial_arches x_trial_cats x_trial_hour x_trial_drops f_trial_load f_trial_place x_ruling_size x_ruling_top f_ruling_steps f_ruling_stack f_trial_sag f_trial_joy f_trial_grief f_trial_bowl (fun (r_22 : Int32) (u_22 : (Int32 × Int32 × Int32 × (Nat → Int32) × (Nat → Int32) × (Nat → Int32) × (Nat → Int32) × (Nat → Int32))) => (Post r_22 (u_5, x_trial_store, u_22.1, u_22.2.1, u_22.2.2.1, u_22.2.2.2.1, u_22.2.2.2.2.1, u_22.2.2.2.2.2.1, u_22.2.2.2.2.2.2.1, u_22.2.2.2.2.2.2.2))))))))
set_option maxHeartbeats 4000000 in
set_option maxRecDepth 100000 in
theorem c_X7_drawnAct (l : Launch) (D : va_G) (cT : Nat → ClassId) (F : Nat) (h : Nat) (w_text : Value) (w_told : Value) (w_now : Value) (w_before : Value) (q_trial : Nat) (w_past : Value) (w_kept : Value) (w_feltNotes : Value) (w_heardNotes : Value) (q_draws : Nat) (w_purrs : Value) (w_alone : Value) (w_nimbers : Value) (w_ways : Value) (q_ruling : Nat) (w_spare : Value) (x_draws_last : Int32) (q_trial_load : Nat) (q_trial_sag : Nat) (q_trial_joy : Nat) (q_trial_bowl : Nat) (q_trial_grief : Nat) (q_trial_place : Nat) (x_trial_arches : Int32) (x_trial_cats : Int32) (x_trial_store : Int32) (x_trial_hour : Int32) (x_trial_drops : Int32) (q_ruling_steps : Nat) (q_ruling_stack : Nat) (x_ruling_size : Int32) (x_ruling_top : Int32) (x_ruling_open : Int32) (x_ruling_compared : Int32) (x_ruling_digits : Int32) (x_ruling_wantsThing : Int32) (f_trial_load : Nat → Int32) (f_trial_place : Nat → Int32) (f_ruling_steps : Nat → Int32) (f_ruling_stack : Nat → Int32) (f_trial_sag : Nat → Int32) (f_trial_joy : Nat → Int32) (f_trial_grief : Nat → Int32) (f_trial_bowl : Nat → Int32) (Post : Int32 → (Int32 × Int32 × Int32 × Int32 × Int32 × (Nat → Int32) × (Nat → Int32) × (Nat → Int32) × (Nat → Int32) × (Nat → Int32)) → Prop) (hg : p_X7_drawnAct F x_draws_last x_trial_arches x_trial_cats x_trial_store x_trial_hour x_trial_drops x_ruling_size x_ruling_top f_trial_load f_trial_place f_ruling_steps f_ruling_stack f_trial_sag f_trial_joy f_trial_grief f_trial_bowl Post) : MWi l D cT yX7_drawnAct cX7_drawnAct 3 (some .int) 5 127 0 0 [.ref h] [(h, oX7 w_text w_told w_now w_before (.ref q_trial) w_past w_kept w_feltNotes w_heardNotes (.ref q_draws) w_purrs w_alone w_nimbers w_ways (.ref q_ruling) w_spare), (q_draws, oX0 (.int x_draws_last)), (q_trial, oX6 (.ref q_trial_load) (.ref q_trial_sag) (.ref q_trial_joy) (.ref q_trial_bowl) (.ref q_trial_grief) (.ref q_trial_place) (.int x_trial_arches) (.int x_trial_cats) (.int x_trial_store) (.int x_trial_hour) (.int x_trial_drops)), (q_ruling, oX4 (.ref q_ruling_steps) (.ref q_ruling_stack) (.int x_ruling_size) (.int x_ruling_top) (.int x_ruling_open) (.int x_ruling_compared) (.int x_ruling_digits) (.int x_ruling_wantsThing)), (q_trial_load, aI cT 6 f_trial_load), (q_trial_place, aI cT 8 f_trial_place), (q_ruling_steps, aI cT 40 f_ruling_steps), (q_ruling_stack, aI cT 40 f_ruling_stack), (q_trial_sag, aI cT 6 f_trial_sag), (q_trial_joy, aI cT 8 f_trial_joy), (q_trial_grief, aI cT 8 f_trial_grief), (q_trial_bowl, aI cT 8 f_trial_bowl)] Post (fun (u : (Int32 × Int32 × Int32 × Int32 × Int32 × (Nat → Int32) × (Nat → Int32) × (Nat → Int32) × (Nat → Int32) × (Nat → Int32))) => [(h, oX7 w_text w_told w_now w_before (.ref q_trial) w_past w_kept w_feltNotes w_heardNotes (.ref q_draws) w_purrs w_alone w_nimbers w_ways (.ref q_ruling) w_spare), (q_draws, oX0 (.int u.1)), (q_trial, oX6 (.ref q_trial_load) (.ref q_trial_sag) (.ref q_trial_joy) (.ref q_trial_bowl) (.ref q_trial_grief) (.ref q_trial_place) (.int x_trial_arches) (.int x_trial_cats) (.int u.2.1) (.int u.2.2.1) (.int u.2.2.2.1)), (q_ruling, oX4 (.ref q_ruling_steps) (.ref q_ruling_stack) (.int x_ruling_size) (.int u.2.2.2.2.1) (.int x_ruling_open) (.int x_ruling_compared) (.int x_ruling_digits) (.int x_ruling_wantsThing)), (q_trial_load, aI cT 6 f_trial_load), (q_trial_place, aI cT 8 f_trial_place), (q_ruling_steps, aI cT 40 f_ruling_steps), (q_ruling_stack, aI cT 40 u.2.2.2.2.2.1), (q_trial_sag, aI cT 6 u.2.2.2.2.2.2.1), (q_trial_joy, aI cT 8 u.2.2.2.2.2.2.2.1), (q_trial_grief, aI cT 8 u.2.2.2.2.2.2.2.2.1), (q_trial_bowl, aI cT 8 u.2.2.2.2.2.2.2.2.2)]) := by
  refine MWi.of (by decide) (Nat.le_of_ble_eq_true rfl) ?_
  intro p e s m below meth c A hA C0 hnm hr hP hD ls hl
  have hl : lv_has ls 3 [(0, .ref h)] := hl
  have hx := C0.x
  have hb := C0.b
  have hS : va_S A s.heap s.heap [] := va_S.rf
  have hP : va_P D cls9 [(h, oX7 w_text w_told w_now w_before (.ref q_trial) w_past w_kept w_feltNotes w_heardNotes (.ref q_draws) w_purrs w_alone w_nimbers w_ways (.ref q_ruling) w_spare), (q_draws, oX0 (.int x_draws_last)), (q_trial, oX6 (.ref q_trial_load) (.ref q_trial_sag) (.ref q_trial_joy) (.ref q_trial_bowl) (.ref q_trial_grief) (.ref q_trial_place) (.int x_trial_arches) (.int x_trial_cats) (.int x_trial_store) (.int x_trial_hour) (.int x_trial_drops)), (q_ruling, oX4 (.ref q_ruling_steps) (.ref q_ruling_stack) (.int x_ruling_size) (.int x_ruling_top) (.int x_ruling_open) (.int x_ruling_compared) (.int x_ruling_digits) (.int x_ruling_wantsThing)), (q_trial_load, aI cT 6 f_trial_load), (q_trial_place, aI cT 8 f_trial_place), (q_ruling_steps, aI cT 40 f_ruling_steps), (q_ruling_stack, aI cT 40 f_ruling_stack), (q_trial_sag, aI cT 6 f_trial_sag), (q_trial_joy, aI cT 8 f_trial_joy), (q_trial_grief, aI cT 8 f_trial_grief), (q_trial_bowl, aI cT 8 f_trial_bowl)] s.heap := hP
  have hD : va_D A [(h, oX7 w_text w_told w_now w_before (.ref q_trial) w_past w_kept w_feltNotes w_heardNotes (.ref q_draws) w_purrs w_alone w_nimbers w_ways (.ref q_ruling) w_spare), (q_draws, oX0 (.int x_draws_last)), (q_trial, oX6 (.ref q_trial_load) (.ref q_trial_sag) (.ref q_trial_joy) (.ref q_trial_bowl) (.ref q_trial_grief) (.ref q_trial_place) (.int x_trial_arches) (.int x_trial_cats) (.int x_trial_store) (.int x_trial_hour) (.int x_trial_drops)), (q_ruling, oX4 (.ref q_ruling_steps) (.ref q_ruling_stack) (.int x_ruling_size) (.int x_ruling_top) (.int x_ruling_open) (.int x_ruling_compared) (.int x_ruling_digits) (.int x_ruling_wantsThing)), (q_trial_load, aI cT 6 f_trial_load), (q_trial_place, aI cT 8 f_trial_place), (q_ruling_steps, aI cT 40 f_ruling_steps), (q_ruling_stack, aI cT 40 f_ruling_stack), (q_trial_sag, aI cT 6 f_trial_sag), (q_trial_joy, aI cT 8 f_trial_joy), (q_trial_grief, aI cT 8 f_trial_grief), (q_trial_bowl, aI cT 8 f_trial_bowl)] := hD
  unfold p_X7_drawnAct at hg
  refine lv_aload_n hx hb dX7_drawnAct_0 rfl (lv_at hl 0 rfl) ?_
  refine gf_X7_62 C0 hP 0 rfl rfl dX7_drawnAct_1 ?_
  refine lv_iconst (v := (4 : Int32)) hx hb dX7_drawnAct_4 (by decide) ?_
  refine k_Vi (rest := []) (wr := [(h, oX7 w_text w_told w_now w_before (.ref q_trial) w_past w_kept w_feltNotes w_heardNotes (.ref q_draws) w_purrs w_alone w_nimbers w_ways (.ref q_ruling) w_spare), (q_trial, oX6 (.ref q_trial_load) (.ref q_trial_sag) (.ref q_trial_joy) (.ref q_trial_bowl) (.ref q_trial_grief) (.ref q_trial_place) (.int x_trial_arches) (.int x_trial_cats) (.int x_trial_store) (.int x_trial_hour) (.int x_trial_drops)), (q_ruling, oX4 (.ref q_ruling_steps) (.ref q_ruling_stack) (.int x_ruling_size) (.int x_ruling_top) (.int x_ruling_open) (.int x_ruling_compared) (.int x_ruling_digits) (.int x_ruling_wantsThing)), (q_trial_load, aI cT 6 f_trial_load), (q_trial_place, aI cT 8 f_trial_place), (q_ruling_steps, aI cT 40 f_ruling_steps), (q_ruling_stack, aI cT 40 f_ruling_stack), (q_trial_sag, aI cT 6 f_trial_sag), (q_trial_joy, aI cT 8 f_trial_joy), (q_trial_grief, aI cT 8 f_trial_grief), (q_trial_bowl, aI cT 8 f_trial_bowl)]) (w2 := fun u_5 => [(h, oX7 w_text w_told w_now w_before (.ref q_trial) w_past w_kept w_feltNotes w_heardNotes (.ref q_draws) w_purrs w_alone w_nimbers w_ways (.ref q_ruling) w_spare), (q_trial, oX6 (.ref q_trial_load) (.ref q_trial_sag) (.ref q_trial_joy) (.ref q_trial_bowl) (.ref q_trial_grief) (.ref q_trial_place) (.int x_trial_arches) (.int x_trial_cats) (.int x_trial_store) (.int x_trial_hour) (.int x_trial_drops)), (q_ruling, oX4 (.ref q_ruling_steps) (.ref q_ruling_stack) (.int x_ruling_size) (.int x_ruling_top) (.int x_ruling_open) (.int x_ruling_compared) (.int x_ruling_digits) (.int x_ruling_wantsThing)), (q_trial_load, aI cT 6 f_trial_load), (q_trial_place, aI cT 8 f_trial_place), (q_ruling_steps, aI cT 40 f_ruling_steps), (q_ruling_stack, aI cT 40 f_ruling_stack), (q_trial_sag, aI cT 6 f_trial_sag), (q_trial_joy, aI cT 8 f_trial_joy), (q_trial_grief, aI cT 8 f_trial_grief), (q_trial_bowl, aI cT 8 f_trial_bowl), (q_draws, oX0 (.int u_5))]) C0 lk_X7_387 (c_X0_below l D cT F q_draws (4 : Int32) x_draws_last _ hg) hP hD hS hA [1] [0, 2, 3, 4, 5, 6, 7, 8, 9, 10, 11] (by decide +kernel) rfl rfl (fun _ => rfl) rfl rfl ⟨Nat.le_of_ble_eq_true rfl, Nat.le_of_ble_eq_true rfl⟩ rfl hl.1 rfl (Nat.le_of_ble_eq_true rfl) dX7_drawnAct_5 ⟨Nat.le_of_ble_eq_true rfl, Nat.le_of_ble_eq_true rfl⟩ ?_
  intro r_5 u_5 H locs hg hP hD hS
  refine lv_istore_n (lv' := [(1, .int r_5), (0, .ref h)]) hx hb dX7_drawnAct_8 rfl hl (by decide) rfl (fun ls hl => ?_)
  refine lv_iload_n hx hb dX7_drawnAct_9 rfl (lv_at hl 0 rfl) ?_
  refine lv_iconst (v := (2 : Int32)) hx hb dX7_drawnAct_10 (by decide) ?_
  refine lv_icmp_ge (tgt := 26) hx hb dX7_drawnAct_11 (by decide) (fun c_11 => ?_) (fun c_11 => ?_)
  · have hg := hg.1 c_11
    refine lv_aload_n hx hb dX7_drawnAct_26 rfl (lv_at hl 1 rfl) ?_
    refine gf_X7_33 C0 hP 0 rfl rfl dX7_drawnAct_27 ?_
    refine gf_X7_118 C0 hP 1 rfl rfl dX7_drawnAct_30 ?_
    refine lv_if_le (tgt := 97) hx hb dX7_drawnAct_33 (by decide) (fun c_33 => ?_) (fun c_33 => ?_)
    · have hg := hg.1 c_33
      refine lv_iconst (v := (0 : Int32)) hx hb dX7_drawnAct_97 (by decide) ?_
      exact k_iret C0 hr (u_5, x_trial_store, x_trial_hour, x_trial_drops, x_ruling_top, f_ruling_stack, f_trial_sag, f_trial_joy, f_trial_grief, f_trial_bowl) hg (subP hP [0, 11, 1, 2, 3, 4, 5, 6, 7, 8, 9, 10] rfl) (hD.sub [0, 11, 1, 2, 3, 4, 5, 6, 7, 8, 9, 10] (nd2_ok _ (by decide +kernel)) rfl) hS dX7_drawnAct_98
    have hg := hg.2 c_33
    refine lv_aload_n hx hb dX7_drawnAct_36 rfl (lv_at hl 1 rfl) ?_
    refine gf_X7_62 C0 hP 0 rfl rfl dX7_drawnAct_37 ?_
    refine lv_aload_n hx hb dX7_drawnAct_40 rfl (lv_at hl 1 rfl) ?_
    refine gf_X7_33 C0 hP 0 rfl rfl dX7_drawnAct_41 ?_
    refine gf_X7_118 C0 hP 1 rfl rfl dX7_drawnAct_44 ?_
    refine k_Vi (rest := []) (wr := [(h, oX7 w_text w_told w_now w_before (.ref q_trial) w_past w_kept w_feltNotes w_heardNotes (.ref q_draws) w_purrs w_alone w_nimbers w_ways (.ref q_ruling) w_spare), (q_trial, oX6 (.ref q_trial_load) (.ref q_trial_sag) (.ref q_trial_joy) (.ref q_trial_bowl) (.ref q_trial_grief) (.ref q_trial_place) (.int x_trial_arches) (.int x_trial_cats) (.int x_trial_store) (.int x_trial_hour) (.int x_trial_drops)), (q_ruling, oX4 (.ref q_ruling_steps) (.ref q_ruling_stack) (.int x_ruling_size) (.int x_ruling_top) (.int x_ruling_open) (.int x_ruling_compared) (.int x_ruling_digits) (.int x_ruling_wantsThing)), (q_trial_load, aI cT 6 f_trial_load), (q_trial_place, aI cT 8 f_trial_place), (q_ruling_steps, aI cT 40 f_ruling_steps), (q_ruling_stack, aI cT 40 f_ruling_stack), (q_trial_sag, aI cT 6 f_trial_sag), (q_trial_joy, aI cT 8 f_trial_joy), (q_trial_grief, aI cT 8 f_trial_grief), (q_trial_bowl, aI cT 8 f_trial_bowl)]) (w2 := fun u_47 => [(h, oX7 w_text w_told w_now w_before (.ref q_trial) w_past w_kept w_feltNotes w_heardNotes (.ref q_draws) w_purrs w_alone w_nimbers w_ways (.ref q_ruling) w_spare), (q_trial, oX6 (.ref q_trial_load) (.ref q_trial_sag) (.ref q_trial_joy) (.ref q_trial_bowl) (.ref q_trial_grief) (.ref q_trial_place) (.int x_trial_arches) (.int x_trial_cats) (.int x_trial_store) (.int x_trial_hour) (.int x_trial_drops)), (q_ruling, oX4 (.ref q_ruling_steps) (.ref q_ruling_stack) (.int x_ruling_size) (.int x_ruling_top) (.int x_ruling_open) (.int x_ruling_compared) (.int x_ruling_digits) (.int x_ruling_wantsThing)), (q_trial_load, aI cT 6 f_trial_load), (q_trial_place, aI cT 8 f_trial_place), (q_ruling_steps, aI cT 40 f_ruling_steps), (q_ruling_stack, aI cT 40 f_ruling_stack), (q_trial_sag, aI cT 6 f_trial_sag), (q_trial_joy, aI cT 8 f_trial_joy), (q_trial_grief, aI cT 8 f_trial_grief), (q_trial_bowl, aI cT 8 f_trial_bowl), (q_draws, oX0 (.int u_47))]) C0 lk_X7_387 (c_X0_below l D cT F q_draws x_trial_cats u_5 _ hg) hP hD hS hA [11] [0, 1, 2, 3, 4, 5, 6, 7, 8, 9, 10] (by decide +kernel) rfl rfl (fun _ => rfl) rfl rfl ⟨Nat.le_of_ble_eq_true rfl, Nat.le_of_ble_eq_true rfl⟩ rfl hl.1 rfl (Nat.le_of_ble_eq_true rfl) dX7_drawnAct_47 ⟨Nat.le_of_ble_eq_true rfl, Nat.le_of_ble_eq_true rfl⟩ ?_
    intro r_47 u_47 H locs hg hP hD hS
    refine lv_istore_n (lv' := [(2, .int r_47), (1, .int r_5), (0, .ref h)]) hx hb dX7_drawnAct_50 rfl hl (by decide) rfl (fun ls hl => ?_)
    refine lv_iload_n hx hb dX7_drawnAct_51 rfl (lv_at hl 1 rfl) ?_
    refine lv_iconst (v := (2 : Int32)) hx hb dX7_drawnAct_52 (by decide) ?_
    refine lv_icmp_ne (tgt := 78) hx hb dX7_drawnAct_53 (by decide) (fun c_53 => ?_) (fun c_53 => ?_)
    · have hg := hg.1 c_53
      refine lv_aload_n hx hb dX7_drawnAct_78 rfl (lv_at hl 2 rfl) ?_
      refine gf_X7_33 C0 hP 0 rfl rfl dX7_drawnAct_79 ?_
      refine lv_iload_n hx hb dX7_drawnAct_82 rfl (lv_at hl 0 rfl) ?_
      refine lv_iconst (v := (1 : Int32)) hx hb dX7_drawnAct_83 (by decide) ?_
      refine lv_aload_n hx hb dX7_drawnAct_84 rfl (lv_at hl 2 rfl) ?_
      refine gf_X7_62 C0 hP 0 rfl rfl dX7_drawnAct_85 ?_
      refine lv_iconst (v := (5 : Int32)) hx hb dX7_drawnAct_88 (by decide) ?_
      refine k_Vi (rest := [.int (1 : Int32), .int r_47, .ref q_trial]) (wr := [(h, oX7 w_text w_told w_now w_before (.ref q_trial) w_past w_kept w_feltNotes w_heardNotes (.ref q_draws) w_purrs w_alone w_nimbers w_ways (.ref q_ruling) w_spare), (q_trial, oX6 (.ref q_trial_load) (.ref q_trial_sag) (.ref q_trial_joy) (.ref q_trial_bowl) (.ref q_trial_grief) (.ref q_trial_place) (.int x_trial_arches) (.int x_trial_cats) (.int x_trial_store) (.int x_trial_hour) (.int x_trial_drops)), (q_ruling, oX4 (.ref q_ruling_steps) (.ref q_ruling_stack) (.int x_ruling_size) (.int x_ruling_top) (.int x_ruling_open) (.int x_ruling_compared) (.int x_ruling_digits) (.int x_ruling_wantsThing)), (q_trial_load, aI cT 6 f_trial_load), (q_trial_place, aI cT 8 f_trial_place), (q_ruling_steps, aI cT 40 f_ruling_steps), (q_ruling_stack, aI cT 40 f_ruling_stack), (q_trial_sag, aI cT 6 f_trial_sag), (q_trial_joy, aI cT 8 f_trial_joy), (q_trial_grief, aI cT 8 f_trial_grief), (q_trial_bowl, aI cT 8 f_trial_bowl)]) (w2 := fun u_89 => [(h, oX7 w_text w_told w_now w_before (.ref q_trial) w_past w_kept w_feltNotes w_heardNotes (.ref q_draws) w_purrs w_alone w_nimbers w_ways (.ref q_ruling) w_spare), (q_trial, oX6 (.ref q_trial_load) (.ref q_trial_sag) (.ref q_trial_joy) (.ref q_trial_bowl) (.ref q_trial_grief) (.ref q_trial_place) (.int x_trial_arches) (.int x_trial_cats) (.int x_trial_store) (.int x_trial_hour) (.int x_trial_drops)), (q_ruling, oX4 (.ref q_ruling_steps) (.ref q_ruling_stack) (.int x_ruling_size) (.int x_ruling_top) (.int x_ruling_open) (.int x_ruling_compared) (.int x_ruling_digits) (.int x_ruling_wantsThing)), (q_trial_load, aI cT 6 f_trial_load), (q_trial_place, aI cT 8 f_trial_place), (q_ruling_steps, aI cT 40 f_ruling_steps), (q_ruling_stack, aI cT 40 f_ruling_stack), (q_trial_sag, aI cT 6 f_trial_sag), (q_trial_joy, aI cT 8 f_trial_joy), (q_trial_grief, aI cT 8 f_trial_grief), (q_trial_bowl, aI cT 8 f_trial_bowl), (q_draws, oX0 (.int u_89))]) C0 lk_X7_387 (c_X0_below l D cT F q_draws (5 : Int32) u_47 _ hg) hP hD hS hA [11] [0, 1, 2, 3, 4, 5, 6, 7, 8, 9, 10] (by decide +kernel) rfl rfl (fun _ => rfl) rfl rfl ⟨Nat.le_of_ble_eq_true rfl, Nat.le_of_ble_eq_true rfl⟩ rfl hl.1 rfl (Nat.le_of_ble_eq_true rfl) dX7_drawnAct_89 ⟨Nat.le_of_ble_eq_true rfl, Nat.le_of_ble_eq_true rfl⟩ ?_
      intro r_89 u_89 H locs hg hP hD hS
      refine lv_iadd hx hb dX7_drawnAct_92 ?_
      refine k_Vi (rest := []) (wr := [(h, oX7 w_text w_told w_now w_before (.ref q_trial) w_past w_kept w_feltNotes w_heardNotes (.ref q_draws) w_purrs w_alone w_nimbers w_ways (.ref q_ruling) w_spare), (q_ruling, oX4 (.ref q_ruling_steps) (.ref q_ruling_stack) (.int x_ruling_size) (.int x_ruling_top) (.int x_ruling_open) (.int x_ruling_compared) (.int x_ruling_digits) (.int x_ruling_wantsThing)), (q_trial_load, aI cT 6 f_trial_load), (q_trial_place, aI cT 8 f_trial_place), (q_ruling_steps, aI cT 40 f_ruling_steps), (q_ruling_stack, aI cT 40 f_ruling_stack), (q_trial_sag, aI cT 6 f_trial_sag), (q_trial_joy, aI cT 8 f_trial_joy), (q_trial_bowl, aI cT 8 f_trial_bowl), (q_draws, oX0 (.int u_89))]) (w2 := fun u_93 => [(h, oX7 w_text w_told w_now w_before (.ref q_trial) w_past w_kept w_feltNotes w_heardNotes (.ref q_draws) w_purrs w_alone w_nimbers w_ways (.ref q_ruling) w_spare), (q_ruling, oX4 (.ref q_ruling_steps) (.ref q_ruling_stack) (.int x_ruling_size) (.int x_ruling_top) (.int x_ruling_open) (.int x_ruling_compared) (.int x_ruling_digits) (.int x_ruling_wantsThing)), (q_trial_load, aI cT 6 f_trial_load), (q_trial_place, aI cT 8 f_trial_place), (q_ruling_steps, aI cT 40 f_ruling_steps), (q_ruling_stack, aI cT 40 f_ruling_stack), (q_trial_sag, aI cT 6 f_trial_sag), (q_trial_joy, aI cT 8 f_trial_joy), (q_trial_bowl, aI cT 8 f_trial_bowl), (q_draws, oX0 (.int u_89)), (q_trial, oX6 (.ref q_trial_load) (.ref q_trial_sag) (.ref q_trial_joy) (.ref q_trial_bowl) (.ref q_trial_grief) (.ref q_trial_place) (.int x_trial_arches) (.int x_trial_cats) (.int x_trial_store) (.int x_trial_hour) (.int x_trial_drops)), (q_trial_grief, aI cT 8 u_93)]) C0 lk_X7_223 (c_X6_sadden l D cT F q_trial r_47 ((1 : Int32) + r_89) (.ref q_trial_load) (.ref q_trial_sag) (.ref q_trial_joy) (.ref q_trial_bowl) q_trial_grief (.ref q_trial_place) x_trial_arches x_trial_cats x_trial_store x_trial_hour x_trial_drops f_trial_grief _ hg) hP hD hS hA [1, 9] [0, 2, 3, 4, 5, 6, 7, 8, 10, 11] (by decide +kernel) rfl rfl (fun _ => rfl) rfl rfl ⟨Nat.le_of_ble_eq_true rfl, Nat.le_of_ble_eq_true rfl⟩ rfl hl.1 rfl (Nat.le_of_ble_eq_true rfl) dX7_drawnAct_93 ⟨Nat.le_of_ble_eq_true rfl, Nat.le_of_ble_eq_true rfl⟩ ?_
      intro r_93 u_93 H locs hg hP hD hS
      refine lv_pop hx hb dX7_drawnAct_96 rfl ?_
      refine lv_iconst (v := (0 : Int32)) hx hb dX7_drawnAct_97 (by decide) ?_
      exact k_iret C0 hr (u_89, x_trial_store, x_trial_hour, x_trial_drops, x_ruling_top, f_ruling_stack, f_trial_sag, f_trial_joy, u_93, f_trial_bowl) hg (subP hP [0, 9, 10, 1, 2, 3, 4, 5, 6, 7, 11, 8] rfl) (hD.sub [0, 9, 10, 1, 2, 3, 4, 5, 6, 7, 11, 8] (nd2_ok _ (by decide +kernel)) rfl) hS dX7_drawnAct_98
    have hg := hg.2 c_53
    refine lv_aload_n hx hb dX7_drawnAct_56 rfl (lv_at hl 2 rfl) ?_
    refine gf_X7_33 C0 hP 0 rfl rfl dX7_drawnAct_57 ?_
    refine lv_iload_n hx hb dX7_drawnAct_60 rfl (lv_at hl 0 rfl) ?_
    refine lv_iconst (v := (1 : Int32)) hx hb dX7_drawnAct_61 (by decide) ?_
    refine lv_aload_n hx hb dX7_drawnAct_62 rfl (lv_at hl 2 rfl) ?_
    refine gf_X7_62 C0 hP 0 rfl rfl dX7_drawnAct_63 ?_
    refine lv_iconst (v := (3 : Int32)) hx hb dX7_drawnAct_66 (by decide) ?_
    refine k_Vi (rest := [.int (1 : Int32), .int r_47, .ref q_trial]) (wr := [(h, oX7 w_text w_told w_now w_before (.ref q_trial) w_past w_kept w_feltNotes w_heardNotes (.ref q_draws) w_purrs w_alone w_nimbers w_ways (.ref q_ruling) w_spare), (q_trial, oX6 (.ref q_trial_load) (.ref q_trial_sag) (.ref q_trial_joy) (.ref q_trial_bowl) (.ref q_trial_grief) (.ref q_trial_place) (.int x_trial_arches) (.int x_trial_cats) (.int x_trial_store) (.int x_trial_hour) (.int x_trial_drops)), (q_ruling, oX4 (.ref q_ruling_steps) (.ref q_ruling_stack) (.int x_ruling_size) (.int x_ruling_top) (.int x_ruling_open) (.int x_ruling_compared) (.int x_ruling_digits) (.int x_ruling_wantsThing)), (q_trial_load, aI cT 6 f_trial_load), (q_trial_place, aI cT 8 f_trial_place), (q_ruling_steps, aI cT 40 f_ruling_steps), (q_ruling_stack, aI cT 40 f_ruling_stack), (q_trial_sag, aI cT 6 f_trial_sag), (q_trial_joy, aI cT 8 f_trial_joy), (q_trial_grief, aI cT 8 f_trial_grief), (q_trial_bowl, aI cT 8 f_trial_bowl)]) (w2 := fun u_67 => [(h, oX7 w_text w_told w_now w_before (.ref q_trial) w_past w_kept w_feltNotes w_heardNotes (.ref q_draws) w_purrs w_alone w_nimbers w_ways (.ref q_ruling) w_spare), (q_trial, oX6 (.ref q_trial_load) (.ref q_trial_sag) (.ref q_trial_joy) (.ref q_trial_bowl) (.ref q_trial_grief) (.ref q_trial_place) (.int x_trial_arches) (.int x_trial_cats) (.int x_trial_store) (.int x_trial_hour) (.int x_trial_drops)), (q_ruling, oX4 (.ref q_ruling_steps) (.ref q_ruling_stack) (.int x_ruling_size) (.int x_ruling_top) (.int x_ruling_open) (.int x_ruling_compared) (.int x_ruling_digits) (.int x_ruling_wantsThing)), (q_trial_load, aI cT 6 f_trial_load), (q_trial_place, aI cT 8 f_trial_place), (q_ruling_steps, aI cT 40 f_ruling_steps), (q_ruling_stack, aI cT 40 f_ruling_stack), (q_trial_sag, aI cT 6 f_trial_sag), (q_trial_joy, aI cT 8 f_trial_joy), (q_trial_grief, aI cT 8 f_trial_grief), (q_trial_bowl, aI cT 8 f_trial_bowl), (q_draws, oX0 (.int u_67))]) C0 lk_X7_387 (c_X0_below l D cT F q_draws (3 : Int32) u_47 _ hg) hP hD hS hA [11] [0, 1, 2, 3, 4, 5, 6, 7, 8, 9, 10] (by decide +kernel) rfl rfl (fun _ => rfl) rfl rfl ⟨Nat.le_of_ble_eq_true rfl, Nat.le_of_ble_eq_true rfl⟩ rfl hl.1 rfl (Nat.le_of_ble_eq_true rfl) dX7_drawnAct_67 ⟨Nat.le_of_ble_eq_true rfl, Nat.le_of_ble_eq_true rfl⟩ ?_
    intro r_67 u_67 H locs hg hP hD hS
    refine lv_iadd hx hb dX7_drawnAct_70 ?_
    refine k_Vi (rest := []) (wr := [(h, oX7 w_text w_told w_now w_before (.ref q_trial) w_past w_kept w_feltNotes w_heardNotes (.ref q_draws) w_purrs w_alone w_nimbers w_ways (.ref q_ruling) w_spare), (q_ruling, oX4 (.ref q_ruling_steps) (.ref q_ruling_stack) (.int x_ruling_size) (.int x_ruling_top) (.int x_ruling_open) (.int x_ruling_compared) (.int x_ruling_digits) (.int x_ruling_wantsThing)), (q_trial_load, aI cT 6 f_trial_load), (q_trial_place, aI cT 8 f_trial_place), (q_ruling_steps, aI cT 40 f_ruling_steps), (q_ruling_stack, aI cT 40 f_ruling_stack), (q_trial_sag, aI cT 6 f_trial_sag), (q_trial_joy, aI cT 8 f_trial_joy), (q_trial_grief, aI cT 8 f_trial_grief), (q_draws, oX0 (.int u_67))]) (w2 := fun u_71 => [(h, oX7 w_text w_told w_now w_before (.ref q_trial) w_past w_kept w_feltNotes w_heardNotes (.ref q_draws) w_purrs w_alone w_nimbers w_ways (.ref q_ruling) w_spare), (q_ruling, oX4 (.ref q_ruling_steps) (.ref q_ruling_stack) (.int x_ruling_size) (.int x_ruling_top) (.int x_ruling_open) (.int x_ruling_compared) (.int x_ruling_digits) (.int x_ruling_wantsThing)), (q_trial_load, aI cT 6 f_trial_load), (q_trial_place, aI cT 8 f_trial_place), (q_ruling_steps, aI cT 40 f_ruling_steps), (q_ruling_stack, aI cT 40 f_ruling_stack), (q_trial_sag, aI cT 6 f_trial_sag), (q_trial_joy, aI cT 8 f_trial_joy), (q_trial_grief, aI cT 8 f_trial_grief), (q_draws, oX0 (.int u_67)), (q_trial, oX6 (.ref q_trial_load) (.ref q_trial_sag) (.ref q_trial_joy) (.ref q_trial_bowl) (.ref q_trial_grief) (.ref q_trial_place) (.int x_trial_arches) (.int x_trial_cats) (.int u_71.1) (.int x_trial_hour) (.int x_trial_drops)), (q_trial_bowl, aI cT 8 u_71.2)]) C0 lk_X7_214 (c_X6_feed l D cT F q_trial r_47 ((1 : Int32) + r_67) (.ref q_trial_load) (.ref q_trial_sag) (.ref q_trial_joy) q_trial_bowl (.ref q_trial_grief) (.ref q_trial_place) x_trial_arches x_trial_cats x_trial_store x_trial_hour x_trial_drops f_trial_bowl _ hg) hP hD hS hA [1, 10] [0, 2, 3, 4, 5, 6, 7, 8, 9, 11] (by decide +kernel) rfl rfl (fun _ => rfl) rfl rfl ⟨Nat.le_of_ble_eq_true rfl, Nat.le_of_ble_eq_true rfl⟩ rfl hl.1 rfl (Nat.le_of_ble_eq_true rfl) dX7_drawnAct_71 ⟨Nat.le_of_ble_eq_true rfl, Nat.le_of_ble_eq_true rfl⟩ ?_
    intro r_71 u_71 H locs hg hP hD hS
    refine lv_pop hx hb dX7_drawnAct_74 rfl ?_
    refine lv_goto (tgt := 97) hx hb dX7_drawnAct_75 (by decide) ?_
    refine lv_iconst (v := (0 : Int32)) hx hb dX7_drawnAct_97 (by decide) ?_
    exact k_iret C0 hr (u_67, u_71.1, x_trial_hour, x_trial_drops, x_ruling_top, f_ruling_stack, f_trial_sag, f_trial_joy, f_trial_grief, u_71.2) hg (subP hP [0, 9, 10, 1, 2, 3, 4, 5, 6, 7, 8, 11] rfl) (hD.sub [0, 9, 10, 1, 2, 3, 4, 5, 6, 7, 8, 11] (nd2_ok _ (by decide +kernel)) rfl) hS dX7_drawnAct_98
  have hg := hg.2 c_11
  refine lv_aload_n hx hb dX7_drawnAct_14 rfl (lv_at hl 1 rfl) ?_
  refine gf_X7_33 C0 hP 0 rfl rfl dX7_drawnAct_15 ?_
  refine lv_aload_n hx hb dX7_drawnAct_18 rfl (lv_at hl 1 rfl) ?_
  refine gf_X7_83 C0 hP 0 rfl rfl dX7_drawnAct_19 ?_
  refine k_Vi (rest := []) (wr := [(h, oX7 w_text w_told w_now w_before (.ref q_trial) w_past w_kept w_feltNotes w_heardNotes (.ref q_draws) w_purrs w_alone w_nimbers w_ways (.ref q_ruling) w_spare), (q_draws, oX0 (.int u_5))]) (w2 := fun u_22 => [(h, oX7 w_text w_told w_now w_before (.ref q_trial) w_past w_kept w_feltNotes w_heardNotes (.ref q_draws) w_purrs w_alone w_nimbers w_ways (.ref q_ruling) w_spare), (q_draws, oX0 (.int u_5)), (q_trial, oX6 (.ref q_trial_load) (.ref q_trial_sag) (.ref q_trial_joy) (.ref q_trial_bowl) (.ref q_trial_grief) (.ref q_trial_place) (.int x_trial_arches) (.int x_trial_cats) (.int x_trial_store) (.int u_22.1) (.int u_22.2.1)), (q_trial_load, aI cT 6 f_trial_load), (q_trial_place, aI cT 8 f_trial_place), (q_ruling, oX4 (.ref q_ruling_steps) (.ref q_ruling_stack) (.int x_ruling_size) (.int u_22.2.2.1) (.int x_ruling_open) (.int x_ruling_compared) (.int x_ruling_digits) (.int x_ruling_wantsThing)), (q_ruling_steps, aI cT 40 f_ruling_steps), (q_ruling_stack, aI cT 40 u_22.2.2.2.1), (q_trial_sag, aI cT 6 u_22.2.2.2.2.1), (q_trial_joy, aI cT 8 u_22.2.2.2.2.2.1), (q_trial_grief, aI cT 8 u_22.2.2.2.2.2.2.1), (q_trial_bowl, aI cT 8 u_22.2.2.2.2.2.2.2)]) C0 lk_X7_258 (c_X6_passHour l D cT F q_trial q_ruling q_trial_load q_trial_sag q_trial_joy q_trial_bowl q_trial_grief q_trial_place x_trial_arches x_trial_cats x_trial_store x_trial_hour x_trial_drops f_trial_load f_trial_place q_ruling_steps q_ruling_stack x_ruling_size x_ruling_top x_ruling_open x_ruling_compared x_ruling_digits x_ruling_wantsThing f_ruling_steps f_ruling_stack f_trial_sag f_trial_joy f_trial_grief f_trial_bowl _ hg) hP hD hS hA [1, 3, 4, 2, 5, 6, 7, 8, 9, 10] [0, 11] (by decide +kernel) rfl rfl (fun _ => rfl) rfl rfl ⟨Nat.le_of_ble_eq_true rfl, Nat.le_of_ble_eq_true rfl⟩ rfl hl.1 rfl (Nat.le_of_ble_eq_true rfl) dX7_drawnAct_22 ⟨Nat.le_of_ble_eq_true rfl, Nat.le_of_ble_eq_true rfl⟩ ?_
  intro r_22 u_22 H locs hg hP hD hS
  exact k_iret C0 hr (u_5, x_trial_store, u_22.1, u_22.2.1, u_22.2.2.1, u_22.2.2.2.1, u_22.2.2.2.2.1, u_22.2.2.2.2.2.1, u_22.2.2.2.2.2.2.1, u_22.2.2.2.2.2.2.2) hg (subP hP [0, 1, 2, 5, 3, 4, 6, 7, 8, 9, 10, 11] rfl) (hD.sub [0, 1, 2, 5, 3, 4, 6, 7, 8, 9, 10, 11] (nd2_ok _ (by decide +kernel)) rfl) hS dX7_drawnAct_25
