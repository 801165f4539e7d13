theorem dX6_farthestSagging_0 : decode cX6_farthestSagging 0 = .ok (.iload_n 1, 1) := by decide +kernel
theorem dX6_farthestSagging_1 : decode cX6_farthestSagging 1 = .ok (.istore_n 3, 1) := by decide +kernel
theorem dX6_farthestSagging_2 : decode cX6_farthestSagging 2 = .ok (.iconst 0, 1) := by decide +kernel
theorem dX6_farthestSagging_3 : decode cX6_farthestSagging 3 = .ok (.istore 4, 2) := by decide +kernel
theorem dX6_farthestSagging_5 : decode cX6_farthestSagging 5 = .ok (.iload 4, 2) := by decide +kernel
theorem dX6_farthestSagging_7 : decode cX6_farthestSagging 7 = .ok (.aload_n 0, 1) := by decide +kernel
theorem dX6_farthestSagging_8 : decode cX6_farthestSagging 8 = .ok (.getfield 34, 3) := by decide +kernel
theorem dX6_farthestSagging_11 : decode cX6_farthestSagging 11 = .ok (.if_icmp .ge 31, 3) := by decide +kernel
theorem dX6_farthestSagging_14 : decode cX6_farthestSagging 14 = .ok (.aload_n 0, 1) := by decide +kernel
theorem dX6_farthestSagging_15 : decode cX6_farthestSagging 15 = .ok (.getfield 15, 3) := by decide +kernel
theorem dX6_farthestSagging_18 : decode cX6_farthestSagging 18 = .ok (.iload 4, 2) := by decide +kernel
theorem dX6_farthestSagging_20 : decode cX6_farthestSagging 20 = .ok (.iaload, 1) := by decide +kernel
theorem dX6_farthestSagging_21 : decode cX6_farthestSagging 21 = .ok (.ifCond .le 15, 3) := by decide +kernel
theorem dX6_farthestSagging_24 : decode cX6_farthestSagging 24 = .ok (.iload 4, 2) := by decide +kernel
theorem dX6_farthestSagging_26 : decode cX6_farthestSagging 26 = .ok (.iload_n 3, 1) := by decide +kernel
theorem dX6_farthestSagging_27 : decode cX6_farthestSagging 27 = .ok (.isub, 1) := by decide +kernel
theorem dX6_farthestSagging_28 : decode cX6_farthestSagging 28 = .ok (.iload_n 2, 1) := by decide +kernel
theorem dX6_farthestSagging_29 : decode cX6_farthestSagging 29 = .ok (.imul, 1) := by decide +kernel
theorem dX6_farthestSagging_30 : decode cX6_farthestSagging 30 = .ok (.ifCond .le 6, 3) := by decide +kernel
theorem dX6_farthestSagging_33 : decode cX6_farthestSagging 33 = .ok (.iload 4, 2) := by decide +kernel
theorem dX6_farthestSagging_35 : decode cX6_farthestSagging 35 = .ok (.istore_n 3, 1) := by decide +kernel
theorem dX6_farthestSagging_36 : decode cX6_farthestSagging 36 = .ok (.iinc 4 1, 3) := by decide +kernel
theorem dX6_farthestSagging_39 : decode cX6_farthestSagging 39 = .ok (.goto (-34), 3) := by decide +kernel
theorem dX6_farthestSagging_42 : decode cX6_farthestSagging 42 = .ok (.iload_n 3, 1) := by decide +kernel
theorem dX6_farthestSagging_43 : decode cX6_farthestSagging 43 = .ok (.ireturn, 1) := by decide +kernel
def p_X6_farthestSagging_36 (F : Nat) (y4_5 : Int32) (k5 : Int32 → Int32 → Prop) (Post : Int32 → Prop) (y3_36 : Int32) : Prop := (k5 (y4_5 + (1 : Int32)) y3_36)
noncomputable def p_X6_farthestSagging_5 (F : Nat) (p2 : Int32) (x_arches : Int32) (f_sag : Nat → Int32) (Post : Int32 → Prop) (n : Nat) : Int32 → Int32 → Prop := Nat.rec (motive := fun _ => Int32 → Int32 → Prop) (fun _ _ => False) (fun _ k5 => fun (y4_5 : Int32) (y3_5 : Int32) => ((x_arches ≤ y4_5 → (Post y3_5)) ∧ (¬ x_arches ≤ y4_5 → (vp_in y4_5 6 ∧ (((f_sag y4_5.toNatClampNeg) ≤ 0 → (p_X6_farthestSagging_36 F y4_5 k5 Post y3_5)) ∧ (¬ (f_sag y4_5.toNatClampNeg) ≤ 0 → ((((y4_5 - y3_5) * p2) ≤ 0 → (p_X6_farthestSagging_36 F y4_5 k5 Post y3_5)) ∧ (¬ ((y4_5 - y3_5) * p2) ≤ 0 → (p_X6_farthestSagging_36 F y4_5 k5 Post y4_5))))))))) n
theorem p_X6_farthestSagging_5_s (F : Nat) (p2 : Int32) (x_arches : Int32) (f_sag : Nat → Int32) (Post : Int32 → Prop) (n : Nat) (y4_5 : Int32) (y3_5 : Int32) : p_X6_farthestSagging_5 F p2 x_arches f_sag Post (n + 1) y4_5 y3_5 = ((x_arches ≤ y4_5 → (Post y3_5)) ∧ (¬ x_arches ≤ y4_5 → (vp_in y4_5 6 ∧ (((f_sag y4_5.toNatClampNeg) ≤ 0 → (p_X6_farthestSagging_36 F y4_5 (p_X6_farthestSagging_5 F p2 x_arches f_sag Post n) Post y3_5)) ∧ (¬ (f_sag y4_5.toNatClampNeg) ≤ 0 → ((((y4_5 - y3_5) * p2) ≤ 0 → (p_X6_farthestSagging_36 F y4_5 (p_X6_farthestSagging_5 F p2 x_arches f_sag Post n) Post y3_5)) ∧ (¬ ((y4_5 - y3_5) * p2) ≤ 0 → (p_X6_farthestSagging_36 F y4_5 (p_X6_farthestSagging_5 F p2 x_arches f_sag Post n) Post y4_5)))))))) := rfl
def p_X6_farthestSagging (F : Nat) (p1 : Int32) (p2 : Int32) (x_arches : Int32) (f_sag : Nat → Int32) (Post : Int32 → Prop) : Prop := (p_X6_farthestSagging_5 F p2 x_arches f_sag Post F (0 : Int32) p1)
set_option maxHeartbeats 4000000 in
set_option maxRecDepth 100000 in
theorem c_X6_farthestSagging (l : Launch) (D : va_G) (cT : Nat → ClassId) (F : Nat) (h : Nat) (p1 : Int32) (p2 : Int32) (w_load : Value) (q_sag : Nat) (w_joy : Value) (w_bowl : Value) (w_grief : Value) (w_place : Value) (x_arches : Int32) (x_cats : Int32) (x_store : Int32) (x_hour : Int32) (x_drops : Int32) (f_sag : Nat → Int32) (Post : Int32 → Prop) (hg : p_X6_farthestSagging F p1 p2 x_arches f_sag Post) : MRi l D cT yX6_farthestSagging cX6_farthestSagging 5 (some .int) 0 0 [.ref h, .int p1, .int p2] [(h, oX6 w_load (.ref q_sag) w_joy w_bowl w_grief w_place (.int x_arches) (.int x_cats) (.int x_store) (.int x_hour) (.int x_drops)), (q_sag, aI cT 6 f_sag)] Post := by
  refine MRi.of (by decide) (Nat.le_of_ble_eq_true rfl) ?_
  intro p e s m below meth c hA C0 hr hP hD hS ls hl
  have hl : lv_has ls 5 [(0, .ref h), (1, .int p1), (2, .int p2)] := hl
  have hx := C0.x
  have hb := C0.b
  have hP : va_P D cls9 [(h, oX6 w_load (.ref q_sag) w_joy w_bowl w_grief w_place (.int x_arches) (.int x_cats) (.int x_store) (.int x_hour) (.int x_drops)), (q_sag, aI cT 6 f_sag)] s.heap := hP
  have hD : va_D (fun q => cT 6 ≤ q) [(h, oX6 w_load (.ref q_sag) w_joy w_bowl w_grief w_place (.int x_arches) (.int x_cats) (.int x_store) (.int x_hour) (.int x_drops)), (q_sag, aI cT 6 f_sag)] := hD
  have L5 : ∀ (n5 : Nat) (y4_5 : Int32) (y3_5 : Int32) (ls : Array Slot), p_X6_farthestSagging_5 F p2 x_arches f_sag Post n5 y4_5 y3_5 → lv_has ls 5 [(0, .ref h), (2, .int p2), (3, .int y3_5), (4, .int y4_5)] → W p l e (rmO 0 0 0 0) s m ([.ref h, .int p1, .int p2] : List Value).toArray below meth c s.heap [] 0 0 (MQ below (vp_Si Post) ([.ref h, .int p1, .int p2] : List Value).toArray s 0 0 (fun _ => False)) (F0 m 5 ls []) := by
    intro n5
    induction n5 with
    | zero =>
      intro y4_5 y3_5 ls hg hl
      exact False.elim hg
    | succ n5 ih5 =>
      have L36 : ∀ (y4_5 : Int32) (y3_36 : Int32) (ls : Array Slot), p_X6_farthestSagging_36 F y4_5 (p_X6_farthestSagging_5 F p2 x_arches f_sag Post n5) Post y3_36 → lv_has ls 5 [(0, .ref h), (2, .int p2), (3, .int y3_36), (4, .int y4_5)] → W p l e (rmO 0 0 0 0) s m ([.ref h, .int p1, .int p2] : List Value).toArray below meth c s.heap [] 0 0 (MQ below (vp_Si Post) ([.ref h, .int p1, .int p2] : List Value).toArray s 0 0 (fun _ => False)) (F0 m 36 ls []) := by
        intro y4_5 y3_36 ls hg hl
        unfold p_X6_farthestSagging_36 at hg
        refine lv_iinc (v := (y4_5 + (1 : Int32))) (lv' := [(4, .int (y4_5 + (1 : Int32))), (0, .ref h), (2, .int p2), (3, .int y3_36)]) hx hb dX6_farthestSagging_36 hl (k := 3) rfl rfl (by decide) rfl (fun ls hl => ?_)
        refine lv_goto (tgt := 5) hx hb dX6_farthestSagging_39 (by decide) ?_
        exact ih5 (y4_5 + (1 : Int32)) y3_36 _ hg (lv_sub hl [1, 2, 3, 0] rfl)
      intro y4_5 y3_5 ls hg hl
      rw [p_X6_farthestSagging_5_s] at hg
      refine lv_iload hx hb dX6_farthestSagging_5 (lv_at hl 3 rfl) ?_
      refine lv_aload_n hx hb dX6_farthestSagging_7 rfl (lv_at hl 0 rfl) ?_
      refine gf_X6_34 C0 hP 0 rfl rfl dX6_farthestSagging_8 ?_
      refine lv_icmp_ge (tgt := 42) hx hb dX6_farthestSagging_11 (by decide) (fun c_11 => ?_) (fun c_11 => ?_)
      · have hg := hg.1 c_11
        refine lv_iload_n hx hb dX6_farthestSagging_42 rfl (lv_at hl 2 rfl) ?_
        exact k_xiret C0 hr hg dX6_farthestSagging_43
      have hg := hg.2 c_11
      refine lv_aload_n hx hb dX6_farthestSagging_14 rfl (lv_at hl 0 rfl) ?_
      refine gf_X6_15 C0 hP 0 rfl rfl dX6_farthestSagging_15 ?_
      refine lv_iload hx hb dX6_farthestSagging_18 (lv_at hl 3 rfl) ?_
      obtain ⟨g_20, hg⟩ := hg
      refine k_iald C0 hP 1 rfl g_20 dX6_farthestSagging_20 ?_
      refine lv_if_le (tgt := 36) hx hb dX6_farthestSagging_21 (by decide) (fun c_21 => ?_) (fun c_21 => ?_)
      · have hg := hg.1 c_21
        exact L36 y4_5 y3_5 _ hg hl
      have hg := hg.2 c_21
      refine lv_iload hx hb dX6_farthestSagging_24 (lv_at hl 3 rfl) ?_
      refine lv_iload_n hx hb dX6_farthestSagging_26 rfl (lv_at hl 2 rfl) ?_
      refine lv_isub hx hb dX6_farthestSagging_27 ?_
      refine lv_iload_n hx hb dX6_farthestSagging_28 rfl (lv_at hl 1 rfl) ?_
      refine lv_imul hx hb dX6_farthestSagging_29 ?_
      refine lv_if_le (tgt := 36) hx hb dX6_farthestSagging_30 (by decide) (fun c_30 => ?_) (fun c_30 => ?_)
      · have hg := hg.1 c_30
        exact L36 y4_5 y3_5 _ hg hl
      have hg := hg.2 c_30
      refine lv_iload hx hb dX6_farthestSagging_33 (lv_at hl 3 rfl) ?_
      refine lv_istore_n (lv' := [(3, .int y4_5), (0, .ref h), (2, .int p2), (4, .int y4_5)]) hx hb dX6_farthestSagging_35 rfl hl (by decide) rfl (fun ls hl => ?_)
      exact L36 y4_5 y4_5 _ hg (lv_sub hl [1, 2, 0, 3] rfl)
  unfold p_X6_farthestSagging at hg
  refine lv_iload_n hx hb dX6_farthestSagging_0 rfl (lv_at hl 1 rfl) ?_
  refine lv_istore_n (lv' := [(3, .int p1), (0, .ref h), (1, .int p1), (2, .int p2)]) hx hb dX6_farthestSagging_1 rfl hl (by decide) rfl (fun ls hl => ?_)
  refine lv_iconst (v := (0 : Int32)) hx hb dX6_farthestSagging_2 (by decide) ?_
  refine lv_istore (lv' := [(4, .int (0 : Int32)), (3, .int p1), (0, .ref h), (1, .int p1), (2, .int p2)]) hx hb dX6_farthestSagging_3 hl (by decide) rfl (fun ls hl => ?_)
  exact L5 F (0 : Int32) p1 _ hg (lv_sub hl [2, 4, 1, 0] rfl)
theorem dX6_spreadFrom_0 : decode cX6_spreadFrom 0 = .ok (.iload_n 1, 1) := by decide +kernel
theorem dX6_spreadFrom_1 : decode cX6_spreadFrom 1 = .ok (.istore_n 2, 1) := by decide +kernel
theorem dX6_spreadFrom_2 : decode cX6_spreadFrom 2 = .ok (.iconst 0, 1) := by decide +kernel
theorem dX6_spreadFrom_3 : decode cX6_spreadFrom 3 = .ok (.istore_n 3, 1) := by decide +kernel
theorem dX6_spreadFrom_4 : decode cX6_spreadFrom 4 = .ok (.iload_n 3, 1) := by decide +kernel
theorem dX6_spreadFrom_5 : decode cX6_spreadFrom 5 = .ok (.aload_n 0, 1) := by decide +kernel
theorem dX6_spreadFrom_6 : decode cX6_spreadFrom 6 = .ok (.getfield 37, 3) := by decide +kernel
theorem dX6_spreadFrom_9 : decode cX6_spreadFrom 9 = .ok (.if_icmp .ge 64, 3) := by decide +kernel
theorem dX6_spreadFrom_12 : decode cX6_spreadFrom 12 = .ok (.iconst 0, 1) := by decide +kernel
theorem dX6_spreadFrom_13 : decode cX6_spreadFrom 13 = .ok (.istore 4, 2) := by decide +kernel
theorem dX6_spreadFrom_15 : decode cX6_spreadFrom 15 = .ok (.iload 4, 2) := by decide +kernel
theorem dX6_spreadFrom_17 : decode cX6_spreadFrom 17 = .ok (.aload_n 0, 1) := by decide +kernel
theorem dX6_spreadFrom_18 : decode cX6_spreadFrom 18 = .ok (.getfield 37, 3) := by decide +kernel
theorem dX6_spreadFrom_21 : decode cX6_spreadFrom 21 = .ok (.if_icmp .ge 46, 3) := by decide +kernel
theorem dX6_spreadFrom_24 : decode cX6_spreadFrom 24 = .ok (.iload_n 1, 1) := by decide +kernel
theorem dX6_spreadFrom_25 : decode cX6_spreadFrom 25 = .ok (.iload_n 3, 1) := by decide +kernel
theorem dX6_spreadFrom_26 : decode cX6_spreadFrom 26 = .ok (.ishr, 1) := by decide +kernel
theorem dX6_spreadFrom_27 : decode cX6_spreadFrom 27 = .ok (.iconst 1, 1) := by decide +kernel
theorem dX6_spreadFrom_28 : decode cX6_spreadFrom 28 = .ok (.iand, 1) := by decide +kernel
theorem dX6_spreadFrom_29 : decode cX6_spreadFrom 29 = .ok (.iconst 1, 1) := by decide +kernel
theorem dX6_spreadFrom_30 : decode cX6_spreadFrom 30 = .ok (.if_icmp .ne 31, 3) := by decide +kernel
theorem dX6_spreadFrom_33 : decode cX6_spreadFrom 33 = .ok (.aload_n 0, 1) := by decide +kernel
theorem dX6_spreadFrom_34 : decode cX6_spreadFrom 34 = .ok (.getfield 27, 3) := by decide +kernel
theorem dX6_spreadFrom_37 : decode cX6_spreadFrom 37 = .ok (.iload_n 3, 1) := by decide +kernel
theorem dX6_spreadFrom_38 : decode cX6_spreadFrom 38 = .ok (.iaload, 1) := by decide +kernel
theorem dX6_spreadFrom_39 : decode cX6_spreadFrom 39 = .ok (.aload_n 0, 1) := by decide +kernel
theorem dX6_spreadFrom_40 : decode cX6_spreadFrom 40 = .ok (.getfield 27, 3) := by decide +kernel
theorem dX6_spreadFrom_43 : decode cX6_spreadFrom 43 = .ok (.iload 4, 2) := by decide +kernel
theorem dX6_spreadFrom_45 : decode cX6_spreadFrom 45 = .ok (.iaload, 1) := by decide +kernel
theorem dX6_spreadFrom_46 : decode cX6_spreadFrom 46 = .ok (.isub, 1) := by decide +kernel
theorem dX6_spreadFrom_47 : decode cX6_spreadFrom 47 = .ok (.invokestatic 65, 3) := by decide +kernel
theorem dX6_spreadFrom_50 : decode cX6_spreadFrom 50 = .ok (.iconst 1, 1) := by decide +kernel
theorem dX6_spreadFrom_51 : decode cX6_spreadFrom 51 = .ok (.if_icmp .gt 10, 3) := by decide +kernel
theorem dX6_spreadFrom_54 : decode cX6_spreadFrom 54 = .ok (.iload_n 2, 1) := by decide +kernel
theorem dX6_spreadFrom_55 : decode cX6_spreadFrom 55 = .ok (.iconst 1, 1) := by decide +kernel
theorem dX6_spreadFrom_56 : decode cX6_spreadFrom 56 = .ok (.iload 4, 2) := by decide +kernel
theorem dX6_spreadFrom_58 : decode cX6_spreadFrom 58 = .ok (.ishl, 1) := by decide +kernel
theorem dX6_spreadFrom_59 : decode cX6_spreadFrom 59 = .ok (.ior, 1) := by decide +kernel
theorem dX6_spreadFrom_60 : decode cX6_spreadFrom 60 = .ok (.istore_n 2, 1) := by decide +kernel
theorem dX6_spreadFrom_61 : decode cX6_spreadFrom 61 = .ok (.iinc 4 1, 3) := by decide +kernel
theorem dX6_spreadFrom_64 : decode cX6_spreadFrom 64 = .ok (.goto (-49), 3) := by decide +kernel
theorem dX6_spreadFrom_67 : decode cX6_spreadFrom 67 = .ok (.iinc 3 1, 3) := by decide +kernel
theorem dX6_spreadFrom_70 : decode cX6_spreadFrom 70 = .ok (.goto (-66), 3) := by decide +kernel
theorem dX6_spreadFrom_73 : decode cX6_spreadFrom 73 = .ok (.iload_n 2, 1) := by decide +kernel
theorem dX6_spreadFrom_74 : decode cX6_spreadFrom 74 = .ok (.ireturn, 1) := by decide +kernel
def p_X6_spreadFrom_61 (F : Nat) (y4_15 : Int32) (k4 : Int32 → Int32 → Prop) (k15 : Int32 → Int32 → Prop) (Post : Int32 → Prop) (y2_61 : Int32) : Prop := (k15 (y4_15 + (1 : Int32)) y2_61)
noncomputable def p_X6_spreadFrom_15 (F : Nat) (p1 : Int32) (x_cats : Int32) (f_place : Nat → Int32) (y3_4 : Int32) (k4 : Int32 → Int32 → Prop) (Post : Int32 → Prop) (n : Nat) : Int32 → Int32 → Prop := Nat.rec (motive := fun _ => Int32 → Int32 → Prop) (fun _ _ => False) (fun _ k15 => fun (y4_15 : Int32) (y2_15 : Int32) => ((x_cats ≤ y4_15 → (k4 (y3_4 + (1 : Int32)) y2_15)) ∧ (¬ x_cats ≤ y4_15 → ((¬ ((p1 >>> (y3_4 &&& 31)) &&& (1 : Int32)) = (1 : Int32) → (p_X6_spreadFrom_61 F y4_15 k4 k15 Post y2_15)) ∧ (((p1 >>> (y3_4 &&& 31)) &&& (1 : Int32)) = (1 : Int32) → (vp_in y3_4 8 ∧ (vp_in y4_15 8 ∧ (((1 : Int32) < (if 0 ≤ ((f_place y3_4.toNatClampNeg) - (f_place y4_15.toNatClampNeg)) then ((f_place y3_4.toNatClampNeg) - (f_place y4_15.toNatClampNeg)) else 0 - ((f_place y3_4.toNatClampNeg) - (f_place y4_15.toNatClampNeg))) → (p_X6_spreadFrom_61 F y4_15 k4 k15 Post y2_15)) ∧ (¬ (1 : Int32) < (if 0 ≤ ((f_place y3_4.toNatClampNeg) - (f_place y4_15.toNatClampNeg)) then ((f_place y3_4.toNatClampNeg) - (f_place y4_15.toNatClampNeg)) else 0 - ((f_place y3_4.toNatClampNeg) - (f_place y4_15.toNatClampNeg))) → (p_X6_spreadFrom_61 F y4_15 k4 k15 Post (y2_15 ||| ((1 : Int32) <<< (y4_15 &&& 31))))))))))))) n
theorem p_X6_spreadFrom_15_s (F : Nat) (p1 : Int32) (x_cats : Int32) (f_place : Nat → Int32) (y3_4 : Int32) (k4 : Int32 → Int32 → Prop) (Post : Int32 → Prop) (n : Nat) (y4_15 : Int32) (y2_15 : Int32) : p_X6_spreadFrom_15 F p1 x_cats f_place y3_4 k4 Post (n + 1) y4_15 y2_15 = ((x_cats ≤ y4_15 → (k4 (y3_4 + (1 : Int32)) y2_15)) ∧ (¬ x_cats ≤ y4_15 → ((¬ ((p1 >>> (y3_4 &&& 31)) &&& (1 : Int32)) = (1 : Int32) → (p_X6_spreadFrom_61 F y4_15 k4 (p_X6_spreadFrom_15 F p1 x_cats f_place y3_4 k4 Post n) Post y2_15)) ∧ (((p1 >>> (y3_4 &&& 31)) &&& (1 : Int32)) = (1 : Int32) → (vp_in y3_4 8 ∧ (vp_in y4_15 8 ∧ (((1 : Int32) < (if 0 ≤ ((f_place y3_4.toNatClampNeg) - (f_place y4_15.toNatClampNeg)) then ((f_place y3_4.toNatClampNeg) - (f_place y4_15.toNatClampNeg)) else 0 - ((f_place y3_4.toNatClampNeg) - (f_place y4_15.toNatClampNeg))) → (p_X6_spreadFrom_61 F y4_15 k4 (p_X6_spreadFrom_15 F p1 x_cats f_place y3_4 k4 Post n) Post y2_15)) ∧ (¬ (1 : Int32) < (if 0 ≤ ((f_place y3_4.toNatClampNeg) - (f_place y4_15.toNatClampNeg)) then ((f_place y3_4.toNatClampNeg) - (f_place y4_15.toNatClampNeg)) else 0 - ((f_place y3_4.toNatClampNeg) - (f_place y4_15.toNatClampNeg))) → (p_X6_spreadFrom_61 F y4_15 k4 (p_X6_spreadFrom_15 F p1 x_cats f_place y3_4 k4 Post n) Post (y2_15 ||| ((1 : Int32) <<< (y4_15 &&& 31)))))))))))) := rfl
noncomputable def p_X6_spreadFrom_4 (F : Nat) (p1 : Int32) (x_cats : Int32) (f_place : Nat → Int32) (Post : Int32 → Prop) (n : Nat) : Int32 → Int32 → Prop := Nat.rec (motive := fun _ => Int32 → Int32 → Prop) (fun _ _ => False) (fun _ k4 => fun (y3_4 : Int32) (y2_4 : Int32) => ((x_cats ≤ y3_4 → (Post y2_4)) ∧ (¬ x_cats ≤ y3_4 → (p_X6_spreadFrom_15 F p1 x_cats f_place y3_4 k4 Post F (0 : Int32) y2_4)))) n
theorem p_X6_spreadFrom_4_s (F : Nat) (p1 : Int32) (x_cats : Int32) (f_place : Nat → Int32) (Post : Int32 → Prop) (n : Nat) (y3_4 : Int32) (y2_4 : Int32) : p_X6_spreadFrom_4 F p1 x_cats f_place Post (n + 1) y3_4 y2_4 = ((x_cats ≤ y3_4 → (Post y2_4)) ∧ (¬ x_cats ≤ y3_4 → (p_X6_spreadFrom_15 F p1 x_cats f_place y3_4 (p_X6_spreadFrom_4 F p1 x_cats f_place Post n) Post F (0 : Int32) y2_4))) := rfl
def p_X6_spreadFrom (F : Nat) (p1 : Int32) (x_cats : Int32) (f_place : Nat → Int32) (Post : Int32 → Prop) : Prop := (p_X6_spreadFrom_4 F p1 x_cats f_place Post F (0 : Int32) p1)
set_option maxHeartbeats 4000000 in
set_option maxRecDepth 100000 in
theorem c_X6_spreadFrom (l : Launch) (D : va_G) (cT : Nat → ClassId) (F : Nat) (h : Nat) (p1 : Int32) (w_load : Value) (w_sag : Value) (w_joy : Value) (w_bowl : Value) (w_grief : Value) (q_place : Nat) (x_arches : Int32) (x_cats : Int32) (x_store : Int32) (x_hour : Int32) (x_drops : Int32) (f_place : Nat → Int32) (Post : Int32 → Prop) (hg : p_X6_spreadFrom F p1 x_cats f_place Post) : MRi l D cT yX6_spreadFrom cX6_spreadFrom 5 (some .int) 1 30 [.ref h, .int p1] [(h, oX6 w_load w_sag w_joy w_bowl w_grief (.ref q_place) (.int x_arches) (.int x_cats) (.int x_store) (.int x_hour) (.int x_drops)), (q_place, aI cT 8 f_place)] Post := by
  refine MRi.of (by decide) (Nat.le_of_ble_eq_true rfl) ?_
  intro p e s m below meth c hA C0 hr hP hD hS ls hl
  have hl : lv_has ls 5 [(0, .ref h), (1, .int p1)] := hl
  have hx := C0.x
  have hb := C0.b
  have hP : va_P D cls9 [(h, oX6 w_load w_sag w_joy w_bowl w_grief (.ref q_place) (.int x_arches) (.int x_cats) (.int x_store) (.int x_hour) (.int x_drops)), (q_place, aI cT 8 f_place)] s.heap := hP
  have hD : va_D (fun q => cT 6 ≤ q) [(h, oX6 w_load w_sag w_joy w_bowl w_grief (.ref q_place) (.int x_arches) (.int x_cats) (.int x_store) (.int x_hour) (.int x_drops)), (q_place, aI cT 8 f_place)] := hD
  have L4 : ∀ (n4 : Nat) (y3_4 : Int32) (y2_4 : Int32) (ls : Array Slot), p_X6_spreadFrom_4 F p1 x_cats f_place Post n4 y3_4 y2_4 → lv_has ls 5 [(0, .ref h), (1, .int p1), (2, .int y2_4), (3, .int y3_4)] → W p l e (rmO 1 30 0 0) s m ([.ref h, .int p1] : List Value).toArray below meth c s.heap [] 0 0 (MQ below (vp_Si Post) ([.ref h, .int p1] : List Value).toArray s 0 0 (fun _ => False)) (F0 m 4 ls []) := by
    intro n4
    induction n4 with
    | zero =>
      intro y3_4 y2_4 ls hg hl
      exact False.elim hg
    | succ n4 ih4 =>
      have L15 : ∀ (y3_4 : Int32) (n15 : Nat) (y4_15 : Int32) (y2_15 : Int32) (ls : Array Slot), p_X6_spreadFrom_15 F p1 x_cats f_place y3_4 (p_X6_spreadFrom_4 F p1 x_cats f_place Post n4) Post n15 y4_15 y2_15 → lv_has ls 5 [(0, .ref h), (1, .int p1), (2, .int y2_15), (3, .int y3_4), (4, .int y4_15)] → W p l e (rmO 1 30 0 0) s m ([.ref h, .int p1] : List Value).toArray below meth c s.heap [] 0 0 (MQ below (vp_Si Post) ([.ref h, .int p1] : List Value).toArray s 0 0 (fun _ => False)) (F0 m 15 ls []) := by
        intro y3_4 n15
        induction n15 with
        | zero =>
          intro y4_15 y2_15 ls hg hl
          exact False.elim hg
        | succ n15 ih15 =>
          have L61 : ∀ (y4_15 : Int32) (y2_61 : Int32) (ls : Array Slot), p_X6_spreadFrom_61 F y4_15 (p_X6_spreadFrom_4 F p1 x_cats f_place Post n4) (p_X6_spreadFrom_15 F p1 x_cats f_place y3_4 (p_X6_spreadFrom_4 F p1 x_cats f_place Post n4) Post n15) Post y2_61 → lv_has ls 5 [(0, .ref h), (1, .int p1), (2, .int y2_61), (3, .int y3_4), (4, .int y4_15)] → W p l e (rmO 1 30 0 0) s m ([.ref h, .int p1] : List Value).toArray below meth c s.heap [] 0 0 (MQ below (vp_Si Post) ([.ref h, .int p1] : List Value).toArray s 0 0 (fun _ => False)) (F0 m 61 ls []) := by
            intro y4_15 y2_61 ls hg hl
            unfold p_X6_spreadFrom_61 at hg
            refine lv_iinc (v := (y4_15 + (1 : Int32))) (lv' := [(4, .int (y4_15 + (1 : Int32))), (0, .ref h), (1, .int p1), (2, .int y2_61), (3, .int y3_4)]) hx hb dX6_spreadFrom_61 hl (k := 4) rfl rfl (by decide) rfl (fun ls hl => ?_)
            refine lv_goto (tgt := 15) hx hb dX6_spreadFrom_64 (by decide) ?_
            exact ih15 (y4_15 + (1 : Int32)) y2_61 _ hg (lv_sub hl [1, 2, 3, 4, 0] rfl)
          intro y4_15 y2_15 ls hg hl
          rw [p_X6_spreadFrom_15_s] at hg
          refine lv_iload hx hb dX6_spreadFrom_15 (lv_at hl 4 rfl) ?_
          refine lv_aload_n hx hb dX6_spreadFrom_17 rfl (lv_at hl 0 rfl) ?_
          refine gf_X6_37 C0 hP 0 rfl rfl dX6_spreadFrom_18 ?_
          refine lv_icmp_ge (tgt := 67) hx hb dX6_spreadFrom_21 (by decide) (fun c_21 => ?_) (fun c_21 => ?_)
          · have hg := hg.1 c_21
            refine lv_iinc (v := (y3_4 + (1 : Int32))) (lv' := [(3, .int (y3_4 + (1 : Int32))), (0, .ref h), (1, .int p1), (2, .int y2_15), (4, .int y4_15)]) hx hb dX6_spreadFrom_67 hl (k := 3) rfl rfl (by decide) rfl (fun ls hl => ?_)
            refine lv_goto (tgt := 4) hx hb dX6_spreadFrom_70 (by decide) ?_
            exact ih4 (y3_4 + (1 : Int32)) y2_15 _ hg (lv_sub hl [1, 2, 3, 0] rfl)
          have hg := hg.2 c_21
          refine lv_iload_n hx hb dX6_spreadFrom_24 rfl (lv_at hl 1 rfl) ?_
          refine lv_iload_n hx hb dX6_spreadFrom_25 rfl (lv_at hl 3 rfl) ?_
          refine lv_ishr hx hb dX6_spreadFrom_26 ?_
          refine lv_iconst (v := (1 : Int32)) hx hb dX6_spreadFrom_27 (by decide) ?_
          refine lv_iand hx hb dX6_spreadFrom_28 ?_
          refine lv_iconst (v := (1 : Int32)) hx hb dX6_spreadFrom_29 (by decide) ?_
          refine lv_icmp_ne (tgt := 61) hx hb dX6_spreadFrom_30 (by decide) (fun c_30 => ?_) (fun c_30 => ?_)
          · have hg := hg.1 c_30
            exact L61 y4_15 y2_15 _ hg hl
          have hg := hg.2 c_30
          refine lv_aload_n hx hb dX6_spreadFrom_33 rfl (lv_at hl 0 rfl) ?_
          refine gf_X6_27 C0 hP 0 rfl rfl dX6_spreadFrom_34 ?_
          refine lv_iload_n hx hb dX6_spreadFrom_37 rfl (lv_at hl 3 rfl) ?_
          obtain ⟨g_38, hg⟩ := hg
          refine k_iald C0 hP 1 rfl g_38 dX6_spreadFrom_38 ?_
          refine lv_aload_n hx hb dX6_spreadFrom_39 rfl (lv_at hl 0 rfl) ?_
          refine gf_X6_27 C0 hP 0 rfl rfl dX6_spreadFrom_40 ?_
          refine lv_iload hx hb dX6_spreadFrom_43 (lv_at hl 4 rfl) ?_
          obtain ⟨g_45, hg⟩ := hg
          refine k_iald C0 hP 1 rfl g_45 dX6_spreadFrom_45 ?_
          refine lv_isub hx hb dX6_spreadFrom_46 ?_
          refine k_abs C0 w3_4 hl.1 (Nat.le_of_ble_eq_true rfl) (Nat.le_of_ble_eq_true rfl) (Nat.le_of_ble_eq_true rfl) (Nat.le_of_ble_eq_true rfl) dX6_spreadFrom_47 ?_
          refine lv_iconst (v := (1 : Int32)) hx hb dX6_spreadFrom_50 (by decide) ?_
          refine lv_icmp_gt (tgt := 61) hx hb dX6_spreadFrom_51 (by decide) (fun c_51 => ?_) (fun c_51 => ?_)
          · have hg := hg.1 c_51
            exact L61 y4_15 y2_15 _ hg hl
          have hg := hg.2 c_51
          refine lv_iload_n hx hb dX6_spreadFrom_54 rfl (lv_at hl 2 rfl) ?_
          refine lv_iconst (v := (1 : Int32)) hx hb dX6_spreadFrom_55 (by decide) ?_
          refine lv_iload hx hb dX6_spreadFrom_56 (lv_at hl 4 rfl) ?_
          refine lv_ishl hx hb dX6_spreadFrom_58 ?_
          refine lv_ior hx hb dX6_spreadFrom_59 ?_
          refine lv_istore_n (lv' := [(2, .int (y2_15 ||| ((1 : Int32) <<< (y4_15 &&& 31)))), (0, .ref h), (1, .int p1), (3, .int y3_4), (4, .int y4_15)]) hx hb dX6_spreadFrom_60 rfl hl (by decide) rfl (fun ls hl => ?_)
          exact L61 y4_15 (y2_15 ||| ((1 : Int32) <<< (y4_15 &&& 31))) _ hg (lv_sub hl [1, 2, 0, 3, 4] rfl)
      intro y3_4 y2_4 ls hg hl
      rw [p_X6_spreadFrom_4_s] at hg
      refine lv_iload_n hx hb dX6_spreadFrom_4 rfl (lv_at hl 3 rfl) ?_
      refine lv_aload_n hx hb dX6_spreadFrom_5 rfl (lv_at hl 0 rfl) ?_
      refine gf_X6_37 C0 hP 0 rfl rfl dX6_spreadFrom_6 ?_
      refine lv_icmp_ge (tgt := 73) hx hb dX6_spreadFrom_9 (by decide) (fun c_9 => ?_) (fun c_9 => ?_)
      · have hg := hg.1 c_9
        refine lv_iload_n hx hb dX6_spreadFrom_73 rfl (lv_at hl 2 rfl) ?_
        exact k_xiret C0 hr hg dX6_spreadFrom_74
      have hg := hg.2 c_9
      refine lv_iconst (v := (0 : Int32)) hx hb dX6_spreadFrom_12 (by decide) ?_
      refine lv_istore (lv' := [(4, .int (0 : Int32)), (0, .ref h), (1, .int p1), (2, .int y2_4), (3, .int y3_4)]) hx hb dX6_spreadFrom_13 hl (by decide) rfl (fun ls hl => ?_)
      exact L15 y3_4 F (0 : Int32) y2_4 _ hg (lv_sub hl [1, 2, 3, 4, 0] rfl)
  unfold p_X6_spreadFrom at hg
  refine lv_iload_n hx hb dX6_spreadFrom_0 rfl (lv_at hl 1 rfl) ?_
  refine lv_istore_n (lv' := [(2, .int p1), (0, .ref h), (1, .int p1)]) hx hb dX6_spreadFrom_1 rfl hl (by decide) rfl (fun ls hl => ?_)
  refine lv_iconst (v := (0 : Int32)) hx hb dX6_spreadFrom_2 (by decide) ?_
  refine lv_istore_n (lv' := [(3, .int (0 : Int32)), (2, .int p1), (0, .ref h), (1, .int p1)]) hx hb dX6_spreadFrom_3 rfl hl (by decide) rfl (fun ls hl => ?_)
  exact L4 F (0 : Int32) p1 _ hg (lv_sub hl [2, 3, 1, 0] rfl)
theorem dX6_sumOf_0 : decode cX6_sumOf 0 = .ok (.iconst 0, 1) := by decide +kernel
theorem dX6_sumOf_1 : decode cX6_sumOf 1 = .ok (.istore_n 2, 1) := by decide +kernel
theorem dX6_sumOf_2 : decode cX6_sumOf 2 = .ok (.iconst 0, 1) := by decide +kernel
theorem dX6_sumOf_3 : decode cX6_sumOf 3 = .ok (.istore_n 3, 1) := by decide +kernel
theorem dX6_sumOf_4 : decode cX6_sumOf 4 = .ok (.iload_n 3, 1) := by decide +kernel
theorem dX6_sumOf_5 : decode cX6_sumOf 5 = .ok (.iload_n 1, 1) := by decide +kernel
theorem dX6_sumOf_6 : decode cX6_sumOf 6 = .ok (.if_icmp .ge 21, 3) := by decide +kernel
theorem dX6_sumOf_9 : decode cX6_sumOf 9 = .ok (.iload_n 3, 1) := by decide +kernel
theorem dX6_sumOf_10 : decode cX6_sumOf 10 = .ok (.aload_n 0, 1) := by decide +kernel
theorem dX6_sumOf_11 : decode cX6_sumOf 11 = .ok (.arraylength, 1) := by decide +kernel
theorem dX6_sumOf_12 : decode cX6_sumOf 12 = .ok (.if_icmp .ge 15, 3) := by decide +kernel
theorem dX6_sumOf_15 : decode cX6_sumOf 15 = .ok (.iload_n 2, 1) := by decide +kernel
theorem dX6_sumOf_16 : decode cX6_sumOf 16 = .ok (.aload_n 0, 1) := by decide +kernel
theorem dX6_sumOf_17 : decode cX6_sumOf 17 = .ok (.iload_n 3, 1) := by decide +kernel
theorem dX6_sumOf_18 : decode cX6_sumOf 18 = .ok (.iaload, 1) := by decide +kernel
theorem dX6_sumOf_19 : decode cX6_sumOf 19 = .ok (.iadd, 1) := by decide +kernel
theorem dX6_sumOf_20 : decode cX6_sumOf 20 = .ok (.istore_n 2, 1) := by decide +kernel
theorem dX6_sumOf_21 : decode cX6_sumOf 21 = .ok (.iinc 3 1, 3) := by decide +kernel
theorem dX6_sumOf_24 : decode cX6_sumOf 24 = .ok (.goto (-20), 3) := by decide +kernel
theorem dX6_sumOf_27 : decode cX6_sumOf 27 = .ok (.iload_n 2, 1) := by decide +kernel
theorem dX6_sumOf_28 : decode cX6_sumOf 28 = .ok (.ireturn, 1) := by decide +kernel
noncomputable def p_X6_sumOf_4 (F : Nat) (p1 : Int32) (n_b0 : Nat) (f_b0 : Nat → Int32) (Post : Int32 → Prop) (n : Nat) : Int32 → Int32 → Prop := Nat.rec (motive := fun _ => Int32 → Int32 → Prop) (fun _ _ => False) (fun _ k4 => fun (y3_4 : Int32) (y2_4 : Int32) => ((p1 ≤ y3_4 → (Post y2_4)) ∧ (¬ p1 ≤ y3_4 → (((Int32.ofNat n_b0) ≤ y3_4 → (Post y2_4)) ∧ (¬ (Int32.ofNat n_b0) ≤ y3_4 → (vp_in y3_4 n_b0 ∧ (k4 (y3_4 + (1 : Int32)) (y2_4 + (f_b0 y3_4.toNatClampNeg))))))))) n
theorem p_X6_sumOf_4_s (F : Nat) (p1 : Int32) (n_b0 : Nat) (f_b0 : Nat → Int32) (Post : Int32 → Prop) (n : Nat) (y3_4 : Int32) (y2_4 : Int32) : p_X6_sumOf_4 F p1 n_b0 f_b0 Post (n + 1) y3_4 y2_4 = ((p1 ≤ y3_4 → (Post y2_4)) ∧ (¬ p1 ≤ y3_4 → (((Int32.ofNat n_b0) ≤ y3_4 → (Post y2_4)) ∧ (¬ (Int32.ofNat n_b0) ≤ y3_4 → (vp_in y3_4 n_b0 ∧ ((p_X6_sumOf_4 F p1 n_b0 f_b0 Post n) (y3_4 + (1 : Int32)) (y2_4 + (f_b0 y3_4.toNatClampNeg)))))))) := rfl
def p_X6_sumOf (F : Nat) (p1 : Int32) (n_b0 : Nat) (f_b0 : Nat → Int32) (Post : Int32 → Prop) : Prop := (p_X6_sumOf_4 F p1 n_b0 f_b0 Post F (0 : Int32) (0 : Int32))
set_option maxHeartbeats 4000000 in
set_option maxRecDepth 100000 in
theorem c_X6_sumOf (l : Launch) (D : va_G) (cT : Nat → ClassId) (F : Nat) (b0 : Nat) (p1 : Int32) (n_b0 : Nat) (f_b0 : Nat → Int32) (Post : Int32 → Prop) (hg : p_X6_sumOf F p1 n_b0 f_b0 Post) : MRi l D cT yX6_sumOf cX6_sumOf 4 (some .int) 0 0 [.ref b0, .int p1] [(b0, aI cT n_b0 f_b0)] Post := by
  refine MRi.of (by decide) (Nat.le_of_ble_eq_true rfl) ?_
  intro p e s m below meth c hA C0 hr hP hD hS ls hl
  have hl : lv_has ls 4 [(0, .ref b0), (1, .int p1)] := hl
  have hx := C0.x
  have hb := C0.b
  have hP : va_P D cls9 [(b0, aI cT n_b0 f_b0)] s.heap := hP
  have hD : va_D (fun q => cT 6 ≤ q) [(b0, aI cT n_b0 f_b0)] := hD
  have L4 : ∀ (n4 : Nat) (y3_4 : Int32) (y2_4 : Int32) (ls : Array Slot), p_X6_sumOf_4 F p1 n_b0 f_b0 Post n4 y3_4 y2_4 → lv_has ls 4 [(0, .ref b0), (1, .int p1), (2, .int y2_4), (3, .int y3_4)] → W p l e (rmO 0 0 0 0) s m ([.ref b0, .int p1] : List Value).toArray below meth c s.heap [] 0 0 (MQ below (vp_Si Post) ([.ref b0, .int p1] : List Value).toArray s 0 0 (fun _ => False)) (F0 m 4 ls []) := by
    intro n4
    induction n4 with
    | zero =>
      intro y3_4 y2_4 ls hg hl
      exact False.elim hg
    | succ n4 ih4 =>
      intro y3_4 y2_4 ls hg hl
      rw [p_X6_sumOf_4_s] at hg
      refine lv_iload_n hx hb dX6_sumOf_4 rfl (lv_at hl 3 rfl) ?_
      refine lv_iload_n hx hb dX6_sumOf_5 rfl (lv_at hl 1 rfl) ?_
      refine lv_icmp_ge (tgt := 27) hx hb dX6_sumOf_6 (by decide) (fun c_6 => ?_) (fun c_6 => ?_)
      · have hg := hg.1 c_6
        refine lv_iload_n hx hb dX6_sumOf_27 rfl (lv_at hl 2 rfl) ?_
        exact k_xiret C0 hr hg dX6_sumOf_28
      have hg := hg.2 c_6
      refine lv_iload_n hx hb dX6_sumOf_9 rfl (lv_at hl 3 rfl) ?_
      refine lv_aload_n hx hb dX6_sumOf_10 rfl (lv_at hl 0 rfl) ?_
      refine k_alen C0 hP 0 rfl (v := (Int32.ofNat n_b0)) rfl dX6_sumOf_11 ?_
      refine lv_icmp_ge (tgt := 27) hx hb dX6_sumOf_12 (by decide) (fun c_12 => ?_) (fun c_12 => ?_)
      · have hg := hg.1 c_12
        refine lv_iload_n hx hb dX6_sumOf_27 rfl (lv_at hl 2 rfl) ?_
        exact k_xiret C0 hr hg dX6_sumOf_28
      have hg := hg.2 c_12
      refine lv_iload_n hx hb dX6_sumOf_15 rfl (lv_at hl 2 rfl) ?_
      refine lv_aload_n hx hb dX6_sumOf_16 rfl (lv_at hl 0 rfl) ?_
      refine lv_iload_n hx hb dX6_sumOf_17 rfl (lv_at hl 3 rfl) ?_
      obtain ⟨g_18, hg⟩ := hg
      refine k_iald C0 hP 0 rfl g_18 dX6_sumOf_18 ?_
      refine lv_iadd hx hb dX6_sumOf_19 ?_
      refine lv_istore_n (lv' := [(2, .int (y2_4 + (f_b0 y3_4.toNatClampNeg))), (0, .ref b0), (1, .int p1), (3, .int y3_4)]) hx hb dX6_sumOf_20 rfl hl (by decide) rfl (fun ls hl => ?_)
      refine lv_iinc (v := (y3_4 + (1 : Int32))) (lv' := [(3, .int (y3_4 + (1 : Int32))), (2, .int (y2_4 + (f_b0 y3_4.toNatClampNeg))), (0, .ref b0), (1, .int p1)]) hx hb dX6_sumOf_21 hl (k := 3) rfl rfl (by decide) rfl (fun ls hl => ?_)
      refine lv_goto (tgt := 4) hx hb dX6_sumOf_24 (by decide) ?_
      exact ih4 (y3_4 + (1 : Int32)) (y2_4 + (f_b0 y3_4.toNatClampNeg)) _ hg (lv_sub hl [2, 3, 1, 0] rfl)
  unfold p_X6_sumOf at hg
  refine lv_iconst (v := (0 : Int32)) hx hb dX6_sumOf_0 (by decide) ?_
  refine lv_istore_n (lv' := [(2, .int (0 : Int32)), (0, .ref b0), (1, .int p1)]) hx hb dX6_sumOf_1 rfl hl (by decide) rfl (fun ls hl => ?_)
  refine lv_iconst (v := (0 : Int32)) hx hb dX6_sumOf_2 (by decide) ?_
  refine lv_istore_n (lv' := [(3, .int (0 : Int32)), (2, .int (0 : Int32)), (0, .ref b0), (1, .int p1)]) hx hb dX6_sumOf_3 rfl hl (by decide) rfl (fun ls hl => ?_)
  exact L4 F (0 : Int32) (0 : Int32) _ hg (lv_sub hl [2, 3, 1, 0] rfl)
theorem dX6_allSags_0 : decode cX6_allSags 0 = .ok (.aload_n 0, 1) := by decide +kernel
theorem dX6_allSags_1 : decode cX6_allSags 1 = .ok (.getfield 15, 3) := by decide +kernel
theorem dX6_allSags_4 : decode cX6_allSags 4 = .ok (.aload_n 0, 1) := by decide +kernel
theorem dX6_allSags_5 : decode cX6_allSags 5 = .ok (.getfield 34, 3) := by decide +kernel
theorem dX6_allSags_8 : decode cX6_allSags 8 = .ok (.invokestatic 95, 3) := by decide +kernel
theorem dX6_allSags_11 : decode cX6_allSags 11 = .ok (.ireturn, 1) := by decide +kernel
def p_X6_allSags (F : Nat) (x_arches : Int32) (f_sag : Nat → Int32) (Post : Int32 → Prop) : Prop := (p_X6_sumOf F x_arches 6 f_sag (fun (r_8 : Int32) => (Post r_8)))
set_option maxHeartbeats 4000000 in
set_option maxRecDepth 100000 in
theorem c_X6_allSags (l : Launch) (D : va_G) (cT : Nat → ClassId) (F : Nat) (h : Nat) (w_load : Value) (q_sag : Nat) (w_joy : Value) (w_bowl : Value) (w_grief : Value) (w_place : Value) (x_arches : Int32) (x_cats : Int32) (x_store : Int32) (x_hour : Int32) (x_drops : Int32) (f_sag : Nat → Int32) (Post : Int32 → Prop) (hg : p_X6_allSags F x_arches f_sag Post) : MRi l D cT yX6_allSags cX6_allSags 1 (some .int) 1 23 [.ref h] [(h, oX6 w_load (.ref q_sag) w_joy w_bowl w_grief w_place (.int x_arches) (.int x_cats) (.int x_store) (.int x_hour) (.int x_drops)), (q_sag, aI cT 6 f_sag)] Post := by
  refine MRi.of (by decide) (Nat.le_of_ble_eq_true rfl) ?_
  intro p e s m below meth c hA C0 hr hP hD hS ls hl
  have hl : lv_has ls 1 [(0, .ref h)] := hl
  have hx := C0.x
  have hb := C0.b
  have hP : va_P D cls9 [(h, oX6 w_load (.ref q_sag) w_joy w_bowl w_grief w_place (.int x_arches) (.int x_cats) (.int x_store) (.int x_hour) (.int x_drops)), (q_sag, aI cT 6 f_sag)] s.heap := hP
  have hD : va_D (fun q => cT 6 ≤ q) [(h, oX6 w_load (.ref q_sag) w_joy w_bowl w_grief w_place (.int x_arches) (.int x_cats) (.int x_store) (.int x_hour) (.int x_drops)), (q_sag, aI cT 6 f_sag)] := hD
  unfold p_X6_allSags at hg
  refine lv_aload_n hx hb dX6_allSags_0 rfl (lv_at hl 0 rfl) ?_
  refine gf_X6_15 C0 hP 0 rfl rfl dX6_allSags_1 ?_
  refine lv_aload_n hx hb dX6_allSags_4 rfl (lv_at hl 0 rfl) ?_
  refine gf_X6_34 C0 hP 0 rfl rfl dX6_allSags_5 ?_
  refine k_Sxi (rest := []) C0 lk_X6_95 (c_X6_sumOf l D cT F q_sag x_arches 6 f_sag _ hg) hP hD hS hA [1] (by decide +kernel) rfl ⟨Nat.le_of_ble_eq_true rfl, Nat.le_of_ble_eq_true rfl⟩ rfl hl.1 rfl (Nat.le_of_ble_eq_true rfl) dX6_allSags_8 ⟨Nat.le_of_ble_eq_true rfl, Nat.le_of_ble_eq_true rfl⟩ (fun r_8 hg => ?_)
  exact k_xiret C0 hr hg dX6_allSags_11
theorem dX6_allLoads_0 : decode cX6_allLoads 0 = .ok (.aload_n 0, 1) := by decide +kernel
theorem dX6_allLoads_1 : decode cX6_allLoads 1 = .ok (.getfield 9, 3) := by decide +kernel
theorem dX6_allLoads_4 : decode cX6_allLoads 4 = .ok (.aload_n 0, 1) := by decide +kernel
theorem dX6_allLoads_5 : decode cX6_allLoads 5 = .ok (.getfield 34, 3) := by decide +kernel
theorem dX6_allLoads_8 : decode cX6_allLoads 8 = .ok (.invokestatic 95, 3) := by decide +kernel
theorem dX6_allLoads_11 : decode cX6_allLoads 11 = .ok (.ireturn, 1) := by decide +kernel
def p_X6_allLoads (F : Nat) (x_arches : Int32) (f_load : Nat → Int32) (Post : Int32 → Prop) : Prop := (p_X6_sumOf F x_arches 6 f_load (fun (r_8 : Int32) => (Post r_8)))
set_option maxHeartbeats 4000000 in
set_option maxRecDepth 100000 in
theorem c_X6_allLoads (l : Launch) (D : va_G) (cT : Nat → ClassId) (F : Nat) (h : Nat) (q_load : Nat) (w_sag : Value) (w_joy : Value) (w_bowl : Value) (w_grief : Value) (w_place : Value) (x_arches : Int32) (x_cats : Int32) (x_store : Int32) (x_hour : Int32) (x_drops : Int32) (f_load : Nat → Int32) (Post : Int32 → Prop) (hg : p_X6_allLoads F x_arches f_load Post) : MRi l D cT yX6_allLoads cX6_allLoads 1 (some .int) 1 23 [.ref h] [(h, oX6 (.ref q_load) w_sag w_joy w_bowl w_grief w_place (.int x_arches) (.int x_cats) (.int x_store) (.int x_hour) (.int x_drops)), (q_load, aI cT 6 f_load)] Post := by
  refine MRi.of (by decide) (Nat.le_of_ble_eq_true rfl) ?_
  intro p e s m below meth c hA C0 hr hP hD hS ls hl
  have hl : lv_has ls 1 [(0, .ref h)] := hl
  have hx := C0.x
  have hb := C0.b
  have hP : va_P D cls9 [(h, oX6 (.ref q_load) w_sag w_joy w_bowl w_grief w_place (.int x_arches) (.int x_cats) (.int x_store) (.int x_hour) (.int x_drops)), (q_load, aI cT 6 f_load)] s.heap := hP
  have hD : va_D (fun q => cT 6 ≤ q) [(h, oX6 (.ref q_load) w_sag w_joy w_bowl w_grief w_place (.int x_arches) (.int x_cats) (.int x_store) (.int x_hour) (.int x_drops)), (q_load, aI cT 6 f_load)] := hD
  unfold p_X6_allLoads at hg
  refine lv_aload_n hx hb dX6_allLoads_0 rfl (lv_at hl 0 rfl) ?_
  refine gf_X6_9 C0 hP 0 rfl rfl dX6_allLoads_1 ?_
  refine lv_aload_n hx hb dX6_allLoads_4 rfl (lv_at hl 0 rfl) ?_
  refine gf_X6_34 C0 hP 0 rfl rfl dX6_allLoads_5 ?_
  refine k_Sxi (rest := []) C0 lk_X6_95 (c_X6_sumOf l D cT F q_load x_arches 6 f_load _ hg) hP hD hS hA [1] (by decide +kernel) rfl ⟨Nat.le_of_ble_eq_true rfl, Nat.le_of_ble_eq_true rfl⟩ rfl hl.1 rfl (Nat.le_of_ble_eq_true rfl) dX6_allLoads_8 ⟨Nat.le_of_ble_eq_true rfl, Nat.le_of_ble_eq_true rfl⟩ (fun r_8 hg => ?_)
  exact k_xiret C0 hr hg dX6_allLoads_11
theorem dX6_allJoy_0 : decode cX6_allJoy 0 = .ok (.aload_n 0, 1) := by decide +kernel
theorem dX6_allJoy_1 : decode cX6_allJoy 1 = .ok (.getfield 18, 3) := by decide +kernel
theorem dX6_allJoy_4 : decode cX6_allJoy 4 = .ok (.aload_n 0, 1) := by decide +kernel
theorem dX6_allJoy_5 : decode cX6_allJoy 5 = .ok (.getfield 37, 3) := by decide +kernel
theorem dX6_allJoy_8 : decode cX6_allJoy 8 = .ok (.invokestatic 95, 3) := by decide +kernel
theorem dX6_allJoy_11 : decode cX6_allJoy 11 = .ok (.ireturn, 1) := by decide +kernel
def p_X6_allJoy (F : Nat) (x_cats : Int32) (f_joy : Nat → Int32) (Post : Int32 → Prop) : Prop := (p_X6_sumOf F x_cats 8 f_joy (fun (r_8 : Int32) => (Post r_8)))
set_option maxHeartbeats 4000000 in
set_option maxRecDepth 100000 in
theorem c_X6_allJoy (l : Launch) (D : va_G) (cT : Nat → ClassId) (F : Nat) (h : Nat) (w_load : Value) (w_sag : Value) (q_joy : Nat) (w_bowl : Value) (w_grief : Value) (w_place : Value) (x_arches : Int32) (x_cats : Int32) (x_store : Int32) (x_hour : Int32) (x_drops : Int32) (f_joy : Nat → Int32) (Post : Int32 → Prop) (hg : p_X6_allJoy F x_cats f_joy Post) : MRi l D cT yX6_allJoy cX6_allJoy 1 (some .int) 1 23 [.ref h] [(h, oX6 w_load w_sag (.ref q_joy) w_bowl w_grief w_place (.int x_arches) (.int x_cats) (.int x_store) (.int x_hour) (.int x_drops)), (q_joy, aI cT 8 f_joy)] Post := by
  refine MRi.of (by decide) (Nat.le_of_ble_eq_true rfl) ?_
  intro p e s m below meth c hA C0 hr hP hD hS ls hl
  have hl : lv_has ls 1 [(0, .ref h)] := hl
  have hx := C0.x
  have hb := C0.b
  have hP : va_P D cls9 [(h, oX6 w_load w_sag (.ref q_joy) w_bowl w_grief w_place (.int x_arches) (.int x_cats) (.int x_store) (.int x_hour) (.int x_drops)), (q_joy, aI cT 8 f_joy)] s.heap := hP
  have hD : va_D (fun q => cT 6 ≤ q) [(h, oX6 w_load w_sag (.ref q_joy) w_bowl w_grief w_place (.int x_arches) (.int x_cats) (.int x_store) (.int x_hour) (.int x_drops)), (q_joy, aI cT 8 f_joy)] := hD
  unfold p_X6_allJoy at hg
  refine lv_aload_n hx hb dX6_allJoy_0 rfl (lv_at hl 0 rfl) ?_
  refine gf_X6_18 C0 hP 0 rfl rfl dX6_allJoy_1 ?_
  refine lv_aload_n hx hb dX6_allJoy_4 rfl (lv_at hl 0 rfl) ?_
  refine gf_X6_37 C0 hP 0 rfl rfl dX6_allJoy_5 ?_
  refine k_Sxi (rest := []) C0 lk_X6_95 (c_X6_sumOf l D cT F q_joy x_cats 8 f_joy _ hg) hP hD hS hA [1] (by decide +kernel) rfl ⟨Nat.le_of_ble_eq_true rfl, Nat.le_of_ble_eq_true rfl⟩ rfl hl.1 rfl (Nat.le_of_ble_eq_true rfl) dX6_allJoy_8 ⟨Nat.le_of_ble_eq_true rfl, Nat.le_of_ble_eq_true rfl⟩ (fun r_8 hg => ?_)
  exact k_xiret C0 hr hg dX6_allJoy_11
theorem dX7_sign_0 : decode cX7_sign 0 = .ok (.aload_n 0, 1) := by decide +kernel
theorem dX7_sign_1 : decode cX7_sign 1 = .ok (.getfield 10, 3) := by decide +kernel
theorem dX7_sign_4 : decode cX7_sign 4 = .ok (.iload_n 1, 1) := by decide +kernel
theorem dX7_sign_5 : decode cX7_sign 5 = .ok (.invokevirtual 90, 3) := by decide +kernel
theorem dX7_sign_8 : decode cX7_sign 8 = .ok (.ireturn, 1) := by decide +kernel
def p_X7_sign (F : Nat) (p1 : Int32) (x_text_length : Int32) (f_text_signs : Nat → Int32) (Post : Int32 → (Int32 × (Nat → Int32)) → Prop) : Prop := (p_X5_addFour F p1 x_text_length f_text_signs (fun (r_5 : Int32) (u_5 : (Int32 × (Nat → Int32))) => (Post r_5 (u_5.1, u_5.2))))
set_option maxHeartbeats 4000000 in
set_option maxRecDepth 100000 in
theorem c_X7_sign (l : Launch) (D : va_G) (cT : Nat → ClassId) (F : Nat) (h : Nat) (p1 : Int32) (q_text : Nat) (w_told : Value) (w_now : Value) (w_before : Value) (w_trial : Value) (w_past : Value) (w_kept : Value) (w_feltNotes : Value) (w_heardNotes : Value) (w_draws : Value) (w_purrs : Value) (w_alone : Value) (w_nimbers : Value) (w_ways : Value) (w_ruling : Value) (w_spare : Value) (q_text_signs : Nat) (x_text_length : Int32) (f_text_signs : Nat → Int32) (Post : Int32 → (Int32 × (Nat → Int32)) → Prop) (hg : p_X7_sign F p1 x_text_length f_text_signs Post) : MWi l D cT yX7_sign cX7_sign 2 (some .int) 1 22 0 0 [.ref h, .int p1] [(h, oX7 (.ref q_text) w_told w_now w_before w_trial w_past w_kept w_feltNotes w_heardNotes w_draws w_purrs w_alone w_nimbers w_ways w_ruling w_spare), (q_text, oX5 (.ref q_text_signs) (.int x_text_length)), (q_text_signs, aC cT 80 f_text_signs)] Post (fun (u : (Int32 × (Nat → Int32))) => [(h, oX7 (.ref q_text) w_told w_now w_before w_trial w_past w_kept w_feltNotes w_heardNotes w_draws w_purrs w_alone w_nimbers w_ways w_ruling w_spare), (q_text, oX5 (.ref q_text_signs) (.int u.1)), (q_text_signs, aC cT 80 u.2)]) := by
  refine MWi.of (by decide) (Nat.le_of_ble_eq_true rfl) ?_
  intro p e s m below meth c A hA C0 hnm hr hP hD ls hl
  have hl : lv_has ls 2 [(0, .ref h), (1, .int p1)] := hl
  have hx := C0.x
  have hb := C0.b
  have hS : va_S A s.heap s.heap [] := va_S.rf
  have hP : va_P D cls9 [(h, oX7 (.ref q_text) w_told w_now w_before w_trial w_past w_kept w_feltNotes w_heardNotes w_draws w_purrs w_alone w_nimbers w_ways w_ruling w_spare), (q_text, oX5 (.ref q_text_signs) (.int x_text_length)), (q_text_signs, aC cT 80 f_text_signs)] s.heap := hP
  have hD : va_D A [(h, oX7 (.ref q_text) w_told w_now w_before w_trial w_past w_kept w_feltNotes w_heardNotes w_draws w_purrs w_alone w_nimbers w_ways w_ruling w_spare), (q_text, oX5 (.ref q_text_signs) (.int x_text_length)), (q_text_signs, aC cT 80 f_text_signs)] := hD
  unfold p_X7_sign at hg
  refine lv_aload_n hx hb dX7_sign_0 rfl (lv_at hl 0 rfl) ?_
  refine gf_X7_10 C0 hP 0 rfl rfl dX7_sign_1 ?_
  refine lv_iload_n hx hb dX7_sign_4 rfl (lv_at hl 1 rfl) ?_
  refine k_Vi (rest := []) (wr := [(h, oX7 (.ref q_text) w_told w_now w_before w_trial w_past w_kept w_feltNotes w_heardNotes w_draws w_purrs w_alone w_nimbers w_ways w_ruling w_spare)]) (w2 := fun u_5 => [(h, oX7 (.ref q_text) w_told w_now w_before w_trial w_past w_kept w_feltNotes w_heardNotes w_draws w_purrs w_alone w_nimbers w_ways w_ruling w_spare), (q_text, oX5 (.ref q_text_signs) (.int u_5.1)), (q_text_signs, aC cT 80 u_5.2)]) C0 lk_X7_90 (c_X5_addFour l D cT F q_text p1 q_text_signs x_text_length f_text_signs _ hg) hP hD hS hA [1, 2] [0] (by decide +kernel) rfl rfl (fun _ => rfl) rfl rfl ⟨Nat.le_of_ble_eq_true rfl, Nat.le_of_ble_eq_true rfl⟩ rfl hl.1 rfl (Nat.le_of_ble_eq_true rfl) dX7_sign_5 ⟨Nat.le_of_ble_eq_true rfl, Nat.le_of_ble_eq_true rfl⟩ ?_
  intro r_5 u_5 H locs hg hP hD hS
  exact k_iret C0 hr (u_5.1, u_5.2) hg hP hD hS dX7_sign_8
theorem dX7_end_0 : decode cX7_end 0 = .ok (.iload_n 1, 1) := by decide +kernel
theorem dX7_end_1 : decode cX7_end 1 = .ok (.ifCond .lt 14, 3) := by decide +kernel
theorem dX7_end_4 : decode cX7_end 4 = .ok (.iload_n 1, 1) := by decide +kernel
theorem dX7_end_5 : decode cX7_end 5 = .ok (.aload_n 0, 1) := by decide +kernel
theorem dX7_end_6 : decode cX7_end 6 = .ok (.getfield 10, 3) := by decide +kernel
theorem dX7_end_9 : decode cX7_end 9 = .ok (.getfield 94, 3) := by decide +kernel
theorem dX7_end_12 : decode cX7_end 12 = .ok (.if_icmp .le 5, 3) := by decide +kernel
theorem dX7_end_15 : decode cX7_end 15 = .ok (.iconst 0, 1) := by decide +kernel
theorem dX7_end_16 : decode cX7_end 16 = .ok (.ireturn, 1) := by decide +kernel
theorem dX7_end_17 : decode cX7_end 17 = .ok (.aload_n 0, 1) := by decide +kernel
theorem dX7_end_18 : decode cX7_end 18 = .ok (.getfield 10, 3) := by decide +kernel
theorem dX7_end_21 : decode cX7_end 21 = .ok (.iload_n 1, 1) := by decide +kernel
theorem dX7_end_22 : decode cX7_end 22 = .ok (.putfield 94, 3) := by decide +kernel
theorem dX7_end_25 : decode cX7_end 25 = .ok (.iconst 1, 1) := by decide +kernel
theorem dX7_end_26 : decode cX7_end 26 = .ok (.ireturn, 1) := by decide +kernel
def p_X7_end (F : Nat) (p1 : Int32) (x_text_length : Int32) (Post : Int32 → Int32 → Prop) : Prop := ((p1 < 0 → (Post (0 : Int32) x_text_length)) ∧ (¬ p1 < 0 → ((p1 ≤ x_text_length → (Post (1 : Int32) p1)) ∧ (¬ p1 ≤ x_text_length → (Post (0 : Int32) x_text_length)))))
set_option maxHeartbeats 4000000 in
set_option maxRecDepth 100000 in
theorem c_X7_end (l : Launch) (D : va_G) (cT : Nat → ClassId) (F : Nat) (h : Nat) (p1 : Int32) (q_text : Nat) (w_told : Value) (w_now : Value) (w_before : Value) (w_trial : Value) (w_past : Value) (w_kept : Value) (w_feltNotes : Value) (w_heardNotes : Value) (w_draws : Value) (w_purrs : Value) (w_alone : Value) (w_nimbers : Value) (w_ways : Value) (w_ruling : Value) (w_spare : Value) (w_text_signs : Value) (x_text_length : Int32) (Post : Int32 → Int32 → Prop) (hg : p_X7_end F p1 x_text_length Post) : MWi l D cT yX7_end cX7_end 2 (some .boolean) 0 0 0 0 [.ref h, .int p1] [(h, oX7 (.ref q_text) w_told w_now w_before w_trial w_past w_kept w_feltNotes w_heardNotes w_draws w_purrs w_alone w_nimbers w_ways w_ruling w_spare), (q_text, oX5 w_text_signs (.int x_text_length))] Post (fun (u : Int32) => [(h, oX7 (.ref q_text) w_told w_now w_before w_trial w_past w_kept w_feltNotes w_heardNotes w_draws w_purrs w_alone w_nimbers w_ways w_ruling w_spare), (q_text, oX5 w_text_signs (.int u))]) := by
  refine MWi.of (by decide) (Nat.le_of_ble_eq_true rfl) ?_
  intro p e s m below meth c A hA C0 hnm hr hP hD ls hl
  have hl : lv_has ls 2 [(0, .ref h), (1, .int p1)] := hl
  have hx := C0.x
  have hb := C0.b
  have hS : va_S A s.heap s.heap [] := va_S.rf
  have hP : va_P D cls9 [(h, oX7 (.ref q_text) w_told w_now w_before w_trial w_past w_kept w_feltNotes w_heardNotes w_draws w_purrs w_alone w_nimbers w_ways w_ruling w_spare), (q_text, oX5 w_text_signs (.int x_text_length))] s.heap := hP
  have hD : va_D A [(h, oX7 (.ref q_text) w_told w_now w_before w_trial w_past w_kept w_feltNotes w_heardNotes w_draws w_purrs w_alone w_nimbers w_ways w_ruling w_spare), (q_text, oX5 w_text_signs (.int x_text_length))] := hD
  unfold p_X7_end at hg
  refine lv_iload_n hx hb dX7_end_0 rfl (lv_at hl 1 rfl) ?_
  refine lv_if_lt (tgt := 15) hx hb dX7_end_1 (by decide) (fun c_1 => ?_) (fun c_1 => ?_)
  · have hg := hg.1 c_1
    refine lv_iconst (v := (0 : Int32)) hx hb dX7_end_15 (by decide) ?_
    exact k_zret C0 hr (Or.inl rfl) x_text_length hg hP hD hS dX7_end_16
  have hg := hg.2 c_1
  refine lv_iload_n hx hb dX7_end_4 rfl (lv_at hl 1 rfl) ?_
  refine lv_aload_n hx hb dX7_end_5 rfl (lv_at hl 0 rfl) ?_
  refine gf_X7_10 C0 hP 0 rfl rfl dX7_end_6 ?_
  refine gf_X7_94 C0 hP 1 rfl rfl dX7_end_9 ?_
  refine lv_icmp_le (tgt := 17) hx hb dX7_end_12 (by decide) (fun c_12 => ?_) (fun c_12 => ?_)
  · have hg := hg.1 c_12
    refine lv_aload_n hx hb dX7_end_17 rfl (lv_at hl 0 rfl) ?_
    refine gf_X7_10 C0 hP 0 rfl rfl dX7_end_18 ?_
    refine lv_iload_n hx hb dX7_end_21 rfl (lv_at hl 1 rfl) ?_
    refine pf_X7_94 C0 hP hD hS 1 rfl (Nat.le_of_ble_eq_true rfl) (ws2 := [(h, oX7 (.ref q_text) w_told w_now w_before w_trial w_past w_kept w_feltNotes w_heardNotes w_draws w_purrs w_alone w_nimbers w_ways w_ruling w_spare), (q_text, oX5 w_text_signs (.int p1))]) rfl dX7_end_22 (fun H locs hP hD hS => ?_)
    refine lv_iconst (v := (1 : Int32)) hx hb dX7_end_25 (by decide) ?_
    exact k_zret C0 hr (Or.inr rfl) p1 hg hP hD hS dX7_end_26
  have hg := hg.2 c_12
  refine lv_iconst (v := (0 : Int32)) hx hb dX7_end_15 (by decide) ?_
  exact k_zret C0 hr (Or.inl rfl) x_text_length hg hP hD hS dX7_end_16
theorem dX7_linesTaken_0 : decode cX7_linesTaken 0 = .ok (.aload_n 0, 1) := by decide +kernel
theorem dX7_linesTaken_1 : decode cX7_linesTaken 1 = .ok (.getfield 10, 3) := by decide +kernel
theorem dX7_linesTaken_4 : decode cX7_linesTaken 4 = .ok (.iconst 0, 1) := by decide +kernel
theorem dX7_linesTaken_5 : decode cX7_linesTaken 5 = .ok (.putfield 94, 3) := by decide +kernel
theorem dX7_linesTaken_8 : decode cX7_linesTaken 8 = .ok (.iload_n 2, 1) := by decide +kernel
theorem dX7_linesTaken_9 : decode cX7_linesTaken 9 = .ok (.ifCond .le 11, 3) := by decide +kernel
theorem dX7_linesTaken_12 : decode cX7_linesTaken 12 = .ok (.aload_n 0, 1) := by decide +kernel
theorem dX7_linesTaken_13 : decode cX7_linesTaken 13 = .ok (.getfield 39, 3) := by decide +kernel
theorem dX7_linesTaken_16 : decode cX7_linesTaken 16 = .ok (.iconst 0, 1) := by decide +kernel
theorem dX7_linesTaken_17 : decode cX7_linesTaken 17 = .ok (.putfield 125, 3) := by decide +kernel
theorem dX7_linesTaken_20 : decode cX7_linesTaken 20 = .ok (.iload_n 1, 1) := by decide +kernel
theorem dX7_linesTaken_21 : decode cX7_linesTaken 21 = .ok (.iconst (-1), 1) := by decide +kernel
theorem dX7_linesTaken_22 : decode cX7_linesTaken 22 = .ok (.if_icmp .ne 7, 3) := by decide +kernel
theorem dX7_linesTaken_25 : decode cX7_linesTaken 25 = .ok (.iload_n 2, 1) := by decide +kernel
theorem dX7_linesTaken_26 : decode cX7_linesTaken 26 = .ok (.goto 6, 3) := by decide +kernel
theorem dX7_linesTaken_29 : decode cX7_linesTaken 29 = .ok (.iconst (-1), 1) := by decide +kernel
theorem dX7_linesTaken_30 : decode cX7_linesTaken 30 = .ok (.iload_n 1, 1) := by decide +kernel
theorem dX7_linesTaken_31 : decode cX7_linesTaken 31 = .ok (.isub, 1) := by decide +kernel
theorem dX7_linesTaken_32 : decode cX7_linesTaken 32 = .ok (.ireturn, 1) := by decide +kernel
def p_X7_linesTaken_20 (F : Nat) (p1 : Int32) (p2 : Int32) (Post : Int32 → (Int32 × Int32) → Prop) (x_past_size_20 : Int32) : Prop := ((¬ p1 = (-1 : Int32) → (Post ((-1 : Int32) - p1) ((0 : Int32), x_past_size_20))) ∧ (p1 = (-1 : Int32) → (Post p2 ((0 : Int32), x_past_size_20))))
def p_X7_linesTaken (F : Nat) (p1 : Int32) (p2 : Int32) (x_past_size : Int32) (Post : Int32 → (Int32 × Int32) → Prop) : Prop := ((p2 ≤ 0 → (p_X7_linesTaken_20 F p1 p2 Post x_past_size)) ∧ (¬ p2 ≤ 0 → (p_X7_linesTaken_20 F p1 p2 Post (0 : Int32))))
set_option maxHeartbeats 4000000 in
set_option maxRecDepth 100000 in
theorem c_X7_linesTaken (l : Launch) (D : va_G) (cT : Nat → ClassId) (F : Nat) (h : Nat) (p1 : Int32) (p2 : Int32) (q_text : Nat) (w_told : Value) (w_now : Value) (w_before : Value) (w_trial : Value) (q_past : Nat) (w_kept : Value) (w_feltNotes : Value) (w_heardNotes : Value) (w_draws : Value) (w_purrs : Value) (w_alone : Value) (w_nimbers : Value) (w_ways : Value) (w_ruling : Value) (w_spare : Value) (w_text_signs : Value) (x_text_length : Int32) (w_past_ring : Value) (x_past_next : Int32) (x_past_size : Int32) (Post : Int32 → (Int32 × Int32) → Prop) (hg : p_X7_linesTaken F p1 p2 x_past_size Post) : MWi l D cT yX7_linesTaken cX7_linesTaken 3 (some .int) 0 0 0 0 [.ref h, .int p1, .int p2] [(h, oX7 (.ref q_text) w_told w_now w_before w_trial (.ref q_past) w_kept w_feltNotes w_heardNotes w_draws w_purrs w_alone w_nimbers w_ways w_ruling w_spare), (q_text, oX5 w_text_signs (.int x_text_length)), (q_past, oX2 w_past_ring (.int x_past_next) (.int x_past_size))] Post (fun (u : (Int32 × Int32)) => [(h, oX7 (.ref q_text) w_told w_now w_before w_trial (.ref q_past) w_kept w_feltNotes w_heardNotes w_draws w_purrs w_alone w_nimbers w_ways w_ruling w_spare), (q_text, oX5 w_text_signs (.int u.1)), (q_past, oX2 w_past_ring (.int x_past_next) (.int u.2))]) := by
  refine MWi.of (by decide) (Nat.le_of_ble_eq_true rfl) ?_
  intro p e s m below meth c A hA C0 hnm hr hP hD ls hl
  have hl : lv_has ls 3 [(0, .ref h), (1, .int p1), (2, .int p2)] := hl
  have hx := C0.x
  have hb := C0.b
  have hS : va_S A s.heap s.heap [] := va_S.rf
  have hP : va_P D cls9 [(h, oX7 (.ref q_text) w_told w_now w_before w_trial (.ref q_past) w_kept w_feltNotes w_heardNotes w_draws w_purrs w_alone w_nimbers w_ways w_ruling w_spare), (q_text, oX5 w_text_signs (.int x_text_length)), (q_past, oX2 w_past_ring (.int x_past_next) (.int x_past_size))] s.heap := hP
  have hD : va_D A [(h, oX7 (.ref q_text) w_told w_now w_before w_trial (.ref q_past) w_kept w_feltNotes w_heardNotes w_draws w_purrs w_alone w_nimbers w_ways w_ruling w_spare), (q_text, oX5 w_text_signs (.int x_text_length)), (q_past, oX2 w_past_ring (.int x_past_next) (.int x_past_size))] := hD
  have L20 : ∀ (x_past_size_20 : Int32) (H : Heap) (locs : List Loc) (ls : Array Slot), p_X7_linesTaken_20 F p1 p2 Post x_past_size_20 → va_P D cls9 [(h, oX7 (.ref q_text) w_told w_now w_before w_trial (.ref q_past) w_kept w_feltNotes w_heardNotes w_draws w_purrs w_alone w_nimbers w_ways w_ruling w_spare), (q_text, oX5 w_text_signs (.int (0 : Int32))), (q_past, oX2 w_past_ring (.int x_past_next) (.int x_past_size_20))] H → va_D A [(h, oX7 (.ref q_text) w_told w_now w_before w_trial (.ref q_past) w_kept w_feltNotes w_heardNotes w_draws w_purrs w_alone w_nimbers w_ways w_ruling w_spare), (q_text, oX5 w_text_signs (.int (0 : Int32))), (q_past, oX2 w_past_ring (.int x_past_next) (.int x_past_size_20))] → va_S A s.heap H locs → lv_has ls 3 [(1, .int p1), (2, .int p2)] → W p l e (rmO 0 0 0 0) s m ([.ref h, .int p1, .int p2] : List Value).toArray below meth c H locs 0 0 (MQ below (va_Qi Post (cB D A (fun (u : (Int32 × Int32)) => [(h, oX7 (.ref q_text) w_told w_now w_before w_trial (.ref q_past) w_kept w_feltNotes w_heardNotes w_draws w_purrs w_alone w_nimbers w_ways w_ruling w_spare), (q_text, oX5 w_text_signs (.int u.1)), (q_past, oX2 w_past_ring (.int x_past_next) (.int u.2))])) A) ([.ref h, .int p1, .int p2] : List Value).toArray s 0 0 A) (F0 m 20 ls []) := by
    intro x_past_size_20 H locs ls hg hP hD hS hl
    unfold p_X7_linesTaken_20 at hg
    refine lv_iload_n hx hb dX7_linesTaken_20 rfl (lv_at hl 0 rfl) ?_
    refine lv_iconst (v := (-1 : Int32)) hx hb dX7_linesTaken_21 (by decide) ?_
    refine lv_icmp_ne (tgt := 29) hx hb dX7_linesTaken_22 (by decide) (fun c_22 => ?_) (fun c_22 => ?_)
    · have hg := hg.1 c_22
      refine lv_iconst (v := (-1 : Int32)) hx hb dX7_linesTaken_29 (by decide) ?_
      refine lv_iload_n hx hb dX7_linesTaken_30 rfl (lv_at hl 0 rfl) ?_
      refine lv_isub hx hb dX7_linesTaken_31 ?_
      exact k_iret C0 hr ((0 : Int32), x_past_size_20) hg hP hD hS dX7_linesTaken_32
    have hg := hg.2 c_22
    refine lv_iload_n hx hb dX7_linesTaken_25 rfl (lv_at hl 1 rfl) ?_
    refine lv_goto (tgt := 32) hx hb dX7_linesTaken_26 (by decide) ?_
    exact k_iret C0 hr ((0 : Int32), x_past_size_20) hg hP hD hS dX7_linesTaken_32
  unfold p_X7_linesTaken at hg
  refine lv_aload_n hx hb dX7_linesTaken_0 rfl (lv_at hl 0 rfl) ?_
  refine gf_X7_10 C0 hP 0 rfl rfl dX7_linesTaken_1 ?_
  refine lv_iconst (v := (0 : Int32)) hx hb dX7_linesTaken_4 (by decide) ?_
  refine pf_X7_94 C0 hP hD hS 1 rfl (Nat.le_of_ble_eq_true rfl) (ws2 := [(h, oX7 (.ref q_text) w_told w_now w_before w_trial (.ref q_past) w_kept w_feltNotes w_heardNotes w_draws w_purrs w_alone w_nimbers w_ways w_ruling w_spare), (q_text, oX5 w_text_signs (.int (0 : Int32))), (q_past, oX2 w_past_ring (.int x_past_next) (.int x_past_size))]) rfl dX7_linesTaken_5 (fun H locs hP hD hS => ?_)
  refine lv_iload_n hx hb dX7_linesTaken_8 rfl (lv_at hl 2 rfl) ?_
  refine lv_if_le (tgt := 20) hx hb dX7_linesTaken_9 (by decide) (fun c_9 => ?_) (fun c_9 => ?_)
  · have hg := hg.1 c_9
    exact L20 x_past_size _ _ _ hg hP hD hS (lv_sub hl [1, 2] rfl)
  have hg := hg.2 c_9
  refine lv_aload_n hx hb dX7_linesTaken_12 rfl (lv_at hl 0 rfl) ?_
  refine gf_X7_39 C0 hP 0 rfl rfl dX7_linesTaken_13 ?_
  refine lv_iconst (v := (0 : Int32)) hx hb dX7_linesTaken_16 (by decide) ?_
  refine pf_X7_125 C0 hP hD hS 2 rfl (Nat.le_of_ble_eq_true rfl) (ws2 := [(h, oX7 (.ref q_text) w_told w_now w_before w_trial (.ref q_past) w_kept w_feltNotes w_heardNotes w_draws w_purrs w_alone w_nimbers w_ways w_ruling w_spare), (q_text, oX5 w_text_signs (.int (0 : Int32))), (q_past, oX2 w_past_ring (.int x_past_next) (.int (0 : Int32)))]) rfl dX7_linesTaken_17 (fun H locs hP hD hS => ?_)
  exact L20 (0 : Int32) _ _ _ hg hP hD hS (lv_sub hl [1, 2] rfl)
theorem dX7_arches_0 : decode cX7_arches 0 = .ok (.aload_n 0, 1) := by decide +kernel
theorem dX7_arches_1 : decode cX7_arches 1 = .ok (.getfield 10, 3) := by decide +kernel
theorem dX7_arches_4 : decode cX7_arches 4 = .ok (.iconst 1, 1) := by decide +kernel
theorem dX7_arches_5 : decode cX7_arches 5 = .ok (.bipush 6, 2) := by decide +kernel
theorem dX7_arches_7 : decode cX7_arches 7 = .ok (.bipush 6, 2) := by decide +kernel
theorem dX7_arches_9 : decode cX7_arches 9 = .ok (.aload_n 0, 1) := by decide +kernel
theorem dX7_arches_10 : decode cX7_arches 10 = .ok (.getfield 26, 3) := by decide +kernel
theorem dX7_arches_13 : decode cX7_arches 13 = .ok (.getfield 98, 3) := by decide +kernel
theorem dX7_arches_16 : decode cX7_arches 16 = .ok (.isub, 1) := by decide +kernel
theorem dX7_arches_17 : decode cX7_arches 17 = .ok (.bipush 10, 2) := by decide +kernel
theorem dX7_arches_19 : decode cX7_arches 19 = .ok (.invokevirtual 101, 3) := by decide +kernel
theorem dX7_arches_22 : decode cX7_arches 22 = .ok (.istore_n 1, 1) := by decide +kernel
theorem dX7_arches_23 : decode cX7_arches 23 = .ok (.iload_n 1, 1) := by decide +kernel
theorem dX7_arches_24 : decode cX7_arches 24 = .ok (.iconst (-1), 1) := by decide +kernel
theorem dX7_arches_25 : decode cX7_arches 25 = .ok (.if_icmp .ne 14, 3) := by decide +kernel
theorem dX7_arches_28 : decode cX7_arches 28 = .ok (.aload_n 0, 1) := by decide +kernel
theorem dX7_arches_29 : decode cX7_arches 29 = .ok (.getfield 10, 3) := by decide +kernel
theorem dX7_arches_32 : decode cX7_arches 32 = .ok (.iconst 1, 1) := by decide +kernel
theorem dX7_arches_33 : decode cX7_arches 33 = .ok (.invokevirtual 105, 3) := by decide +kernel
theorem dX7_arches_36 : decode cX7_arches 36 = .ok (.goto 4, 3) := by decide +kernel
theorem dX7_arches_39 : decode cX7_arches 39 = .ok (.iconst 0, 1) := by decide +kernel
theorem dX7_arches_40 : decode cX7_arches 40 = .ok (.istore_n 2, 1) := by decide +kernel
theorem dX7_arches_41 : decode cX7_arches 41 = .ok (.iconst 0, 1) := by decide +kernel
theorem dX7_arches_42 : decode cX7_arches 42 = .ok (.istore_n 3, 1) := by decide +kernel
theorem dX7_arches_43 : decode cX7_arches 43 = .ok (.iload_n 3, 1) := by decide +kernel
theorem dX7_arches_44 : decode cX7_arches 44 = .ok (.iload_n 2, 1) := by decide +kernel
theorem dX7_arches_45 : decode cX7_arches 45 = .ok (.if_icmp .ge 26, 3) := by decide +kernel
theorem dX7_arches_48 : decode cX7_arches 48 = .ok (.aload_n 0, 1) := by decide +kernel
theorem dX7_arches_49 : decode cX7_arches 49 = .ok (.getfield 26, 3) := by decide +kernel
theorem dX7_arches_52 : decode cX7_arches 52 = .ok (.aload_n 0, 1) := by decide +kernel
theorem dX7_arches_53 : decode cX7_arches 53 = .ok (.getfield 10, 3) := by decide +kernel
theorem dX7_arches_56 : decode cX7_arches 56 = .ok (.iconst 2, 1) := by decide +kernel
theorem dX7_arches_57 : decode cX7_arches 57 = .ok (.iload_n 3, 1) := by decide +kernel
theorem dX7_arches_58 : decode cX7_arches 58 = .ok (.imul, 1) := by decide +kernel
theorem dX7_arches_59 : decode cX7_arches 59 = .ok (.invokevirtual 108, 3) := by decide +kernel
theorem dX7_arches_62 : decode cX7_arches 62 = .ok (.invokevirtual 111, 3) := by decide +kernel
theorem dX7_arches_65 : decode cX7_arches 65 = .ok (.iinc 3 1, 3) := by decide +kernel
theorem dX7_arches_68 : decode cX7_arches 68 = .ok (.goto (-25), 3) := by decide +kernel
theorem dX7_arches_71 : decode cX7_arches 71 = .ok (.aload_n 0, 1) := by decide +kernel
theorem dX7_arches_72 : decode cX7_arches 72 = .ok (.iload_n 1, 1) := by decide +kernel
theorem dX7_arches_73 : decode cX7_arches 73 = .ok (.iload_n 2, 1) := by decide +kernel
theorem dX7_arches_74 : decode cX7_arches 74 = .ok (.invokevirtual 114, 3) := by decide +kernel
theorem dX7_arches_77 : decode cX7_arches 77 = .ok (.ireturn, 1) := by decide +kernel
noncomputable def p_X7_arches_43 (F : Nat) (x_text_length : Int32) (f_text_signs : Nat → Int32) (x_past_size : Int32) (r_19 : Int32) (s0_40 : Int32) (Post : Int32 → (Int32 × Int32 × (Nat → Int32) × Int32) → Prop) (n : Nat) : Int32 → Int32 → (Nat → Int32) → Prop := Nat.rec (motive := fun _ => Int32 → Int32 → (Nat → Int32) → Prop) (fun _ _ _ => False) (fun _ k43 => fun (y3_43 : Int32) (x_now_arches_43 : Int32) (f_now_load_43 : Nat → Int32) => ((s0_40 ≤ y3_43 → (p_X7_linesTaken F r_19 s0_40 x_past_size (fun (r_74 : Int32) (u_74 : (Int32 × Int32)) => (Post r_74 (x_now_arches_43, u_74.1, f_now_load_43, u_74.2))))) ∧ (¬ s0_40 ≤ y3_43 → (p_X5_digit F ((2 : Int32) * y3_43) x_text_length f_text_signs (fun (r_59 : Int32) => (p_X6_addArch F r_59 x_now_arches_43 f_now_load_43 (fun (u_62 : (Int32 × (Nat → Int32))) => (k43 (y3_43 + (1 : Int32)) u_62.1 u_62.2)))))))) n
theorem p_X7_arches_43_s (F : Nat) (x_text_length : Int32) (f_text_signs : Nat → Int32) (x_past_size : Int32) (r_19 : Int32) (s0_40 : Int32) (Post : Int32 → (Int32 × Int32 × (Nat → Int32) × Int32) → Prop) (n : Nat) (y3_43 : Int32) (x_now_arches_43 : Int32) (f_now_load_43 : Nat → Int32) : p_X7_arches_43 F x_text_length f_text_signs x_past_size r_19 s0_40 Post (n + 1) y3_43 x_now_arches_43 f_now_load_43 = ((s0_40 ≤ y3_43 → (p_X7_linesTaken F r_19 s0_40 x_past_size (fun (r_74 : Int32) (u_74 : (Int32 × Int32)) => (Post r_74 (x_now_arches_43, u_74.1, f_now_load_43, u_74.2))))) ∧ (¬ s0_40 ≤ y3_43 → (p_X5_digit F ((2 : Int32) * y3_43) x_text_length f_text_signs (fun (r_59 : Int32) => (p_X6_addArch F r_59 x_now_arches_43 f_now_load_43 (fun (u_62 : (Int32 × (Nat → Int32))) => ((p_X7_arches_43 F x_text_length f_text_signs x_past_size r_19 s0_40 Post n) (y3_43 + (1 : Int32)) u_62.1 u_62.2))))))) := rfl
def p_X7_arches_40 (F : Nat) (x_now_arches : Int32) (x_text_length : Int32) (f_text_signs : Nat → Int32) (f_now_load : Nat → Int32) (x_past_size : Int32) (r_19 : Int32) (Post : Int32 → (Int32 × Int32 × (Nat → Int32) × Int32) → Prop) (s0_40 : Int32) : Prop := (p_X7_arches_43 F x_text_length f_text_signs x_past_size r_19 s0_40 Post F (0 : Int32) x_now_arches f_now_load)
def p_X7_arches (F : Nat) (x_now_arches : Int32) (x_text_length : Int32) (f_text_signs : Nat → Int32) (f_now_load : Nat → Int32) (x_past_size : Int32) (Post : Int32 → (Int32 × Int32 × (Nat → Int32) × Int32) → Prop) : Prop := (p_X5_faultInLines F (1 : Int32) (6 : Int32) ((6 : Int32) - x_now_arches) (10 : Int32) x_text_length f_text_signs (fun (r_19 : Int32) => ((¬ r_19 = (-1 : Int32) → (p_X7_arches_40 F x_now_arches x_text_length f_text_signs f_now_load x_past_size r_19 Post (0 : Int32))) ∧ (r_19 = (-1 : Int32) → (p_X5_linesOf F (1 : Int32) x_text_length (fun (r_33 : Int32) => (p_X7_arches_40 F x_now_arches x_text_length f_text_signs f_now_load x_past_size r_19 Post r_33)))))))
set_option maxHeartbeats 4000000 in
set_option maxRecDepth 100000 in
theorem c_X7_arches (l : Launch) (D : va_G) (cT : Nat → ClassId) (F : Nat) (h : Nat) (q_text : Nat) (w_told : Value) (q_now : Nat) (w_before : Value) (w_trial : Value) (q_past : Nat) (w_kept : Value) (w_feltNotes : Value) (w_heardNotes : Value) (w_draws : Value) (w_purrs : Value) (w_alone : Value) (w_nimbers : Value) (w_ways : Value) (w_ruling : Value) (w_spare : Value) (q_now_load : Nat) (w_now_sag : Value) (w_now_joy : Value) (w_now_bowl : Value) (w_now_grief : Value) (w_now_place : Value) (x_now_arches : Int32) (x_now_cats : Int32) (x_now_store : Int32) (x_now_hour : Int32) (x_now_drops : Int32) (q_text_signs : Nat) (x_text_length : Int32) (f_text_signs : Nat → Int32) (f_now_load : Nat → Int32) (w_past_ring : Value) (x_past_next : Int32) (x_past_size : Int32) (Post : Int32 → (Int32 × Int32 × (Nat → Int32) × Int32) → Prop) (hg : p_X7_arches F x_now_arches x_text_length f_text_signs f_now_load x_past_size Post) : MWi l D cT yX7_arches cX7_arches 4 (some .int) 3 72 0 0 [.ref h] [(h, oX7 (.ref q_text) w_told (.ref q_now) w_before w_trial (.ref q_past) w_kept w_feltNotes w_heardNotes w_draws w_purrs w_alone w_nimbers w_ways w_ruling w_spare), (q_now, oX6 (.ref q_now_load) w_now_sag w_now_joy w_now_bowl w_now_grief w_now_place (.int x_now_arches) (.int x_now_cats) (.int x_now_store) (.int x_now_hour) (.int x_now_drops)), (q_text, oX5 (.ref q_text_signs) (.int x_text_length)), (q_text_signs, aC cT 80 f_text_signs), (q_now_load, aI cT 6 f_now_load), (q_past, oX2 w_past_ring (.int x_past_next) (.int x_past_size))] Post (fun (u : (Int32 × Int32 × (Nat → Int32) × Int32)) => [(h, oX7 (.ref q_text) w_told (.ref q_now) w_before w_trial (.ref q_past) w_kept w_feltNotes w_heardNotes w_draws w_purrs w_alone w_nimbers w_ways w_ruling w_spare), (q_now, oX6 (.ref q_now_load) w_now_sag w_now_joy w_now_bowl w_now_grief w_now_place (.int u.1) (.int x_now_cats) (.int x_now_store) (.int x_now_hour) (.int x_now_drops)), (q_text, oX5 (.ref q_text_signs) (.int u.2.1)), (q_text_signs, aC cT 80 f_text_signs), (q_now_load, aI cT 6 u.2.2.1), (q_past, oX2 w_past_ring (.int x_past_next) (.int u.2.2.2))]) := by
  refine MWi.of (by decide) (Nat.le_of_ble_eq_true rfl) ?_
  intro p e s m below meth c A hA C0 hnm hr hP hD ls hl
  have hl : lv_has ls 4 [(0, .ref h)] := hl
  have hx := C0.x
  have hb := C0.b
  have hS : va_S A s.heap s.heap [] := va_S.rf
  have hP : va_P D cls9 [(h, oX7 (.ref q_text) w_told (.ref q_now) w_before w_trial (.ref q_past) w_kept w_feltNotes w_heardNotes w_draws w_purrs w_alone w_nimbers w_ways w_ruling w_spare), (q_now, oX6 (.ref q_now_load) w_now_sag w_now_joy w_now_bowl w_now_grief w_now_place (.int x_now_arches) (.int x_now_cats) (.int x_now_store) (.int x_now_hour) (.int x_now_drops)), (q_text, oX5 (.ref q_text_signs) (.int x_text_length)), (q_text_signs, aC cT 80 f_text_signs), (q_now_load, aI cT 6 f_now_load), (q_past, oX2 w_past_ring (.int x_past_next) (.int x_past_size))] s.heap := hP
  have hD : va_D A [(h, oX7 (.ref q_text) w_told (.ref q_now) w_before w_trial (.ref q_past) w_kept w_feltNotes w_heardNotes w_draws w_purrs w_alone w_nimbers w_ways w_ruling w_spare), (q_now, oX6 (.ref q_now_load) w_now_sag w_now_joy w_now_bowl w_now_grief w_now_place (.int x_now_arches) (.int x_now_cats) (.int x_now_store) (.int x_now_hour) (.int x_now_drops)), (q_text, oX5 (.ref q_text_signs) (.int x_text_length)), (q_text_signs, aC cT 80 f_text_signs), (q_now_load, aI cT 6 f_now_load), (q_past, oX2 w_past_ring (.int x_past_next) (.int x_past_size))] := hD
  have L43 : ∀ (r_19 : Int32) (s0_40 : Int32) (n43 : Nat) (y3_43 : Int32) (x_now_arches_43 : Int32) (f_now_load_43 : Nat → Int32) (H : Heap) (locs : List Loc) (ls : Array Slot), p_X7_arches_43 F x_text_length f_text_signs x_past_size r_19 s0_40 Post n43 y3_43 x_now_arches_43 f_now_load_43 → va_P D cls9 [(h, oX7 (.ref q_text) w_told (.ref q_now) w_before w_trial (.ref q_past) w_kept w_feltNotes w_heardNotes w_draws w_purrs w_alone w_nimbers w_ways w_ruling w_spare), (q_now, oX6 (.ref q_now_load) w_now_sag w_now_joy w_now_bowl w_now_grief w_now_place (.int x_now_arches_43) (.int x_now_cats) (.int x_now_store) (.int x_now_hour) (.int x_now_drops)), (q_text, oX5 (.ref q_text_signs) (.int x_text_length)), (q_text_signs, aC cT 80 f_text_signs), (q_now_load, aI cT 6 f_now_load_43), (q_past, oX2 w_past_ring (.int x_past_next) (.int x_past_size))] H → va_D A [(h, oX7 (.ref q_text) w_told (.ref q_now) w_before w_trial (.ref q_past) w_kept w_feltNotes w_heardNotes w_draws w_purrs w_alone w_nimbers w_ways w_ruling w_spare), (q_now, oX6 (.ref q_now_load) w_now_sag w_now_joy w_now_bowl w_now_grief w_now_place (.int x_now_arches_43) (.int x_now_cats) (.int x_now_store) (.int x_now_hour) (.int x_now_drops)), (q_text, oX5 (.ref q_text_signs) (.int x_text_length)), (q_text_signs, aC cT 80 f_text_signs), (q_now_load, aI cT 6 f_now_load_43), (q_past, oX2 w_past_ring (.int x_past_next) (.int x_past_size))] → va_S A s.heap H locs → lv_has ls 4 [(0, .ref h), (1, .int r_19), (2, .int s0_40), (3, .int y3_43)] → W p l e (rmO 3 72 0 0) s m ([.ref h] : List Value).toArray below meth c H locs 0 0 (MQ below (va_Qi Post (cB D A (fun (u : (Int32 × Int32 × (Nat → Int32) × Int32)) => [(h, oX7 (.ref q_text) w_told (.ref q_now) w_before w_trial (.ref q_past) w_kept w_feltNotes w_heardNotes w_draws w_purrs w_alone w_nimbers w_ways w_ruling w_spare), (q_now, oX6 (.ref q_now_load) w_now_sag w_now_joy w_now_bowl w_now_grief w_now_place (.int u.1) (.int x_now_cats) (.int x_now_store) (.int x_now_hour) (.int x_now_drops)), (q_text, oX5 (.ref q_text_signs) (.int u.2.1)), (q_text_signs, aC cT 80 f_text_signs), (q_now_load, aI cT 6 u.2.2.1), (q_past, oX2 w_past_ring (.int x_past_next) (.int u.2.2.2))])) A) ([.ref h] : List Value).toArray s 0 0 A) (F0 m 43 ls []) := by
    intro r_19 s0_40 n43
    induction n43 with
    | zero =>
      intro y3_43 x_now_arches_43 f_now_load_43 H locs ls hg hP hD hS hl
      exact False.elim hg
    | succ n43 ih43 =>
      intro y3_43 x_now_arches_43 f_now_load_43 H locs ls hg hP hD hS hl
      rw [p_X7_arches_43_s] at hg
      refine lv_iload_n hx hb dX7_arches_43 rfl (lv_at hl 3 rfl) ?_
      refine lv_iload_n hx hb dX7_arches_44 rfl (lv_at hl 2 rfl) ?_
      refine lv_icmp_ge (tgt := 71) hx hb dX7_arches_45 (by decide) (fun c_45 => ?_) (fun c_45 => ?_)
      · have hg := hg.1 c_45
        refine lv_aload_n hx hb dX7_arches_71 rfl (lv_at hl 0 rfl) ?_
        refine lv_iload_n hx hb dX7_arches_72 rfl (lv_at hl 1 rfl) ?_
        refine lv_iload_n hx hb dX7_arches_73 rfl (lv_at hl 2 rfl) ?_
        refine k_Vi (rest := []) (wr := [(q_now, oX6 (.ref q_now_load) w_now_sag w_now_joy w_now_bowl w_now_grief w_now_place (.int x_now_arches_43) (.int x_now_cats) (.int x_now_store) (.int x_now_hour) (.int x_now_drops)), (q_text_signs, aC cT 80 f_text_signs), (q_now_load, aI cT 6 f_now_load_43)]) (w2 := fun u_74 => [(q_now, oX6 (.ref q_now_load) w_now_sag w_now_joy w_now_bowl w_now_grief w_now_place (.int x_now_arches_43) (.int x_now_cats) (.int x_now_store) (.int x_now_hour) (.int x_now_drops)), (q_text_signs, aC cT 80 f_text_signs), (q_now_load, aI cT 6 f_now_load_43), (h, oX7 (.ref q_text) w_told (.ref q_now) w_before w_trial (.ref q_past) w_kept w_feltNotes w_heardNotes w_draws w_purrs w_alone w_nimbers w_ways w_ruling w_spare), (q_text, oX5 (.ref q_text_signs) (.int u_74.1)), (q_past, oX2 w_past_ring (.int x_past_next) (.int u_74.2))]) C0 lk_X7_114 (c_X7_linesTaken l D cT F h r_19 s0_40 q_text w_told (.ref q_now) w_before w_trial q_past w_kept w_feltNotes w_heardNotes w_draws w_purrs w_alone w_nimbers w_ways w_ruling w_spare (.ref q_text_signs) x_text_length w_past_ring x_past_next x_past_size _ hg) hP hD hS hA [0, 2, 5] [1, 3, 4] (by decide +kernel) rfl rfl (fun _ => rfl) rfl rfl ⟨Nat.le_of_ble_eq_true rfl, Nat.le_of_ble_eq_true rfl⟩ rfl hl.1 rfl (Nat.le_of_ble_eq_true rfl) dX7_arches_74 ⟨Nat.le_of_ble_eq_true rfl, Nat.le_of_ble_eq_true rfl⟩ ?_
        intro r_74 u_74 H locs hg hP hD hS
        exact k_iret C0 hr (x_now_arches_43, u_74.1, f_now_load_43, u_74.2) hg (subP hP [3, 0, 4, 1, 2, 5] rfl) (hD.sub [3, 0, 4, 1, 2, 5] (nd2_ok _ (by decide +kernel)) rfl) hS dX7_arches_77
      have hg := hg.2 c_45
      refine lv_aload_n hx hb dX7_arches_48 rfl (lv_at hl 0 rfl) ?_
      refine gf_X7_26 C0 hP 0 rfl rfl dX7_arches_49 ?_
      refine lv_aload_n hx hb dX7_arches_52 rfl (lv_at hl 0 rfl) ?_
      refine gf_X7_10 C0 hP 0 rfl rfl dX7_arches_53 ?_
      refine lv_iconst (v := (2 : Int32)) hx hb dX7_arches_56 (by decide) ?_
      refine lv_iload_n hx hb dX7_arches_57 rfl (lv_at hl 3 rfl) ?_
      refine lv_imul hx hb dX7_arches_58 ?_
      refine k_Vxi (rest := [.ref q_now]) C0 lk_X7_108 (c_X5_digit l D cT F q_text ((2 : Int32) * y3_43) q_text_signs x_text_length f_text_signs _ hg) hP hD hS hA [2, 3] (by decide +kernel) rfl rfl rfl ⟨Nat.le_of_ble_eq_true rfl, Nat.le_of_ble_eq_true rfl⟩ rfl hl.1 rfl (Nat.le_of_ble_eq_true rfl) dX7_arches_59 ⟨Nat.le_of_ble_eq_true rfl, Nat.le_of_ble_eq_true rfl⟩ (fun r_59 hg => ?_)
      refine k_Vv (rest := []) (wr := [(h, oX7 (.ref q_text) w_told (.ref q_now) w_before w_trial (.ref q_past) w_kept w_feltNotes w_heardNotes w_draws w_purrs w_alone w_nimbers w_ways w_ruling w_spare), (q_text, oX5 (.ref q_text_signs) (.int x_text_length)), (q_text_signs, aC cT 80 f_text_signs), (q_past, oX2 w_past_ring (.int x_past_next) (.int x_past_size))]) (w2 := fun u_62 => [(h, oX7 (.ref q_text) w_told (.ref q_now) w_before w_trial (.ref q_past) w_kept w_feltNotes w_heardNotes w_draws w_purrs w_alone w_nimbers w_ways w_ruling w_spare), (q_text, oX5 (.ref q_text_signs) (.int x_text_length)), (q_text_signs, aC cT 80 f_text_signs), (q_past, oX2 w_past_ring (.int x_past_next) (.int x_past_size)), (q_now, oX6 (.ref q_now_load) w_now_sag w_now_joy w_now_bowl w_now_grief w_now_place (.int u_62.1) (.int x_now_cats) (.int x_now_store) (.int x_now_hour) (.int x_now_drops)), (q_now_load, aI cT 6 u_62.2)]) C0 lk_X7_111 (c_X6_addArch l D cT F q_now r_59 q_now_load w_now_sag w_now_joy w_now_bowl w_now_grief w_now_place x_now_arches_43 x_now_cats x_now_store x_now_hour x_now_drops f_now_load_43 _ hg) hP hD hS hA [1, 4] [0, 2, 3, 5] (by decide +kernel) rfl rfl (fun _ => rfl) rfl rfl ⟨Nat.le_of_ble_eq_true rfl, Nat.le_of_ble_eq_true rfl⟩ rfl hl.1 rfl (Nat.le_of_ble_eq_true rfl) dX7_arches_62 ⟨Nat.le_of_ble_eq_true rfl, Nat.le_of_ble_eq_true rfl⟩ ?_
      intro u_62 H locs hg hP hD hS
      refine lv_iinc (v := (y3_43 + (1 : Int32))) (lv' := [(3, .int (y3_43 + (1 : Int32))), (0, .ref h), (1, .int r_19), (2, .int s0_40)]) hx hb dX7_arches_65 hl (k := 3) rfl rfl (by decide) rfl (fun ls hl => ?_)
      refine lv_goto (tgt := 43) hx hb dX7_arches_68 (by decide) ?_
      exact ih43 (y3_43 + (1 : Int32)) u_62.1 u_62.2 _ _ _ hg (subP hP [0, 4, 1, 2, 5, 3] rfl) (hD.sub [0, 4, 1, 2, 5, 3] (nd2_ok _ (by decide +kernel)) rfl) hS (lv_sub hl [1, 2, 3, 0] rfl)
  have L40 : ∀ (r_19 : Int32) (s0_40 : Int32) (H : Heap) (locs : List Loc) (ls : Array Slot), p_X7_arches_40 F x_now_arches x_text_length f_text_signs f_now_load x_past_size r_19 Post s0_40 → va_P D cls9 [(h, oX7 (.ref q_text) w_told (.ref q_now) w_before w_trial (.ref q_past) w_kept w_feltNotes w_heardNotes w_draws w_purrs w_alone w_nimbers w_ways w_ruling w_spare), (q_now, oX6 (.ref q_now_load) w_now_sag w_now_joy w_now_bowl w_now_grief w_now_place (.int x_now_arches) (.int x_now_cats) (.int x_now_store) (.int x_now_hour) (.int x_now_drops)), (q_text, oX5 (.ref q_text_signs) (.int x_text_length)), (q_text_signs, aC cT 80 f_text_signs), (q_now_load, aI cT 6 f_now_load), (q_past, oX2 w_past_ring (.int x_past_next) (.int x_past_size))] H → va_D A [(h, oX7 (.ref q_text) w_told (.ref q_now) w_before w_trial (.ref q_past) w_kept w_feltNotes w_heardNotes w_draws w_purrs w_alone w_nimbers w_ways w_ruling w_spare), (q_now, oX6 (.ref q_now_load) w_now_sag w_now_joy w_now_bowl w_now_grief w_now_place (.int x_now_arches) (.int x_now_cats) (.int x_now_store) (.int x_now_hour) (.int x_now_drops)), (q_text, oX5 (.ref q_text_signs) (.int x_text_length)), (q_text_signs, aC cT 80 f_text_signs), (q_now_load, aI cT 6 f_now_load), (q_past, oX2 w_past_ring (.int x_past_next) (.int x_past_size))] → va_S A s.heap H locs → lv_has ls 4 [(0, .ref h), (1, .int r_19)] → W p l e (rmO 3 72 0 0) s m ([.ref h] : List Value).toArray below meth c H locs 0 0 (MQ below (va_Qi Post (cB D A (fun (u : (Int32 × Int32 × (Nat → Int32) × Int32)) => [(h, oX7 (.ref q_text) w_told (.ref q_now) w_before w_trial (.ref q_past) w_kept w_feltNotes w_heardNotes w_draws w_purrs w_alone w_nimbers w_ways w_ruling w_spare), (q_now, oX6 (.ref q_now_load) w_now_sag w_now_joy w_now_bowl w_now_grief w_now_place (.int u.1) (.int x_now_cats) (.int x_now_store) (.int x_now_hour) (.int x_now_drops)), (q_text, oX5 (.ref q_text_signs) (.int u.2.1)), (q_text_signs, aC cT 80 f_text_signs), (q_now_load, aI cT 6 u.2.2.1), (q_past, oX2 w_past_ring (.int x_past_next) (.int u.2.2.2))])) A) ([.ref h] : List Value).toArray s 0 0 A) (F0 m 40 ls [.int s0_40]) := by
    intro r_19 s0_40 H locs ls hg hP hD hS hl
    unfold p_X7_arches_40 at hg
    refine lv_istore_n (lv' := [(2, .int s0_40), (0, .ref h), (1, .int r_19)]) hx hb dX7_arches_40 rfl hl (by decide) rfl (fun ls hl => ?_)
    refine lv_iconst (v := (0 : Int32)) hx hb dX7_arches_41 (by decide) ?_
    refine lv_istore_n (lv' := [(3, .int (0 : Int32)), (2, .int s0_40), (0, .ref h), (1, .int r_19)]) hx hb dX7_arches_42 rfl hl (by decide) rfl (fun ls hl => ?_)
    exact L43 r_19 s0_40 F (0 : Int32) x_now_arches f_now_load _ _ _ hg hP hD hS (lv_sub hl [2, 3, 1, 0] rfl)
  unfold p_X7_arches at hg
  refine lv_aload_n hx hb dX7_arches_0 rfl (lv_at hl 0 rfl) ?_
  refine gf_X7_10 C0 hP 0 rfl rfl dX7_arches_1 ?_
  refine lv_iconst (v := (1 : Int32)) hx hb dX7_arches_4 (by decide) ?_
  refine lv_bipush (v := (6 : Int32)) hx hb dX7_arches_5 (by decide) ?_
  refine lv_bipush (v := (6 : Int32)) hx hb dX7_arches_7 (by decide) ?_
  refine lv_aload_n hx hb dX7_arches_9 rfl (lv_at hl 0 rfl) ?_
  refine gf_X7_26 C0 hP 0 rfl rfl dX7_arches_10 ?_
  refine gf_X7_98 C0 hP 1 rfl rfl dX7_arches_13 ?_
  refine lv_isub hx hb dX7_arches_16 ?_
  refine lv_bipush (v := (10 : Int32)) hx hb dX7_arches_17 (by decide) ?_
  refine k_Vxi (rest := []) C0 lk_X7_101 (c_X5_faultInLines l D cT F q_text (1 : Int32) (6 : Int32) ((6 : Int32) - x_now_arches) (10 : Int32) q_text_signs x_text_length f_text_signs _ hg) hP hD hS hA [2, 3] (by decide +kernel) rfl rfl rfl ⟨Nat.le_of_ble_eq_true rfl, Nat.le_of_ble_eq_true rfl⟩ rfl hl.1 rfl (Nat.le_of_ble_eq_true rfl) dX7_arches_19 ⟨Nat.le_of_ble_eq_true rfl, Nat.le_of_ble_eq_true rfl⟩ (fun r_19 hg => ?_)
  refine lv_istore_n (lv' := [(1, .int r_19), (0, .ref h)]) hx hb dX7_arches_22 rfl hl (by decide) rfl (fun ls hl => ?_)
  refine lv_iload_n hx hb dX7_arches_23 rfl (lv_at hl 0 rfl) ?_
  refine lv_iconst (v := (-1 : Int32)) hx hb dX7_arches_24 (by decide) ?_
  refine lv_icmp_ne (tgt := 39) hx hb dX7_arches_25 (by decide) (fun c_25 => ?_) (fun c_25 => ?_)
  · have hg := hg.1 c_25
    refine lv_iconst (v := (0 : Int32)) hx hb dX7_arches_39 (by decide) ?_
    exact L40 r_19 (0 : Int32) _ _ _ hg hP hD hS (lv_sub hl [1, 0] rfl)
  have hg := hg.2 c_25
  refine lv_aload_n hx hb dX7_arches_28 rfl (lv_at hl 1 rfl) ?_
  refine gf_X7_10 C0 hP 0 rfl rfl dX7_arches_29 ?_
  refine lv_iconst (v := (1 : Int32)) hx hb dX7_arches_32 (by decide) ?_
  refine k_Vxi (rest := []) C0 lk_X7_105 (c_X5_linesOf l D cT F q_text (1 : Int32) (.ref q_text_signs) x_text_length _ hg) hP hD hS hA [2] (by decide +kernel) rfl rfl rfl ⟨Nat.le_of_ble_eq_true rfl, Nat.le_of_ble_eq_true rfl⟩ rfl hl.1 rfl (Nat.le_of_ble_eq_true rfl) dX7_arches_33 ⟨Nat.le_of_ble_eq_true rfl, Nat.le_of_ble_eq_true rfl⟩ (fun r_33 hg => ?_)
  refine lv_goto (tgt := 40) hx hb dX7_arches_36 (by decide) ?_
  exact L40 r_19 r_33 _ _ _ hg hP hD hS (lv_sub hl [1, 0] rfl)
theorem dX7_cats_0 : decode cX7_cats 0 = .ok (.aload_n 0, 1) := by decide +kernel
theorem dX7_cats_1 : decode cX7_cats 1 = .ok (.getfield 10, 3) := by decide +kernel
theorem dX7_cats_4 : decode cX7_cats 4 = .ok (.iconst 3, 1) := by decide +kernel
theorem dX7_cats_5 : decode cX7_cats 5 = .ok (.bipush 8, 2) := by decide +kernel
theorem dX7_cats_7 : decode cX7_cats 7 = .ok (.bipush 8, 2) := by decide +kernel
theorem dX7_cats_9 : decode cX7_cats 9 = .ok (.aload_n 0, 1) := by decide +kernel
theorem dX7_cats_10 : decode cX7_cats 10 = .ok (.getfield 26, 3) := by decide +kernel
theorem dX7_cats_13 : decode cX7_cats 13 = .ok (.getfield 118, 3) := by decide +kernel
theorem dX7_cats_16 : decode cX7_cats 16 = .ok (.isub, 1) := by decide +kernel
theorem dX7_cats_17 : decode cX7_cats 17 = .ok (.aload_n 0, 1) := by decide +kernel
theorem dX7_cats_18 : decode cX7_cats 18 = .ok (.getfield 26, 3) := by decide +kernel
theorem dX7_cats_21 : decode cX7_cats 21 = .ok (.getfield 98, 3) := by decide +kernel
theorem dX7_cats_24 : decode cX7_cats 24 = .ok (.invokevirtual 101, 3) := by decide +kernel
theorem dX7_cats_27 : decode cX7_cats 27 = .ok (.istore_n 1, 1) := by decide +kernel
theorem dX7_cats_28 : decode cX7_cats 28 = .ok (.iload_n 1, 1) := by decide +kernel
theorem dX7_cats_29 : decode cX7_cats 29 = .ok (.iconst (-1), 1) := by decide +kernel
theorem dX7_cats_30 : decode cX7_cats 30 = .ok (.if_icmp .ne 14, 3) := by decide +kernel
theorem dX7_cats_33 : decode cX7_cats 33 = .ok (.aload_n 0, 1) := by decide +kernel
theorem dX7_cats_34 : decode cX7_cats 34 = .ok (.getfield 10, 3) := by decide +kernel
theorem dX7_cats_37 : decode cX7_cats 37 = .ok (.iconst 3, 1) := by decide +kernel
theorem dX7_cats_38 : decode cX7_cats 38 = .ok (.invokevirtual 105, 3) := by decide +kernel
theorem dX7_cats_41 : decode cX7_cats 41 = .ok (.goto 4, 3) := by decide +kernel
theorem dX7_cats_44 : decode cX7_cats 44 = .ok (.iconst 0, 1) := by decide +kernel
theorem dX7_cats_45 : decode cX7_cats 45 = .ok (.istore_n 2, 1) := by decide +kernel
theorem dX7_cats_46 : decode cX7_cats 46 = .ok (.iconst 0, 1) := by decide +kernel
theorem dX7_cats_47 : decode cX7_cats 47 = .ok (.istore_n 3, 1) := by decide +kernel
theorem dX7_cats_48 : decode cX7_cats 48 = .ok (.iload_n 3, 1) := by decide +kernel
theorem dX7_cats_49 : decode cX7_cats 49 = .ok (.iload_n 2, 1) := by decide +kernel
theorem dX7_cats_50 : decode cX7_cats 50 = .ok (.if_icmp .ge 50, 3) := by decide +kernel
theorem dX7_cats_53 : decode cX7_cats 53 = .ok (.aload_n 0, 1) := by decide +kernel
theorem dX7_cats_54 : decode cX7_cats 54 = .ok (.getfield 26, 3) := by decide +kernel
theorem dX7_cats_57 : decode cX7_cats 57 = .ok (.aload_n 0, 1) := by decide +kernel
theorem dX7_cats_58 : decode cX7_cats 58 = .ok (.getfield 10, 3) := by decide +kernel
theorem dX7_cats_61 : decode cX7_cats 61 = .ok (.iconst 4, 1) := by decide +kernel
theorem dX7_cats_62 : decode cX7_cats 62 = .ok (.iload_n 3, 1) := by decide +kernel
theorem dX7_cats_63 : decode cX7_cats 63 = .ok (.imul, 1) := by decide +kernel
theorem dX7_cats_64 : decode cX7_cats 64 = .ok (.invokevirtual 108, 3) := by decide +kernel
theorem dX7_cats_67 : decode cX7_cats 67 = .ok (.aload_n 0, 1) := by decide +kernel
theorem dX7_cats_68 : decode cX7_cats 68 = .ok (.getfield 10, 3) := by decide +kernel
theorem dX7_cats_71 : decode cX7_cats 71 = .ok (.iconst 4, 1) := by decide +kernel
theorem dX7_cats_72 : decode cX7_cats 72 = .ok (.iload_n 3, 1) := by decide +kernel
theorem dX7_cats_73 : decode cX7_cats 73 = .ok (.imul, 1) := by decide +kernel
theorem dX7_cats_74 : decode cX7_cats 74 = .ok (.iconst 1, 1) := by decide +kernel
theorem dX7_cats_75 : decode cX7_cats 75 = .ok (.iadd, 1) := by decide +kernel
theorem dX7_cats_76 : decode cX7_cats 76 = .ok (.invokevirtual 108, 3) := by decide +kernel
theorem dX7_cats_79 : decode cX7_cats 79 = .ok (.aload_n 0, 1) := by decide +kernel
theorem dX7_cats_80 : decode cX7_cats 80 = .ok (.getfield 10, 3) := by decide +kernel
theorem dX7_cats_83 : decode cX7_cats 83 = .ok (.iconst 4, 1) := by decide +kernel
theorem dX7_cats_84 : decode cX7_cats 84 = .ok (.iload_n 3, 1) := by decide +kernel
theorem dX7_cats_85 : decode cX7_cats 85 = .ok (.imul, 1) := by decide +kernel
theorem dX7_cats_86 : decode cX7_cats 86 = .ok (.iconst 2, 1) := by decide +kernel
theorem dX7_cats_87 : decode cX7_cats 87 = .ok (.iadd, 1) := by decide +kernel
theorem dX7_cats_88 : decode cX7_cats 88 = .ok (.invokevirtual 108, 3) := by decide +kernel
theorem dX7_cats_91 : decode cX7_cats 91 = .ok (.invokevirtual 121, 3) := by decide +kernel
theorem dX7_cats_94 : decode cX7_cats 94 = .ok (.iinc 3 1, 3) := by decide +kernel
theorem dX7_cats_97 : decode cX7_cats 97 = .ok (.goto (-49), 3) := by decide +kernel
theorem dX7_cats_100 : decode cX7_cats 100 = .ok (.aload_n 0, 1) := by decide +kernel
theorem dX7_cats_101 : decode cX7_cats 101 = .ok (.iload_n 1, 1) := by decide +kernel
theorem dX7_cats_102 : decode cX7_cats 102 = .ok (.iload_n 2, 1) := by decide +kernel
theorem dX7_cats_103 : decode cX7_cats 103 = .ok (.invokevirtual 114, 3) := by decide +kernel
theorem dX7_cats_106 : decode cX7_cats 106 = .ok (.ireturn, 1) := by decide +kernel
noncomputable def p_X7_cats_48 (F : Nat) (x_text_length : Int32) (f_text_signs : Nat → Int32) (x_past_size : Int32) (r_24 : Int32) (s0_45 : Int32) (Post : Int32 → (Int32 × Int32 × (Nat → Int32) × (Nat → Int32) × (Nat → Int32) × Int32) → Prop) (n : Nat) : Int32 → Int32 → (Nat → Int32) → (Nat → Int32) → (Nat → Int32) → Prop := Nat.rec (motive := fun _ => Int32 → Int32 → (Nat → Int32) → (Nat → Int32) → (Nat → Int32) → Prop) (fun _ _ _ _ _ => False) (fun _ k48 => fun (y3_48 : Int32) (x_now_cats_48 : Int32) (f_now_joy_48 : Nat → Int32) (f_now_bowl_48 : Nat → Int32) (f_now_place_48 : Nat → Int32) => ((s0_45 ≤ y3_48 → (p_X7_linesTaken F r_24 s0_45 x_past_size (fun (r_103 : Int32) (u_103 : (Int32 × Int32)) => (Post r_103 (x_now_cats_48, u_103.1, f_now_joy_48, f_now_bowl_48, f_now_place_48, u_103.2))))) ∧ (¬ s0_45 ≤ y3_48 → (p_X5_digit F ((4 : Int32) * y3_48) x_text_length f_text_signs (fun (r_64 : Int32) => (p_X5_digit F (((4 : Int32) * y3_48) + (1 : Int32)) x_text_length f_text_signs (fun (r_76 : Int32) => (p_X5_digit F (((4 : Int32) * y3_48) + (2 : Int32)) x_text_length f_text_signs (fun (r_88 : Int32) => (p_X6_addCat F r_64 r_76 r_88 x_now_cats_48 f_now_joy_48 f_now_bowl_48 f_now_place_48 (fun (u_91 : (Int32 × (Nat → Int32) × (Nat → Int32) × (Nat → Int32))) => (k48 (y3_48 + (1 : Int32)) u_91.1 u_91.2.1 u_91.2.2.1 u_91.2.2.2)))))))))))) n
theorem p_X7_cats_48_s (F : Nat) (x_text_length : Int32) (f_text_signs : Nat → Int32) (x_past_size : Int32) (r_24 : Int32) (s0_45 : Int32) (Post : Int32 → (Int32 × Int32 × (Nat → Int32) × (Nat → Int32) × (Nat → Int32) × Int32) → Prop) (n : Nat) (y3_48 : Int32) (x_now_cats_48 : Int32) (f_now_joy_48 : Nat → Int32) (f_now_bowl_48 : Nat → Int32) (f_now_place_48 : Nat → Int32) : p_X7_cats_48 F x_text_length f_text_signs x_past_size r_24 s0_45 Post (n + 1) y3_48 x_now_cats_48 f_now_joy_48 f_now_bowl_48 f_now_place_48 = ((s0_45 ≤ y3_48 → (p_X7_linesTaken F r_24 s0_45 x_past_size (fun (r_103 : Int32) (u_103 : (Int32 × Int32)) => (Post r_103 (x_now_cats_48, u_103.1, f_now_joy_48, f_now_bowl_48, f_now_place_48, u_103.2))))) ∧ (¬ s0_45 ≤ y3_48 → (p_X5_digit F ((4 : Int32) * y3_48) x_text_length f_text_signs (fun (r_64 : Int32) => (p_X5_digit F (((4 : Int32) * y3_48) + (1 : Int32)) x_text_length f_text_signs (fun (r_76 : Int32) => (p_X5_digit F (((4 : Int32) * y3_48) + (2 : Int32)) x_text_length f_text_signs (fun (r_88 : Int32) => (p_X6_addCat F r_64 r_76 r_88 x_now_cats_48 f_now_joy_48 f_now_bowl_48 f_now_place_48 (fun (u_91 : (Int32 × (Nat → Int32) × (Nat → Int32) × (Nat → Int32))) => ((p_X7_cats_48 F x_text_length f_text_signs x_past_size r_24 s0_45 Post n) (y3_48 + (1 : Int32)) u_91.1 u_91.2.1 u_91.2.2.1 u_91.2.2.2))))))))))) := rfl
def p_X7_cats_45 (F : Nat) (x_now_cats : Int32) (x_text_length : Int32) (f_text_signs : Nat → Int32) (f_now_joy : Nat → Int32) (f_now_bowl : Nat → Int32) (f_now_place : Nat → Int32) (x_past_size : Int32) (r_24 : Int32) (Post : Int32 → (Int32 × Int32 × (Nat → Int32) × (Nat → Int32) × (Nat → Int32) × Int32) → Prop) (s0_45 : Int32) : Prop := (p_X7_cats_48 F x_text_length f_text_signs x_past_size r_24 s0_45 Post F (0 : Int32) x_now_cats f_now_joy f_now_bowl f_now_place)
def p_X7_cats (F : Nat) (x_now_arches : Int32) (x_now_cats : Int32) (x_text_length : Int32) (f_text_signs : Nat → Int32) (f_now_joy : Nat → Int32) (f_now_bowl : Nat → Int32) (f_now_place : Nat → Int32) (x_past_size : Int32) (Post : Int32 → (Int32 × Int32 × (Nat → Int32) × (Nat → Int32) × (Nat → Int32) × Int32) → Prop) : Prop := (p_X5_faultInLines F (3 : Int32) (8 : Int32) ((8 : Int32) - x_now_cats) x_now_arches x_text_length f_text_signs (fun (r_24 : Int32) => ((¬ r_24 = (-1 : Int32) → (p_X7_cats_45 F x_now_cats x_text_length f_text_signs f_now_joy f_now_bowl f_now_place x_past_size r_24 Post (0 : Int32))) ∧ (r_24 = (-1 : Int32) → (p_X5_linesOf F (3 : Int32) x_text_length (fun (r_38 : Int32) => (p_X7_cats_45 F x_now_cats x_text_length f_text_signs f_now_joy f_now_bowl f_now_place x_past_size r_24 Post r_38)))))))
set_option maxHeartbeats 4000000 in
set_option maxRecDepth 100000 in
theorem c_X7_cats (l : Launch) (D : va_G) (cT : Nat → ClassId) (F : Nat) (h : Nat) (q_text : Nat) (w_told : Value) (q_now : Nat) (w_before : Value) (w_trial : Value) (q_past : Nat) (w_kept : Value) (w_feltNotes : Value) (w_heardNotes : Value) (w_draws : Value) (w_purrs : Value) (w_alone : Value) (w_nimbers : Value) (w_ways : Value) (w_ruling : Value) (w_spare : Value) (w_now_load : Value) (w_now_sag : Value) (q_now_joy : Nat) (q_now_bowl : Nat) (w_now_grief : Value) (q_now_place : Nat) (x_now_arches : Int32) (x_now_cats : Int32) (x_now_store : Int32) (x_now_hour : Int32) (x_now_drops : Int32) (q_text_signs : Nat) (x_text_length : Int32) (f_text_signs : Nat → Int32) (f_now_joy : Nat → Int32) (f_now_bowl : Nat → Int32) (f_now_place : Nat → Int32) (w_past_ring : Value) (x_past_next : Int32) (x_past_size : Int32) (Post : Int32 → (Int32 × Int32 × (Nat → Int32) × (Nat → Int32) × (Nat → Int32) × Int32) → Prop) (hg : p_X7_cats F x_now_arches x_now_cats x_text_length f_text_signs f_now_joy f_now_bowl f_now_place x_past_size Post) : MWi l D cT yX7_cats cX7_cats 4 (some .int) 3 72 0 0 [.ref h] [(h, oX7 (.ref q_text) w_told (.ref q_now) w_before w_trial (.ref q_past) w_kept w_feltNotes w_heardNotes w_draws w_purrs w_alone w_nimbers w_ways w_ruling w_spare), (q_now, oX6 w_now_load w_now_sag (.ref q_now_joy) (.ref q_now_bowl) w_now_grief (.ref q_now_place) (.int x_now_arches) (.int x_now_cats) (.int x_now_store) (.int x_now_hour) (.int x_now_drops)), (q_text, oX5 (.ref q_text_signs) (.int x_text_length)), (q_text_signs, aC cT 80 f_text_signs), (q_now_joy, aI cT 8 f_now_joy), (q_now_bowl, aI cT 8 f_now_bowl), (q_now_place, aI cT 8 f_now_place), (q_past, oX2 w_past_ring (.int x_past_next) (.int x_past_size))] Post (fun (u : (Int32 × Int32 × (Nat → Int32) × (Nat → Int32) × (Nat → Int32) × Int32)) => [(h, oX7 (.ref q_text) w_told (.ref q_now) w_before w_trial (.ref q_past) w_kept w_feltNotes w_heardNotes w_draws w_purrs w_alone w_nimbers w_ways w_ruling w_spare), (q_now, oX6 w_now_load w_now_sag (.ref q_now_joy) (.ref q_now_bowl) w_now_grief (.ref q_now_place) (.int x_now_arches) (.int u.1) (.int x_now_store) (.int x_now_hour) (.int x_now_drops)), (q_text, oX5 (.ref q_text_signs) (.int u.2.1)), (q_text_signs, aC cT 80 f_text_signs), (q_now_joy, aI cT 8 u.2.2.1), (q_now_bowl, aI cT 8 u.2.2.2.1), (q_now_place, aI cT 8 u.2.2.2.2.1), (q_past, oX2 w_past_ring (.int x_past_next) (.int u.2.2.2.2.2))]) := by
  refine MWi.of (by decide) (Nat.le_of_ble_eq_true rfl) ?_
  intro p e s m below meth c A hA C0 hnm hr hP hD ls hl
  have hl : lv_has ls 4 [(0, .ref h)] := hl
  have hx := C0.x
  have hb := C0.b
  have hS : va_S A s.heap s.heap [] := va_S.rf
  have hP : va_P D cls9 [(h, oX7 (.ref q_text) w_told (.ref q_now) w_before w_trial (.ref q_past) w_kept w_feltNotes w_heardNotes w_draws w_purrs w_alone w_nimbers w_ways w_ruling w_spare), (q_now, oX6 w_now_load w_now_sag (.ref q_now_joy) (.ref q_now_bowl) w_now_grief (.ref q_now_place) (.int x_now_arches) (.int x_now_cats) (.int x_now_store) (.int x_now_hour) (.int x_now_drops)), (q_text, oX5 (.ref q_text_signs) (.int x_text_length)), (q_text_signs, aC cT 80 f_text_signs), (q_now_joy, aI cT 8 f_now_joy), (q_now_bowl, aI cT 8 f_now_bowl), (q_now_place, aI cT 8 f_now_place), (q_past, oX2 w_past_ring (.int x_past_next) (.int x_past_size))] s.heap := hP
  have hD : va_D A [(h, oX7 (.ref q_text) w_told (.ref q_now) w_before w_trial (.ref q_past) w_kept w_feltNotes w_heardNotes w_draws w_purrs w_alone w_nimbers w_ways w_ruling w_spare), (q_now, oX6 w_now_load w_now_sag (.ref q_now_joy) (.ref q_now_bowl) w_now_grief (.ref q_now_place) (.int x_now_arches) (.int x_now_cats) (.int x_now_store) (.int x_now_hour) (.int x_now_drops)), (q_text, oX5 (.ref q_text_signs) (.int x_text_length)), (q_text_signs, aC cT 80 f_text_signs), (q_now_joy, aI cT 8 f_now_joy), (q_now_bowl, aI cT 8 f_now_bowl), (q_now_place, aI cT 8 f_now_place), (q_past, oX2 w_past_ring (.int x_past_next) (.int x_past_size))] := hD
  have L48 : ∀ (r_24 : Int32) (s0_45 : Int32) (n48 : Nat) (y3_48 : Int32) (x_now_cats_48 : Int32) (f_now_joy_48 : Nat → Int32) (f_now_bowl_48 : Nat → Int32) (f_now_place_48 : Nat → Int32) (H : Heap) (locs : List Loc) (ls : Array Slot), p_X7_cats_48 F x_text_length f_text_signs x_past_size r_24 s0_45 Post n48 y3_48 x_now_cats_48 f_now_joy_48 f_now_bowl_48 f_now_place_48 → va_P D cls9 [(h, oX7 (.ref q_text) w_told (.ref q_now) w_before w_trial (.ref q_past) w_kept w_feltNotes w_heardNotes w_draws w_purrs w_alone w_nimbers w_ways w_ruling w_spare), (q_now, oX6 w_now_load w_now_sag (.ref q_now_joy) (.ref q_now_bowl) w_now_grief (.ref q_now_place) (.int x_now_arches) (.int x_now_cats_48) (.int x_now_store) (.int x_now_hour) (.int x_now_drops)), (q_text, oX5 (.ref q_text_signs) (.int x_text_length)), (q_text_signs, aC cT 80 f_text_signs), (q_now_joy, aI cT 8 f_now_joy_48), (q_now_bowl, aI cT 8 f_now_bowl_48), (q_now_place, aI cT 8 f_now_place_48), (q_past, oX2 w_past_ring (.int x_past_next) (.int x_past_size))] H → va_D A [(h, oX7 (.ref q_text) w_told (.ref q_now) w_before w_trial (.ref q_past) w_kept w_feltNotes w_heardNotes w_draws w_purrs w_alone w_nimbers w_ways w_ruling w_spare), (q_now, oX6 w_now_load w_now_sag (.ref q_now_joy) (.ref q_now_bowl) w_now_grief (.ref q_now_place) (.int x_now_arches) (.int x_now_cats_48) (.int x_now_store) (.int x_now_hour) (.int x_now_drops)), (q_text, oX5 (.ref q_text_signs) (.int x_text_length)), (q_text_signs, aC cT 80 f_text_signs), (q_now_joy, aI cT 8 f_now_joy_48), (q_now_bowl, aI cT 8 f_now_bowl_48), (q_now_place, aI cT 8 f_now_place_48), (q_past, oX2 w_past_ring (.int x_past_next) (.int x_past_size))] → va_S A s.heap H locs → lv_has ls 4 [(0, .ref h), (1, .int r_24), (2, .int s0_45), (3, .int y3_48)] → W p l e (rmO 3 72 0 0) s m ([.ref h] : List Value).toArray below meth c H locs 0 0 (MQ below (va_Qi Post (cB D A (fun (u : (Int32 × Int32 × (Nat → Int32) × (Nat → Int32) × (Nat → Int32) × Int32)) => [(h, oX7 (.ref q_text) w_told (.ref q_now) w_before w_trial (.ref q_past) w_kept w_feltNotes w_heardNotes w_draws w_purrs w_alone w_nimbers w_ways w_ruling w_spare), (q_now, oX6 w_now_load w_now_sag (.ref q_now_joy) (.ref q_now_bowl) w_now_grief (.ref q_now_place) (.int x_now_arches) (.int u.1) (.int x_now_store) (.int x_now_hour) (.int x_now_drops)), (q_text, oX5 (.ref q_text_signs) (.int u.2.1)), (q_text_signs, aC cT 80 f_text_signs), (q_now_joy, aI cT 8 u.2.2.1), (q_now_bowl, aI cT 8 u.2.2.2.1), (q_now_place, aI cT 8 u.2.2.2.2.1), (q_past, oX2 w_past_ring (.int x_past_next) (.int u.2.2.2.2.2))])) A) ([.ref h] : List Value).toArray s 0 0 A) (F0 m 48 ls []) := by
    intro r_24 s0_45 n48
    induction n48 with
    | zero =>
      intro y3_48 x_now_cats_48 f_now_joy_48 f_now_bowl_48 f_now_place_48 H locs ls hg hP hD hS hl
      exact False.elim hg
    | succ n48 ih48 =>
      intro y3_48 x_now_cats_48 f_now_joy_48 f_now_bowl_48 f_now_place_48 H locs ls hg hP hD hS hl
      rw [p_X7_cats_48_s] at hg
      refine lv_iload_n hx hb dX7_cats_48 rfl (lv_at hl 3 rfl) ?_
      refine lv_iload_n hx hb dX7_cats_49 rfl (lv_at hl 2 rfl) ?_
      refine lv_icmp_ge (tgt := 100) hx hb dX7_cats_50 (by decide) (fun c_50 => ?_) (fun c_50 => ?_)
      · have hg := hg.1 c_50
        refine lv_aload_n hx hb dX7_cats_100 rfl (lv_at hl 0 rfl) ?_
        refine lv_iload_n hx hb dX7_cats_101 rfl (lv_at hl 1 rfl) ?_
        refine lv_iload_n hx hb dX7_cats_102 rfl (lv_at hl 2 rfl) ?_
        refine k_Vi (rest := []) (wr := [(q_now, oX6 w_now_load w_now_sag (.ref q_now_joy) (.ref q_now_bowl) w_now_grief (.ref q_now_place) (.int x_now_arches) (.int x_now_cats_48) (.int x_now_store) (.int x_now_hour) (.int x_now_drops)), (q_text_signs, aC cT 80 f_text_signs), (q_now_joy, aI cT 8 f_now_joy_48), (q_now_bowl, aI cT 8 f_now_bowl_48), (q_now_place, aI cT 8 f_now_place_48)]) (w2 := fun u_103 => [(q_now, oX6 w_now_load w_now_sag (.ref q_now_joy) (.ref q_now_bowl) w_now_grief (.ref q_now_place) (.int x_now_arches) (.int x_now_cats_48) (.int x_now_store) (.int x_now_hour) (.int x_now_drops)), (q_text_signs, aC cT 80 f_text_signs), (q_now_joy, aI cT 8 f_now_joy_48), (q_now_bowl, aI cT 8 f_now_bowl_48), (q_now_place, aI cT 8 f_now_place_48), (h, oX7 (.ref q_text) w_told (.ref q_now) w_before w_trial (.ref q_past) w_kept w_feltNotes w_heardNotes w_draws w_purrs w_alone w_nimbers w_ways w_ruling w_spare), (q_text, oX5 (.ref q_text_signs) (.int u_103.1)), (q_past, oX2 w_past_ring (.int x_past_next) (.int u_103.2))]) C0 lk_X7_114 (c_X7_linesTaken l D cT F h r_24 s0_45 q_text w_told (.ref q_now) w_before w_trial q_past w_kept w_feltNotes w_heardNotes w_draws w_purrs w_alone w_nimbers w_ways w_ruling w_spare (.ref q_text_signs) x_text_length w_past_ring x_past_next x_past_size _ hg) hP hD hS hA [0, 2, 7] [1, 3, 4, 5, 6] (by decide +kernel) rfl rfl (fun _ => rfl) rfl rfl ⟨Nat.le_of_ble_eq_true rfl, Nat.le_of_ble_eq_true rfl⟩ rfl hl.1 rfl (Nat.le_of_ble_eq_true rfl) dX7_cats_103 ⟨Nat.le_of_ble_eq_true rfl, Nat.le_of_ble_eq_true rfl⟩ ?_
        intro r_103 u_103 H locs hg hP hD hS
        exact k_iret C0 hr (x_now_cats_48, u_103.1, f_now_joy_48, f_now_bowl_48, f_now_place_48, u_103.2) hg (subP hP [5, 0, 6, 1, 2, 3, 4, 7] rfl) (hD.sub [5, 0, 6, 1, 2, 3, 4, 7] (nd2_ok _ (by decide +kernel)) rfl) hS dX7_cats_106
      have hg := hg.2 c_50
      refine lv_aload_n hx hb dX7_cats_53 rfl (lv_at hl 0 rfl) ?_
      refine gf_X7_26 C0 hP 0 rfl rfl dX7_cats_54 ?_
      refine lv_aload_n hx hb dX7_cats_57 rfl (lv_at hl 0 rfl) ?_
      refine gf_X7_10 C0 hP 0 rfl rfl dX7_cats_58 ?_
      refine lv_iconst (v := (4 : Int32)) hx hb dX7_cats_61 (by decide) ?_
      refine lv_iload_n hx hb dX7_cats_62 rfl (lv_at hl 3 rfl) ?_
      refine lv_imul hx hb dX7_cats_63 ?_
      refine k_Vxi (rest := [.ref q_now]) C0 lk_X7_108 (c_X5_digit l D cT F q_text ((4 : Int32) * y3_48) q_text_signs x_text_length f_text_signs _ hg) hP hD hS hA [2, 3] (by decide +kernel) rfl rfl rfl ⟨Nat.le_of_ble_eq_true rfl, Nat.le_of_ble_eq_true rfl⟩ rfl hl.1 rfl (Nat.le_of_ble_eq_true rfl) dX7_cats_64 ⟨Nat.le_of_ble_eq_true rfl, Nat.le_of_ble_eq_true rfl⟩ (fun r_64 hg => ?_)
      refine lv_aload_n hx hb dX7_cats_67 rfl (lv_at hl 0 rfl) ?_
      refine gf_X7_10 C0 hP 0 rfl rfl dX7_cats_68 ?_
      refine lv_iconst (v := (4 : Int32)) hx hb dX7_cats_71 (by decide) ?_
      refine lv_iload_n hx hb dX7_cats_72 rfl (lv_at hl 3 rfl) ?_
      refine lv_imul hx hb dX7_cats_73 ?_
      refine lv_iconst (v := (1 : Int32)) hx hb dX7_cats_74 (by decide) ?_
      refine lv_iadd hx hb dX7_cats_75 ?_
      refine k_Vxi (rest := [.int r_64, .ref q_now]) C0 lk_X7_108 (c_X5_digit l D cT F q_text (((4 : Int32) * y3_48) + (1 : Int32)) q_text_signs x_text_length f_text_signs _ hg) hP hD hS hA [2, 3] (by decide +kernel) rfl rfl rfl ⟨Nat.le_of_ble_eq_true rfl, Nat.le_of_ble_eq_true rfl⟩ rfl hl.1 rfl (Nat.le_of_ble_eq_true rfl) dX7_cats_76 ⟨Nat.le_of_ble_eq_true rfl, Nat.le_of_ble_eq_true rfl⟩ (fun r_76 hg => ?_)
      refine lv_aload_n hx hb dX7_cats_79 rfl (lv_at hl 0 rfl) ?_
      refine gf_X7_10 C0 hP 0 rfl rfl dX7_cats_80 ?_
      refine lv_iconst (v := (4 : Int32)) hx hb dX7_cats_83 (by decide) ?_
      refine lv_iload_n hx hb dX7_cats_84 rfl (lv_at hl 3 rfl) ?_
      refine lv_imul hx hb dX7_cats_85 ?_
      refine lv_iconst (v := (2 : Int32)) hx hb dX7_cats_86 (by decide) ?_
      refine lv_iadd hx hb dX7_cats_87 ?_
      refine k_Vxi (rest := [.int r_76, .int r_64, .ref q_now]) C0 lk_X7_108 (c_X5_digit l D cT F q_text (((4 : Int32) * y3_48) + (2 : Int32)) q_text_signs x_text_length f_text_signs _ hg) hP hD hS hA [2, 3] (by decide +kernel) rfl rfl rfl ⟨Nat.le_of_ble_eq_true rfl, Nat.le_of_ble_eq_true rfl⟩ rfl hl.1 rfl (Nat.le_of_ble_eq_true rfl) dX7_cats_88 ⟨Nat.le_of_ble_eq_true rfl, Nat.le_of_ble_eq_true rfl⟩ (fun r_88 hg => ?_)
      refine k_Vv (rest := []) (wr := [(h, oX7 (.ref q_text) w_told (.ref q_now) w_before w_trial (.ref q_past) w_kept w_feltNotes w_heardNotes w_draws w_purrs w_alone w_nimbers w_ways w_ruling w_spare), (q_text, oX5 (.ref q_text_signs) (.int x_text_length)), (q_text_signs, aC cT 80 f_text_signs), (q_past, oX2 w_past_ring (.int x_past_next) (.int x_past_size))]) (w2 := fun u_91 => [(h, oX7 (.ref q_text) w_told (.ref q_now) w_before w_trial (.ref q_past) w_kept w_feltNotes w_heardNotes w_draws w_purrs w_alone w_nimbers w_ways w_ruling w_spare), (q_text, oX5 (.ref q_text_signs) (.int x_text_length)), (q_text_signs, aC cT 80 f_text_signs), (q_past, oX2 w_past_ring (.int x_past_next) (.int x_past_size)), (q_now, oX6 w_now_load w_now_sag (.ref q_now_joy) (.ref q_now_bowl) w_now_grief (.ref q_now_place) (.int x_now_arches) (.int u_91.1) (.int x_now_store) (.int x_now_hour) (.int x_now_drops)), (q_now_joy, aI cT 8 u_91.2.1), (q_now_bowl, aI cT 8 u_91.2.2.1), (q_now_place, aI cT 8 u_91.2.2.2)]) C0 lk_X7_121 (c_X6_addCat l D cT F q_now r_64 r_76 r_88 w_now_load w_now_sag q_now_joy q_now_bowl w_now_grief q_now_place x_now_arches x_now_cats_48 x_now_store x_now_hour x_now_drops f_now_joy_48 f_now_bowl_48 f_now_place_48 _ hg) hP hD hS hA [1, 4, 5, 6] [0, 2, 3, 7] (by decide +kernel) rfl rfl (fun _ => rfl) rfl rfl ⟨Nat.le_of_ble_eq_true rfl, Nat.le_of_ble_eq_true rfl⟩ rfl hl.1 rfl (Nat.le_of_ble_eq_true rfl) dX7_cats_91 ⟨Nat.le_of_ble_eq_true rfl, Nat.le_of_ble_eq_true rfl⟩ ?_
      intro u_91 H locs hg hP hD hS
      refine lv_iinc (v := (y3_48 + (1 : Int32))) (lv' := [(3, .int (y3_48 + (1 : Int32))), (0, .ref h), (1, .int r_24), (2, .int s0_45)]) hx hb dX7_cats_94 hl (k := 3) rfl rfl (by decide) rfl (fun ls hl => ?_)
      refine lv_goto (tgt := 48) hx hb dX7_cats_97 (by decide) ?_
      exact ih48 (y3_48 + (1 : Int32)) u_91.1 u_91.2.1 u_91.2.2.1 u_91.2.2.2 _ _ _ hg (subP hP [0, 4, 1, 2, 5, 6, 7, 3] rfl) (hD.sub [0, 4, 1, 2, 5, 6, 7, 3] (nd2_ok _ (by decide +kernel)) rfl) hS (lv_sub hl [1, 2, 3, 0] rfl)
  have L45 : ∀ (r_24 : Int32) (s0_45 : Int32) (H : Heap) (locs : List Loc) (ls : Array Slot), p_X7_cats_45 F x_now_cats x_text_length f_text_signs f_now_joy f_now_bowl f_now_place x_past_size r_24 Post s0_45 → va_P D cls9 [(h, oX7 (.ref q_text) w_told (.ref q_now) w_before w_trial (.ref q_past) w_kept w_feltNotes w_heardNotes w_draws w_purrs w_alone w_nimbers w_ways w_ruling w_spare), (q_now, oX6 w_now_load w_now_sag (.ref q_now_joy) (.ref q_now_bowl) w_now_grief (.ref q_now_place) (.int x_now_arches) (.int x_now_cats) (.int x_now_store) (.int x_now_hour) (.int x_now_drops)), (q_text, oX5 (.ref q_text_signs) (.int x_text_length)), (q_text_signs, aC cT 80 f_text_signs), (q_now_joy, aI cT 8 f_now_joy), (q_now_bowl, aI cT 8 f_now_bowl), (q_now_place, aI cT 8 f_now_place), (q_past, oX2 w_past_ring (.int x_past_next) (.int x_past_size))] H → va_D A [(h, oX7 (.ref q_text) w_told (.ref q_now) w_before w_trial (.ref q_past) w_kept w_feltNotes w_heardNotes w_draws w_purrs w_alone w_nimbers w_ways w_ruling w_spare), (q_now, oX6 w_now_load w_now_sag (.ref q_now_joy) (.ref q_now_bowl) w_now_grief (.ref q_now_place) (.int x_now_arches) (.int x_now_cats) (.int x_now_store) (.int x_now_hour) (.int x_now_drops)), (q_text, oX5 (.ref q_text_signs) (.int x_text_length)), (q_text_signs, aC cT 80 f_text_signs), (q_now_joy, aI cT 8 f_now_joy), (q_now_bowl, aI cT 8 f_now_bowl), (q_now_place, aI cT 8 f_now_place), (q_past, oX2 w_past_ring (.int x_past_next) (.int x_past_size))] → va_S A s.heap H locs → lv_has ls 4 [(0, .ref h), (1, .int r_24)] → W p l e (rmO 3 72 0 0) s m ([.ref h] : List Value).toArray below meth c H locs 0 0 (MQ below (va_Qi Post (cB D A (fun (u : (Int32 × Int32 × (Nat → Int32) × (Nat → Int32) × (Nat → Int32) × Int32)) => [(h, oX7 (.ref q_text) w_told (.ref q_now) w_before w_trial (.ref q_past) w_kept w_feltNotes w_heardNotes w_draws w_purrs w_alone w_nimbers w_ways w_ruling w_spare), (q_now, oX6 w_now_load w_now_sag (.ref q_now_joy) (.ref q_now_bowl) w_now_grief (.ref q_now_place) (.int x_now_arches) (.int u.1) (.int x_now_store) (.int x_now_hour) (.int x_now_drops)), (q_text, oX5 (.ref q_text_signs) (.int u.2.1)), (q_text_signs, aC cT 80 f_text_signs), (q_now_joy, aI cT 8 u.2.2.1), (q_now_bowl, aI cT 8 u.2.2.2.1), (q_now_place, aI cT 8 u.2.2.2.2.1), (q_past, oX2 w_past_ring (.int x_past_next) (.int u.2.2.2.2.2))])) A) ([.ref h] : List Value).toArray s 0 0 A) (F0 m 45 ls [.int s0_45]) := by
    intro r_24 s0_45 H locs ls hg hP hD hS hl
    unfold p_X7_cats_45 at hg
    refine lv_istore_n (lv' := [(2, .int s0_45), (0, .ref h), (1, .int r_24)]) hx hb dX7_cats_45 rfl hl (by decide) rfl (fun ls hl => ?_)
    refine lv_iconst (v := (0 : Int32)) hx hb dX7_cats_46 (by decide) ?_
    refine lv_istore_n (lv' := [(3, .int (0 : Int32)), (2, .int s0_45), (0, .ref h), (1, .int r_24)]) hx hb dX7_cats_47 rfl hl (by decide) rfl (fun ls hl => ?_)
    exact L48 r_24 s0_45 F (0 : Int32) x_now_cats f_now_joy f_now_bowl f_now_place _ _ _ hg hP hD hS (lv_sub hl [2, 3, 1, 0] rfl)
  unfold p_X7_cats at hg
  refine lv_aload_n hx hb dX7_cats_0 rfl (lv_at hl 0 rfl) ?_
  refine gf_X7_10 C0 hP 0 rfl rfl dX7_cats_1 ?_
  refine lv_iconst (v := (3 : Int32)) hx hb dX7_cats_4 (by decide) ?_
  refine lv_bipush (v := (8 : Int32)) hx hb dX7_cats_5 (by decide) ?_
  refine lv_bipush (v := (8 : Int32)) hx hb dX7_cats_7 (by decide) ?_
  refine lv_aload_n hx hb dX7_cats_9 rfl (lv_at hl 0 rfl) ?_
  refine gf_X7_26 C0 hP 0 rfl rfl dX7_cats_10 ?_
  refine gf_X7_118 C0 hP 1 rfl rfl dX7_cats_13 ?_
  refine lv_isub hx hb dX7_cats_16 ?_
  refine lv_aload_n hx hb dX7_cats_17 rfl (lv_at hl 0 rfl) ?_
  refine gf_X7_26 C0 hP 0 rfl rfl dX7_cats_18 ?_
  refine gf_X7_98 C0 hP 1 rfl rfl dX7_cats_21 ?_
  refine k_Vxi (rest := []) C0 lk_X7_101 (c_X5_faultInLines l D cT F q_text (3 : Int32) (8 : Int32) ((8 : Int32) - x_now_cats) x_now_arches q_text_signs x_text_length f_text_signs _ hg) hP hD hS hA [2, 3] (by decide +kernel) rfl rfl rfl ⟨Nat.le_of_ble_eq_true rfl, Nat.le_of_ble_eq_true rfl⟩ rfl hl.1 rfl (Nat.le_of_ble_eq_true rfl) dX7_cats_24 ⟨Nat.le_of_ble_eq_true rfl, Nat.le_of_ble_eq_true rfl⟩ (fun r_24 hg => ?_)
  refine lv_istore_n (lv' := [(1, .int r_24), (0, .ref h)]) hx hb dX7_cats_27 rfl hl (by decide) rfl (fun ls hl => ?_)
  refine lv_iload_n hx hb dX7_cats_28 rfl (lv_at hl 0 rfl) ?_
  refine lv_iconst (v := (-1 : Int32)) hx hb dX7_cats_29 (by decide) ?_
  refine lv_icmp_ne (tgt := 44) hx hb dX7_cats_30 (by decide) (fun c_30 => ?_) (fun c_30 => ?_)
  · have hg := hg.1 c_30
    refine lv_iconst (v := (0 : Int32)) hx hb dX7_cats_44 (by decide) ?_
    exact L45 r_24 (0 : Int32) _ _ _ hg hP hD hS (lv_sub hl [1, 0] rfl)
  have hg := hg.2 c_30
  refine lv_aload_n hx hb dX7_cats_33 rfl (lv_at hl 1 rfl) ?_
  refine gf_X7_10 C0 hP 0 rfl rfl dX7_cats_34 ?_
  refine lv_iconst (v := (3 : Int32)) hx hb dX7_cats_37 (by decide) ?_
  refine k_Vxi (rest := []) C0 lk_X7_105 (c_X5_linesOf l D cT F q_text (3 : Int32) (.ref q_text_signs) x_text_length _ hg) hP hD hS hA [2] (by decide +kernel) rfl rfl rfl ⟨Nat.le_of_ble_eq_true rfl, Nat.le_of_ble_eq_true rfl⟩ rfl hl.1 rfl (Nat.le_of_ble_eq_true rfl) dX7_cats_38 ⟨Nat.le_of_ble_eq_true rfl, Nat.le_of_ble_eq_true rfl⟩ (fun r_38 hg => ?_)
  refine lv_goto (tgt := 45) hx hb dX7_cats_41 (by decide) ?_
  exact L45 r_24 r_38 _ _ _ hg hP hD hS (lv_sub hl [1, 0] rfl)
theorem dX7_readSpare_0 : decode cX7_readSpare 0 = .ok (.aload_n 0, 1) := by decide +kernel
theorem dX7_readSpare_1 : decode cX7_readSpare 1 = .ok (.getfield 87, 3) := by decide +kernel
theorem dX7_readSpare_4 : decode cX7_readSpare 4 = .ok (.aload_n 0, 1) := by decide +kernel
theorem dX7_readSpare_5 : decode cX7_readSpare 5 = .ok (.getfield 10, 3) := by decide +kernel
theorem dX7_readSpare_8 : decode cX7_readSpare 8 = .ok (.invokevirtual 132, 3) := by decide +kernel
theorem dX7_readSpare_11 : decode cX7_readSpare 11 = .ok (.istore_n 1, 1) := by decide +kernel
theorem dX7_readSpare_12 : decode cX7_readSpare 12 = .ok (.aload_n 0, 1) := by decide +kernel
theorem dX7_readSpare_13 : decode cX7_readSpare 13 = .ok (.getfield 10, 3) := by decide +kernel
theorem dX7_readSpare_16 : decode cX7_readSpare 16 = .ok (.iconst 0, 1) := by decide +kernel
theorem dX7_readSpare_17 : decode cX7_readSpare 17 = .ok (.putfield 94, 3) := by decide +kernel
theorem dX7_readSpare_20 : decode cX7_readSpare 20 = .ok (.iload_n 1, 1) := by decide +kernel
theorem dX7_readSpare_21 : decode cX7_readSpare 21 = .ok (.ireturn, 1) := by decide +kernel
def p_X7_readSpare (F : Nat) (x_text_length : Int32) (f_spare_steps : Nat → Int32) (f_text_signs : Nat → Int32) (f_spare_stack : Nat → Int32) (Post : Int32 → (Int32 × Int32 × Int32 × Int32 × Int32 × Int32 × Int32 × (Nat → Int32) × (Nat → Int32)) → Prop) : Prop := (p_X4_read F x_text_length f_spare_steps f_text_signs f_spare_stack (fun (r_8 : Int32) (u_8 : (Int32 × Int32 × Int32 × Int32 × Int32 × Int32 × (Nat → Int32) × (Nat → Int32))) => (Post r_8 (u_8.1, u_8.2.1, u_8.2.2.1, u_8.2.2.2.1, u_8.2.2.2.2.1, u_8.2.2.2.2.2.1, (0 : Int32), u_8.2.2.2.2.2.2.1, u_8.2.2.2.2.2.2.2))))
set_option maxHeartbeats 4000000 in
set_option maxRecDepth 100000 in
theorem c_X7_readSpare (l : Launch) (D : va_G) (cT : Nat → ClassId) (F : Nat) (h : Nat) (q_text : Nat) (w_told : Value) (w_now : Value) (w_before : Value) (w_trial : Value) (w_past : Value) (w_kept : Value) (w_feltNotes : Value) (w_heardNotes : Value) (w_draws : Value) (w_purrs : Value) (w_alone : Value) (w_nimbers : Value) (w_ways : Value) (w_ruling : Value) (q_spare : Nat) (q_spare_steps : Nat) (q_spare_stack : Nat) (x_spare_size : Int32) (x_spare_top : Int32) (x_spare_open : Int32) (x_spare_compared : Int32) (x_spare_digits : Int32) (x_spare_wantsThing : Int32) (q_text_signs : Nat) (x_text_length : Int32) (f_spare_steps : Nat → Int32) (f_text_signs : Nat → Int32) (f_spare_stack : Nat → Int32) (Post : Int32 → (Int32 × Int32 × Int32 × Int32 × Int32 × Int32 × Int32 × (Nat → Int32) × (Nat → Int32)) → Prop) (hg : p_X7_readSpare F x_text_length f_spare_steps f_text_signs f_spare_stack Post) : MWi l D cT yX7_readSpare cX7_readSpare 2 (some .int) 5 108 0 0 [.ref h] [(h, oX7 (.ref q_text) w_told w_now w_before w_trial w_past w_kept w_feltNotes w_heardNotes w_draws w_purrs w_alone w_nimbers w_ways w_ruling (.ref q_spare)), (q_spare, oX4 (.ref q_spare_steps) (.ref q_spare_stack) (.int x_spare_size) (.int x_spare_top) (.int x_spare_open) (.int x_spare_compared) (.int x_spare_digits) (.int x_spare_wantsThing)), (q_text, oX5 (.ref q_text_signs) (.int x_text_length)), (q_spare_steps, aI cT 40 f_spare_steps), (q_text_signs, aC cT 80 f_text_signs), (q_spare_stack, aI cT 40 f_spare_stack)] Post (fun (u : (Int32 × Int32 × Int32 × Int32 × Int32 × Int32 × Int32 × (Nat → Int32) × (Nat → Int32))) => [(h, oX7 (.ref q_text) w_told w_now w_before w_trial w_past w_kept w_feltNotes w_heardNotes w_draws w_purrs w_alone w_nimbers w_ways w_ruling (.ref q_spare)), (q_spare, oX4 (.ref q_spare_steps) (.ref q_spare_stack) (.int u.1) (.int u.2.1) (.int u.2.2.1) (.int u.2.2.2.1) (.int u.2.2.2.2.1) (.int u.2.2.2.2.2.1)), (q_text, oX5 (.ref q_text_signs) (.int u.2.2.2.2.2.2.1)), (q_spare_steps, aI cT 40 u.2.2.2.2.2.2.2.1), (q_text_signs, aC cT 80 f_text_signs), (q_spare_stack, aI cT 40 u.2.2.2.2.2.2.2.2)]) := by
  refine MWi.of (by decide) (Nat.le_of_ble_eq_true rfl) ?_
  intro p e s m below meth c A hA C0 hnm hr hP hD ls hl
  have hl : lv_has ls 2 [(0, .ref h)] := hl
  have hx := C0.x
  have hb := C0.b
  have hS : va_S A s.heap s.heap [] := va_S.rf
  have hP : va_P D cls9 [(h, oX7 (.ref q_text) w_told w_now w_before w_trial w_past w_kept w_feltNotes w_heardNotes w_draws w_purrs w_alone w_nimbers w_ways w_ruling (.ref q_spare)), (q_spare, oX4 (.ref q_spare_steps) (.ref q_spare_stack) (.int x_spare_size) (.int x_spare_top) (.int x_spare_open) (.int x_spare_compared) (.int x_spare_digits) (.int x_spare_wantsThing)), (q_text, oX5 (.ref q_text_signs) (.int x_text_length)), (q_spare_steps, aI cT 40 f_spare_steps), (q_text_signs, aC cT 80 f_text_signs), (q_spare_stack, aI cT 40 f_spare_stack)] s.heap := hP
  have hD : va_D A [(h, oX7 (.ref q_text) w_told w_now w_before w_trial w_past w_kept w_feltNotes w_heardNotes w_draws w_purrs w_alone w_nimbers w_ways w_ruling (.ref q_spare)), (q_spare, oX4 (.ref q_spare_steps) (.ref q_spare_stack) (.int x_spare_size) (.int x_spare_top) (.int x_spare_open) (.int x_spare_compared) (.int x_spare_digits) (.int x_spare_wantsThing)), (q_text, oX5 (.ref q_text_signs) (.int x_text_length)), (q_spare_steps, aI cT 40 f_spare_steps), (q_text_signs, aC cT 80 f_text_signs), (q_spare_stack, aI cT 40 f_spare_stack)] := hD
  unfold p_X7_readSpare at hg
  refine lv_aload_n hx hb dX7_readSpare_0 rfl (lv_at hl 0 rfl) ?_
  refine gf_X7_87 C0 hP 0 rfl rfl dX7_readSpare_1 ?_
  refine lv_aload_n hx hb dX7_readSpare_4 rfl (lv_at hl 0 rfl) ?_
  refine gf_X7_10 C0 hP 0 rfl rfl dX7_readSpare_5 ?_
  refine k_Vi (rest := []) (wr := [(h, oX7 (.ref q_text) w_told w_now w_before w_trial w_past w_kept w_feltNotes w_heardNotes w_draws w_purrs w_alone w_nimbers w_ways w_ruling (.ref q_spare))]) (w2 := fun u_8 => [(h, oX7 (.ref q_text) w_told w_now w_before w_trial w_past w_kept w_feltNotes w_heardNotes w_draws w_purrs w_alone w_nimbers w_ways w_ruling (.ref q_spare)), (q_spare, oX4 (.ref q_spare_steps) (.ref q_spare_stack) (.int u_8.1) (.int u_8.2.1) (.int u_8.2.2.1) (.int u_8.2.2.2.1) (.int u_8.2.2.2.2.1) (.int u_8.2.2.2.2.2.1)), (q_text, oX5 (.ref q_text_signs) (.int x_text_length)), (q_spare_steps, aI cT 40 u_8.2.2.2.2.2.2.1), (q_text_signs, aC cT 80 f_text_signs), (q_spare_stack, aI cT 40 u_8.2.2.2.2.2.2.2)]) C0 lk_X7_132 (c_X4_read l D cT F q_spare q_text q_spare_steps q_spare_stack x_spare_size x_spare_top x_spare_open x_spare_compared x_spare_digits x_spare_wantsThing q_text_signs x_text_length f_spare_steps f_text_signs f_spare_stack _ hg) hP hD hS hA [1, 2, 3, 4, 5] [0] (by decide +kernel) rfl rfl (fun _ => rfl) rfl rfl ⟨Nat.le_of_ble_eq_true rfl, Nat.le_of_ble_eq_true rfl⟩ rfl hl.1 rfl (Nat.le_of_ble_eq_true rfl) dX7_readSpare_8 ⟨Nat.le_of_ble_eq_true rfl, Nat.le_of_ble_eq_true rfl⟩ ?_
  intro r_8 u_8 H locs hg hP hD hS
  refine lv_istore_n (lv' := [(1, .int r_8), (0, .ref h)]) hx hb dX7_readSpare_11 rfl hl (by decide) rfl (fun ls hl => ?_)
  refine lv_aload_n hx hb dX7_readSpare_12 rfl (lv_at hl 1 rfl) ?_
  refine gf_X7_10 C0 hP 0 rfl rfl dX7_readSpare_13 ?_
  refine lv_iconst (v := (0 : Int32)) hx hb dX7_readSpare_16 (by decide) ?_
  refine pf_X7_94 C0 hP hD hS 2 rfl (Nat.le_of_ble_eq_true rfl) (ws2 := [(h, oX7 (.ref q_text) w_told w_now w_before w_trial w_past w_kept w_feltNotes w_heardNotes w_draws w_purrs w_alone w_nimbers w_ways w_ruling (.ref q_spare)), (q_spare, oX4 (.ref q_spare_steps) (.ref q_spare_stack) (.int u_8.1) (.int u_8.2.1) (.int u_8.2.2.1) (.int u_8.2.2.2.1) (.int u_8.2.2.2.2.1) (.int u_8.2.2.2.2.2.1)), (q_text, oX5 (.ref q_text_signs) (.int (0 : Int32))), (q_spare_steps, aI cT 40 u_8.2.2.2.2.2.2.1), (q_text_signs, aC cT 80 f_text_signs), (q_spare_stack, aI cT 40 u_8.2.2.2.2.2.2.2)]) rfl dX7_readSpare_17 (fun H locs hP hD hS => ?_)
  refine lv_iload_n hx hb dX7_readSpare_20 rfl (lv_at hl 0 rfl) ?_
  exact k_iret C0 hr (u_8.1, u_8.2.1, u_8.2.2.1, u_8.2.2.2.1, u_8.2.2.2.2.1, u_8.2.2.2.2.2.1, (0 : Int32), u_8.2.2.2.2.2.2.1, u_8.2.2.2.2.2.2.2) hg hP hD hS dX7_readSpare_21
theorem dX7_rule_0 : decode cX7_rule 0 = .ok (.aload_n 0, 1) := by decide +kernel
theorem dX7_rule_1 : decode cX7_rule 1 = .ok (.invokevirtual 128, 3) := by decide +kernel
theorem dX7_rule_4 : decode cX7_rule 4 = .ok (.istore_n 1, 1) := by decide +kernel
theorem dX7_rule_5 : decode cX7_rule 5 = .ok (.iload_n 1, 1) := by decide +kernel
theorem dX7_rule_6 : decode cX7_rule 6 = .ok (.iconst (-1), 1) := by decide +kernel
theorem dX7_rule_7 : decode cX7_rule 7 = .ok (.if_icmp .eq 7, 3) := by decide +kernel
theorem dX7_rule_10 : decode cX7_rule 10 = .ok (.iconst (-1), 1) := by decide +kernel
theorem dX7_rule_11 : decode cX7_rule 11 = .ok (.iload_n 1, 1) := by decide +kernel
theorem dX7_rule_12 : decode cX7_rule 12 = .ok (.isub, 1) := by decide +kernel
theorem dX7_rule_13 : decode cX7_rule 13 = .ok (.ireturn, 1) := by decide +kernel
theorem dX7_rule_14 : decode cX7_rule 14 = .ok (.aload_n 0, 1) := by decide +kernel
theorem dX7_rule_15 : decode cX7_rule 15 = .ok (.getfield 87, 3) := by decide +kernel
theorem dX7_rule_18 : decode cX7_rule 18 = .ok (.astore_n 2, 1) := by decide +kernel
theorem dX7_rule_19 : decode cX7_rule 19 = .ok (.aload_n 0, 1) := by decide +kernel
theorem dX7_rule_20 : decode cX7_rule 20 = .ok (.aload_n 0, 1) := by decide +kernel
theorem dX7_rule_21 : decode cX7_rule 21 = .ok (.getfield 83, 3) := by decide +kernel
theorem dX7_rule_24 : decode cX7_rule 24 = .ok (.putfield 87, 3) := by decide +kernel
theorem dX7_rule_27 : decode cX7_rule 27 = .ok (.aload_n 0, 1) := by decide +kernel
theorem dX7_rule_28 : decode cX7_rule 28 = .ok (.aload_n 2, 1) := by decide +kernel
theorem dX7_rule_29 : decode cX7_rule 29 = .ok (.putfield 83, 3) := by decide +kernel
theorem dX7_rule_32 : decode cX7_rule 32 = .ok (.iconst 0, 1) := by decide +kernel
theorem dX7_rule_33 : decode cX7_rule 33 = .ok (.ireturn, 1) := by decide +kernel
def p_X7_rule (F : Nat) (q_ruling : Nat) (q_spare : Nat) (x_text_length : Int32) (f_spare_steps : Nat → Int32) (f_text_signs : Nat → Int32) (f_spare_stack : Nat → Int32) (Post : Int32 → (Nat × Nat × Int32 × Int32 × Int32 × Int32 × Int32 × Int32 × Int32 × (Nat → Int32) × (Nat → Int32)) → Prop) : Prop := (p_X7_readSpare F x_text_length f_spare_steps f_text_signs f_spare_stack (fun (r_1 : Int32) (u_1 : (Int32 × Int32 × Int32 × Int32 × Int32 × Int32 × Int32 × (Nat → Int32) × (Nat → Int32))) => ((r_1 = (-1 : Int32) → (Post (0 : Int32) (q_spare, q_ruling, u_1.1, u_1.2.1, u_1.2.2.1, u_1.2.2.2.1, u_1.2.2.2.2.1, u_1.2.2.2.2.2.1, u_1.2.2.2.2.2.2.1, u_1.2.2.2.2.2.2.2.1, u_1.2.2.2.2.2.2.2.2))) ∧ (¬ r_1 = (-1 : Int32) → (Post ((-1 : Int32) - r_1) (q_ruling, q_spare, u_1.1, u_1.2.1, u_1.2.2.1, u_1.2.2.2.1, u_1.2.2.2.2.1, u_1.2.2.2.2.2.1, u_1.2.2.2.2.2.2.1, u_1.2.2.2.2.2.2.2.1, u_1.2.2.2.2.2.2.2.2))))))
set_option maxHeartbeats 4000000 in
set_option maxRecDepth 100000 in
theorem c_X7_rule (l : Launch) (D : va_G) (cT : Nat → ClassId) (F : Nat) (h : Nat) (q_text : Nat) (w_told : Value) (w_now : Value) (w_before : Value) (w_trial : Value) (w_past : Value) (w_kept : Value) (w_feltNotes : Value) (w_heardNotes : Value) (w_draws : Value) (w_purrs : Value) (w_alone : Value) (w_nimbers : Value) (w_ways : Value) (q_ruling : Nat) (q_spare : Nat) (q_spare_steps : Nat) (q_spare_stack : Nat) (x_spare_size : Int32) (x_spare_top : Int32) (x_spare_open : Int32) (x_spare_compared : Int32) (x_spare_digits : Int32) (x_spare_wantsThing : Int32) (q_text_signs : Nat) (x_text_length : Int32) (f_spare_steps : Nat → Int32) (f_text_signs : Nat → Int32) (f_spare_stack : Nat → Int32) (Post : Int32 → (Nat × Nat × Int32 × Int32 × Int32 × Int32 × Int32 × Int32 × Int32 × (Nat → Int32) × (Nat → Int32)) → Prop) (hg : p_X7_rule F q_ruling q_spare x_text_length f_spare_steps f_text_signs f_spare_stack Post) : MWi l D cT yX7_rule cX7_rule 3 (some .int) 6 129 0 0 [.ref h] [(h, oX7 (.ref q_text) w_told w_now w_before w_trial w_past w_kept w_feltNotes w_heardNotes w_draws w_purrs w_alone w_nimbers w_ways (.ref q_ruling) (.ref q_spare)), (q_spare, oX4 (.ref q_spare_steps) (.ref q_spare_stack) (.int x_spare_size) (.int x_spare_top) (.int x_spare_open) (.int x_spare_compared) (.int x_spare_digits) (.int x_spare_wantsThing)), (q_text, oX5 (.ref q_text_signs) (.int x_text_length)), (q_spare_steps, aI cT 40 f_spare_steps), (q_text_signs, aC cT 80 f_text_signs), (q_spare_stack, aI cT 40 f_spare_stack)] Post (fun (u : (Nat × Nat × Int32 × Int32 × Int32 × Int32 × Int32 × Int32 × Int32 × (Nat → Int32) × (Nat → Int32))) => [(h, oX7 (.ref q_text) w_told w_now w_before w_trial w_past w_kept w_feltNotes w_heardNotes w_draws w_purrs w_alone w_nimbers w_ways (.ref u.1) (.ref u.2.1)), (q_spare, oX4 (.ref q_spare_steps) (.ref q_spare_stack) (.int u.2.2.1) (.int u.2.2.2.1) (.int u.2.2.2.2.1) (.int u.2.2.2.2.2.1) (.int u.2.2.2.2.2.2.1) (.int u.2.2.2.2.2.2.2.1)), (q_text, oX5 (.ref q_text_signs) (.int u.2.2.2.2.2.2.2.2.1)), (q_spare_steps, aI cT 40 u.2.2.2.2.2.2.2.2.2.1), (q_text_signs, aC cT 80 f_text_signs), (q_spare_stack, aI cT 40 u.2.2.2.2.2.2.2.2.2.2)]) := by
  refine MWi.of (by decide) (Nat.le_of_ble_eq_true rfl) ?_
  intro p e s m below meth c A hA C0 hnm hr hP hD ls hl
  have hl : lv_has ls 3 [(0, .ref h)] := hl
  have hx := C0.x
  have hb := C0.b
  have hS : va_S A s.heap s.heap [] := va_S.rf
  have hP : va_P D cls9 [(h, oX7 (.ref q_text) w_told w_now w_before w_trial w_past w_kept w_feltNotes w_heardNotes w_draws w_purrs w_alone w_nimbers w_ways (.ref q_ruling) (.ref q_spare)), (q_spare, oX4 (.ref q_spare_steps) (.ref q_spare_stack) (.int x_spare_size) (.int x_spare_top) (.int x_spare_open) (.int x_spare_compared) (.int x_spare_digits) (.int x_spare_wantsThing)), (q_text, oX5 (.ref q_text_signs) (.int x_text_length)), (q_spare_steps, aI cT 40 f_spare_steps), (q_text_signs, aC cT 80 f_text_signs), (q_spare_stack, aI cT 40 f_spare_stack)] s.heap := hP
  have hD : va_D A [(h, oX7 (.ref q_text) w_told w_now w_before w_trial w_past w_kept w_feltNotes w_heardNotes w_draws w_purrs w_alone w_nimbers w_ways (.ref q_ruling) (.ref q_spare)), (q_spare, oX4 (.ref q_spare_steps) (.ref q_spare_stack) (.int x_spare_size) (.int x_spare_top) (.int x_spare_open) (.int x_spare_compared) (.int x_spare_digits) (.int x_spare_wantsThing)), (q_text, oX5 (.ref q_text_signs) (.int x_text_length)), (q_spare_steps, aI cT 40 f_spare_steps), (q_text_signs, aC cT 80 f_text_signs), (q_spare_stack, aI cT 40 f_spare_stack)] := hD
  unfold p_X7_rule at hg
  refine lv_aload_n hx hb dX7_rule_0 rfl (lv_at hl 0 rfl) ?_
  refine k_Vi (rest := []) (wr := []) (w2 := fun u_1 => [(h, oX7 (.ref q_text) w_told w_now w_before w_trial w_past w_kept w_feltNotes w_heardNotes w_draws w_purrs w_alone w_nimbers w_ways (.ref q_ruling) (.ref q_spare)), (q_spare, oX4 (.ref q_spare_steps) (.ref q_spare_stack) (.int u_1.1) (.int u_1.2.1) (.int u_1.2.2.1) (.int u_1.2.2.2.1) (.int u_1.2.2.2.2.1) (.int u_1.2.2.2.2.2.1)), (q_text, oX5 (.ref q_text_signs) (.int u_1.2.2.2.2.2.2.1)), (q_spare_steps, aI cT 40 u_1.2.2.2.2.2.2.2.1), (q_text_signs, aC cT 80 f_text_signs), (q_spare_stack, aI cT 40 u_1.2.2.2.2.2.2.2.2)]) C0 lk_X7_128 (c_X7_readSpare l D cT F h q_text w_told w_now w_before w_trial w_past w_kept w_feltNotes w_heardNotes w_draws w_purrs w_alone w_nimbers w_ways (.ref q_ruling) q_spare q_spare_steps q_spare_stack x_spare_size x_spare_top x_spare_open x_spare_compared x_spare_digits x_spare_wantsThing q_text_signs x_text_length f_spare_steps f_text_signs f_spare_stack _ hg) hP hD hS hA [0, 1, 2, 3, 4, 5] [] (by decide +kernel) rfl rfl (fun _ => rfl) rfl rfl ⟨Nat.le_of_ble_eq_true rfl, Nat.le_of_ble_eq_true rfl⟩ rfl hl.1 rfl (Nat.le_of_ble_eq_true rfl) dX7_rule_1 ⟨Nat.le_of_ble_eq_true rfl, Nat.le_of_ble_eq_true rfl⟩ ?_
  intro r_1 u_1 H locs hg hP hD hS
  refine lv_istore_n (lv' := [(1, .int r_1), (0, .ref h)]) hx hb dX7_rule_4 rfl hl (by decide) rfl (fun ls hl => ?_)
  refine lv_iload_n hx hb dX7_rule_5 rfl (lv_at hl 0 rfl) ?_
  refine lv_iconst (v := (-1 : Int32)) hx hb dX7_rule_6 (by decide) ?_
  refine lv_icmp_eq (tgt := 14) hx hb dX7_rule_7 (by decide) (fun c_7 => ?_) (fun c_7 => ?_)
  · have hg := hg.1 c_7
    refine lv_aload_n hx hb dX7_rule_14 rfl (lv_at hl 1 rfl) ?_
    refine gf_X7_87 C0 hP 0 rfl rfl dX7_rule_15 ?_
    refine lv_astore_n (lv' := [(2, .ref q_spare), (1, .int r_1), (0, .ref h)]) hx hb dX7_rule_18 rfl hl (by decide) rfl (fun ls hl => ?_)
    refine lv_aload_n hx hb dX7_rule_19 rfl (lv_at hl 2 rfl) ?_
    refine lv_aload_n hx hb dX7_rule_20 rfl (lv_at hl 2 rfl) ?_
    refine gf_X7_83 C0 hP 0 rfl rfl dX7_rule_21 ?_
    refine pf_X7_87 C0 hP hD hS 0 rfl (Nat.le_of_ble_eq_true rfl) (ws2 := [(h, oX7 (.ref q_text) w_told w_now w_before w_trial w_past w_kept w_feltNotes w_heardNotes w_draws w_purrs w_alone w_nimbers w_ways (.ref q_ruling) (.ref q_ruling)), (q_spare, oX4 (.ref q_spare_steps) (.ref q_spare_stack) (.int u_1.1) (.int u_1.2.1) (.int u_1.2.2.1) (.int u_1.2.2.2.1) (.int u_1.2.2.2.2.1) (.int u_1.2.2.2.2.2.1)), (q_text, oX5 (.ref q_text_signs) (.int u_1.2.2.2.2.2.2.1)), (q_spare_steps, aI cT 40 u_1.2.2.2.2.2.2.2.1), (q_text_signs, aC cT 80 f_text_signs), (q_spare_stack, aI cT 40 u_1.2.2.2.2.2.2.2.2)]) rfl dX7_rule_24 (fun H locs hP hD hS => ?_)
    refine lv_aload_n hx hb dX7_rule_27 rfl (lv_at hl 2 rfl) ?_
    refine lv_aload_n hx hb dX7_rule_28 rfl (lv_at hl 0 rfl) ?_
    refine pf_X7_83 C0 hP hD hS 0 rfl (Nat.le_of_ble_eq_true rfl) (ws2 := [(h, oX7 (.ref q_text) w_told w_now w_before w_trial w_past w_kept w_feltNotes w_heardNotes w_draws w_purrs w_alone w_nimbers w_ways (.ref q_spare) (.ref q_ruling)), (q_spare, oX4 (.ref q_spare_steps) (.ref q_spare_stack) (.int u_1.1) (.int u_1.2.1) (.int u_1.2.2.1) (.int u_1.2.2.2.1) (.int u_1.2.2.2.2.1) (.int u_1.2.2.2.2.2.1)), (q_text, oX5 (.ref q_text_signs) (.int u_1.2.2.2.2.2.2.1)), (q_spare_steps, aI cT 40 u_1.2.2.2.2.2.2.2.1), (q_text_signs, aC cT 80 f_text_signs), (q_spare_stack, aI cT 40 u_1.2.2.2.2.2.2.2.2)]) rfl dX7_rule_29 (fun H locs hP hD hS => ?_)
    refine lv_iconst (v := (0 : Int32)) hx hb dX7_rule_32 (by decide) ?_
    exact k_iret C0 hr (q_spare, q_ruling, u_1.1, u_1.2.1, u_1.2.2.1, u_1.2.2.2.1, u_1.2.2.2.2.1, u_1.2.2.2.2.2.1, u_1.2.2.2.2.2.2.1, u_1.2.2.2.2.2.2.2.1, u_1.2.2.2.2.2.2.2.2) hg hP hD hS dX7_rule_33
  have hg := hg.2 c_7
  refine lv_iconst (v := (-1 : Int32)) hx hb dX7_rule_10 (by decide) ?_
  refine lv_iload_n hx hb dX7_rule_11 rfl (lv_at hl 0 rfl) ?_
  refine lv_isub hx hb dX7_rule_12 ?_
  exact k_iret C0 hr (q_ruling, q_spare, u_1.1, u_1.2.1, u_1.2.2.1, u_1.2.2.2.1, u_1.2.2.2.2.1, u_1.2.2.2.2.2.1, u_1.2.2.2.2.2.2.1, u_1.2.2.2.2.2.2.2.1, u_1.2.2.2.2.2.2.2.2) hg hP hD hS dX7_rule_13
theorem dX7_entryOf_0 : decode cX7_entryOf 0 = .ok (.iload_n 0, 1) := by decide +kernel
theorem dX7_entryOf_1 : decode cX7_entryOf 1 = .ok (.ifCond .ne 8, 3) := by decide +kernel
theorem dX7_entryOf_4 : decode cX7_entryOf 4 = .ok (.iload_n 1, 1) := by decide +kernel
theorem dX7_entryOf_5 : decode cX7_entryOf 5 = .ok (.i2b, 1) := by decide +kernel
theorem dX7_entryOf_6 : decode cX7_entryOf 6 = .ok (.goto 14, 3) := by decide +kernel
theorem dX7_entryOf_9 : decode cX7_entryOf 9 = .ok (.iload_n 0, 1) := by decide +kernel
theorem dX7_entryOf_10 : decode cX7_entryOf 10 = .ok (.iconst 1, 1) := by decide +kernel
theorem dX7_entryOf_11 : decode cX7_entryOf 11 = .ok (.if_icmp .ne 8, 3) := by decide +kernel
theorem dX7_entryOf_14 : decode cX7_entryOf 14 = .ok (.iload_n 1, 1) := by decide +kernel
theorem dX7_entryOf_15 : decode cX7_entryOf 15 = .ok (.i2s, 1) := by decide +kernel
theorem dX7_entryOf_16 : decode cX7_entryOf 16 = .ok (.goto 4, 3) := by decide +kernel
theorem dX7_entryOf_19 : decode cX7_entryOf 19 = .ok (.iload_n 1, 1) := by decide +kernel
theorem dX7_entryOf_20 : decode cX7_entryOf 20 = .ok (.istore_n 2, 1) := by decide +kernel
theorem dX7_entryOf_21 : decode cX7_entryOf 21 = .ok (.iload_n 2, 1) := by decide +kernel
theorem dX7_entryOf_22 : decode cX7_entryOf 22 = .ok (.invokestatic 180, 3) := by decide +kernel
theorem dX7_entryOf_25 : decode cX7_entryOf 25 = .ok (.ireturn, 1) := by decide +kernel
def p_X7_entryOf_20 (F : Nat) (Post : Int32 → Prop) (s0_20 : Int32) : Prop := (p_X7_asDigit F s0_20 (fun (r_22 : Int32) => (Post r_22)))
def p_X7_entryOf (F : Nat) (p0 : Int32) (p1 : Int32) (Post : Int32 → Prop) : Prop := ((¬ p0 = 0 → ((¬ p0 = (1 : Int32) → (p_X7_entryOf_20 F Post p1)) ∧ (p0 = (1 : Int32) → (p_X7_entryOf_20 F Post (p1.toInt16.toInt32))))) ∧ (p0 = 0 → (p_X7_entryOf_20 F Post (p1.toInt8.toInt32))))
set_option maxHeartbeats 4000000 in
set_option maxRecDepth 100000 in
theorem c_X7_entryOf (l : Launch) (D : va_G) (cT : Nat → ClassId) (F : Nat) (p0 : Int32) (p1 : Int32) (Post : Int32 → Prop) (hg : p_X7_entryOf F p0 p1 Post) : MRi l D cT yX7_entryOf cX7_entryOf 3 (some .int) 2 50 [.int p0, .int p1] [] Post := by
  refine MRi.of (by decide) (Nat.le_of_ble_eq_true rfl) ?_
  intro p e s m below meth c hA C0 hr hP hD hS ls hl
  have hl : lv_has ls 3 [(0, .int p0), (1, .int p1)] := hl
  have hx := C0.x
  have hb := C0.b
  have hP : va_P D cls9 [] s.heap := hP
  have hD : va_D (fun q => cT 6 ≤ q) [] := hD
  have L20 : ∀ (s0_20 : Int32) (ls : Array Slot), p_X7_entryOf_20 F Post s0_20 → lv_has ls 3 [] → W p l e (rmO 2 50 0 0) s m ([.int p0, .int p1] : List Value).toArray below meth c s.heap [] 0 0 (MQ below (vp_Si Post) ([.int p0, .int p1] : List Value).toArray s 0 0 (fun _ => False)) (F0 m 20 ls [.int s0_20]) := by
    intro s0_20 ls hg hl
    unfold p_X7_entryOf_20 at hg
    refine lv_istore_n (lv' := [(2, .int s0_20)]) hx hb dX7_entryOf_20 rfl hl (by decide) rfl (fun ls hl => ?_)
    refine lv_iload_n hx hb dX7_entryOf_21 rfl (lv_at hl 0 rfl) ?_
    refine k_Sxi (rest := []) C0 lk_X7_180 (c_X7_asDigit l D cT F s0_20 _ hg) hP hD hS hA [] (by decide +kernel) rfl ⟨Nat.le_of_ble_eq_true rfl, Nat.le_of_ble_eq_true rfl⟩ rfl hl.1 rfl (Nat.le_of_ble_eq_true rfl) dX7_entryOf_22 ⟨Nat.le_of_ble_eq_true rfl, Nat.le_of_ble_eq_true rfl⟩ (fun r_22 hg => ?_)
    exact k_xiret C0 hr hg dX7_entryOf_25
  unfold p_X7_entryOf at hg
  refine lv_iload_n hx hb dX7_entryOf_0 rfl (lv_at hl 0 rfl) ?_
  refine lv_if_ne (tgt := 9) hx hb dX7_entryOf_1 (by decide) (fun c_1 => ?_) (fun c_1 => ?_)
  · have hg := hg.1 c_1
    refine lv_iload_n hx hb dX7_entryOf_9 rfl (lv_at hl 0 rfl) ?_
    refine lv_iconst (v := (1 : Int32)) hx hb dX7_entryOf_10 (by decide) ?_
    refine lv_icmp_ne (tgt := 19) hx hb dX7_entryOf_11 (by decide) (fun c_11 => ?_) (fun c_11 => ?_)
    · have hg := hg.1 c_11
      refine lv_iload_n hx hb dX7_entryOf_19 rfl (lv_at hl 1 rfl) ?_
      exact L20 p1 _ hg (lv_sub hl [] rfl)
    have hg := hg.2 c_11
    refine lv_iload_n hx hb dX7_entryOf_14 rfl (lv_at hl 1 rfl) ?_
    refine lv_i2s (v := (p1.toInt16.toInt32)) hx hb dX7_entryOf_15 rfl ?_
    refine lv_goto (tgt := 20) hx hb dX7_entryOf_16 (by decide) ?_
    exact L20 (p1.toInt16.toInt32) _ hg (lv_sub hl [] rfl)
  have hg := hg.2 c_1
  refine lv_iload_n hx hb dX7_entryOf_4 rfl (lv_at hl 1 rfl) ?_
  refine lv_i2b (v := (p1.toInt8.toInt32)) hx hb dX7_entryOf_5 rfl ?_
  refine lv_goto (tgt := 20) hx hb dX7_entryOf_6 (by decide) ?_
  exact L20 (p1.toInt8.toInt32) _ hg (lv_sub hl [] rfl)
theorem dX7_sheet_0 : decode cX7_sheet 0 = .ok (.iload_n 1, 1) := by decide +kernel
theorem dX7_sheet_1 : decode cX7_sheet 1 = .ok (.ifCond .lt 14, 3) := by decide +kernel
theorem dX7_sheet_4 : decode cX7_sheet 4 = .ok (.iload_n 1, 1) := by decide +kernel
theorem dX7_sheet_5 : decode cX7_sheet 5 = .ok (.iconst 3, 1) := by decide +kernel
theorem dX7_sheet_6 : decode cX7_sheet 6 = .ok (.if_icmp .gt 9, 3) := by decide +kernel
theorem dX7_sheet_9 : decode cX7_sheet 9 = .ok (.iload_n 2, 1) := by decide +kernel
theorem dX7_sheet_10 : decode cX7_sheet 10 = .ok (.bipush 6, 2) := by decide +kernel
theorem dX7_sheet_12 : decode cX7_sheet 12 = .ok (.if_icmp .le 5, 3) := by decide +kernel
theorem dX7_sheet_15 : decode cX7_sheet 15 = .ok (.iconst (-1), 1) := by decide +kernel
theorem dX7_sheet_16 : decode cX7_sheet 16 = .ok (.ireturn, 1) := by decide +kernel
theorem dX7_sheet_17 : decode cX7_sheet 17 = .ok (.iload_n 1, 1) := by decide +kernel
theorem dX7_sheet_18 : decode cX7_sheet 18 = .ok (.iconst 3, 1) := by decide +kernel
theorem dX7_sheet_19 : decode cX7_sheet 19 = .ok (.if_icmp .eq 10, 3) := by decide +kernel
theorem dX7_sheet_22 : decode cX7_sheet 22 = .ok (.iload_n 2, 1) := by decide +kernel
theorem dX7_sheet_23 : decode cX7_sheet 23 = .ok (.ifCond .ge 6, 3) := by decide +kernel
theorem dX7_sheet_26 : decode cX7_sheet 26 = .ok (.bipush (-2), 2) := by decide +kernel
theorem dX7_sheet_28 : decode cX7_sheet 28 = .ok (.ireturn, 1) := by decide +kernel
theorem dX7_sheet_29 : decode cX7_sheet 29 = .ok (.iload_n 1, 1) := by decide +kernel
theorem dX7_sheet_30 : decode cX7_sheet 30 = .ok (.iconst 3, 1) := by decide +kernel
theorem dX7_sheet_31 : decode cX7_sheet 31 = .ok (.if_icmp .ne 7, 3) := by decide +kernel
theorem dX7_sheet_34 : decode cX7_sheet 34 = .ok (.iconst 0, 1) := by decide +kernel
theorem dX7_sheet_35 : decode cX7_sheet 35 = .ok (.goto 4, 3) := by decide +kernel
theorem dX7_sheet_38 : decode cX7_sheet 38 = .ok (.iload_n 2, 1) := by decide +kernel
theorem dX7_sheet_39 : decode cX7_sheet 39 = .ok (.istore 5, 2) := by decide +kernel
theorem dX7_sheet_41 : decode cX7_sheet 41 = .ok (.iconst 0, 1) := by decide +kernel
theorem dX7_sheet_42 : decode cX7_sheet 42 = .ok (.istore 6, 2) := by decide +kernel
theorem dX7_sheet_44 : decode cX7_sheet 44 = .ok (.iload 6, 2) := by decide +kernel
theorem dX7_sheet_46 : decode cX7_sheet 46 = .ok (.aload_n 0, 1) := by decide +kernel
theorem dX7_sheet_47 : decode cX7_sheet 47 = .ok (.getfield 26, 3) := by decide +kernel
theorem dX7_sheet_50 : decode cX7_sheet 50 = .ok (.getfield 98, 3) := by decide +kernel
theorem dX7_sheet_53 : decode cX7_sheet 53 = .ok (.if_icmp .ge 41, 3) := by decide +kernel
theorem dX7_sheet_56 : decode cX7_sheet 56 = .ok (.aload_n 0, 1) := by decide +kernel
theorem dX7_sheet_57 : decode cX7_sheet 57 = .ok (.getfield 26, 3) := by decide +kernel
theorem dX7_sheet_60 : decode cX7_sheet 60 = .ok (.getfield 140, 3) := by decide +kernel
theorem dX7_sheet_63 : decode cX7_sheet 63 = .ok (.iload 6, 2) := by decide +kernel
theorem dX7_sheet_65 : decode cX7_sheet 65 = .ok (.iload 6, 2) := by decide +kernel
theorem dX7_sheet_67 : decode cX7_sheet 67 = .ok (.iload 5, 2) := by decide +kernel
theorem dX7_sheet_69 : decode cX7_sheet 69 = .ok (.if_icmp .ge 17, 3) := by decide +kernel
theorem dX7_sheet_72 : decode cX7_sheet 72 = .ok (.iload_n 1, 1) := by decide +kernel
theorem dX7_sheet_73 : decode cX7_sheet 73 = .ok (.iload_n 3, 1) := by decide +kernel
theorem dX7_sheet_74 : decode cX7_sheet 74 = .ok (.iload 6, 2) := by decide +kernel
theorem dX7_sheet_76 : decode cX7_sheet 76 = .ok (.iload 4, 2) := by decide +kernel
theorem dX7_sheet_78 : decode cX7_sheet 78 = .ok (.imul, 1) := by decide +kernel
theorem dX7_sheet_79 : decode cX7_sheet 79 = .ok (.iadd, 1) := by decide +kernel
theorem dX7_sheet_80 : decode cX7_sheet 80 = .ok (.invokestatic 174, 3) := by decide +kernel
theorem dX7_sheet_83 : decode cX7_sheet 83 = .ok (.goto 4, 3) := by decide +kernel
theorem dX7_sheet_86 : decode cX7_sheet 86 = .ok (.iconst 0, 1) := by decide +kernel
theorem dX7_sheet_87 : decode cX7_sheet 87 = .ok (.iastore, 1) := by decide +kernel
theorem dX7_sheet_88 : decode cX7_sheet 88 = .ok (.iinc 6 1, 3) := by decide +kernel
theorem dX7_sheet_91 : decode cX7_sheet 91 = .ok (.goto (-47), 3) := by decide +kernel
theorem dX7_sheet_94 : decode cX7_sheet 94 = .ok (.iload_n 1, 1) := by decide +kernel
theorem dX7_sheet_95 : decode cX7_sheet 95 = .ok (.iconst 3, 1) := by decide +kernel
theorem dX7_sheet_96 : decode cX7_sheet 96 = .ok (.if_icmp .ne 8, 3) := by decide +kernel
theorem dX7_sheet_99 : decode cX7_sheet 99 = .ok (.bipush (-3), 2) := by decide +kernel
theorem dX7_sheet_101 : decode cX7_sheet 101 = .ok (.goto 10, 3) := by decide +kernel
theorem dX7_sheet_104 : decode cX7_sheet 104 = .ok (.aload_n 0, 1) := by decide +kernel
theorem dX7_sheet_105 : decode cX7_sheet 105 = .ok (.getfield 26, 3) := by decide +kernel
theorem dX7_sheet_108 : decode cX7_sheet 108 = .ok (.invokevirtual 177, 3) := by decide +kernel
theorem dX7_sheet_111 : decode cX7_sheet 111 = .ok (.ireturn, 1) := by decide +kernel
def p_X7_sheet_87 (F : Nat) (y6_44 : Int32) (f_now_load_44 : Nat → Int32) (k44 : Int32 → (Nat → Int32) → Prop) (Post : Int32 → (Nat → Int32) → Prop) (s2_87 : Int32) : Prop := (vp_in y6_44 6 ∧ (k44 (y6_44 + (1 : Int32)) (upd f_now_load_44 y6_44.toNatClampNeg s2_87)))
noncomputable def p_X7_sheet_44 (F : Nat) (p1 : Int32) (p3 : Int32) (p4 : Int32) (x_now_arches : Int32) (s0_39 : Int32) (Post : Int32 → (Nat → Int32) → Prop) (n : Nat) : Int32 → (Nat → Int32) → Prop := Nat.rec (motive := fun _ => Int32 → (Nat → Int32) → Prop) (fun _ _ => False) (fun _ k44 => fun (y6_44 : Int32) (f_now_load_44 : Nat → Int32) => ((x_now_arches ≤ y6_44 → ((¬ p1 = (3 : Int32) → (p_X6_allLoads F x_now_arches f_now_load_44 (fun (r_108 : Int32) => (Post r_108 f_now_load_44)))) ∧ (p1 = (3 : Int32) → (Post (-3 : Int32) f_now_load_44)))) ∧ (¬ x_now_arches ≤ y6_44 → ((s0_39 ≤ y6_44 → (p_X7_sheet_87 F y6_44 f_now_load_44 k44 Post (0 : Int32))) ∧ (¬ s0_39 ≤ y6_44 → (p_X7_entryOf F p1 (p3 + (y6_44 * p4)) (fun (r_80 : Int32) => (p_X7_sheet_87 F y6_44 f_now_load_44 k44 Post r_80)))))))) n
theorem p_X7_sheet_44_s (F : Nat) (p1 : Int32) (p3 : Int32) (p4 : Int32) (x_now_arches : Int32) (s0_39 : Int32) (Post : Int32 → (Nat → Int32) → Prop) (n : Nat) (y6_44 : Int32) (f_now_load_44 : Nat → Int32) : p_X7_sheet_44 F p1 p3 p4 x_now_arches s0_39 Post (n + 1) y6_44 f_now_load_44 = ((x_now_arches ≤ y6_44 → ((¬ p1 = (3 : Int32) → (p_X6_allLoads F x_now_arches f_now_load_44 (fun (r_108 : Int32) => (Post r_108 f_now_load_44)))) ∧ (p1 = (3 : Int32) → (Post (-3 : Int32) f_now_load_44)))) ∧ (¬ x_now_arches ≤ y6_44 → ((s0_39 ≤ y6_44 → (p_X7_sheet_87 F y6_44 f_now_load_44 (p_X7_sheet_44 F p1 p3 p4 x_now_arches s0_39 Post n) Post (0 : Int32))) ∧ (¬ s0_39 ≤ y6_44 → (p_X7_entryOf F p1 (p3 + (y6_44 * p4)) (fun (r_80 : Int32) => (p_X7_sheet_87 F y6_44 f_now_load_44 (p_X7_sheet_44 F p1 p3 p4 x_now_arches s0_39 Post n) Post r_80))))))) := rfl
def p_X7_sheet_39 (F : Nat) (p1 : Int32) (p3 : Int32) (p4 : Int32) (x_now_arches : Int32) (f_now_load : Nat → Int32) (Post : Int32 → (Nat → Int32) → Prop) (s0_39 : Int32) : Prop := (p_X7_sheet_44 F p1 p3 p4 x_now_arches s0_39 Post F (0 : Int32) f_now_load)
def p_X7_sheet_29 (F : Nat) (p1 : Int32) (p2 : Int32) (p3 : Int32) (p4 : Int32) (x_now_arches : Int32) (f_now_load : Nat → Int32) (Post : Int32 → (Nat → Int32) → Prop) : Prop := ((¬ p1 = (3 : Int32) → (p_X7_sheet_39 F p1 p3 p4 x_now_arches f_now_load Post p2)) ∧ (p1 = (3 : Int32) → (p_X7_sheet_39 F p1 p3 p4 x_now_arches f_now_load Post (0 : Int32))))
def p_X7_sheet (F : Nat) (p1 : Int32) (p2 : Int32) (p3 : Int32) (p4 : Int32) (x_now_arches : Int32) (f_now_load : Nat → Int32) (Post : Int32 → (Nat → Int32) → Prop) : Prop := ((p1 < 0 → (Post (-1 : Int32) f_now_load)) ∧ (¬ p1 < 0 → (((3 : Int32) < p1 → (Post (-1 : Int32) f_now_load)) ∧ (¬ (3 : Int32) < p1 → ((p2 ≤ (6 : Int32) → ((p1 = (3 : Int32) → (p_X7_sheet_29 F p1 p2 p3 p4 x_now_arches f_now_load Post )) ∧ (¬ p1 = (3 : Int32) → ((0 ≤ p2 → (p_X7_sheet_29 F p1 p2 p3 p4 x_now_arches f_now_load Post )) ∧ (¬ 0 ≤ p2 → (Post (-2 : Int32) f_now_load)))))) ∧ (¬ p2 ≤ (6 : Int32) → (Post (-1 : Int32) f_now_load)))))))
set_option maxHeartbeats 4000000 in
set_option maxRecDepth 100000 in
theorem c_X7_sheet (l : Launch) (D : va_G) (cT : Nat → ClassId) (F : Nat) (h : Nat) (p1 : Int32) (p2 : Int32) (p3 : Int32) (p4 : Int32) (w_text : Value) (w_told : Value) (q_now : Nat) (w_before : Value) (w_trial : Value) (w_past : Value) (w_kept : Value) (w_feltNotes : Value) (w_heardNotes : Value) (w_draws : Value) (w_purrs : Value) (w_alone : Value) (w_nimbers : Value) (w_ways : Value) (w_ruling : Value) (w_spare : Value) (q_now_load : Nat) (w_now_sag : Value) (w_now_joy : Value) (w_now_bowl : Value) (w_now_grief : Value) (w_now_place : Value) (x_now_arches : Int32) (x_now_cats : Int32) (x_now_store : Int32) (x_now_hour : Int32) (x_now_drops : Int32) (f_now_load : Nat → Int32) (Post : Int32 → (Nat → Int32) → Prop) (hg : p_X7_sheet F p1 p2 p3 p4 x_now_arches f_now_load Post) : MWi l D cT yX7_sheet cX7_sheet 7 (some .int) 3 72 0 0 [.ref h, .int p1, .int p2, .int p3, .int p4] [(h, oX7 w_text w_told (.ref q_now) w_before w_trial w_past w_kept w_feltNotes w_heardNotes w_draws w_purrs w_alone w_nimbers w_ways w_ruling w_spare), (q_now, oX6 (.ref q_now_load) w_now_sag w_now_joy w_now_bowl w_now_grief w_now_place (.int x_now_arches) (.int x_now_cats) (.int x_now_store) (.int x_now_hour) (.int x_now_drops)), (q_now_load, aI cT 6 f_now_load)] Post (fun (u : (Nat → Int32)) => [(h, oX7 w_text w_told (.ref q_now) w_before w_trial w_past w_kept w_feltNotes w_heardNotes w_draws w_purrs w_alone w_nimbers w_ways w_ruling w_spare), (q_now, oX6 (.ref q_now_load) w_now_sag w_now_joy w_now_bowl w_now_grief w_now_place (.int x_now_arches) (.int x_now_cats) (.int x_now_store) (.int x_now_hour) (.int x_now_drops)), (q_now_load, aI cT 6 u)]) := by
  refine MWi.of (by decide) (Nat.le_of_ble_eq_true rfl) ?_
  intro p e s m below meth c A hA C0 hnm hr hP hD ls hl
  have hl : lv_has ls 7 [(0, .ref h), (1, .int p1), (2, .int p2), (3, .int p3), (4, .int p4)] := hl
  have hx := C0.x
  have hb := C0.b
  have hS : va_S A s.heap s.heap [] := va_S.rf
  have hP : va_P D cls9 [(h, oX7 w_text w_told (.ref q_now) w_before w_trial w_past w_kept w_feltNotes w_heardNotes w_draws w_purrs w_alone w_nimbers w_ways w_ruling w_spare), (q_now, oX6 (.ref q_now_load) w_now_sag w_now_joy w_now_bowl w_now_grief w_now_place (.int x_now_arches) (.int x_now_cats) (.int x_now_store) (.int x_now_hour) (.int x_now_drops)), (q_now_load, aI cT 6 f_now_load)] s.heap := hP
  have hD : va_D A [(h, oX7 w_text w_told (.ref q_now) w_before w_trial w_past w_kept w_feltNotes w_heardNotes w_draws w_purrs w_alone w_nimbers w_ways w_ruling w_spare), (q_now, oX6 (.ref q_now_load) w_now_sag w_now_joy w_now_bowl w_now_grief w_now_place (.int x_now_arches) (.int x_now_cats) (.int x_now_store) (.int x_now_hour) (.int x_now_drops)), (q_now_load, aI cT 6 f_now_load)] := hD
  have L44 : ∀ (s0_39 : Int32) (n44 : Nat) (y6_44 : Int32) (f_now_load_44 : Nat → Int32) (H : Heap) (locs : List Loc) (ls : Array Slot), p_X7_sheet_44 F p1 p3 p4 x_now_arches s0_39 Post n44 y6_44 f_now_load_44 → va_P D cls9 [(h, oX7 w_text w_told (.ref q_now) w_before w_trial w_past w_kept w_feltNotes w_heardNotes w_draws w_purrs w_alone w_nimbers w_ways w_ruling w_spare), (q_now, oX6 (.ref q_now_load) w_now_sag w_now_joy w_now_bowl w_now_grief w_now_place (.int x_now_arches) (.int x_now_cats) (.int x_now_store) (.int x_now_hour) (.int x_now_drops)), (q_now_load, aI cT 6 f_now_load_44)] H → va_D A [(h, oX7 w_text w_told (.ref q_now) w_before w_trial w_past w_kept w_feltNotes w_heardNotes w_draws w_purrs w_alone w_nimbers w_ways w_ruling w_spare), (q_now, oX6 (.ref q_now_load) w_now_sag w_now_joy w_now_bowl w_now_grief w_now_place (.int x_now_arches) (.int x_now_cats) (.int x_now_store) (.int x_now_hour) (.int x_now_drops)), (q_now_load, aI cT 6 f_now_load_44)] → va_S A s.heap H locs → lv_has ls 7 [(0, .ref h), (1, .int p1), (3, .int p3), (4, .int p4), (5, .int s0_39), (6, .int y6_44)] → W p l e (rmO 3 72 0 0) s m ([.ref h, .int p1, .int p2, .int p3, .int p4] : List Value).toArray below meth c H locs 0 0 (MQ below (va_Qi Post (cB D A (fun (u : (Nat → Int32)) => [(h, oX7 w_text w_told (.ref q_now) w_before w_trial w_past w_kept w_feltNotes w_heardNotes w_draws w_purrs w_alone w_nimbers w_ways w_ruling w_spare), (q_now, oX6 (.ref q_now_load) w_now_sag w_now_joy w_now_bowl w_now_grief w_now_place (.int x_now_arches) (.int x_now_cats) (.int x_now_store) (.int x_now_hour) (.int x_now_drops)), (q_now_load, aI cT 6 u)])) A) ([.ref h, .int p1, .int p2, .int p3, .int p4] : List Value).toArray s 0 0 A) (F0 m 44 ls []) := by
    intro s0_39 n44
    induction n44 with
    | zero =>
      intro y6_44 f_now_load_44 H locs ls hg hP hD hS hl
      exact False.elim hg
    | succ n44 ih44 =>
      have L87 : ∀ (y6_44 : Int32) (f_now_load_44 : Nat → Int32) (s2_87 : Int32) (H : Heap) (locs : List Loc) (ls : Array Slot), p_X7_sheet_87 F y6_44 f_now_load_44 (p_X7_sheet_44 F p1 p3 p4 x_now_arches s0_39 Post n44) Post s2_87 → va_P D cls9 [(h, oX7 w_text w_told (.ref q_now) w_before w_trial w_past w_kept w_feltNotes w_heardNotes w_draws w_purrs w_alone w_nimbers w_ways w_ruling w_spare), (q_now, oX6 (.ref q_now_load) w_now_sag w_now_joy w_now_bowl w_now_grief w_now_place (.int x_now_arches) (.int x_now_cats) (.int x_now_store) (.int x_now_hour) (.int x_now_drops)), (q_now_load, aI cT 6 f_now_load_44)] H → va_D A [(h, oX7 w_text w_told (.ref q_now) w_before w_trial w_past w_kept w_feltNotes w_heardNotes w_draws w_purrs w_alone w_nimbers w_ways w_ruling w_spare), (q_now, oX6 (.ref q_now_load) w_now_sag w_now_joy w_now_bowl w_now_grief w_now_place (.int x_now_arches) (.int x_now_cats) (.int x_now_store) (.int x_now_hour) (.int x_now_drops)), (q_now_load, aI cT 6 f_now_load_44)] → va_S A s.heap H locs → lv_has ls 7 [(0, .ref h), (1, .int p1), (3, .int p3), (4, .int p4), (5, .int s0_39), (6, .int y6_44)] → W p l e (rmO 3 72 0 0) s m ([.ref h, .int p1, .int p2, .int p3, .int p4] : List Value).toArray below meth c H locs 0 0 (MQ below (va_Qi Post (cB D A (fun (u : (Nat → Int32)) => [(h, oX7 w_text w_told (.ref q_now) w_before w_trial w_past w_kept w_feltNotes w_heardNotes w_draws w_purrs w_alone w_nimbers w_ways w_ruling w_spare), (q_now, oX6 (.ref q_now_load) w_now_sag w_now_joy w_now_bowl w_now_grief w_now_place (.int x_now_arches) (.int x_now_cats) (.int x_now_store) (.int x_now_hour) (.int x_now_drops)), (q_now_load, aI cT 6 u)])) A) ([.ref h, .int p1, .int p2, .int p3, .int p4] : List Value).toArray s 0 0 A) (F0 m 87 ls [.int s2_87, .int y6_44, .ref q_now_load]) := by
        intro y6_44 f_now_load_44 s2_87 H locs ls hg hP hD hS hl
        unfold p_X7_sheet_87 at hg
        obtain ⟨g_87, hg⟩ := hg
        refine k_iast C0 hP hD hS 2 rfl g_87 (ws' := [(h, oX7 w_text w_told (.ref q_now) w_before w_trial w_past w_kept w_feltNotes w_heardNotes w_draws w_purrs w_alone w_nimbers w_ways w_ruling w_spare), (q_now, oX6 (.ref q_now_load) w_now_sag w_now_joy w_now_bowl w_now_grief w_now_place (.int x_now_arches) (.int x_now_cats) (.int x_now_store) (.int x_now_hour) (.int x_now_drops)), (q_now_load, aI cT 6 (upd f_now_load_44 y6_44.toNatClampNeg s2_87))]) rfl dX7_sheet_87 (fun H locs hP hD hS => ?_)
        refine lv_iinc (v := (y6_44 + (1 : Int32))) (lv' := [(6, .int (y6_44 + (1 : Int32))), (0, .ref h), (1, .int p1), (3, .int p3), (4, .int p4), (5, .int s0_39)]) hx hb dX7_sheet_88 hl (k := 5) rfl rfl (by decide) rfl (fun ls hl => ?_)
        refine lv_goto (tgt := 44) hx hb dX7_sheet_91 (by decide) ?_
        exact ih44 (y6_44 + (1 : Int32)) (upd f_now_load_44 y6_44.toNatClampNeg s2_87) _ _ _ hg hP hD hS (lv_sub hl [1, 2, 3, 4, 5, 0] rfl)
      intro y6_44 f_now_load_44 H locs ls hg hP hD hS hl
      rw [p_X7_sheet_44_s] at hg
      refine lv_iload hx hb dX7_sheet_44 (lv_at hl 5 rfl) ?_
      refine lv_aload_n hx hb dX7_sheet_46 rfl (lv_at hl 0 rfl) ?_
      refine gf_X7_26 C0 hP 0 rfl rfl dX7_sheet_47 ?_
      refine gf_X7_98 C0 hP 1 rfl rfl dX7_sheet_50 ?_
      refine lv_icmp_ge (tgt := 94) hx hb dX7_sheet_53 (by decide) (fun c_53 => ?_) (fun c_53 => ?_)
      · have hg := hg.1 c_53
        refine lv_iload_n hx hb dX7_sheet_94 rfl (lv_at hl 1 rfl) ?_
        refine lv_iconst (v := (3 : Int32)) hx hb dX7_sheet_95 (by decide) ?_
        refine lv_icmp_ne (tgt := 104) hx hb dX7_sheet_96 (by decide) (fun c_96 => ?_) (fun c_96 => ?_)
        · have hg := hg.1 c_96
          refine lv_aload_n hx hb dX7_sheet_104 rfl (lv_at hl 0 rfl) ?_
          refine gf_X7_26 C0 hP 0 rfl rfl dX7_sheet_105 ?_
          refine k_Vxi (rest := []) C0 lk_X7_177 (c_X6_allLoads l D cT F q_now q_now_load w_now_sag w_now_joy w_now_bowl w_now_grief w_now_place x_now_arches x_now_cats x_now_store x_now_hour x_now_drops f_now_load_44 _ hg) hP hD hS hA [1, 2] (by decide +kernel) rfl rfl rfl ⟨Nat.le_of_ble_eq_true rfl, Nat.le_of_ble_eq_true rfl⟩ rfl hl.1 rfl (Nat.le_of_ble_eq_true rfl) dX7_sheet_108 ⟨Nat.le_of_ble_eq_true rfl, Nat.le_of_ble_eq_true rfl⟩ (fun r_108 hg => ?_)
          exact k_iret C0 hr f_now_load_44 hg hP hD hS dX7_sheet_111
        have hg := hg.2 c_96
        refine lv_bipush (v := (-3 : Int32)) hx hb dX7_sheet_99 (by decide) ?_
        refine lv_goto (tgt := 111) hx hb dX7_sheet_101 (by decide) ?_
        exact k_iret C0 hr f_now_load_44 hg hP hD hS dX7_sheet_111
      have hg := hg.2 c_53
      refine lv_aload_n hx hb dX7_sheet_56 rfl (lv_at hl 0 rfl) ?_
      refine gf_X7_26 C0 hP 0 rfl rfl dX7_sheet_57 ?_
      refine gf_X7_140 C0 hP 1 rfl rfl dX7_sheet_60 ?_
      refine lv_iload hx hb dX7_sheet_63 (lv_at hl 5 rfl) ?_
      refine lv_iload hx hb dX7_sheet_65 (lv_at hl 5 rfl) ?_
      refine lv_iload hx hb dX7_sheet_67 (lv_at hl 4 rfl) ?_
      refine lv_icmp_ge (tgt := 86) hx hb dX7_sheet_69 (by decide) (fun c_69 => ?_) (fun c_69 => ?_)
      · have hg := hg.1 c_69
        refine lv_iconst (v := (0 : Int32)) hx hb dX7_sheet_86 (by decide) ?_
        exact L87 y6_44 f_now_load_44 (0 : Int32) _ _ _ hg hP hD hS hl
      have hg := hg.2 c_69
      refine lv_iload_n hx hb dX7_sheet_72 rfl (lv_at hl 1 rfl) ?_
      refine lv_iload_n hx hb dX7_sheet_73 rfl (lv_at hl 2 rfl) ?_
      refine lv_iload hx hb dX7_sheet_74 (lv_at hl 5 rfl) ?_
      refine lv_iload hx hb dX7_sheet_76 (lv_at hl 3 rfl) ?_
      refine lv_imul hx hb dX7_sheet_78 ?_
      refine lv_iadd hx hb dX7_sheet_79 ?_
      refine k_Sxi (rest := [.int y6_44, .ref q_now_load]) C0 lk_X7_174 (c_X7_entryOf l D cT F p1 (p3 + (y6_44 * p4)) _ hg) hP hD hS hA [] (by decide +kernel) rfl ⟨Nat.le_of_ble_eq_true rfl, Nat.le_of_ble_eq_true rfl⟩ rfl hl.1 rfl (Nat.le_of_ble_eq_true rfl) dX7_sheet_80 ⟨Nat.le_of_ble_eq_true rfl, Nat.le_of_ble_eq_true rfl⟩ (fun r_80 hg => ?_)
      refine lv_goto (tgt := 87) hx hb dX7_sheet_83 (by decide) ?_
      exact L87 y6_44 f_now_load_44 r_80 _ _ _ hg hP hD hS hl
  have L39 : ∀ (s0_39 : Int32) (H : Heap) (locs : List Loc) (ls : Array Slot), p_X7_sheet_39 F p1 p3 p4 x_now_arches f_now_load Post s0_39 → va_P D cls9 [(h, oX7 w_text w_told (.ref q_now) w_before w_trial w_past w_kept w_feltNotes w_heardNotes w_draws w_purrs w_alone w_nimbers w_ways w_ruling w_spare), (q_now, oX6 (.ref q_now_load) w_now_sag w_now_joy w_now_bowl w_now_grief w_now_place (.int x_now_arches) (.int x_now_cats) (.int x_now_store) (.int x_now_hour) (.int x_now_drops)), (q_now_load, aI cT 6 f_now_load)] H → va_D A [(h, oX7 w_text w_told (.ref q_now) w_before w_trial w_past w_kept w_feltNotes w_heardNotes w_draws w_purrs w_alone w_nimbers w_ways w_ruling w_spare), (q_now, oX6 (.ref q_now_load) w_now_sag w_now_joy w_now_bowl w_now_grief w_now_place (.int x_now_arches) (.int x_now_cats) (.int x_now_store) (.int x_now_hour) (.int x_now_drops)), (q_now_load, aI cT 6 f_now_load)] → va_S A s.heap H locs → lv_has ls 7 [(0, .ref h), (1, .int p1), (3, .int p3), (4, .int p4)] → W p l e (rmO 3 72 0 0) s m ([.ref h, .int p1, .int p2, .int p3, .int p4] : List Value).toArray below meth c H locs 0 0 (MQ below (va_Qi Post (cB D A (fun (u : (Nat → Int32)) => [(h, oX7 w_text w_told (.ref q_now) w_before w_trial w_past w_kept w_feltNotes w_heardNotes w_draws w_purrs w_alone w_nimbers w_ways w_ruling w_spare), (q_now, oX6 (.ref q_now_load) w_now_sag w_now_joy w_now_bowl w_now_grief w_now_place (.int x_now_arches) (.int x_now_cats) (.int x_now_store) (.int x_now_hour) (.int x_now_drops)), (q_now_load, aI cT 6 u)])) A) ([.ref h, .int p1, .int p2, .int p3, .int p4] : List Value).toArray s 0 0 A) (F0 m 39 ls [.int s0_39]) := by
    intro s0_39 H locs ls hg hP hD hS hl
    unfold p_X7_sheet_39 at hg
    refine lv_istore (lv' := [(5, .int s0_39), (0, .ref h), (1, .int p1), (3, .int p3), (4, .int p4)]) hx hb dX7_sheet_39 hl (by decide) rfl (fun ls hl => ?_)
    refine lv_iconst (v := (0 : Int32)) hx hb dX7_sheet_41 (by decide) ?_
    refine lv_istore (lv' := [(6, .int (0 : Int32)), (5, .int s0_39), (0, .ref h), (1, .int p1), (3, .int p3), (4, .int p4)]) hx hb dX7_sheet_42 hl (by decide) rfl (fun ls hl => ?_)
    exact L44 s0_39 F (0 : Int32) f_now_load _ _ _ hg hP hD hS (lv_sub hl [2, 3, 4, 5, 1, 0] rfl)
  have L29 : ∀ (H : Heap) (locs : List Loc) (ls : Array Slot), p_X7_sheet_29 F p1 p2 p3 p4 x_now_arches f_now_load Post → va_P D cls9 [(h, oX7 w_text w_told (.ref q_now) w_before w_trial w_past w_kept w_feltNotes w_heardNotes w_draws w_purrs w_alone w_nimbers w_ways w_ruling w_spare), (q_now, oX6 (.ref q_now_load) w_now_sag w_now_joy w_now_bowl w_now_grief w_now_place (.int x_now_arches) (.int x_now_cats) (.int x_now_store) (.int x_now_hour) (.int x_now_drops)), (q_now_load, aI cT 6 f_now_load)] H → va_D A [(h, oX7 w_text w_told (.ref q_now) w_before w_trial w_past w_kept w_feltNotes w_heardNotes w_draws w_purrs w_alone w_nimbers w_ways w_ruling w_spare), (q_now, oX6 (.ref q_now_load) w_now_sag w_now_joy w_now_bowl w_now_grief w_now_place (.int x_now_arches) (.int x_now_cats) (.int x_now_store) (.int x_now_hour) (.int x_now_drops)), (q_now_load, aI cT 6 f_now_load)] → va_S A s.heap H locs → lv_has ls 7 [(0, .ref h), (1, .int p1), (2, .int p2), (3, .int p3), (4, .int p4)] → W p l e (rmO 3 72 0 0) s m ([.ref h, .int p1, .int p2, .int p3, .int p4] : List Value).toArray below meth c H locs 0 0 (MQ below (va_Qi Post (cB D A (fun (u : (Nat → Int32)) => [(h, oX7 w_text w_told (.ref q_now) w_before w_trial w_past w_kept w_feltNotes w_heardNotes w_draws w_purrs w_alone w_nimbers w_ways w_ruling w_spare), (q_now, oX6 (.ref q_now_load) w_now_sag w_now_joy w_now_bowl w_now_grief w_now_place (.int x_now_arches) (.int x_now_cats) (.int x_now_store) (.int x_now_hour) (.int x_now_drops)), (q_now_load, aI cT 6 u)])) A) ([.ref h, .int p1, .int p2, .int p3, .int p4] : List Value).toArray s 0 0 A) (F0 m 29 ls []) := by
    intro H locs ls hg hP hD hS hl
    unfold p_X7_sheet_29 at hg
    refine lv_iload_n hx hb dX7_sheet_29 rfl (lv_at hl 1 rfl) ?_
    refine lv_iconst (v := (3 : Int32)) hx hb dX7_sheet_30 (by decide) ?_
    refine lv_icmp_ne (tgt := 38) hx hb dX7_sheet_31 (by decide) (fun c_31 => ?_) (fun c_31 => ?_)
    · have hg := hg.1 c_31
      refine lv_iload_n hx hb dX7_sheet_38 rfl (lv_at hl 2 rfl) ?_
      exact L39 p2 _ _ _ hg hP hD hS (lv_sub hl [0, 1, 3, 4] rfl)
    have hg := hg.2 c_31
    refine lv_iconst (v := (0 : Int32)) hx hb dX7_sheet_34 (by decide) ?_
    refine lv_goto (tgt := 39) hx hb dX7_sheet_35 (by decide) ?_
    exact L39 (0 : Int32) _ _ _ hg hP hD hS (lv_sub hl [0, 1, 3, 4] rfl)
  unfold p_X7_sheet at hg
  refine lv_iload_n hx hb dX7_sheet_0 rfl (lv_at hl 1 rfl) ?_
  refine lv_if_lt (tgt := 15) hx hb dX7_sheet_1 (by decide) (fun c_1 => ?_) (fun c_1 => ?_)
  · have hg := hg.1 c_1
    refine lv_iconst (v := (-1 : Int32)) hx hb dX7_sheet_15 (by decide) ?_
    exact k_iret C0 hr f_now_load hg hP hD hS dX7_sheet_16
  have hg := hg.2 c_1
  refine lv_iload_n hx hb dX7_sheet_4 rfl (lv_at hl 1 rfl) ?_
  refine lv_iconst (v := (3 : Int32)) hx hb dX7_sheet_5 (by decide) ?_
  refine lv_icmp_gt (tgt := 15) hx hb dX7_sheet_6 (by decide) (fun c_6 => ?_) (fun c_6 => ?_)
  · have hg := hg.1 c_6
    refine lv_iconst (v := (-1 : Int32)) hx hb dX7_sheet_15 (by decide) ?_
    exact k_iret C0 hr f_now_load hg hP hD hS dX7_sheet_16
  have hg := hg.2 c_6
  refine lv_iload_n hx hb dX7_sheet_9 rfl (lv_at hl 2 rfl) ?_
  refine lv_bipush (v := (6 : Int32)) hx hb dX7_sheet_10 (by decide) ?_
  refine lv_icmp_le (tgt := 17) hx hb dX7_sheet_12 (by decide) (fun c_12 => ?_) (fun c_12 => ?_)
  · have hg := hg.1 c_12
    refine lv_iload_n hx hb dX7_sheet_17 rfl (lv_at hl 1 rfl) ?_
    refine lv_iconst (v := (3 : Int32)) hx hb dX7_sheet_18 (by decide) ?_
    refine lv_icmp_eq (tgt := 29) hx hb dX7_sheet_19 (by decide) (fun c_19 => ?_) (fun c_19 => ?_)
    · have hg := hg.1 c_19
      exact L29 _ _ _ hg hP hD hS hl
    have hg := hg.2 c_19
    refine lv_iload_n hx hb dX7_sheet_22 rfl (lv_at hl 2 rfl) ?_
    refine lv_if_ge (tgt := 29) hx hb dX7_sheet_23 (by decide) (fun c_23 => ?_) (fun c_23 => ?_)
    · have hg := hg.1 c_23
      exact L29 _ _ _ hg hP hD hS hl
    have hg := hg.2 c_23
    refine lv_bipush (v := (-2 : Int32)) hx hb dX7_sheet_26 (by decide) ?_
    exact k_iret C0 hr f_now_load hg hP hD hS dX7_sheet_28
  have hg := hg.2 c_12
  refine lv_iconst (v := (-1 : Int32)) hx hb dX7_sheet_15 (by decide) ?_
  exact k_iret C0 hr f_now_load hg hP hD hS dX7_sheet_16
theorem dX7_act_0 : decode cX7_act 0 = .ok (.iload_n 1, 1) := by decide +kernel
theorem dX7_act_1 : decode cX7_act 1 = .ok (.tableswitch 133 102 115 #[84, 103, 133, 133, 133, 133, 123, 133, 71, 133, 94, 133, 133, 113], 71) := by decide +kernel
theorem dX7_act_72 : decode cX7_act 72 = .ok (.aload_n 0, 1) := by decide +kernel
theorem dX7_act_73 : decode cX7_act 73 = .ok (.getfield 26, 3) := by decide +kernel
theorem dX7_act_76 : decode cX7_act 76 = .ok (.aload_n 0, 1) := by decide +kernel
theorem dX7_act_77 : decode cX7_act 77 = .ok (.getfield 83, 3) := by decide +kernel
theorem dX7_act_80 : decode cX7_act 80 = .ok (.iload_n 2, 1) := by decide +kernel
theorem dX7_act_81 : decode cX7_act 81 = .ok (.invokevirtual 195, 3) := by decide +kernel
theorem dX7_act_84 : decode cX7_act 84 = .ok (.ireturn, 1) := by decide +kernel
theorem dX7_act_85 : decode cX7_act 85 = .ok (.aload_n 0, 1) := by decide +kernel
theorem dX7_act_86 : decode cX7_act 86 = .ok (.getfield 26, 3) := by decide +kernel
theorem dX7_act_89 : decode cX7_act 89 = .ok (.iload_n 2, 1) := by decide +kernel
theorem dX7_act_90 : decode cX7_act 90 = .ok (.iload_n 3, 1) := by decide +kernel
theorem dX7_act_91 : decode cX7_act 91 = .ok (.invokevirtual 214, 3) := by decide +kernel
theorem dX7_act_94 : decode cX7_act 94 = .ok (.ireturn, 1) := by decide +kernel
theorem dX7_act_95 : decode cX7_act 95 = .ok (.aload_n 0, 1) := by decide +kernel
theorem dX7_act_96 : decode cX7_act 96 = .ok (.getfield 26, 3) := by decide +kernel
theorem dX7_act_99 : decode cX7_act 99 = .ok (.iload_n 2, 1) := by decide +kernel
theorem dX7_act_100 : decode cX7_act 100 = .ok (.invokevirtual 220, 3) := by decide +kernel
theorem dX7_act_103 : decode cX7_act 103 = .ok (.ireturn, 1) := by decide +kernel
theorem dX7_act_104 : decode cX7_act 104 = .ok (.aload_n 0, 1) := by decide +kernel
theorem dX7_act_105 : decode cX7_act 105 = .ok (.getfield 26, 3) := by decide +kernel
theorem dX7_act_108 : decode cX7_act 108 = .ok (.iload_n 2, 1) := by decide +kernel
theorem dX7_act_109 : decode cX7_act 109 = .ok (.iload_n 3, 1) := by decide +kernel
theorem dX7_act_110 : decode cX7_act 110 = .ok (.invokevirtual 223, 3) := by decide +kernel
theorem dX7_act_113 : decode cX7_act 113 = .ok (.ireturn, 1) := by decide +kernel
theorem dX7_act_114 : decode cX7_act 114 = .ok (.aload_n 0, 1) := by decide +kernel
theorem dX7_act_115 : decode cX7_act 115 = .ok (.getfield 26, 3) := by decide +kernel
theorem dX7_act_118 : decode cX7_act 118 = .ok (.iload_n 2, 1) := by decide +kernel
theorem dX7_act_119 : decode cX7_act 119 = .ok (.iload_n 3, 1) := by decide +kernel
theorem dX7_act_120 : decode cX7_act 120 = .ok (.invokevirtual 226, 3) := by decide +kernel
theorem dX7_act_123 : decode cX7_act 123 = .ok (.ireturn, 1) := by decide +kernel
theorem dX7_act_124 : decode cX7_act 124 = .ok (.aload_n 0, 1) := by decide +kernel
theorem dX7_act_125 : decode cX7_act 125 = .ok (.getfield 26, 3) := by decide +kernel
theorem dX7_act_128 : decode cX7_act 128 = .ok (.iload_n 2, 1) := by decide +kernel
theorem dX7_act_129 : decode cX7_act 129 = .ok (.iload_n 3, 1) := by decide +kernel
theorem dX7_act_130 : decode cX7_act 130 = .ok (.invokevirtual 229, 3) := by decide +kernel
theorem dX7_act_133 : decode cX7_act 133 = .ok (.ireturn, 1) := by decide +kernel
theorem dX7_act_134 : decode cX7_act 134 = .ok (.iconst (-1), 1) := by decide +kernel
theorem dX7_act_135 : decode cX7_act 135 = .ok (.ireturn, 1) := by decide +kernel
def p_X7_act (F : Nat) (p1 : Int32) (p2 : Int32) (p3 : Int32) (x_now_arches : Int32) (x_now_cats : Int32) (x_now_store : Int32) (x_now_hour : Int32) (x_now_drops : Int32) (f_now_place : Nat → Int32) (f_now_joy : Nat → Int32) (x_ruling_size : Int32) (x_ruling_top : Int32) (f_now_load : Nat → Int32) (f_ruling_steps : Nat → Int32) (f_ruling_stack : Nat → Int32) (f_now_sag : Nat → Int32) (f_now_grief : Nat → Int32) (f_now_bowl : Nat → Int32) (Post : Int32 → (Int32 × Int32 × Int32 × (Nat → Int32) × (Nat → Int32) × Int32 × (Nat → Int32) × (Nat → Int32) × (Nat → Int32) × (Nat → Int32) × (Nat → Int32)) → Prop) : Prop := ((p1 = (102 : Int32) → (p_X6_feed F p2 p3 x_now_cats x_now_store f_now_bowl (fun (r_91 : Int32) (u_91 : (Int32 × (Nat → Int32))) => (Post r_91 (u_91.1, x_now_hour, x_now_drops, f_now_place, f_now_joy, x_ruling_top, f_now_load, f_ruling_stack, f_now_sag, f_now_grief, u_91.2))))) ∧ (¬ p1 = (102 : Int32) → ((p1 = (103 : Int32) → (p_X6_sadden F p2 p3 x_now_cats f_now_grief (fun (r_110 : Int32) (u_110 : (Nat → Int32)) => (Post r_110 (x_now_store, x_now_hour, x_now_drops, f_now_place, f_now_joy, x_ruling_top, f_now_load, f_ruling_stack, f_now_sag, u_110, f_now_bowl))))) ∧ (¬ p1 = (103 : Int32) → ((p1 = (108 : Int32) → (p_X6_burden F p2 p3 x_now_arches f_now_load (fun (r_130 : Int32) (u_130 : (Nat → Int32)) => (Post r_130 (x_now_store, x_now_hour, x_now_drops, f_now_place, f_now_joy, x_ruling_top, u_130, f_ruling_stack, f_now_sag, f_now_grief, f_now_bowl))))) ∧ (¬ p1 = (108 : Int32) → ((p1 = (110 : Int32) → (p_X6_passHours F p2 x_now_arches x_now_cats x_now_hour x_now_drops x_ruling_size x_ruling_top f_now_load f_now_place f_ruling_steps f_ruling_stack f_now_sag f_now_joy f_now_grief f_now_bowl (fun (r_81 : Int32) (u_81 : (Int32 × Int32 × Int32 × (Nat → Int32) × (Nat → Int32) × (Nat → Int32) × (Nat → Int32) × (Nat → Int32))) => (Post r_81 (x_now_store, u_81.1, u_81.2.1, f_now_place, u_81.2.2.2.2.2.1, u_81.2.2.1, f_now_load, u_81.2.2.2.1, u_81.2.2.2.2.1, u_81.2.2.2.2.2.2.1, u_81.2.2.2.2.2.2.2))))) ∧ (¬ p1 = (110 : Int32) → ((p1 = (112 : Int32) → (p_X6_pet F p2 x_now_cats f_now_joy (fun (r_100 : Int32) (u_100 : (Nat → Int32)) => (Post r_100 (x_now_store, x_now_hour, x_now_drops, f_now_place, u_100, x_ruling_top, f_now_load, f_ruling_stack, f_now_sag, f_now_grief, f_now_bowl))))) ∧ (¬ p1 = (112 : Int32) → ((p1 = (115 : Int32) → (p_X6_seat F p2 p3 x_now_arches x_now_cats f_now_place (fun (r_120 : Int32) (u_120 : (Nat → Int32)) => (Post r_120 (x_now_store, x_now_hour, x_now_drops, u_120, f_now_joy, x_ruling_top, f_now_load, f_ruling_stack, f_now_sag, f_now_grief, f_now_bowl))))) ∧ (¬ p1 = (115 : Int32) → (Post (-1 : Int32) (x_now_store, x_now_hour, x_now_drops, f_now_place, f_now_joy, x_ruling_top, f_now_load, f_ruling_stack, f_now_sag, f_now_grief, f_now_bowl))))))))))))))
set_option maxHeartbeats 4000000 in
set_option maxRecDepth 100000 in
theorem c_X7_act (l : Launch) (D : va_G) (cT : Nat → ClassId) (F : Nat) (h : Nat) (p1 : Int32) (p2 : Int32) (p3 : Int32) (w_text : Value) (w_told : Value) (q_now : Nat) (w_before : Value) (w_trial : Value) (w_past : Value) (w_kept : Value) (w_feltNotes : Value) (w_heardNotes : Value) (w_draws : Value) (w_purrs : Value) (w_alone : Value) (w_nimbers : Value) (w_ways : Value) (q_ruling : Nat) (w_spare : Value) (q_now_load : Nat) (q_now_sag : Nat) (q_now_joy : Nat) (q_now_bowl : Nat) (q_now_grief : Nat) (q_now_place : Nat) (x_now_arches : Int32) (x_now_cats : Int32) (x_now_store : Int32) (x_now_hour : Int32) (x_now_drops : Int32) (f_now_place : Nat → Int32) (f_now_joy : Nat → Int32) (q_ruling_steps : Nat) (q_ruling_stack : Nat) (x_ruling_size : Int32) (x_ruling_top : Int32) (x_ruling_open : Int32) (x_ruling_compared : Int32) (x_ruling_digits : Int32) (x_ruling_wantsThing : Int32) (f_now_load : Nat → Int32) (f_ruling_steps : Nat → Int32) (f_ruling_stack : Nat → Int32) (f_now_sag : Nat → Int32) (f_now_grief : Nat → Int32) (f_now_bowl : Nat → Int32) (Post : Int32 → (Int32 × Int32 × Int32 × (Nat → Int32) × (Nat → Int32) × Int32 × (Nat → Int32) × (Nat → Int32) × (Nat → Int32) × (Nat → Int32) × (Nat → Int32)) → Prop) (hg : p_X7_act F p1 p2 p3 x_now_arches x_now_cats x_now_store x_now_hour x_now_drops f_now_place f_now_joy x_ruling_size x_ruling_top f_now_load f_ruling_steps f_ruling_stack f_now_sag f_now_grief f_now_bowl Post) : MWi l D cT yX7_act cX7_act 4 (some .int) 6 151 0 0 [.ref h, .int p1, .int p2, .int p3] [(h, oX7 w_text w_told (.ref q_now) w_before w_trial w_past w_kept w_feltNotes w_heardNotes w_draws w_purrs w_alone w_nimbers w_ways (.ref q_ruling) w_spare), (q_now, oX6 (.ref q_now_load) (.ref q_now_sag) (.ref q_now_joy) (.ref q_now_bowl) (.ref q_now_grief) (.ref q_now_place) (.int x_now_arches) (.int x_now_cats) (.int x_now_store) (.int x_now_hour) (.int x_now_drops)), (q_now_place, aI cT 8 f_now_place), (q_now_joy, aI cT 8 f_now_joy), (q_ruling, oX4 (.ref q_ruling_steps) (.ref q_ruling_stack) (.int x_ruling_size) (.int x_ruling_top) (.int x_ruling_open) (.int x_ruling_compared) (.int x_ruling_digits) (.int x_ruling_wantsThing)), (q_now_load, aI cT 6 f_now_load), (q_ruling_steps, aI cT 40 f_ruling_steps), (q_ruling_stack, aI cT 40 f_ruling_stack), (q_now_sag, aI cT 6 f_now_sag), (q_now_grief, aI cT 8 f_now_grief), (q_now_bowl, aI cT 8 f_now_bowl)] Post (fun (u : (Int32 × Int32 × Int32 × (Nat → Int32) × (Nat → Int32) × Int32 × (Nat → Int32) × (Nat → Int32) × (Nat → Int32) × (Nat → Int32) × (Nat → Int32))) => [(h, oX7 w_text w_told (.ref q_now) w_before w_trial w_past w_kept w_feltNotes w_heardNotes w_draws w_purrs w_alone w_nimbers w_ways (.ref q_ruling) w_spare), (q_now, oX6 (.ref q_now_load) (.ref q_now_sag) (.ref q_now_joy) (.ref q_now_bowl) (.ref q_now_grief) (.ref q_now_place) (.int x_now_arches) (.int x_now_cats) (.int u.1) (.int u.2.1) (.int u.2.2.1)), (q_now_place, aI cT 8 u.2.2.2.1), (q_now_joy, aI cT 8 u.2.2.2.2.1), (q_ruling, oX4 (.ref q_ruling_steps) (.ref q_ruling_stack) (.int x_ruling_size) (.int u.2.2.2.2.2.1) (.int x_ruling_open) (.int x_ruling_compared) (.int x_ruling_digits) (.int x_ruling_wantsThing)), (q_now_load, aI cT 6 u.2.2.2.2.2.2.1), (q_ruling_steps, aI cT 40 f_ruling_steps), (q_ruling_stack, aI cT 40 u.2.2.2.2.2.2.2.1), (q_now_sag, aI cT 6 u.2.2.2.2.2.2.2.2.1), (q_now_grief, aI cT 8 u.2.2.2.2.2.2.2.2.2.1), (q_now_bowl, aI cT 8 u.2.2.2.2.2.2.2.2.2.2)]) := by
  refine MWi.of (by decide) (Nat.le_of_ble_eq_true rfl) ?_
  intro p e s m below meth c A hA C0 hnm hr hP hD ls hl
  have hl : lv_has ls 4 [(0, .ref h), (1, .int p1), (2, .int p2), (3, .int p3)] := hl
  have hx := C0.x
  have hb := C0.b
  have hS : va_S A s.heap s.heap [] := va_S.rf
  have hP : va_P D cls9 [(h, oX7 w_text w_told (.ref q_now) w_before w_trial w_past w_kept w_feltNotes w_heardNotes w_draws w_purrs w_alone w_nimbers w_ways (.ref q_ruling) w_spare), (q_now, oX6 (.ref q_now_load) (.ref q_now_sag) (.ref q_now_joy) (.ref q_now_bowl) (.ref q_now_grief) (.ref q_now_place) (.int x_now_arches) (.int x_now_cats) (.int x_now_store) (.int x_now_hour) (.int x_now_drops)), (q_now_place, aI cT 8 f_now_place), (q_now_joy, aI cT 8 f_now_joy), (q_ruling, oX4 (.ref q_ruling_steps) (.ref q_ruling_stack) (.int x_ruling_size) (.int x_ruling_top) (.int x_ruling_open) (.int x_ruling_compared) (.int x_ruling_digits) (.int x_ruling_wantsThing)), (q_now_load, aI cT 6 f_now_load), (q_ruling_steps, aI cT 40 f_ruling_steps), (q_ruling_stack, aI cT 40 f_ruling_stack), (q_now_sag, aI cT 6 f_now_sag), (q_now_grief, aI cT 8 f_now_grief), (q_now_bowl, aI cT 8 f_now_bowl)] s.heap := hP
  have hD : va_D A [(h, oX7 w_text w_told (.ref q_now) w_before w_trial w_past w_kept w_feltNotes w_heardNotes w_draws w_purrs w_alone w_nimbers w_ways (.ref q_ruling) w_spare), (q_now, oX6 (.ref q_now_load) (.ref q_now_sag) (.ref q_now_joy) (.ref q_now_bowl) (.ref q_now_grief) (.ref q_now_place) (.int x_now_arches) (.int x_now_cats) (.int x_now_store) (.int x_now_hour) (.int x_now_drops)), (q_now_place, aI cT 8 f_now_place), (q_now_joy, aI cT 8 f_now_joy), (q_ruling, oX4 (.ref q_ruling_steps) (.ref q_ruling_stack) (.int x_ruling_size) (.int x_ruling_top) (.int x_ruling_open) (.int x_ruling_compared) (.int x_ruling_digits) (.int x_ruling_wantsThing)), (q_now_load, aI cT 6 f_now_load), (q_ruling_steps, aI cT 40 f_ruling_steps), (q_ruling_stack, aI cT 40 f_ruling_stack), (q_now_sag, aI cT 6 f_now_sag), (q_now_grief, aI cT 8 f_now_grief), (q_now_bowl, aI cT 8 f_now_bowl)] := hD
  unfold p_X7_act at hg
  refine lv_iload_n hx hb dX7_act_0 rfl (lv_at hl 1 rfl) ?_
  rcases Classical.em (p1 = (102 : Int32)) with c_1_102 | c_1_102
  · have hg := hg.1 c_1_102
    refine lv_tableIn (tgt := 85) hx hb dX7_act_1 (by rw [c_1_102]; decide) (by rw [c_1_102]; decide) (by rw [c_1_102]; rfl) (by decide) ?_
    refine lv_aload_n hx hb dX7_act_85 rfl (lv_at hl 0 rfl) ?_
    refine gf_X7_26 C0 hP 0 rfl rfl dX7_act_86 ?_
    refine lv_iload_n hx hb dX7_act_89 rfl (lv_at hl 2 rfl) ?_
    refine lv_iload_n hx hb dX7_act_90 rfl (lv_at hl 3 rfl) ?_
    refine k_Vi (rest := []) (wr := [(h, oX7 w_text w_told (.ref q_now) w_before w_trial w_past w_kept w_feltNotes w_heardNotes w_draws w_purrs w_alone w_nimbers w_ways (.ref q_ruling) w_spare), (q_now_place, aI cT 8 f_now_place), (q_now_joy, aI cT 8 f_now_joy), (q_ruling, oX4 (.ref q_ruling_steps) (.ref q_ruling_stack) (.int x_ruling_size) (.int x_ruling_top) (.int x_ruling_open) (.int x_ruling_compared) (.int x_ruling_digits) (.int x_ruling_wantsThing)), (q_now_load, aI cT 6 f_now_load), (q_ruling_steps, aI cT 40 f_ruling_steps), (q_ruling_stack, aI cT 40 f_ruling_stack), (q_now_sag, aI cT 6 f_now_sag), (q_now_grief, aI cT 8 f_now_grief)]) (w2 := fun u_91 => [(h, oX7 w_text w_told (.ref q_now) w_before w_trial w_past w_kept w_feltNotes w_heardNotes w_draws w_purrs w_alone w_nimbers w_ways (.ref q_ruling) w_spare), (q_now_place, aI cT 8 f_now_place), (q_now_joy, aI cT 8 f_now_joy), (q_ruling, oX4 (.ref q_ruling_steps) (.ref q_ruling_stack) (.int x_ruling_size) (.int x_ruling_top) (.int x_ruling_open) (.int x_ruling_compared) (.int x_ruling_digits) (.int x_ruling_wantsThing)), (q_now_load, aI cT 6 f_now_load), (q_ruling_steps, aI cT 40 f_ruling_steps), (q_ruling_stack, aI cT 40 f_ruling_stack), (q_now_sag, aI cT 6 f_now_sag), (q_now_grief, aI cT 8 f_now_grief), (q_now, oX6 (.ref q_now_load) (.ref q_now_sag) (.ref q_now_joy) (.ref q_now_bowl) (.ref q_now_grief) (.ref q_now_place) (.int x_now_arches) (.int x_now_cats) (.int u_91.1) (.int x_now_hour) (.int x_now_drops)), (q_now_bowl, aI cT 8 u_91.2)]) C0 lk_X7_214 (c_X6_feed l D cT F q_now p2 p3 (.ref q_now_load) (.ref q_now_sag) (.ref q_now_joy) q_now_bowl (.ref q_now_grief) (.ref q_now_place) x_now_arches x_now_cats x_now_store x_now_hour x_now_drops f_now_bowl _ hg) hP hD hS hA [1, 10] [0, 2, 3, 4, 5, 6, 7, 8, 9] (by decide +kernel) rfl rfl (fun _ => rfl) rfl rfl ⟨Nat.le_of_ble_eq_true rfl, Nat.le_of_ble_eq_true rfl⟩ rfl hl.1 rfl (Nat.le_of_ble_eq_true rfl) dX7_act_91 ⟨Nat.le_of_ble_eq_true rfl, Nat.le_of_ble_eq_true rfl⟩ ?_
    intro r_91 u_91 H locs hg hP hD hS
    exact k_iret C0 hr (u_91.1, x_now_hour, x_now_drops, f_now_place, f_now_joy, x_ruling_top, f_now_load, f_ruling_stack, f_now_sag, f_now_grief, u_91.2) hg (subP hP [0, 9, 1, 2, 3, 4, 5, 6, 7, 8, 10] rfl) (hD.sub [0, 9, 1, 2, 3, 4, 5, 6, 7, 8, 10] (nd2_ok _ (by decide +kernel)) rfl) hS dX7_act_94
  have hg := hg.2 c_1_102
  rcases Classical.em (p1 = (103 : Int32)) with c_1_103 | c_1_103
  · have hg := hg.1 c_1_103
    refine lv_tableIn (tgt := 104) hx hb dX7_act_1 (by rw [c_1_103]; decide) (by rw [c_1_103]; decide) (by rw [c_1_103]; rfl) (by decide) ?_
    refine lv_aload_n hx hb dX7_act_104 rfl (lv_at hl 0 rfl) ?_
    refine gf_X7_26 C0 hP 0 rfl rfl dX7_act_105 ?_
    refine lv_iload_n hx hb dX7_act_108 rfl (lv_at hl 2 rfl) ?_
    refine lv_iload_n hx hb dX7_act_109 rfl (lv_at hl 3 rfl) ?_
    refine k_Vi (rest := []) (wr := [(h, oX7 w_text w_told (.ref q_now) w_before w_trial w_past w_kept w_feltNotes w_heardNotes w_draws w_purrs w_alone w_nimbers w_ways (.ref q_ruling) w_spare), (q_now_place, aI cT 8 f_now_place), (q_now_joy, aI cT 8 f_now_joy), (q_ruling, oX4 (.ref q_ruling_steps) (.ref q_ruling_stack) (.int x_ruling_size) (.int x_ruling_top) (.int x_ruling_open) (.int x_ruling_compared) (.int x_ruling_digits) (.int x_ruling_wantsThing)), (q_now_load, aI cT 6 f_now_load), (q_ruling_steps, aI cT 40 f_ruling_steps), (q_ruling_stack, aI cT 40 f_ruling_stack), (q_now_sag, aI cT 6 f_now_sag), (q_now_bowl, aI cT 8 f_now_bowl)]) (w2 := fun u_110 => [(h, oX7 w_text w_told (.ref q_now) w_before w_trial w_past w_kept w_feltNotes w_heardNotes w_draws w_purrs w_alone w_nimbers w_ways (.ref q_ruling) w_spare), (q_now_place, aI cT 8 f_now_place), (q_now_joy, aI cT 8 f_now_joy), (q_ruling, oX4 (.ref q_ruling_steps) (.ref q_ruling_stack) (.int x_ruling_size) (.int x_ruling_top) (.int x_ruling_open) (.int x_ruling_compared) (.int x_ruling_digits) (.int x_ruling_wantsThing)), (q_now_load, aI cT 6 f_now_load), (q_ruling_steps, aI cT 40 f_ruling_steps), (q_ruling_stack, aI cT 40 f_ruling_stack), (q_now_sag, aI cT 6 f_now_sag), (q_now_bowl, aI cT 8 f_now_bowl), (q_now, oX6 (.ref q_now_load) (.ref q_now_sag) (.ref q_now_joy) (.ref q_now_bowl) (.ref q_now_grief) (.ref q_now_place) (.int x_now_arches) (.int x_now_cats) (.int x_now_store) (.int x_now_hour) (.int x_now_drops)), (q_now_grief, aI cT 8 u_110)]) C0 lk_X7_223 (c_X6_sadden l D cT F q_now p2 p3 (.ref q_now_load) (.ref q_now_sag) (.ref q_now_joy) (.ref q_now_bowl) q_now_grief (.ref q_now_place) x_now_arches x_now_cats x_now_store x_now_hour x_now_drops f_now_grief _ hg) hP hD hS hA [1, 9] [0, 2, 3, 4, 5, 6, 7, 8, 10] (by decide +kernel) rfl rfl (fun _ => rfl) rfl rfl ⟨Nat.le_of_ble_eq_true rfl, Nat.le_of_ble_eq_true rfl⟩ rfl hl.1 rfl (Nat.le_of_ble_eq_true rfl) dX7_act_110 ⟨Nat.le_of_ble_eq_true rfl, Nat.le_of_ble_eq_true rfl⟩ ?_
    intro r_110 u_110 H locs hg hP hD hS
    exact k_iret C0 hr (x_now_store, x_now_hour, x_now_drops, f_now_place, f_now_joy, x_ruling_top, f_now_load, f_ruling_stack, f_now_sag, u_110, f_now_bowl) hg (subP hP [0, 9, 1, 2, 3, 4, 5, 6, 7, 10, 8] rfl) (hD.sub [0, 9, 1, 2, 3, 4, 5, 6, 7, 10, 8] (nd2_ok _ (by decide +kernel)) rfl) hS dX7_act_113
  have hg := hg.2 c_1_103
  rcases Classical.em (p1 = (108 : Int32)) with c_1_108 | c_1_108
  · have hg := hg.1 c_1_108
    refine lv_tableIn (tgt := 124) hx hb dX7_act_1 (by rw [c_1_108]; decide) (by rw [c_1_108]; decide) (by rw [c_1_108]; rfl) (by decide) ?_
    refine lv_aload_n hx hb dX7_act_124 rfl (lv_at hl 0 rfl) ?_
    refine gf_X7_26 C0 hP 0 rfl rfl dX7_act_125 ?_
    refine lv_iload_n hx hb dX7_act_128 rfl (lv_at hl 2 rfl) ?_
    refine lv_iload_n hx hb dX7_act_129 rfl (lv_at hl 3 rfl) ?_
    refine k_Vi (rest := []) (wr := [(h, oX7 w_text w_told (.ref q_now) w_before w_trial w_past w_kept w_feltNotes w_heardNotes w_draws w_purrs w_alone w_nimbers w_ways (.ref q_ruling) w_spare), (q_now_place, aI cT 8 f_now_place), (q_now_joy, aI cT 8 f_now_joy), (q_ruling, oX4 (.ref q_ruling_steps) (.ref q_ruling_stack) (.int x_ruling_size) (.int x_ruling_top) (.int x_ruling_open) (.int x_ruling_compared) (.int x_ruling_digits) (.int x_ruling_wantsThing)), (q_ruling_steps, aI cT 40 f_ruling_steps), (q_ruling_stack, aI cT 40 f_ruling_stack), (q_now_sag, aI cT 6 f_now_sag), (q_now_grief, aI cT 8 f_now_grief), (q_now_bowl, aI cT 8 f_now_bowl)]) (w2 := fun u_130 => [(h, oX7 w_text w_told (.ref q_now) w_before w_trial w_past w_kept w_feltNotes w_heardNotes w_draws w_purrs w_alone w_nimbers w_ways (.ref q_ruling) w_spare), (q_now_place, aI cT 8 f_now_place), (q_now_joy, aI cT 8 f_now_joy), (q_ruling, oX4 (.ref q_ruling_steps) (.ref q_ruling_stack) (.int x_ruling_size) (.int x_ruling_top) (.int x_ruling_open) (.int x_ruling_compared) (.int x_ruling_digits) (.int x_ruling_wantsThing)), (q_ruling_steps, aI cT 40 f_ruling_steps), (q_ruling_stack, aI cT 40 f_ruling_stack), (q_now_sag, aI cT 6 f_now_sag), (q_now_grief, aI cT 8 f_now_grief), (q_now_bowl, aI cT 8 f_now_bowl), (q_now, oX6 (.ref q_now_load) (.ref q_now_sag) (.ref q_now_joy) (.ref q_now_bowl) (.ref q_now_grief) (.ref q_now_place) (.int x_now_arches) (.int x_now_cats) (.int x_now_store) (.int x_now_hour) (.int x_now_drops)), (q_now_load, aI cT 6 u_130)]) C0 lk_X7_229 (c_X6_burden l D cT F q_now p2 p3 q_now_load (.ref q_now_sag) (.ref q_now_joy) (.ref q_now_bowl) (.ref q_now_grief) (.ref q_now_place) x_now_arches x_now_cats x_now_store x_now_hour x_now_drops f_now_load _ hg) hP hD hS hA [1, 5] [0, 2, 3, 4, 6, 7, 8, 9, 10] (by decide +kernel) rfl rfl (fun _ => rfl) rfl rfl ⟨Nat.le_of_ble_eq_true rfl, Nat.le_of_ble_eq_true rfl⟩ rfl hl.1 rfl (Nat.le_of_ble_eq_true rfl) dX7_act_130 ⟨Nat.le_of_ble_eq_true rfl, Nat.le_of_ble_eq_true rfl⟩ ?_
    intro r_130 u_130 H locs hg hP hD hS
    exact k_iret C0 hr (x_now_store, x_now_hour, x_now_drops, f_now_place, f_now_joy, x_ruling_top, u_130, f_ruling_stack, f_now_sag, f_now_grief, f_now_bowl) hg (subP hP [0, 9, 1, 2, 3, 10, 4, 5, 6, 7, 8] rfl) (hD.sub [0, 9, 1, 2, 3, 10, 4, 5, 6, 7, 8] (nd2_ok _ (by decide +kernel)) rfl) hS dX7_act_133
  have hg := hg.2 c_1_108
  rcases Classical.em (p1 = (110 : Int32)) with c_1_110 | c_1_110
  · have hg := hg.1 c_1_110
    refine lv_tableIn (tgt := 72) hx hb dX7_act_1 (by rw [c_1_110]; decide) (by rw [c_1_110]; decide) (by rw [c_1_110]; rfl) (by decide) ?_
    refine lv_aload_n hx hb dX7_act_72 rfl (lv_at hl 0 rfl) ?_
    refine gf_X7_26 C0 hP 0 rfl rfl dX7_act_73 ?_
    refine lv_aload_n hx hb dX7_act_76 rfl (lv_at hl 0 rfl) ?_
    refine gf_X7_83 C0 hP 0 rfl rfl dX7_act_77 ?_
    refine lv_iload_n hx hb dX7_act_80 rfl (lv_at hl 2 rfl) ?_
    refine k_Vi (rest := []) (wr := [(h, oX7 w_text w_told (.ref q_now) w_before w_trial w_past w_kept w_feltNotes w_heardNotes w_draws w_purrs w_alone w_nimbers w_ways (.ref q_ruling) w_spare)]) (w2 := fun u_81 => [(h, oX7 w_text w_told (.ref q_now) w_before w_trial w_past w_kept w_feltNotes w_heardNotes w_draws w_purrs w_alone w_nimbers w_ways (.ref q_ruling) w_spare), (q_now, oX6 (.ref q_now_load) (.ref q_now_sag) (.ref q_now_joy) (.ref q_now_bowl) (.ref q_now_grief) (.ref q_now_place) (.int x_now_arches) (.int x_now_cats) (.int x_now_store) (.int u_81.1) (.int u_81.2.1)), (q_ruling, oX4 (.ref q_ruling_steps) (.ref q_ruling_stack) (.int x_ruling_size) (.int u_81.2.2.1) (.int x_ruling_open) (.int x_ruling_compared) (.int x_ruling_digits) (.int x_ruling_wantsThing)), (q_now_load, aI cT 6 f_now_load), (q_now_place, aI cT 8 f_now_place), (q_ruling_steps, aI cT 40 f_ruling_steps), (q_ruling_stack, aI cT 40 u_81.2.2.2.1), (q_now_sag, aI cT 6 u_81.2.2.2.2.1), (q_now_joy, aI cT 8 u_81.2.2.2.2.2.1), (q_now_grief, aI cT 8 u_81.2.2.2.2.2.2.1), (q_now_bowl, aI cT 8 u_81.2.2.2.2.2.2.2)]) C0 lk_X7_195 (c_X6_passHours l D cT F q_now q_ruling p2 q_now_load q_now_sag q_now_joy q_now_bowl q_now_grief q_now_place x_now_arches x_now_cats x_now_store x_now_hour x_now_drops q_ruling_steps q_ruling_stack x_ruling_size x_ruling_top x_ruling_open x_ruling_compared x_ruling_digits x_ruling_wantsThing f_now_load f_now_place f_ruling_steps f_ruling_stack f_now_sag f_now_joy f_now_grief f_now_bowl _ hg) hP hD hS hA [1, 4, 5, 2, 6, 7, 8, 3, 9, 10] [0] (by decide +kernel) rfl rfl (fun _ => rfl) rfl rfl ⟨Nat.le_of_ble_eq_true rfl, Nat.le_of_ble_eq_true rfl⟩ rfl hl.1 rfl (Nat.le_of_ble_eq_true rfl) dX7_act_81 ⟨Nat.le_of_ble_eq_true rfl, Nat.le_of_ble_eq_true rfl⟩ ?_
    intro r_81 u_81 H locs hg hP hD hS
    exact k_iret C0 hr (x_now_store, u_81.1, u_81.2.1, f_now_place, u_81.2.2.2.2.2.1, u_81.2.2.1, f_now_load, u_81.2.2.2.1, u_81.2.2.2.2.1, u_81.2.2.2.2.2.2.1, u_81.2.2.2.2.2.2.2) hg (subP hP [0, 1, 4, 8, 2, 3, 5, 6, 7, 9, 10] rfl) (hD.sub [0, 1, 4, 8, 2, 3, 5, 6, 7, 9, 10] (nd2_ok _ (by decide +kernel)) rfl) hS dX7_act_84
  have hg := hg.2 c_1_110
  rcases Classical.em (p1 = (112 : Int32)) with c_1_112 | c_1_112
  · have hg := hg.1 c_1_112
    refine lv_tableIn (tgt := 95) hx hb dX7_act_1 (by rw [c_1_112]; decide) (by rw [c_1_112]; decide) (by rw [c_1_112]; rfl) (by decide) ?_
    refine lv_aload_n hx hb dX7_act_95 rfl (lv_at hl 0 rfl) ?_
    refine gf_X7_26 C0 hP 0 rfl rfl dX7_act_96 ?_
    refine lv_iload_n hx hb dX7_act_99 rfl (lv_at hl 2 rfl) ?_
    refine k_Vi (rest := []) (wr := [(h, oX7 w_text w_told (.ref q_now) w_before w_trial w_past w_kept w_feltNotes w_heardNotes w_draws w_purrs w_alone w_nimbers w_ways (.ref q_ruling) w_spare), (q_now_place, aI cT 8 f_now_place), (q_ruling, oX4 (.ref q_ruling_steps) (.ref q_ruling_stack) (.int x_ruling_size) (.int x_ruling_top) (.int x_ruling_open) (.int x_ruling_compared) (.int x_ruling_digits) (.int x_ruling_wantsThing)), (q_now_load, aI cT 6 f_now_load), (q_ruling_steps, aI cT 40 f_ruling_steps), (q_ruling_stack, aI cT 40 f_ruling_stack), (q_now_sag, aI cT 6 f_now_sag), (q_now_grief, aI cT 8 f_now_grief), (q_now_bowl, aI cT 8 f_now_bowl)]) (w2 := fun u_100 => [(h, oX7 w_text w_told (.ref q_now) w_before w_trial w_past w_kept w_feltNotes w_heardNotes w_draws w_purrs w_alone w_nimbers w_ways (.ref q_ruling) w_spare), (q_now_place, aI cT 8 f_now_place), (q_ruling, oX4 (.ref q_ruling_steps) (.ref q_ruling_stack) (.int x_ruling_size) (.int x_ruling_top) (.int x_ruling_open) (.int x_ruling_compared) (.int x_ruling_digits) (.int x_ruling_wantsThing)), (q_now_load, aI cT 6 f_now_load), (q_ruling_steps, aI cT 40 f_ruling_steps), (q_ruling_stack, aI cT 40 f_ruling_stack), (q_now_sag, aI cT 6 f_now_sag), (q_now_grief, aI cT 8 f_now_grief), (q_now_bowl, aI cT 8 f_now_bowl), (q_now, oX6 (.ref q_now_load) (.ref q_now_sag) (.ref q_now_joy) (.ref q_now_bowl) (.ref q_now_grief) (.ref q_now_place) (.int x_now_arches) (.int x_now_cats) (.int x_now_store) (.int x_now_hour) (.int x_now_drops)), (q_now_joy, aI cT 8 u_100)]) C0 lk_X7_220 (c_X6_pet l D cT F q_now p2 (.ref q_now_load) (.ref q_now_sag) q_now_joy (.ref q_now_bowl) (.ref q_now_grief) (.ref q_now_place) x_now_arches x_now_cats x_now_store x_now_hour x_now_drops f_now_joy _ hg) hP hD hS hA [1, 3] [0, 2, 4, 5, 6, 7, 8, 9, 10] (by decide +kernel) rfl rfl (fun _ => rfl) rfl rfl ⟨Nat.le_of_ble_eq_true rfl, Nat.le_of_ble_eq_true rfl⟩ rfl hl.1 rfl (Nat.le_of_ble_eq_true rfl) dX7_act_100 ⟨Nat.le_of_ble_eq_true rfl, Nat.le_of_ble_eq_true rfl⟩ ?_
    intro r_100 u_100 H locs hg hP hD hS
    exact k_iret C0 hr (x_now_store, x_now_hour, x_now_drops, f_now_place, u_100, x_ruling_top, f_now_load, f_ruling_stack, f_now_sag, f_now_grief, f_now_bowl) hg (subP hP [0, 9, 1, 10, 2, 3, 4, 5, 6, 7, 8] rfl) (hD.sub [0, 9, 1, 10, 2, 3, 4, 5, 6, 7, 8] (nd2_ok _ (by decide +kernel)) rfl) hS dX7_act_103
  have hg := hg.2 c_1_112
  rcases Classical.em (p1 = (115 : Int32)) with c_1_115 | c_1_115
  · have hg := hg.1 c_1_115
    refine lv_tableIn (tgt := 114) hx hb dX7_act_1 (by rw [c_1_115]; decide) (by rw [c_1_115]; decide) (by rw [c_1_115]; rfl) (by decide) ?_
    refine lv_aload_n hx hb dX7_act_114 rfl (lv_at hl 0 rfl) ?_
    refine gf_X7_26 C0 hP 0 rfl rfl dX7_act_115 ?_
    refine lv_iload_n hx hb dX7_act_118 rfl (lv_at hl 2 rfl) ?_
    refine lv_iload_n hx hb dX7_act_119 rfl (lv_at hl 3 rfl) ?_
    refine k_Vi (rest := []) (wr := [(h, oX7 w_text w_told (.ref q_now) w_before w_trial w_past w_kept w_feltNotes w_heardNotes w_draws w_purrs w_alone w_nimbers w_ways (.ref q_ruling) w_spare), (q_now_joy, aI cT 8 f_now_joy), (q_ruling, oX4 (.ref q_ruling_steps) (.ref q_ruling_stack) (.int x_ruling_size) (.int x_ruling_top) (.int x_ruling_open) (.int x_ruling_compared) (.int x_ruling_digits) (.int x_ruling_wantsThing)), (q_now_load, aI cT 6 f_now_load), (q_ruling_steps, aI cT 40 f_ruling_steps), (q_ruling_stack, aI cT 40 f_ruling_stack), (q_now_sag, aI cT 6 f_now_sag), (q_now_grief, aI cT 8 f_now_grief), (q_now_bowl, aI cT 8 f_now_bowl)]) (w2 := fun u_120 => [(h, oX7 w_text w_told (.ref q_now) w_before w_trial w_past w_kept w_feltNotes w_heardNotes w_draws w_purrs w_alone w_nimbers w_ways (.ref q_ruling) w_spare), (q_now_joy, aI cT 8 f_now_joy), (q_ruling, oX4 (.ref q_ruling_steps) (.ref q_ruling_stack) (.int x_ruling_size) (.int x_ruling_top) (.int x_ruling_open) (.int x_ruling_compared) (.int x_ruling_digits) (.int x_ruling_wantsThing)), (q_now_load, aI cT 6 f_now_load), (q_ruling_steps, aI cT 40 f_ruling_steps), (q_ruling_stack, aI cT 40 f_ruling_stack), (q_now_sag, aI cT 6 f_now_sag), (q_now_grief, aI cT 8 f_now_grief), (q_now_bowl, aI cT 8 f_now_bowl), (q_now, oX6 (.ref q_now_load) (.ref q_now_sag) (.ref q_now_joy) (.ref q_now_bowl) (.ref q_now_grief) (.ref q_now_place) (.int x_now_arches) (.int x_now_cats) (.int x_now_store) (.int x_now_hour) (.int x_now_drops)), (q_now_place, aI cT 8 u_120)]) C0 lk_X7_226 (c_X6_seat l D cT F q_now p2 p3 (.ref q_now_load) (.ref q_now_sag) (.ref q_now_joy) (.ref q_now_bowl) (.ref q_now_grief) q_now_place x_now_arches x_now_cats x_now_store x_now_hour x_now_drops f_now_place _ hg) hP hD hS hA [1, 2] [0, 3, 4, 5, 6, 7, 8, 9, 10] (by decide +kernel) rfl rfl (fun _ => rfl) rfl rfl ⟨Nat.le_of_ble_eq_true rfl, Nat.le_of_ble_eq_true rfl⟩ rfl hl.1 rfl (Nat.le_of_ble_eq_true rfl) dX7_act_120 ⟨Nat.le_of_ble_eq_true rfl, Nat.le_of_ble_eq_true rfl⟩ ?_
    intro r_120 u_120 H locs hg hP hD hS
    exact k_iret C0 hr (x_now_store, x_now_hour, x_now_drops, u_120, f_now_joy, x_ruling_top, f_now_load, f_ruling_stack, f_now_sag, f_now_grief, f_now_bowl) hg (subP hP [0, 9, 10, 1, 2, 3, 4, 5, 6, 7, 8] rfl) (hD.sub [0, 9, 10, 1, 2, 3, 4, 5, 6, 7, 8] (nd2_ok _ (by decide +kernel)) rfl) hS dX7_act_123
  have hg := hg.2 c_1_115
  refine sw_def (x := p1) (lo := 102) (dflt := 133) (tgt := 134) hx hb dX7_act_1 (by decide) (by decide) ?_ ?_
  · intro k hk hx2
    have n_1_102 := ne_toInt (k := 102) (by decide) c_1_102
    have n_1_103 := ne_toInt (k := 103) (by decide) c_1_103
    have n_1_108 := ne_toInt (k := 108) (by decide) c_1_108
    have n_1_110 := ne_toInt (k := 110) (by decide) c_1_110
    have n_1_112 := ne_toInt (k := 112) (by decide) c_1_112
    have n_1_115 := ne_toInt (k := 115) (by decide) c_1_115
    have hk3 : k < 14 := hk
    match k, hk3 with
    | 0, _ => exact absurd hx2 (by omega)
    | 1, _ => exact absurd hx2 (by omega)
    | 2, _ => rfl
    | 3, _ => rfl
    | 4, _ => rfl
    | 5, _ => rfl
    | 6, _ => exact absurd hx2 (by omega)
    | 7, _ => rfl
    | 8, _ => exact absurd hx2 (by omega)
    | 9, _ => rfl
    | 10, _ => exact absurd hx2 (by omega)
    | 11, _ => rfl
    | 12, _ => rfl
    | 13, _ => exact absurd hx2 (by omega)
    | k + 14, h => exact absurd h (by omega)
  refine lv_iconst (v := (-1 : Int32)) hx hb dX7_act_134 (by decide) ?_
  exact k_iret C0 hr (x_now_store, x_now_hour, x_now_drops, f_now_place, f_now_joy, x_ruling_top, f_now_load, f_ruling_stack, f_now_sag, f_now_grief, f_now_bowl) hg hP hD hS dX7_act_135
theorem dX7_holds_0 : decode cX7_holds 0 = .ok (.aload_n 0, 1) := by decide +kernel
theorem dX7_holds_1 : decode cX7_holds 1 = .ok (.getfield 26, 3) := by decide +kernel
theorem dX7_holds_4 : decode cX7_holds 4 = .ok (.aload_n 0, 1) := by decide +kernel
theorem dX7_holds_5 : decode cX7_holds 5 = .ok (.getfield 83, 3) := by decide +kernel
theorem dX7_holds_8 : decode cX7_holds 8 = .ok (.invokevirtual 249, 3) := by decide +kernel
theorem dX7_holds_11 : decode cX7_holds 11 = .ok (.istore_n 1, 1) := by decide +kernel
theorem dX7_holds_12 : decode cX7_holds 12 = .ok (.iconst 0, 1) := by decide +kernel
theorem dX7_holds_13 : decode cX7_holds 13 = .ok (.istore_n 2, 1) := by decide +kernel
theorem dX7_holds_14 : decode cX7_holds 14 = .ok (.iconst 0, 1) := by decide +kernel
theorem dX7_holds_15 : decode cX7_holds 15 = .ok (.istore_n 3, 1) := by decide +kernel
theorem dX7_holds_16 : decode cX7_holds 16 = .ok (.iload_n 3, 1) := by decide +kernel
theorem dX7_holds_17 : decode cX7_holds 17 = .ok (.aload_n 0, 1) := by decide +kernel
theorem dX7_holds_18 : decode cX7_holds 18 = .ok (.getfield 26, 3) := by decide +kernel
theorem dX7_holds_21 : decode cX7_holds 21 = .ok (.getfield 98, 3) := by decide +kernel
theorem dX7_holds_24 : decode cX7_holds 24 = .ok (.if_icmp .ge 38, 3) := by decide +kernel
theorem dX7_holds_27 : decode cX7_holds 27 = .ok (.iload_n 2, 1) := by decide +kernel
theorem dX7_holds_28 : decode cX7_holds 28 = .ok (.iconst 0, 1) := by decide +kernel
theorem dX7_holds_29 : decode cX7_holds 29 = .ok (.aload_n 0, 1) := by decide +kernel
theorem dX7_holds_30 : decode cX7_holds 30 = .ok (.getfield 26, 3) := by decide +kernel
theorem dX7_holds_33 : decode cX7_holds 33 = .ok (.getfield 140, 3) := by decide +kernel
theorem dX7_holds_36 : decode cX7_holds 36 = .ok (.iload_n 3, 1) := by decide +kernel
theorem dX7_holds_37 : decode cX7_holds 37 = .ok (.iaload, 1) := by decide +kernel
theorem dX7_holds_38 : decode cX7_holds 38 = .ok (.aload_n 0, 1) := by decide +kernel
theorem dX7_holds_39 : decode cX7_holds 39 = .ok (.getfield 26, 3) := by decide +kernel
theorem dX7_holds_42 : decode cX7_holds 42 = .ok (.aload_n 0, 1) := by decide +kernel
theorem dX7_holds_43 : decode cX7_holds 43 = .ok (.getfield 83, 3) := by decide +kernel
theorem dX7_holds_46 : decode cX7_holds 46 = .ok (.iload_n 3, 1) := by decide +kernel
theorem dX7_holds_47 : decode cX7_holds 47 = .ok (.invokevirtual 149, 3) := by decide +kernel
theorem dX7_holds_50 : decode cX7_holds 50 = .ok (.isub, 1) := by decide +kernel
theorem dX7_holds_51 : decode cX7_holds 51 = .ok (.invokestatic 188, 3) := by decide +kernel
theorem dX7_holds_54 : decode cX7_holds 54 = .ok (.iadd, 1) := by decide +kernel
theorem dX7_holds_55 : decode cX7_holds 55 = .ok (.istore_n 2, 1) := by decide +kernel
theorem dX7_holds_56 : decode cX7_holds 56 = .ok (.iinc 3 1, 3) := by decide +kernel
theorem dX7_holds_59 : decode cX7_holds 59 = .ok (.goto (-43), 3) := by decide +kernel
theorem dX7_holds_62 : decode cX7_holds 62 = .ok (.aload_n 0, 1) := by decide +kernel
theorem dX7_holds_63 : decode cX7_holds 63 = .ok (.getfield 19, 3) := by decide +kernel
theorem dX7_holds_66 : decode cX7_holds 66 = .ok (.invokevirtual 201, 3) := by decide +kernel
theorem dX7_holds_69 : decode cX7_holds 69 = .ok (.iload_n 1, 1) := by decide +kernel
theorem dX7_holds_70 : decode cX7_holds 70 = .ok (.invokestatic 253, 3) := by decide +kernel
theorem dX7_holds_73 : decode cX7_holds 73 = .ok (.i2l, 1) := by decide +kernel
theorem dX7_holds_74 : decode cX7_holds 74 = .ok (.invokevirtual 205, 3) := by decide +kernel
theorem dX7_holds_77 : decode cX7_holds 77 = .ok (.iload_n 2, 1) := by decide +kernel
theorem dX7_holds_78 : decode cX7_holds 78 = .ok (.i2l, 1) := by decide +kernel
theorem dX7_holds_79 : decode cX7_holds 79 = .ok (.invokevirtual 205, 3) := by decide +kernel
theorem dX7_holds_82 : decode cX7_holds 82 = .ok (.pop, 1) := by decide +kernel
theorem dX7_holds_83 : decode cX7_holds 83 = .ok (.iload_n 1, 1) := by decide +kernel
theorem dX7_holds_84 : decode cX7_holds 84 = .ok (.ireturn, 1) := by decide +kernel
noncomputable def p_X7_holds_16 (F : Nat) (x_now_arches : Int32) (x_now_cats : Int32) (x_now_hour : Int32) (x_ruling_size : Int32) (f_now_place : Nat → Int32) (f_ruling_steps : Nat → Int32) (f_now_sag : Nat → Int32) (f_now_load : Nat → Int32) (f_now_joy : Nat → Int32) (f_now_grief : Nat → Int32) (f_now_bowl : Nat → Int32) (f_told_numbers : Nat → Int64) (r_8 : Int32) (Post : Int32 → (Int32 × (Nat → Int32) × Int32 × (Nat → Int64)) → Prop) (n : Nat) : Int32 → Int32 → Int32 → (Nat → Int32) → Prop := Nat.rec (motive := fun _ => Int32 → Int32 → Int32 → (Nat → Int32) → Prop) (fun _ _ _ _ => False) (fun _ k16 => fun (y3_16 : Int32) (y2_16 : Int32) (x_ruling_top_16 : Int32) (f_ruling_stack_16 : Nat → Int32) => ((x_now_arches ≤ y3_16 → (p_X3_anew F (fun (u_66 : Int32) => (p_J6_bitCount_0f7a4 F r_8 (fun (r_70 : Int32) => (p_X3_add F (r_70.toInt64) u_66 f_told_numbers (fun (u_74 : (Int32 × (Nat → Int64))) => (p_X3_add F (y2_16.toInt64) u_74.1 u_74.2 (fun (u_79 : (Int32 × (Nat → Int64))) => (Post r_8 (x_ruling_top_16, f_ruling_stack_16, u_79.1, u_79.2))))))))))) ∧ (¬ x_now_arches ≤ y3_16 → (vp_in y3_16 6 ∧ (p_X6_holdOf F y3_16 x_now_arches x_now_cats x_now_hour f_now_place x_ruling_size x_ruling_top_16 f_ruling_steps f_ruling_stack_16 f_now_sag f_now_load f_now_joy f_now_grief f_now_bowl (fun (r_47 : Int32) (u_47 : (Int32 × (Nat → Int32))) => (k16 (y3_16 + (1 : Int32)) (y2_16 + (if (0 : Int32) < ((f_now_load y3_16.toNatClampNeg) - r_47) then ((f_now_load y3_16.toNatClampNeg) - r_47) else (0 : Int32))) u_47.1 u_47.2))))))) n
theorem p_X7_holds_16_s (F : Nat) (x_now_arches : Int32) (x_now_cats : Int32) (x_now_hour : Int32) (x_ruling_size : Int32) (f_now_place : Nat → Int32) (f_ruling_steps : Nat → Int32) (f_now_sag : Nat → Int32) (f_now_load : Nat → Int32) (f_now_joy : Nat → Int32) (f_now_grief : Nat → Int32) (f_now_bowl : Nat → Int32) (f_told_numbers : Nat → Int64) (r_8 : Int32) (Post : Int32 → (Int32 × (Nat → Int32) × Int32 × (Nat → Int64)) → Prop) (n : Nat) (y3_16 : Int32) (y2_16 : Int32) (x_ruling_top_16 : Int32) (f_ruling_stack_16 : Nat → Int32) : p_X7_holds_16 F x_now_arches x_now_cats x_now_hour x_ruling_size f_now_place f_ruling_steps f_now_sag f_now_load f_now_joy f_now_grief f_now_bowl f_told_numbers r_8 Post (n + 1) y3_16 y2_16 x_ruling_top_16 f_ruling_stack_16 = ((x_now_arches ≤ y3_16 → (p_X3_anew F (fun (u_66 : Int32) => (p_J6_bitCount_0f7a4 F r_8 (fun (r_70 : Int32) => (p_X3_add F (r_70.toInt64) u_66 f_told_numbers (fun (u_74 : (Int32 × (Nat → Int64))) => (p_X3_add F (y2_16.toInt64) u_74.1 u_74.2 (fun (u_79 : (Int32 × (Nat → Int64))) => (Post r_8 (x_ruling_top_16, f_ruling_stack_16, u_79.1, u_79.2))))))))))) ∧ (¬ x_now_arches ≤ y3_16 → (vp_in y3_16 6 ∧ (p_X6_holdOf F y3_16 x_now_arches x_now_cats x_now_hour f_now_place x_ruling_size x_ruling_top_16 f_ruling_steps f_ruling_stack_16 f_now_sag f_now_load f_now_joy f_now_grief f_now_bowl (fun (r_47 : Int32) (u_47 : (Int32 × (Nat → Int32))) => ((p_X7_holds_16 F x_now_arches x_now_cats x_now_hour x_ruling_size f_now_place f_ruling_steps f_now_sag f_now_load f_now_joy f_now_grief f_now_bowl f_told_numbers r_8 Post n) (y3_16 + (1 : Int32)) (y2_16 + (if (0 : Int32) < ((f_now_load y3_16.toNatClampNeg) - r_47) then ((f_now_load y3_16.toNatClampNeg) - r_47) else (0 : Int32))) u_47.1 u_47.2)))))) := rfl
def p_X7_holds (F : Nat) (x_now_arches : Int32) (x_now_cats : Int32) (x_now_hour : Int32) (x_ruling_size : Int32) (x_ruling_top : Int32) (f_now_place : Nat → Int32) (f_ruling_steps : Nat → Int32) (f_ruling_stack : Nat → Int32) (f_now_sag : Nat → Int32) (f_now_load : Nat → Int32) (f_now_joy : Nat → Int32) (f_now_grief : Nat → Int32) (f_now_bowl : Nat → Int32) (f_told_numbers : Nat → Int64) (Post : Int32 → (Int32 × (Nat → Int32) × Int32 × (Nat → Int64)) → Prop) : Prop := (p_X6_heldArches F x_now_arches x_now_cats x_now_hour x_ruling_size x_ruling_top f_now_place f_ruling_steps f_ruling_stack f_now_sag f_now_load f_now_joy f_now_grief f_now_bowl (fun (r_8 : Int32) (u_8 : (Int32 × (Nat → Int32))) => (p_X7_holds_16 F x_now_arches x_now_cats x_now_hour x_ruling_size f_now_place f_ruling_steps f_now_sag f_now_load f_now_joy f_now_grief f_now_bowl f_told_numbers r_8 Post F (0 : Int32) (0 : Int32) u_8.1 u_8.2)))
set_option maxHeartbeats 4000000 in
set_option maxRecDepth 100000 in
theorem c_X7_holds (l : Launch) (D : va_G) (cT : Nat → ClassId) (F : Nat) (h : Nat) (w_text : Value) (q_told : Nat) (q_now : Nat) (w_before : Value) (w_trial : Value) (w_past : Value) (w_kept : Value) (w_feltNotes : Value) (w_heardNotes : Value) (w_draws : Value) (w_purrs : Value) (w_alone : Value) (w_nimbers : Value) (w_ways : Value) (q_ruling : Nat) (w_spare : Value) (q_now_load : Nat) (q_now_sag : Nat) (q_now_joy : Nat) (q_now_bowl : Nat) (q_now_grief : Nat) (q_now_place : Nat) (x_now_arches : Int32) (x_now_cats : Int32) (x_now_store : Int32) (x_now_hour : Int32) (x_now_drops : Int32) (q_ruling_steps : Nat) (q_ruling_stack : Nat) (x_ruling_size : Int32) (x_ruling_top : Int32) (x_ruling_open : Int32) (x_ruling_compared : Int32) (x_ruling_digits : Int32) (x_ruling_wantsThing : Int32) (f_now_place : Nat → Int32) (f_ruling_steps : Nat → Int32) (f_ruling_stack : Nat → Int32) (f_now_sag : Nat → Int32) (f_now_load : Nat → Int32) (f_now_joy : Nat → Int32) (f_now_grief : Nat → Int32) (f_now_bowl : Nat → Int32) (q_told_numbers : Nat) (x_told_size : Int32) (f_told_numbers : Nat → Int64) (Post : Int32 → (Int32 × (Nat → Int32) × Int32 × (Nat → Int64)) → Prop) (hg : p_X7_holds F x_now_arches x_now_cats x_now_hour x_ruling_size x_ruling_top f_now_place f_ruling_steps f_ruling_stack f_now_sag f_now_load f_now_joy f_now_grief f_now_bowl f_told_numbers Post) : MWi l D cT yX7_holds cX7_holds 4 (some .int) 6 148 0 0 [.ref h] [(h, oX7 w_text (.ref q_told) (.ref q_now) w_before w_trial w_past w_kept w_feltNotes w_heardNotes w_draws w_purrs w_alone w_nimbers w_ways (.ref q_ruling) w_spare), (q_now, oX6 (.ref q_now_load) (.ref q_now_sag) (.ref q_now_joy) (.ref q_now_bowl) (.ref q_now_grief) (.ref q_now_place) (.int x_now_arches) (.int x_now_cats) (.int x_now_store) (.int x_now_hour) (.int x_now_drops)), (q_ruling, oX4 (.ref q_ruling_steps) (.ref q_ruling_stack) (.int x_ruling_size) (.int x_ruling_top) (.int x_ruling_open) (.int x_ruling_compared) (.int x_ruling_digits) (.int x_ruling_wantsThing)), (q_now_place, aI cT 8 f_now_place), (q_ruling_steps, aI cT 40 f_ruling_steps), (q_ruling_stack, aI cT 40 f_ruling_stack), (q_now_sag, aI cT 6 f_now_sag), (q_now_load, aI cT 6 f_now_load), (q_now_joy, aI cT 8 f_now_joy), (q_now_grief, aI cT 8 f_now_grief), (q_now_bowl, aI cT 8 f_now_bowl), (q_told, oX3 (.ref q_told_numbers) (.int x_told_size)), (q_told_numbers, aJ cT 8 f_told_numbers)] Post (fun (u : (Int32 × (Nat → Int32) × Int32 × (Nat → Int64))) => [(h, oX7 w_text (.ref q_told) (.ref q_now) w_before w_trial w_past w_kept w_feltNotes w_heardNotes w_draws w_purrs w_alone w_nimbers w_ways (.ref q_ruling) w_spare), (q_now, oX6 (.ref q_now_load) (.ref q_now_sag) (.ref q_now_joy) (.ref q_now_bowl) (.ref q_now_grief) (.ref q_now_place) (.int x_now_arches) (.int x_now_cats) (.int x_now_store) (.int x_now_hour) (.int x_now_drops)), (q_ruling, oX4 (.ref q_ruling_steps) (.ref q_ruling_stack) (.int x_ruling_size) (.int u.1) (.int x_ruling_open) (.int x_ruling_compared) (.int x_ruling_digits) (.int x_ruling_wantsThing)), (q_now_place, aI cT 8 f_now_place), (q_ruling_steps, aI cT 40 f_ruling_steps), (q_ruling_stack, aI cT 40 u.2.1), (q_now_sag, aI cT 6 f_now_sag), (q_now_load, aI cT 6 f_now_load), (q_now_joy, aI cT 8 f_now_joy), (q_now_grief, aI cT 8 f_now_grief), (q_now_bowl, aI cT 8 f_now_bowl), (q_told, oX3 (.ref q_told_numbers) (.int u.2.2.1)), (q_told_numbers, aJ cT 8 u.2.2.2)]) := by
  refine MWi.of (by decide) (Nat.le_of_ble_eq_true rfl) ?_
  intro p e s m below meth c A hA C0 hnm hr hP hD ls hl
  have hl : lv_has ls 4 [(0, .ref h)] := hl
  have hx := C0.x
  have hb := C0.b
  have hS : va_S A s.heap s.heap [] := va_S.rf
  have hP : va_P D cls9 [(h, oX7 w_text (.ref q_told) (.ref q_now) w_before w_trial w_past w_kept w_feltNotes w_heardNotes w_draws w_purrs w_alone w_nimbers w_ways (.ref q_ruling) w_spare), (q_now, oX6 (.ref q_now_load) (.ref q_now_sag) (.ref q_now_joy) (.ref q_now_bowl) (.ref q_now_grief) (.ref q_now_place) (.int x_now_arches) (.int x_now_cats) (.int x_now_store) (.int x_now_hour) (.int x_now_drops)), (q_ruling, oX4 (.ref q_ruling_steps) (.ref q_ruling_stack) (.int x_ruling_size) (.int x_ruling_top) (.int x_ruling_open) (.int x_ruling_compared) (.int x_ruling_digits) (.int x_ruling_wantsThing)), (q_now_place, aI cT 8 f_now_place), (q_ruling_steps, aI cT 40 f_ruling_steps), (q_ruling_stack, aI cT 40 f_ruling_stack), (q_now_sag, aI cT 6 f_now_sag), (q_now_load, aI cT 6 f_now_load), (q_now_joy, aI cT 8 f_now_joy), (q_now_grief, aI cT 8 f_now_grief), (q_now_bowl, aI cT 8 f_now_bowl), (q_told, oX3 (.ref q_told_numbers) (.int x_told_size)), (q_told_numbers, aJ cT 8 f_told_numbers)] s.heap := hP
  have hD : va_D A [(h, oX7 w_text (.ref q_told) (.ref q_now) w_before w_trial w_past w_kept w_feltNotes w_heardNotes w_draws w_purrs w_alone w_nimbers w_ways (.ref q_ruling) w_spare), (q_now, oX6 (.ref q_now_load) (.ref q_now_sag) (.ref q_now_joy) (.ref q_now_bowl) (.ref q_now_grief) (.ref q_now_place) (.int x_now_arches) (.int x_now_cats) (.int x_now_store) (.int x_now_hour) (.int x_now_drops)), (q_ruling, oX4 (.ref q_ruling_steps) (.ref q_ruling_stack) (.int x_ruling_size) (.int x_ruling_top) (.int x_ruling_open) (.int x_ruling_compared) (.int x_ruling_digits) (.int x_ruling_wantsThing)), (q_now_place, aI cT 8 f_now_place), (q_ruling_steps, aI cT 40 f_ruling_steps), (q_ruling_stack, aI cT 40 f_ruling_stack), (q_now_sag, aI cT 6 f_now_sag), (q_now_load, aI cT 6 f_now_load), (q_now_joy, aI cT 8 f_now_joy), (q_now_grief, aI cT 8 f_now_grief), (q_now_bowl, aI cT 8 f_now_bowl), (q_told, oX3 (.ref q_told_numbers) (.int x_told_size)), (q_told_numbers, aJ cT 8 f_told_numbers)] := hD
  have L16 : ∀ (r_8 : Int32) (n16 : Nat) (y3_16 : Int32) (y2_16 : Int32) (x_ruling_top_16 : Int32) (f_ruling_stack_16 : Nat → Int32) (H : Heap) (locs : List Loc) (ls : Array Slot), p_X7_holds_16 F x_now_arches x_now_cats x_now_hour x_ruling_size f_now_place f_ruling_steps f_now_sag f_now_load f_now_joy f_now_grief f_now_bowl f_told_numbers r_8 Post n16 y3_16 y2_16 x_ruling_top_16 f_ruling_stack_16 → va_P D cls9 [(h, oX7 w_text (.ref q_told) (.ref q_now) w_before w_trial w_past w_kept w_feltNotes w_heardNotes w_draws w_purrs w_alone w_nimbers w_ways (.ref q_ruling) w_spare), (q_now, oX6 (.ref q_now_load) (.ref q_now_sag) (.ref q_now_joy) (.ref q_now_bowl) (.ref q_now_grief) (.ref q_now_place) (.int x_now_arches) (.int x_now_cats) (.int x_now_store) (.int x_now_hour) (.int x_now_drops)), (q_ruling, oX4 (.ref q_ruling_steps) (.ref q_ruling_stack) (.int x_ruling_size) (.int x_ruling_top_16) (.int x_ruling_open) (.int x_ruling_compared) (.int x_ruling_digits) (.int x_ruling_wantsThing)), (q_now_place, aI cT 8 f_now_place), (q_ruling_steps, aI cT 40 f_ruling_steps), (q_ruling_stack, aI cT 40 f_ruling_stack_16), (q_now_sag, aI cT 6 f_now_sag), (q_now_load, aI cT 6 f_now_load), (q_now_joy, aI cT 8 f_now_joy), (q_now_grief, aI cT 8 f_now_grief), (q_now_bowl, aI cT 8 f_now_bowl), (q_told, oX3 (.ref q_told_numbers) (.int x_told_size)), (q_told_numbers, aJ cT 8 f_told_numbers)] H → va_D A [(h, oX7 w_text (.ref q_told) (.ref q_now) w_before w_trial w_past w_kept w_feltNotes w_heardNotes w_draws w_purrs w_alone w_nimbers w_ways (.ref q_ruling) w_spare), (q_now, oX6 (.ref q_now_load) (.ref q_now_sag) (.ref q_now_joy) (.ref q_now_bowl) (.ref q_now_grief) (.ref q_now_place) (.int x_now_arches) (.int x_now_cats) (.int x_now_store) (.int x_now_hour) (.int x_now_drops)), (q_ruling, oX4 (.ref q_ruling_steps) (.ref q_ruling_stack) (.int x_ruling_size) (.int x_ruling_top_16) (.int x_ruling_open) (.int x_ruling_compared) (.int x_ruling_digits) (.int x_ruling_wantsThing)), (q_now_place, aI cT 8 f_now_place), (q_ruling_steps, aI cT 40 f_ruling_steps), (q_ruling_stack, aI cT 40 f_ruling_stack_16), (q_now_sag, aI cT 6 f_now_sag), (q_now_load, aI cT 6 f_now_load), (q_now_joy, aI cT 8 f_now_joy), (q_now_grief, aI cT 8 f_now_grief), (q_now_bowl, aI cT 8 f_now_bowl), (q_told, oX3 (.ref q_told_numbers) (.int x_told_size)), (q_told_numbers, aJ cT 8 f_told_numbers)] → va_S A s.heap H locs → lv_has ls 4 [(0, .ref h), (1, .int r_8), (2, .int y2_16), (3, .int y3_16)] → W p l e (rmO 6 148 0 0) s m ([.ref h] : List Value).toArray below meth c H locs 0 0 (MQ below (va_Qi Post (cB D A (fun (u : (Int32 × (Nat → Int32) × Int32 × (Nat → Int64))) => [(h, oX7 w_text (.ref q_told) (.ref q_now) w_before w_trial w_past w_kept w_feltNotes w_heardNotes w_draws w_purrs w_alone w_nimbers w_ways (.ref q_ruling) w_spare), (q_now, oX6 (.ref q_now_load) (.ref q_now_sag) (.ref q_now_joy) (.ref q_now_bowl) (.ref q_now_grief) (.ref q_now_place) (.int x_now_arches) (.int x_now_cats) (.int x_now_store) (.int x_now_hour) (.int x_now_drops)), (q_ruling, oX4 (.ref q_ruling_steps) (.ref q_ruling_stack) (.int x_ruling_size) (.int u.1) (.int x_ruling_open) (.int x_ruling_compared) (.int x_ruling_digits) (.int x_ruling_wantsThing)), (q_now_place, aI cT 8 f_now_place), (q_ruling_steps, aI cT 40 f_ruling_steps), (q_ruling_stack, aI cT 40 u.2.1), (q_now_sag, aI cT 6 f_now_sag), (q_now_load, aI cT 6 f_now_load), (q_now_joy, aI cT 8 f_now_joy), (q_now_grief, aI cT 8 f_now_grief), (q_now_bowl, aI cT 8 f_now_bowl), (q_told, oX3 (.ref q_told_numbers) (.int u.2.2.1)), (q_told_numbers, aJ cT 8 u.2.2.2)])) A) ([.ref h] : List Value).toArray s 0 0 A) (F0 m 16 ls []) := by
    intro r_8 n16
    induction n16 with
    | zero =>
      intro y3_16 y2_16 x_ruling_top_16 f_ruling_stack_16 H locs ls hg hP hD hS hl
      exact False.elim hg
    | succ n16 ih16 =>
      intro y3_16 y2_16 x_ruling_top_16 f_ruling_stack_16 H locs ls hg hP hD hS hl
      rw [p_X7_holds_16_s] at hg
      refine lv_iload_n hx hb dX7_holds_16 rfl (lv_at hl 3 rfl) ?_
      refine lv_aload_n hx hb dX7_holds_17 rfl (lv_at hl 0 rfl) ?_
      refine gf_X7_26 C0 hP 0 rfl rfl dX7_holds_18 ?_
      refine gf_X7_98 C0 hP 1 rfl rfl dX7_holds_21 ?_
      refine lv_icmp_ge (tgt := 62) hx hb dX7_holds_24 (by decide) (fun c_24 => ?_) (fun c_24 => ?_)
      · have hg := hg.1 c_24
        refine lv_aload_n hx hb dX7_holds_62 rfl (lv_at hl 0 rfl) ?_
        refine gf_X7_19 C0 hP 0 rfl rfl dX7_holds_63 ?_
        refine k_Vr (rest := []) (wr := [(h, oX7 w_text (.ref q_told) (.ref q_now) w_before w_trial w_past w_kept w_feltNotes w_heardNotes w_draws w_purrs w_alone w_nimbers w_ways (.ref q_ruling) w_spare), (q_now, oX6 (.ref q_now_load) (.ref q_now_sag) (.ref q_now_joy) (.ref q_now_bowl) (.ref q_now_grief) (.ref q_now_place) (.int x_now_arches) (.int x_now_cats) (.int x_now_store) (.int x_now_hour) (.int x_now_drops)), (q_ruling, oX4 (.ref q_ruling_steps) (.ref q_ruling_stack) (.int x_ruling_size) (.int x_ruling_top_16) (.int x_ruling_open) (.int x_ruling_compared) (.int x_ruling_digits) (.int x_ruling_wantsThing)), (q_now_place, aI cT 8 f_now_place), (q_ruling_steps, aI cT 40 f_ruling_steps), (q_ruling_stack, aI cT 40 f_ruling_stack_16), (q_now_sag, aI cT 6 f_now_sag), (q_now_load, aI cT 6 f_now_load), (q_now_joy, aI cT 8 f_now_joy), (q_now_grief, aI cT 8 f_now_grief), (q_now_bowl, aI cT 8 f_now_bowl), (q_told_numbers, aJ cT 8 f_told_numbers)]) (w2 := fun u_66 => [(h, oX7 w_text (.ref q_told) (.ref q_now) w_before w_trial w_past w_kept w_feltNotes w_heardNotes w_draws w_purrs w_alone w_nimbers w_ways (.ref q_ruling) w_spare), (q_now, oX6 (.ref q_now_load) (.ref q_now_sag) (.ref q_now_joy) (.ref q_now_bowl) (.ref q_now_grief) (.ref q_now_place) (.int x_now_arches) (.int x_now_cats) (.int x_now_store) (.int x_now_hour) (.int x_now_drops)), (q_ruling, oX4 (.ref q_ruling_steps) (.ref q_ruling_stack) (.int x_ruling_size) (.int x_ruling_top_16) (.int x_ruling_open) (.int x_ruling_compared) (.int x_ruling_digits) (.int x_ruling_wantsThing)), (q_now_place, aI cT 8 f_now_place), (q_ruling_steps, aI cT 40 f_ruling_steps), (q_ruling_stack, aI cT 40 f_ruling_stack_16), (q_now_sag, aI cT 6 f_now_sag), (q_now_load, aI cT 6 f_now_load), (q_now_joy, aI cT 8 f_now_joy), (q_now_grief, aI cT 8 f_now_grief), (q_now_bowl, aI cT 8 f_now_bowl), (q_told_numbers, aJ cT 8 f_told_numbers), (q_told, oX3 (.ref q_told_numbers) (.int u_66))]) C0 lk_X7_201 (c_X3_anew l D cT F q_told (.ref q_told_numbers) x_told_size _ hg) hP hD hS hA [11] [0, 1, 2, 3, 4, 5, 6, 7, 8, 9, 10, 12] (by decide +kernel) rfl rfl (fun _ => rfl) rfl rfl ⟨Nat.le_of_ble_eq_true rfl, Nat.le_of_ble_eq_true rfl⟩ rfl hl.1 rfl (Nat.le_of_ble_eq_true rfl) dX7_holds_66 ⟨Nat.le_of_ble_eq_true rfl, Nat.le_of_ble_eq_true rfl⟩ ?_
        intro u_66 H locs hg hP hD hS
        refine lv_iload_n hx hb dX7_holds_69 rfl (lv_at hl 1 rfl) ?_
        refine k_Sxi (rest := [.ref q_told]) C0 lk_X7_253 (c_J6_bitCount_0f7a4 l D cT F r_8 _ hg) hP hD hS hA [] (by decide +kernel) rfl ⟨Nat.le_of_ble_eq_true rfl, Nat.le_of_ble_eq_true rfl⟩ rfl hl.1 rfl (Nat.le_of_ble_eq_true rfl) dX7_holds_70 ⟨Nat.le_of_ble_eq_true rfl, Nat.le_of_ble_eq_true rfl⟩ (fun r_70 hg => ?_)
        refine lv_i2l (v := (r_70.toInt64)) hx hb dX7_holds_73 rfl ?_
        refine k_Vr (rest := []) (wr := [(h, oX7 w_text (.ref q_told) (.ref q_now) w_before w_trial w_past w_kept w_feltNotes w_heardNotes w_draws w_purrs w_alone w_nimbers w_ways (.ref q_ruling) w_spare), (q_now, oX6 (.ref q_now_load) (.ref q_now_sag) (.ref q_now_joy) (.ref q_now_bowl) (.ref q_now_grief) (.ref q_now_place) (.int x_now_arches) (.int x_now_cats) (.int x_now_store) (.int x_now_hour) (.int x_now_drops)), (q_ruling, oX4 (.ref q_ruling_steps) (.ref q_ruling_stack) (.int x_ruling_size) (.int x_ruling_top_16) (.int x_ruling_open) (.int x_ruling_compared) (.int x_ruling_digits) (.int x_ruling_wantsThing)), (q_now_place, aI cT 8 f_now_place), (q_ruling_steps, aI cT 40 f_ruling_steps), (q_ruling_stack, aI cT 40 f_ruling_stack_16), (q_now_sag, aI cT 6 f_now_sag), (q_now_load, aI cT 6 f_now_load), (q_now_joy, aI cT 8 f_now_joy), (q_now_grief, aI cT 8 f_now_grief), (q_now_bowl, aI cT 8 f_now_bowl)]) (w2 := fun u_74 => [(h, oX7 w_text (.ref q_told) (.ref q_now) w_before w_trial w_past w_kept w_feltNotes w_heardNotes w_draws w_purrs w_alone w_nimbers w_ways (.ref q_ruling) w_spare), (q_now, oX6 (.ref q_now_load) (.ref q_now_sag) (.ref q_now_joy) (.ref q_now_bowl) (.ref q_now_grief) (.ref q_now_place) (.int x_now_arches) (.int x_now_cats) (.int x_now_store) (.int x_now_hour) (.int x_now_drops)), (q_ruling, oX4 (.ref q_ruling_steps) (.ref q_ruling_stack) (.int x_ruling_size) (.int x_ruling_top_16) (.int x_ruling_open) (.int x_ruling_compared) (.int x_ruling_digits) (.int x_ruling_wantsThing)), (q_now_place, aI cT 8 f_now_place), (q_ruling_steps, aI cT 40 f_ruling_steps), (q_ruling_stack, aI cT 40 f_ruling_stack_16), (q_now_sag, aI cT 6 f_now_sag), (q_now_load, aI cT 6 f_now_load), (q_now_joy, aI cT 8 f_now_joy), (q_now_grief, aI cT 8 f_now_grief), (q_now_bowl, aI cT 8 f_now_bowl), (q_told, oX3 (.ref q_told_numbers) (.int u_74.1)), (q_told_numbers, aJ cT 8 u_74.2)]) C0 lk_X7_205 (c_X3_add l D cT F q_told (r_70.toInt64) q_told_numbers u_66 f_told_numbers _ hg) hP hD hS hA [12, 11] [0, 1, 2, 3, 4, 5, 6, 7, 8, 9, 10] (by decide +kernel) rfl rfl (fun _ => rfl) rfl rfl ⟨Nat.le_of_ble_eq_true rfl, Nat.le_of_ble_eq_true rfl⟩ rfl hl.1 rfl (Nat.le_of_ble_eq_true rfl) dX7_holds_74 ⟨Nat.le_of_ble_eq_true rfl, Nat.le_of_ble_eq_true rfl⟩ ?_
        intro u_74 H locs hg hP hD hS
        refine lv_iload_n hx hb dX7_holds_77 rfl (lv_at hl 2 rfl) ?_
        refine lv_i2l (v := (y2_16.toInt64)) hx hb dX7_holds_78 rfl ?_
        refine k_Vr (rest := []) (wr := [(h, oX7 w_text (.ref q_told) (.ref q_now) w_before w_trial w_past w_kept w_feltNotes w_heardNotes w_draws w_purrs w_alone w_nimbers w_ways (.ref q_ruling) w_spare), (q_now, oX6 (.ref q_now_load) (.ref q_now_sag) (.ref q_now_joy) (.ref q_now_bowl) (.ref q_now_grief) (.ref q_now_place) (.int x_now_arches) (.int x_now_cats) (.int x_now_store) (.int x_now_hour) (.int x_now_drops)), (q_ruling, oX4 (.ref q_ruling_steps) (.ref q_ruling_stack) (.int x_ruling_size) (.int x_ruling_top_16) (.int x_ruling_open) (.int x_ruling_compared) (.int x_ruling_digits) (.int x_ruling_wantsThing)), (q_now_place, aI cT 8 f_now_place), (q_ruling_steps, aI cT 40 f_ruling_steps), (q_ruling_stack, aI cT 40 f_ruling_stack_16), (q_now_sag, aI cT 6 f_now_sag), (q_now_load, aI cT 6 f_now_load), (q_now_joy, aI cT 8 f_now_joy), (q_now_grief, aI cT 8 f_now_grief), (q_now_bowl, aI cT 8 f_now_bowl)]) (w2 := fun u_79 => [(h, oX7 w_text (.ref q_told) (.ref q_now) w_before w_trial w_past w_kept w_feltNotes w_heardNotes w_draws w_purrs w_alone w_nimbers w_ways (.ref q_ruling) w_spare), (q_now, oX6 (.ref q_now_load) (.ref q_now_sag) (.ref q_now_joy) (.ref q_now_bowl) (.ref q_now_grief) (.ref q_now_place) (.int x_now_arches) (.int x_now_cats) (.int x_now_store) (.int x_now_hour) (.int x_now_drops)), (q_ruling, oX4 (.ref q_ruling_steps) (.ref q_ruling_stack) (.int x_ruling_size) (.int x_ruling_top_16) (.int x_ruling_open) (.int x_ruling_compared) (.int x_ruling_digits) (.int x_ruling_wantsThing)), (q_now_place, aI cT 8 f_now_place), (q_ruling_steps, aI cT 40 f_ruling_steps), (q_ruling_stack, aI cT 40 f_ruling_stack_16), (q_now_sag, aI cT 6 f_now_sag), (q_now_load, aI cT 6 f_now_load), (q_now_joy, aI cT 8 f_now_joy), (q_now_grief, aI cT 8 f_now_grief), (q_now_bowl, aI cT 8 f_now_bowl), (q_told, oX3 (.ref q_told_numbers) (.int u_79.1)), (q_told_numbers, aJ cT 8 u_79.2)]) C0 lk_X7_205 (c_X3_add l D cT F q_told (y2_16.toInt64) q_told_numbers u_74.1 u_74.2 _ hg) hP hD hS hA [11, 12] [0, 1, 2, 3, 4, 5, 6, 7, 8, 9, 10] (by decide +kernel) rfl rfl (fun _ => rfl) rfl rfl ⟨Nat.le_of_ble_eq_true rfl, Nat.le_of_ble_eq_true rfl⟩ rfl hl.1 rfl (Nat.le_of_ble_eq_true rfl) dX7_holds_79 ⟨Nat.le_of_ble_eq_true rfl, Nat.le_of_ble_eq_true rfl⟩ ?_
        intro u_79 H locs hg hP hD hS
        refine lv_pop hx hb dX7_holds_82 rfl ?_
        refine lv_iload_n hx hb dX7_holds_83 rfl (lv_at hl 1 rfl) ?_
        exact k_iret C0 hr (x_ruling_top_16, f_ruling_stack_16, u_79.1, u_79.2) hg hP hD hS dX7_holds_84
      have hg := hg.2 c_24
      refine lv_iload_n hx hb dX7_holds_27 rfl (lv_at hl 2 rfl) ?_
      refine lv_iconst (v := (0 : Int32)) hx hb dX7_holds_28 (by decide) ?_
      refine lv_aload_n hx hb dX7_holds_29 rfl (lv_at hl 0 rfl) ?_
      refine gf_X7_26 C0 hP 0 rfl rfl dX7_holds_30 ?_
      refine gf_X7_140 C0 hP 1 rfl rfl dX7_holds_33 ?_
      refine lv_iload_n hx hb dX7_holds_36 rfl (lv_at hl 3 rfl) ?_
      obtain ⟨g_37, hg⟩ := hg
      refine k_iald C0 hP 7 rfl g_37 dX7_holds_37 ?_
      refine lv_aload_n hx hb dX7_holds_38 rfl (lv_at hl 0 rfl) ?_
      refine gf_X7_26 C0 hP 0 rfl rfl dX7_holds_39 ?_
      refine lv_aload_n hx hb dX7_holds_42 rfl (lv_at hl 0 rfl) ?_
      refine gf_X7_83 C0 hP 0 rfl rfl dX7_holds_43 ?_
      refine lv_iload_n hx hb dX7_holds_46 rfl (lv_at hl 3 rfl) ?_
      refine k_Vi (rest := [.int (f_now_load y3_16.toNatClampNeg), .int (0 : Int32), .int y2_16]) (wr := [(h, oX7 w_text (.ref q_told) (.ref q_now) w_before w_trial w_past w_kept w_feltNotes w_heardNotes w_draws w_purrs w_alone w_nimbers w_ways (.ref q_ruling) w_spare), (q_told, oX3 (.ref q_told_numbers) (.int x_told_size)), (q_told_numbers, aJ cT 8 f_told_numbers)]) (w2 := fun u_47 => [(h, oX7 w_text (.ref q_told) (.ref q_now) w_before w_trial w_past w_kept w_feltNotes w_heardNotes w_draws w_purrs w_alone w_nimbers w_ways (.ref q_ruling) w_spare), (q_told, oX3 (.ref q_told_numbers) (.int x_told_size)), (q_told_numbers, aJ cT 8 f_told_numbers), (q_now, oX6 (.ref q_now_load) (.ref q_now_sag) (.ref q_now_joy) (.ref q_now_bowl) (.ref q_now_grief) (.ref q_now_place) (.int x_now_arches) (.int x_now_cats) (.int x_now_store) (.int x_now_hour) (.int x_now_drops)), (q_now_place, aI cT 8 f_now_place), (q_ruling, oX4 (.ref q_ruling_steps) (.ref q_ruling_stack) (.int x_ruling_size) (.int u_47.1) (.int x_ruling_open) (.int x_ruling_compared) (.int x_ruling_digits) (.int x_ruling_wantsThing)), (q_ruling_steps, aI cT 40 f_ruling_steps), (q_ruling_stack, aI cT 40 u_47.2), (q_now_sag, aI cT 6 f_now_sag), (q_now_load, aI cT 6 f_now_load), (q_now_joy, aI cT 8 f_now_joy), (q_now_grief, aI cT 8 f_now_grief), (q_now_bowl, aI cT 8 f_now_bowl)]) C0 lk_X7_149 (c_X6_holdOf l D cT F q_now q_ruling y3_16 q_now_load q_now_sag q_now_joy q_now_bowl q_now_grief q_now_place x_now_arches x_now_cats x_now_store x_now_hour x_now_drops f_now_place q_ruling_steps q_ruling_stack x_ruling_size x_ruling_top_16 x_ruling_open x_ruling_compared x_ruling_digits x_ruling_wantsThing f_ruling_steps f_ruling_stack_16 f_now_sag f_now_load f_now_joy f_now_grief f_now_bowl _ hg) hP hD hS hA [1, 3, 2, 4, 5, 6, 7, 8, 9, 10] [0, 11, 12] (by decide +kernel) rfl rfl (fun _ => rfl) rfl rfl ⟨Nat.le_of_ble_eq_true rfl, Nat.le_of_ble_eq_true rfl⟩ rfl hl.1 rfl (Nat.le_of_ble_eq_true rfl) dX7_holds_47 ⟨Nat.le_of_ble_eq_true rfl, Nat.le_of_ble_eq_true rfl⟩ ?_
      intro r_47 u_47 H locs hg hP hD hS
      refine lv_isub hx hb dX7_holds_50 ?_
      refine k_max C0 w2_121 hl.1 (Nat.le_of_ble_eq_true rfl) (Nat.le_of_ble_eq_true rfl) (Nat.le_of_ble_eq_true rfl) (Nat.le_of_ble_eq_true rfl) dX7_holds_51 ?_
      refine lv_iadd hx hb dX7_holds_54 ?_
      refine lv_istore_n (lv' := [(2, .int (y2_16 + (if (0 : Int32) < ((f_now_load y3_16.toNatClampNeg) - r_47) then ((f_now_load y3_16.toNatClampNeg) - r_47) else (0 : Int32)))), (0, .ref h), (1, .int r_8), (3, .int y3_16)]) hx hb dX7_holds_55 rfl hl (by decide) rfl (fun ls hl => ?_)
      refine lv_iinc (v := (y3_16 + (1 : Int32))) (lv' := [(3, .int (y3_16 + (1 : Int32))), (2, .int (y2_16 + (if (0 : Int32) < ((f_now_load y3_16.toNatClampNeg) - r_47) then ((f_now_load y3_16.toNatClampNeg) - r_47) else (0 : Int32)))), (0, .ref h), (1, .int r_8)]) hx hb dX7_holds_56 hl (k := 3) rfl rfl (by decide) rfl (fun ls hl => ?_)
      refine lv_goto (tgt := 16) hx hb dX7_holds_59 (by decide) ?_
      exact ih16 (y3_16 + (1 : Int32)) (y2_16 + (if (0 : Int32) < ((f_now_load y3_16.toNatClampNeg) - r_47) then ((f_now_load y3_16.toNatClampNeg) - r_47) else (0 : Int32))) u_47.1 u_47.2 _ _ _ hg (subP hP [0, 3, 5, 4, 6, 7, 8, 9, 10, 11, 12, 1, 2] rfl) (hD.sub [0, 3, 5, 4, 6, 7, 8, 9, 10, 11, 12, 1, 2] (nd2_ok _ (by decide +kernel)) rfl) hS (lv_sub hl [2, 3, 1, 0] rfl)
  unfold p_X7_holds at hg
  refine lv_aload_n hx hb dX7_holds_0 rfl (lv_at hl 0 rfl) ?_
  refine gf_X7_26 C0 hP 0 rfl rfl dX7_holds_1 ?_
  refine lv_aload_n hx hb dX7_holds_4 rfl (lv_at hl 0 rfl) ?_
  refine gf_X7_83 C0 hP 0 rfl rfl dX7_holds_5 ?_
  refine k_Vi (rest := []) (wr := [(h, oX7 w_text (.ref q_told) (.ref q_now) w_before w_trial w_past w_kept w_feltNotes w_heardNotes w_draws w_purrs w_alone w_nimbers w_ways (.ref q_ruling) w_spare), (q_told, oX3 (.ref q_told_numbers) (.int x_told_size)), (q_told_numbers, aJ cT 8 f_told_numbers)]) (w2 := fun u_8 => [(h, oX7 w_text (.ref q_told) (.ref q_now) w_before w_trial w_past w_kept w_feltNotes w_heardNotes w_draws w_purrs w_alone w_nimbers w_ways (.ref q_ruling) w_spare), (q_told, oX3 (.ref q_told_numbers) (.int x_told_size)), (q_told_numbers, aJ cT 8 f_told_numbers), (q_now, oX6 (.ref q_now_load) (.ref q_now_sag) (.ref q_now_joy) (.ref q_now_bowl) (.ref q_now_grief) (.ref q_now_place) (.int x_now_arches) (.int x_now_cats) (.int x_now_store) (.int x_now_hour) (.int x_now_drops)), (q_ruling, oX4 (.ref q_ruling_steps) (.ref q_ruling_stack) (.int x_ruling_size) (.int u_8.1) (.int x_ruling_open) (.int x_ruling_compared) (.int x_ruling_digits) (.int x_ruling_wantsThing)), (q_now_place, aI cT 8 f_now_place), (q_ruling_steps, aI cT 40 f_ruling_steps), (q_ruling_stack, aI cT 40 u_8.2), (q_now_sag, aI cT 6 f_now_sag), (q_now_load, aI cT 6 f_now_load), (q_now_joy, aI cT 8 f_now_joy), (q_now_grief, aI cT 8 f_now_grief), (q_now_bowl, aI cT 8 f_now_bowl)]) C0 lk_X7_249 (c_X6_heldArches l D cT F q_now q_ruling q_now_load q_now_sag q_now_joy q_now_bowl q_now_grief q_now_place x_now_arches x_now_cats x_now_store x_now_hour x_now_drops q_ruling_steps q_ruling_stack x_ruling_size x_ruling_top x_ruling_open x_ruling_compared x_ruling_digits x_ruling_wantsThing f_now_place f_ruling_steps f_ruling_stack f_now_sag f_now_load f_now_joy f_now_grief f_now_bowl _ hg) hP hD hS hA [1, 2, 3, 4, 5, 6, 7, 8, 9, 10] [0, 11, 12] (by decide +kernel) rfl rfl (fun _ => rfl) rfl rfl ⟨Nat.le_of_ble_eq_true rfl, Nat.le_of_ble_eq_true rfl⟩ rfl hl.1 rfl (Nat.le_of_ble_eq_true rfl) dX7_holds_8 ⟨Nat.le_of_ble_eq_true rfl, Nat.le_of_ble_eq_true rfl⟩ ?_
  intro r_8 u_8 H locs hg hP hD hS
  refine lv_istore_n (lv' := [(1, .int r_8), (0, .ref h)]) hx hb dX7_holds_11 rfl hl (by decide) rfl (fun ls hl => ?_)
  refine lv_iconst (v := (0 : Int32)) hx hb dX7_holds_12 (by decide) ?_
  refine lv_istore_n (lv' := [(2, .int (0 : Int32)), (1, .int r_8), (0, .ref h)]) hx hb dX7_holds_13 rfl hl (by decide) rfl (fun ls hl => ?_)
  refine lv_iconst (v := (0 : Int32)) hx hb dX7_holds_14 (by decide) ?_
  refine lv_istore_n (lv' := [(3, .int (0 : Int32)), (2, .int (0 : Int32)), (1, .int r_8), (0, .ref h)]) hx hb dX7_holds_15 rfl hl (by decide) rfl (fun ls hl => ?_)
  exact L16 r_8 F (0 : Int32) (0 : Int32) u_8.1 u_8.2 _ _ _ hg (subP hP [0, 3, 4, 5, 6, 7, 8, 9, 10, 11, 12, 1, 2] rfl) (hD.sub [0, 3, 4, 5, 6, 7, 8, 9, 10, 11, 12, 1, 2] (nd2_ok _ (by decide +kernel)) rfl) hS (lv_sub hl [3, 2, 1, 0] rfl)
theorem dX7_later_0 : decode cX7_later 0 = .ok (.aload_n 0, 1) := by decide +kernel
theorem dX7_later_1 : decode cX7_later 1 = .ok (.getfield 26, 3) := by decide +kernel
theorem dX7_later_4 : decode cX7_later 4 = .ok (.iload_n 1, 1) := by decide +kernel
theorem dX7_later_5 : decode cX7_later 5 = .ok (.invokevirtual 136, 3) := by decide +kernel
theorem dX7_later_8 : decode cX7_later 8 = .ok (.ifCond .eq 13, 3) := by decide +kernel
theorem dX7_later_11 : decode cX7_later 11 = .ok (.iload_n 2, 1) := by decide +kernel
theorem dX7_later_12 : decode cX7_later 12 = .ok (.ifCond .lt 9, 3) := by decide +kernel
theorem dX7_later_15 : decode cX7_later 15 = .ok (.iload_n 2, 1) := by decide +kernel
theorem dX7_later_16 : decode cX7_later 16 = .ok (.bipush 100, 2) := by decide +kernel
theorem dX7_later_18 : decode cX7_later 18 = .ok (.if_icmp .lt 5, 3) := by decide +kernel
theorem dX7_later_21 : decode cX7_later 21 = .ok (.iconst (-1), 1) := by decide +kernel
theorem dX7_later_22 : decode cX7_later 22 = .ok (.ireturn, 1) := by decide +kernel
theorem dX7_later_23 : decode cX7_later 23 = .ok (.aload_n 0, 1) := by decide +kernel
theorem dX7_later_24 : decode cX7_later 24 = .ok (.getfield 33, 3) := by decide +kernel
theorem dX7_later_27 : decode cX7_later 27 = .ok (.aload_n 0, 1) := by decide +kernel
theorem dX7_later_28 : decode cX7_later 28 = .ok (.getfield 26, 3) := by decide +kernel
theorem dX7_later_31 : decode cX7_later 31 = .ok (.invokevirtual 191, 3) := by decide +kernel
theorem dX7_later_34 : decode cX7_later 34 = .ok (.aload_n 0, 1) := by decide +kernel
theorem dX7_later_35 : decode cX7_later 35 = .ok (.getfield 33, 3) := by decide +kernel
theorem dX7_later_38 : decode cX7_later 38 = .ok (.aload_n 0, 1) := by decide +kernel
theorem dX7_later_39 : decode cX7_later 39 = .ok (.getfield 83, 3) := by decide +kernel
theorem dX7_later_42 : decode cX7_later 42 = .ok (.iload_n 2, 1) := by decide +kernel
theorem dX7_later_43 : decode cX7_later 43 = .ok (.invokevirtual 195, 3) := by decide +kernel
theorem dX7_later_46 : decode cX7_later 46 = .ok (.pop, 1) := by decide +kernel
theorem dX7_later_47 : decode cX7_later 47 = .ok (.aload_n 0, 1) := by decide +kernel
theorem dX7_later_48 : decode cX7_later 48 = .ok (.getfield 19, 3) := by decide +kernel
theorem dX7_later_51 : decode cX7_later 51 = .ok (.invokevirtual 201, 3) := by decide +kernel
theorem dX7_later_54 : decode cX7_later 54 = .ok (.aload_n 0, 1) := by decide +kernel
theorem dX7_later_55 : decode cX7_later 55 = .ok (.getfield 33, 3) := by decide +kernel
theorem dX7_later_58 : decode cX7_later 58 = .ok (.aload_n 0, 1) := by decide +kernel
theorem dX7_later_59 : decode cX7_later 59 = .ok (.getfield 83, 3) := by decide +kernel
theorem dX7_later_62 : decode cX7_later 62 = .ok (.iload_n 1, 1) := by decide +kernel
theorem dX7_later_63 : decode cX7_later 63 = .ok (.invokevirtual 149, 3) := by decide +kernel
theorem dX7_later_66 : decode cX7_later 66 = .ok (.i2l, 1) := by decide +kernel
theorem dX7_later_67 : decode cX7_later 67 = .ok (.invokevirtual 205, 3) := by decide +kernel
theorem dX7_later_70 : decode cX7_later 70 = .ok (.aload_n 0, 1) := by decide +kernel
theorem dX7_later_71 : decode cX7_later 71 = .ok (.getfield 33, 3) := by decide +kernel
theorem dX7_later_74 : decode cX7_later 74 = .ok (.invokevirtual 211, 3) := by decide +kernel
theorem dX7_later_77 : decode cX7_later 77 = .ok (.i2l, 1) := by decide +kernel
theorem dX7_later_78 : decode cX7_later 78 = .ok (.invokevirtual 205, 3) := by decide +kernel
theorem dX7_later_81 : decode cX7_later 81 = .ok (.pop, 1) := by decide +kernel
theorem dX7_later_82 : decode cX7_later 82 = .ok (.aload_n 0, 1) := by decide +kernel
theorem dX7_later_83 : decode cX7_later 83 = .ok (.getfield 33, 3) := by decide +kernel
theorem dX7_later_86 : decode cX7_later 86 = .ok (.getfield 143, 3) := by decide +kernel
theorem dX7_later_89 : decode cX7_later 89 = .ok (.iload_n 1, 1) := by decide +kernel
theorem dX7_later_90 : decode cX7_later 90 = .ok (.iaload, 1) := by decide +kernel
theorem dX7_later_91 : decode cX7_later 91 = .ok (.ireturn, 1) := by decide +kernel
def p_X7_later (F : Nat) (p1 : Int32) (p2 : Int32) (x_now_arches : Int32) (x_now_cats : Int32) (x_now_store : Int32) (x_now_hour : Int32) (x_now_drops : Int32) (x_trial_arches : Int32) (x_trial_cats : Int32) (x_trial_store : Int32) (x_trial_hour : Int32) (x_trial_drops : Int32) (f_now_load : Nat → Int32) (f_trial_load : Nat → Int32) (f_now_sag : Nat → Int32) (f_trial_sag : Nat → Int32) (f_now_joy : Nat → Int32) (f_trial_joy : Nat → Int32) (f_now_bowl : Nat → Int32) (f_trial_bowl : Nat → Int32) (f_now_grief : Nat → Int32) (f_trial_grief : Nat → Int32) (f_now_place : Nat → Int32) (f_trial_place : Nat → Int32) (x_ruling_size : Int32) (x_ruling_top : Int32) (f_ruling_steps : Nat → Int32) (f_ruling_stack : Nat → Int32) (x_told_size : Int32) (f_told_numbers : Nat → Int64) (Post : Int32 → (Int32 × Int32 × Int32 × Int32 × Int32 × (Nat → Int32) × (Nat → Int32) × (Nat → Int32) × (Nat → Int32) × (Nat → Int32) × (Nat → Int32) × Int32 × (Nat → Int32) × Int32 × (Nat → Int64)) → Prop) : Prop := (p_X6_hasArch F p1 x_now_arches (fun (r_5 : Int32) => ((r_5 = 0 → (Post (-1 : Int32) (x_trial_arches, x_trial_cats, x_trial_store, x_trial_hour, x_trial_drops, f_trial_load, f_trial_sag, f_trial_joy, f_trial_bowl, f_trial_grief, f_trial_place, x_ruling_top, f_ruling_stack, x_told_size, f_told_numbers))) ∧ (¬ r_5 = 0 → ((p2 < 0 → (Post (-1 : Int32) (x_trial_arches, x_trial_cats, x_trial_store, x_trial_hour, x_trial_drops, f_trial_load, f_trial_sag, f_trial_joy, f_trial_bowl, f_trial_grief, f_trial_place, x_ruling_top, f_ruling_stack, x_told_size, f_told_numbers))) ∧ (¬ p2 < 0 → ((p2 < (100 : Int32) → (p_X6_become F x_now_arches x_now_cats x_now_store x_now_hour x_now_drops f_now_load f_trial_load f_now_sag f_trial_sag f_now_joy f_trial_joy f_now_bowl f_trial_bowl f_now_grief f_trial_grief f_now_place f_trial_place (fun (u_31 : (Int32 × Int32 × Int32 × Int32 × Int32 × (Nat → Int32) × (Nat → Int32) × (Nat → Int32) × (Nat → Int32) × (Nat → Int32) × (Nat → Int32))) => (p_X6_passHours F p2 u_31.1 u_31.2.1 u_31.2.2.2.1 u_31.2.2.2.2.1 x_ruling_size x_ruling_top u_31.2.2.2.2.2.1 u_31.2.2.2.2.2.2.2.2.2.2 f_ruling_steps f_ruling_stack u_31.2.2.2.2.2.2.1 u_31.2.2.2.2.2.2.2.1 u_31.2.2.2.2.2.2.2.2.2.1 u_31.2.2.2.2.2.2.2.2.1 (fun (r_43 : Int32) (u_43 : (Int32 × Int32 × Int32 × (Nat → Int32) × (Nat → Int32) × (Nat → Int32) × (Nat → Int32) × (Nat → Int32))) => (p_X3_anew F (fun (u_51 : Int32) => (p_X6_holdOf F p1 u_31.1 u_31.2.1 u_43.1 u_31.2.2.2.2.2.2.2.2.2.2 x_ruling_size u_43.2.2.1 f_ruling_steps u_43.2.2.2.1 u_43.2.2.2.2.1 u_31.2.2.2.2.2.1 u_43.2.2.2.2.2.1 u_43.2.2.2.2.2.2.1 u_43.2.2.2.2.2.2.2 (fun (r_63 : Int32) (u_63 : (Int32 × (Nat → Int32))) => (p_X3_add F (r_63.toInt64) u_51 f_told_numbers (fun (u_67 : (Int32 × (Nat → Int64))) => (p_X6_allSags F u_31.1 u_43.2.2.2.2.1 (fun (r_74 : Int32) => (p_X3_add F (r_74.toInt64) u_67.1 u_67.2 (fun (u_78 : (Int32 × (Nat → Int64))) => (vp_in p1 6 ∧ (Post (u_43.2.2.2.2.1 p1.toNatClampNeg) (u_31.1, u_31.2.1, u_31.2.2.1, u_43.1, u_43.2.1, u_31.2.2.2.2.2.1, u_43.2.2.2.2.1, u_43.2.2.2.2.2.1, u_43.2.2.2.2.2.2.2, u_43.2.2.2.2.2.2.1, u_31.2.2.2.2.2.2.2.2.2.2, u_63.1, u_63.2, u_78.1, u_78.2)))))))))))))))))) ∧ (¬ p2 < (100 : Int32) → (Post (-1 : Int32) (x_trial_arches, x_trial_cats, x_trial_store, x_trial_hour, x_trial_drops, f_trial_load, f_trial_sag, f_trial_joy, f_trial_bowl, f_trial_grief, f_trial_place, x_ruling_top, f_ruling_stack, x_told_size, f_told_numbers))))))))))
set_option maxHeartbeats 4000000 in
set_option maxRecDepth 100000 in
theorem c_X7_later (l : Launch) (D : va_G) (cT : Nat → ClassId) (F : Nat) (h : Nat) (p1 : Int32) (p2 : Int32) (w_text : Value) (q_told : Nat) (q_now : Nat) (w_before : Value) (q_trial : Nat) (w_past : Value) (w_kept : Value) (w_feltNotes : Value) (w_heardNotes : Value) (w_draws : Value) (w_purrs : Value) (w_alone : Value) (w_nimbers : Value) (w_ways : Value) (q_ruling : Nat) (w_spare : Value) (q_now_load : Nat) (q_now_sag : Nat) (q_now_joy : Nat) (q_now_bowl : Nat) (q_now_grief : Nat) (q_now_place : Nat) (x_now_arches : Int32) (x_now_cats : Int32) (x_now_store : Int32) (x_now_hour : Int32) (x_now_drops : Int32) (q_trial_load : Nat) (q_trial_sag : Nat) (q_trial_joy : Nat) (q_trial_bowl : Nat) (q_trial_grief : Nat) (q_trial_place : Nat) (x_trial_arches : Int32) (x_trial_cats : Int32) (x_trial_store : Int32) (x_trial_hour : Int32) (x_trial_drops : Int32) (f_now_load : Nat → Int32) (f_trial_load : Nat → Int32) (f_now_sag : Nat → Int32) (f_trial_sag : Nat → Int32) (f_now_joy : Nat → Int32) (f_trial_joy : Nat → Int32) (f_now_bowl : Nat → Int32) (f_trial_bowl : Nat → Int32) (f_now_grief : Nat → Int32) (f_trial_grief : Nat → Int32) (f_now_place : Nat → Int32) (f_trial_place : Nat → Int32) (q_ruling_steps : Nat) (q_ruling_stack : Nat) (x_ruling_size : Int32) (x_ruling_top : Int32) (x_ruling_open : Int32) (x_ruling_compared : Int32) (x_ruling_digits : Int32) (x_ruling_wantsThing : Int32) (f_ruling_steps : Nat → Int32) (f_ruling_stack : Nat → Int32) (q_told_numbers : Nat) (x_told_size : Int32) (f_told_numbers : Nat → Int64) (Post : Int32 → (Int32 × Int32 × Int32 × Int32 × Int32 × (Nat → Int32) × (Nat → Int32) × (Nat → Int32) × (Nat → Int32) × (Nat → Int32) × (Nat → Int32) × Int32 × (Nat → Int32) × Int32 × (Nat → Int64)) → Prop) (hg : p_X7_later F p1 p2 x_now_arches x_now_cats x_now_store x_now_hour x_now_drops x_trial_arches x_trial_cats x_trial_store x_trial_hour x_trial_drops f_now_load f_trial_load f_now_sag f_trial_sag f_now_joy f_trial_joy f_now_bowl f_trial_bowl f_now_grief f_trial_grief f_now_place f_trial_place x_ruling_size x_ruling_top f_ruling_steps f_ruling_stack x_told_size f_told_numbers Post) : MWi l D cT yX7_later cX7_later 3 (some .int) 6 151 0 0 [.ref h, .int p1, .int p2] [(h, oX7 w_text (.ref q_told) (.ref q_now) w_before (.ref q_trial) w_past w_kept w_feltNotes w_heardNotes w_draws w_purrs w_alone w_nimbers w_ways (.ref q_ruling) w_spare), (q_now, oX6 (.ref q_now_load) (.ref q_now_sag) (.ref q_now_joy) (.ref q_now_bowl) (.ref q_now_grief) (.ref q_now_place) (.int x_now_arches) (.int x_now_cats) (.int x_now_store) (.int x_now_hour) (.int x_now_drops)), (q_trial, oX6 (.ref q_trial_load) (.ref q_trial_sag) (.ref q_trial_joy) (.ref q_trial_bowl) (.ref q_trial_grief) (.ref q_trial_place) (.int x_trial_arches) (.int x_trial_cats) (.int x_trial_store) (.int x_trial_hour) (.int x_trial_drops)), (q_now_load, aI cT 6 f_now_load), (q_trial_load, aI cT 6 f_trial_load), (q_now_sag, aI cT 6 f_now_sag), (q_trial_sag, aI cT 6 f_trial_sag), (q_now_joy, aI cT 8 f_now_joy), (q_trial_joy, aI cT 8 f_trial_joy), (q_now_bowl, aI cT 8 f_now_bowl), (q_trial_bowl, aI cT 8 f_trial_bowl), (q_now_grief, aI cT 8 f_now_grief), (q_trial_grief, aI cT 8 f_trial_grief), (q_now_place, aI cT 8 f_now_place), (q_trial_place, aI cT 8 f_trial_place), (q_ruling, oX4 (.ref q_ruling_steps) (.ref q_ruling_stack) (.int x_ruling_size) (.int x_ruling_top) (.int x_ruling_open) (.int x_ruling_compared) (.int x_ruling_digits) (.int x_ruling_wantsThing)), (q_ruling_steps, aI cT 40 f_ruling_steps), (q_ruling_stack, aI cT 40 f_ruling_stack), (q_told, oX3 (.ref q_told_numbers) (.int x_told_size)), (q_told_numbers, aJ cT 8 f_told_numbers)] Post (fun (u : (Int32 × Int32 × Int32 × Int32 × Int32 × (Nat → Int32) × (Nat → Int32) × (Nat → Int32) × (Nat → Int32) × (Nat → Int32) × (Nat → Int32) × Int32 × (Nat → Int32) × Int32 × (Nat → Int64))) => [(h, oX7 w_text (.ref q_told) (.ref q_now) w_before (.ref q_trial) w_past w_kept w_feltNotes w_heardNotes w_draws w_purrs w_alone w_nimbers w_ways (.ref q_ruling) w_spare), (q_now, oX6 (.ref q_now_load) (.ref q_now_sag) (.ref q_now_joy) (.ref q_now_bowl) (.ref q_now_grief) (.ref q_now_place) (.int x_now_arches) (.int x_now_cats) (.int x_now_store) (.int x_now_hour) (.int x_now_drops)), (q_trial, oX6 (.ref q_trial_load) (.ref q_trial_sag) (.ref q_trial_joy) (.ref q_trial_bowl) (.ref q_trial_grief) (.ref q_trial_place) (.int u.1) (.int u.2.1) (.int u.2.2.1) (.int u.2.2.2.1) (.int u.2.2.2.2.1)), (q_now_load, aI cT 6 f_now_load), (q_trial_load, aI cT 6 u.2.2.2.2.2.1), (q_now_sag, aI cT 6 f_now_sag), (q_trial_sag, aI cT 6 u.2.2.2.2.2.2.1), (q_now_joy, aI cT 8 f_now_joy), (q_trial_joy, aI cT 8 u.2.2.2.2.2.2.2.1), (q_now_bowl, aI cT 8 f_now_bowl), (q_trial_bowl, aI cT 8 u.2.2.2.2.2.2.2.2.1), (q_now_grief, aI cT 8 f_now_grief), (q_trial_grief, aI cT 8 u.2.2.2.2.2.2.2.2.2.1), (q_now_place, aI cT 8 f_now_place), (q_trial_place, aI cT 8 u.2.2.2.2.2.2.2.2.2.2.1), (q_ruling, oX4 (.ref q_ruling_steps) (.ref q_ruling_stack) (.int x_ruling_size) (.int u.2.2.2.2.2.2.2.2.2.2.2.1) (.int x_ruling_open) (.int x_ruling_compared) (.int x_ruling_digits) (.int x_ruling_wantsThing)), (q_ruling_steps, aI cT 40 f_ruling_steps), (q_ruling_stack, aI cT 40 u.2.2.2.2.2.2.2.2.2.2.2.2.1), (q_told, oX3 (.ref q_told_numbers) (.int u.2.2.2.2.2.2.2.2.2.2.2.2.2.1)), (q_told_numbers, aJ cT 8 u.2.2.2.2.2.2.2.2.2.2.2.2.2.2)]) := by
  refine MWi.of (by decide) (Nat.le_of_ble_eq_true rfl) ?_
  intro p e s m below meth c A hA C0 hnm hr hP hD ls hl
  have hl : lv_has ls 3 [(0, .ref h), (1, .int p1), (2, .int p2)] := hl
  have hx := C0.x
  have hb := C0.b
  have hS : va_S A s.heap s.heap [] := va_S.rf
  have hP : va_P D cls9 [(h, oX7 w_text (.ref q_told) (.ref q_now) w_before (.ref q_trial) w_past w_kept w_feltNotes w_heardNotes w_draws w_purrs w_alone w_nimbers w_ways (.ref q_ruling) w_spare), (q_now, oX6 (.ref q_now_load) (.ref q_now_sag) (.ref q_now_joy) (.ref q_now_bowl) (.ref q_now_grief) (.ref q_now_place) (.int x_now_arches) (.int x_now_cats) (.int x_now_store) (.int x_now_hour) (.int x_now_drops)), (q_trial, oX6 (.ref q_trial_load) (.ref q_trial_sag) (.ref q_trial_joy) (.ref q_trial_bowl) (.ref q_trial_grief) (.ref q_trial_place) (.int x_trial_arches) (.int x_trial_cats) (.int x_trial_store) (.int x_trial_hour) (.int x_trial_drops)), (q_now_load, aI cT 6 f_now_load), (q_trial_load, aI cT 6 f_trial_load), (q_now_sag, aI cT 6 f_now_sag), (q_trial_sag, aI cT 6 f_trial_sag), (q_now_joy, aI cT 8 f_now_joy), (q_trial_joy, aI cT 8 f_trial_joy), (q_now_bowl, aI cT 8 f_now_bowl), (q_trial_bowl, aI cT 8 f_trial_bowl), (q_now_grief, aI cT 8 f_now_grief), (q_trial_grief, aI cT 8 f_trial_grief), (q_now_place, aI cT 8 f_now_place), (q_trial_place, aI cT 8 f_trial_place), (q_ruling, oX4 (.ref q_ruling_steps) (.ref q_ruling_stack) (.int x_ruling_size) (.int x_ruling_top) (.int x_ruling_open) (.int x_ruling_compared) (.int x_ruling_digits) (.int x_ruling_wantsThing)), (q_ruling_steps, aI cT 40 f_ruling_steps), (q_ruling_stack, aI cT 40 f_ruling_stack), (q_told, oX3 (.ref q_told_numbers) (.int x_told_size)), (q_told_numbers, aJ cT 8 f_told_numbers)] s.heap := hP
  have hD : va_D A [(h, oX7 w_text (.ref q_told) (.ref q_now) w_before (.ref q_trial) w_past w_kept w_feltNotes w_heardNotes w_draws w_purrs w_alone w_nimbers w_ways (.ref q_ruling) w_spare), (q_now, oX6 (.ref q_now_load) (.ref q_now_sag) (.ref q_now_joy) (.ref q_now_bowl) (.ref q_now_grief) (.ref q_now_place) (.int x_now_arches) (.int x_now_cats) (.int x_now_store) (.int x_now_hour) (.int x_now_drops)), (q_trial, oX6 (.ref q_trial_load) (.ref q_trial_sag) (.ref q_trial_joy) (.ref q_trial_bowl) (.ref q_trial_grief) (.ref q_trial_place) (.int x_trial_arches) (.int x_trial_cats) (.int x_trial_store) (.int x_trial_hour) (.int x_trial_drops)), (q_now_load, aI cT 6 f_now_load), (q_trial_load, aI cT 6 f_trial_load), (q_now_sag, aI cT 6 f_now_sag), (q_trial_sag, aI cT 6 f_trial_sag), (q_now_joy, aI cT 8 f_now_joy), (q_trial_joy, aI cT 8 f_trial_joy), (q_now_bowl, aI cT 8 f_now_bowl), (q_trial_bowl, aI cT 8 f_trial_bowl), (q_now_grief, aI cT 8 f_now_grief), (q_trial_grief, aI cT 8 f_trial_grief), (q_now_place, aI cT 8 f_now_place), (q_trial_place, aI cT 8 f_trial_place), (q_ruling, oX4 (.ref q_ruling_steps) (.ref q_ruling_stack) (.int x_ruling_size) (.int x_ruling_top) (.int x_ruling_open) (.int x_ruling_compared) (.int x_ruling_digits) (.int x_ruling_wantsThing)), (q_ruling_steps, aI cT 40 f_ruling_steps), (q_ruling_stack, aI cT 40 f_ruling_stack), (q_told, oX3 (.ref q_told_numbers) (.int x_told_size)), (q_told_numbers, aJ cT 8 f_told_numbers)] := hD
  unfold p_X7_later at hg
  refine lv_aload_n hx hb dX7_later_0 rfl (lv_at hl 0 rfl) ?_
  refine gf_X7_26 C0 hP 0 rfl rfl dX7_later_1 ?_
  refine lv_iload_n hx hb dX7_later_4 rfl (lv_at hl 1 rfl) ?_
  refine k_Vxi (rest := []) C0 lk_X7_136 (c_X6_hasArch l D cT F q_now p1 (.ref q_now_load) (.ref q_now_sag) (.ref q_now_joy) (.ref q_now_bowl) (.ref q_now_grief) (.ref q_now_place) x_now_arches x_now_cats x_now_store x_now_hour x_now_drops _ hg) hP hD hS hA [1] (by decide +kernel) rfl rfl rfl ⟨Nat.le_of_ble_eq_true rfl, Nat.le_of_ble_eq_true rfl⟩ rfl hl.1 rfl (Nat.le_of_ble_eq_true rfl) dX7_later_5 ⟨Nat.le_of_ble_eq_true rfl, Nat.le_of_ble_eq_true rfl⟩ (fun r_5 hg => ?_)
  refine lv_if_eq (tgt := 21) hx hb dX7_later_8 (by decide) (fun c_8 => ?_) (fun c_8 => ?_)
  · have hg := hg.1 c_8
    refine lv_iconst (v := (-1 : Int32)) hx hb dX7_later_21 (by decide) ?_
    exact k_iret C0 hr (x_trial_arches, x_trial_cats, x_trial_store, x_trial_hour, x_trial_drops, f_trial_load, f_trial_sag, f_trial_joy, f_trial_bowl, f_trial_grief, f_trial_place, x_ruling_top, f_ruling_stack, x_told_size, f_told_numbers) hg hP hD hS dX7_later_22
  have hg := hg.2 c_8
  refine lv_iload_n hx hb dX7_later_11 rfl (lv_at hl 2 rfl) ?_
  refine lv_if_lt (tgt := 21) hx hb dX7_later_12 (by decide) (fun c_12 => ?_) (fun c_12 => ?_)
  · have hg := hg.1 c_12
    refine lv_iconst (v := (-1 : Int32)) hx hb dX7_later_21 (by decide) ?_
    exact k_iret C0 hr (x_trial_arches, x_trial_cats, x_trial_store, x_trial_hour, x_trial_drops, f_trial_load, f_trial_sag, f_trial_joy, f_trial_bowl, f_trial_grief, f_trial_place, x_ruling_top, f_ruling_stack, x_told_size, f_told_numbers) hg hP hD hS dX7_later_22
  have hg := hg.2 c_12
  refine lv_iload_n hx hb dX7_later_15 rfl (lv_at hl 2 rfl) ?_
  refine lv_bipush (v := (100 : Int32)) hx hb dX7_later_16 (by decide) ?_
  refine lv_icmp_lt (tgt := 23) hx hb dX7_later_18 (by decide) (fun c_18 => ?_) (fun c_18 => ?_)
  · have hg := hg.1 c_18
    refine lv_aload_n hx hb dX7_later_23 rfl (lv_at hl 0 rfl) ?_
    refine gf_X7_33 C0 hP 0 rfl rfl dX7_later_24 ?_
    refine lv_aload_n hx hb dX7_later_27 rfl (lv_at hl 0 rfl) ?_
    refine gf_X7_26 C0 hP 0 rfl rfl dX7_later_28 ?_
    refine k_Vv (rest := []) (wr := [(h, oX7 w_text (.ref q_told) (.ref q_now) w_before (.ref q_trial) w_past w_kept w_feltNotes w_heardNotes w_draws w_purrs w_alone w_nimbers w_ways (.ref q_ruling) w_spare), (q_ruling, oX4 (.ref q_ruling_steps) (.ref q_ruling_stack) (.int x_ruling_size) (.int x_ruling_top) (.int x_ruling_open) (.int x_ruling_compared) (.int x_ruling_digits) (.int x_ruling_wantsThing)), (q_ruling_steps, aI cT 40 f_ruling_steps), (q_ruling_stack, aI cT 40 f_ruling_stack), (q_told, oX3 (.ref q_told_numbers) (.int x_told_size)), (q_told_numbers, aJ cT 8 f_told_numbers)]) (w2 := fun u_31 => [(h, oX7 w_text (.ref q_told) (.ref q_now) w_before (.ref q_trial) w_past w_kept w_feltNotes w_heardNotes w_draws w_purrs w_alone w_nimbers w_ways (.ref q_ruling) w_spare), (q_ruling, oX4 (.ref q_ruling_steps) (.ref q_ruling_stack) (.int x_ruling_size) (.int x_ruling_top) (.int x_ruling_open) (.int x_ruling_compared) (.int x_ruling_digits) (.int x_ruling_wantsThing)), (q_ruling_steps, aI cT 40 f_ruling_steps), (q_ruling_stack, aI cT 40 f_ruling_stack), (q_told, oX3 (.ref q_told_numbers) (.int x_told_size)), (q_told_numbers, aJ cT 8 f_told_numbers), (q_trial, oX6 (.ref q_trial_load) (.ref q_trial_sag) (.ref q_trial_joy) (.ref q_trial_bowl) (.ref q_trial_grief) (.ref q_trial_place) (.int u_31.1) (.int u_31.2.1) (.int u_31.2.2.1) (.int u_31.2.2.2.1) (.int u_31.2.2.2.2.1)), (q_now, oX6 (.ref q_now_load) (.ref q_now_sag) (.ref q_now_joy) (.ref q_now_bowl) (.ref q_now_grief) (.ref q_now_place) (.int x_now_arches) (.int x_now_cats) (.int x_now_store) (.int x_now_hour) (.int x_now_drops)), (q_now_load, aI cT 6 f_now_load), (q_trial_load, aI cT 6 u_31.2.2.2.2.2.1), (q_now_sag, aI cT 6 f_now_sag), (q_trial_sag, aI cT 6 u_31.2.2.2.2.2.2.1), (q_now_joy, aI cT 8 f_now_joy), (q_trial_joy, aI cT 8 u_31.2.2.2.2.2.2.2.1), (q_now_bowl, aI cT 8 f_now_bowl), (q_trial_bowl, aI cT 8 u_31.2.2.2.2.2.2.2.2.1), (q_now_grief, aI cT 8 f_now_grief), (q_trial_grief, aI cT 8 u_31.2.2.2.2.2.2.2.2.2.1), (q_now_place, aI cT 8 f_now_place), (q_trial_place, aI cT 8 u_31.2.2.2.2.2.2.2.2.2.2)]) C0 lk_X7_191 (c_X6_become l D cT F q_trial q_now q_trial_load q_trial_sag q_trial_joy q_trial_bowl q_trial_grief q_trial_place x_trial_arches x_trial_cats x_trial_store x_trial_hour x_trial_drops q_now_load q_now_sag q_now_joy q_now_bowl q_now_grief q_now_place x_now_arches x_now_cats x_now_store x_now_hour x_now_drops f_now_load f_trial_load f_now_sag f_trial_sag f_now_joy f_trial_joy f_now_bowl f_trial_bowl f_now_grief f_trial_grief f_now_place f_trial_place _ hg) hP hD hS hA [2, 1, 3, 4, 5, 6, 7, 8, 9, 10, 11, 12, 13, 14] [0, 15, 16, 17, 18, 19] (by decide +kernel) rfl rfl (fun _ => rfl) rfl rfl ⟨Nat.le_of_ble_eq_true rfl, Nat.le_of_ble_eq_true rfl⟩ rfl hl.1 rfl (Nat.le_of_ble_eq_true rfl) dX7_later_31 ⟨Nat.le_of_ble_eq_true rfl, Nat.le_of_ble_eq_true rfl⟩ ?_
    intro u_31 H locs hg hP hD hS
    refine lv_aload_n hx hb dX7_later_34 rfl (lv_at hl 0 rfl) ?_
    refine gf_X7_33 C0 hP 0 rfl rfl dX7_later_35 ?_
    refine lv_aload_n hx hb dX7_later_38 rfl (lv_at hl 0 rfl) ?_
    refine gf_X7_83 C0 hP 0 rfl rfl dX7_later_39 ?_
    refine lv_iload_n hx hb dX7_later_42 rfl (lv_at hl 2 rfl) ?_
    refine k_Vi (rest := []) (wr := [(h, oX7 w_text (.ref q_told) (.ref q_now) w_before (.ref q_trial) w_past w_kept w_feltNotes w_heardNotes w_draws w_purrs w_alone w_nimbers w_ways (.ref q_ruling) w_spare), (q_told, oX3 (.ref q_told_numbers) (.int x_told_size)), (q_told_numbers, aJ cT 8 f_told_numbers), (q_now, oX6 (.ref q_now_load) (.ref q_now_sag) (.ref q_now_joy) (.ref q_now_bowl) (.ref q_now_grief) (.ref q_now_place) (.int x_now_arches) (.int x_now_cats) (.int x_now_store) (.int x_now_hour) (.int x_now_drops)), (q_now_load, aI cT 6 f_now_load), (q_now_sag, aI cT 6 f_now_sag), (q_now_joy, aI cT 8 f_now_joy), (q_now_bowl, aI cT 8 f_now_bowl), (q_now_grief, aI cT 8 f_now_grief), (q_now_place, aI cT 8 f_now_place)]) (w2 := fun u_43 => [(h, oX7 w_text (.ref q_told) (.ref q_now) w_before (.ref q_trial) w_past w_kept w_feltNotes w_heardNotes w_draws w_purrs w_alone w_nimbers w_ways (.ref q_ruling) w_spare), (q_told, oX3 (.ref q_told_numbers) (.int x_told_size)), (q_told_numbers, aJ cT 8 f_told_numbers), (q_now, oX6 (.ref q_now_load) (.ref q_now_sag) (.ref q_now_joy) (.ref q_now_bowl) (.ref q_now_grief) (.ref q_now_place) (.int x_now_arches) (.int x_now_cats) (.int x_now_store) (.int x_now_hour) (.int x_now_drops)), (q_now_load, aI cT 6 f_now_load), (q_now_sag, aI cT 6 f_now_sag), (q_now_joy, aI cT 8 f_now_joy), (q_now_bowl, aI cT 8 f_now_bowl), (q_now_grief, aI cT 8 f_now_grief), (q_now_place, aI cT 8 f_now_place), (q_trial, oX6 (.ref q_trial_load) (.ref q_trial_sag) (.ref q_trial_joy) (.ref q_trial_bowl) (.ref q_trial_grief) (.ref q_trial_place) (.int u_31.1) (.int u_31.2.1) (.int u_31.2.2.1) (.int u_43.1) (.int u_43.2.1)), (q_ruling, oX4 (.ref q_ruling_steps) (.ref q_ruling_stack) (.int x_ruling_size) (.int u_43.2.2.1) (.int x_ruling_open) (.int x_ruling_compared) (.int x_ruling_digits) (.int x_ruling_wantsThing)), (q_trial_load, aI cT 6 u_31.2.2.2.2.2.1), (q_trial_place, aI cT 8 u_31.2.2.2.2.2.2.2.2.2.2), (q_ruling_steps, aI cT 40 f_ruling_steps), (q_ruling_stack, aI cT 40 u_43.2.2.2.1), (q_trial_sag, aI cT 6 u_43.2.2.2.2.1), (q_trial_joy, aI cT 8 u_43.2.2.2.2.2.1), (q_trial_grief, aI cT 8 u_43.2.2.2.2.2.2.1), (q_trial_bowl, aI cT 8 u_43.2.2.2.2.2.2.2)]) C0 lk_X7_195 (c_X6_passHours l D cT F q_trial q_ruling p2 q_trial_load q_trial_sag q_trial_joy q_trial_bowl q_trial_grief q_trial_place u_31.1 u_31.2.1 u_31.2.2.1 u_31.2.2.2.1 u_31.2.2.2.2.1 q_ruling_steps q_ruling_stack x_ruling_size x_ruling_top x_ruling_open x_ruling_compared x_ruling_digits x_ruling_wantsThing u_31.2.2.2.2.2.1 u_31.2.2.2.2.2.2.2.2.2.2 f_ruling_steps f_ruling_stack u_31.2.2.2.2.2.2.1 u_31.2.2.2.2.2.2.2.1 u_31.2.2.2.2.2.2.2.2.2.1 u_31.2.2.2.2.2.2.2.2.1 _ hg) hP hD hS hA [6, 1, 9, 19, 2, 3, 11, 13, 17, 15] [0, 4, 5, 7, 8, 10, 12, 14, 16, 18] (by decide +kernel) rfl rfl (fun _ => rfl) rfl rfl ⟨Nat.le_of_ble_eq_true rfl, Nat.le_of_ble_eq_true rfl⟩ rfl hl.1 rfl (Nat.le_of_ble_eq_true rfl) dX7_later_43 ⟨Nat.le_of_ble_eq_true rfl, Nat.le_of_ble_eq_true rfl⟩ ?_
    intro r_43 u_43 H locs hg hP hD hS
    refine lv_pop hx hb dX7_later_46 rfl ?_
    refine lv_aload_n hx hb dX7_later_47 rfl (lv_at hl 0 rfl) ?_
    refine gf_X7_19 C0 hP 0 rfl rfl dX7_later_48 ?_
    refine k_Vr (rest := []) (wr := [(h, oX7 w_text (.ref q_told) (.ref q_now) w_before (.ref q_trial) w_past w_kept w_feltNotes w_heardNotes w_draws w_purrs w_alone w_nimbers w_ways (.ref q_ruling) w_spare), (q_told_numbers, aJ cT 8 f_told_numbers), (q_now, oX6 (.ref q_now_load) (.ref q_now_sag) (.ref q_now_joy) (.ref q_now_bowl) (.ref q_now_grief) (.ref q_now_place) (.int x_now_arches) (.int x_now_cats) (.int x_now_store) (.int x_now_hour) (.int x_now_drops)), (q_now_load, aI cT 6 f_now_load), (q_now_sag, aI cT 6 f_now_sag), (q_now_joy, aI cT 8 f_now_joy), (q_now_bowl, aI cT 8 f_now_bowl), (q_now_grief, aI cT 8 f_now_grief), (q_now_place, aI cT 8 f_now_place), (q_trial, oX6 (.ref q_trial_load) (.ref q_trial_sag) (.ref q_trial_joy) (.ref q_trial_bowl) (.ref q_trial_grief) (.ref q_trial_place) (.int u_31.1) (.int u_31.2.1) (.int u_31.2.2.1) (.int u_43.1) (.int u_43.2.1)), (q_ruling, oX4 (.ref q_ruling_steps) (.ref q_ruling_stack) (.int x_ruling_size) (.int u_43.2.2.1) (.int x_ruling_open) (.int x_ruling_compared) (.int x_ruling_digits) (.int x_ruling_wantsThing)), (q_trial_load, aI cT 6 u_31.2.2.2.2.2.1), (q_trial_place, aI cT 8 u_31.2.2.2.2.2.2.2.2.2.2), (q_ruling_steps, aI cT 40 f_ruling_steps), (q_ruling_stack, aI cT 40 u_43.2.2.2.1), (q_trial_sag, aI cT 6 u_43.2.2.2.2.1), (q_trial_joy, aI cT 8 u_43.2.2.2.2.2.1), (q_trial_grief, aI cT 8 u_43.2.2.2.2.2.2.1), (q_trial_bowl, aI cT 8 u_43.2.2.2.2.2.2.2)]) (w2 := fun u_51 => [(h, oX7 w_text (.ref q_told) (.ref q_now) w_before (.ref q_trial) w_past w_kept w_feltNotes w_heardNotes w_draws w_purrs w_alone w_nimbers w_ways (.ref q_ruling) w_spare), (q_told_numbers, aJ cT 8 f_told_numbers), (q_now, oX6 (.ref q_now_load) (.ref q_now_sag) (.ref q_now_joy) (.ref q_now_bowl) (.ref q_now_grief) (.ref q_now_place) (.int x_now_arches) (.int x_now_cats) (.int x_now_store) (.int x_now_hour) (.int x_now_drops)), (q_now_load, aI cT 6 f_now_load), (q_now_sag, aI cT 6 f_now_sag), (q_now_joy, aI cT 8 f_now_joy), (q_now_bowl, aI cT 8 f_now_bowl), (q_now_grief, aI cT 8 f_now_grief), (q_now_place, aI cT 8 f_now_place), (q_trial, oX6 (.ref q_trial_load) (.ref q_trial_sag) (.ref q_trial_joy) (.ref q_trial_bowl) (.ref q_trial_grief) (.ref q_trial_place) (.int u_31.1) (.int u_31.2.1) (.int u_31.2.2.1) (.int u_43.1) (.int u_43.2.1)), (q_ruling, oX4 (.ref q_ruling_steps) (.ref q_ruling_stack) (.int x_ruling_size) (.int u_43.2.2.1) (.int x_ruling_open) (.int x_ruling_compared) (.int x_ruling_digits) (.int x_ruling_wantsThing)), (q_trial_load, aI cT 6 u_31.2.2.2.2.2.1), (q_trial_place, aI cT 8 u_31.2.2.2.2.2.2.2.2.2.2), (q_ruling_steps, aI cT 40 f_ruling_steps), (q_ruling_stack, aI cT 40 u_43.2.2.2.1), (q_trial_sag, aI cT 6 u_43.2.2.2.2.1), (q_trial_joy, aI cT 8 u_43.2.2.2.2.2.1), (q_trial_grief, aI cT 8 u_43.2.2.2.2.2.2.1), (q_trial_bowl, aI cT 8 u_43.2.2.2.2.2.2.2), (q_told, oX3 (.ref q_told_numbers) (.int u_51))]) C0 lk_X7_201 (c_X3_anew l D cT F q_told (.ref q_told_numbers) x_told_size _ hg) hP hD hS hA [1] [0, 2, 3, 4, 5, 6, 7, 8, 9, 10, 11, 12, 13, 14, 15, 16, 17, 18, 19] (by decide +kernel) rfl rfl (fun _ => rfl) rfl rfl ⟨Nat.le_of_ble_eq_true rfl, Nat.le_of_ble_eq_true rfl⟩ rfl hl.1 rfl (Nat.le_of_ble_eq_true rfl) dX7_later_51 ⟨Nat.le_of_ble_eq_true rfl, Nat.le_of_ble_eq_true rfl⟩ ?_
    intro u_51 H locs hg hP hD hS
    refine lv_aload_n hx hb dX7_later_54 rfl (lv_at hl 0 rfl) ?_
    refine gf_X7_33 C0 hP 0 rfl rfl dX7_later_55 ?_
    refine lv_aload_n hx hb dX7_later_58 rfl (lv_at hl 0 rfl) ?_
    refine gf_X7_83 C0 hP 0 rfl rfl dX7_later_59 ?_
    refine lv_iload_n hx hb dX7_later_62 rfl (lv_at hl 1 rfl) ?_
    refine k_Vi (rest := [.ref q_told]) (wr := [(h, oX7 w_text (.ref q_told) (.ref q_now) w_before (.ref q_trial) w_past w_kept w_feltNotes w_heardNotes w_draws w_purrs w_alone w_nimbers w_ways (.ref q_ruling) w_spare), (q_told_numbers, aJ cT 8 f_told_numbers), (q_now, oX6 (.ref q_now_load) (.ref q_now_sag) (.ref q_now_joy) (.ref q_now_bowl) (.ref q_now_grief) (.ref q_now_place) (.int x_now_arches) (.int x_now_cats) (.int x_now_store) (.int x_now_hour) (.int x_now_drops)), (q_now_load, aI cT 6 f_now_load), (q_now_sag, aI cT 6 f_now_sag), (q_now_joy, aI cT 8 f_now_joy), (q_now_bowl, aI cT 8 f_now_bowl), (q_now_grief, aI cT 8 f_now_grief), (q_now_place, aI cT 8 f_now_place), (q_told, oX3 (.ref q_told_numbers) (.int u_51))]) (w2 := fun u_63 => [(h, oX7 w_text (.ref q_told) (.ref q_now) w_before (.ref q_trial) w_past w_kept w_feltNotes w_heardNotes w_draws w_purrs w_alone w_nimbers w_ways (.ref q_ruling) w_spare), (q_told_numbers, aJ cT 8 f_told_numbers), (q_now, oX6 (.ref q_now_load) (.ref q_now_sag) (.ref q_now_joy) (.ref q_now_bowl) (.ref q_now_grief) (.ref q_now_place) (.int x_now_arches) (.int x_now_cats) (.int x_now_store) (.int x_now_hour) (.int x_now_drops)), (q_now_load, aI cT 6 f_now_load), (q_now_sag, aI cT 6 f_now_sag), (q_now_joy, aI cT 8 f_now_joy), (q_now_bowl, aI cT 8 f_now_bowl), (q_now_grief, aI cT 8 f_now_grief), (q_now_place, aI cT 8 f_now_place), (q_told, oX3 (.ref q_told_numbers) (.int u_51)), (q_trial, oX6 (.ref q_trial_load) (.ref q_trial_sag) (.ref q_trial_joy) (.ref q_trial_bowl) (.ref q_trial_grief) (.ref q_trial_place) (.int u_31.1) (.int u_31.2.1) (.int u_31.2.2.1) (.int u_43.1) (.int u_43.2.1)), (q_trial_place, aI cT 8 u_31.2.2.2.2.2.2.2.2.2.2), (q_ruling, oX4 (.ref q_ruling_steps) (.ref q_ruling_stack) (.int x_ruling_size) (.int u_63.1) (.int x_ruling_open) (.int x_ruling_compared) (.int x_ruling_digits) (.int x_ruling_wantsThing)), (q_ruling_steps, aI cT 40 f_ruling_steps), (q_ruling_stack, aI cT 40 u_63.2), (q_trial_sag, aI cT 6 u_43.2.2.2.2.1), (q_trial_load, aI cT 6 u_31.2.2.2.2.2.1), (q_trial_joy, aI cT 8 u_43.2.2.2.2.2.1), (q_trial_grief, aI cT 8 u_43.2.2.2.2.2.2.1), (q_trial_bowl, aI cT 8 u_43.2.2.2.2.2.2.2)]) C0 lk_X7_149 (c_X6_holdOf l D cT F q_trial q_ruling p1 q_trial_load q_trial_sag q_trial_joy q_trial_bowl q_trial_grief q_trial_place u_31.1 u_31.2.1 u_31.2.2.1 u_43.1 u_43.2.1 u_31.2.2.2.2.2.2.2.2.2.2 q_ruling_steps q_ruling_stack x_ruling_size u_43.2.2.1 x_ruling_open x_ruling_compared x_ruling_digits x_ruling_wantsThing f_ruling_steps u_43.2.2.2.1 u_43.2.2.2.2.1 u_31.2.2.2.2.2.1 u_43.2.2.2.2.2.1 u_43.2.2.2.2.2.2.1 u_43.2.2.2.2.2.2.2 _ hg) hP hD hS hA [9, 12, 10, 13, 14, 15, 11, 16, 17, 18] [0, 1, 2, 3, 4, 5, 6, 7, 8, 19] (by decide +kernel) rfl rfl (fun _ => rfl) rfl rfl ⟨Nat.le_of_ble_eq_true rfl, Nat.le_of_ble_eq_true rfl⟩ rfl hl.1 rfl (Nat.le_of_ble_eq_true rfl) dX7_later_63 ⟨Nat.le_of_ble_eq_true rfl, Nat.le_of_ble_eq_true rfl⟩ ?_
    intro r_63 u_63 H locs hg hP hD hS
    refine lv_i2l (v := (r_63.toInt64)) hx hb dX7_later_66 rfl ?_
    refine k_Vr (rest := []) (wr := [(h, oX7 w_text (.ref q_told) (.ref q_now) w_before (.ref q_trial) w_past w_kept w_feltNotes w_heardNotes w_draws w_purrs w_alone w_nimbers w_ways (.ref q_ruling) w_spare), (q_now, oX6 (.ref q_now_load) (.ref q_now_sag) (.ref q_now_joy) (.ref q_now_bowl) (.ref q_now_grief) (.ref q_now_place) (.int x_now_arches) (.int x_now_cats) (.int x_now_store) (.int x_now_hour) (.int x_now_drops)), (q_now_load, aI cT 6 f_now_load), (q_now_sag, aI cT 6 f_now_sag), (q_now_joy, aI cT 8 f_now_joy), (q_now_bowl, aI cT 8 f_now_bowl), (q_now_grief, aI cT 8 f_now_grief), (q_now_place, aI cT 8 f_now_place), (q_trial, oX6 (.ref q_trial_load) (.ref q_trial_sag) (.ref q_trial_joy) (.ref q_trial_bowl) (.ref q_trial_grief) (.ref q_trial_place) (.int u_31.1) (.int u_31.2.1) (.int u_31.2.2.1) (.int u_43.1) (.int u_43.2.1)), (q_trial_place, aI cT 8 u_31.2.2.2.2.2.2.2.2.2.2), (q_ruling, oX4 (.ref q_ruling_steps) (.ref q_ruling_stack) (.int x_ruling_size) (.int u_63.1) (.int x_ruling_open) (.int x_ruling_compared) (.int x_ruling_digits) (.int x_ruling_wantsThing)), (q_ruling_steps, aI cT 40 f_ruling_steps), (q_ruling_stack, aI cT 40 u_63.2), (q_trial_sag, aI cT 6 u_43.2.2.2.2.1), (q_trial_load, aI cT 6 u_31.2.2.2.2.2.1), (q_trial_joy, aI cT 8 u_43.2.2.2.2.2.1), (q_trial_grief, aI cT 8 u_43.2.2.2.2.2.2.1), (q_trial_bowl, aI cT 8 u_43.2.2.2.2.2.2.2)]) (w2 := fun u_67 => [(h, oX7 w_text (.ref q_told) (.ref q_now) w_before (.ref q_trial) w_past w_kept w_feltNotes w_heardNotes w_draws w_purrs w_alone w_nimbers w_ways (.ref q_ruling) w_spare), (q_now, oX6 (.ref q_now_load) (.ref q_now_sag) (.ref q_now_joy) (.ref q_now_bowl) (.ref q_now_grief) (.ref q_now_place) (.int x_now_arches) (.int x_now_cats) (.int x_now_store) (.int x_now_hour) (.int x_now_drops)), (q_now_load, aI cT 6 f_now_load), (q_now_sag, aI cT 6 f_now_sag), (q_now_joy, aI cT 8 f_now_joy), (q_now_bowl, aI cT 8 f_now_bowl), (q_now_grief, aI cT 8 f_now_grief), (q_now_place, aI cT 8 f_now_place), (q_trial, oX6 (.ref q_trial_load) (.ref q_trial_sag) (.ref q_trial_joy) (.ref q_trial_bowl) (.ref q_trial_grief) (.ref q_trial_place) (.int u_31.1) (.int u_31.2.1) (.int u_31.2.2.1) (.int u_43.1) (.int u_43.2.1)), (q_trial_place, aI cT 8 u_31.2.2.2.2.2.2.2.2.2.2), (q_ruling, oX4 (.ref q_ruling_steps) (.ref q_ruling_stack) (.int x_ruling_size) (.int u_63.1) (.int x_ruling_open) (.int x_ruling_compared) (.int x_ruling_digits) (.int x_ruling_wantsThing)), (q_ruling_steps, aI cT 40 f_ruling_steps), (q_ruling_stack, aI cT 40 u_63.2), (q_trial_sag, aI cT 6 u_43.2.2.2.2.1), (q_trial_load, aI cT 6 u_31.2.2.2.2.2.1), (q_trial_joy, aI cT 8 u_43.2.2.2.2.2.1), (q_trial_grief, aI cT 8 u_43.2.2.2.2.2.2.1), (q_trial_bowl, aI cT 8 u_43.2.2.2.2.2.2.2), (q_told, oX3 (.ref q_told_numbers) (.int u_67.1)), (q_told_numbers, aJ cT 8 u_67.2)]) C0 lk_X7_205 (c_X3_add l D cT F q_told (r_63.toInt64) q_told_numbers u_51 f_told_numbers _ hg) hP hD hS hA [9, 1] [0, 2, 3, 4, 5, 6, 7, 8, 10, 11, 12, 13, 14, 15, 16, 17, 18, 19] (by decide +kernel) rfl rfl (fun _ => rfl) rfl rfl ⟨Nat.le_of_ble_eq_true rfl, Nat.le_of_ble_eq_true rfl⟩ rfl hl.1 rfl (Nat.le_of_ble_eq_true rfl) dX7_later_67 ⟨Nat.le_of_ble_eq_true rfl, Nat.le_of_ble_eq_true rfl⟩ ?_
    intro u_67 H locs hg hP hD hS
    refine lv_aload_n hx hb dX7_later_70 rfl (lv_at hl 0 rfl) ?_
    refine gf_X7_33 C0 hP 0 rfl rfl dX7_later_71 ?_
    refine k_Vxi (rest := [.ref q_told]) C0 lk_X7_211 (c_X6_allSags l D cT F q_trial (.ref q_trial_load) q_trial_sag (.ref q_trial_joy) (.ref q_trial_bowl) (.ref q_trial_grief) (.ref q_trial_place) u_31.1 u_31.2.1 u_31.2.2.1 u_43.1 u_43.2.1 u_43.2.2.2.2.1 _ hg) hP hD hS hA [8, 13] (by decide +kernel) rfl rfl rfl ⟨Nat.le_of_ble_eq_true rfl, Nat.le_of_ble_eq_true rfl⟩ rfl hl.1 rfl (Nat.le_of_ble_eq_true rfl) dX7_later_74 ⟨Nat.le_of_ble_eq_true rfl, Nat.le_of_ble_eq_true rfl⟩ (fun r_74 hg => ?_)
    refine lv_i2l (v := (r_74.toInt64)) hx hb dX7_later_77 rfl ?_
    refine k_Vr (rest := []) (wr := [(h, oX7 w_text (.ref q_told) (.ref q_now) w_before (.ref q_trial) w_past w_kept w_feltNotes w_heardNotes w_draws w_purrs w_alone w_nimbers w_ways (.ref q_ruling) w_spare), (q_now, oX6 (.ref q_now_load) (.ref q_now_sag) (.ref q_now_joy) (.ref q_now_bowl) (.ref q_now_grief) (.ref q_now_place) (.int x_now_arches) (.int x_now_cats) (.int x_now_store) (.int x_now_hour) (.int x_now_drops)), (q_now_load, aI cT 6 f_now_load), (q_now_sag, aI cT 6 f_now_sag), (q_now_joy, aI cT 8 f_now_joy), (q_now_bowl, aI cT 8 f_now_bowl), (q_now_grief, aI cT 8 f_now_grief), (q_now_place, aI cT 8 f_now_place), (q_trial, oX6 (.ref q_trial_load) (.ref q_trial_sag) (.ref q_trial_joy) (.ref q_trial_bowl) (.ref q_trial_grief) (.ref q_trial_place) (.int u_31.1) (.int u_31.2.1) (.int u_31.2.2.1) (.int u_43.1) (.int u_43.2.1)), (q_trial_place, aI cT 8 u_31.2.2.2.2.2.2.2.2.2.2), (q_ruling, oX4 (.ref q_ruling_steps) (.ref q_ruling_stack) (.int x_ruling_size) (.int u_63.1) (.int x_ruling_open) (.int x_ruling_compared) (.int x_ruling_digits) (.int x_ruling_wantsThing)), (q_ruling_steps, aI cT 40 f_ruling_steps), (q_ruling_stack, aI cT 40 u_63.2), (q_trial_sag, aI cT 6 u_43.2.2.2.2.1), (q_trial_load, aI cT 6 u_31.2.2.2.2.2.1), (q_trial_joy, aI cT 8 u_43.2.2.2.2.2.1), (q_trial_grief, aI cT 8 u_43.2.2.2.2.2.2.1), (q_trial_bowl, aI cT 8 u_43.2.2.2.2.2.2.2)]) (w2 := fun u_78 => [(h, oX7 w_text (.ref q_told) (.ref q_now) w_before (.ref q_trial) w_past w_kept w_feltNotes w_heardNotes w_draws w_purrs w_alone w_nimbers w_ways (.ref q_ruling) w_spare), (q_now, oX6 (.ref q_now_load) (.ref q_now_sag) (.ref q_now_joy) (.ref q_now_bowl) (.ref q_now_grief) (.ref q_now_place) (.int x_now_arches) (.int x_now_cats) (.int x_now_store) (.int x_now_hour) (.int x_now_drops)), (q_now_load, aI cT 6 f_now_load), (q_now_sag, aI cT 6 f_now_sag), (q_now_joy, aI cT 8 f_now_joy), (q_now_bowl, aI cT 8 f_now_bowl), (q_now_grief, aI cT 8 f_now_grief), (q_now_place, aI cT 8 f_now_place), (q_trial, oX6 (.ref q_trial_load) (.ref q_trial_sag) (.ref q_trial_joy) (.ref q_trial_bowl) (.ref q_trial_grief) (.ref q_trial_place) (.int u_31.1) (.int u_31.2.1) (.int u_31.2.2.1) (.int u_43.1) (.int u_43.2.1)), (q_trial_place, aI cT 8 u_31.2.2.2.2.2.2.2.2.2.2), (q_ruling, oX4 (.ref q_ruling_steps) (.ref q_ruling_stack) (.int x_ruling_size) (.int u_63.1) (.int x_ruling_open) (.int x_ruling_compared) (.int x_ruling_digits) (.int x_ruling_wantsThing)), (q_ruling_steps, aI cT 40 f_ruling_steps), (q_ruling_stack, aI cT 40 u_63.2), (q_trial_sag, aI cT 6 u_43.2.2.2.2.1), (q_trial_load, aI cT 6 u_31.2.2.2.2.2.1), (q_trial_joy, aI cT 8 u_43.2.2.2.2.2.1), (q_trial_grief, aI cT 8 u_43.2.2.2.2.2.2.1), (q_trial_bowl, aI cT 8 u_43.2.2.2.2.2.2.2), (q_told, oX3 (.ref q_told_numbers) (.int u_78.1)), (q_told_numbers, aJ cT 8 u_78.2)]) C0 lk_X7_205 (c_X3_add l D cT F q_told (r_74.toInt64) q_told_numbers u_67.1 u_67.2 _ hg) hP hD hS hA [18, 19] [0, 1, 2, 3, 4, 5, 6, 7, 8, 9, 10, 11, 12, 13, 14, 15, 16, 17] (by decide +kernel) rfl rfl (fun _ => rfl) rfl rfl ⟨Nat.le_of_ble_eq_true rfl, Nat.le_of_ble_eq_true rfl⟩ rfl hl.1 rfl (Nat.le_of_ble_eq_true rfl) dX7_later_78 ⟨Nat.le_of_ble_eq_true rfl, Nat.le_of_ble_eq_true rfl⟩ ?_
    intro u_78 H locs hg hP hD hS
    refine lv_pop hx hb dX7_later_81 rfl ?_
    refine lv_aload_n hx hb dX7_later_82 rfl (lv_at hl 0 rfl) ?_
    refine gf_X7_33 C0 hP 0 rfl rfl dX7_later_83 ?_
    refine gf_X7_143 C0 hP 8 rfl rfl dX7_later_86 ?_
    refine lv_iload_n hx hb dX7_later_89 rfl (lv_at hl 1 rfl) ?_
    obtain ⟨g_90, hg⟩ := hg
    refine k_iald C0 hP 13 rfl g_90 dX7_later_90 ?_
    exact k_iret C0 hr (u_31.1, u_31.2.1, u_31.2.2.1, u_43.1, u_43.2.1, u_31.2.2.2.2.2.1, u_43.2.2.2.2.1, u_43.2.2.2.2.2.1, u_43.2.2.2.2.2.2.2, u_43.2.2.2.2.2.2.1, u_31.2.2.2.2.2.2.2.2.2.2, u_63.1, u_63.2, u_78.1, u_78.2) hg (subP hP [0, 1, 8, 2, 14, 3, 13, 4, 15, 5, 17, 6, 16, 7, 9, 10, 11, 12, 18, 19] rfl) (hD.sub [0, 1, 8, 2, 14, 3, 13, 4, 15, 5, 17, 6, 16, 7, 9, 10, 11, 12, 18, 19] (nd2_ok _ (by decide +kernel)) rfl) hS dX7_later_91
  have hg := hg.2 c_18
  refine lv_iconst (v := (-1 : Int32)) hx hb dX7_later_21 (by decide) ?_
  exact k_iret C0 hr (x_trial_arches, x_trial_cats, x_trial_store, x_trial_hour, x_trial_drops, f_trial_load, f_trial_sag, f_trial_joy, f_trial_bowl, f_trial_grief, f_trial_place, x_ruling_top, f_ruling_stack, x_told_size, f_told_numbers) hg hP hD hS dX7_later_22
