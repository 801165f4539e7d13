theorem dX7_holdWithout_0 : decode cX7_holdWithout 0 = .ok (.iconst 0, 1) := by decide +kernel
theorem dX7_holdWithout_1 : decode cX7_holdWithout 1 = .ok (.istore_n 3, 1) := by decide +kernel
theorem dX7_holdWithout_2 : decode cX7_holdWithout 2 = .ok (.iconst 0, 1) := by decide +kernel
theorem dX7_holdWithout_3 : decode cX7_holdWithout 3 = .ok (.istore 4, 2) := by decide +kernel
theorem dX7_holdWithout_5 : decode cX7_holdWithout 5 = .ok (.iload 4, 2) := by decide +kernel
theorem dX7_holdWithout_7 : decode cX7_holdWithout 7 = .ok (.aload_n 0, 1) := by decide +kernel
theorem dX7_holdWithout_8 : decode cX7_holdWithout 8 = .ok (.getfield 26, 3) := by decide +kernel
theorem dX7_holdWithout_11 : decode cX7_holdWithout 11 = .ok (.getfield 118, 3) := by decide +kernel
theorem dX7_holdWithout_14 : decode cX7_holdWithout 14 = .ok (.if_icmp .ge 43, 3) := by decide +kernel
theorem dX7_holdWithout_17 : decode cX7_holdWithout 17 = .ok (.iload_n 3, 1) := by decide +kernel
theorem dX7_holdWithout_18 : decode cX7_holdWithout 18 = .ok (.aload_n 0, 1) := by decide +kernel
theorem dX7_holdWithout_19 : decode cX7_holdWithout 19 = .ok (.getfield 26, 3) := by decide +kernel
theorem dX7_holdWithout_22 : decode cX7_holdWithout 22 = .ok (.getfield 168, 3) := by decide +kernel
theorem dX7_holdWithout_25 : decode cX7_holdWithout 25 = .ok (.iload 4, 2) := by decide +kernel
theorem dX7_holdWithout_27 : decode cX7_holdWithout 27 = .ok (.iaload, 1) := by decide +kernel
theorem dX7_holdWithout_28 : decode cX7_holdWithout 28 = .ok (.iload_n 1, 1) := by decide +kernel
theorem dX7_holdWithout_29 : decode cX7_holdWithout 29 = .ok (.if_icmp .ne 19, 3) := by decide +kernel
theorem dX7_holdWithout_32 : decode cX7_holdWithout 32 = .ok (.iload 4, 2) := by decide +kernel
theorem dX7_holdWithout_34 : decode cX7_holdWithout 34 = .ok (.iload_n 2, 1) := by decide +kernel
theorem dX7_holdWithout_35 : decode cX7_holdWithout 35 = .ok (.if_icmp .eq 13, 3) := by decide +kernel
theorem dX7_holdWithout_38 : decode cX7_holdWithout 38 = .ok (.aload_n 0, 1) := by decide +kernel
theorem dX7_holdWithout_39 : decode cX7_holdWithout 39 = .ok (.getfield 66, 3) := by decide +kernel
theorem dX7_holdWithout_42 : decode cX7_holdWithout 42 = .ok (.iload 4, 2) := by decide +kernel
theorem dX7_holdWithout_44 : decode cX7_holdWithout 44 = .ok (.iaload, 1) := by decide +kernel
theorem dX7_holdWithout_45 : decode cX7_holdWithout 45 = .ok (.goto 4, 3) := by decide +kernel
theorem dX7_holdWithout_48 : decode cX7_holdWithout 48 = .ok (.iconst 0, 1) := by decide +kernel
theorem dX7_holdWithout_49 : decode cX7_holdWithout 49 = .ok (.iadd, 1) := by decide +kernel
theorem dX7_holdWithout_50 : decode cX7_holdWithout 50 = .ok (.istore_n 3, 1) := by decide +kernel
theorem dX7_holdWithout_51 : decode cX7_holdWithout 51 = .ok (.iinc 4 1, 3) := by decide +kernel
theorem dX7_holdWithout_54 : decode cX7_holdWithout 54 = .ok (.goto (-49), 3) := by decide +kernel
theorem dX7_holdWithout_57 : decode cX7_holdWithout 57 = .ok (.iload_n 3, 1) := by decide +kernel
theorem dX7_holdWithout_58 : decode cX7_holdWithout 58 = .ok (.ireturn, 1) := by decide +kernel
def p_X7_holdWithout_49 (F : Nat) (y4_5 : Int32) (y3_5 : Int32) (k5 : Int32 → Int32 → Prop) (Post : Int32 → Prop) (s1_49 : Int32) : Prop := (k5 (y4_5 + (1 : Int32)) (y3_5 + s1_49))
def p_X7_holdWithout_48 (F : Nat) (y4_5 : Int32) (y3_5 : Int32) (k5 : Int32 → Int32 → Prop) (Post : Int32 → Prop) : Prop := (p_X7_holdWithout_49 F y4_5 y3_5 k5 Post (0 : Int32))
noncomputable def p_X7_holdWithout_5 (F : Nat) (p1 : Int32) (p2 : Int32) (x_now_cats : Int32) (f_now_place : Nat → Int32) (f_purrs : Nat → Int32) (Post : Int32 → Prop) (n : Nat) : Int32 → Int32 → Prop := Nat.rec (motive := fun _ => Int32 → Int32 → Prop) (fun _ _ => False) (fun _ k5 => fun (y4_5 : Int32) (y3_5 : Int32) => ((x_now_cats ≤ y4_5 → (Post y3_5)) ∧ (¬ x_now_cats ≤ y4_5 → (vp_in y4_5 8 ∧ ((¬ (f_now_place y4_5.toNatClampNeg) = p1 → (p_X7_holdWithout_48 F y4_5 y3_5 k5 Post )) ∧ ((f_now_place y4_5.toNatClampNeg) = p1 → ((y4_5 = p2 → (p_X7_holdWithout_48 F y4_5 y3_5 k5 Post )) ∧ (¬ y4_5 = p2 → (vp_in y4_5 8 ∧ (p_X7_holdWithout_49 F y4_5 y3_5 k5 Post (f_purrs y4_5.toNatClampNeg))))))))))) n
theorem p_X7_holdWithout_5_s (F : Nat) (p1 : Int32) (p2 : Int32) (x_now_cats : Int32) (f_now_place : Nat → Int32) (f_purrs : Nat → Int32) (Post : Int32 → Prop) (n : Nat) (y4_5 : Int32) (y3_5 : Int32) : p_X7_holdWithout_5 F p1 p2 x_now_cats f_now_place f_purrs Post (n + 1) y4_5 y3_5 = ((x_now_cats ≤ y4_5 → (Post y3_5)) ∧ (¬ x_now_cats ≤ y4_5 → (vp_in y4_5 8 ∧ ((¬ (f_now_place y4_5.toNatClampNeg) = p1 → (p_X7_holdWithout_48 F y4_5 y3_5 (p_X7_holdWithout_5 F p1 p2 x_now_cats f_now_place f_purrs Post n) Post )) ∧ ((f_now_place y4_5.toNatClampNeg) = p1 → ((y4_5 = p2 → (p_X7_holdWithout_48 F y4_5 y3_5 (p_X7_holdWithout_5 F p1 p2 x_now_cats f_now_place f_purrs Post n) Post )) ∧ (¬ y4_5 = p2 → (vp_in y4_5 8 ∧ (p_X7_holdWithout_49 F y4_5 y3_5 (p_X7_holdWithout_5 F p1 p2 x_now_cats f_now_place f_purrs Post n) Post (f_purrs y4_5.toNatClampNeg)))))))))) := rfl
def p_X7_holdWithout (F : Nat) (p1 : Int32) (p2 : Int32) (x_now_cats : Int32) (f_now_place : Nat → Int32) (f_purrs : Nat → Int32) (Post : Int32 → Prop) : Prop := (p_X7_holdWithout_5 F p1 p2 x_now_cats f_now_place f_purrs Post F (0 : Int32) (0 : Int32))
set_option maxHeartbeats 4000000 in
set_option maxRecDepth 100000 in
theorem c_X7_holdWithout (l : Launch) (D : va_G) (cT : Nat → ClassId) (F : Nat) (h : Nat) (p1 : Int32) (p2 : Int32) (w_text : Value) (w_told : Value) (q_now : Nat) (w_before : Value) (w_trial : Value) (w_past : Value) (w_kept : Value) (w_feltNotes : Value) (w_heardNotes : Value) (w_draws : Value) (q_purrs : Nat) (w_alone : Value) (w_nimbers : Value) (w_ways : Value) (w_ruling : Value) (w_spare : Value) (w_now_load : Value) (w_now_sag : Value) (w_now_joy : Value) (w_now_bowl : Value) (w_now_grief : Value) (q_now_place : Nat) (x_now_arches : Int32) (x_now_cats : Int32) (x_now_store : Int32) (x_now_hour : Int32) (x_now_drops : Int32) (f_now_place : Nat → Int32) (f_purrs : Nat → Int32) (Post : Int32 → Prop) (hg : p_X7_holdWithout F p1 p2 x_now_cats f_now_place f_purrs Post) : MRi l D cT yX7_holdWithout cX7_holdWithout 5 (some .int) 0 0 [.ref h, .int p1, .int p2] [(h, oX7 w_text w_told (.ref q_now) w_before w_trial w_past w_kept w_feltNotes w_heardNotes w_draws (.ref q_purrs) w_alone w_nimbers w_ways w_ruling w_spare), (q_now, oX6 w_now_load w_now_sag w_now_joy w_now_bowl w_now_grief (.ref q_now_place) (.int x_now_arches) (.int x_now_cats) (.int x_now_store) (.int x_now_hour) (.int x_now_drops)), (q_now_place, aI cT 8 f_now_place), (q_purrs, aI cT 8 f_purrs)] Post := by
  refine MRi.of (by decide) (Nat.le_of_ble_eq_true rfl) ?_
  intro p e s m below meth c hA C0 hr hP hD hS ls hl
  have hl : lv_has ls 5 [(0, .ref h), (1, .int p1), (2, .int p2)] := hl
  have hx := C0.x
  have hb := C0.b
  have hP : va_P D cls9 [(h, oX7 w_text w_told (.ref q_now) w_before w_trial w_past w_kept w_feltNotes w_heardNotes w_draws (.ref q_purrs) w_alone w_nimbers w_ways w_ruling w_spare), (q_now, oX6 w_now_load w_now_sag w_now_joy w_now_bowl w_now_grief (.ref q_now_place) (.int x_now_arches) (.int x_now_cats) (.int x_now_store) (.int x_now_hour) (.int x_now_drops)), (q_now_place, aI cT 8 f_now_place), (q_purrs, aI cT 8 f_purrs)] s.heap := hP
  have hD : va_D (fun q => cT 6 ≤ q) [(h, oX7 w_text w_told (.ref q_now) w_before w_trial w_past w_kept w_feltNotes w_heardNotes w_draws (.ref q_purrs) w_alone w_nimbers w_ways w_ruling w_spare), (q_now, oX6 w_now_load w_now_sag w_now_joy w_now_bowl w_now_grief (.ref q_now_place) (.int x_now_arches) (.int x_now_cats) (.int x_now_store) (.int x_now_hour) (.int x_now_drops)), (q_now_place, aI cT 8 f_now_place), (q_purrs, aI cT 8 f_purrs)] := hD
  have L5 : ∀ (n5 : Nat) (y4_5 : Int32) (y3_5 : Int32) (ls : Array Slot), p_X7_holdWithout_5 F p1 p2 x_now_cats f_now_place f_purrs Post n5 y4_5 y3_5 → lv_has ls 5 [(0, .ref h), (1, .int p1), (2, .int p2), (3, .int y3_5), (4, .int y4_5)] → W p l e (rmO 0 0 0 0) s m ([.ref h, .int p1, .int p2] : List Value).toArray below meth c s.heap [] 0 0 (MQ below (vp_Si Post) ([.ref h, .int p1, .int p2] : List Value).toArray s 0 0 (fun _ => False)) (F0 m 5 ls []) := by
    intro n5
    induction n5 with
    | zero =>
      intro y4_5 y3_5 ls hg hl
      exact False.elim hg
    | succ n5 ih5 =>
      have L49 : ∀ (y4_5 : Int32) (y3_5 : Int32) (s1_49 : Int32) (ls : Array Slot), p_X7_holdWithout_49 F y4_5 y3_5 (p_X7_holdWithout_5 F p1 p2 x_now_cats f_now_place f_purrs Post n5) Post s1_49 → lv_has ls 5 [(0, .ref h), (1, .int p1), (2, .int p2), (4, .int y4_5)] → W p l e (rmO 0 0 0 0) s m ([.ref h, .int p1, .int p2] : List Value).toArray below meth c s.heap [] 0 0 (MQ below (vp_Si Post) ([.ref h, .int p1, .int p2] : List Value).toArray s 0 0 (fun _ => False)) (F0 m 49 ls [.int s1_49, .int y3_5]) := by
        intro y4_5 y3_5 s1_49 ls hg hl
        unfold p_X7_holdWithout_49 at hg
        refine lv_iadd hx hb dX7_holdWithout_49 ?_
        refine lv_istore_n (lv' := [(3, .int (y3_5 + s1_49)), (0, .ref h), (1, .int p1), (2, .int p2), (4, .int y4_5)]) hx hb dX7_holdWithout_50 rfl hl (by decide) rfl (fun ls hl => ?_)
        refine lv_iinc (v := (y4_5 + (1 : Int32))) (lv' := [(4, .int (y4_5 + (1 : Int32))), (3, .int (y3_5 + s1_49)), (0, .ref h), (1, .int p1), (2, .int p2)]) hx hb dX7_holdWithout_51 hl (k := 4) rfl rfl (by decide) rfl (fun ls hl => ?_)
        refine lv_goto (tgt := 5) hx hb dX7_holdWithout_54 (by decide) ?_
        exact ih5 (y4_5 + (1 : Int32)) (y3_5 + s1_49) _ hg (lv_sub hl [2, 3, 4, 1, 0] rfl)
      have L48 : ∀ (y4_5 : Int32) (y3_5 : Int32) (ls : Array Slot), p_X7_holdWithout_48 F y4_5 y3_5 (p_X7_holdWithout_5 F p1 p2 x_now_cats f_now_place f_purrs Post n5) Post → lv_has ls 5 [(0, .ref h), (1, .int p1), (2, .int p2), (4, .int y4_5)] → W p l e (rmO 0 0 0 0) s m ([.ref h, .int p1, .int p2] : List Value).toArray below meth c s.heap [] 0 0 (MQ below (vp_Si Post) ([.ref h, .int p1, .int p2] : List Value).toArray s 0 0 (fun _ => False)) (F0 m 48 ls [.int y3_5]) := by
        intro y4_5 y3_5 ls hg hl
        unfold p_X7_holdWithout_48 at hg
        refine lv_iconst (v := (0 : Int32)) hx hb dX7_holdWithout_48 (by decide) ?_
        exact L49 y4_5 y3_5 (0 : Int32) _ hg hl
      intro y4_5 y3_5 ls hg hl
      rw [p_X7_holdWithout_5_s] at hg
      refine lv_iload hx hb dX7_holdWithout_5 (lv_at hl 4 rfl) ?_
      refine lv_aload_n hx hb dX7_holdWithout_7 rfl (lv_at hl 0 rfl) ?_
      refine gf_X7_26 C0 hP 0 rfl rfl dX7_holdWithout_8 ?_
      refine gf_X7_118 C0 hP 1 rfl rfl dX7_holdWithout_11 ?_
      refine lv_icmp_ge (tgt := 57) hx hb dX7_holdWithout_14 (by decide) (fun c_14 => ?_) (fun c_14 => ?_)
      · have hg := hg.1 c_14
        refine lv_iload_n hx hb dX7_holdWithout_57 rfl (lv_at hl 3 rfl) ?_
        exact k_xiret C0 hr hg dX7_holdWithout_58
      have hg := hg.2 c_14
      refine lv_iload_n hx hb dX7_holdWithout_17 rfl (lv_at hl 3 rfl) ?_
      refine lv_aload_n hx hb dX7_holdWithout_18 rfl (lv_at hl 0 rfl) ?_
      refine gf_X7_26 C0 hP 0 rfl rfl dX7_holdWithout_19 ?_
      refine gf_X7_168 C0 hP 1 rfl rfl dX7_holdWithout_22 ?_
      refine lv_iload hx hb dX7_holdWithout_25 (lv_at hl 4 rfl) ?_
      obtain ⟨g_27, hg⟩ := hg
      refine k_iald C0 hP 2 rfl g_27 dX7_holdWithout_27 ?_
      refine lv_iload_n hx hb dX7_holdWithout_28 rfl (lv_at hl 1 rfl) ?_
      refine lv_icmp_ne (tgt := 48) hx hb dX7_holdWithout_29 (by decide) (fun c_29 => ?_) (fun c_29 => ?_)
      · have hg := hg.1 c_29
        exact L48 y4_5 y3_5 _ hg (lv_sub hl [0, 1, 2, 4] rfl)
      have hg := hg.2 c_29
      refine lv_iload hx hb dX7_holdWithout_32 (lv_at hl 4 rfl) ?_
      refine lv_iload_n hx hb dX7_holdWithout_34 rfl (lv_at hl 2 rfl) ?_
      refine lv_icmp_eq (tgt := 48) hx hb dX7_holdWithout_35 (by decide) (fun c_35 => ?_) (fun c_35 => ?_)
      · have hg := hg.1 c_35
        exact L48 y4_5 y3_5 _ hg (lv_sub hl [0, 1, 2, 4] rfl)
      have hg := hg.2 c_35
      refine lv_aload_n hx hb dX7_holdWithout_38 rfl (lv_at hl 0 rfl) ?_
      refine gf_X7_66 C0 hP 0 rfl rfl dX7_holdWithout_39 ?_
      refine lv_iload hx hb dX7_holdWithout_42 (lv_at hl 4 rfl) ?_
      obtain ⟨g_44, hg⟩ := hg
      refine k_iald C0 hP 3 rfl g_44 dX7_holdWithout_44 ?_
      refine lv_goto (tgt := 49) hx hb dX7_holdWithout_45 (by decide) ?_
      exact L49 y4_5 y3_5 (f_purrs y4_5.toNatClampNeg) _ hg (lv_sub hl [0, 1, 2, 4] rfl)
  unfold p_X7_holdWithout at hg
  refine lv_iconst (v := (0 : Int32)) hx hb dX7_holdWithout_0 (by decide) ?_
  refine lv_istore_n (lv' := [(3, .int (0 : Int32)), (0, .ref h), (1, .int p1), (2, .int p2)]) hx hb dX7_holdWithout_1 rfl hl (by decide) rfl (fun ls hl => ?_)
  refine lv_iconst (v := (0 : Int32)) hx hb dX7_holdWithout_2 (by decide) ?_
  refine lv_istore (lv' := [(4, .int (0 : Int32)), (3, .int (0 : Int32)), (0, .ref h), (1, .int p1), (2, .int p2)]) hx hb dX7_holdWithout_3 hl (by decide) rfl (fun ls hl => ?_)
  exact L5 F (0 : Int32) (0 : Int32) _ hg (lv_sub hl [2, 3, 4, 1, 0] rfl)
theorem dX7_fitsWithout_0 : decode cX7_fitsWithout 0 = .ok (.iconst 0, 1) := by decide +kernel
theorem dX7_fitsWithout_1 : decode cX7_fitsWithout 1 = .ok (.istore_n 2, 1) := by decide +kernel
theorem dX7_fitsWithout_2 : decode cX7_fitsWithout 2 = .ok (.iload_n 2, 1) := by decide +kernel
theorem dX7_fitsWithout_3 : decode cX7_fitsWithout 3 = .ok (.aload_n 0, 1) := by decide +kernel
theorem dX7_fitsWithout_4 : decode cX7_fitsWithout 4 = .ok (.getfield 52, 3) := by decide +kernel
theorem dX7_fitsWithout_7 : decode cX7_fitsWithout 7 = .ok (.getfield 322, 3) := by decide +kernel
theorem dX7_fitsWithout_10 : decode cX7_fitsWithout 10 = .ok (.if_icmp .ge 37, 3) := by decide +kernel
theorem dX7_fitsWithout_13 : decode cX7_fitsWithout 13 = .ok (.aload_n 0, 1) := by decide +kernel
theorem dX7_fitsWithout_14 : decode cX7_fitsWithout 14 = .ok (.aload_n 0, 1) := by decide +kernel
theorem dX7_fitsWithout_15 : decode cX7_fitsWithout 15 = .ok (.getfield 52, 3) := by decide +kernel
theorem dX7_fitsWithout_18 : decode cX7_fitsWithout 18 = .ok (.getfield 323, 3) := by decide +kernel
theorem dX7_fitsWithout_21 : decode cX7_fitsWithout 21 = .ok (.iload_n 2, 1) := by decide +kernel
theorem dX7_fitsWithout_22 : decode cX7_fitsWithout 22 = .ok (.iaload, 1) := by decide +kernel
theorem dX7_fitsWithout_23 : decode cX7_fitsWithout 23 = .ok (.iload_n 1, 1) := by decide +kernel
theorem dX7_fitsWithout_24 : decode cX7_fitsWithout 24 = .ok (.invokevirtual 326, 3) := by decide +kernel
theorem dX7_fitsWithout_27 : decode cX7_fitsWithout 27 = .ok (.aload_n 0, 1) := by decide +kernel
theorem dX7_fitsWithout_28 : decode cX7_fitsWithout 28 = .ok (.getfield 52, 3) := by decide +kernel
theorem dX7_fitsWithout_31 : decode cX7_fitsWithout 31 = .ok (.getfield 329, 3) := by decide +kernel
theorem dX7_fitsWithout_34 : decode cX7_fitsWithout 34 = .ok (.iload_n 2, 1) := by decide +kernel
theorem dX7_fitsWithout_35 : decode cX7_fitsWithout 35 = .ok (.iaload, 1) := by decide +kernel
theorem dX7_fitsWithout_36 : decode cX7_fitsWithout 36 = .ok (.if_icmp .eq 5, 3) := by decide +kernel
theorem dX7_fitsWithout_39 : decode cX7_fitsWithout 39 = .ok (.iconst 0, 1) := by decide +kernel
theorem dX7_fitsWithout_40 : decode cX7_fitsWithout 40 = .ok (.ireturn, 1) := by decide +kernel
theorem dX7_fitsWithout_41 : decode cX7_fitsWithout 41 = .ok (.iinc 2 1, 3) := by decide +kernel
theorem dX7_fitsWithout_44 : decode cX7_fitsWithout 44 = .ok (.goto (-42), 3) := by decide +kernel
theorem dX7_fitsWithout_47 : decode cX7_fitsWithout 47 = .ok (.iconst 1, 1) := by decide +kernel
theorem dX7_fitsWithout_48 : decode cX7_fitsWithout 48 = .ok (.ireturn, 1) := by decide +kernel
noncomputable def p_X7_fitsWithout_2 (F : Nat) (p1 : Int32) (x_feltNotes_size : Int32) (f_feltNotes_first : Nat → Int32) (x_now_cats : Int32) (f_now_place : Nat → Int32) (f_purrs : Nat → Int32) (f_feltNotes_second : Nat → Int32) (Post : Int32 → Prop) (n : Nat) : Int32 → Prop := Nat.rec (motive := fun _ => Int32 → Prop) (fun _ => False) (fun _ k2 => fun (y2_2 : Int32) => ((x_feltNotes_size ≤ y2_2 → (Post (1 : Int32))) ∧ (¬ x_feltNotes_size ≤ y2_2 → (vp_in y2_2 12 ∧ (p_X7_holdWithout F (f_feltNotes_first y2_2.toNatClampNeg) p1 x_now_cats f_now_place f_purrs (fun (r_24 : Int32) => (vp_in y2_2 12 ∧ ((r_24 = (f_feltNotes_second y2_2.toNatClampNeg) → (k2 (y2_2 + (1 : Int32)))) ∧ (¬ r_24 = (f_feltNotes_second y2_2.toNatClampNeg) → (Post (0 : Int32))))))))))) n
theorem p_X7_fitsWithout_2_s (F : Nat) (p1 : Int32) (x_feltNotes_size : Int32) (f_feltNotes_first : Nat → Int32) (x_now_cats : Int32) (f_now_place : Nat → Int32) (f_purrs : Nat → Int32) (f_feltNotes_second : Nat → Int32) (Post : Int32 → Prop) (n : Nat) (y2_2 : Int32) : p_X7_fitsWithout_2 F p1 x_feltNotes_size f_feltNotes_first x_now_cats f_now_place f_purrs f_feltNotes_second Post (n + 1) y2_2 = ((x_feltNotes_size ≤ y2_2 → (Post (1 : Int32))) ∧ (¬ x_feltNotes_size ≤ y2_2 → (vp_in y2_2 12 ∧ (p_X7_holdWithout F (f_feltNotes_first y2_2.toNatClampNeg) p1 x_now_cats f_now_place f_purrs (fun (r_24 : Int32) => (vp_in y2_2 12 ∧ ((r_24 = (f_feltNotes_second y2_2.toNatClampNeg) → ((p_X7_fitsWithout_2 F p1 x_feltNotes_size f_feltNotes_first x_now_cats f_now_place f_purrs f_feltNotes_second Post n) (y2_2 + (1 : Int32)))) ∧ (¬ r_24 = (f_feltNotes_second y2_2.toNatClampNeg) → (Post (0 : Int32)))))))))) := rfl
def p_X7_fitsWithout (F : Nat) (p1 : Int32) (x_feltNotes_size : Int32) (f_feltNotes_first : Nat → Int32) (x_now_cats : Int32) (f_now_place : Nat → Int32) (f_purrs : Nat → Int32) (f_feltNotes_second : Nat → Int32) (Post : Int32 → Prop) : Prop := (p_X7_fitsWithout_2 F p1 x_feltNotes_size f_feltNotes_first x_now_cats f_now_place f_purrs f_feltNotes_second Post F (0 : Int32))
set_option maxHeartbeats 4000000 in
set_option maxRecDepth 100000 in
theorem c_X7_fitsWithout (l : Launch) (D : va_G) (cT : Nat → ClassId) (F : Nat) (h : Nat) (p1 : Int32) (w_text : Value) (w_told : Value) (q_now : Nat) (w_before : Value) (w_trial : Value) (w_past : Value) (w_kept : Value) (q_feltNotes : Nat) (w_heardNotes : Value) (w_draws : Value) (q_purrs : Nat) (w_alone : Value) (w_nimbers : Value) (w_ways : Value) (w_ruling : Value) (w_spare : Value) (q_feltNotes_first : Nat) (q_feltNotes_second : Nat) (x_feltNotes_most : Int32) (x_feltNotes_size : Int32) (f_feltNotes_first : Nat → Int32) (w_now_load : Value) (w_now_sag : Value) (w_now_joy : Value) (w_now_bowl : Value) (w_now_grief : Value) (q_now_place : Nat) (x_now_arches : Int32) (x_now_cats : Int32) (x_now_store : Int32) (x_now_hour : Int32) (x_now_drops : Int32) (f_now_place : Nat → Int32) (f_purrs : Nat → Int32) (f_feltNotes_second : Nat → Int32) (Post : Int32 → Prop) (hg : p_X7_fitsWithout F p1 x_feltNotes_size f_feltNotes_first x_now_cats f_now_place f_purrs f_feltNotes_second Post) : MRi l D cT yX7_fitsWithout cX7_fitsWithout 3 (some .boolean) 1 24 [.ref h, .int p1] [(h, oX7 w_text w_told (.ref q_now) w_before w_trial w_past w_kept (.ref q_feltNotes) w_heardNotes w_draws (.ref q_purrs) w_alone w_nimbers w_ways w_ruling w_spare), (q_feltNotes, oX1 (.ref q_feltNotes_first) (.ref q_feltNotes_second) (.int x_feltNotes_most) (.int x_feltNotes_size)), (q_feltNotes_first, aI cT 12 f_feltNotes_first), (q_now, oX6 w_now_load w_now_sag w_now_joy w_now_bowl w_now_grief (.ref q_now_place) (.int x_now_arches) (.int x_now_cats) (.int x_now_store) (.int x_now_hour) (.int x_now_drops)), (q_now_place, aI cT 8 f_now_place), (q_purrs, aI cT 8 f_purrs), (q_feltNotes_second, aI cT 12 f_feltNotes_second)] Post := by
  refine MRi.of (by decide) (Nat.le_of_ble_eq_true rfl) ?_
  intro p e s m below meth c hA C0 hr hP hD hS ls hl
  have hl : lv_has ls 3 [(0, .ref h), (1, .int p1)] := hl
  have hx := C0.x
  have hb := C0.b
  have hP : va_P D cls9 [(h, oX7 w_text w_told (.ref q_now) w_before w_trial w_past w_kept (.ref q_feltNotes) w_heardNotes w_draws (.ref q_purrs) w_alone w_nimbers w_ways w_ruling w_spare), (q_feltNotes, oX1 (.ref q_feltNotes_first) (.ref q_feltNotes_second) (.int x_feltNotes_most) (.int x_feltNotes_size)), (q_feltNotes_first, aI cT 12 f_feltNotes_first), (q_now, oX6 w_now_load w_now_sag w_now_joy w_now_bowl w_now_grief (.ref q_now_place) (.int x_now_arches) (.int x_now_cats) (.int x_now_store) (.int x_now_hour) (.int x_now_drops)), (q_now_place, aI cT 8 f_now_place), (q_purrs, aI cT 8 f_purrs), (q_feltNotes_second, aI cT 12 f_feltNotes_second)] s.heap := hP
  have hD : va_D (fun q => cT 6 ≤ q) [(h, oX7 w_text w_told (.ref q_now) w_before w_trial w_past w_kept (.ref q_feltNotes) w_heardNotes w_draws (.ref q_purrs) w_alone w_nimbers w_ways w_ruling w_spare), (q_feltNotes, oX1 (.ref q_feltNotes_first) (.ref q_feltNotes_second) (.int x_feltNotes_most) (.int x_feltNotes_size)), (q_feltNotes_first, aI cT 12 f_feltNotes_first), (q_now, oX6 w_now_load w_now_sag w_now_joy w_now_bowl w_now_grief (.ref q_now_place) (.int x_now_arches) (.int x_now_cats) (.int x_now_store) (.int x_now_hour) (.int x_now_drops)), (q_now_place, aI cT 8 f_now_place), (q_purrs, aI cT 8 f_purrs), (q_feltNotes_second, aI cT 12 f_feltNotes_second)] := hD
  have L2 : ∀ (n2 : Nat) (y2_2 : Int32) (ls : Array Slot), p_X7_fitsWithout_2 F p1 x_feltNotes_size f_feltNotes_first x_now_cats f_now_place f_purrs f_feltNotes_second Post n2 y2_2 → lv_has ls 3 [(0, .ref h), (1, .int p1), (2, .int y2_2)] → W p l e (rmO 1 24 0 0) s m ([.ref h, .int p1] : List Value).toArray below meth c s.heap [] 0 0 (MQ below (vp_Si Post) ([.ref h, .int p1] : List Value).toArray s 0 0 (fun _ => False)) (F0 m 2 ls []) := by
    intro n2
    induction n2 with
    | zero =>
      intro y2_2 ls hg hl
      exact False.elim hg
    | succ n2 ih2 =>
      intro y2_2 ls hg hl
      rw [p_X7_fitsWithout_2_s] at hg
      refine lv_iload_n hx hb dX7_fitsWithout_2 rfl (lv_at hl 2 rfl) ?_
      refine lv_aload_n hx hb dX7_fitsWithout_3 rfl (lv_at hl 0 rfl) ?_
      refine gf_X7_52 C0 hP 0 rfl rfl dX7_fitsWithout_4 ?_
      refine gf_X7_322 C0 hP 1 rfl rfl dX7_fitsWithout_7 ?_
      refine lv_icmp_ge (tgt := 47) hx hb dX7_fitsWithout_10 (by decide) (fun c_10 => ?_) (fun c_10 => ?_)
      · have hg := hg.1 c_10
        refine lv_iconst (v := (1 : Int32)) hx hb dX7_fitsWithout_47 (by decide) ?_
        exact k_xzret C0 hr (Or.inr rfl) hg dX7_fitsWithout_48
      have hg := hg.2 c_10
      refine lv_aload_n hx hb dX7_fitsWithout_13 rfl (lv_at hl 0 rfl) ?_
      refine lv_aload_n hx hb dX7_fitsWithout_14 rfl (lv_at hl 0 rfl) ?_
      refine gf_X7_52 C0 hP 0 rfl rfl dX7_fitsWithout_15 ?_
      refine gf_X7_323 C0 hP 1 rfl rfl dX7_fitsWithout_18 ?_
      refine lv_iload_n hx hb dX7_fitsWithout_21 rfl (lv_at hl 2 rfl) ?_
      obtain ⟨g_22, hg⟩ := hg
      refine k_iald C0 hP 2 rfl g_22 dX7_fitsWithout_22 ?_
      refine lv_iload_n hx hb dX7_fitsWithout_23 rfl (lv_at hl 1 rfl) ?_
      refine k_Vxi (rest := []) C0 lk_X7_326 (c_X7_holdWithout l D cT F h (f_feltNotes_first y2_2.toNatClampNeg) p1 w_text w_told q_now w_before w_trial w_past w_kept (.ref q_feltNotes) w_heardNotes w_draws q_purrs w_alone w_nimbers w_ways w_ruling w_spare w_now_load w_now_sag w_now_joy w_now_bowl w_now_grief q_now_place x_now_arches x_now_cats x_now_store x_now_hour x_now_drops f_now_place f_purrs _ hg) hP hD hS hA [0, 3, 4, 5] (by decide +kernel) rfl rfl rfl ⟨Nat.le_of_ble_eq_true rfl, Nat.le_of_ble_eq_true rfl⟩ rfl hl.1 rfl (Nat.le_of_ble_eq_true rfl) dX7_fitsWithout_24 ⟨Nat.le_of_ble_eq_true rfl, Nat.le_of_ble_eq_true rfl⟩ (fun r_24 hg => ?_)
      refine lv_aload_n hx hb dX7_fitsWithout_27 rfl (lv_at hl 0 rfl) ?_
      refine gf_X7_52 C0 hP 0 rfl rfl dX7_fitsWithout_28 ?_
      refine gf_X7_329 C0 hP 1 rfl rfl dX7_fitsWithout_31 ?_
      refine lv_iload_n hx hb dX7_fitsWithout_34 rfl (lv_at hl 2 rfl) ?_
      obtain ⟨g_35, hg⟩ := hg
      refine k_iald C0 hP 6 rfl g_35 dX7_fitsWithout_35 ?_
      refine lv_icmp_eq (tgt := 41) hx hb dX7_fitsWithout_36 (by decide) (fun c_36 => ?_) (fun c_36 => ?_)
      · have hg := hg.1 c_36
        refine lv_iinc (v := (y2_2 + (1 : Int32))) (lv' := [(2, .int (y2_2 + (1 : Int32))), (0, .ref h), (1, .int p1)]) hx hb dX7_fitsWithout_41 hl (k := 2) rfl rfl (by decide) rfl (fun ls hl => ?_)
        refine lv_goto (tgt := 2) hx hb dX7_fitsWithout_44 (by decide) ?_
        exact ih2 (y2_2 + (1 : Int32)) _ hg (lv_sub hl [1, 2, 0] rfl)
      have hg := hg.2 c_36
      refine lv_iconst (v := (0 : Int32)) hx hb dX7_fitsWithout_39 (by decide) ?_
      exact k_xzret C0 hr (Or.inl rfl) hg dX7_fitsWithout_40
  unfold p_X7_fitsWithout at hg
  refine lv_iconst (v := (0 : Int32)) hx hb dX7_fitsWithout_0 (by decide) ?_
  refine lv_istore_n (lv' := [(2, .int (0 : Int32)), (0, .ref h), (1, .int p1)]) hx hb dX7_fitsWithout_1 rfl hl (by decide) rfl (fun ls hl => ?_)
  exact L2 F (0 : Int32) _ hg (lv_sub hl [1, 2, 0] rfl)
theorem dX7_fittingCats_0 : decode cX7_fittingCats 0 = .ok (.iconst 0, 1) := by decide +kernel
theorem dX7_fittingCats_1 : decode cX7_fittingCats 1 = .ok (.istore_n 1, 1) := by decide +kernel
theorem dX7_fittingCats_2 : decode cX7_fittingCats 2 = .ok (.iconst 0, 1) := by decide +kernel
theorem dX7_fittingCats_3 : decode cX7_fittingCats 3 = .ok (.istore_n 2, 1) := by decide +kernel
theorem dX7_fittingCats_4 : decode cX7_fittingCats 4 = .ok (.iload_n 2, 1) := by decide +kernel
theorem dX7_fittingCats_5 : decode cX7_fittingCats 5 = .ok (.aload_n 0, 1) := by decide +kernel
theorem dX7_fittingCats_6 : decode cX7_fittingCats 6 = .ok (.getfield 26, 3) := by decide +kernel
theorem dX7_fittingCats_9 : decode cX7_fittingCats 9 = .ok (.getfield 118, 3) := by decide +kernel
theorem dX7_fittingCats_12 : decode cX7_fittingCats 12 = .ok (.if_icmp .ge 27, 3) := by decide +kernel
theorem dX7_fittingCats_15 : decode cX7_fittingCats 15 = .ok (.iload_n 1, 1) := by decide +kernel
theorem dX7_fittingCats_16 : decode cX7_fittingCats 16 = .ok (.aload_n 0, 1) := by decide +kernel
theorem dX7_fittingCats_17 : decode cX7_fittingCats 17 = .ok (.iload_n 2, 1) := by decide +kernel
theorem dX7_fittingCats_18 : decode cX7_fittingCats 18 = .ok (.invokevirtual 319, 3) := by decide +kernel
theorem dX7_fittingCats_21 : decode cX7_fittingCats 21 = .ok (.ifCond .eq 9, 3) := by decide +kernel
theorem dX7_fittingCats_24 : decode cX7_fittingCats 24 = .ok (.iconst 1, 1) := by decide +kernel
theorem dX7_fittingCats_25 : decode cX7_fittingCats 25 = .ok (.iload_n 2, 1) := by decide +kernel
theorem dX7_fittingCats_26 : decode cX7_fittingCats 26 = .ok (.ishl, 1) := by decide +kernel
theorem dX7_fittingCats_27 : decode cX7_fittingCats 27 = .ok (.goto 4, 3) := by decide +kernel
theorem dX7_fittingCats_30 : decode cX7_fittingCats 30 = .ok (.iconst 0, 1) := by decide +kernel
theorem dX7_fittingCats_31 : decode cX7_fittingCats 31 = .ok (.ior, 1) := by decide +kernel
theorem dX7_fittingCats_32 : decode cX7_fittingCats 32 = .ok (.istore_n 1, 1) := by decide +kernel
theorem dX7_fittingCats_33 : decode cX7_fittingCats 33 = .ok (.iinc 2 1, 3) := by decide +kernel
theorem dX7_fittingCats_36 : decode cX7_fittingCats 36 = .ok (.goto (-32), 3) := by decide +kernel
theorem dX7_fittingCats_39 : decode cX7_fittingCats 39 = .ok (.iload_n 1, 1) := by decide +kernel
theorem dX7_fittingCats_40 : decode cX7_fittingCats 40 = .ok (.ireturn, 1) := by decide +kernel
def p_X7_fittingCats_31 (F : Nat) (y2_4 : Int32) (y1_4 : Int32) (k4 : Int32 → Int32 → Prop) (Post : Int32 → Prop) (s1_31 : Int32) : Prop := (k4 (y2_4 + (1 : Int32)) (y1_4 ||| s1_31))
noncomputable def p_X7_fittingCats_4 (F : Nat) (x_now_cats : Int32) (x_feltNotes_size : Int32) (f_feltNotes_first : Nat → Int32) (f_now_place : Nat → Int32) (f_purrs : Nat → Int32) (f_feltNotes_second : Nat → Int32) (Post : Int32 → Prop) (n : Nat) : Int32 → Int32 → Prop := Nat.rec (motive := fun _ => Int32 → Int32 → Prop) (fun _ _ => False) (fun _ k4 => fun (y2_4 : Int32) (y1_4 : Int32) => ((x_now_cats ≤ y2_4 → (Post y1_4)) ∧ (¬ x_now_cats ≤ y2_4 → (p_X7_fitsWithout F y2_4 x_feltNotes_size f_feltNotes_first x_now_cats f_now_place f_purrs f_feltNotes_second (fun (r_18 : Int32) => ((r_18 = 0 → (p_X7_fittingCats_31 F y2_4 y1_4 k4 Post (0 : Int32))) ∧ (¬ r_18 = 0 → (p_X7_fittingCats_31 F y2_4 y1_4 k4 Post ((1 : Int32) <<< (y2_4 &&& 31)))))))))) n
theorem p_X7_fittingCats_4_s (F : Nat) (x_now_cats : Int32) (x_feltNotes_size : Int32) (f_feltNotes_first : Nat → Int32) (f_now_place : Nat → Int32) (f_purrs : Nat → Int32) (f_feltNotes_second : Nat → Int32) (Post : Int32 → Prop) (n : Nat) (y2_4 : Int32) (y1_4 : Int32) : p_X7_fittingCats_4 F x_now_cats x_feltNotes_size f_feltNotes_first f_now_place f_purrs f_feltNotes_second Post (n + 1) y2_4 y1_4 = ((x_now_cats ≤ y2_4 → (Post y1_4)) ∧ (¬ x_now_cats ≤ y2_4 → (p_X7_fitsWithout F y2_4 x_feltNotes_size f_feltNotes_first x_now_cats f_now_place f_purrs f_feltNotes_second (fun (r_18 : Int32) => ((r_18 = 0 → (p_X7_fittingCats_31 F y2_4 y1_4 (p_X7_fittingCats_4 F x_now_cats x_feltNotes_size f_feltNotes_first f_now_place f_purrs f_feltNotes_second Post n) Post (0 : Int32))) ∧ (¬ r_18 = 0 → (p_X7_fittingCats_31 F y2_4 y1_4 (p_X7_fittingCats_4 F x_now_cats x_feltNotes_size f_feltNotes_first f_now_place f_purrs f_feltNotes_second Post n) Post ((1 : Int32) <<< (y2_4 &&& 31))))))))) := rfl
def p_X7_fittingCats (F : Nat) (x_now_cats : Int32) (x_feltNotes_size : Int32) (f_feltNotes_first : Nat → Int32) (f_now_place : Nat → Int32) (f_purrs : Nat → Int32) (f_feltNotes_second : Nat → Int32) (Post : Int32 → Prop) : Prop := (p_X7_fittingCats_4 F x_now_cats x_feltNotes_size f_feltNotes_first f_now_place f_purrs f_feltNotes_second Post F (0 : Int32) (0 : Int32))
set_option maxHeartbeats 4000000 in
set_option maxRecDepth 100000 in
theorem c_X7_fittingCats (l : Launch) (D : va_G) (cT : Nat → ClassId) (F : Nat) (h : Nat) (w_text : Value) (w_told : Value) (q_now : Nat) (w_before : Value) (w_trial : Value) (w_past : Value) (w_kept : Value) (q_feltNotes : Nat) (w_heardNotes : Value) (w_draws : Value) (q_purrs : Nat) (w_alone : Value) (w_nimbers : Value) (w_ways : Value) (w_ruling : Value) (w_spare : Value) (w_now_load : Value) (w_now_sag : Value) (w_now_joy : Value) (w_now_bowl : Value) (w_now_grief : Value) (q_now_place : Nat) (x_now_arches : Int32) (x_now_cats : Int32) (x_now_store : Int32) (x_now_hour : Int32) (x_now_drops : Int32) (q_feltNotes_first : Nat) (q_feltNotes_second : Nat) (x_feltNotes_most : Int32) (x_feltNotes_size : Int32) (f_feltNotes_first : Nat → Int32) (f_now_place : Nat → Int32) (f_purrs : Nat → Int32) (f_feltNotes_second : Nat → Int32) (Post : Int32 → Prop) (hg : p_X7_fittingCats F x_now_cats x_feltNotes_size f_feltNotes_first f_now_place f_purrs f_feltNotes_second Post) : MRi l D cT yX7_fittingCats cX7_fittingCats 3 (some .int) 2 46 [.ref h] [(h, oX7 w_text w_told (.ref q_now) w_before w_trial w_past w_kept (.ref q_feltNotes) w_heardNotes w_draws (.ref q_purrs) w_alone w_nimbers w_ways w_ruling w_spare), (q_now, oX6 w_now_load w_now_sag w_now_joy w_now_bowl w_now_grief (.ref q_now_place) (.int x_now_arches) (.int x_now_cats) (.int x_now_store) (.int x_now_hour) (.int x_now_drops)), (q_feltNotes, oX1 (.ref q_feltNotes_first) (.ref q_feltNotes_second) (.int x_feltNotes_most) (.int x_feltNotes_size)), (q_feltNotes_first, aI cT 12 f_feltNotes_first), (q_now_place, aI cT 8 f_now_place), (q_purrs, aI cT 8 f_purrs), (q_feltNotes_second, aI cT 12 f_feltNotes_second)] Post := by
  refine MRi.of (by decide) (Nat.le_of_ble_eq_true rfl) ?_
  intro p e s m below meth c hA C0 hr hP hD hS ls hl
  have hl : lv_has ls 3 [(0, .ref h)] := hl
  have hx := C0.x
  have hb := C0.b
  have hP : va_P D cls9 [(h, oX7 w_text w_told (.ref q_now) w_before w_trial w_past w_kept (.ref q_feltNotes) w_heardNotes w_draws (.ref q_purrs) w_alone w_nimbers w_ways w_ruling w_spare), (q_now, oX6 w_now_load w_now_sag w_now_joy w_now_bowl w_now_grief (.ref q_now_place) (.int x_now_arches) (.int x_now_cats) (.int x_now_store) (.int x_now_hour) (.int x_now_drops)), (q_feltNotes, oX1 (.ref q_feltNotes_first) (.ref q_feltNotes_second) (.int x_feltNotes_most) (.int x_feltNotes_size)), (q_feltNotes_first, aI cT 12 f_feltNotes_first), (q_now_place, aI cT 8 f_now_place), (q_purrs, aI cT 8 f_purrs), (q_feltNotes_second, aI cT 12 f_feltNotes_second)] s.heap := hP
  have hD : va_D (fun q => cT 6 ≤ q) [(h, oX7 w_text w_told (.ref q_now) w_before w_trial w_past w_kept (.ref q_feltNotes) w_heardNotes w_draws (.ref q_purrs) w_alone w_nimbers w_ways w_ruling w_spare), (q_now, oX6 w_now_load w_now_sag w_now_joy w_now_bowl w_now_grief (.ref q_now_place) (.int x_now_arches) (.int x_now_cats) (.int x_now_store) (.int x_now_hour) (.int x_now_drops)), (q_feltNotes, oX1 (.ref q_feltNotes_first) (.ref q_feltNotes_second) (.int x_feltNotes_most) (.int x_feltNotes_size)), (q_feltNotes_first, aI cT 12 f_feltNotes_first), (q_now_place, aI cT 8 f_now_place), (q_purrs, aI cT 8 f_purrs), (q_feltNotes_second, aI cT 12 f_feltNotes_second)] := hD
  have L4 : ∀ (n4 : Nat) (y2_4 : Int32) (y1_4 : Int32) (ls : Array Slot), p_X7_fittingCats_4 F x_now_cats x_feltNotes_size f_feltNotes_first f_now_place f_purrs f_feltNotes_second Post n4 y2_4 y1_4 → lv_has ls 3 [(0, .ref h), (1, .int y1_4), (2, .int y2_4)] → W p l e (rmO 2 46 0 0) s m ([.ref h] : List Value).toArray below meth c s.heap [] 0 0 (MQ below (vp_Si Post) ([.ref h] : List Value).toArray s 0 0 (fun _ => False)) (F0 m 4 ls []) := by
    intro n4
    induction n4 with
    | zero =>
      intro y2_4 y1_4 ls hg hl
      exact False.elim hg
    | succ n4 ih4 =>
      have L31 : ∀ (y2_4 : Int32) (y1_4 : Int32) (s1_31 : Int32) (ls : Array Slot), p_X7_fittingCats_31 F y2_4 y1_4 (p_X7_fittingCats_4 F x_now_cats x_feltNotes_size f_feltNotes_first f_now_place f_purrs f_feltNotes_second Post n4) Post s1_31 → lv_has ls 3 [(0, .ref h), (2, .int y2_4)] → W p l e (rmO 2 46 0 0) s m ([.ref h] : List Value).toArray below meth c s.heap [] 0 0 (MQ below (vp_Si Post) ([.ref h] : List Value).toArray s 0 0 (fun _ => False)) (F0 m 31 ls [.int s1_31, .int y1_4]) := by
        intro y2_4 y1_4 s1_31 ls hg hl
        unfold p_X7_fittingCats_31 at hg
        refine lv_ior hx hb dX7_fittingCats_31 ?_
        refine lv_istore_n (lv' := [(1, .int (y1_4 ||| s1_31)), (0, .ref h), (2, .int y2_4)]) hx hb dX7_fittingCats_32 rfl hl (by decide) rfl (fun ls hl => ?_)
        refine lv_iinc (v := (y2_4 + (1 : Int32))) (lv' := [(2, .int (y2_4 + (1 : Int32))), (1, .int (y1_4 ||| s1_31)), (0, .ref h)]) hx hb dX7_fittingCats_33 hl (k := 2) rfl rfl (by decide) rfl (fun ls hl => ?_)
        refine lv_goto (tgt := 4) hx hb dX7_fittingCats_36 (by decide) ?_
        exact ih4 (y2_4 + (1 : Int32)) (y1_4 ||| s1_31) _ hg (lv_sub hl [2, 1, 0] rfl)
      intro y2_4 y1_4 ls hg hl
      rw [p_X7_fittingCats_4_s] at hg
      refine lv_iload_n hx hb dX7_fittingCats_4 rfl (lv_at hl 2 rfl) ?_
      refine lv_aload_n hx hb dX7_fittingCats_5 rfl (lv_at hl 0 rfl) ?_
      refine gf_X7_26 C0 hP 0 rfl rfl dX7_fittingCats_6 ?_
      refine gf_X7_118 C0 hP 1 rfl rfl dX7_fittingCats_9 ?_
      refine lv_icmp_ge (tgt := 39) hx hb dX7_fittingCats_12 (by decide) (fun c_12 => ?_) (fun c_12 => ?_)
      · have hg := hg.1 c_12
        refine lv_iload_n hx hb dX7_fittingCats_39 rfl (lv_at hl 1 rfl) ?_
        exact k_xiret C0 hr hg dX7_fittingCats_40
      have hg := hg.2 c_12
      refine lv_iload_n hx hb dX7_fittingCats_15 rfl (lv_at hl 1 rfl) ?_
      refine lv_aload_n hx hb dX7_fittingCats_16 rfl (lv_at hl 0 rfl) ?_
      refine lv_iload_n hx hb dX7_fittingCats_17 rfl (lv_at hl 2 rfl) ?_
      refine k_Vxi (rest := [.int y1_4]) C0 lk_X7_319 (c_X7_fitsWithout l D cT F h y2_4 w_text w_told q_now w_before w_trial w_past w_kept q_feltNotes w_heardNotes w_draws q_purrs w_alone w_nimbers w_ways w_ruling w_spare q_feltNotes_first q_feltNotes_second x_feltNotes_most x_feltNotes_size f_feltNotes_first w_now_load w_now_sag w_now_joy w_now_bowl w_now_grief q_now_place x_now_arches x_now_cats x_now_store x_now_hour x_now_drops f_now_place f_purrs f_feltNotes_second _ hg) hP hD hS hA [0, 2, 3, 1, 4, 5, 6] (by decide +kernel) rfl rfl rfl ⟨Nat.le_of_ble_eq_true rfl, Nat.le_of_ble_eq_true rfl⟩ rfl hl.1 rfl (Nat.le_of_ble_eq_true rfl) dX7_fittingCats_18 ⟨Nat.le_of_ble_eq_true rfl, Nat.le_of_ble_eq_true rfl⟩ (fun r_18 hg => ?_)
      refine lv_if_eq (tgt := 30) hx hb dX7_fittingCats_21 (by decide) (fun c_21 => ?_) (fun c_21 => ?_)
      · have hg := hg.1 c_21
        refine lv_iconst (v := (0 : Int32)) hx hb dX7_fittingCats_30 (by decide) ?_
        exact L31 y2_4 y1_4 (0 : Int32) _ hg (lv_sub hl [0, 2] rfl)
      have hg := hg.2 c_21
      refine lv_iconst (v := (1 : Int32)) hx hb dX7_fittingCats_24 (by decide) ?_
      refine lv_iload_n hx hb dX7_fittingCats_25 rfl (lv_at hl 2 rfl) ?_
      refine lv_ishl hx hb dX7_fittingCats_26 ?_
      refine lv_goto (tgt := 31) hx hb dX7_fittingCats_27 (by decide) ?_
      exact L31 y2_4 y1_4 ((1 : Int32) <<< (y2_4 &&& 31)) _ hg (lv_sub hl [0, 2] rfl)
  unfold p_X7_fittingCats at hg
  refine lv_iconst (v := (0 : Int32)) hx hb dX7_fittingCats_0 (by decide) ?_
  refine lv_istore_n (lv' := [(1, .int (0 : Int32)), (0, .ref h)]) hx hb dX7_fittingCats_1 rfl hl (by decide) rfl (fun ls hl => ?_)
  refine lv_iconst (v := (0 : Int32)) hx hb dX7_fittingCats_2 (by decide) ?_
  refine lv_istore_n (lv' := [(2, .int (0 : Int32)), (1, .int (0 : Int32)), (0, .ref h)]) hx hb dX7_fittingCats_3 rfl hl (by decide) rfl (fun ls hl => ?_)
  exact L4 F (0 : Int32) (0 : Int32) _ hg (lv_sub hl [2, 1, 0] rfl)
theorem dX7_fits_0 : decode cX7_fits 0 = .ok (.aload_n 0, 1) := by decide +kernel
theorem dX7_fits_1 : decode cX7_fits 1 = .ok (.invokevirtual 313, 3) := by decide +kernel
theorem dX7_fits_4 : decode cX7_fits 4 = .ok (.aload_n 0, 1) := by decide +kernel
theorem dX7_fits_5 : decode cX7_fits 5 = .ok (.invokevirtual 316, 3) := by decide +kernel
theorem dX7_fits_8 : decode cX7_fits 8 = .ok (.istore_n 1, 1) := by decide +kernel
theorem dX7_fits_9 : decode cX7_fits 9 = .ok (.aload_n 0, 1) := by decide +kernel
theorem dX7_fits_10 : decode cX7_fits 10 = .ok (.getfield 19, 3) := by decide +kernel
theorem dX7_fits_13 : decode cX7_fits 13 = .ok (.invokevirtual 201, 3) := by decide +kernel
theorem dX7_fits_16 : decode cX7_fits 16 = .ok (.iload_n 1, 1) := by decide +kernel
theorem dX7_fits_17 : decode cX7_fits 17 = .ok (.invokestatic 253, 3) := by decide +kernel
theorem dX7_fits_20 : decode cX7_fits 20 = .ok (.i2l, 1) := by decide +kernel
theorem dX7_fits_21 : decode cX7_fits 21 = .ok (.invokevirtual 205, 3) := by decide +kernel
theorem dX7_fits_24 : decode cX7_fits 24 = .ok (.aload_n 0, 1) := by decide +kernel
theorem dX7_fits_25 : decode cX7_fits 25 = .ok (.iconst (-1), 1) := by decide +kernel
theorem dX7_fits_26 : decode cX7_fits 26 = .ok (.invokevirtual 319, 3) := by decide +kernel
theorem dX7_fits_29 : decode cX7_fits 29 = .ok (.ifCond .eq 7, 3) := by decide +kernel
theorem dX7_fits_32 : decode cX7_fits 32 = .ok (.lconst 1, 1) := by decide +kernel
theorem dX7_fits_33 : decode cX7_fits 33 = .ok (.goto 4, 3) := by decide +kernel
theorem dX7_fits_36 : decode cX7_fits 36 = .ok (.lconst 0, 1) := by decide +kernel
theorem dX7_fits_37 : decode cX7_fits 37 = .ok (.invokevirtual 205, 3) := by decide +kernel
theorem dX7_fits_40 : decode cX7_fits 40 = .ok (.pop, 1) := by decide +kernel
theorem dX7_fits_41 : decode cX7_fits 41 = .ok (.iload_n 1, 1) := by decide +kernel
theorem dX7_fits_42 : decode cX7_fits 42 = .ok (.ireturn, 1) := by decide +kernel
def p_X7_fits_37 (F : Nat) (u_1 : (Int32 × (Nat → Int32) × (Nat → Int32))) (r_5 : Int32) (u_21 : (Int32 × (Nat → Int64))) (Post : Int32 → (Int32 × (Nat → Int32) × (Nat → Int32) × Int32 × (Nat → Int64)) → Prop) (s1_37 : Int64) : Prop := (p_X3_add F s1_37 u_21.1 u_21.2 (fun (u_37 : (Int32 × (Nat → Int64))) => (Post r_5 (u_1.1, u_1.2.1, u_1.2.2, u_37.1, u_37.2))))
def p_X7_fits (F : Nat) (x_now_arches : Int32) (x_now_cats : Int32) (x_now_hour : Int32) (x_ruling_size : Int32) (x_ruling_top : Int32) (f_now_place : Nat → Int32) (f_ruling_steps : Nat → Int32) (f_ruling_stack : Nat → Int32) (f_now_sag : Nat → Int32) (f_now_load : Nat → Int32) (f_now_joy : Nat → Int32) (f_now_grief : Nat → Int32) (f_now_bowl : Nat → Int32) (f_purrs : Nat → Int32) (x_feltNotes_size : Int32) (f_feltNotes_first : Nat → Int32) (f_feltNotes_second : Nat → Int32) (f_told_numbers : Nat → Int64) (Post : Int32 → (Int32 × (Nat → Int32) × (Nat → Int32) × Int32 × (Nat → Int64)) → Prop) : Prop := (p_X7_findPurrs F x_now_arches x_now_cats x_now_hour x_ruling_size x_ruling_top f_now_place f_ruling_steps f_ruling_stack f_now_sag f_now_load f_now_joy f_now_grief f_now_bowl f_purrs (fun (u_1 : (Int32 × (Nat → Int32) × (Nat → Int32))) => (p_X7_fittingCats F x_now_cats x_feltNotes_size f_feltNotes_first f_now_place u_1.2.2 f_feltNotes_second (fun (r_5 : Int32) => (p_X3_anew F (fun (u_13 : Int32) => (p_J6_bitCount_0f7a4 F r_5 (fun (r_17 : Int32) => (p_X3_add F (r_17.toInt64) u_13 f_told_numbers (fun (u_21 : (Int32 × (Nat → Int64))) => (p_X7_fitsWithout F (-1 : Int32) x_feltNotes_size f_feltNotes_first x_now_cats f_now_place u_1.2.2 f_feltNotes_second (fun (r_26 : Int32) => ((r_26 = 0 → (p_X7_fits_37 F u_1 r_5 u_21 Post (0 : Int64))) ∧ (¬ r_26 = 0 → (p_X7_fits_37 F u_1 r_5 u_21 Post (1 : Int64))))))))))))))))
set_option maxHeartbeats 4000000 in
set_option maxRecDepth 100000 in
theorem c_X7_fits (l : Launch) (D : va_G) (cT : Nat → ClassId) (F : Nat) (h : Nat) (w_text : Value) (q_told : Nat) (q_now : Nat) (w_before : Value) (w_trial : Value) (w_past : Value) (w_kept : Value) (q_feltNotes : Nat) (w_heardNotes : Value) (w_draws : Value) (q_purrs : Nat) (w_alone : Value) (w_nimbers : Value) (w_ways : Value) (q_ruling : Nat) (w_spare : Value) (q_now_load : Nat) (q_now_sag : Nat) (q_now_joy : Nat) (q_now_bowl : Nat) (q_now_grief : Nat) (q_now_place : Nat) (x_now_arches : Int32) (x_now_cats : Int32) (x_now_store : Int32) (x_now_hour : Int32) (x_now_drops : Int32) (q_ruling_steps : Nat) (q_ruling_stack : Nat) (x_ruling_size : Int32) (x_ruling_top : Int32) (x_ruling_open : Int32) (x_ruling_compared : Int32) (x_ruling_digits : Int32) (x_ruling_wantsThing : Int32) (f_now_place : Nat → Int32) (f_ruling_steps : Nat → Int32) (f_ruling_stack : Nat → Int32) (f_now_sag : Nat → Int32) (f_now_load : Nat → Int32) (f_now_joy : Nat → Int32) (f_now_grief : Nat → Int32) (f_now_bowl : Nat → Int32) (f_purrs : Nat → Int32) (q_feltNotes_first : Nat) (q_feltNotes_second : Nat) (x_feltNotes_most : Int32) (x_feltNotes_size : Int32) (f_feltNotes_first : Nat → Int32) (f_feltNotes_second : Nat → Int32) (q_told_numbers : Nat) (x_told_size : Int32) (f_told_numbers : Nat → Int64) (Post : Int32 → (Int32 × (Nat → Int32) × (Nat → Int32) × Int32 × (Nat → Int64)) → Prop) (hg : p_X7_fits F x_now_arches x_now_cats x_now_hour x_ruling_size x_ruling_top f_now_place f_ruling_steps f_ruling_stack f_now_sag f_now_load f_now_joy f_now_grief f_now_bowl f_purrs x_feltNotes_size f_feltNotes_first f_feltNotes_second f_told_numbers Post) : MWi l D cT yX7_fits cX7_fits 2 (some .int) 5 120 0 0 [.ref h] [(h, oX7 w_text (.ref q_told) (.ref q_now) w_before w_trial w_past w_kept (.ref q_feltNotes) w_heardNotes w_draws (.ref q_purrs) w_alone w_nimbers w_ways (.ref q_ruling) w_spare), (q_now, oX6 (.ref q_now_load) (.ref q_now_sag) (.ref q_now_joy) (.ref q_now_bowl) (.ref q_now_grief) (.ref q_now_place) (.int x_now_arches) (.int x_now_cats) (.int x_now_store) (.int x_now_hour) (.int x_now_drops)), (q_ruling, oX4 (.ref q_ruling_steps) (.ref q_ruling_stack) (.int x_ruling_size) (.int x_ruling_top) (.int x_ruling_open) (.int x_ruling_compared) (.int x_ruling_digits) (.int x_ruling_wantsThing)), (q_now_place, aI cT 8 f_now_place), (q_ruling_steps, aI cT 40 f_ruling_steps), (q_ruling_stack, aI cT 40 f_ruling_stack), (q_now_sag, aI cT 6 f_now_sag), (q_now_load, aI cT 6 f_now_load), (q_now_joy, aI cT 8 f_now_joy), (q_now_grief, aI cT 8 f_now_grief), (q_now_bowl, aI cT 8 f_now_bowl), (q_purrs, aI cT 8 f_purrs), (q_feltNotes, oX1 (.ref q_feltNotes_first) (.ref q_feltNotes_second) (.int x_feltNotes_most) (.int x_feltNotes_size)), (q_feltNotes_first, aI cT 12 f_feltNotes_first), (q_feltNotes_second, aI cT 12 f_feltNotes_second), (q_told, oX3 (.ref q_told_numbers) (.int x_told_size)), (q_told_numbers, aJ cT 8 f_told_numbers)] Post (fun (u : (Int32 × (Nat → Int32) × (Nat → Int32) × Int32 × (Nat → Int64))) => [(h, oX7 w_text (.ref q_told) (.ref q_now) w_before w_trial w_past w_kept (.ref q_feltNotes) w_heardNotes w_draws (.ref q_purrs) w_alone w_nimbers w_ways (.ref q_ruling) w_spare), (q_now, oX6 (.ref q_now_load) (.ref q_now_sag) (.ref q_now_joy) (.ref q_now_bowl) (.ref q_now_grief) (.ref q_now_place) (.int x_now_arches) (.int x_now_cats) (.int x_now_store) (.int x_now_hour) (.int x_now_drops)), (q_ruling, oX4 (.ref q_ruling_steps) (.ref q_ruling_stack) (.int x_ruling_size) (.int u.1) (.int x_ruling_open) (.int x_ruling_compared) (.int x_ruling_digits) (.int x_ruling_wantsThing)), (q_now_place, aI cT 8 f_now_place), (q_ruling_steps, aI cT 40 f_ruling_steps), (q_ruling_stack, aI cT 40 u.2.1), (q_now_sag, aI cT 6 f_now_sag), (q_now_load, aI cT 6 f_now_load), (q_now_joy, aI cT 8 f_now_joy), (q_now_grief, aI cT 8 f_now_grief), (q_now_bowl, aI cT 8 f_now_bowl), (q_purrs, aI cT 8 u.2.2.1), (q_feltNotes, oX1 (.ref q_feltNotes_first) (.ref q_feltNotes_second) (.int x_feltNotes_most) (.int x_feltNotes_size)), (q_feltNotes_first, aI cT 12 f_feltNotes_first), (q_feltNotes_second, aI cT 12 f_feltNotes_second), (q_told, oX3 (.ref q_told_numbers) (.int u.2.2.2.1)), (q_told_numbers, aJ cT 8 u.2.2.2.2)]) := by
  refine MWi.of (by decide) (Nat.le_of_ble_eq_true rfl) ?_
  intro p e s m below meth c A hA C0 hnm hr hP hD ls hl
  have hl : lv_has ls 2 [(0, .ref h)] := hl
  have hx := C0.x
  have hb := C0.b
  have hS : va_S A s.heap s.heap [] := va_S.rf
  have hP : va_P D cls9 [(h, oX7 w_text (.ref q_told) (.ref q_now) w_before w_trial w_past w_kept (.ref q_feltNotes) w_heardNotes w_draws (.ref q_purrs) w_alone w_nimbers w_ways (.ref q_ruling) w_spare), (q_now, oX6 (.ref q_now_load) (.ref q_now_sag) (.ref q_now_joy) (.ref q_now_bowl) (.ref q_now_grief) (.ref q_now_place) (.int x_now_arches) (.int x_now_cats) (.int x_now_store) (.int x_now_hour) (.int x_now_drops)), (q_ruling, oX4 (.ref q_ruling_steps) (.ref q_ruling_stack) (.int x_ruling_size) (.int x_ruling_top) (.int x_ruling_open) (.int x_ruling_compared) (.int x_ruling_digits) (.int x_ruling_wantsThing)), (q_now_place, aI cT 8 f_now_place), (q_ruling_steps, aI cT 40 f_ruling_steps), (q_ruling_stack, aI cT 40 f_ruling_stack), (q_now_sag, aI cT 6 f_now_sag), (q_now_load, aI cT 6 f_now_load), (q_now_joy, aI cT 8 f_now_joy), (q_now_grief, aI cT 8 f_now_grief), (q_now_bowl, aI cT 8 f_now_bowl), (q_purrs, aI cT 8 f_purrs), (q_feltNotes, oX1 (.ref q_feltNotes_first) (.ref q_feltNotes_second) (.int x_feltNotes_most) (.int x_feltNotes_size)), (q_feltNotes_first, aI cT 12 f_feltNotes_first), (q_feltNotes_second, aI cT 12 f_feltNotes_second), (q_told, oX3 (.ref q_told_numbers) (.int x_told_size)), (q_told_numbers, aJ cT 8 f_told_numbers)] s.heap := hP
  have hD : va_D A [(h, oX7 w_text (.ref q_told) (.ref q_now) w_before w_trial w_past w_kept (.ref q_feltNotes) w_heardNotes w_draws (.ref q_purrs) w_alone w_nimbers w_ways (.ref q_ruling) w_spare), (q_now, oX6 (.ref q_now_load) (.ref q_now_sag) (.ref q_now_joy) (.ref q_now_bowl) (.ref q_now_grief) (.ref q_now_place) (.int x_now_arches) (.int x_now_cats) (.int x_now_store) (.int x_now_hour) (.int x_now_drops)), (q_ruling, oX4 (.ref q_ruling_steps) (.ref q_ruling_stack) (.int x_ruling_size) (.int x_ruling_top) (.int x_ruling_open) (.int x_ruling_compared) (.int x_ruling_digits) (.int x_ruling_wantsThing)), (q_now_place, aI cT 8 f_now_place), (q_ruling_steps, aI cT 40 f_ruling_steps), (q_ruling_stack, aI cT 40 f_ruling_stack), (q_now_sag, aI cT 6 f_now_sag), (q_now_load, aI cT 6 f_now_load), (q_now_joy, aI cT 8 f_now_joy), (q_now_grief, aI cT 8 f_now_grief), (q_now_bowl, aI cT 8 f_now_bowl), (q_purrs, aI cT 8 f_purrs), (q_feltNotes, oX1 (.ref q_feltNotes_first) (.ref q_feltNotes_second) (.int x_feltNotes_most) (.int x_feltNotes_size)), (q_feltNotes_first, aI cT 12 f_feltNotes_first), (q_feltNotes_second, aI cT 12 f_feltNotes_second), (q_told, oX3 (.ref q_told_numbers) (.int x_told_size)), (q_told_numbers, aJ cT 8 f_told_numbers)] := hD
  have L37 : ∀ (u_1 : (Int32 × (Nat → Int32) × (Nat → Int32))) (r_5 : Int32) (u_21 : (Int32 × (Nat → Int64))) (s1_37 : Int64) (H : Heap) (locs : List Loc) (ls : Array Slot), p_X7_fits_37 F u_1 r_5 u_21 Post s1_37 → va_P D cls9 [(h, oX7 w_text (.ref q_told) (.ref q_now) w_before w_trial w_past w_kept (.ref q_feltNotes) w_heardNotes w_draws (.ref q_purrs) w_alone w_nimbers w_ways (.ref q_ruling) w_spare), (q_now, oX6 (.ref q_now_load) (.ref q_now_sag) (.ref q_now_joy) (.ref q_now_bowl) (.ref q_now_grief) (.ref q_now_place) (.int x_now_arches) (.int x_now_cats) (.int x_now_store) (.int x_now_hour) (.int x_now_drops)), (q_ruling, oX4 (.ref q_ruling_steps) (.ref q_ruling_stack) (.int x_ruling_size) (.int u_1.1) (.int x_ruling_open) (.int x_ruling_compared) (.int x_ruling_digits) (.int x_ruling_wantsThing)), (q_now_place, aI cT 8 f_now_place), (q_ruling_steps, aI cT 40 f_ruling_steps), (q_ruling_stack, aI cT 40 u_1.2.1), (q_now_sag, aI cT 6 f_now_sag), (q_now_load, aI cT 6 f_now_load), (q_now_joy, aI cT 8 f_now_joy), (q_now_grief, aI cT 8 f_now_grief), (q_now_bowl, aI cT 8 f_now_bowl), (q_purrs, aI cT 8 u_1.2.2), (q_feltNotes, oX1 (.ref q_feltNotes_first) (.ref q_feltNotes_second) (.int x_feltNotes_most) (.int x_feltNotes_size)), (q_feltNotes_first, aI cT 12 f_feltNotes_first), (q_feltNotes_second, aI cT 12 f_feltNotes_second), (q_told, oX3 (.ref q_told_numbers) (.int u_21.1)), (q_told_numbers, aJ cT 8 u_21.2)] H → va_D A [(h, oX7 w_text (.ref q_told) (.ref q_now) w_before w_trial w_past w_kept (.ref q_feltNotes) w_heardNotes w_draws (.ref q_purrs) w_alone w_nimbers w_ways (.ref q_ruling) w_spare), (q_now, oX6 (.ref q_now_load) (.ref q_now_sag) (.ref q_now_joy) (.ref q_now_bowl) (.ref q_now_grief) (.ref q_now_place) (.int x_now_arches) (.int x_now_cats) (.int x_now_store) (.int x_now_hour) (.int x_now_drops)), (q_ruling, oX4 (.ref q_ruling_steps) (.ref q_ruling_stack) (.int x_ruling_size) (.int u_1.1) (.int x_ruling_open) (.int x_ruling_compared) (.int x_ruling_digits) (.int x_ruling_wantsThing)), (q_now_place, aI cT 8 f_now_place), (q_ruling_steps, aI cT 40 f_ruling_steps), (q_ruling_stack, aI cT 40 u_1.2.1), (q_now_sag, aI cT 6 f_now_sag), (q_now_load, aI cT 6 f_now_load), (q_now_joy, aI cT 8 f_now_joy), (q_now_grief, aI cT 8 f_now_grief), (q_now_bowl, aI cT 8 f_now_bowl), (q_purrs, aI cT 8 u_1.2.2), (q_feltNotes, oX1 (.ref q_feltNotes_first) (.ref q_feltNotes_second) (.int x_feltNotes_most) (.int x_feltNotes_size)), (q_feltNotes_first, aI cT 12 f_feltNotes_first), (q_feltNotes_second, aI cT 12 f_feltNotes_second), (q_told, oX3 (.ref q_told_numbers) (.int u_21.1)), (q_told_numbers, aJ cT 8 u_21.2)] → va_S A s.heap H locs → lv_has ls 2 [(1, .int r_5)] → W p l e (rmO 5 120 0 0) s m ([.ref h] : List Value).toArray below meth c H locs 0 0 (MQ below (va_Qi Post (cB D A (fun (u : (Int32 × (Nat → Int32) × (Nat → Int32) × Int32 × (Nat → Int64))) => [(h, oX7 w_text (.ref q_told) (.ref q_now) w_before w_trial w_past w_kept (.ref q_feltNotes) w_heardNotes w_draws (.ref q_purrs) w_alone w_nimbers w_ways (.ref q_ruling) w_spare), (q_now, oX6 (.ref q_now_load) (.ref q_now_sag) (.ref q_now_joy) (.ref q_now_bowl) (.ref q_now_grief) (.ref q_now_place) (.int x_now_arches) (.int x_now_cats) (.int x_now_store) (.int x_now_hour) (.int x_now_drops)), (q_ruling, oX4 (.ref q_ruling_steps) (.ref q_ruling_stack) (.int x_ruling_size) (.int u.1) (.int x_ruling_open) (.int x_ruling_compared) (.int x_ruling_digits) (.int x_ruling_wantsThing)), (q_now_place, aI cT 8 f_now_place), (q_ruling_steps, aI cT 40 f_ruling_steps), (q_ruling_stack, aI cT 40 u.2.1), (q_now_sag, aI cT 6 f_now_sag), (q_now_load, aI cT 6 f_now_load), (q_now_joy, aI cT 8 f_now_joy), (q_now_grief, aI cT 8 f_now_grief), (q_now_bowl, aI cT 8 f_now_bowl), (q_purrs, aI cT 8 u.2.2.1), (q_feltNotes, oX1 (.ref q_feltNotes_first) (.ref q_feltNotes_second) (.int x_feltNotes_most) (.int x_feltNotes_size)), (q_feltNotes_first, aI cT 12 f_feltNotes_first), (q_feltNotes_second, aI cT 12 f_feltNotes_second), (q_told, oX3 (.ref q_told_numbers) (.int u.2.2.2.1)), (q_told_numbers, aJ cT 8 u.2.2.2.2)])) A) ([.ref h] : List Value).toArray s 0 0 A) (F0 m 37 ls [.long s1_37, .ref q_told]) := by
    intro u_1 r_5 u_21 s1_37 H locs ls hg hP hD hS hl
    unfold p_X7_fits_37 at hg
    refine k_Vr (rest := []) (wr := [(h, oX7 w_text (.ref q_told) (.ref q_now) w_before w_trial w_past w_kept (.ref q_feltNotes) w_heardNotes w_draws (.ref q_purrs) w_alone w_nimbers w_ways (.ref q_ruling) w_spare), (q_now, oX6 (.ref q_now_load) (.ref q_now_sag) (.ref q_now_joy) (.ref q_now_bowl) (.ref q_now_grief) (.ref q_now_place) (.int x_now_arches) (.int x_now_cats) (.int x_now_store) (.int x_now_hour) (.int x_now_drops)), (q_ruling, oX4 (.ref q_ruling_steps) (.ref q_ruling_stack) (.int x_ruling_size) (.int u_1.1) (.int x_ruling_open) (.int x_ruling_compared) (.int x_ruling_digits) (.int x_ruling_wantsThing)), (q_now_place, aI cT 8 f_now_place), (q_ruling_steps, aI cT 40 f_ruling_steps), (q_ruling_stack, aI cT 40 u_1.2.1), (q_now_sag, aI cT 6 f_now_sag), (q_now_load, aI cT 6 f_now_load), (q_now_joy, aI cT 8 f_now_joy), (q_now_grief, aI cT 8 f_now_grief), (q_now_bowl, aI cT 8 f_now_bowl), (q_purrs, aI cT 8 u_1.2.2), (q_feltNotes, oX1 (.ref q_feltNotes_first) (.ref q_feltNotes_second) (.int x_feltNotes_most) (.int x_feltNotes_size)), (q_feltNotes_first, aI cT 12 f_feltNotes_first), (q_feltNotes_second, aI cT 12 f_feltNotes_second)]) (w2 := fun u_37 => [(h, oX7 w_text (.ref q_told) (.ref q_now) w_before w_trial w_past w_kept (.ref q_feltNotes) w_heardNotes w_draws (.ref q_purrs) w_alone w_nimbers w_ways (.ref q_ruling) w_spare), (q_now, oX6 (.ref q_now_load) (.ref q_now_sag) (.ref q_now_joy) (.ref q_now_bowl) (.ref q_now_grief) (.ref q_now_place) (.int x_now_arches) (.int x_now_cats) (.int x_now_store) (.int x_now_hour) (.int x_now_drops)), (q_ruling, oX4 (.ref q_ruling_steps) (.ref q_ruling_stack) (.int x_ruling_size) (.int u_1.1) (.int x_ruling_open) (.int x_ruling_compared) (.int x_ruling_digits) (.int x_ruling_wantsThing)), (q_now_place, aI cT 8 f_now_place), (q_ruling_steps, aI cT 40 f_ruling_steps), (q_ruling_stack, aI cT 40 u_1.2.1), (q_now_sag, aI cT 6 f_now_sag), (q_now_load, aI cT 6 f_now_load), (q_now_joy, aI cT 8 f_now_joy), (q_now_grief, aI cT 8 f_now_grief), (q_now_bowl, aI cT 8 f_now_bowl), (q_purrs, aI cT 8 u_1.2.2), (q_feltNotes, oX1 (.ref q_feltNotes_first) (.ref q_feltNotes_second) (.int x_feltNotes_most) (.int x_feltNotes_size)), (q_feltNotes_first, aI cT 12 f_feltNotes_first), (q_feltNotes_second, aI cT 12 f_feltNotes_second), (q_told, oX3 (.ref q_told_numbers) (.int u_37.1)), (q_told_numbers, aJ cT 8 u_37.2)]) C0 lk_X7_205 (c_X3_add l D cT F q_told s1_37 q_told_numbers u_21.1 u_21.2 _ hg) hP hD hS hA [15, 16] [0, 1, 2, 3, 4, 5, 6, 7, 8, 9, 10, 11, 12, 13, 14] (by decide +kernel) rfl rfl (fun _ => rfl) rfl rfl ⟨Nat.le_of_ble_eq_true rfl, Nat.le_of_ble_eq_true rfl⟩ rfl hl.1 rfl (Nat.le_of_ble_eq_true rfl) dX7_fits_37 ⟨Nat.le_of_ble_eq_true rfl, Nat.le_of_ble_eq_true rfl⟩ ?_
    intro u_37 H locs hg hP hD hS
    refine lv_pop hx hb dX7_fits_40 rfl ?_
    refine lv_iload_n hx hb dX7_fits_41 rfl (lv_at hl 0 rfl) ?_
    exact k_iret C0 hr (u_1.1, u_1.2.1, u_1.2.2, u_37.1, u_37.2) hg hP hD hS dX7_fits_42
  unfold p_X7_fits at hg
  refine lv_aload_n hx hb dX7_fits_0 rfl (lv_at hl 0 rfl) ?_
  refine k_Vv (rest := []) (wr := [(q_feltNotes, oX1 (.ref q_feltNotes_first) (.ref q_feltNotes_second) (.int x_feltNotes_most) (.int x_feltNotes_size)), (q_feltNotes_first, aI cT 12 f_feltNotes_first), (q_feltNotes_second, aI cT 12 f_feltNotes_second), (q_told, oX3 (.ref q_told_numbers) (.int x_told_size)), (q_told_numbers, aJ cT 8 f_told_numbers)]) (w2 := fun u_1 => [(q_feltNotes, oX1 (.ref q_feltNotes_first) (.ref q_feltNotes_second) (.int x_feltNotes_most) (.int x_feltNotes_size)), (q_feltNotes_first, aI cT 12 f_feltNotes_first), (q_feltNotes_second, aI cT 12 f_feltNotes_second), (q_told, oX3 (.ref q_told_numbers) (.int x_told_size)), (q_told_numbers, aJ cT 8 f_told_numbers), (h, oX7 w_text (.ref q_told) (.ref q_now) w_before w_trial w_past w_kept (.ref q_feltNotes) w_heardNotes w_draws (.ref q_purrs) w_alone w_nimbers w_ways (.ref q_ruling) w_spare), (q_now, oX6 (.ref q_now_load) (.ref q_now_sag) (.ref q_now_joy) (.ref q_now_bowl) (.ref q_now_grief) (.ref q_now_place) (.int x_now_arches) (.int x_now_cats) (.int x_now_store) (.int x_now_hour) (.int x_now_drops)), (q_ruling, oX4 (.ref q_ruling_steps) (.ref q_ruling_stack) (.int x_ruling_size) (.int u_1.1) (.int x_ruling_open) (.int x_ruling_compared) (.int x_ruling_digits) (.int x_ruling_wantsThing)), (q_now_place, aI cT 8 f_now_place), (q_ruling_steps, aI cT 40 f_ruling_steps), (q_ruling_stack, aI cT 40 u_1.2.1), (q_now_sag, aI cT 6 f_now_sag), (q_now_load, aI cT 6 f_now_load), (q_now_joy, aI cT 8 f_now_joy), (q_now_grief, aI cT 8 f_now_grief), (q_now_bowl, aI cT 8 f_now_bowl), (q_purrs, aI cT 8 u_1.2.2)]) C0 lk_X7_313 (c_X7_findPurrs l D cT F h w_text (.ref q_told) q_now w_before w_trial w_past w_kept (.ref q_feltNotes) w_heardNotes w_draws q_purrs w_alone w_nimbers w_ways q_ruling w_spare q_now_load q_now_sag q_now_joy q_now_bowl q_now_grief q_now_place x_now_arches x_now_cats x_now_store x_now_hour x_now_drops q_ruling_steps q_ruling_stack x_ruling_size x_ruling_top x_ruling_open x_ruling_compared x_ruling_digits x_ruling_wantsThing f_now_place f_ruling_steps f_ruling_stack f_now_sag f_now_load f_now_joy f_now_grief f_now_bowl f_purrs _ hg) hP hD hS hA [0, 1, 2, 3, 4, 5, 6, 7, 8, 9, 10, 11] [12, 13, 14, 15, 16] (by decide +kernel) rfl rfl (fun _ => rfl) rfl rfl ⟨Nat.le_of_ble_eq_true rfl, Nat.le_of_ble_eq_true rfl⟩ rfl hl.1 rfl (Nat.le_of_ble_eq_true rfl) dX7_fits_1 ⟨Nat.le_of_ble_eq_true rfl, Nat.le_of_ble_eq_true rfl⟩ ?_
  intro u_1 H locs hg hP hD hS
  refine lv_aload_n hx hb dX7_fits_4 rfl (lv_at hl 0 rfl) ?_
  refine k_Vxi (rest := []) C0 lk_X7_316 (c_X7_fittingCats l D cT F h w_text (.ref q_told) q_now w_before w_trial w_past w_kept q_feltNotes w_heardNotes w_draws q_purrs w_alone w_nimbers w_ways (.ref q_ruling) w_spare (.ref q_now_load) (.ref q_now_sag) (.ref q_now_joy) (.ref q_now_bowl) (.ref q_now_grief) q_now_place x_now_arches x_now_cats x_now_store x_now_hour x_now_drops q_feltNotes_first q_feltNotes_second x_feltNotes_most x_feltNotes_size f_feltNotes_first f_now_place u_1.2.2 f_feltNotes_second _ hg) hP hD hS hA [5, 6, 0, 1, 8, 16, 2] (by decide +kernel) rfl rfl rfl ⟨Nat.le_of_ble_eq_true rfl, Nat.le_of_ble_eq_true rfl⟩ rfl hl.1 rfl (Nat.le_of_ble_eq_true rfl) dX7_fits_5 ⟨Nat.le_of_ble_eq_true rfl, Nat.le_of_ble_eq_true rfl⟩ (fun r_5 hg => ?_)
  refine lv_istore_n (lv' := [(1, .int r_5), (0, .ref h)]) hx hb dX7_fits_8 rfl hl (by decide) rfl (fun ls hl => ?_)
  refine lv_aload_n hx hb dX7_fits_9 rfl (lv_at hl 1 rfl) ?_
  refine gf_X7_19 C0 hP 5 rfl rfl dX7_fits_10 ?_
  refine k_Vr (rest := []) (wr := [(q_feltNotes, oX1 (.ref q_feltNotes_first) (.ref q_feltNotes_second) (.int x_feltNotes_most) (.int x_feltNotes_size)), (q_feltNotes_first, aI cT 12 f_feltNotes_first), (q_feltNotes_second, aI cT 12 f_feltNotes_second), (q_told_numbers, aJ cT 8 f_told_numbers), (h, oX7 w_text (.ref q_told) (.ref q_now) w_before w_trial w_past w_kept (.ref q_feltNotes) w_heardNotes w_draws (.ref q_purrs) w_alone w_nimbers w_ways (.ref q_ruling) w_spare), (q_now, oX6 (.ref q_now_load) (.ref q_now_sag) (.ref q_now_joy) (.ref q_now_bowl) (.ref q_now_grief) (.ref q_now_place) (.int x_now_arches) (.int x_now_cats) (.int x_now_store) (.int x_now_hour) (.int x_now_drops)), (q_ruling, oX4 (.ref q_ruling_steps) (.ref q_ruling_stack) (.int x_ruling_size) (.int u_1.1) (.int x_ruling_open) (.int x_ruling_compared) (.int x_ruling_digits) (.int x_ruling_wantsThing)), (q_now_place, aI cT 8 f_now_place), (q_ruling_steps, aI cT 40 f_ruling_steps), (q_ruling_stack, aI cT 40 u_1.2.1), (q_now_sag, aI cT 6 f_now_sag), (q_now_load, aI cT 6 f_now_load), (q_now_joy, aI cT 8 f_now_joy), (q_now_grief, aI cT 8 f_now_grief), (q_now_bowl, aI cT 8 f_now_bowl), (q_purrs, aI cT 8 u_1.2.2)]) (w2 := fun u_13 => [(q_feltNotes, oX1 (.ref q_feltNotes_first) (.ref q_feltNotes_second) (.int x_feltNotes_most) (.int x_feltNotes_size)), (q_feltNotes_first, aI cT 12 f_feltNotes_first), (q_feltNotes_second, aI cT 12 f_feltNotes_second), (q_told_numbers, aJ cT 8 f_told_numbers), (h, oX7 w_text (.ref q_told) (.ref q_now) w_before w_trial w_past w_kept (.ref q_feltNotes) w_heardNotes w_draws (.ref q_purrs) w_alone w_nimbers w_ways (.ref q_ruling) w_spare), (q_now, oX6 (.ref q_now_load) (.ref q_now_sag) (.ref q_now_joy) (.ref q_now_bowl) (.ref q_now_grief) (.ref q_now_place) (.int x_now_arches) (.int x_now_cats) (.int x_now_store) (.int x_now_hour) (.int x_now_drops)), (q_ruling, oX4 (.ref q_ruling_steps) (.ref q_ruling_stack) (.int x_ruling_size) (.int u_1.1) (.int x_ruling_open) (.int x_ruling_compared) (.int x_ruling_digits) (.int x_ruling_wantsThing)), (q_now_place, aI cT 8 f_now_place), (q_ruling_steps, aI cT 40 f_ruling_steps), (q_ruling_stack, aI cT 40 u_1.2.1), (q_now_sag, aI cT 6 f_now_sag), (q_now_load, aI cT 6 f_now_load), (q_now_joy, aI cT 8 f_now_joy), (q_now_grief, aI cT 8 f_now_grief), (q_now_bowl, aI cT 8 f_now_bowl), (q_purrs, aI cT 8 u_1.2.2), (q_told, oX3 (.ref q_told_numbers) (.int u_13))]) C0 lk_X7_201 (c_X3_anew l D cT F q_told (.ref q_told_numbers) x_told_size _ hg) hP hD hS hA [3] [0, 1, 2, 4, 5, 6, 7, 8, 9, 10, 11, 12, 13, 14, 15, 16] (by decide +kernel) rfl rfl (fun _ => rfl) rfl rfl ⟨Nat.le_of_ble_eq_true rfl, Nat.le_of_ble_eq_true rfl⟩ rfl hl.1 rfl (Nat.le_of_ble_eq_true rfl) dX7_fits_13 ⟨Nat.le_of_ble_eq_true rfl, Nat.le_of_ble_eq_true rfl⟩ ?_
  intro u_13 H locs hg hP hD hS
  refine lv_iload_n hx hb dX7_fits_16 rfl (lv_at hl 0 rfl) ?_
  refine k_Sxi (rest := [.ref q_told]) C0 lk_X7_253 (c_J6_bitCount_0f7a4 l D cT F r_5 _ hg) hP hD hS hA [] (by decide +kernel) rfl ⟨Nat.le_of_ble_eq_true rfl, Nat.le_of_ble_eq_true rfl⟩ rfl hl.1 rfl (Nat.le_of_ble_eq_true rfl) dX7_fits_17 ⟨Nat.le_of_ble_eq_true rfl, Nat.le_of_ble_eq_true rfl⟩ (fun r_17 hg => ?_)
  refine lv_i2l (v := (r_17.toInt64)) hx hb dX7_fits_20 rfl ?_
  refine k_Vr (rest := []) (wr := [(q_feltNotes, oX1 (.ref q_feltNotes_first) (.ref q_feltNotes_second) (.int x_feltNotes_most) (.int x_feltNotes_size)), (q_feltNotes_first, aI cT 12 f_feltNotes_first), (q_feltNotes_second, aI cT 12 f_feltNotes_second), (h, oX7 w_text (.ref q_told) (.ref q_now) w_before w_trial w_past w_kept (.ref q_feltNotes) w_heardNotes w_draws (.ref q_purrs) w_alone w_nimbers w_ways (.ref q_ruling) w_spare), (q_now, oX6 (.ref q_now_load) (.ref q_now_sag) (.ref q_now_joy) (.ref q_now_bowl) (.ref q_now_grief) (.ref q_now_place) (.int x_now_arches) (.int x_now_cats) (.int x_now_store) (.int x_now_hour) (.int x_now_drops)), (q_ruling, oX4 (.ref q_ruling_steps) (.ref q_ruling_stack) (.int x_ruling_size) (.int u_1.1) (.int x_ruling_open) (.int x_ruling_compared) (.int x_ruling_digits) (.int x_ruling_wantsThing)), (q_now_place, aI cT 8 f_now_place), (q_ruling_steps, aI cT 40 f_ruling_steps), (q_ruling_stack, aI cT 40 u_1.2.1), (q_now_sag, aI cT 6 f_now_sag), (q_now_load, aI cT 6 f_now_load), (q_now_joy, aI cT 8 f_now_joy), (q_now_grief, aI cT 8 f_now_grief), (q_now_bowl, aI cT 8 f_now_bowl), (q_purrs, aI cT 8 u_1.2.2)]) (w2 := fun u_21 => [(q_feltNotes, oX1 (.ref q_feltNotes_first) (.ref q_feltNotes_second) (.int x_feltNotes_most) (.int x_feltNotes_size)), (q_feltNotes_first, aI cT 12 f_feltNotes_first), (q_feltNotes_second, aI cT 12 f_feltNotes_second), (h, oX7 w_text (.ref q_told) (.ref q_now) w_before w_trial w_past w_kept (.ref q_feltNotes) w_heardNotes w_draws (.ref q_purrs) w_alone w_nimbers w_ways (.ref q_ruling) w_spare), (q_now, oX6 (.ref q_now_load) (.ref q_now_sag) (.ref q_now_joy) (.ref q_now_bowl) (.ref q_now_grief) (.ref q_now_place) (.int x_now_arches) (.int x_now_cats) (.int x_now_store) (.int x_now_hour) (.int x_now_drops)), (q_ruling, oX4 (.ref q_ruling_steps) (.ref q_ruling_stack) (.int x_ruling_size) (.int u_1.1) (.int x_ruling_open) (.int x_ruling_compared) (.int x_ruling_digits) (.int x_ruling_wantsThing)), (q_now_place, aI cT 8 f_now_place), (q_ruling_steps, aI cT 40 f_ruling_steps), (q_ruling_stack, aI cT 40 u_1.2.1), (q_now_sag, aI cT 6 f_now_sag), (q_now_load, aI cT 6 f_now_load), (q_now_joy, aI cT 8 f_now_joy), (q_now_grief, aI cT 8 f_now_grief), (q_now_bowl, aI cT 8 f_now_bowl), (q_purrs, aI cT 8 u_1.2.2), (q_told, oX3 (.ref q_told_numbers) (.int u_21.1)), (q_told_numbers, aJ cT 8 u_21.2)]) C0 lk_X7_205 (c_X3_add l D cT F q_told (r_17.toInt64) q_told_numbers u_13 f_told_numbers _ hg) hP hD hS hA [16, 3] [0, 1, 2, 4, 5, 6, 7, 8, 9, 10, 11, 12, 13, 14, 15] (by decide +kernel) rfl rfl (fun _ => rfl) rfl rfl ⟨Nat.le_of_ble_eq_true rfl, Nat.le_of_ble_eq_true rfl⟩ rfl hl.1 rfl (Nat.le_of_ble_eq_true rfl) dX7_fits_21 ⟨Nat.le_of_ble_eq_true rfl, Nat.le_of_ble_eq_true rfl⟩ ?_
  intro u_21 H locs hg hP hD hS
  refine lv_aload_n hx hb dX7_fits_24 rfl (lv_at hl 1 rfl) ?_
  refine lv_iconst (v := (-1 : Int32)) hx hb dX7_fits_25 (by decide) ?_
  refine k_Vxi (rest := [.ref q_told]) C0 lk_X7_319 (c_X7_fitsWithout l D cT F h (-1 : Int32) w_text (.ref q_told) q_now w_before w_trial w_past w_kept q_feltNotes w_heardNotes w_draws q_purrs w_alone w_nimbers w_ways (.ref q_ruling) w_spare q_feltNotes_first q_feltNotes_second x_feltNotes_most x_feltNotes_size f_feltNotes_first (.ref q_now_load) (.ref q_now_sag) (.ref q_now_joy) (.ref q_now_bowl) (.ref q_now_grief) q_now_place x_now_arches x_now_cats x_now_store x_now_hour x_now_drops f_now_place u_1.2.2 f_feltNotes_second _ hg) hP hD hS hA [3, 0, 1, 4, 6, 14, 2] (by decide +kernel) rfl rfl rfl ⟨Nat.le_of_ble_eq_true rfl, Nat.le_of_ble_eq_true rfl⟩ rfl hl.1 rfl (Nat.le_of_ble_eq_true rfl) dX7_fits_26 ⟨Nat.le_of_ble_eq_true rfl, Nat.le_of_ble_eq_true rfl⟩ (fun r_26 hg => ?_)
  refine lv_if_eq (tgt := 36) hx hb dX7_fits_29 (by decide) (fun c_29 => ?_) (fun c_29 => ?_)
  · have hg := hg.1 c_29
    refine lv_lconst (v := (0 : Int64)) hx hb dX7_fits_36 (by decide) ?_
    exact L37 u_1 r_5 u_21 (0 : Int64) _ _ _ hg (subP hP [3, 4, 5, 6, 7, 8, 9, 10, 11, 12, 13, 14, 0, 1, 2, 15, 16] rfl) (hD.sub [3, 4, 5, 6, 7, 8, 9, 10, 11, 12, 13, 14, 0, 1, 2, 15, 16] (nd2_ok _ (by decide +kernel)) rfl) hS (lv_sub hl [0] rfl)
  have hg := hg.2 c_29
  refine lv_lconst (v := (1 : Int64)) hx hb dX7_fits_32 (by decide) ?_
  refine lv_goto (tgt := 37) hx hb dX7_fits_33 (by decide) ?_
  exact L37 u_1 r_5 u_21 (1 : Int64) _ _ _ hg (subP hP [3, 4, 5, 6, 7, 8, 9, 10, 11, 12, 13, 14, 0, 1, 2, 15, 16] rfl) (hD.sub [3, 4, 5, 6, 7, 8, 9, 10, 11, 12, 13, 14, 0, 1, 2, 15, 16] (nd2_ok _ (by decide +kernel)) rfl) hS (lv_sub hl [0] rfl)
theorem dX7_mostLeft_0 : decode cX7_mostLeft 0 = .ok (.iconst 0, 1) := by decide +kernel
theorem dX7_mostLeft_1 : decode cX7_mostLeft 1 = .ok (.istore_n 3, 1) := by decide +kernel
theorem dX7_mostLeft_2 : decode cX7_mostLeft 2 = .ok (.iconst 0, 1) := by decide +kernel
theorem dX7_mostLeft_3 : decode cX7_mostLeft 3 = .ok (.istore 4, 2) := by decide +kernel
theorem dX7_mostLeft_5 : decode cX7_mostLeft 5 = .ok (.iload 4, 2) := by decide +kernel
theorem dX7_mostLeft_7 : decode cX7_mostLeft 7 = .ok (.aload_n 0, 1) := by decide +kernel
theorem dX7_mostLeft_8 : decode cX7_mostLeft 8 = .ok (.getfield 26, 3) := by decide +kernel
theorem dX7_mostLeft_11 : decode cX7_mostLeft 11 = .ok (.getfield 118, 3) := by decide +kernel
theorem dX7_mostLeft_14 : decode cX7_mostLeft 14 = .ok (.if_icmp .ge 94, 3) := by decide +kernel
theorem dX7_mostLeft_17 : decode cX7_mostLeft 17 = .ok (.iconst 0, 1) := by decide +kernel
theorem dX7_mostLeft_18 : decode cX7_mostLeft 18 = .ok (.istore 5, 2) := by decide +kernel
theorem dX7_mostLeft_20 : decode cX7_mostLeft 20 = .ok (.iconst 0, 1) := by decide +kernel
theorem dX7_mostLeft_21 : decode cX7_mostLeft 21 = .ok (.istore 6, 2) := by decide +kernel
theorem dX7_mostLeft_23 : decode cX7_mostLeft 23 = .ok (.iload 6, 2) := by decide +kernel
theorem dX7_mostLeft_25 : decode cX7_mostLeft 25 = .ok (.aload_n 0, 1) := by decide +kernel
theorem dX7_mostLeft_26 : decode cX7_mostLeft 26 = .ok (.getfield 26, 3) := by decide +kernel
theorem dX7_mostLeft_29 : decode cX7_mostLeft 29 = .ok (.getfield 118, 3) := by decide +kernel
theorem dX7_mostLeft_32 : decode cX7_mostLeft 32 = .ok (.if_icmp .ge 63, 3) := by decide +kernel
theorem dX7_mostLeft_35 : decode cX7_mostLeft 35 = .ok (.iload_n 2, 1) := by decide +kernel
theorem dX7_mostLeft_36 : decode cX7_mostLeft 36 = .ok (.iload 4, 2) := by decide +kernel
theorem dX7_mostLeft_38 : decode cX7_mostLeft 38 = .ok (.ishr, 1) := by decide +kernel
theorem dX7_mostLeft_39 : decode cX7_mostLeft 39 = .ok (.iload_n 2, 1) := by decide +kernel
theorem dX7_mostLeft_40 : decode cX7_mostLeft 40 = .ok (.iload 6, 2) := by decide +kernel
theorem dX7_mostLeft_42 : decode cX7_mostLeft 42 = .ok (.ishr, 1) := by decide +kernel
theorem dX7_mostLeft_43 : decode cX7_mostLeft 43 = .ok (.iand, 1) := by decide +kernel
theorem dX7_mostLeft_44 : decode cX7_mostLeft 44 = .ok (.iconst 1, 1) := by decide +kernel
theorem dX7_mostLeft_45 : decode cX7_mostLeft 45 = .ok (.iand, 1) := by decide +kernel
theorem dX7_mostLeft_46 : decode cX7_mostLeft 46 = .ok (.iconst 1, 1) := by decide +kernel
theorem dX7_mostLeft_47 : decode cX7_mostLeft 47 = .ok (.if_icmp .ne 7, 3) := by decide +kernel
theorem dX7_mostLeft_50 : decode cX7_mostLeft 50 = .ok (.iconst 1, 1) := by decide +kernel
theorem dX7_mostLeft_51 : decode cX7_mostLeft 51 = .ok (.goto 4, 3) := by decide +kernel
theorem dX7_mostLeft_54 : decode cX7_mostLeft 54 = .ok (.iconst 0, 1) := by decide +kernel
theorem dX7_mostLeft_55 : decode cX7_mostLeft 55 = .ok (.istore 7, 2) := by decide +kernel
theorem dX7_mostLeft_57 : decode cX7_mostLeft 57 = .ok (.iload 5, 2) := by decide +kernel
theorem dX7_mostLeft_59 : decode cX7_mostLeft 59 = .ok (.iload 7, 2) := by decide +kernel
theorem dX7_mostLeft_61 : decode cX7_mostLeft 61 = .ok (.ifCond .eq 24, 3) := by decide +kernel
theorem dX7_mostLeft_64 : decode cX7_mostLeft 64 = .ok (.aload_n 0, 1) := by decide +kernel
theorem dX7_mostLeft_65 : decode cX7_mostLeft 65 = .ok (.iload_n 1, 1) := by decide +kernel
theorem dX7_mostLeft_66 : decode cX7_mostLeft 66 = .ok (.iload 4, 2) := by decide +kernel
theorem dX7_mostLeft_68 : decode cX7_mostLeft 68 = .ok (.invokevirtual 326, 3) := by decide +kernel
theorem dX7_mostLeft_71 : decode cX7_mostLeft 71 = .ok (.aload_n 0, 1) := by decide +kernel
theorem dX7_mostLeft_72 : decode cX7_mostLeft 72 = .ok (.iload_n 1, 1) := by decide +kernel
theorem dX7_mostLeft_73 : decode cX7_mostLeft 73 = .ok (.iload 6, 2) := by decide +kernel
theorem dX7_mostLeft_75 : decode cX7_mostLeft 75 = .ok (.invokevirtual 326, 3) := by decide +kernel
theorem dX7_mostLeft_78 : decode cX7_mostLeft 78 = .ok (.if_icmp .ne 7, 3) := by decide +kernel
theorem dX7_mostLeft_81 : decode cX7_mostLeft 81 = .ok (.iconst 1, 1) := by decide +kernel
theorem dX7_mostLeft_82 : decode cX7_mostLeft 82 = .ok (.goto 4, 3) := by decide +kernel
theorem dX7_mostLeft_85 : decode cX7_mostLeft 85 = .ok (.iconst 0, 1) := by decide +kernel
theorem dX7_mostLeft_86 : decode cX7_mostLeft 86 = .ok (.iadd, 1) := by decide +kernel
theorem dX7_mostLeft_87 : decode cX7_mostLeft 87 = .ok (.istore 5, 2) := by decide +kernel
theorem dX7_mostLeft_89 : decode cX7_mostLeft 89 = .ok (.iinc 6 1, 3) := by decide +kernel
theorem dX7_mostLeft_92 : decode cX7_mostLeft 92 = .ok (.goto (-69), 3) := by decide +kernel
theorem dX7_mostLeft_95 : decode cX7_mostLeft 95 = .ok (.iload_n 3, 1) := by decide +kernel
theorem dX7_mostLeft_96 : decode cX7_mostLeft 96 = .ok (.iload 5, 2) := by decide +kernel
theorem dX7_mostLeft_98 : decode cX7_mostLeft 98 = .ok (.invokestatic 188, 3) := by decide +kernel
theorem dX7_mostLeft_101 : decode cX7_mostLeft 101 = .ok (.istore_n 3, 1) := by decide +kernel
theorem dX7_mostLeft_102 : decode cX7_mostLeft 102 = .ok (.iinc 4 1, 3) := by decide +kernel
theorem dX7_mostLeft_105 : decode cX7_mostLeft 105 = .ok (.goto (-100), 3) := by decide +kernel
theorem dX7_mostLeft_108 : decode cX7_mostLeft 108 = .ok (.iload_n 3, 1) := by decide +kernel
theorem dX7_mostLeft_109 : decode cX7_mostLeft 109 = .ok (.ireturn, 1) := by decide +kernel
def p_X7_mostLeft_86 (F : Nat) (y6_23 : Int32) (y5_23 : Int32) (k5 : Int32 → Int32 → Prop) (k23 : Int32 → Int32 → Prop) (Post : Int32 → Prop) (s1_86 : Int32) : Prop := (k23 (y6_23 + (1 : Int32)) (y5_23 + s1_86))
def p_X7_mostLeft_85 (F : Nat) (y6_23 : Int32) (y5_23 : Int32) (k5 : Int32 → Int32 → Prop) (k23 : Int32 → Int32 → Prop) (Post : Int32 → Prop) : Prop := (p_X7_mostLeft_86 F y6_23 y5_23 k5 k23 Post (0 : Int32))
def p_X7_mostLeft_55 (F : Nat) (p1 : Int32) (x_now_cats : Int32) (f_now_place : Nat → Int32) (f_purrs : Nat → Int32) (y4_5 : Int32) (y6_23 : Int32) (y5_23 : Int32) (k5 : Int32 → Int32 → Prop) (k23 : Int32 → Int32 → Prop) (Post : Int32 → Prop) (s0_55 : Int32) : Prop := ((s0_55 = 0 → (p_X7_mostLeft_85 F y6_23 y5_23 k5 k23 Post )) ∧ (¬ s0_55 = 0 → (p_X7_holdWithout F p1 y4_5 x_now_cats f_now_place f_purrs (fun (r_68 : Int32) => (p_X7_holdWithout F p1 y6_23 x_now_cats f_now_place f_purrs (fun (r_75 : Int32) => ((¬ r_68 = r_75 → (p_X7_mostLeft_85 F y6_23 y5_23 k5 k23 Post )) ∧ (r_68 = r_75 → (p_X7_mostLeft_86 F y6_23 y5_23 k5 k23 Post (1 : Int32))))))))))
noncomputable def p_X7_mostLeft_23 (F : Nat) (p1 : Int32) (p2 : Int32) (x_now_cats : Int32) (f_now_place : Nat → Int32) (f_purrs : Nat → Int32) (y4_5 : Int32) (y3_5 : Int32) (k5 : Int32 → Int32 → Prop) (Post : Int32 → Prop) (n : Nat) : Int32 → Int32 → Prop := Nat.rec (motive := fun _ => Int32 → Int32 → Prop) (fun _ _ => False) (fun _ k23 => fun (y6_23 : Int32) (y5_23 : Int32) => ((x_now_cats ≤ y6_23 → (k5 (y4_5 + (1 : Int32)) (if y3_5 < y5_23 then y5_23 else y3_5))) ∧ (¬ x_now_cats ≤ y6_23 → ((¬ (((p2 >>> (y4_5 &&& 31)) &&& (p2 >>> (y6_23 &&& 31))) &&& (1 : Int32)) = (1 : Int32) → (p_X7_mostLeft_55 F p1 x_now_cats f_now_place f_purrs y4_5 y6_23 y5_23 k5 k23 Post (0 : Int32))) ∧ ((((p2 >>> (y4_5 &&& 31)) &&& (p2 >>> (y6_23 &&& 31))) &&& (1 : Int32)) = (1 : Int32) → (p_X7_mostLeft_55 F p1 x_now_cats f_now_place f_purrs y4_5 y6_23 y5_23 k5 k23 Post (1 : Int32))))))) n
theorem p_X7_mostLeft_23_s (F : Nat) (p1 : Int32) (p2 : Int32) (x_now_cats : Int32) (f_now_place : Nat → Int32) (f_purrs : Nat → Int32) (y4_5 : Int32) (y3_5 : Int32) (k5 : Int32 → Int32 → Prop) (Post : Int32 → Prop) (n : Nat) (y6_23 : Int32) (y5_23 : Int32) : p_X7_mostLeft_23 F p1 p2 x_now_cats f_now_place f_purrs y4_5 y3_5 k5 Post (n + 1) y6_23 y5_23 = ((x_now_cats ≤ y6_23 → (k5 (y4_5 + (1 : Int32)) (if y3_5 < y5_23 then y5_23 else y3_5))) ∧ (¬ x_now_cats ≤ y6_23 → ((¬ (((p2 >>> (y4_5 &&& 31)) &&& (p2 >>> (y6_23 &&& 31))) &&& (1 : Int32)) = (1 : Int32) → (p_X7_mostLeft_55 F p1 x_now_cats f_now_place f_purrs y4_5 y6_23 y5_23 k5 (p_X7_mostLeft_23 F p1 p2 x_now_cats f_now_place f_purrs y4_5 y3_5 k5 Post n) Post (0 : Int32))) ∧ ((((p2 >>> (y4_5 &&& 31)) &&& (p2 >>> (y6_23 &&& 31))) &&& (1 : Int32)) = (1 : Int32) → (p_X7_mostLeft_55 F p1 x_now_cats f_now_place f_purrs y4_5 y6_23 y5_23 k5 (p_X7_mostLeft_23 F p1 p2 x_now_cats f_now_place f_purrs y4_5 y3_5 k5 Post n) Post (1 : Int32)))))) := rfl
noncomputable def p_X7_mostLeft_5 (F : Nat) (p1 : Int32) (p2 : Int32) (x_now_cats : Int32) (f_now_place : Nat → Int32) (f_purrs : Nat → Int32) (Post : Int32 → Prop) (n : Nat) : Int32 → Int32 → Prop := Nat.rec (motive := fun _ => Int32 → Int32 → Prop) (fun _ _ => False) (fun _ k5 => fun (y4_5 : Int32) (y3_5 : Int32) => ((x_now_cats ≤ y4_5 → (Post y3_5)) ∧ (¬ x_now_cats ≤ y4_5 → (p_X7_mostLeft_23 F p1 p2 x_now_cats f_now_place f_purrs y4_5 y3_5 k5 Post F (0 : Int32) (0 : Int32))))) n
theorem p_X7_mostLeft_5_s (F : Nat) (p1 : Int32) (p2 : Int32) (x_now_cats : Int32) (f_now_place : Nat → Int32) (f_purrs : Nat → Int32) (Post : Int32 → Prop) (n : Nat) (y4_5 : Int32) (y3_5 : Int32) : p_X7_mostLeft_5 F p1 p2 x_now_cats f_now_place f_purrs Post (n + 1) y4_5 y3_5 = ((x_now_cats ≤ y4_5 → (Post y3_5)) ∧ (¬ x_now_cats ≤ y4_5 → (p_X7_mostLeft_23 F p1 p2 x_now_cats f_now_place f_purrs y4_5 y3_5 (p_X7_mostLeft_5 F p1 p2 x_now_cats f_now_place f_purrs Post n) Post F (0 : Int32) (0 : Int32)))) := rfl
def p_X7_mostLeft (F : Nat) (p1 : Int32) (p2 : Int32) (x_now_cats : Int32) (f_now_place : Nat → Int32) (f_purrs : Nat → Int32) (Post : Int32 → Prop) : Prop := (p_X7_mostLeft_5 F p1 p2 x_now_cats f_now_place f_purrs Post F (0 : Int32) (0 : Int32))
set_option maxHeartbeats 4000000 in
set_option maxRecDepth 100000 in
theorem c_X7_mostLeft (l : Launch) (D : va_G) (cT : Nat → ClassId) (F : Nat) (h : Nat) (p1 : Int32) (p2 : Int32) (w_text : Value) (w_told : Value) (q_now : Nat) (w_before : Value) (w_trial : Value) (w_past : Value) (w_kept : Value) (w_feltNotes : Value) (w_heardNotes : Value) (w_draws : Value) (q_purrs : Nat) (w_alone : Value) (w_nimbers : Value) (w_ways : Value) (w_ruling : Value) (w_spare : Value) (w_now_load : Value) (w_now_sag : Value) (w_now_joy : Value) (w_now_bowl : Value) (w_now_grief : Value) (q_now_place : Nat) (x_now_arches : Int32) (x_now_cats : Int32) (x_now_store : Int32) (x_now_hour : Int32) (x_now_drops : Int32) (f_now_place : Nat → Int32) (f_purrs : Nat → Int32) (Post : Int32 → Prop) (hg : p_X7_mostLeft F p1 p2 x_now_cats f_now_place f_purrs Post) : MRi l D cT yX7_mostLeft cX7_mostLeft 8 (some .int) 1 30 [.ref h, .int p1, .int p2] [(h, oX7 w_text w_told (.ref q_now) w_before w_trial w_past w_kept w_feltNotes w_heardNotes w_draws (.ref q_purrs) w_alone w_nimbers w_ways w_ruling w_spare), (q_now, oX6 w_now_load w_now_sag w_now_joy w_now_bowl w_now_grief (.ref q_now_place) (.int x_now_arches) (.int x_now_cats) (.int x_now_store) (.int x_now_hour) (.int x_now_drops)), (q_now_place, aI cT 8 f_now_place), (q_purrs, aI cT 8 f_purrs)] Post := by
  refine MRi.of (by decide) (Nat.le_of_ble_eq_true rfl) ?_
  intro p e s m below meth c hA C0 hr hP hD hS ls hl
  have hl : lv_has ls 8 [(0, .ref h), (1, .int p1), (2, .int p2)] := hl
  have hx := C0.x
  have hb := C0.b
  have hP : va_P D cls9 [(h, oX7 w_text w_told (.ref q_now) w_before w_trial w_past w_kept w_feltNotes w_heardNotes w_draws (.ref q_purrs) w_alone w_nimbers w_ways w_ruling w_spare), (q_now, oX6 w_now_load w_now_sag w_now_joy w_now_bowl w_now_grief (.ref q_now_place) (.int x_now_arches) (.int x_now_cats) (.int x_now_store) (.int x_now_hour) (.int x_now_drops)), (q_now_place, aI cT 8 f_now_place), (q_purrs, aI cT 8 f_purrs)] s.heap := hP
  have hD : va_D (fun q => cT 6 ≤ q) [(h, oX7 w_text w_told (.ref q_now) w_before w_trial w_past w_kept w_feltNotes w_heardNotes w_draws (.ref q_purrs) w_alone w_nimbers w_ways w_ruling w_spare), (q_now, oX6 w_now_load w_now_sag w_now_joy w_now_bowl w_now_grief (.ref q_now_place) (.int x_now_arches) (.int x_now_cats) (.int x_now_store) (.int x_now_hour) (.int x_now_drops)), (q_now_place, aI cT 8 f_now_place), (q_purrs, aI cT 8 f_purrs)] := hD
  have L5 : ∀ (n5 : Nat) (y4_5 : Int32) (y3_5 : Int32) (ls : Array Slot), p_X7_mostLeft_5 F p1 p2 x_now_cats f_now_place f_purrs Post n5 y4_5 y3_5 → lv_has ls 8 [(0, .ref h), (1, .int p1), (2, .int p2), (3, .int y3_5), (4, .int y4_5)] → W p l e (rmO 1 30 0 0) s m ([.ref h, .int p1, .int p2] : List Value).toArray below meth c s.heap [] 0 0 (MQ below (vp_Si Post) ([.ref h, .int p1, .int p2] : List Value).toArray s 0 0 (fun _ => False)) (F0 m 5 ls []) := by
    intro n5
    induction n5 with
    | zero =>
      intro y4_5 y3_5 ls hg hl
      exact False.elim hg
    | succ n5 ih5 =>
      have L23 : ∀ (y4_5 : Int32) (y3_5 : Int32) (n23 : Nat) (y6_23 : Int32) (y5_23 : Int32) (ls : Array Slot), p_X7_mostLeft_23 F p1 p2 x_now_cats f_now_place f_purrs y4_5 y3_5 (p_X7_mostLeft_5 F p1 p2 x_now_cats f_now_place f_purrs Post n5) Post n23 y6_23 y5_23 → lv_has ls 8 [(0, .ref h), (1, .int p1), (2, .int p2), (3, .int y3_5), (4, .int y4_5), (5, .int y5_23), (6, .int y6_23)] → W p l e (rmO 1 30 0 0) s m ([.ref h, .int p1, .int p2] : List Value).toArray below meth c s.heap [] 0 0 (MQ below (vp_Si Post) ([.ref h, .int p1, .int p2] : List Value).toArray s 0 0 (fun _ => False)) (F0 m 23 ls []) := by
        intro y4_5 y3_5 n23
        induction n23 with
        | zero =>
          intro y6_23 y5_23 ls hg hl
          exact False.elim hg
        | succ n23 ih23 =>
          have L86 : ∀ (y6_23 : Int32) (y5_23 : Int32) (s1_86 : Int32) (ls : Array Slot), p_X7_mostLeft_86 F y6_23 y5_23 (p_X7_mostLeft_5 F p1 p2 x_now_cats f_now_place f_purrs Post n5) (p_X7_mostLeft_23 F p1 p2 x_now_cats f_now_place f_purrs y4_5 y3_5 (p_X7_mostLeft_5 F p1 p2 x_now_cats f_now_place f_purrs Post n5) Post n23) Post s1_86 → lv_has ls 8 [(0, .ref h), (1, .int p1), (2, .int p2), (3, .int y3_5), (4, .int y4_5), (6, .int y6_23)] → W p l e (rmO 1 30 0 0) s m ([.ref h, .int p1, .int p2] : List Value).toArray below meth c s.heap [] 0 0 (MQ below (vp_Si Post) ([.ref h, .int p1, .int p2] : List Value).toArray s 0 0 (fun _ => False)) (F0 m 86 ls [.int s1_86, .int y5_23]) := by
            intro y6_23 y5_23 s1_86 ls hg hl
            unfold p_X7_mostLeft_86 at hg
            refine lv_iadd hx hb dX7_mostLeft_86 ?_
            refine lv_istore (lv' := [(5, .int (y5_23 + s1_86)), (0, .ref h), (1, .int p1), (2, .int p2), (3, .int y3_5), (4, .int y4_5), (6, .int y6_23)]) hx hb dX7_mostLeft_87 hl (by decide) rfl (fun ls hl => ?_)
            refine lv_iinc (v := (y6_23 + (1 : Int32))) (lv' := [(6, .int (y6_23 + (1 : Int32))), (5, .int (y5_23 + s1_86)), (0, .ref h), (1, .int p1), (2, .int p2), (3, .int y3_5), (4, .int y4_5)]) hx hb dX7_mostLeft_89 hl (k := 6) rfl rfl (by decide) rfl (fun ls hl => ?_)
            refine lv_goto (tgt := 23) hx hb dX7_mostLeft_92 (by decide) ?_
            exact ih23 (y6_23 + (1 : Int32)) (y5_23 + s1_86) _ hg (lv_sub hl [2, 3, 4, 5, 6, 1, 0] rfl)
          have L85 : ∀ (y6_23 : Int32) (y5_23 : Int32) (ls : Array Slot), p_X7_mostLeft_85 F y6_23 y5_23 (p_X7_mostLeft_5 F p1 p2 x_now_cats f_now_place f_purrs Post n5) (p_X7_mostLeft_23 F p1 p2 x_now_cats f_now_place f_purrs y4_5 y3_5 (p_X7_mostLeft_5 F p1 p2 x_now_cats f_now_place f_purrs Post n5) Post n23) Post → lv_has ls 8 [(0, .ref h), (1, .int p1), (2, .int p2), (3, .int y3_5), (4, .int y4_5), (6, .int y6_23)] → W p l e (rmO 1 30 0 0) s m ([.ref h, .int p1, .int p2] : List Value).toArray below meth c s.heap [] 0 0 (MQ below (vp_Si Post) ([.ref h, .int p1, .int p2] : List Value).toArray s 0 0 (fun _ => False)) (F0 m 85 ls [.int y5_23]) := by
            intro y6_23 y5_23 ls hg hl
            unfold p_X7_mostLeft_85 at hg
            refine lv_iconst (v := (0 : Int32)) hx hb dX7_mostLeft_85 (by decide) ?_
            exact L86 y6_23 y5_23 (0 : Int32) _ hg hl
          have L55 : ∀ (y6_23 : Int32) (y5_23 : Int32) (s0_55 : Int32) (ls : Array Slot), p_X7_mostLeft_55 F p1 x_now_cats f_now_place f_purrs y4_5 y6_23 y5_23 (p_X7_mostLeft_5 F p1 p2 x_now_cats f_now_place f_purrs Post n5) (p_X7_mostLeft_23 F p1 p2 x_now_cats f_now_place f_purrs y4_5 y3_5 (p_X7_mostLeft_5 F p1 p2 x_now_cats f_now_place f_purrs Post n5) Post n23) Post s0_55 → lv_has ls 8 [(0, .ref h), (1, .int p1), (2, .int p2), (3, .int y3_5), (4, .int y4_5), (5, .int y5_23), (6, .int y6_23)] → W p l e (rmO 1 30 0 0) s m ([.ref h, .int p1, .int p2] : List Value).toArray below meth c s.heap [] 0 0 (MQ below (vp_Si Post) ([.ref h, .int p1, .int p2] : List Value).toArray s 0 0 (fun _ => False)) (F0 m 55 ls [.int s0_55]) := by
            intro y6_23 y5_23 s0_55 ls hg hl
            unfold p_X7_mostLeft_55 at hg
            refine lv_istore (lv' := [(7, .int s0_55), (0, .ref h), (1, .int p1), (2, .int p2), (3, .int y3_5), (4, .int y4_5), (5, .int y5_23), (6, .int y6_23)]) hx hb dX7_mostLeft_55 hl (by decide) rfl (fun ls hl => ?_)
            refine lv_iload hx hb dX7_mostLeft_57 (lv_at hl 6 rfl) ?_
            refine lv_iload hx hb dX7_mostLeft_59 (lv_at hl 0 rfl) ?_
            refine lv_if_eq (tgt := 85) hx hb dX7_mostLeft_61 (by decide) (fun c_61 => ?_) (fun c_61 => ?_)
            · have hg := hg.1 c_61
              exact L85 y6_23 y5_23 _ hg (lv_sub hl [1, 2, 3, 4, 5, 7] rfl)
            have hg := hg.2 c_61
            refine lv_aload_n hx hb dX7_mostLeft_64 rfl (lv_at hl 1 rfl) ?_
            refine lv_iload_n hx hb dX7_mostLeft_65 rfl (lv_at hl 2 rfl) ?_
            refine lv_iload hx hb dX7_mostLeft_66 (lv_at hl 5 rfl) ?_
            refine k_Vxi (rest := [.int y5_23]) C0 lk_X7_326 (c_X7_holdWithout l D cT F h p1 y4_5 w_text w_told q_now w_before w_trial w_past w_kept w_feltNotes w_heardNotes w_draws q_purrs w_alone w_nimbers w_ways w_ruling w_spare w_now_load w_now_sag w_now_joy w_now_bowl w_now_grief q_now_place x_now_arches x_now_cats x_now_store x_now_hour x_now_drops f_now_place f_purrs _ hg) hP hD hS hA [0, 1, 2, 3] (by decide +kernel) rfl rfl rfl ⟨Nat.le_of_ble_eq_true rfl, Nat.le_of_ble_eq_true rfl⟩ rfl hl.1 rfl (Nat.le_of_ble_eq_true rfl) dX7_mostLeft_68 ⟨Nat.le_of_ble_eq_true rfl, Nat.le_of_ble_eq_true rfl⟩ (fun r_68 hg => ?_)
            refine lv_aload_n hx hb dX7_mostLeft_71 rfl (lv_at hl 1 rfl) ?_
            refine lv_iload_n hx hb dX7_mostLeft_72 rfl (lv_at hl 2 rfl) ?_
            refine lv_iload hx hb dX7_mostLeft_73 (lv_at hl 7 rfl) ?_
            refine k_Vxi (rest := [.int r_68, .int y5_23]) C0 lk_X7_326 (c_X7_holdWithout l D cT F h p1 y6_23 w_text w_told q_now w_before w_trial w_past w_kept w_feltNotes w_heardNotes w_draws q_purrs w_alone w_nimbers w_ways w_ruling w_spare w_now_load w_now_sag w_now_joy w_now_bowl w_now_grief q_now_place x_now_arches x_now_cats x_now_store x_now_hour x_now_drops f_now_place f_purrs _ hg) hP hD hS hA [0, 1, 2, 3] (by decide +kernel) rfl rfl rfl ⟨Nat.le_of_ble_eq_true rfl, Nat.le_of_ble_eq_true rfl⟩ rfl hl.1 rfl (Nat.le_of_ble_eq_true rfl) dX7_mostLeft_75 ⟨Nat.le_of_ble_eq_true rfl, Nat.le_of_ble_eq_true rfl⟩ (fun r_75 hg => ?_)
            refine lv_icmp_ne (tgt := 85) hx hb dX7_mostLeft_78 (by decide) (fun c_78 => ?_) (fun c_78 => ?_)
            · have hg := hg.1 c_78
              exact L85 y6_23 y5_23 _ hg (lv_sub hl [1, 2, 3, 4, 5, 7] rfl)
            have hg := hg.2 c_78
            refine lv_iconst (v := (1 : Int32)) hx hb dX7_mostLeft_81 (by decide) ?_
            refine lv_goto (tgt := 86) hx hb dX7_mostLeft_82 (by decide) ?_
            exact L86 y6_23 y5_23 (1 : Int32) _ hg (lv_sub hl [1, 2, 3, 4, 5, 7] rfl)
          intro y6_23 y5_23 ls hg hl
          rw [p_X7_mostLeft_23_s] at hg
          refine lv_iload hx hb dX7_mostLeft_23 (lv_at hl 6 rfl) ?_
          refine lv_aload_n hx hb dX7_mostLeft_25 rfl (lv_at hl 0 rfl) ?_
          refine gf_X7_26 C0 hP 0 rfl rfl dX7_mostLeft_26 ?_
          refine gf_X7_118 C0 hP 1 rfl rfl dX7_mostLeft_29 ?_
          refine lv_icmp_ge (tgt := 95) hx hb dX7_mostLeft_32 (by decide) (fun c_32 => ?_) (fun c_32 => ?_)
          · have hg := hg.1 c_32
            refine lv_iload_n hx hb dX7_mostLeft_95 rfl (lv_at hl 3 rfl) ?_
            refine lv_iload hx hb dX7_mostLeft_96 (lv_at hl 5 rfl) ?_
            refine k_max C0 w2_121 hl.1 (Nat.le_of_ble_eq_true rfl) (Nat.le_of_ble_eq_true rfl) (Nat.le_of_ble_eq_true rfl) (Nat.le_of_ble_eq_true rfl) dX7_mostLeft_98 ?_
            refine lv_istore_n (lv' := [(3, .int (if y3_5 < y5_23 then y5_23 else y3_5)), (0, .ref h), (1, .int p1), (2, .int p2), (4, .int y4_5), (5, .int y5_23), (6, .int y6_23)]) hx hb dX7_mostLeft_101 rfl hl (by decide) rfl (fun ls hl => ?_)
            refine lv_iinc (v := (y4_5 + (1 : Int32))) (lv' := [(4, .int (y4_5 + (1 : Int32))), (3, .int (if y3_5 < y5_23 then y5_23 else y3_5)), (0, .ref h), (1, .int p1), (2, .int p2), (5, .int y5_23), (6, .int y6_23)]) hx hb dX7_mostLeft_102 hl (k := 4) rfl rfl (by decide) rfl (fun ls hl => ?_)
            refine lv_goto (tgt := 5) hx hb dX7_mostLeft_105 (by decide) ?_
            exact ih5 (y4_5 + (1 : Int32)) (if y3_5 < y5_23 then y5_23 else y3_5) _ hg (lv_sub hl [2, 3, 4, 1, 0] rfl)
          have hg := hg.2 c_32
          refine lv_iload_n hx hb dX7_mostLeft_35 rfl (lv_at hl 2 rfl) ?_
          refine lv_iload hx hb dX7_mostLeft_36 (lv_at hl 4 rfl) ?_
          refine lv_ishr hx hb dX7_mostLeft_38 ?_
          refine lv_iload_n hx hb dX7_mostLeft_39 rfl (lv_at hl 2 rfl) ?_
          refine lv_iload hx hb dX7_mostLeft_40 (lv_at hl 6 rfl) ?_
          refine lv_ishr hx hb dX7_mostLeft_42 ?_
          refine lv_iand hx hb dX7_mostLeft_43 ?_
          refine lv_iconst (v := (1 : Int32)) hx hb dX7_mostLeft_44 (by decide) ?_
          refine lv_iand hx hb dX7_mostLeft_45 ?_
          refine lv_iconst (v := (1 : Int32)) hx hb dX7_mostLeft_46 (by decide) ?_
          refine lv_icmp_ne (tgt := 54) hx hb dX7_mostLeft_47 (by decide) (fun c_47 => ?_) (fun c_47 => ?_)
          · have hg := hg.1 c_47
            refine lv_iconst (v := (0 : Int32)) hx hb dX7_mostLeft_54 (by decide) ?_
            exact L55 y6_23 y5_23 (0 : Int32) _ hg hl
          have hg := hg.2 c_47
          refine lv_iconst (v := (1 : Int32)) hx hb dX7_mostLeft_50 (by decide) ?_
          refine lv_goto (tgt := 55) hx hb dX7_mostLeft_51 (by decide) ?_
          exact L55 y6_23 y5_23 (1 : Int32) _ hg hl
      intro y4_5 y3_5 ls hg hl
      rw [p_X7_mostLeft_5_s] at hg
      refine lv_iload hx hb dX7_mostLeft_5 (lv_at hl 4 rfl) ?_
      refine lv_aload_n hx hb dX7_mostLeft_7 rfl (lv_at hl 0 rfl) ?_
      refine gf_X7_26 C0 hP 0 rfl rfl dX7_mostLeft_8 ?_
      refine gf_X7_118 C0 hP 1 rfl rfl dX7_mostLeft_11 ?_
      refine lv_icmp_ge (tgt := 108) hx hb dX7_mostLeft_14 (by decide) (fun c_14 => ?_) (fun c_14 => ?_)
      · have hg := hg.1 c_14
        refine lv_iload_n hx hb dX7_mostLeft_108 rfl (lv_at hl 3 rfl) ?_
        exact k_xiret C0 hr hg dX7_mostLeft_109
      have hg := hg.2 c_14
      refine lv_iconst (v := (0 : Int32)) hx hb dX7_mostLeft_17 (by decide) ?_
      refine lv_istore (lv' := [(5, .int (0 : Int32)), (0, .ref h), (1, .int p1), (2, .int p2), (3, .int y3_5), (4, .int y4_5)]) hx hb dX7_mostLeft_18 hl (by decide) rfl (fun ls hl => ?_)
      refine lv_iconst (v := (0 : Int32)) hx hb dX7_mostLeft_20 (by decide) ?_
      refine lv_istore (lv' := [(6, .int (0 : Int32)), (5, .int (0 : Int32)), (0, .ref h), (1, .int p1), (2, .int p2), (3, .int y3_5), (4, .int y4_5)]) hx hb dX7_mostLeft_21 hl (by decide) rfl (fun ls hl => ?_)
      exact L23 y4_5 y3_5 F (0 : Int32) (0 : Int32) _ hg (lv_sub hl [2, 3, 4, 5, 6, 1, 0] rfl)
  unfold p_X7_mostLeft at hg
  refine lv_iconst (v := (0 : Int32)) hx hb dX7_mostLeft_0 (by decide) ?_
  refine lv_istore_n (lv' := [(3, .int (0 : Int32)), (0, .ref h), (1, .int p1), (2, .int p2)]) hx hb dX7_mostLeft_1 rfl hl (by decide) rfl (fun ls hl => ?_)
  refine lv_iconst (v := (0 : Int32)) hx hb dX7_mostLeft_2 (by decide) ?_
  refine lv_istore (lv' := [(4, .int (0 : Int32)), (3, .int (0 : Int32)), (0, .ref h), (1, .int p1), (2, .int p2)]) hx hb dX7_mostLeft_3 hl (by decide) rfl (fun ls hl => ?_)
  exact L5 F (0 : Int32) (0 : Int32) _ hg (lv_sub hl [2, 3, 4, 1, 0] rfl)
theorem dX7_feels_0 : decode cX7_feels 0 = .ok (.aload_n 0, 1) := by decide +kernel
theorem dX7_feels_1 : decode cX7_feels 1 = .ok (.invokevirtual 313, 3) := by decide +kernel
theorem dX7_feels_4 : decode cX7_feels 4 = .ok (.aload_n 0, 1) := by decide +kernel
theorem dX7_feels_5 : decode cX7_feels 5 = .ok (.invokevirtual 316, 3) := by decide +kernel
theorem dX7_feels_8 : decode cX7_feels 8 = .ok (.istore_n 1, 1) := by decide +kernel
theorem dX7_feels_9 : decode cX7_feels 9 = .ok (.bipush (-2), 2) := by decide +kernel
theorem dX7_feels_11 : decode cX7_feels 11 = .ok (.istore_n 2, 1) := by decide +kernel
theorem dX7_feels_12 : decode cX7_feels 12 = .ok (.iconst 0, 1) := by decide +kernel
theorem dX7_feels_13 : decode cX7_feels 13 = .ok (.istore_n 3, 1) := by decide +kernel
theorem dX7_feels_14 : decode cX7_feels 14 = .ok (.iconst 0, 1) := by decide +kernel
theorem dX7_feels_15 : decode cX7_feels 15 = .ok (.istore 4, 2) := by decide +kernel
theorem dX7_feels_17 : decode cX7_feels 17 = .ok (.iload 4, 2) := by decide +kernel
theorem dX7_feels_19 : decode cX7_feels 19 = .ok (.aload_n 0, 1) := by decide +kernel
theorem dX7_feels_20 : decode cX7_feels 20 = .ok (.getfield 26, 3) := by decide +kernel
theorem dX7_feels_23 : decode cX7_feels 23 = .ok (.getfield 98, 3) := by decide +kernel
theorem dX7_feels_26 : decode cX7_feels 26 = .ok (.if_icmp .ge 40, 3) := by decide +kernel
theorem dX7_feels_29 : decode cX7_feels 29 = .ok (.iload_n 1, 1) := by decide +kernel
theorem dX7_feels_30 : decode cX7_feels 30 = .ok (.ifCond .eq 36, 3) := by decide +kernel
theorem dX7_feels_33 : decode cX7_feels 33 = .ok (.aload_n 0, 1) := by decide +kernel
theorem dX7_feels_34 : decode cX7_feels 34 = .ok (.iload 4, 2) := by decide +kernel
theorem dX7_feels_36 : decode cX7_feels 36 = .ok (.iload_n 1, 1) := by decide +kernel
theorem dX7_feels_37 : decode cX7_feels 37 = .ok (.invokevirtual 332, 3) := by decide +kernel
theorem dX7_feels_40 : decode cX7_feels 40 = .ok (.istore 5, 2) := by decide +kernel
theorem dX7_feels_42 : decode cX7_feels 42 = .ok (.iload_n 2, 1) := by decide +kernel
theorem dX7_feels_43 : decode cX7_feels 43 = .ok (.bipush (-2), 2) := by decide +kernel
theorem dX7_feels_45 : decode cX7_feels 45 = .ok (.if_icmp .eq 9, 3) := by decide +kernel
theorem dX7_feels_48 : decode cX7_feels 48 = .ok (.iload 5, 2) := by decide +kernel
theorem dX7_feels_50 : decode cX7_feels 50 = .ok (.iload_n 3, 1) := by decide +kernel
theorem dX7_feels_51 : decode cX7_feels 51 = .ok (.if_icmp .ge 9, 3) := by decide +kernel
theorem dX7_feels_54 : decode cX7_feels 54 = .ok (.iload 4, 2) := by decide +kernel
theorem dX7_feels_56 : decode cX7_feels 56 = .ok (.istore_n 2, 1) := by decide +kernel
theorem dX7_feels_57 : decode cX7_feels 57 = .ok (.iload 5, 2) := by decide +kernel
theorem dX7_feels_59 : decode cX7_feels 59 = .ok (.istore_n 3, 1) := by decide +kernel
theorem dX7_feels_60 : decode cX7_feels 60 = .ok (.iinc 4 1, 3) := by decide +kernel
theorem dX7_feels_63 : decode cX7_feels 63 = .ok (.goto (-46), 3) := by decide +kernel
theorem dX7_feels_66 : decode cX7_feels 66 = .ok (.aload_n 0, 1) := by decide +kernel
theorem dX7_feels_67 : decode cX7_feels 67 = .ok (.iload_n 2, 1) := by decide +kernel
theorem dX7_feels_68 : decode cX7_feels 68 = .ok (.iload_n 3, 1) := by decide +kernel
theorem dX7_feels_69 : decode cX7_feels 69 = .ok (.invokevirtual 261, 3) := by decide +kernel
theorem dX7_feels_72 : decode cX7_feels 72 = .ok (.ireturn, 1) := by decide +kernel
def p_X7_feels_66 (F : Nat) (x_told_size : Int32) (f_told_numbers : Nat → Int64) (u_1 : (Int32 × (Nat → Int32) × (Nat → Int32))) (y3_17 : Int32) (y2_17 : Int32) (Post : Int32 → (Int32 × (Nat → Int32) × (Nat → Int32) × Int32 × (Nat → Int64)) → Prop) : Prop := (p_X7_toldIfFound F y2_17 y3_17 x_told_size f_told_numbers (fun (r_69 : Int32) (u_69 : (Int32 × (Nat → Int64))) => (Post r_69 (u_1.1, u_1.2.1, u_1.2.2, u_69.1, u_69.2))))
def p_X7_feels_60 (F : Nat) (y4_17 : Int32) (k17 : Int32 → Int32 → Int32 → Prop) (Post : Int32 → (Int32 × (Nat → Int32) × (Nat → Int32) × Int32 × (Nat → Int64)) → Prop) (y2_60 : Int32) (y3_60 : Int32) : Prop := (k17 (y4_17 + (1 : Int32)) y3_60 y2_60)
def p_X7_feels_54 (F : Nat) (r_37 : Int32) (y4_17 : Int32) (k17 : Int32 → Int32 → Int32 → Prop) (Post : Int32 → (Int32 × (Nat → Int32) × (Nat → Int32) × Int32 × (Nat → Int64)) → Prop) : Prop := (p_X7_feels_60 F y4_17 k17 Post y4_17 r_37)
noncomputable def p_X7_feels_17 (F : Nat) (x_now_arches : Int32) (x_now_cats : Int32) (f_now_place : Nat → Int32) (x_told_size : Int32) (f_told_numbers : Nat → Int64) (u_1 : (Int32 × (Nat → Int32) × (Nat → Int32))) (r_5 : Int32) (Post : Int32 → (Int32 × (Nat → Int32) × (Nat → Int32) × Int32 × (Nat → Int64)) → Prop) (n : Nat) : Int32 → Int32 → Int32 → Prop := Nat.rec (motive := fun _ => Int32 → Int32 → Int32 → Prop) (fun _ _ _ => False) (fun _ k17 => fun (y4_17 : Int32) (y3_17 : Int32) (y2_17 : Int32) => ((x_now_arches ≤ y4_17 → (p_X7_feels_66 F x_told_size f_told_numbers u_1 y3_17 y2_17 Post )) ∧ (¬ x_now_arches ≤ y4_17 → ((r_5 = 0 → (p_X7_feels_66 F x_told_size f_told_numbers u_1 y3_17 y2_17 Post )) ∧ (¬ r_5 = 0 → (p_X7_mostLeft F y4_17 r_5 x_now_cats f_now_place u_1.2.2 (fun (r_37 : Int32) => ((y2_17 = (-2 : Int32) → (p_X7_feels_54 F r_37 y4_17 k17 Post )) ∧ (¬ y2_17 = (-2 : Int32) → ((y3_17 ≤ r_37 → (p_X7_feels_60 F y4_17 k17 Post y2_17 y3_17)) ∧ (¬ y3_17 ≤ r_37 → (p_X7_feels_54 F r_37 y4_17 k17 Post )))))))))))) n
theorem p_X7_feels_17_s (F : Nat) (x_now_arches : Int32) (x_now_cats : Int32) (f_now_place : Nat → Int32) (x_told_size : Int32) (f_told_numbers : Nat → Int64) (u_1 : (Int32 × (Nat → Int32) × (Nat → Int32))) (r_5 : Int32) (Post : Int32 → (Int32 × (Nat → Int32) × (Nat → Int32) × Int32 × (Nat → Int64)) → Prop) (n : Nat) (y4_17 : Int32) (y3_17 : Int32) (y2_17 : Int32) : p_X7_feels_17 F x_now_arches x_now_cats f_now_place x_told_size f_told_numbers u_1 r_5 Post (n + 1) y4_17 y3_17 y2_17 = ((x_now_arches ≤ y4_17 → (p_X7_feels_66 F x_told_size f_told_numbers u_1 y3_17 y2_17 Post )) ∧ (¬ x_now_arches ≤ y4_17 → ((r_5 = 0 → (p_X7_feels_66 F x_told_size f_told_numbers u_1 y3_17 y2_17 Post )) ∧ (¬ r_5 = 0 → (p_X7_mostLeft F y4_17 r_5 x_now_cats f_now_place u_1.2.2 (fun (r_37 : Int32) => ((y2_17 = (-2 : Int32) → (p_X7_feels_54 F r_37 y4_17 (p_X7_feels_17 F x_now_arches x_now_cats f_now_place x_told_size f_told_numbers u_1 r_5 Post n) Post )) ∧ (¬ y2_17 = (-2 : Int32) → ((y3_17 ≤ r_37 → (p_X7_feels_60 F y4_17 (p_X7_feels_17 F x_now_arches x_now_cats f_now_place x_told_size f_told_numbers u_1 r_5 Post n) Post y2_17 y3_17)) ∧ (¬ y3_17 ≤ r_37 → (p_X7_feels_54 F r_37 y4_17 (p_X7_feels_17 F x_now_arches x_now_cats f_now_place x_told_size f_told_numbers u_1 r_5 Post n) Post ))))))))))) := rfl
def p_X7_feels (F : Nat) (x_now_arches : Int32) (x_now_cats : Int32) (x_now_hour : Int32) (x_ruling_size : Int32) (x_ruling_top : Int32) (f_now_place : Nat → Int32) (f_ruling_steps : Nat → Int32) (f_ruling_stack : Nat → Int32) (f_now_sag : Nat → Int32) (f_now_load : Nat → Int32) (f_now_joy : Nat → Int32) (f_now_grief : Nat → Int32) (f_now_bowl : Nat → Int32) (f_purrs : Nat → Int32) (x_feltNotes_size : Int32) (f_feltNotes_first : Nat → Int32) (f_feltNotes_second : Nat → Int32) (x_told_size : Int32) (f_told_numbers : Nat → Int64) (Post : Int32 → (Int32 × (Nat → Int32) × (Nat → Int32) × Int32 × (Nat → Int64)) → Prop) : Prop := (p_X7_findPurrs F x_now_arches x_now_cats x_now_hour x_ruling_size x_ruling_top f_now_place f_ruling_steps f_ruling_stack f_now_sag f_now_load f_now_joy f_now_grief f_now_bowl f_purrs (fun (u_1 : (Int32 × (Nat → Int32) × (Nat → Int32))) => (p_X7_fittingCats F x_now_cats x_feltNotes_size f_feltNotes_first f_now_place u_1.2.2 f_feltNotes_second (fun (r_5 : Int32) => (p_X7_feels_17 F x_now_arches x_now_cats f_now_place x_told_size f_told_numbers u_1 r_5 Post F (0 : Int32) (0 : Int32) (-2 : Int32))))))
set_option maxHeartbeats 4000000 in
set_option maxRecDepth 100000 in
theorem c_X7_feels (l : Launch) (D : va_G) (cT : Nat → ClassId) (F : Nat) (h : Nat) (w_text : Value) (q_told : Nat) (q_now : Nat) (w_before : Value) (w_trial : Value) (w_past : Value) (w_kept : Value) (q_feltNotes : Nat) (w_heardNotes : Value) (w_draws : Value) (q_purrs : Nat) (w_alone : Value) (w_nimbers : Value) (w_ways : Value) (q_ruling : Nat) (w_spare : Value) (q_now_load : Nat) (q_now_sag : Nat) (q_now_joy : Nat) (q_now_bowl : Nat) (q_now_grief : Nat) (q_now_place : Nat) (x_now_arches : Int32) (x_now_cats : Int32) (x_now_store : Int32) (x_now_hour : Int32) (x_now_drops : Int32) (q_ruling_steps : Nat) (q_ruling_stack : Nat) (x_ruling_size : Int32) (x_ruling_top : Int32) (x_ruling_open : Int32) (x_ruling_compared : Int32) (x_ruling_digits : Int32) (x_ruling_wantsThing : Int32) (f_now_place : Nat → Int32) (f_ruling_steps : Nat → Int32) (f_ruling_stack : Nat → Int32) (f_now_sag : Nat → Int32) (f_now_load : Nat → Int32) (f_now_joy : Nat → Int32) (f_now_grief : Nat → Int32) (f_now_bowl : Nat → Int32) (f_purrs : Nat → Int32) (q_feltNotes_first : Nat) (q_feltNotes_second : Nat) (x_feltNotes_most : Int32) (x_feltNotes_size : Int32) (f_feltNotes_first : Nat → Int32) (f_feltNotes_second : Nat → Int32) (q_told_numbers : Nat) (x_told_size : Int32) (f_told_numbers : Nat → Int64) (Post : Int32 → (Int32 × (Nat → Int32) × (Nat → Int32) × Int32 × (Nat → Int64)) → Prop) (hg : p_X7_feels F x_now_arches x_now_cats x_now_hour x_ruling_size x_ruling_top f_now_place f_ruling_steps f_ruling_stack f_now_sag f_now_load f_now_joy f_now_grief f_now_bowl f_purrs x_feltNotes_size f_feltNotes_first f_feltNotes_second x_told_size f_told_numbers Post) : MWi l D cT yX7_feels cX7_feels 6 (some .int) 5 120 0 0 [.ref h] [(h, oX7 w_text (.ref q_told) (.ref q_now) w_before w_trial w_past w_kept (.ref q_feltNotes) w_heardNotes w_draws (.ref q_purrs) w_alone w_nimbers w_ways (.ref q_ruling) w_spare), (q_now, oX6 (.ref q_now_load) (.ref q_now_sag) (.ref q_now_joy) (.ref q_now_bowl) (.ref q_now_grief) (.ref q_now_place) (.int x_now_arches) (.int x_now_cats) (.int x_now_store) (.int x_now_hour) (.int x_now_drops)), (q_ruling, oX4 (.ref q_ruling_steps) (.ref q_ruling_stack) (.int x_ruling_size) (.int x_ruling_top) (.int x_ruling_open) (.int x_ruling_compared) (.int x_ruling_digits) (.int x_ruling_wantsThing)), (q_now_place, aI cT 8 f_now_place), (q_ruling_steps, aI cT 40 f_ruling_steps), (q_ruling_stack, aI cT 40 f_ruling_stack), (q_now_sag, aI cT 6 f_now_sag), (q_now_load, aI cT 6 f_now_load), (q_now_joy, aI cT 8 f_now_joy), (q_now_grief, aI cT 8 f_now_grief), (q_now_bowl, aI cT 8 f_now_bowl), (q_purrs, aI cT 8 f_purrs), (q_feltNotes, oX1 (.ref q_feltNotes_first) (.ref q_feltNotes_second) (.int x_feltNotes_most) (.int x_feltNotes_size)), (q_feltNotes_first, aI cT 12 f_feltNotes_first), (q_feltNotes_second, aI cT 12 f_feltNotes_second), (q_told, oX3 (.ref q_told_numbers) (.int x_told_size)), (q_told_numbers, aJ cT 8 f_told_numbers)] Post (fun (u : (Int32 × (Nat → Int32) × (Nat → Int32) × Int32 × (Nat → Int64))) => [(h, oX7 w_text (.ref q_told) (.ref q_now) w_before w_trial w_past w_kept (.ref q_feltNotes) w_heardNotes w_draws (.ref q_purrs) w_alone w_nimbers w_ways (.ref q_ruling) w_spare), (q_now, oX6 (.ref q_now_load) (.ref q_now_sag) (.ref q_now_joy) (.ref q_now_bowl) (.ref q_now_grief) (.ref q_now_place) (.int x_now_arches) (.int x_now_cats) (.int x_now_store) (.int x_now_hour) (.int x_now_drops)), (q_ruling, oX4 (.ref q_ruling_steps) (.ref q_ruling_stack) (.int x_ruling_size) (.int u.1) (.int x_ruling_open) (.int x_ruling_compared) (.int x_ruling_digits) (.int x_ruling_wantsThing)), (q_now_place, aI cT 8 f_now_place), (q_ruling_steps, aI cT 40 f_ruling_steps), (q_ruling_stack, aI cT 40 u.2.1), (q_now_sag, aI cT 6 f_now_sag), (q_now_load, aI cT 6 f_now_load), (q_now_joy, aI cT 8 f_now_joy), (q_now_grief, aI cT 8 f_now_grief), (q_now_bowl, aI cT 8 f_now_bowl), (q_purrs, aI cT 8 u.2.2.1), (q_feltNotes, oX1 (.ref q_feltNotes_first) (.ref q_feltNotes_second) (.int x_feltNotes_most) (.int x_feltNotes_size)), (q_feltNotes_first, aI cT 12 f_feltNotes_first), (q_feltNotes_second, aI cT 12 f_feltNotes_second), (q_told, oX3 (.ref q_told_numbers) (.int u.2.2.2.1)), (q_told_numbers, aJ cT 8 u.2.2.2.2)]) := by
  refine MWi.of (by decide) (Nat.le_of_ble_eq_true rfl) ?_
  intro p e s m below meth c A hA C0 hnm hr hP hD ls hl
  have hl : lv_has ls 6 [(0, .ref h)] := hl
  have hx := C0.x
  have hb := C0.b
  have hS : va_S A s.heap s.heap [] := va_S.rf
  have hP : va_P D cls9 [(h, oX7 w_text (.ref q_told) (.ref q_now) w_before w_trial w_past w_kept (.ref q_feltNotes) w_heardNotes w_draws (.ref q_purrs) w_alone w_nimbers w_ways (.ref q_ruling) w_spare), (q_now, oX6 (.ref q_now_load) (.ref q_now_sag) (.ref q_now_joy) (.ref q_now_bowl) (.ref q_now_grief) (.ref q_now_place) (.int x_now_arches) (.int x_now_cats) (.int x_now_store) (.int x_now_hour) (.int x_now_drops)), (q_ruling, oX4 (.ref q_ruling_steps) (.ref q_ruling_stack) (.int x_ruling_size) (.int x_ruling_top) (.int x_ruling_open) (.int x_ruling_compared) (.int x_ruling_digits) (.int x_ruling_wantsThing)), (q_now_place, aI cT 8 f_now_place), (q_ruling_steps, aI cT 40 f_ruling_steps), (q_ruling_stack, aI cT 40 f_ruling_stack), (q_now_sag, aI cT 6 f_now_sag), (q_now_load, aI cT 6 f_now_load), (q_now_joy, aI cT 8 f_now_joy), (q_now_grief, aI cT 8 f_now_grief), (q_now_bowl, aI cT 8 f_now_bowl), (q_purrs, aI cT 8 f_purrs), (q_feltNotes, oX1 (.ref q_feltNotes_first) (.ref q_feltNotes_second) (.int x_feltNotes_most) (.int x_feltNotes_size)), (q_feltNotes_first, aI cT 12 f_feltNotes_first), (q_feltNotes_second, aI cT 12 f_feltNotes_second), (q_told, oX3 (.ref q_told_numbers) (.int x_told_size)), (q_told_numbers, aJ cT 8 f_told_numbers)] s.heap := hP
  have hD : va_D A [(h, oX7 w_text (.ref q_told) (.ref q_now) w_before w_trial w_past w_kept (.ref q_feltNotes) w_heardNotes w_draws (.ref q_purrs) w_alone w_nimbers w_ways (.ref q_ruling) w_spare), (q_now, oX6 (.ref q_now_load) (.ref q_now_sag) (.ref q_now_joy) (.ref q_now_bowl) (.ref q_now_grief) (.ref q_now_place) (.int x_now_arches) (.int x_now_cats) (.int x_now_store) (.int x_now_hour) (.int x_now_drops)), (q_ruling, oX4 (.ref q_ruling_steps) (.ref q_ruling_stack) (.int x_ruling_size) (.int x_ruling_top) (.int x_ruling_open) (.int x_ruling_compared) (.int x_ruling_digits) (.int x_ruling_wantsThing)), (q_now_place, aI cT 8 f_now_place), (q_ruling_steps, aI cT 40 f_ruling_steps), (q_ruling_stack, aI cT 40 f_ruling_stack), (q_now_sag, aI cT 6 f_now_sag), (q_now_load, aI cT 6 f_now_load), (q_now_joy, aI cT 8 f_now_joy), (q_now_grief, aI cT 8 f_now_grief), (q_now_bowl, aI cT 8 f_now_bowl), (q_purrs, aI cT 8 f_purrs), (q_feltNotes, oX1 (.ref q_feltNotes_first) (.ref q_feltNotes_second) (.int x_feltNotes_most) (.int x_feltNotes_size)), (q_feltNotes_first, aI cT 12 f_feltNotes_first), (q_feltNotes_second, aI cT 12 f_feltNotes_second), (q_told, oX3 (.ref q_told_numbers) (.int x_told_size)), (q_told_numbers, aJ cT 8 f_told_numbers)] := hD
  have L66 : ∀ (u_1 : (Int32 × (Nat → Int32) × (Nat → Int32))) (y3_17 : Int32) (y2_17 : Int32) (H : Heap) (locs : List Loc) (ls : Array Slot), p_X7_feels_66 F x_told_size f_told_numbers u_1 y3_17 y2_17 Post → va_P D cls9 [(h, oX7 w_text (.ref q_told) (.ref q_now) w_before w_trial w_past w_kept (.ref q_feltNotes) w_heardNotes w_draws (.ref q_purrs) w_alone w_nimbers w_ways (.ref q_ruling) w_spare), (q_now, oX6 (.ref q_now_load) (.ref q_now_sag) (.ref q_now_joy) (.ref q_now_bowl) (.ref q_now_grief) (.ref q_now_place) (.int x_now_arches) (.int x_now_cats) (.int x_now_store) (.int x_now_hour) (.int x_now_drops)), (q_ruling, oX4 (.ref q_ruling_steps) (.ref q_ruling_stack) (.int x_ruling_size) (.int u_1.1) (.int x_ruling_open) (.int x_ruling_compared) (.int x_ruling_digits) (.int x_ruling_wantsThing)), (q_now_place, aI cT 8 f_now_place), (q_ruling_steps, aI cT 40 f_ruling_steps), (q_ruling_stack, aI cT 40 u_1.2.1), (q_now_sag, aI cT 6 f_now_sag), (q_now_load, aI cT 6 f_now_load), (q_now_joy, aI cT 8 f_now_joy), (q_now_grief, aI cT 8 f_now_grief), (q_now_bowl, aI cT 8 f_now_bowl), (q_purrs, aI cT 8 u_1.2.2), (q_feltNotes, oX1 (.ref q_feltNotes_first) (.ref q_feltNotes_second) (.int x_feltNotes_most) (.int x_feltNotes_size)), (q_feltNotes_first, aI cT 12 f_feltNotes_first), (q_feltNotes_second, aI cT 12 f_feltNotes_second), (q_told, oX3 (.ref q_told_numbers) (.int x_told_size)), (q_told_numbers, aJ cT 8 f_told_numbers)] H → va_D A [(h, oX7 w_text (.ref q_told) (.ref q_now) w_before w_trial w_past w_kept (.ref q_feltNotes) w_heardNotes w_draws (.ref q_purrs) w_alone w_nimbers w_ways (.ref q_ruling) w_spare), (q_now, oX6 (.ref q_now_load) (.ref q_now_sag) (.ref q_now_joy) (.ref q_now_bowl) (.ref q_now_grief) (.ref q_now_place) (.int x_now_arches) (.int x_now_cats) (.int x_now_store) (.int x_now_hour) (.int x_now_drops)), (q_ruling, oX4 (.ref q_ruling_steps) (.ref q_ruling_stack) (.int x_ruling_size) (.int u_1.1) (.int x_ruling_open) (.int x_ruling_compared) (.int x_ruling_digits) (.int x_ruling_wantsThing)), (q_now_place, aI cT 8 f_now_place), (q_ruling_steps, aI cT 40 f_ruling_steps), (q_ruling_stack, aI cT 40 u_1.2.1), (q_now_sag, aI cT 6 f_now_sag), (q_now_load, aI cT 6 f_now_load), (q_now_joy, aI cT 8 f_now_joy), (q_now_grief, aI cT 8 f_now_grief), (q_now_bowl, aI cT 8 f_now_bowl), (q_purrs, aI cT 8 u_1.2.2), (q_feltNotes, oX1 (.ref q_feltNotes_first) (.ref q_feltNotes_second) (.int x_feltNotes_most) (.int x_feltNotes_size)), (q_feltNotes_first, aI cT 12 f_feltNotes_first), (q_feltNotes_second, aI cT 12 f_feltNotes_second), (q_told, oX3 (.ref q_told_numbers) (.int x_told_size)), (q_told_numbers, aJ cT 8 f_told_numbers)] → va_S A s.heap H locs → lv_has ls 6 [(0, .ref h), (2, .int y2_17), (3, .int y3_17)] → W p l e (rmO 5 120 0 0) s m ([.ref h] : List Value).toArray below meth c H locs 0 0 (MQ below (va_Qi Post (cB D A (fun (u : (Int32 × (Nat → Int32) × (Nat → Int32) × Int32 × (Nat → Int64))) => [(h, oX7 w_text (.ref q_told) (.ref q_now) w_before w_trial w_past w_kept (.ref q_feltNotes) w_heardNotes w_draws (.ref q_purrs) w_alone w_nimbers w_ways (.ref q_ruling) w_spare), (q_now, oX6 (.ref q_now_load) (.ref q_now_sag) (.ref q_now_joy) (.ref q_now_bowl) (.ref q_now_grief) (.ref q_now_place) (.int x_now_arches) (.int x_now_cats) (.int x_now_store) (.int x_now_hour) (.int x_now_drops)), (q_ruling, oX4 (.ref q_ruling_steps) (.ref q_ruling_stack) (.int x_ruling_size) (.int u.1) (.int x_ruling_open) (.int x_ruling_compared) (.int x_ruling_digits) (.int x_ruling_wantsThing)), (q_now_place, aI cT 8 f_now_place), (q_ruling_steps, aI cT 40 f_ruling_steps), (q_ruling_stack, aI cT 40 u.2.1), (q_now_sag, aI cT 6 f_now_sag), (q_now_load, aI cT 6 f_now_load), (q_now_joy, aI cT 8 f_now_joy), (q_now_grief, aI cT 8 f_now_grief), (q_now_bowl, aI cT 8 f_now_bowl), (q_purrs, aI cT 8 u.2.2.1), (q_feltNotes, oX1 (.ref q_feltNotes_first) (.ref q_feltNotes_second) (.int x_feltNotes_most) (.int x_feltNotes_size)), (q_feltNotes_first, aI cT 12 f_feltNotes_first), (q_feltNotes_second, aI cT 12 f_feltNotes_second), (q_told, oX3 (.ref q_told_numbers) (.int u.2.2.2.1)), (q_told_numbers, aJ cT 8 u.2.2.2.2)])) A) ([.ref h] : List Value).toArray s 0 0 A) (F0 m 66 ls []) := by
    intro u_1 y3_17 y2_17 H locs ls hg hP hD hS hl
    unfold p_X7_feels_66 at hg
    refine lv_aload_n hx hb dX7_feels_66 rfl (lv_at hl 0 rfl) ?_
    refine lv_iload_n hx hb dX7_feels_67 rfl (lv_at hl 1 rfl) ?_
    refine lv_iload_n hx hb dX7_feels_68 rfl (lv_at hl 2 rfl) ?_
    refine k_Vi (rest := []) (wr := [(q_now, oX6 (.ref q_now_load) (.ref q_now_sag) (.ref q_now_joy) (.ref q_now_bowl) (.ref q_now_grief) (.ref q_now_place) (.int x_now_arches) (.int x_now_cats) (.int x_now_store) (.int x_now_hour) (.int x_now_drops)), (q_ruling, oX4 (.ref q_ruling_steps) (.ref q_ruling_stack) (.int x_ruling_size) (.int u_1.1) (.int x_ruling_open) (.int x_ruling_compared) (.int x_ruling_digits) (.int x_ruling_wantsThing)), (q_now_place, aI cT 8 f_now_place), (q_ruling_steps, aI cT 40 f_ruling_steps), (q_ruling_stack, aI cT 40 u_1.2.1), (q_now_sag, aI cT 6 f_now_sag), (q_now_load, aI cT 6 f_now_load), (q_now_joy, aI cT 8 f_now_joy), (q_now_grief, aI cT 8 f_now_grief), (q_now_bowl, aI cT 8 f_now_bowl), (q_purrs, aI cT 8 u_1.2.2), (q_feltNotes, oX1 (.ref q_feltNotes_first) (.ref q_feltNotes_second) (.int x_feltNotes_most) (.int x_feltNotes_size)), (q_feltNotes_first, aI cT 12 f_feltNotes_first), (q_feltNotes_second, aI cT 12 f_feltNotes_second)]) (w2 := fun u_69 => [(q_now, oX6 (.ref q_now_load) (.ref q_now_sag) (.ref q_now_joy) (.ref q_now_bowl) (.ref q_now_grief) (.ref q_now_place) (.int x_now_arches) (.int x_now_cats) (.int x_now_store) (.int x_now_hour) (.int x_now_drops)), (q_ruling, oX4 (.ref q_ruling_steps) (.ref q_ruling_stack) (.int x_ruling_size) (.int u_1.1) (.int x_ruling_open) (.int x_ruling_compared) (.int x_ruling_digits) (.int x_ruling_wantsThing)), (q_now_place, aI cT 8 f_now_place), (q_ruling_steps, aI cT 40 f_ruling_steps), (q_ruling_stack, aI cT 40 u_1.2.1), (q_now_sag, aI cT 6 f_now_sag), (q_now_load, aI cT 6 f_now_load), (q_now_joy, aI cT 8 f_now_joy), (q_now_grief, aI cT 8 f_now_grief), (q_now_bowl, aI cT 8 f_now_bowl), (q_purrs, aI cT 8 u_1.2.2), (q_feltNotes, oX1 (.ref q_feltNotes_first) (.ref q_feltNotes_second) (.int x_feltNotes_most) (.int x_feltNotes_size)), (q_feltNotes_first, aI cT 12 f_feltNotes_first), (q_feltNotes_second, aI cT 12 f_feltNotes_second), (h, oX7 w_text (.ref q_told) (.ref q_now) w_before w_trial w_past w_kept (.ref q_feltNotes) w_heardNotes w_draws (.ref q_purrs) w_alone w_nimbers w_ways (.ref q_ruling) w_spare), (q_told, oX3 (.ref q_told_numbers) (.int u_69.1)), (q_told_numbers, aJ cT 8 u_69.2)]) C0 lk_X7_261 (c_X7_toldIfFound l D cT F h y2_17 y3_17 w_text q_told (.ref q_now) w_before w_trial w_past w_kept (.ref q_feltNotes) w_heardNotes w_draws (.ref q_purrs) w_alone w_nimbers w_ways (.ref q_ruling) w_spare q_told_numbers x_told_size f_told_numbers _ hg) hP hD hS hA [0, 15, 16] [1, 2, 3, 4, 5, 6, 7, 8, 9, 10, 11, 12, 13, 14] (by decide +kernel) rfl rfl (fun _ => rfl) rfl rfl ⟨Nat.le_of_ble_eq_true rfl, Nat.le_of_ble_eq_true rfl⟩ rfl hl.1 rfl (Nat.le_of_ble_eq_true rfl) dX7_feels_69 ⟨Nat.le_of_ble_eq_true rfl, Nat.le_of_ble_eq_true rfl⟩ ?_
    intro r_69 u_69 H locs hg hP hD hS
    exact k_iret C0 hr (u_1.1, u_1.2.1, u_1.2.2, u_69.1, u_69.2) hg (subP hP [14, 0, 1, 2, 3, 4, 5, 6, 7, 8, 9, 10, 11, 12, 13, 15, 16] rfl) (hD.sub [14, 0, 1, 2, 3, 4, 5, 6, 7, 8, 9, 10, 11, 12, 13, 15, 16] (nd2_ok _ (by decide +kernel)) rfl) hS dX7_feels_72
  have L17 : ∀ (u_1 : (Int32 × (Nat → Int32) × (Nat → Int32))) (r_5 : Int32) (n17 : Nat) (y4_17 : Int32) (y3_17 : Int32) (y2_17 : Int32) (H : Heap) (locs : List Loc) (ls : Array Slot), p_X7_feels_17 F x_now_arches x_now_cats f_now_place x_told_size f_told_numbers u_1 r_5 Post n17 y4_17 y3_17 y2_17 → va_P D cls9 [(h, oX7 w_text (.ref q_told) (.ref q_now) w_before w_trial w_past w_kept (.ref q_feltNotes) w_heardNotes w_draws (.ref q_purrs) w_alone w_nimbers w_ways (.ref q_ruling) w_spare), (q_now, oX6 (.ref q_now_load) (.ref q_now_sag) (.ref q_now_joy) (.ref q_now_bowl) (.ref q_now_grief) (.ref q_now_place) (.int x_now_arches) (.int x_now_cats) (.int x_now_store) (.int x_now_hour) (.int x_now_drops)), (q_ruling, oX4 (.ref q_ruling_steps) (.ref q_ruling_stack) (.int x_ruling_size) (.int u_1.1) (.int x_ruling_open) (.int x_ruling_compared) (.int x_ruling_digits) (.int x_ruling_wantsThing)), (q_now_place, aI cT 8 f_now_place), (q_ruling_steps, aI cT 40 f_ruling_steps), (q_ruling_stack, aI cT 40 u_1.2.1), (q_now_sag, aI cT 6 f_now_sag), (q_now_load, aI cT 6 f_now_load), (q_now_joy, aI cT 8 f_now_joy), (q_now_grief, aI cT 8 f_now_grief), (q_now_bowl, aI cT 8 f_now_bowl), (q_purrs, aI cT 8 u_1.2.2), (q_feltNotes, oX1 (.ref q_feltNotes_first) (.ref q_feltNotes_second) (.int x_feltNotes_most) (.int x_feltNotes_size)), (q_feltNotes_first, aI cT 12 f_feltNotes_first), (q_feltNotes_second, aI cT 12 f_feltNotes_second), (q_told, oX3 (.ref q_told_numbers) (.int x_told_size)), (q_told_numbers, aJ cT 8 f_told_numbers)] H → va_D A [(h, oX7 w_text (.ref q_told) (.ref q_now) w_before w_trial w_past w_kept (.ref q_feltNotes) w_heardNotes w_draws (.ref q_purrs) w_alone w_nimbers w_ways (.ref q_ruling) w_spare), (q_now, oX6 (.ref q_now_load) (.ref q_now_sag) (.ref q_now_joy) (.ref q_now_bowl) (.ref q_now_grief) (.ref q_now_place) (.int x_now_arches) (.int x_now_cats) (.int x_now_store) (.int x_now_hour) (.int x_now_drops)), (q_ruling, oX4 (.ref q_ruling_steps) (.ref q_ruling_stack) (.int x_ruling_size) (.int u_1.1) (.int x_ruling_open) (.int x_ruling_compared) (.int x_ruling_digits) (.int x_ruling_wantsThing)), (q_now_place, aI cT 8 f_now_place), (q_ruling_steps, aI cT 40 f_ruling_steps), (q_ruling_stack, aI cT 40 u_1.2.1), (q_now_sag, aI cT 6 f_now_sag), (q_now_load, aI cT 6 f_now_load), (q_now_joy, aI cT 8 f_now_joy), (q_now_grief, aI cT 8 f_now_grief), (q_now_bowl, aI cT 8 f_now_bowl), (q_purrs, aI cT 8 u_1.2.2), (q_feltNotes, oX1 (.ref q_feltNotes_first) (.ref q_feltNotes_second) (.int x_feltNotes_most) (.int x_feltNotes_size)), (q_feltNotes_first, aI cT 12 f_feltNotes_first), (q_feltNotes_second, aI cT 12 f_feltNotes_second), (q_told, oX3 (.ref q_told_numbers) (.int x_told_size)), (q_told_numbers, aJ cT 8 f_told_numbers)] → va_S A s.heap H locs → lv_has ls 6 [(0, .ref h), (1, .int r_5), (2, .int y2_17), (3, .int y3_17), (4, .int y4_17)] → W p l e (rmO 5 120 0 0) s m ([.ref h] : List Value).toArray below meth c H locs 0 0 (MQ below (va_Qi Post (cB D A (fun (u : (Int32 × (Nat → Int32) × (Nat → Int32) × Int32 × (Nat → Int64))) => [(h, oX7 w_text (.ref q_told) (.ref q_now) w_before w_trial w_past w_kept (.ref q_feltNotes) w_heardNotes w_draws (.ref q_purrs) w_alone w_nimbers w_ways (.ref q_ruling) w_spare), (q_now, oX6 (.ref q_now_load) (.ref q_now_sag) (.ref q_now_joy) (.ref q_now_bowl) (.ref q_now_grief) (.ref q_now_place) (.int x_now_arches) (.int x_now_cats) (.int x_now_store) (.int x_now_hour) (.int x_now_drops)), (q_ruling, oX4 (.ref q_ruling_steps) (.ref q_ruling_stack) (.int x_ruling_size) (.int u.1) (.int x_ruling_open) (.int x_ruling_compared) (.int x_ruling_digits) (.int x_ruling_wantsThing)), (q_now_place, aI cT 8 f_now_place), (q_ruling_steps, aI cT 40 f_ruling_steps), (q_ruling_stack, aI cT 40 u.2.1), (q_now_sag, aI cT 6 f_now_sag), (q_now_load, aI cT 6 f_now_load), (q_now_joy, aI cT 8 f_now_joy), (q_now_grief, aI cT 8 f_now_grief), (q_now_bowl, aI cT 8 f_now_bowl), (q_purrs, aI cT 8 u.2.2.1), (q_feltNotes, oX1 (.ref q_feltNotes_first) (.ref q_feltNotes_second) (.int x_feltNotes_most) (.int x_feltNotes_size)), (q_feltNotes_first, aI cT 12 f_feltNotes_first), (q_feltNotes_second, aI cT 12 f_feltNotes_second), (q_told, oX3 (.ref q_told_numbers) (.int u.2.2.2.1)), (q_told_numbers, aJ cT 8 u.2.2.2.2)])) A) ([.ref h] : List Value).toArray s 0 0 A) (F0 m 17 ls []) := by
    intro u_1 r_5 n17
    induction n17 with
    | zero =>
      intro y4_17 y3_17 y2_17 H locs ls hg hP hD hS hl
      exact False.elim hg
    | succ n17 ih17 =>
      have L60 : ∀ (y4_17 : Int32) (y2_60 : Int32) (y3_60 : Int32) (H : Heap) (locs : List Loc) (ls : Array Slot), p_X7_feels_60 F y4_17 (p_X7_feels_17 F x_now_arches x_now_cats f_now_place x_told_size f_told_numbers u_1 r_5 Post n17) Post y2_60 y3_60 → va_P D cls9 [(h, oX7 w_text (.ref q_told) (.ref q_now) w_before w_trial w_past w_kept (.ref q_feltNotes) w_heardNotes w_draws (.ref q_purrs) w_alone w_nimbers w_ways (.ref q_ruling) w_spare), (q_now, oX6 (.ref q_now_load) (.ref q_now_sag) (.ref q_now_joy) (.ref q_now_bowl) (.ref q_now_grief) (.ref q_now_place) (.int x_now_arches) (.int x_now_cats) (.int x_now_store) (.int x_now_hour) (.int x_now_drops)), (q_ruling, oX4 (.ref q_ruling_steps) (.ref q_ruling_stack) (.int x_ruling_size) (.int u_1.1) (.int x_ruling_open) (.int x_ruling_compared) (.int x_ruling_digits) (.int x_ruling_wantsThing)), (q_now_place, aI cT 8 f_now_place), (q_ruling_steps, aI cT 40 f_ruling_steps), (q_ruling_stack, aI cT 40 u_1.2.1), (q_now_sag, aI cT 6 f_now_sag), (q_now_load, aI cT 6 f_now_load), (q_now_joy, aI cT 8 f_now_joy), (q_now_grief, aI cT 8 f_now_grief), (q_now_bowl, aI cT 8 f_now_bowl), (q_purrs, aI cT 8 u_1.2.2), (q_feltNotes, oX1 (.ref q_feltNotes_first) (.ref q_feltNotes_second) (.int x_feltNotes_most) (.int x_feltNotes_size)), (q_feltNotes_first, aI cT 12 f_feltNotes_first), (q_feltNotes_second, aI cT 12 f_feltNotes_second), (q_told, oX3 (.ref q_told_numbers) (.int x_told_size)), (q_told_numbers, aJ cT 8 f_told_numbers)] H → va_D A [(h, oX7 w_text (.ref q_told) (.ref q_now) w_before w_trial w_past w_kept (.ref q_feltNotes) w_heardNotes w_draws (.ref q_purrs) w_alone w_nimbers w_ways (.ref q_ruling) w_spare), (q_now, oX6 (.ref q_now_load) (.ref q_now_sag) (.ref q_now_joy) (.ref q_now_bowl) (.ref q_now_grief) (.ref q_now_place) (.int x_now_arches) (.int x_now_cats) (.int x_now_store) (.int x_now_hour) (.int x_now_drops)), (q_ruling, oX4 (.ref q_ruling_steps) (.ref q_ruling_stack) (.int x_ruling_size) (.int u_1.1) (.int x_ruling_open) (.int x_ruling_compared) (.int x_ruling_digits) (.int x_ruling_wantsThing)), (q_now_place, aI cT 8 f_now_place), (q_ruling_steps, aI cT 40 f_ruling_steps), (q_ruling_stack, aI cT 40 u_1.2.1), (q_now_sag, aI cT 6 f_now_sag), (q_now_load, aI cT 6 f_now_load), (q_now_joy, aI cT 8 f_now_joy), (q_now_grief, aI cT 8 f_now_grief), (q_now_bowl, aI cT 8 f_now_bowl), (q_purrs, aI cT 8 u_1.2.2), (q_feltNotes, oX1 (.ref q_feltNotes_first) (.ref q_feltNotes_second) (.int x_feltNotes_most) (.int x_feltNotes_size)), (q_feltNotes_first, aI cT 12 f_feltNotes_first), (q_feltNotes_second, aI cT 12 f_feltNotes_second), (q_told, oX3 (.ref q_told_numbers) (.int x_told_size)), (q_told_numbers, aJ cT 8 f_told_numbers)] → va_S A s.heap H locs → lv_has ls 6 [(0, .ref h), (1, .int r_5), (2, .int y2_60), (3, .int y3_60), (4, .int y4_17)] → W p l e (rmO 5 120 0 0) s m ([.ref h] : List Value).toArray below meth c H locs 0 0 (MQ below (va_Qi Post (cB D A (fun (u : (Int32 × (Nat → Int32) × (Nat → Int32) × Int32 × (Nat → Int64))) => [(h, oX7 w_text (.ref q_told) (.ref q_now) w_before w_trial w_past w_kept (.ref q_feltNotes) w_heardNotes w_draws (.ref q_purrs) w_alone w_nimbers w_ways (.ref q_ruling) w_spare), (q_now, oX6 (.ref q_now_load) (.ref q_now_sag) (.ref q_now_joy) (.ref q_now_bowl) (.ref q_now_grief) (.ref q_now_place) (.int x_now_arches) (.int x_now_cats) (.int x_now_store) (.int x_now_hour) (.int x_now_drops)), (q_ruling, oX4 (.ref q_ruling_steps) (.ref q_ruling_stack) (.int x_ruling_size) (.int u.1) (.int x_ruling_open) (.int x_ruling_compared) (.int x_ruling_digits) (.int x_ruling_wantsThing)), (q_now_place, aI cT 8 f_now_place), (q_ruling_steps, aI cT 40 f_ruling_steps), (q_ruling_stack, aI cT 40 u.2.1), (q_now_sag, aI cT 6 f_now_sag), (q_now_load, aI cT 6 f_now_load), (q_now_joy, aI cT 8 f_now_joy), (q_now_grief, aI cT 8 f_now_grief), (q_now_bowl, aI cT 8 f_now_bowl), (q_purrs, aI cT 8 u.2.2.1), (q_feltNotes, oX1 (.ref q_feltNotes_first) (.ref q_feltNotes_second) (.int x_feltNotes_most) (.int x_feltNotes_size)), (q_feltNotes_first, aI cT 12 f_feltNotes_first), (q_feltNotes_second, aI cT 12 f_feltNotes_second), (q_told, oX3 (.ref q_told_numbers) (.int u.2.2.2.1)), (q_told_numbers, aJ cT 8 u.2.2.2.2)])) A) ([.ref h] : List Value).toArray s 0 0 A) (F0 m 60 ls []) := by
        intro y4_17 y2_60 y3_60 H locs ls hg hP hD hS hl
        unfold p_X7_feels_60 at hg
        refine lv_iinc (v := (y4_17 + (1 : Int32))) (lv' := [(4, .int (y4_17 + (1 : Int32))), (0, .ref h), (1, .int r_5), (2, .int y2_60), (3, .int y3_60)]) hx hb dX7_feels_60 hl (k := 4) rfl rfl (by decide) rfl (fun ls hl => ?_)
        refine lv_goto (tgt := 17) hx hb dX7_feels_63 (by decide) ?_
        exact ih17 (y4_17 + (1 : Int32)) y3_60 y2_60 _ _ _ hg hP hD hS (lv_sub hl [1, 2, 3, 4, 0] rfl)
      have L54 : ∀ (r_37 : Int32) (y4_17 : Int32) (H : Heap) (locs : List Loc) (ls : Array Slot), p_X7_feels_54 F r_37 y4_17 (p_X7_feels_17 F x_now_arches x_now_cats f_now_place x_told_size f_told_numbers u_1 r_5 Post n17) Post → va_P D cls9 [(h, oX7 w_text (.ref q_told) (.ref q_now) w_before w_trial w_past w_kept (.ref q_feltNotes) w_heardNotes w_draws (.ref q_purrs) w_alone w_nimbers w_ways (.ref q_ruling) w_spare), (q_now, oX6 (.ref q_now_load) (.ref q_now_sag) (.ref q_now_joy) (.ref q_now_bowl) (.ref q_now_grief) (.ref q_now_place) (.int x_now_arches) (.int x_now_cats) (.int x_now_store) (.int x_now_hour) (.int x_now_drops)), (q_ruling, oX4 (.ref q_ruling_steps) (.ref q_ruling_stack) (.int x_ruling_size) (.int u_1.1) (.int x_ruling_open) (.int x_ruling_compared) (.int x_ruling_digits) (.int x_ruling_wantsThing)), (q_now_place, aI cT 8 f_now_place), (q_ruling_steps, aI cT 40 f_ruling_steps), (q_ruling_stack, aI cT 40 u_1.2.1), (q_now_sag, aI cT 6 f_now_sag), (q_now_load, aI cT 6 f_now_load), (q_now_joy, aI cT 8 f_now_joy), (q_now_grief, aI cT 8 f_now_grief), (q_now_bowl, aI cT 8 f_now_bowl), (q_purrs, aI cT 8 u_1.2.2), (q_feltNotes, oX1 (.ref q_feltNotes_first) (.ref q_feltNotes_second) (.int x_feltNotes_most) (.int x_feltNotes_size)), (q_feltNotes_first, aI cT 12 f_feltNotes_first), (q_feltNotes_second, aI cT 12 f_feltNotes_second), (q_told, oX3 (.ref q_told_numbers) (.int x_told_size)), (q_told_numbers, aJ cT 8 f_told_numbers)] H → va_D A [(h, oX7 w_text (.ref q_told) (.ref q_now) w_before w_trial w_past w_kept (.ref q_feltNotes) w_heardNotes w_draws (.ref q_purrs) w_alone w_nimbers w_ways (.ref q_ruling) w_spare), (q_now, oX6 (.ref q_now_load) (.ref q_now_sag) (.ref q_now_joy) (.ref q_now_bowl) (.ref q_now_grief) (.ref q_now_place) (.int x_now_arches) (.int x_now_cats) (.int x_now_store) (.int x_now_hour) (.int x_now_drops)), (q_ruling, oX4 (.ref q_ruling_steps) (.ref q_ruling_stack) (.int x_ruling_size) (.int u_1.1) (.int x_ruling_open) (.int x_ruling_compared) (.int x_ruling_digits) (.int x_ruling_wantsThing)), (q_now_place, aI cT 8 f_now_place), (q_ruling_steps, aI cT 40 f_ruling_steps), (q_ruling_stack, aI cT 40 u_1.2.1), (q_now_sag, aI cT 6 f_now_sag), (q_now_load, aI cT 6 f_now_load), (q_now_joy, aI cT 8 f_now_joy), (q_now_grief, aI cT 8 f_now_grief), (q_now_bowl, aI cT 8 f_now_bowl), (q_purrs, aI cT 8 u_1.2.2), (q_feltNotes, oX1 (.ref q_feltNotes_first) (.ref q_feltNotes_second) (.int x_feltNotes_most) (.int x_feltNotes_size)), (q_feltNotes_first, aI cT 12 f_feltNotes_first), (q_feltNotes_second, aI cT 12 f_feltNotes_second), (q_told, oX3 (.ref q_told_numbers) (.int x_told_size)), (q_told_numbers, aJ cT 8 f_told_numbers)] → va_S A s.heap H locs → lv_has ls 6 [(0, .ref h), (1, .int r_5), (4, .int y4_17), (5, .int r_37)] → W p l e (rmO 5 120 0 0) s m ([.ref h] : List Value).toArray below meth c H locs 0 0 (MQ below (va_Qi Post (cB D A (fun (u : (Int32 × (Nat → Int32) × (Nat → Int32) × Int32 × (Nat → Int64))) => [(h, oX7 w_text (.ref q_told) (.ref q_now) w_before w_trial w_past w_kept (.ref q_feltNotes) w_heardNotes w_draws (.ref q_purrs) w_alone w_nimbers w_ways (.ref q_ruling) w_spare), (q_now, oX6 (.ref q_now_load) (.ref q_now_sag) (.ref q_now_joy) (.ref q_now_bowl) (.ref q_now_grief) (.ref q_now_place) (.int x_now_arches) (.int x_now_cats) (.int x_now_store) (.int x_now_hour) (.int x_now_drops)), (q_ruling, oX4 (.ref q_ruling_steps) (.ref q_ruling_stack) (.int x_ruling_size) (.int u.1) (.int x_ruling_open) (.int x_ruling_compared) (.int x_ruling_digits) (.int x_ruling_wantsThing)), (q_now_place, aI cT 8 f_now_place), (q_ruling_steps, aI cT 40 f_ruling_steps), (q_ruling_stack, aI cT 40 u.2.1), (q_now_sag, aI cT 6 f_now_sag), (q_now_load, aI cT 6 f_now_load), (q_now_joy, aI cT 8 f_now_joy), (q_now_grief, aI cT 8 f_now_grief), (q_now_bowl, aI cT 8 f_now_bowl), (q_purrs, aI cT 8 u.2.2.1), (q_feltNotes, oX1 (.ref q_feltNotes_first) (.ref q_feltNotes_second) (.int x_feltNotes_most) (.int x_feltNotes_size)), (q_feltNotes_first, aI cT 12 f_feltNotes_first), (q_feltNotes_second, aI cT 12 f_feltNotes_second), (q_told, oX3 (.ref q_told_numbers) (.int u.2.2.2.1)), (q_told_numbers, aJ cT 8 u.2.2.2.2)])) A) ([.ref h] : List Value).toArray s 0 0 A) (F0 m 54 ls []) := by
        intro r_37 y4_17 H locs ls hg hP hD hS hl
        unfold p_X7_feels_54 at hg
        refine lv_iload hx hb dX7_feels_54 (lv_at hl 2 rfl) ?_
        refine lv_istore_n (lv' := [(2, .int y4_17), (0, .ref h), (1, .int r_5), (4, .int y4_17), (5, .int r_37)]) hx hb dX7_feels_56 rfl hl (by decide) rfl (fun ls hl => ?_)
        refine lv_iload hx hb dX7_feels_57 (lv_at hl 4 rfl) ?_
        refine lv_istore_n (lv' := [(3, .int r_37), (2, .int y4_17), (0, .ref h), (1, .int r_5), (4, .int y4_17), (5, .int r_37)]) hx hb dX7_feels_59 rfl hl (by decide) rfl (fun ls hl => ?_)
        exact L60 y4_17 y4_17 r_37 _ _ _ hg hP hD hS (lv_sub hl [2, 3, 1, 0, 4] rfl)
      intro y4_17 y3_17 y2_17 H locs ls hg hP hD hS hl
      rw [p_X7_feels_17_s] at hg
      refine lv_iload hx hb dX7_feels_17 (lv_at hl 4 rfl) ?_
      refine lv_aload_n hx hb dX7_feels_19 rfl (lv_at hl 0 rfl) ?_
      refine gf_X7_26 C0 hP 0 rfl rfl dX7_feels_20 ?_
      refine gf_X7_98 C0 hP 1 rfl rfl dX7_feels_23 ?_
      refine lv_icmp_ge (tgt := 66) hx hb dX7_feels_26 (by decide) (fun c_26 => ?_) (fun c_26 => ?_)
      · have hg := hg.1 c_26
        exact L66 u_1 y3_17 y2_17 _ _ _ hg hP hD hS (lv_sub hl [0, 2, 3] rfl)
      have hg := hg.2 c_26
      refine lv_iload_n hx hb dX7_feels_29 rfl (lv_at hl 1 rfl) ?_
      refine lv_if_eq (tgt := 66) hx hb dX7_feels_30 (by decide) (fun c_30 => ?_) (fun c_30 => ?_)
      · have hg := hg.1 c_30
        exact L66 u_1 y3_17 y2_17 _ _ _ hg hP hD hS (lv_sub hl [0, 2, 3] rfl)
      have hg := hg.2 c_30
      refine lv_aload_n hx hb dX7_feels_33 rfl (lv_at hl 0 rfl) ?_
      refine lv_iload hx hb dX7_feels_34 (lv_at hl 4 rfl) ?_
      refine lv_iload_n hx hb dX7_feels_36 rfl (lv_at hl 1 rfl) ?_
      refine k_Vxi (rest := []) C0 lk_X7_332 (c_X7_mostLeft l D cT F h y4_17 r_5 w_text (.ref q_told) q_now w_before w_trial w_past w_kept (.ref q_feltNotes) w_heardNotes w_draws q_purrs w_alone w_nimbers w_ways (.ref q_ruling) w_spare (.ref q_now_load) (.ref q_now_sag) (.ref q_now_joy) (.ref q_now_bowl) (.ref q_now_grief) q_now_place x_now_arches x_now_cats x_now_store x_now_hour x_now_drops f_now_place u_1.2.2 _ hg) hP hD hS hA [0, 1, 3, 11] (by decide +kernel) rfl rfl rfl ⟨Nat.le_of_ble_eq_true rfl, Nat.le_of_ble_eq_true rfl⟩ rfl hl.1 rfl (Nat.le_of_ble_eq_true rfl) dX7_feels_37 ⟨Nat.le_of_ble_eq_true rfl, Nat.le_of_ble_eq_true rfl⟩ (fun r_37 hg => ?_)
      refine lv_istore (lv' := [(5, .int r_37), (0, .ref h), (1, .int r_5), (2, .int y2_17), (3, .int y3_17), (4, .int y4_17)]) hx hb dX7_feels_40 hl (by decide) rfl (fun ls hl => ?_)
      refine lv_iload_n hx hb dX7_feels_42 rfl (lv_at hl 3 rfl) ?_
      refine lv_bipush (v := (-2 : Int32)) hx hb dX7_feels_43 (by decide) ?_
      refine lv_icmp_eq (tgt := 54) hx hb dX7_feels_45 (by decide) (fun c_45 => ?_) (fun c_45 => ?_)
      · have hg := hg.1 c_45
        exact L54 r_37 y4_17 _ _ _ hg hP hD hS (lv_sub hl [1, 2, 5, 0] rfl)
      have hg := hg.2 c_45
      refine lv_iload hx hb dX7_feels_48 (lv_at hl 0 rfl) ?_
      refine lv_iload_n hx hb dX7_feels_50 rfl (lv_at hl 4 rfl) ?_
      refine lv_icmp_ge (tgt := 60) hx hb dX7_feels_51 (by decide) (fun c_51 => ?_) (fun c_51 => ?_)
      · have hg := hg.1 c_51
        exact L60 y4_17 y2_17 y3_17 _ _ _ hg hP hD hS (lv_sub hl [1, 2, 3, 4, 5] rfl)
      have hg := hg.2 c_51
      exact L54 r_37 y4_17 _ _ _ hg hP hD hS (lv_sub hl [1, 2, 5, 0] rfl)
  unfold p_X7_feels at hg
  refine lv_aload_n hx hb dX7_feels_0 rfl (lv_at hl 0 rfl) ?_
  refine k_Vv (rest := []) (wr := [(q_feltNotes, oX1 (.ref q_feltNotes_first) (.ref q_feltNotes_second) (.int x_feltNotes_most) (.int x_feltNotes_size)), (q_feltNotes_first, aI cT 12 f_feltNotes_first), (q_feltNotes_second, aI cT 12 f_feltNotes_second), (q_told, oX3 (.ref q_told_numbers) (.int x_told_size)), (q_told_numbers, aJ cT 8 f_told_numbers)]) (w2 := fun u_1 => [(q_feltNotes, oX1 (.ref q_feltNotes_first) (.ref q_feltNotes_second) (.int x_feltNotes_most) (.int x_feltNotes_size)), (q_feltNotes_first, aI cT 12 f_feltNotes_first), (q_feltNotes_second, aI cT 12 f_feltNotes_second), (q_told, oX3 (.ref q_told_numbers) (.int x_told_size)), (q_told_numbers, aJ cT 8 f_told_numbers), (h, oX7 w_text (.ref q_told) (.ref q_now) w_before w_trial w_past w_kept (.ref q_feltNotes) w_heardNotes w_draws (.ref q_purrs) w_alone w_nimbers w_ways (.ref q_ruling) w_spare), (q_now, oX6 (.ref q_now_load) (.ref q_now_sag) (.ref q_now_joy) (.ref q_now_bowl) (.ref q_now_grief) (.ref q_now_place) (.int x_now_arches) (.int x_now_cats) (.int x_now_store) (.int x_now_hour) (.int x_now_drops)), (q_ruling, oX4 (.ref q_ruling_steps) (.ref q_ruling_stack) (.int x_ruling_size) (.int u_1.1) (.int x_ruling_open) (.int x_ruling_compared) (.int x_ruling_digits) (.int x_ruling_wantsThing)), (q_now_place, aI cT 8 f_now_place), (q_ruling_steps, aI cT 40 f_ruling_steps), (q_ruling_stack, aI cT 40 u_1.2.1), (q_now_sag, aI cT 6 f_now_sag), (q_now_load, aI cT 6 f_now_load), (q_now_joy, aI cT 8 f_now_joy), (q_now_grief, aI cT 8 f_now_grief), (q_now_bowl, aI cT 8 f_now_bowl), (q_purrs, aI cT 8 u_1.2.2)]) C0 lk_X7_313 (c_X7_findPurrs l D cT F h w_text (.ref q_told) q_now w_before w_trial w_past w_kept (.ref q_feltNotes) w_heardNotes w_draws q_purrs w_alone w_nimbers w_ways q_ruling w_spare q_now_load q_now_sag q_now_joy q_now_bowl q_now_grief q_now_place x_now_arches x_now_cats x_now_store x_now_hour x_now_drops q_ruling_steps q_ruling_stack x_ruling_size x_ruling_top x_ruling_open x_ruling_compared x_ruling_digits x_ruling_wantsThing f_now_place f_ruling_steps f_ruling_stack f_now_sag f_now_load f_now_joy f_now_grief f_now_bowl f_purrs _ hg) hP hD hS hA [0, 1, 2, 3, 4, 5, 6, 7, 8, 9, 10, 11] [12, 13, 14, 15, 16] (by decide +kernel) rfl rfl (fun _ => rfl) rfl rfl ⟨Nat.le_of_ble_eq_true rfl, Nat.le_of_ble_eq_true rfl⟩ rfl hl.1 rfl (Nat.le_of_ble_eq_true rfl) dX7_feels_1 ⟨Nat.le_of_ble_eq_true rfl, Nat.le_of_ble_eq_true rfl⟩ ?_
  intro u_1 H locs hg hP hD hS
  refine lv_aload_n hx hb dX7_feels_4 rfl (lv_at hl 0 rfl) ?_
  refine k_Vxi (rest := []) C0 lk_X7_316 (c_X7_fittingCats l D cT F h w_text (.ref q_told) q_now w_before w_trial w_past w_kept q_feltNotes w_heardNotes w_draws q_purrs w_alone w_nimbers w_ways (.ref q_ruling) w_spare (.ref q_now_load) (.ref q_now_sag) (.ref q_now_joy) (.ref q_now_bowl) (.ref q_now_grief) q_now_place x_now_arches x_now_cats x_now_store x_now_hour x_now_drops q_feltNotes_first q_feltNotes_second x_feltNotes_most x_feltNotes_size f_feltNotes_first f_now_place u_1.2.2 f_feltNotes_second _ hg) hP hD hS hA [5, 6, 0, 1, 8, 16, 2] (by decide +kernel) rfl rfl rfl ⟨Nat.le_of_ble_eq_true rfl, Nat.le_of_ble_eq_true rfl⟩ rfl hl.1 rfl (Nat.le_of_ble_eq_true rfl) dX7_feels_5 ⟨Nat.le_of_ble_eq_true rfl, Nat.le_of_ble_eq_true rfl⟩ (fun r_5 hg => ?_)
  refine lv_istore_n (lv' := [(1, .int r_5), (0, .ref h)]) hx hb dX7_feels_8 rfl hl (by decide) rfl (fun ls hl => ?_)
  refine lv_bipush (v := (-2 : Int32)) hx hb dX7_feels_9 (by decide) ?_
  refine lv_istore_n (lv' := [(2, .int (-2 : Int32)), (1, .int r_5), (0, .ref h)]) hx hb dX7_feels_11 rfl hl (by decide) rfl (fun ls hl => ?_)
  refine lv_iconst (v := (0 : Int32)) hx hb dX7_feels_12 (by decide) ?_
  refine lv_istore_n (lv' := [(3, .int (0 : Int32)), (2, .int (-2 : Int32)), (1, .int r_5), (0, .ref h)]) hx hb dX7_feels_13 rfl hl (by decide) rfl (fun ls hl => ?_)
  refine lv_iconst (v := (0 : Int32)) hx hb dX7_feels_14 (by decide) ?_
  refine lv_istore (lv' := [(4, .int (0 : Int32)), (3, .int (0 : Int32)), (2, .int (-2 : Int32)), (1, .int r_5), (0, .ref h)]) hx hb dX7_feels_15 hl (by decide) rfl (fun ls hl => ?_)
  exact L17 u_1 r_5 F (0 : Int32) (0 : Int32) (-2 : Int32) _ _ _ hg (subP hP [5, 6, 7, 8, 9, 10, 11, 12, 13, 14, 15, 16, 0, 1, 2, 3, 4] rfl) (hD.sub [5, 6, 7, 8, 9, 10, 11, 12, 13, 14, 15, 16, 0, 1, 2, 3, 4] (nd2_ok _ (by decide +kernel)) rfl) hS (lv_sub hl [4, 3, 2, 1, 0] rfl)
theorem dX7_spreads_0 : decode cX7_spreads 0 = .ok (.aload_n 0, 1) := by decide +kernel
theorem dX7_spreads_1 : decode cX7_spreads 1 = .ok (.getfield 26, 3) := by decide +kernel
theorem dX7_spreads_4 : decode cX7_spreads 4 = .ok (.iload_n 1, 1) := by decide +kernel
theorem dX7_spreads_5 : decode cX7_spreads 5 = .ok (.invokevirtual 156, 3) := by decide +kernel
theorem dX7_spreads_8 : decode cX7_spreads 8 = .ok (.ifCond .eq 13, 3) := by decide +kernel
theorem dX7_spreads_11 : decode cX7_spreads 11 = .ok (.iload_n 2, 1) := by decide +kernel
theorem dX7_spreads_12 : decode cX7_spreads 12 = .ok (.ifCond .lt 9, 3) := by decide +kernel
theorem dX7_spreads_15 : decode cX7_spreads 15 = .ok (.iload_n 2, 1) := by decide +kernel
theorem dX7_spreads_16 : decode cX7_spreads 16 = .ok (.bipush 9, 2) := by decide +kernel
theorem dX7_spreads_18 : decode cX7_spreads 18 = .ok (.if_icmp .le 5, 3) := by decide +kernel
theorem dX7_spreads_21 : decode cX7_spreads 21 = .ok (.iconst (-1), 1) := by decide +kernel
theorem dX7_spreads_22 : decode cX7_spreads 22 = .ok (.ireturn, 1) := by decide +kernel
theorem dX7_spreads_23 : decode cX7_spreads 23 = .ok (.iconst 1, 1) := by decide +kernel
theorem dX7_spreads_24 : decode cX7_spreads 24 = .ok (.iload_n 1, 1) := by decide +kernel
theorem dX7_spreads_25 : decode cX7_spreads 25 = .ok (.ishl, 1) := by decide +kernel
theorem dX7_spreads_26 : decode cX7_spreads 26 = .ok (.istore_n 3, 1) := by decide +kernel
theorem dX7_spreads_27 : decode cX7_spreads 27 = .ok (.iload_n 3, 1) := by decide +kernel
theorem dX7_spreads_28 : decode cX7_spreads 28 = .ok (.istore 4, 2) := by decide +kernel
theorem dX7_spreads_30 : decode cX7_spreads 30 = .ok (.iconst 0, 1) := by decide +kernel
theorem dX7_spreads_31 : decode cX7_spreads 31 = .ok (.istore 5, 2) := by decide +kernel
theorem dX7_spreads_33 : decode cX7_spreads 33 = .ok (.iconst 1, 1) := by decide +kernel
theorem dX7_spreads_34 : decode cX7_spreads 34 = .ok (.istore 6, 2) := by decide +kernel
theorem dX7_spreads_36 : decode cX7_spreads 36 = .ok (.iload 6, 2) := by decide +kernel
theorem dX7_spreads_38 : decode cX7_spreads 38 = .ok (.bipush 9, 2) := by decide +kernel
theorem dX7_spreads_40 : decode cX7_spreads 40 = .ok (.if_icmp .gt 51, 3) := by decide +kernel
theorem dX7_spreads_43 : decode cX7_spreads 43 = .ok (.aload_n 0, 1) := by decide +kernel
theorem dX7_spreads_44 : decode cX7_spreads 44 = .ok (.getfield 26, 3) := by decide +kernel
theorem dX7_spreads_47 : decode cX7_spreads 47 = .ok (.iload_n 3, 1) := by decide +kernel
theorem dX7_spreads_48 : decode cX7_spreads 48 = .ok (.invokevirtual 335, 3) := by decide +kernel
theorem dX7_spreads_51 : decode cX7_spreads 51 = .ok (.istore 7, 2) := by decide +kernel
theorem dX7_spreads_53 : decode cX7_spreads 53 = .ok (.iload 7, 2) := by decide +kernel
theorem dX7_spreads_55 : decode cX7_spreads 55 = .ok (.iload_n 3, 1) := by decide +kernel
theorem dX7_spreads_56 : decode cX7_spreads 56 = .ok (.if_icmp .ne 8, 3) := by decide +kernel
theorem dX7_spreads_59 : decode cX7_spreads 59 = .ok (.iload 5, 2) := by decide +kernel
theorem dX7_spreads_61 : decode cX7_spreads 61 = .ok (.goto 5, 3) := by decide +kernel
theorem dX7_spreads_64 : decode cX7_spreads 64 = .ok (.iload 6, 2) := by decide +kernel
theorem dX7_spreads_66 : decode cX7_spreads 66 = .ok (.istore 5, 2) := by decide +kernel
theorem dX7_spreads_68 : decode cX7_spreads 68 = .ok (.iload 7, 2) := by decide +kernel
theorem dX7_spreads_70 : decode cX7_spreads 70 = .ok (.istore_n 3, 1) := by decide +kernel
theorem dX7_spreads_71 : decode cX7_spreads 71 = .ok (.iload 6, 2) := by decide +kernel
theorem dX7_spreads_73 : decode cX7_spreads 73 = .ok (.iload_n 2, 1) := by decide +kernel
theorem dX7_spreads_74 : decode cX7_spreads 74 = .ok (.if_icmp .gt 7, 3) := by decide +kernel
theorem dX7_spreads_77 : decode cX7_spreads 77 = .ok (.iload_n 3, 1) := by decide +kernel
theorem dX7_spreads_78 : decode cX7_spreads 78 = .ok (.goto 5, 3) := by decide +kernel
theorem dX7_spreads_81 : decode cX7_spreads 81 = .ok (.iload 4, 2) := by decide +kernel
theorem dX7_spreads_83 : decode cX7_spreads 83 = .ok (.istore 4, 2) := by decide +kernel
theorem dX7_spreads_85 : decode cX7_spreads 85 = .ok (.iinc 6 1, 3) := by decide +kernel
theorem dX7_spreads_88 : decode cX7_spreads 88 = .ok (.goto (-52), 3) := by decide +kernel
theorem dX7_spreads_91 : decode cX7_spreads 91 = .ok (.aload_n 0, 1) := by decide +kernel
theorem dX7_spreads_92 : decode cX7_spreads 92 = .ok (.getfield 19, 3) := by decide +kernel
theorem dX7_spreads_95 : decode cX7_spreads 95 = .ok (.invokevirtual 201, 3) := by decide +kernel
theorem dX7_spreads_98 : decode cX7_spreads 98 = .ok (.iload 4, 2) := by decide +kernel
theorem dX7_spreads_100 : decode cX7_spreads 100 = .ok (.invokestatic 253, 3) := by decide +kernel
theorem dX7_spreads_103 : decode cX7_spreads 103 = .ok (.i2l, 1) := by decide +kernel
theorem dX7_spreads_104 : decode cX7_spreads 104 = .ok (.invokevirtual 205, 3) := by decide +kernel
theorem dX7_spreads_107 : decode cX7_spreads 107 = .ok (.iload 5, 2) := by decide +kernel
theorem dX7_spreads_109 : decode cX7_spreads 109 = .ok (.i2l, 1) := by decide +kernel
theorem dX7_spreads_110 : decode cX7_spreads 110 = .ok (.invokevirtual 205, 3) := by decide +kernel
theorem dX7_spreads_113 : decode cX7_spreads 113 = .ok (.pop, 1) := by decide +kernel
theorem dX7_spreads_114 : decode cX7_spreads 114 = .ok (.iload 4, 2) := by decide +kernel
theorem dX7_spreads_116 : decode cX7_spreads 116 = .ok (.ireturn, 1) := by decide +kernel
def p_X7_spreads_83 (F : Nat) (r_48 : Int32) (s0_66 : Int32) (y6_36 : Int32) (k36 : Int32 → Int32 → Int32 → Int32 → Prop) (Post : Int32 → (Int32 × (Nat → Int64)) → Prop) (s0_83 : Int32) : Prop := (k36 (y6_36 + (1 : Int32)) s0_66 s0_83 r_48)
def p_X7_spreads_66 (F : Nat) (p2 : Int32) (r_48 : Int32) (y6_36 : Int32) (y4_36 : Int32) (k36 : Int32 → Int32 → Int32 → Int32 → Prop) (Post : Int32 → (Int32 × (Nat → Int64)) → Prop) (s0_66 : Int32) : Prop := ((p2 < y6_36 → (p_X7_spreads_83 F r_48 s0_66 y6_36 k36 Post y4_36)) ∧ (¬ p2 < y6_36 → (p_X7_spreads_83 F r_48 s0_66 y6_36 k36 Post r_48)))
noncomputable def p_X7_spreads_36 (F : Nat) (p2 : Int32) (x_now_cats : Int32) (f_now_place : Nat → Int32) (f_told_numbers : Nat → Int64) (Post : Int32 → (Int32 × (Nat → Int64)) → Prop) (n : Nat) : Int32 → Int32 → Int32 → Int32 → Prop := Nat.rec (motive := fun _ => Int32 → Int32 → Int32 → Int32 → Prop) (fun _ _ _ _ => False) (fun _ k36 => fun (y6_36 : Int32) (y5_36 : Int32) (y4_36 : Int32) (y3_36 : Int32) => (((9 : Int32) < y6_36 → (p_X3_anew F (fun (u_95 : Int32) => (p_J6_bitCount_0f7a4 F y4_36 (fun (r_100 : Int32) => (p_X3_add F (r_100.toInt64) u_95 f_told_numbers (fun (u_104 : (Int32 × (Nat → Int64))) => (p_X3_add F (y5_36.toInt64) u_104.1 u_104.2 (fun (u_110 : (Int32 × (Nat → Int64))) => (Post y4_36 (u_110.1, u_110.2))))))))))) ∧ (¬ (9 : Int32) < y6_36 → (p_X6_spreadFrom F y3_36 x_now_cats f_now_place (fun (r_48 : Int32) => ((¬ r_48 = y3_36 → (p_X7_spreads_66 F p2 r_48 y6_36 y4_36 k36 Post y6_36)) ∧ (r_48 = y3_36 → (p_X7_spreads_66 F p2 r_48 y6_36 y4_36 k36 Post y5_36)))))))) n
theorem p_X7_spreads_36_s (F : Nat) (p2 : Int32) (x_now_cats : Int32) (f_now_place : Nat → Int32) (f_told_numbers : Nat → Int64) (Post : Int32 → (Int32 × (Nat → Int64)) → Prop) (n : Nat) (y6_36 : Int32) (y5_36 : Int32) (y4_36 : Int32) (y3_36 : Int32) : p_X7_spreads_36 F p2 x_now_cats f_now_place f_told_numbers Post (n + 1) y6_36 y5_36 y4_36 y3_36 = (((9 : Int32) < y6_36 → (p_X3_anew F (fun (u_95 : Int32) => (p_J6_bitCount_0f7a4 F y4_36 (fun (r_100 : Int32) => (p_X3_add F (r_100.toInt64) u_95 f_told_numbers (fun (u_104 : (Int32 × (Nat → Int64))) => (p_X3_add F (y5_36.toInt64) u_104.1 u_104.2 (fun (u_110 : (Int32 × (Nat → Int64))) => (Post y4_36 (u_110.1, u_110.2))))))))))) ∧ (¬ (9 : Int32) < y6_36 → (p_X6_spreadFrom F y3_36 x_now_cats f_now_place (fun (r_48 : Int32) => ((¬ r_48 = y3_36 → (p_X7_spreads_66 F p2 r_48 y6_36 y4_36 (p_X7_spreads_36 F p2 x_now_cats f_now_place f_told_numbers Post n) Post y6_36)) ∧ (r_48 = y3_36 → (p_X7_spreads_66 F p2 r_48 y6_36 y4_36 (p_X7_spreads_36 F p2 x_now_cats f_now_place f_told_numbers Post n) Post y5_36))))))) := rfl
def p_X7_spreads (F : Nat) (p1 : Int32) (p2 : Int32) (x_now_cats : Int32) (f_now_place : Nat → Int32) (x_told_size : Int32) (f_told_numbers : Nat → Int64) (Post : Int32 → (Int32 × (Nat → Int64)) → Prop) : Prop := (p_X6_hasCat F p1 x_now_cats (fun (r_5 : Int32) => ((r_5 = 0 → (Post (-1 : Int32) (x_told_size, f_told_numbers))) ∧ (¬ r_5 = 0 → ((p2 < 0 → (Post (-1 : Int32) (x_told_size, f_told_numbers))) ∧ (¬ p2 < 0 → ((p2 ≤ (9 : Int32) → (p_X7_spreads_36 F p2 x_now_cats f_now_place f_told_numbers Post F (1 : Int32) (0 : Int32) ((1 : Int32) <<< (p1 &&& 31)) ((1 : Int32) <<< (p1 &&& 31)))) ∧ (¬ p2 ≤ (9 : Int32) → (Post (-1 : Int32) (x_told_size, f_told_numbers))))))))))
set_option maxHeartbeats 4000000 in
set_option maxRecDepth 100000 in
theorem c_X7_spreads (l : Launch) (D : va_G) (cT : Nat → ClassId) (F : Nat) (h : Nat) (p1 : Int32) (p2 : Int32) (w_text : Value) (q_told : Nat) (q_now : Nat) (w_before : Value) (w_trial : Value) (w_past : Value) (w_kept : Value) (w_feltNotes : Value) (w_heardNotes : Value) (w_draws : Value) (w_purrs : Value) (w_alone : Value) (w_nimbers : Value) (w_ways : Value) (w_ruling : Value) (w_spare : Value) (w_now_load : Value) (w_now_sag : Value) (w_now_joy : Value) (w_now_bowl : Value) (w_now_grief : Value) (q_now_place : Nat) (x_now_arches : Int32) (x_now_cats : Int32) (x_now_store : Int32) (x_now_hour : Int32) (x_now_drops : Int32) (f_now_place : Nat → Int32) (q_told_numbers : Nat) (x_told_size : Int32) (f_told_numbers : Nat → Int64) (Post : Int32 → (Int32 × (Nat → Int64)) → Prop) (hg : p_X7_spreads F p1 p2 x_now_cats f_now_place x_told_size f_told_numbers Post) : MWi l D cT yX7_spreads cX7_spreads 8 (some .int) 2 54 0 0 [.ref h, .int p1, .int p2] [(h, oX7 w_text (.ref q_told) (.ref q_now) w_before w_trial w_past w_kept w_feltNotes w_heardNotes w_draws w_purrs w_alone w_nimbers w_ways w_ruling w_spare), (q_now, oX6 w_now_load w_now_sag w_now_joy w_now_bowl w_now_grief (.ref q_now_place) (.int x_now_arches) (.int x_now_cats) (.int x_now_store) (.int x_now_hour) (.int x_now_drops)), (q_now_place, aI cT 8 f_now_place), (q_told, oX3 (.ref q_told_numbers) (.int x_told_size)), (q_told_numbers, aJ cT 8 f_told_numbers)] Post (fun (u : (Int32 × (Nat → Int64))) => [(h, oX7 w_text (.ref q_told) (.ref q_now) w_before w_trial w_past w_kept w_feltNotes w_heardNotes w_draws w_purrs w_alone w_nimbers w_ways w_ruling w_spare), (q_now, oX6 w_now_load w_now_sag w_now_joy w_now_bowl w_now_grief (.ref q_now_place) (.int x_now_arches) (.int x_now_cats) (.int x_now_store) (.int x_now_hour) (.int x_now_drops)), (q_now_place, aI cT 8 f_now_place), (q_told, oX3 (.ref q_told_numbers) (.int u.1)), (q_told_numbers, aJ cT 8 u.2)]) := by
  refine MWi.of (by decide) (Nat.le_of_ble_eq_true rfl) ?_
  intro p e s m below meth c A hA C0 hnm hr hP hD ls hl
  have hl : lv_has ls 8 [(0, .ref h), (1, .int p1), (2, .int p2)] := hl
  have hx := C0.x
  have hb := C0.b
  have hS : va_S A s.heap s.heap [] := va_S.rf
  have hP : va_P D cls9 [(h, oX7 w_text (.ref q_told) (.ref q_now) w_before w_trial w_past w_kept w_feltNotes w_heardNotes w_draws w_purrs w_alone w_nimbers w_ways w_ruling w_spare), (q_now, oX6 w_now_load w_now_sag w_now_joy w_now_bowl w_now_grief (.ref q_now_place) (.int x_now_arches) (.int x_now_cats) (.int x_now_store) (.int x_now_hour) (.int x_now_drops)), (q_now_place, aI cT 8 f_now_place), (q_told, oX3 (.ref q_told_numbers) (.int x_told_size)), (q_told_numbers, aJ cT 8 f_told_numbers)] s.heap := hP
  have hD : va_D A [(h, oX7 w_text (.ref q_told) (.ref q_now) w_before w_trial w_past w_kept w_feltNotes w_heardNotes w_draws w_purrs w_alone w_nimbers w_ways w_ruling w_spare), (q_now, oX6 w_now_load w_now_sag w_now_joy w_now_bowl w_now_grief (.ref q_now_place) (.int x_now_arches) (.int x_now_cats) (.int x_now_store) (.int x_now_hour) (.int x_now_drops)), (q_now_place, aI cT 8 f_now_place), (q_told, oX3 (.ref q_told_numbers) (.int x_told_size)), (q_told_numbers, aJ cT 8 f_told_numbers)] := hD
  have L36 : ∀ (n36 : Nat) (y6_36 : Int32) (y5_36 : Int32) (y4_36 : Int32) (y3_36 : Int32) (H : Heap) (locs : List Loc) (ls : Array Slot), p_X7_spreads_36 F p2 x_now_cats f_now_place f_told_numbers Post n36 y6_36 y5_36 y4_36 y3_36 → va_P D cls9 [(h, oX7 w_text (.ref q_told) (.ref q_now) w_before w_trial w_past w_kept w_feltNotes w_heardNotes w_draws w_purrs w_alone w_nimbers w_ways w_ruling w_spare), (q_now, oX6 w_now_load w_now_sag w_now_joy w_now_bowl w_now_grief (.ref q_now_place) (.int x_now_arches) (.int x_now_cats) (.int x_now_store) (.int x_now_hour) (.int x_now_drops)), (q_now_place, aI cT 8 f_now_place), (q_told, oX3 (.ref q_told_numbers) (.int x_told_size)), (q_told_numbers, aJ cT 8 f_told_numbers)] H → va_D A [(h, oX7 w_text (.ref q_told) (.ref q_now) w_before w_trial w_past w_kept w_feltNotes w_heardNotes w_draws w_purrs w_alone w_nimbers w_ways w_ruling w_spare), (q_now, oX6 w_now_load w_now_sag w_now_joy w_now_bowl w_now_grief (.ref q_now_place) (.int x_now_arches) (.int x_now_cats) (.int x_now_store) (.int x_now_hour) (.int x_now_drops)), (q_now_place, aI cT 8 f_now_place), (q_told, oX3 (.ref q_told_numbers) (.int x_told_size)), (q_told_numbers, aJ cT 8 f_told_numbers)] → va_S A s.heap H locs → lv_has ls 8 [(0, .ref h), (2, .int p2), (3, .int y3_36), (4, .int y4_36), (5, .int y5_36), (6, .int y6_36)] → W p l e (rmO 2 54 0 0) s m ([.ref h, .int p1, .int p2] : List Value).toArray below meth c H locs 0 0 (MQ below (va_Qi Post (cB D A (fun (u : (Int32 × (Nat → Int64))) => [(h, oX7 w_text (.ref q_told) (.ref q_now) w_before w_trial w_past w_kept w_feltNotes w_heardNotes w_draws w_purrs w_alone w_nimbers w_ways w_ruling w_spare), (q_now, oX6 w_now_load w_now_sag w_now_joy w_now_bowl w_now_grief (.ref q_now_place) (.int x_now_arches) (.int x_now_cats) (.int x_now_store) (.int x_now_hour) (.int x_now_drops)), (q_now_place, aI cT 8 f_now_place), (q_told, oX3 (.ref q_told_numbers) (.int u.1)), (q_told_numbers, aJ cT 8 u.2)])) A) ([.ref h, .int p1, .int p2] : List Value).toArray s 0 0 A) (F0 m 36 ls []) := by
    intro n36
    induction n36 with
    | zero =>
      intro y6_36 y5_36 y4_36 y3_36 H locs ls hg hP hD hS hl
      exact False.elim hg
    | succ n36 ih36 =>
      have L83 : ∀ (r_48 : Int32) (s0_66 : Int32) (y6_36 : Int32) (s0_83 : Int32) (H : Heap) (locs : List Loc) (ls : Array Slot), p_X7_spreads_83 F r_48 s0_66 y6_36 (p_X7_spreads_36 F p2 x_now_cats f_now_place f_told_numbers Post n36) Post s0_83 → va_P D cls9 [(h, oX7 w_text (.ref q_told) (.ref q_now) w_before w_trial w_past w_kept w_feltNotes w_heardNotes w_draws w_purrs w_alone w_nimbers w_ways w_ruling w_spare), (q_now, oX6 w_now_load w_now_sag w_now_joy w_now_bowl w_now_grief (.ref q_now_place) (.int x_now_arches) (.int x_now_cats) (.int x_now_store) (.int x_now_hour) (.int x_now_drops)), (q_now_place, aI cT 8 f_now_place), (q_told, oX3 (.ref q_told_numbers) (.int x_told_size)), (q_told_numbers, aJ cT 8 f_told_numbers)] H → va_D A [(h, oX7 w_text (.ref q_told) (.ref q_now) w_before w_trial w_past w_kept w_feltNotes w_heardNotes w_draws w_purrs w_alone w_nimbers w_ways w_ruling w_spare), (q_now, oX6 w_now_load w_now_sag w_now_joy w_now_bowl w_now_grief (.ref q_now_place) (.int x_now_arches) (.int x_now_cats) (.int x_now_store) (.int x_now_hour) (.int x_now_drops)), (q_now_place, aI cT 8 f_now_place), (q_told, oX3 (.ref q_told_numbers) (.int x_told_size)), (q_told_numbers, aJ cT 8 f_told_numbers)] → va_S A s.heap H locs → lv_has ls 8 [(0, .ref h), (2, .int p2), (3, .int r_48), (5, .int s0_66), (6, .int y6_36)] → W p l e (rmO 2 54 0 0) s m ([.ref h, .int p1, .int p2] : List Value).toArray below meth c H locs 0 0 (MQ below (va_Qi Post (cB D A (fun (u : (Int32 × (Nat → Int64))) => [(h, oX7 w_text (.ref q_told) (.ref q_now) w_before w_trial w_past w_kept w_feltNotes w_heardNotes w_draws w_purrs w_alone w_nimbers w_ways w_ruling w_spare), (q_now, oX6 w_now_load w_now_sag w_now_joy w_now_bowl w_now_grief (.ref q_now_place) (.int x_now_arches) (.int x_now_cats) (.int x_now_store) (.int x_now_hour) (.int x_now_drops)), (q_now_place, aI cT 8 f_now_place), (q_told, oX3 (.ref q_told_numbers) (.int u.1)), (q_told_numbers, aJ cT 8 u.2)])) A) ([.ref h, .int p1, .int p2] : List Value).toArray s 0 0 A) (F0 m 83 ls [.int s0_83]) := by
        intro r_48 s0_66 y6_36 s0_83 H locs ls hg hP hD hS hl
        unfold p_X7_spreads_83 at hg
        refine lv_istore (lv' := [(4, .int s0_83), (0, .ref h), (2, .int p2), (3, .int r_48), (5, .int s0_66), (6, .int y6_36)]) hx hb dX7_spreads_83 hl (by decide) rfl (fun ls hl => ?_)
        refine lv_iinc (v := (y6_36 + (1 : Int32))) (lv' := [(6, .int (y6_36 + (1 : Int32))), (4, .int s0_83), (0, .ref h), (2, .int p2), (3, .int r_48), (5, .int s0_66)]) hx hb dX7_spreads_85 hl (k := 5) rfl rfl (by decide) rfl (fun ls hl => ?_)
        refine lv_goto (tgt := 36) hx hb dX7_spreads_88 (by decide) ?_
        exact ih36 (y6_36 + (1 : Int32)) s0_66 s0_83 r_48 _ _ _ hg hP hD hS (lv_sub hl [2, 3, 4, 1, 5, 0] rfl)
      have L66 : ∀ (r_48 : Int32) (y6_36 : Int32) (y4_36 : Int32) (s0_66 : Int32) (H : Heap) (locs : List Loc) (ls : Array Slot), p_X7_spreads_66 F p2 r_48 y6_36 y4_36 (p_X7_spreads_36 F p2 x_now_cats f_now_place f_told_numbers Post n36) Post s0_66 → va_P D cls9 [(h, oX7 w_text (.ref q_told) (.ref q_now) w_before w_trial w_past w_kept w_feltNotes w_heardNotes w_draws w_purrs w_alone w_nimbers w_ways w_ruling w_spare), (q_now, oX6 w_now_load w_now_sag w_now_joy w_now_bowl w_now_grief (.ref q_now_place) (.int x_now_arches) (.int x_now_cats) (.int x_now_store) (.int x_now_hour) (.int x_now_drops)), (q_now_place, aI cT 8 f_now_place), (q_told, oX3 (.ref q_told_numbers) (.int x_told_size)), (q_told_numbers, aJ cT 8 f_told_numbers)] H → va_D A [(h, oX7 w_text (.ref q_told) (.ref q_now) w_before w_trial w_past w_kept w_feltNotes w_heardNotes w_draws w_purrs w_alone w_nimbers w_ways w_ruling w_spare), (q_now, oX6 w_now_load w_now_sag w_now_joy w_now_bowl w_now_grief (.ref q_now_place) (.int x_now_arches) (.int x_now_cats) (.int x_now_store) (.int x_now_hour) (.int x_now_drops)), (q_now_place, aI cT 8 f_now_place), (q_told, oX3 (.ref q_told_numbers) (.int x_told_size)), (q_told_numbers, aJ cT 8 f_told_numbers)] → va_S A s.heap H locs → lv_has ls 8 [(0, .ref h), (2, .int p2), (4, .int y4_36), (6, .int y6_36), (7, .int r_48)] → W p l e (rmO 2 54 0 0) s m ([.ref h, .int p1, .int p2] : List Value).toArray below meth c H locs 0 0 (MQ below (va_Qi Post (cB D A (fun (u : (Int32 × (Nat → Int64))) => [(h, oX7 w_text (.ref q_told) (.ref q_now) w_before w_trial w_past w_kept w_feltNotes w_heardNotes w_draws w_purrs w_alone w_nimbers w_ways w_ruling w_spare), (q_now, oX6 w_now_load w_now_sag w_now_joy w_now_bowl w_now_grief (.ref q_now_place) (.int x_now_arches) (.int x_now_cats) (.int x_now_store) (.int x_now_hour) (.int x_now_drops)), (q_now_place, aI cT 8 f_now_place), (q_told, oX3 (.ref q_told_numbers) (.int u.1)), (q_told_numbers, aJ cT 8 u.2)])) A) ([.ref h, .int p1, .int p2] : List Value).toArray s 0 0 A) (F0 m 66 ls [.int s0_66]) := by
        intro r_48 y6_36 y4_36 s0_66 H locs ls hg hP hD hS hl
        unfold p_X7_spreads_66 at hg
        refine lv_istore (lv' := [(5, .int s0_66), (0, .ref h), (2, .int p2), (4, .int y4_36), (6, .int y6_36), (7, .int r_48)]) hx hb dX7_spreads_66 hl (by decide) rfl (fun ls hl => ?_)
        refine lv_iload hx hb dX7_spreads_68 (lv_at hl 5 rfl) ?_
        refine lv_istore_n (lv' := [(3, .int r_48), (5, .int s0_66), (0, .ref h), (2, .int p2), (4, .int y4_36), (6, .int y6_36), (7, .int r_48)]) hx hb dX7_spreads_70 rfl hl (by decide) rfl (fun ls hl => ?_)
        refine lv_iload hx hb dX7_spreads_71 (lv_at hl 5 rfl) ?_
        refine lv_iload_n hx hb dX7_spreads_73 rfl (lv_at hl 3 rfl) ?_
        refine lv_icmp_gt (tgt := 81) hx hb dX7_spreads_74 (by decide) (fun c_74 => ?_) (fun c_74 => ?_)
        · have hg := hg.1 c_74
          refine lv_iload hx hb dX7_spreads_81 (lv_at hl 4 rfl) ?_
          exact L83 r_48 s0_66 y6_36 y4_36 _ _ _ hg hP hD hS (lv_sub hl [2, 3, 0, 1, 5] rfl)
        have hg := hg.2 c_74
        refine lv_iload_n hx hb dX7_spreads_77 rfl (lv_at hl 0 rfl) ?_
        refine lv_goto (tgt := 83) hx hb dX7_spreads_78 (by decide) ?_
        exact L83 r_48 s0_66 y6_36 r_48 _ _ _ hg hP hD hS (lv_sub hl [2, 3, 0, 1, 5] rfl)
      intro y6_36 y5_36 y4_36 y3_36 H locs ls hg hP hD hS hl
      rw [p_X7_spreads_36_s] at hg
      refine lv_iload hx hb dX7_spreads_36 (lv_at hl 5 rfl) ?_
      refine lv_bipush (v := (9 : Int32)) hx hb dX7_spreads_38 (by decide) ?_
      refine lv_icmp_gt (tgt := 91) hx hb dX7_spreads_40 (by decide) (fun c_40 => ?_) (fun c_40 => ?_)
      · have hg := hg.1 c_40
        refine lv_aload_n hx hb dX7_spreads_91 rfl (lv_at hl 0 rfl) ?_
        refine gf_X7_19 C0 hP 0 rfl rfl dX7_spreads_92 ?_
        refine k_Vr (rest := []) (wr := [(h, oX7 w_text (.ref q_told) (.ref q_now) w_before w_trial w_past w_kept w_feltNotes w_heardNotes w_draws w_purrs w_alone w_nimbers w_ways w_ruling w_spare), (q_now, oX6 w_now_load w_now_sag w_now_joy w_now_bowl w_now_grief (.ref q_now_place) (.int x_now_arches) (.int x_now_cats) (.int x_now_store) (.int x_now_hour) (.int x_now_drops)), (q_now_place, aI cT 8 f_now_place), (q_told_numbers, aJ cT 8 f_told_numbers)]) (w2 := fun u_95 => [(h, oX7 w_text (.ref q_told) (.ref q_now) w_before w_trial w_past w_kept w_feltNotes w_heardNotes w_draws w_purrs w_alone w_nimbers w_ways w_ruling w_spare), (q_now, oX6 w_now_load w_now_sag w_now_joy w_now_bowl w_now_grief (.ref q_now_place) (.int x_now_arches) (.int x_now_cats) (.int x_now_store) (.int x_now_hour) (.int x_now_drops)), (q_now_place, aI cT 8 f_now_place), (q_told_numbers, aJ cT 8 f_told_numbers), (q_told, oX3 (.ref q_told_numbers) (.int u_95))]) C0 lk_X7_201 (c_X3_anew l D cT F q_told (.ref q_told_numbers) x_told_size _ hg) hP hD hS hA [3] [0, 1, 2, 4] (by decide +kernel) rfl rfl (fun _ => rfl) rfl rfl ⟨Nat.le_of_ble_eq_true rfl, Nat.le_of_ble_eq_true rfl⟩ rfl hl.1 rfl (Nat.le_of_ble_eq_true rfl) dX7_spreads_95 ⟨Nat.le_of_ble_eq_true rfl, Nat.le_of_ble_eq_true rfl⟩ ?_
        intro u_95 H locs hg hP hD hS
        refine lv_iload hx hb dX7_spreads_98 (lv_at hl 3 rfl) ?_
        refine k_Sxi (rest := [.ref q_told]) C0 lk_X7_253 (c_J6_bitCount_0f7a4 l D cT F y4_36 _ hg) hP hD hS hA [] (by decide +kernel) rfl ⟨Nat.le_of_ble_eq_true rfl, Nat.le_of_ble_eq_true rfl⟩ rfl hl.1 rfl (Nat.le_of_ble_eq_true rfl) dX7_spreads_100 ⟨Nat.le_of_ble_eq_true rfl, Nat.le_of_ble_eq_true rfl⟩ (fun r_100 hg => ?_)
        refine lv_i2l (v := (r_100.toInt64)) hx hb dX7_spreads_103 rfl ?_
        refine k_Vr (rest := []) (wr := [(h, oX7 w_text (.ref q_told) (.ref q_now) w_before w_trial w_past w_kept w_feltNotes w_heardNotes w_draws w_purrs w_alone w_nimbers w_ways w_ruling w_spare), (q_now, oX6 w_now_load w_now_sag w_now_joy w_now_bowl w_now_grief (.ref q_now_place) (.int x_now_arches) (.int x_now_cats) (.int x_now_store) (.int x_now_hour) (.int x_now_drops)), (q_now_place, aI cT 8 f_now_place)]) (w2 := fun u_104 => [(h, oX7 w_text (.ref q_told) (.ref q_now) w_before w_trial w_past w_kept w_feltNotes w_heardNotes w_draws w_purrs w_alone w_nimbers w_ways w_ruling w_spare), (q_now, oX6 w_now_load w_now_sag w_now_joy w_now_bowl w_now_grief (.ref q_now_place) (.int x_now_arches) (.int x_now_cats) (.int x_now_store) (.int x_now_hour) (.int x_now_drops)), (q_now_place, aI cT 8 f_now_place), (q_told, oX3 (.ref q_told_numbers) (.int u_104.1)), (q_told_numbers, aJ cT 8 u_104.2)]) C0 lk_X7_205 (c_X3_add l D cT F q_told (r_100.toInt64) q_told_numbers u_95 f_told_numbers _ hg) hP hD hS hA [4, 3] [0, 1, 2] (by decide +kernel) rfl rfl (fun _ => rfl) rfl rfl ⟨Nat.le_of_ble_eq_true rfl, Nat.le_of_ble_eq_true rfl⟩ rfl hl.1 rfl (Nat.le_of_ble_eq_true rfl) dX7_spreads_104 ⟨Nat.le_of_ble_eq_true rfl, Nat.le_of_ble_eq_true rfl⟩ ?_
        intro u_104 H locs hg hP hD hS
        refine lv_iload hx hb dX7_spreads_107 (lv_at hl 4 rfl) ?_
        refine lv_i2l (v := (y5_36.toInt64)) hx hb dX7_spreads_109 rfl ?_
        refine k_Vr (rest := []) (wr := [(h, oX7 w_text (.ref q_told) (.ref q_now) w_before w_trial w_past w_kept w_feltNotes w_heardNotes w_draws w_purrs w_alone w_nimbers w_ways w_ruling w_spare), (q_now, oX6 w_now_load w_now_sag w_now_joy w_now_bowl w_now_grief (.ref q_now_place) (.int x_now_arches) (.int x_now_cats) (.int x_now_store) (.int x_now_hour) (.int x_now_drops)), (q_now_place, aI cT 8 f_now_place)]) (w2 := fun u_110 => [(h, oX7 w_text (.ref q_told) (.ref q_now) w_before w_trial w_past w_kept w_feltNotes w_heardNotes w_draws w_purrs w_alone w_nimbers w_ways w_ruling w_spare), (q_now, oX6 w_now_load w_now_sag w_now_joy w_now_bowl w_now_grief (.ref q_now_place) (.int x_now_arches) (.int x_now_cats) (.int x_now_store) (.int x_now_hour) (.int x_now_drops)), (q_now_place, aI cT 8 f_now_place), (q_told, oX3 (.ref q_told_numbers) (.int u_110.1)), (q_told_numbers, aJ cT 8 u_110.2)]) C0 lk_X7_205 (c_X3_add l D cT F q_told (y5_36.toInt64) q_told_numbers u_104.1 u_104.2 _ hg) hP hD hS hA [3, 4] [0, 1, 2] (by decide +kernel) rfl rfl (fun _ => rfl) rfl rfl ⟨Nat.le_of_ble_eq_true rfl, Nat.le_of_ble_eq_true rfl⟩ rfl hl.1 rfl (Nat.le_of_ble_eq_true rfl) dX7_spreads_110 ⟨Nat.le_of_ble_eq_true rfl, Nat.le_of_ble_eq_true rfl⟩ ?_
        intro u_110 H locs hg hP hD hS
        refine lv_pop hx hb dX7_spreads_113 rfl ?_
        refine lv_iload hx hb dX7_spreads_114 (lv_at hl 3 rfl) ?_
        exact k_iret C0 hr (u_110.1, u_110.2) hg hP hD hS dX7_spreads_116
      have hg := hg.2 c_40
      refine lv_aload_n hx hb dX7_spreads_43 rfl (lv_at hl 0 rfl) ?_
      refine gf_X7_26 C0 hP 0 rfl rfl dX7_spreads_44 ?_
      refine lv_iload_n hx hb dX7_spreads_47 rfl (lv_at hl 2 rfl) ?_
      refine k_Vxi (rest := []) C0 lk_X7_335 (c_X6_spreadFrom l D cT F q_now y3_36 w_now_load w_now_sag w_now_joy w_now_bowl w_now_grief q_now_place x_now_arches x_now_cats x_now_store x_now_hour x_now_drops f_now_place _ hg) hP hD hS hA [1, 2] (by decide +kernel) rfl rfl rfl ⟨Nat.le_of_ble_eq_true rfl, Nat.le_of_ble_eq_true rfl⟩ rfl hl.1 rfl (Nat.le_of_ble_eq_true rfl) dX7_spreads_48 ⟨Nat.le_of_ble_eq_true rfl, Nat.le_of_ble_eq_true rfl⟩ (fun r_48 hg => ?_)
      refine lv_istore (lv' := [(7, .int r_48), (0, .ref h), (2, .int p2), (3, .int y3_36), (4, .int y4_36), (5, .int y5_36), (6, .int y6_36)]) hx hb dX7_spreads_51 hl (by decide) rfl (fun ls hl => ?_)
      refine lv_iload hx hb dX7_spreads_53 (lv_at hl 0 rfl) ?_
      refine lv_iload_n hx hb dX7_spreads_55 rfl (lv_at hl 3 rfl) ?_
      refine lv_icmp_ne (tgt := 64) hx hb dX7_spreads_56 (by decide) (fun c_56 => ?_) (fun c_56 => ?_)
      · have hg := hg.1 c_56
        refine lv_iload hx hb dX7_spreads_64 (lv_at hl 6 rfl) ?_
        exact L66 r_48 y6_36 y4_36 y6_36 _ _ _ hg hP hD hS (lv_sub hl [1, 2, 4, 6, 0] rfl)
      have hg := hg.2 c_56
      refine lv_iload hx hb dX7_spreads_59 (lv_at hl 5 rfl) ?_
      refine lv_goto (tgt := 66) hx hb dX7_spreads_61 (by decide) ?_
      exact L66 r_48 y6_36 y4_36 y5_36 _ _ _ hg hP hD hS (lv_sub hl [1, 2, 4, 6, 0] rfl)
  unfold p_X7_spreads at hg
  refine lv_aload_n hx hb dX7_spreads_0 rfl (lv_at hl 0 rfl) ?_
  refine gf_X7_26 C0 hP 0 rfl rfl dX7_spreads_1 ?_
  refine lv_iload_n hx hb dX7_spreads_4 rfl (lv_at hl 1 rfl) ?_
  refine k_Vxi (rest := []) C0 lk_X7_156 (c_X6_hasCat l D cT F q_now p1 w_now_load w_now_sag w_now_joy w_now_bowl w_now_grief (.ref q_now_place) x_now_arches x_now_cats x_now_store x_now_hour x_now_drops _ hg) hP hD hS hA [1] (by decide +kernel) rfl rfl rfl ⟨Nat.le_of_ble_eq_true rfl, Nat.le_of_ble_eq_true rfl⟩ rfl hl.1 rfl (Nat.le_of_ble_eq_true rfl) dX7_spreads_5 ⟨Nat.le_of_ble_eq_true rfl, Nat.le_of_ble_eq_true rfl⟩ (fun r_5 hg => ?_)
  refine lv_if_eq (tgt := 21) hx hb dX7_spreads_8 (by decide) (fun c_8 => ?_) (fun c_8 => ?_)
  · have hg := hg.1 c_8
    refine lv_iconst (v := (-1 : Int32)) hx hb dX7_spreads_21 (by decide) ?_
    exact k_iret C0 hr (x_told_size, f_told_numbers) hg hP hD hS dX7_spreads_22
  have hg := hg.2 c_8
  refine lv_iload_n hx hb dX7_spreads_11 rfl (lv_at hl 2 rfl) ?_
  refine lv_if_lt (tgt := 21) hx hb dX7_spreads_12 (by decide) (fun c_12 => ?_) (fun c_12 => ?_)
  · have hg := hg.1 c_12
    refine lv_iconst (v := (-1 : Int32)) hx hb dX7_spreads_21 (by decide) ?_
    exact k_iret C0 hr (x_told_size, f_told_numbers) hg hP hD hS dX7_spreads_22
  have hg := hg.2 c_12
  refine lv_iload_n hx hb dX7_spreads_15 rfl (lv_at hl 2 rfl) ?_
  refine lv_bipush (v := (9 : Int32)) hx hb dX7_spreads_16 (by decide) ?_
  refine lv_icmp_le (tgt := 23) hx hb dX7_spreads_18 (by decide) (fun c_18 => ?_) (fun c_18 => ?_)
  · have hg := hg.1 c_18
    refine lv_iconst (v := (1 : Int32)) hx hb dX7_spreads_23 (by decide) ?_
    refine lv_iload_n hx hb dX7_spreads_24 rfl (lv_at hl 1 rfl) ?_
    refine lv_ishl hx hb dX7_spreads_25 ?_
    refine lv_istore_n (lv' := [(3, .int ((1 : Int32) <<< (p1 &&& 31))), (0, .ref h), (1, .int p1), (2, .int p2)]) hx hb dX7_spreads_26 rfl hl (by decide) rfl (fun ls hl => ?_)
    refine lv_iload_n hx hb dX7_spreads_27 rfl (lv_at hl 0 rfl) ?_
    refine lv_istore (lv' := [(4, .int ((1 : Int32) <<< (p1 &&& 31))), (3, .int ((1 : Int32) <<< (p1 &&& 31))), (0, .ref h), (1, .int p1), (2, .int p2)]) hx hb dX7_spreads_28 hl (by decide) rfl (fun ls hl => ?_)
    refine lv_iconst (v := (0 : Int32)) hx hb dX7_spreads_30 (by decide) ?_
    refine lv_istore (lv' := [(5, .int (0 : Int32)), (4, .int ((1 : Int32) <<< (p1 &&& 31))), (3, .int ((1 : Int32) <<< (p1 &&& 31))), (0, .ref h), (1, .int p1), (2, .int p2)]) hx hb dX7_spreads_31 hl (by decide) rfl (fun ls hl => ?_)
    refine lv_iconst (v := (1 : Int32)) hx hb dX7_spreads_33 (by decide) ?_
    refine lv_istore (lv' := [(6, .int (1 : Int32)), (5, .int (0 : Int32)), (4, .int ((1 : Int32) <<< (p1 &&& 31))), (3, .int ((1 : Int32) <<< (p1 &&& 31))), (0, .ref h), (1, .int p1), (2, .int p2)]) hx hb dX7_spreads_34 hl (by decide) rfl (fun ls hl => ?_)
    exact L36 F (1 : Int32) (0 : Int32) ((1 : Int32) <<< (p1 &&& 31)) ((1 : Int32) <<< (p1 &&& 31)) _ _ _ hg hP hD hS (lv_sub hl [4, 6, 3, 2, 1, 0] rfl)
  have hg := hg.2 c_18
  refine lv_iconst (v := (-1 : Int32)) hx hb dX7_spreads_21 (by decide) ?_
  exact k_iret C0 hr (x_told_size, f_told_numbers) hg hP hD hS dX7_spreads_22
theorem dX7_highestHeard_0 : decode cX7_highestHeard 0 = .ok (.iload_n 0, 1) := by decide +kernel
theorem dX7_highestHeard_1 : decode cX7_highestHeard 1 = .ok (.tableswitch 42 0 4 #[35, 35, 38, 35, 40], 35) := by decide +kernel
theorem dX7_highestHeard_36 : decode cX7_highestHeard 36 = .ok (.bipush 9, 2) := by decide +kernel
theorem dX7_highestHeard_38 : decode cX7_highestHeard 38 = .ok (.ireturn, 1) := by decide +kernel
theorem dX7_highestHeard_39 : decode cX7_highestHeard 39 = .ok (.iconst 5, 1) := by decide +kernel
theorem dX7_highestHeard_40 : decode cX7_highestHeard 40 = .ok (.ireturn, 1) := by decide +kernel
theorem dX7_highestHeard_41 : decode cX7_highestHeard 41 = .ok (.iconst 1, 1) := by decide +kernel
theorem dX7_highestHeard_42 : decode cX7_highestHeard 42 = .ok (.ireturn, 1) := by decide +kernel
theorem dX7_highestHeard_43 : decode cX7_highestHeard 43 = .ok (.iconst (-1), 1) := by decide +kernel
theorem dX7_highestHeard_44 : decode cX7_highestHeard 44 = .ok (.ireturn, 1) := by decide +kernel
def p_X7_highestHeard (F : Nat) (p0 : Int32) (Post : Int32 → Prop) : Prop := ((p0 = (0 : Int32) → (Post (9 : Int32))) ∧ (¬ p0 = (0 : Int32) → ((p0 = (1 : Int32) → (Post (9 : Int32))) ∧ (¬ p0 = (1 : Int32) → ((p0 = (2 : Int32) → (Post (5 : Int32))) ∧ (¬ p0 = (2 : Int32) → ((p0 = (3 : Int32) → (Post (9 : Int32))) ∧ (¬ p0 = (3 : Int32) → ((p0 = (4 : Int32) → (Post (1 : Int32))) ∧ (¬ p0 = (4 : Int32) → (Post (-1 : Int32))))))))))))
set_option maxHeartbeats 4000000 in
set_option maxRecDepth 100000 in
theorem c_X7_highestHeard (l : Launch) (D : va_G) (cT : Nat → ClassId) (F : Nat) (p0 : Int32) (Post : Int32 → Prop) (hg : p_X7_highestHeard F p0 Post) : MRi l D cT yX7_highestHeard cX7_highestHeard 1 (some .int) 0 0 [.int p0] [] Post := by
  refine MRi.of (by decide) (Nat.le_of_ble_eq_true rfl) ?_
  intro p e s m below meth c hA C0 hr hP hD hS ls hl
  have hl : lv_has ls 1 [(0, .int p0)] := hl
  have hx := C0.x
  have hb := C0.b
  have hP : va_P D cls9 [] s.heap := hP
  have hD : va_D (fun q => cT 6 ≤ q) [] := hD
  unfold p_X7_highestHeard at hg
  refine lv_iload_n hx hb dX7_highestHeard_0 rfl (lv_at hl 0 rfl) ?_
  rcases Classical.em (p0 = (0 : Int32)) with c_1_0 | c_1_0
  · have hg := hg.1 c_1_0
    refine lv_tableIn (tgt := 36) hx hb dX7_highestHeard_1 (by rw [c_1_0]; decide) (by rw [c_1_0]; decide) (by rw [c_1_0]; rfl) (by decide) ?_
    refine lv_bipush (v := (9 : Int32)) hx hb dX7_highestHeard_36 (by decide) ?_
    exact k_xiret C0 hr hg dX7_highestHeard_38
  have hg := hg.2 c_1_0
  rcases Classical.em (p0 = (1 : Int32)) with c_1_1 | c_1_1
  · have hg := hg.1 c_1_1
    refine lv_tableIn (tgt := 36) hx hb dX7_highestHeard_1 (by rw [c_1_1]; decide) (by rw [c_1_1]; decide) (by rw [c_1_1]; rfl) (by decide) ?_
    refine lv_bipush (v := (9 : Int32)) hx hb dX7_highestHeard_36 (by decide) ?_
    exact k_xiret C0 hr hg dX7_highestHeard_38
  have hg := hg.2 c_1_1
  rcases Classical.em (p0 = (2 : Int32)) with c_1_2 | c_1_2
  · have hg := hg.1 c_1_2
    refine lv_tableIn (tgt := 39) hx hb dX7_highestHeard_1 (by rw [c_1_2]; decide) (by rw [c_1_2]; decide) (by rw [c_1_2]; rfl) (by decide) ?_
    refine lv_iconst (v := (5 : Int32)) hx hb dX7_highestHeard_39 (by decide) ?_
    exact k_xiret C0 hr hg dX7_highestHeard_40
  have hg := hg.2 c_1_2
  rcases Classical.em (p0 = (3 : Int32)) with c_1_3 | c_1_3
  · have hg := hg.1 c_1_3
    refine lv_tableIn (tgt := 36) hx hb dX7_highestHeard_1 (by rw [c_1_3]; decide) (by rw [c_1_3]; decide) (by rw [c_1_3]; rfl) (by decide) ?_
    refine lv_bipush (v := (9 : Int32)) hx hb dX7_highestHeard_36 (by decide) ?_
    exact k_xiret C0 hr hg dX7_highestHeard_38
  have hg := hg.2 c_1_3
  rcases Classical.em (p0 = (4 : Int32)) with c_1_4 | c_1_4
  · have hg := hg.1 c_1_4
    refine lv_tableIn (tgt := 41) hx hb dX7_highestHeard_1 (by rw [c_1_4]; decide) (by rw [c_1_4]; decide) (by rw [c_1_4]; rfl) (by decide) ?_
    refine lv_iconst (v := (1 : Int32)) hx hb dX7_highestHeard_41 (by decide) ?_
    exact k_xiret C0 hr hg dX7_highestHeard_42
  have hg := hg.2 c_1_4
  refine sw_def (x := p0) (lo := 0) (dflt := 42) (tgt := 43) hx hb dX7_highestHeard_1 (by decide) (by decide) ?_ ?_
  · intro k hk hx2
    have n_1_0 := ne_toInt (k := 0) (by decide) c_1_0
    have n_1_1 := ne_toInt (k := 1) (by decide) c_1_1
    have n_1_2 := ne_toInt (k := 2) (by decide) c_1_2
    have n_1_3 := ne_toInt (k := 3) (by decide) c_1_3
    have n_1_4 := ne_toInt (k := 4) (by decide) c_1_4
    have hk3 : k < 5 := hk
    match k, hk3 with
    | 0, _ => exact absurd hx2 (by omega)
    | 1, _ => exact absurd hx2 (by omega)
    | 2, _ => exact absurd hx2 (by omega)
    | 3, _ => exact absurd hx2 (by omega)
    | 4, _ => exact absurd hx2 (by omega)
    | k + 5, h => exact absurd h (by omega)
  refine lv_iconst (v := (-1 : Int32)) hx hb dX7_highestHeard_43 (by decide) ?_
  exact k_xiret C0 hr hg dX7_highestHeard_44
theorem dX7_heard_0 : decode cX7_heard 0 = .ok (.iload_n 2, 1) := by decide +kernel
theorem dX7_heard_1 : decode cX7_heard 1 = .ok (.ifCond .lt 11, 3) := by decide +kernel
theorem dX7_heard_4 : decode cX7_heard 4 = .ok (.iload_n 2, 1) := by decide +kernel
theorem dX7_heard_5 : decode cX7_heard 5 = .ok (.iload_n 1, 1) := by decide +kernel
theorem dX7_heard_6 : decode cX7_heard 6 = .ok (.invokestatic 338, 3) := by decide +kernel
theorem dX7_heard_9 : decode cX7_heard 9 = .ok (.if_icmp .le 5, 3) := by decide +kernel
theorem dX7_heard_12 : decode cX7_heard 12 = .ok (.iconst (-1), 1) := by decide +kernel
theorem dX7_heard_13 : decode cX7_heard 13 = .ok (.ireturn, 1) := by decide +kernel
theorem dX7_heard_14 : decode cX7_heard 14 = .ok (.aload_n 0, 1) := by decide +kernel
theorem dX7_heard_15 : decode cX7_heard 15 = .ok (.getfield 56, 3) := by decide +kernel
theorem dX7_heard_18 : decode cX7_heard 18 = .ok (.iload_n 1, 1) := by decide +kernel
theorem dX7_heard_19 : decode cX7_heard 19 = .ok (.iload_n 2, 1) := by decide +kernel
theorem dX7_heard_20 : decode cX7_heard 20 = .ok (.invokevirtual 308, 3) := by decide +kernel
theorem dX7_heard_23 : decode cX7_heard 23 = .ok (.ireturn, 1) := by decide +kernel
def p_X7_heard (F : Nat) (p1 : Int32) (p2 : Int32) (x_heardNotes_most : Int32) (x_heardNotes_size : Int32) (f_heardNotes_first : Nat → Int32) (f_heardNotes_second : Nat → Int32) (Post : Int32 → (Int32 × (Nat → Int32) × (Nat → Int32)) → Prop) : Prop := ((p2 < 0 → (Post (-1 : Int32) (x_heardNotes_size, f_heardNotes_first, f_heardNotes_second))) ∧ (¬ p2 < 0 → (p_X7_highestHeard F p1 (fun (r_6 : Int32) => ((p2 ≤ r_6 → (p_X1_add F p1 p2 x_heardNotes_most x_heardNotes_size f_heardNotes_first f_heardNotes_second (fun (r_20 : Int32) (u_20 : (Int32 × (Nat → Int32) × (Nat → Int32))) => (Post r_20 (u_20.1, u_20.2.1, u_20.2.2))))) ∧ (¬ p2 ≤ r_6 → (Post (-1 : Int32) (x_heardNotes_size, f_heardNotes_first, f_heardNotes_second))))))))
set_option maxHeartbeats 4000000 in
set_option maxRecDepth 100000 in
theorem c_X7_heard (l : Launch) (D : va_G) (cT : Nat → ClassId) (F : Nat) (h : Nat) (p1 : Int32) (p2 : Int32) (w_text : Value) (w_told : Value) (w_now : Value) (w_before : Value) (w_trial : Value) (w_past : Value) (w_kept : Value) (w_feltNotes : Value) (q_heardNotes : Nat) (w_draws : Value) (w_purrs : Value) (w_alone : Value) (w_nimbers : Value) (w_ways : Value) (w_ruling : Value) (w_spare : Value) (q_heardNotes_first : Nat) (q_heardNotes_second : Nat) (x_heardNotes_most : Int32) (x_heardNotes_size : Int32) (f_heardNotes_first : Nat → Int32) (f_heardNotes_second : Nat → Int32) (Post : Int32 → (Int32 × (Nat → Int32) × (Nat → Int32)) → Prop) (hg : p_X7_heard F p1 p2 x_heardNotes_most x_heardNotes_size f_heardNotes_first f_heardNotes_second Post) : MWi l D cT yX7_heard cX7_heard 3 (some .int) 1 22 0 0 [.ref h, .int p1, .int p2] [(h, oX7 w_text w_told w_now w_before w_trial w_past w_kept w_feltNotes (.ref q_heardNotes) w_draws w_purrs w_alone w_nimbers w_ways w_ruling w_spare), (q_heardNotes, oX1 (.ref q_heardNotes_first) (.ref q_heardNotes_second) (.int x_heardNotes_most) (.int x_heardNotes_size)), (q_heardNotes_first, aI cT 12 f_heardNotes_first), (q_heardNotes_second, aI cT 12 f_heardNotes_second)] Post (fun (u : (Int32 × (Nat → Int32) × (Nat → Int32))) => [(h, oX7 w_text w_told w_now w_before w_trial w_past w_kept w_feltNotes (.ref q_heardNotes) w_draws w_purrs w_alone w_nimbers w_ways w_ruling w_spare), (q_heardNotes, oX1 (.ref q_heardNotes_first) (.ref q_heardNotes_second) (.int x_heardNotes_most) (.int u.1)), (q_heardNotes_first, aI cT 12 u.2.1), (q_heardNotes_second, aI cT 12 u.2.2)]) := by
  refine MWi.of (by decide) (Nat.le_of_ble_eq_true rfl) ?_
  intro p e s m below meth c A hA C0 hnm hr hP hD ls hl
  have hl : lv_has ls 3 [(0, .ref h), (1, .int p1), (2, .int p2)] := hl
  have hx := C0.x
  have hb := C0.b
  have hS : va_S A s.heap s.heap [] := va_S.rf
  have hP : va_P D cls9 [(h, oX7 w_text w_told w_now w_before w_trial w_past w_kept w_feltNotes (.ref q_heardNotes) w_draws w_purrs w_alone w_nimbers w_ways w_ruling w_spare), (q_heardNotes, oX1 (.ref q_heardNotes_first) (.ref q_heardNotes_second) (.int x_heardNotes_most) (.int x_heardNotes_size)), (q_heardNotes_first, aI cT 12 f_heardNotes_first), (q_heardNotes_second, aI cT 12 f_heardNotes_second)] s.heap := hP
  have hD : va_D A [(h, oX7 w_text w_told w_now w_before w_trial w_past w_kept w_feltNotes (.ref q_heardNotes) w_draws w_purrs w_alone w_nimbers w_ways w_ruling w_spare), (q_heardNotes, oX1 (.ref q_heardNotes_first) (.ref q_heardNotes_second) (.int x_heardNotes_most) (.int x_heardNotes_size)), (q_heardNotes_first, aI cT 12 f_heardNotes_first), (q_heardNotes_second, aI cT 12 f_heardNotes_second)] := hD
  unfold p_X7_heard at hg
  refine lv_iload_n hx hb dX7_heard_0 rfl (lv_at hl 2 rfl) ?_
  refine lv_if_lt (tgt := 12) hx hb dX7_heard_1 (by decide) (fun c_1 => ?_) (fun c_1 => ?_)
  · have hg := hg.1 c_1
    refine lv_iconst (v := (-1 : Int32)) hx hb dX7_heard_12 (by decide) ?_
    exact k_iret C0 hr (x_heardNotes_size, f_heardNotes_first, f_heardNotes_second) hg hP hD hS dX7_heard_13
  have hg := hg.2 c_1
  refine lv_iload_n hx hb dX7_heard_4 rfl (lv_at hl 2 rfl) ?_
  refine lv_iload_n hx hb dX7_heard_5 rfl (lv_at hl 1 rfl) ?_
  refine k_Sxi (rest := [.int p2]) C0 lk_X7_338 (c_X7_highestHeard l D cT F p1 _ hg) hP hD hS hA [] (by decide +kernel) rfl ⟨Nat.le_of_ble_eq_true rfl, Nat.le_of_ble_eq_true rfl⟩ rfl hl.1 rfl (Nat.le_of_ble_eq_true rfl) dX7_heard_6 ⟨Nat.le_of_ble_eq_true rfl, Nat.le_of_ble_eq_true rfl⟩ (fun r_6 hg => ?_)
  refine lv_icmp_le (tgt := 14) hx hb dX7_heard_9 (by decide) (fun c_9 => ?_) (fun c_9 => ?_)
  · have hg := hg.1 c_9
    refine lv_aload_n hx hb dX7_heard_14 rfl (lv_at hl 0 rfl) ?_
    refine gf_X7_56 C0 hP 0 rfl rfl dX7_heard_15 ?_
    refine lv_iload_n hx hb dX7_heard_18 rfl (lv_at hl 1 rfl) ?_
    refine lv_iload_n hx hb dX7_heard_19 rfl (lv_at hl 2 rfl) ?_
    refine k_Vi (rest := []) (wr := [(h, oX7 w_text w_told w_now w_before w_trial w_past w_kept w_feltNotes (.ref q_heardNotes) w_draws w_purrs w_alone w_nimbers w_ways w_ruling w_spare)]) (w2 := fun u_20 => [(h, oX7 w_text w_told w_now w_before w_trial w_past w_kept w_feltNotes (.ref q_heardNotes) w_draws w_purrs w_alone w_nimbers w_ways w_ruling w_spare), (q_heardNotes, oX1 (.ref q_heardNotes_first) (.ref q_heardNotes_second) (.int x_heardNotes_most) (.int u_20.1)), (q_heardNotes_first, aI cT 12 u_20.2.1), (q_heardNotes_second, aI cT 12 u_20.2.2)]) C0 lk_X7_308 (c_X1_add l D cT F q_heardNotes p1 p2 q_heardNotes_first q_heardNotes_second x_heardNotes_most x_heardNotes_size f_heardNotes_first f_heardNotes_second _ hg) hP hD hS hA [1, 2, 3] [0] (by decide +kernel) rfl rfl (fun _ => rfl) rfl rfl ⟨Nat.le_of_ble_eq_true rfl, Nat.le_of_ble_eq_true rfl⟩ rfl hl.1 rfl (Nat.le_of_ble_eq_true rfl) dX7_heard_20 ⟨Nat.le_of_ble_eq_true rfl, Nat.le_of_ble_eq_true rfl⟩ ?_
    intro r_20 u_20 H locs hg hP hD hS
    exact k_iret C0 hr (u_20.1, u_20.2.1, u_20.2.2) hg hP hD hS dX7_heard_23
  have hg := hg.2 c_9
  refine lv_iconst (v := (-1 : Int32)) hx hb dX7_heard_12 (by decide) ?_
  exact k_iret C0 hr (x_heardNotes_size, f_heardNotes_first, f_heardNotes_second) hg hP hD hS dX7_heard_13
theorem dX7_denies_0 : decode cX7_denies 0 = .ok (.aload_n 0, 1) := by decide +kernel
theorem dX7_denies_1 : decode cX7_denies 1 = .ok (.getfield 56, 3) := by decide +kernel
theorem dX7_denies_4 : decode cX7_denies 4 = .ok (.invokevirtual 310, 3) := by decide +kernel
theorem dX7_denies_7 : decode cX7_denies 7 = .ok (.ireturn, 1) := by decide +kernel
def p_X7_denies (F : Nat) (x_heardNotes_size : Int32) (Post : Int32 → Int32 → Prop) : Prop := (p_X1_empty F x_heardNotes_size (fun (r_4 : Int32) (u_4 : Int32) => (Post r_4 u_4)))
set_option maxHeartbeats 4000000 in
set_option maxRecDepth 100000 in
theorem c_X7_denies (l : Launch) (D : va_G) (cT : Nat → ClassId) (F : Nat) (h : Nat) (w_text : Value) (w_told : Value) (w_now : Value) (w_before : Value) (w_trial : Value) (w_past : Value) (w_kept : Value) (w_feltNotes : Value) (q_heardNotes : Nat) (w_draws : Value) (w_purrs : Value) (w_alone : Value) (w_nimbers : Value) (w_ways : Value) (w_ruling : Value) (w_spare : Value) (w_heardNotes_first : Value) (w_heardNotes_second : Value) (x_heardNotes_most : Int32) (x_heardNotes_size : Int32) (Post : Int32 → Int32 → Prop) (hg : p_X7_denies F x_heardNotes_size Post) : MWi l D cT yX7_denies cX7_denies 1 (some .int) 1 21 0 0 [.ref h] [(h, oX7 w_text w_told w_now w_before w_trial w_past w_kept w_feltNotes (.ref q_heardNotes) w_draws w_purrs w_alone w_nimbers w_ways w_ruling w_spare), (q_heardNotes, oX1 w_heardNotes_first w_heardNotes_second (.int x_heardNotes_most) (.int x_heardNotes_size))] Post (fun (u : Int32) => [(h, oX7 w_text w_told w_now w_before w_trial w_past w_kept w_feltNotes (.ref q_heardNotes) w_draws w_purrs w_alone w_nimbers w_ways w_ruling w_spare), (q_heardNotes, oX1 w_heardNotes_first w_heardNotes_second (.int x_heardNotes_most) (.int u))]) := by
  refine MWi.of (by decide) (Nat.le_of_ble_eq_true rfl) ?_
  intro p e s m below meth c A hA C0 hnm hr hP hD ls hl
  have hl : lv_has ls 1 [(0, .ref h)] := hl
  have hx := C0.x
  have hb := C0.b
  have hS : va_S A s.heap s.heap [] := va_S.rf
  have hP : va_P D cls9 [(h, oX7 w_text w_told w_now w_before w_trial w_past w_kept w_feltNotes (.ref q_heardNotes) w_draws w_purrs w_alone w_nimbers w_ways w_ruling w_spare), (q_heardNotes, oX1 w_heardNotes_first w_heardNotes_second (.int x_heardNotes_most) (.int x_heardNotes_size))] s.heap := hP
  have hD : va_D A [(h, oX7 w_text w_told w_now w_before w_trial w_past w_kept w_feltNotes (.ref q_heardNotes) w_draws w_purrs w_alone w_nimbers w_ways w_ruling w_spare), (q_heardNotes, oX1 w_heardNotes_first w_heardNotes_second (.int x_heardNotes_most) (.int x_heardNotes_size))] := hD
  unfold p_X7_denies at hg
  refine lv_aload_n hx hb dX7_denies_0 rfl (lv_at hl 0 rfl) ?_
  refine gf_X7_56 C0 hP 0 rfl rfl dX7_denies_1 ?_
  refine k_Vi (rest := []) (wr := [(h, oX7 w_text w_told w_now w_before w_trial w_past w_kept w_feltNotes (.ref q_heardNotes) w_draws w_purrs w_alone w_nimbers w_ways w_ruling w_spare)]) (w2 := fun u_4 => [(h, oX7 w_text w_told w_now w_before w_trial w_past w_kept w_feltNotes (.ref q_heardNotes) w_draws w_purrs w_alone w_nimbers w_ways w_ruling w_spare), (q_heardNotes, oX1 w_heardNotes_first w_heardNotes_second (.int x_heardNotes_most) (.int u_4))]) C0 lk_X7_310 (c_X1_empty l D cT F q_heardNotes w_heardNotes_first w_heardNotes_second x_heardNotes_most x_heardNotes_size _ hg) hP hD hS hA [1] [0] (by decide +kernel) rfl rfl (fun _ => rfl) rfl rfl ⟨Nat.le_of_ble_eq_true rfl, Nat.le_of_ble_eq_true rfl⟩ rfl hl.1 rfl (Nat.le_of_ble_eq_true rfl) dX7_denies_4 ⟨Nat.le_of_ble_eq_true rfl, Nat.le_of_ble_eq_true rfl⟩ ?_
  intro r_4 u_4 H locs hg hP hD hS
  exact k_iret C0 hr u_4 hg hP hD hS dX7_denies_7
theorem dX7_isSo_0 : decode cX7_isSo 0 = .ok (.iload_n 2, 1) := by decide +kernel
theorem dX7_isSo_1 : decode cX7_isSo 1 = .ok (.tableswitch 104 0 3 #[31, 50, 69, 88], 31) := by decide +kernel
theorem dX7_isSo_32 : decode cX7_isSo 32 = .ok (.aload_n 0, 1) := by decide +kernel
theorem dX7_isSo_33 : decode cX7_isSo 33 = .ok (.getfield 26, 3) := by decide +kernel
theorem dX7_isSo_36 : decode cX7_isSo 36 = .ok (.getfield 159, 3) := by decide +kernel
theorem dX7_isSo_39 : decode cX7_isSo 39 = .ok (.iload_n 1, 1) := by decide +kernel
theorem dX7_isSo_40 : decode cX7_isSo 40 = .ok (.iaload, 1) := by decide +kernel
theorem dX7_isSo_41 : decode cX7_isSo 41 = .ok (.iload_n 3, 1) := by decide +kernel
theorem dX7_isSo_42 : decode cX7_isSo 42 = .ok (.if_icmp .lt 7, 3) := by decide +kernel
theorem dX7_isSo_45 : decode cX7_isSo 45 = .ok (.iconst 1, 1) := by decide +kernel
theorem dX7_isSo_46 : decode cX7_isSo 46 = .ok (.goto 4, 3) := by decide +kernel
theorem dX7_isSo_49 : decode cX7_isSo 49 = .ok (.iconst 0, 1) := by decide +kernel
theorem dX7_isSo_50 : decode cX7_isSo 50 = .ok (.ireturn, 1) := by decide +kernel
theorem dX7_isSo_51 : decode cX7_isSo 51 = .ok (.aload_n 0, 1) := by decide +kernel
theorem dX7_isSo_52 : decode cX7_isSo 52 = .ok (.getfield 26, 3) := by decide +kernel
theorem dX7_isSo_55 : decode cX7_isSo 55 = .ok (.getfield 162, 3) := by decide +kernel
theorem dX7_isSo_58 : decode cX7_isSo 58 = .ok (.iload_n 1, 1) := by decide +kernel
theorem dX7_isSo_59 : decode cX7_isSo 59 = .ok (.iaload, 1) := by decide +kernel
theorem dX7_isSo_60 : decode cX7_isSo 60 = .ok (.iload_n 3, 1) := by decide +kernel
theorem dX7_isSo_61 : decode cX7_isSo 61 = .ok (.if_icmp .lt 7, 3) := by decide +kernel
theorem dX7_isSo_64 : decode cX7_isSo 64 = .ok (.iconst 1, 1) := by decide +kernel
theorem dX7_isSo_65 : decode cX7_isSo 65 = .ok (.goto 4, 3) := by decide +kernel
theorem dX7_isSo_68 : decode cX7_isSo 68 = .ok (.iconst 0, 1) := by decide +kernel
theorem dX7_isSo_69 : decode cX7_isSo 69 = .ok (.ireturn, 1) := by decide +kernel
theorem dX7_isSo_70 : decode cX7_isSo 70 = .ok (.aload_n 0, 1) := by decide +kernel
theorem dX7_isSo_71 : decode cX7_isSo 71 = .ok (.getfield 26, 3) := by decide +kernel
theorem dX7_isSo_74 : decode cX7_isSo 74 = .ok (.getfield 168, 3) := by decide +kernel
theorem dX7_isSo_77 : decode cX7_isSo 77 = .ok (.iload_n 1, 1) := by decide +kernel
theorem dX7_isSo_78 : decode cX7_isSo 78 = .ok (.iaload, 1) := by decide +kernel
theorem dX7_isSo_79 : decode cX7_isSo 79 = .ok (.iload_n 3, 1) := by decide +kernel
theorem dX7_isSo_80 : decode cX7_isSo 80 = .ok (.if_icmp .ne 7, 3) := by decide +kernel
theorem dX7_isSo_83 : decode cX7_isSo 83 = .ok (.iconst 1, 1) := by decide +kernel
theorem dX7_isSo_84 : decode cX7_isSo 84 = .ok (.goto 4, 3) := by decide +kernel
theorem dX7_isSo_87 : decode cX7_isSo 87 = .ok (.iconst 0, 1) := by decide +kernel
theorem dX7_isSo_88 : decode cX7_isSo 88 = .ok (.ireturn, 1) := by decide +kernel
theorem dX7_isSo_89 : decode cX7_isSo 89 = .ok (.aload_n 0, 1) := by decide +kernel
theorem dX7_isSo_90 : decode cX7_isSo 90 = .ok (.getfield 66, 3) := by decide +kernel
theorem dX7_isSo_93 : decode cX7_isSo 93 = .ok (.iload_n 1, 1) := by decide +kernel
theorem dX7_isSo_94 : decode cX7_isSo 94 = .ok (.iaload, 1) := by decide +kernel
theorem dX7_isSo_95 : decode cX7_isSo 95 = .ok (.iload_n 3, 1) := by decide +kernel
theorem dX7_isSo_96 : decode cX7_isSo 96 = .ok (.if_icmp .lt 7, 3) := by decide +kernel
theorem dX7_isSo_99 : decode cX7_isSo 99 = .ok (.iconst 1, 1) := by decide +kernel
theorem dX7_isSo_100 : decode cX7_isSo 100 = .ok (.goto 4, 3) := by decide +kernel
theorem dX7_isSo_103 : decode cX7_isSo 103 = .ok (.iconst 0, 1) := by decide +kernel
theorem dX7_isSo_104 : decode cX7_isSo 104 = .ok (.ireturn, 1) := by decide +kernel
theorem dX7_isSo_105 : decode cX7_isSo 105 = .ok (.aload_n 0, 1) := by decide +kernel
theorem dX7_isSo_106 : decode cX7_isSo 106 = .ok (.getfield 26, 3) := by decide +kernel
theorem dX7_isSo_109 : decode cX7_isSo 109 = .ok (.getfield 165, 3) := by decide +kernel
theorem dX7_isSo_112 : decode cX7_isSo 112 = .ok (.iload_n 1, 1) := by decide +kernel
theorem dX7_isSo_113 : decode cX7_isSo 113 = .ok (.iaload, 1) := by decide +kernel
theorem dX7_isSo_114 : decode cX7_isSo 114 = .ok (.ifCond .le 7, 3) := by decide +kernel
theorem dX7_isSo_117 : decode cX7_isSo 117 = .ok (.iconst 1, 1) := by decide +kernel
theorem dX7_isSo_118 : decode cX7_isSo 118 = .ok (.goto 4, 3) := by decide +kernel
theorem dX7_isSo_121 : decode cX7_isSo 121 = .ok (.iconst 0, 1) := by decide +kernel
theorem dX7_isSo_122 : decode cX7_isSo 122 = .ok (.iload_n 3, 1) := by decide +kernel
theorem dX7_isSo_123 : decode cX7_isSo 123 = .ok (.iconst 1, 1) := by decide +kernel
theorem dX7_isSo_124 : decode cX7_isSo 124 = .ok (.if_icmp .ne 7, 3) := by decide +kernel
theorem dX7_isSo_127 : decode cX7_isSo 127 = .ok (.iconst 1, 1) := by decide +kernel
theorem dX7_isSo_128 : decode cX7_isSo 128 = .ok (.goto 4, 3) := by decide +kernel
theorem dX7_isSo_131 : decode cX7_isSo 131 = .ok (.iconst 0, 1) := by decide +kernel
theorem dX7_isSo_132 : decode cX7_isSo 132 = .ok (.if_icmp .ne 7, 3) := by decide +kernel
theorem dX7_isSo_135 : decode cX7_isSo 135 = .ok (.iconst 1, 1) := by decide +kernel
theorem dX7_isSo_136 : decode cX7_isSo 136 = .ok (.goto 4, 3) := by decide +kernel
theorem dX7_isSo_139 : decode cX7_isSo 139 = .ok (.iconst 0, 1) := by decide +kernel
theorem dX7_isSo_140 : decode cX7_isSo 140 = .ok (.ireturn, 1) := by decide +kernel
def p_X7_isSo_132 (F : Nat) (s0_122 : Int32) (Post : Int32 → Prop) (s1_132 : Int32) : Prop := ((¬ s0_122 = s1_132 → (Post (0 : Int32))) ∧ (s0_122 = s1_132 → (Post (1 : Int32))))
def p_X7_isSo_122 (F : Nat) (p3 : Int32) (Post : Int32 → Prop) (s0_122 : Int32) : Prop := ((¬ p3 = (1 : Int32) → (p_X7_isSo_132 F s0_122 Post (0 : Int32))) ∧ (p3 = (1 : Int32) → (p_X7_isSo_132 F s0_122 Post (1 : Int32))))
def p_X7_isSo (F : Nat) (p1 : Int32) (p2 : Int32) (p3 : Int32) (f_now_grief : Nat → Int32) (f_purrs : Nat → Int32) (f_now_place : Nat → Int32) (f_now_bowl : Nat → Int32) (f_now_joy : Nat → Int32) (Post : Int32 → Prop) : Prop := ((p2 = (0 : Int32) → (vp_in p1 8 ∧ (((f_now_joy p1.toNatClampNeg) < p3 → (Post (0 : Int32))) ∧ (¬ (f_now_joy p1.toNatClampNeg) < p3 → (Post (1 : Int32)))))) ∧ (¬ p2 = (0 : Int32) → ((p2 = (1 : Int32) → (vp_in p1 8 ∧ (((f_now_bowl p1.toNatClampNeg) < p3 → (Post (0 : Int32))) ∧ (¬ (f_now_bowl p1.toNatClampNeg) < p3 → (Post (1 : Int32)))))) ∧ (¬ p2 = (1 : Int32) → ((p2 = (2 : Int32) → (vp_in p1 8 ∧ ((¬ (f_now_place p1.toNatClampNeg) = p3 → (Post (0 : Int32))) ∧ ((f_now_place p1.toNatClampNeg) = p3 → (Post (1 : Int32)))))) ∧ (¬ p2 = (2 : Int32) → ((p2 = (3 : Int32) → (vp_in p1 8 ∧ (((f_purrs p1.toNatClampNeg) < p3 → (Post (0 : Int32))) ∧ (¬ (f_purrs p1.toNatClampNeg) < p3 → (Post (1 : Int32)))))) ∧ (¬ p2 = (3 : Int32) → (vp_in p1 8 ∧ (((f_now_grief p1.toNatClampNeg) ≤ 0 → (p_X7_isSo_122 F p3 Post (0 : Int32))) ∧ (¬ (f_now_grief p1.toNatClampNeg) ≤ 0 → (p_X7_isSo_122 F p3 Post (1 : Int32)))))))))))))
set_option maxHeartbeats 4000000 in
set_option maxRecDepth 100000 in
theorem c_X7_isSo (l : Launch) (D : va_G) (cT : Nat → ClassId) (F : Nat) (h : Nat) (p1 : Int32) (p2 : Int32) (p3 : Int32) (w_text : Value) (w_told : Value) (q_now : Nat) (w_before : Value) (w_trial : Value) (w_past : Value) (w_kept : Value) (w_feltNotes : Value) (w_heardNotes : Value) (w_draws : Value) (q_purrs : Nat) (w_alone : Value) (w_nimbers : Value) (w_ways : Value) (w_ruling : Value) (w_spare : Value) (w_now_load : Value) (w_now_sag : Value) (q_now_joy : Nat) (q_now_bowl : Nat) (q_now_grief : Nat) (q_now_place : Nat) (x_now_arches : Int32) (x_now_cats : Int32) (x_now_store : Int32) (x_now_hour : Int32) (x_now_drops : Int32) (f_now_grief : Nat → Int32) (f_purrs : Nat → Int32) (f_now_place : Nat → Int32) (f_now_bowl : Nat → Int32) (f_now_joy : Nat → Int32) (Post : Int32 → Prop) (hg : p_X7_isSo F p1 p2 p3 f_now_grief f_purrs f_now_place f_now_bowl f_now_joy Post) : MRi l D cT yX7_isSo cX7_isSo 4 (some .boolean) 0 0 [.ref h, .int p1, .int p2, .int p3] [(h, oX7 w_text w_told (.ref q_now) w_before w_trial w_past w_kept w_feltNotes w_heardNotes w_draws (.ref q_purrs) w_alone w_nimbers w_ways w_ruling w_spare), (q_now, oX6 w_now_load w_now_sag (.ref q_now_joy) (.ref q_now_bowl) (.ref q_now_grief) (.ref q_now_place) (.int x_now_arches) (.int x_now_cats) (.int x_now_store) (.int x_now_hour) (.int x_now_drops)), (q_now_grief, aI cT 8 f_now_grief), (q_purrs, aI cT 8 f_purrs), (q_now_place, aI cT 8 f_now_place), (q_now_bowl, aI cT 8 f_now_bowl), (q_now_joy, aI cT 8 f_now_joy)] Post := by
  refine MRi.of (by decide) (Nat.le_of_ble_eq_true rfl) ?_
  intro p e s m below meth c hA C0 hr hP hD hS ls hl
  have hl : lv_has ls 4 [(0, .ref h), (1, .int p1), (2, .int p2), (3, .int p3)] := hl
  have hx := C0.x
  have hb := C0.b
  have hP : va_P D cls9 [(h, oX7 w_text w_told (.ref q_now) w_before w_trial w_past w_kept w_feltNotes w_heardNotes w_draws (.ref q_purrs) w_alone w_nimbers w_ways w_ruling w_spare), (q_now, oX6 w_now_load w_now_sag (.ref q_now_joy) (.ref q_now_bowl) (.ref q_now_grief) (.ref q_now_place) (.int x_now_arches) (.int x_now_cats) (.int x_now_store) (.int x_now_hour) (.int x_now_drops)), (q_now_grief, aI cT 8 f_now_grief), (q_purrs, aI cT 8 f_purrs), (q_now_place, aI cT 8 f_now_place), (q_now_bowl, aI cT 8 f_now_bowl), (q_now_joy, aI cT 8 f_now_joy)] s.heap := hP
  have hD : va_D (fun q => cT 6 ≤ q) [(h, oX7 w_text w_told (.ref q_now) w_before w_trial w_past w_kept w_feltNotes w_heardNotes w_draws (.ref q_purrs) w_alone w_nimbers w_ways w_ruling w_spare), (q_now, oX6 w_now_load w_now_sag (.ref q_now_joy) (.ref q_now_bowl) (.ref q_now_grief) (.ref q_now_place) (.int x_now_arches) (.int x_now_cats) (.int x_now_store) (.int x_now_hour) (.int x_now_drops)), (q_now_grief, aI cT 8 f_now_grief), (q_purrs, aI cT 8 f_purrs), (q_now_place, aI cT 8 f_now_place), (q_now_bowl, aI cT 8 f_now_bowl), (q_now_joy, aI cT 8 f_now_joy)] := hD
  have L132 : ∀ (s0_122 : Int32) (s1_132 : Int32) (ls : Array Slot), p_X7_isSo_132 F s0_122 Post s1_132 → lv_has ls 4 [] → W p l e (rmO 0 0 0 0) s m ([.ref h, .int p1, .int p2, .int p3] : List Value).toArray below meth c s.heap [] 0 0 (MQ below (vp_Si Post) ([.ref h, .int p1, .int p2, .int p3] : List Value).toArray s 0 0 (fun _ => False)) (F0 m 132 ls [.int s1_132, .int s0_122]) := by
    intro s0_122 s1_132 ls hg hl
    unfold p_X7_isSo_132 at hg
    refine lv_icmp_ne (tgt := 139) hx hb dX7_isSo_132 (by decide) (fun c_132 => ?_) (fun c_132 => ?_)
    · have hg := hg.1 c_132
      refine lv_iconst (v := (0 : Int32)) hx hb dX7_isSo_139 (by decide) ?_
      exact k_xzret C0 hr (Or.inl rfl) hg dX7_isSo_140
    have hg := hg.2 c_132
    refine lv_iconst (v := (1 : Int32)) hx hb dX7_isSo_135 (by decide) ?_
    refine lv_goto (tgt := 140) hx hb dX7_isSo_136 (by decide) ?_
    exact k_xzret C0 hr (Or.inr rfl) hg dX7_isSo_140
  have L122 : ∀ (s0_122 : Int32) (ls : Array Slot), p_X7_isSo_122 F p3 Post s0_122 → lv_has ls 4 [(3, .int p3)] → W p l e (rmO 0 0 0 0) s m ([.ref h, .int p1, .int p2, .int p3] : List Value).toArray below meth c s.heap [] 0 0 (MQ below (vp_Si Post) ([.ref h, .int p1, .int p2, .int p3] : List Value).toArray s 0 0 (fun _ => False)) (F0 m 122 ls [.int s0_122]) := by
    intro s0_122 ls hg hl
    unfold p_X7_isSo_122 at hg
    refine lv_iload_n hx hb dX7_isSo_122 rfl (lv_at hl 0 rfl) ?_
    refine lv_iconst (v := (1 : Int32)) hx hb dX7_isSo_123 (by decide) ?_
    refine lv_icmp_ne (tgt := 131) hx hb dX7_isSo_124 (by decide) (fun c_124 => ?_) (fun c_124 => ?_)
    · have hg := hg.1 c_124
      refine lv_iconst (v := (0 : Int32)) hx hb dX7_isSo_131 (by decide) ?_
      exact L132 s0_122 (0 : Int32) _ hg (lv_sub hl [] rfl)
    have hg := hg.2 c_124
    refine lv_iconst (v := (1 : Int32)) hx hb dX7_isSo_127 (by decide) ?_
    refine lv_goto (tgt := 132) hx hb dX7_isSo_128 (by decide) ?_
    exact L132 s0_122 (1 : Int32) _ hg (lv_sub hl [] rfl)
  unfold p_X7_isSo at hg
  refine lv_iload_n hx hb dX7_isSo_0 rfl (lv_at hl 2 rfl) ?_
  rcases Classical.em (p2 = (0 : Int32)) with c_1_0 | c_1_0
  · have hg := hg.1 c_1_0
    refine lv_tableIn (tgt := 32) hx hb dX7_isSo_1 (by rw [c_1_0]; decide) (by rw [c_1_0]; decide) (by rw [c_1_0]; rfl) (by decide) ?_
    refine lv_aload_n hx hb dX7_isSo_32 rfl (lv_at hl 0 rfl) ?_
    refine gf_X7_26 C0 hP 0 rfl rfl dX7_isSo_33 ?_
    refine gf_X7_159 C0 hP 1 rfl rfl dX7_isSo_36 ?_
    refine lv_iload_n hx hb dX7_isSo_39 rfl (lv_at hl 1 rfl) ?_
    obtain ⟨g_40, hg⟩ := hg
    refine k_iald C0 hP 6 rfl g_40 dX7_isSo_40 ?_
    refine lv_iload_n hx hb dX7_isSo_41 rfl (lv_at hl 3 rfl) ?_
    refine lv_icmp_lt (tgt := 49) hx hb dX7_isSo_42 (by decide) (fun c_42 => ?_) (fun c_42 => ?_)
    · have hg := hg.1 c_42
      refine lv_iconst (v := (0 : Int32)) hx hb dX7_isSo_49 (by decide) ?_
      exact k_xzret C0 hr (Or.inl rfl) hg dX7_isSo_50
    have hg := hg.2 c_42
    refine lv_iconst (v := (1 : Int32)) hx hb dX7_isSo_45 (by decide) ?_
    refine lv_goto (tgt := 50) hx hb dX7_isSo_46 (by decide) ?_
    exact k_xzret C0 hr (Or.inr rfl) hg dX7_isSo_50
  have hg := hg.2 c_1_0
  rcases Classical.em (p2 = (1 : Int32)) with c_1_1 | c_1_1
  · have hg := hg.1 c_1_1
    refine lv_tableIn (tgt := 51) hx hb dX7_isSo_1 (by rw [c_1_1]; decide) (by rw [c_1_1]; decide) (by rw [c_1_1]; rfl) (by decide) ?_
    refine lv_aload_n hx hb dX7_isSo_51 rfl (lv_at hl 0 rfl) ?_
    refine gf_X7_26 C0 hP 0 rfl rfl dX7_isSo_52 ?_
    refine gf_X7_162 C0 hP 1 rfl rfl dX7_isSo_55 ?_
    refine lv_iload_n hx hb dX7_isSo_58 rfl (lv_at hl 1 rfl) ?_
    obtain ⟨g_59, hg⟩ := hg
    refine k_iald C0 hP 5 rfl g_59 dX7_isSo_59 ?_
    refine lv_iload_n hx hb dX7_isSo_60 rfl (lv_at hl 3 rfl) ?_
    refine lv_icmp_lt (tgt := 68) hx hb dX7_isSo_61 (by decide) (fun c_61 => ?_) (fun c_61 => ?_)
    · have hg := hg.1 c_61
      refine lv_iconst (v := (0 : Int32)) hx hb dX7_isSo_68 (by decide) ?_
      exact k_xzret C0 hr (Or.inl rfl) hg dX7_isSo_69
    have hg := hg.2 c_61
    refine lv_iconst (v := (1 : Int32)) hx hb dX7_isSo_64 (by decide) ?_
    refine lv_goto (tgt := 69) hx hb dX7_isSo_65 (by decide) ?_
    exact k_xzret C0 hr (Or.inr rfl) hg dX7_isSo_69
  have hg := hg.2 c_1_1
  rcases Classical.em (p2 = (2 : Int32)) with c_1_2 | c_1_2
  · have hg := hg.1 c_1_2
    refine lv_tableIn (tgt := 70) hx hb dX7_isSo_1 (by rw [c_1_2]; decide) (by rw [c_1_2]; decide) (by rw [c_1_2]; rfl) (by decide) ?_
    refine lv_aload_n hx hb dX7_isSo_70 rfl (lv_at hl 0 rfl) ?_
    refine gf_X7_26 C0 hP 0 rfl rfl dX7_isSo_71 ?_
    refine gf_X7_168 C0 hP 1 rfl rfl dX7_isSo_74 ?_
    refine lv_iload_n hx hb dX7_isSo_77 rfl (lv_at hl 1 rfl) ?_
    obtain ⟨g_78, hg⟩ := hg
    refine k_iald C0 hP 4 rfl g_78 dX7_isSo_78 ?_
    refine lv_iload_n hx hb dX7_isSo_79 rfl (lv_at hl 3 rfl) ?_
    refine lv_icmp_ne (tgt := 87) hx hb dX7_isSo_80 (by decide) (fun c_80 => ?_) (fun c_80 => ?_)
    · have hg := hg.1 c_80
      refine lv_iconst (v := (0 : Int32)) hx hb dX7_isSo_87 (by decide) ?_
      exact k_xzret C0 hr (Or.inl rfl) hg dX7_isSo_88
    have hg := hg.2 c_80
    refine lv_iconst (v := (1 : Int32)) hx hb dX7_isSo_83 (by decide) ?_
    refine lv_goto (tgt := 88) hx hb dX7_isSo_84 (by decide) ?_
    exact k_xzret C0 hr (Or.inr rfl) hg dX7_isSo_88
  have hg := hg.2 c_1_2
  rcases Classical.em (p2 = (3 : Int32)) with c_1_3 | c_1_3
  · have hg := hg.1 c_1_3
    refine lv_tableIn (tgt := 89) hx hb dX7_isSo_1 (by rw [c_1_3]; decide) (by rw [c_1_3]; decide) (by rw [c_1_3]; rfl) (by decide) ?_
    refine lv_aload_n hx hb dX7_isSo_89 rfl (lv_at hl 0 rfl) ?_
    refine gf_X7_66 C0 hP 0 rfl rfl dX7_isSo_90 ?_
    refine lv_iload_n hx hb dX7_isSo_93 rfl (lv_at hl 1 rfl) ?_
    obtain ⟨g_94, hg⟩ := hg
    refine k_iald C0 hP 3 rfl g_94 dX7_isSo_94 ?_
    refine lv_iload_n hx hb dX7_isSo_95 rfl (lv_at hl 3 rfl) ?_
    refine lv_icmp_lt (tgt := 103) hx hb dX7_isSo_96 (by decide) (fun c_96 => ?_) (fun c_96 => ?_)
    · have hg := hg.1 c_96
      refine lv_iconst (v := (0 : Int32)) hx hb dX7_isSo_103 (by decide) ?_
      exact k_xzret C0 hr (Or.inl rfl) hg dX7_isSo_104
    have hg := hg.2 c_96
    refine lv_iconst (v := (1 : Int32)) hx hb dX7_isSo_99 (by decide) ?_
    refine lv_goto (tgt := 104) hx hb dX7_isSo_100 (by decide) ?_
    exact k_xzret C0 hr (Or.inr rfl) hg dX7_isSo_104
  have hg := hg.2 c_1_3
  refine sw_def (x := p2) (lo := 0) (dflt := 104) (tgt := 105) hx hb dX7_isSo_1 (by decide) (by decide) ?_ ?_
  · intro k hk hx2
    have n_1_0 := ne_toInt (k := 0) (by decide) c_1_0
    have n_1_1 := ne_toInt (k := 1) (by decide) c_1_1
    have n_1_2 := ne_toInt (k := 2) (by decide) c_1_2
    have n_1_3 := ne_toInt (k := 3) (by decide) c_1_3
    have hk3 : k < 4 := hk
    match k, hk3 with
    | 0, _ => exact absurd hx2 (by omega)
    | 1, _ => exact absurd hx2 (by omega)
    | 2, _ => exact absurd hx2 (by omega)
    | 3, _ => exact absurd hx2 (by omega)
    | k + 4, h => exact absurd h (by omega)
  refine lv_aload_n hx hb dX7_isSo_105 rfl (lv_at hl 0 rfl) ?_
  refine gf_X7_26 C0 hP 0 rfl rfl dX7_isSo_106 ?_
  refine gf_X7_165 C0 hP 1 rfl rfl dX7_isSo_109 ?_
  refine lv_iload_n hx hb dX7_isSo_112 rfl (lv_at hl 1 rfl) ?_
  obtain ⟨g_113, hg⟩ := hg
  refine k_iald C0 hP 2 rfl g_113 dX7_isSo_113 ?_
  refine lv_if_le (tgt := 121) hx hb dX7_isSo_114 (by decide) (fun c_114 => ?_) (fun c_114 => ?_)
  · have hg := hg.1 c_114
    refine lv_iconst (v := (0 : Int32)) hx hb dX7_isSo_121 (by decide) ?_
    exact L122 (0 : Int32) _ hg (lv_sub hl [3] rfl)
  have hg := hg.2 c_114
  refine lv_iconst (v := (1 : Int32)) hx hb dX7_isSo_117 (by decide) ?_
  refine lv_goto (tgt := 122) hx hb dX7_isSo_118 (by decide) ?_
  exact L122 (1 : Int32) _ hg (lv_sub hl [3] rfl)
theorem dX7_catsOfWhom_0 : decode cX7_catsOfWhom 0 = .ok (.iconst 0, 1) := by decide +kernel
theorem dX7_catsOfWhom_1 : decode cX7_catsOfWhom 1 = .ok (.istore_n 3, 1) := by decide +kernel
theorem dX7_catsOfWhom_2 : decode cX7_catsOfWhom 2 = .ok (.iconst 0, 1) := by decide +kernel
theorem dX7_catsOfWhom_3 : decode cX7_catsOfWhom 3 = .ok (.istore 4, 2) := by decide +kernel
theorem dX7_catsOfWhom_5 : decode cX7_catsOfWhom 5 = .ok (.iload 4, 2) := by decide +kernel
theorem dX7_catsOfWhom_7 : decode cX7_catsOfWhom 7 = .ok (.aload_n 0, 1) := by decide +kernel
theorem dX7_catsOfWhom_8 : decode cX7_catsOfWhom 8 = .ok (.getfield 26, 3) := by decide +kernel
theorem dX7_catsOfWhom_11 : decode cX7_catsOfWhom 11 = .ok (.getfield 118, 3) := by decide +kernel
theorem dX7_catsOfWhom_14 : decode cX7_catsOfWhom 14 = .ok (.if_icmp .ge 31, 3) := by decide +kernel
theorem dX7_catsOfWhom_17 : decode cX7_catsOfWhom 17 = .ok (.iload_n 3, 1) := by decide +kernel
theorem dX7_catsOfWhom_18 : decode cX7_catsOfWhom 18 = .ok (.aload_n 0, 1) := by decide +kernel
theorem dX7_catsOfWhom_19 : decode cX7_catsOfWhom 19 = .ok (.iload 4, 2) := by decide +kernel
theorem dX7_catsOfWhom_21 : decode cX7_catsOfWhom 21 = .ok (.iload_n 1, 1) := by decide +kernel
theorem dX7_catsOfWhom_22 : decode cX7_catsOfWhom 22 = .ok (.iload_n 2, 1) := by decide +kernel
theorem dX7_catsOfWhom_23 : decode cX7_catsOfWhom 23 = .ok (.invokevirtual 347, 3) := by decide +kernel
theorem dX7_catsOfWhom_26 : decode cX7_catsOfWhom 26 = .ok (.ifCond .eq 10, 3) := by decide +kernel
theorem dX7_catsOfWhom_29 : decode cX7_catsOfWhom 29 = .ok (.iconst 1, 1) := by decide +kernel
theorem dX7_catsOfWhom_30 : decode cX7_catsOfWhom 30 = .ok (.iload 4, 2) := by decide +kernel
theorem dX7_catsOfWhom_32 : decode cX7_catsOfWhom 32 = .ok (.ishl, 1) := by decide +kernel
theorem dX7_catsOfWhom_33 : decode cX7_catsOfWhom 33 = .ok (.goto 4, 3) := by decide +kernel
theorem dX7_catsOfWhom_36 : decode cX7_catsOfWhom 36 = .ok (.iconst 0, 1) := by decide +kernel
theorem dX7_catsOfWhom_37 : decode cX7_catsOfWhom 37 = .ok (.ior, 1) := by decide +kernel
theorem dX7_catsOfWhom_38 : decode cX7_catsOfWhom 38 = .ok (.istore_n 3, 1) := by decide +kernel
theorem dX7_catsOfWhom_39 : decode cX7_catsOfWhom 39 = .ok (.iinc 4 1, 3) := by decide +kernel
theorem dX7_catsOfWhom_42 : decode cX7_catsOfWhom 42 = .ok (.goto (-37), 3) := by decide +kernel
theorem dX7_catsOfWhom_45 : decode cX7_catsOfWhom 45 = .ok (.iload_n 3, 1) := by decide +kernel
theorem dX7_catsOfWhom_46 : decode cX7_catsOfWhom 46 = .ok (.ireturn, 1) := by decide +kernel
def p_X7_catsOfWhom_37 (F : Nat) (y4_5 : Int32) (y3_5 : Int32) (k5 : Int32 → Int32 → Prop) (Post : Int32 → Prop) (s1_37 : Int32) : Prop := (k5 (y4_5 + (1 : Int32)) (y3_5 ||| s1_37))
noncomputable def p_X7_catsOfWhom_5 (F : Nat) (p1 : Int32) (p2 : Int32) (x_now_cats : Int32) (f_now_grief : Nat → Int32) (f_purrs : Nat → Int32) (f_now_place : Nat → Int32) (f_now_bowl : Nat → Int32) (f_now_joy : Nat → Int32) (Post : Int32 → Prop) (n : Nat) : Int32 → Int32 → Prop := Nat.rec (motive := fun _ => Int32 → Int32 → Prop) (fun _ _ => False) (fun _ k5 => fun (y4_5 : Int32) (y3_5 : Int32) => ((x_now_cats ≤ y4_5 → (Post y3_5)) ∧ (¬ x_now_cats ≤ y4_5 → (p_X7_isSo F y4_5 p1 p2 f_now_grief f_purrs f_now_place f_now_bowl f_now_joy (fun (r_23 : Int32) => ((r_23 = 0 → (p_X7_catsOfWhom_37 F y4_5 y3_5 k5 Post (0 : Int32))) ∧ (¬ r_23 = 0 → (p_X7_catsOfWhom_37 F y4_5 y3_5 k5 Post ((1 : Int32) <<< (y4_5 &&& 31)))))))))) n
theorem p_X7_catsOfWhom_5_s (F : Nat) (p1 : Int32) (p2 : Int32) (x_now_cats : Int32) (f_now_grief : Nat → Int32) (f_purrs : Nat → Int32) (f_now_place : Nat → Int32) (f_now_bowl : Nat → Int32) (f_now_joy : Nat → Int32) (Post : Int32 → Prop) (n : Nat) (y4_5 : Int32) (y3_5 : Int32) : p_X7_catsOfWhom_5 F p1 p2 x_now_cats f_now_grief f_purrs f_now_place f_now_bowl f_now_joy Post (n + 1) y4_5 y3_5 = ((x_now_cats ≤ y4_5 → (Post y3_5)) ∧ (¬ x_now_cats ≤ y4_5 → (p_X7_isSo F y4_5 p1 p2 f_now_grief f_purrs f_now_place f_now_bowl f_now_joy (fun (r_23 : Int32) => ((r_23 = 0 → (p_X7_catsOfWhom_37 F y4_5 y3_5 (p_X7_catsOfWhom_5 F p1 p2 x_now_cats f_now_grief f_purrs f_now_place f_now_bowl f_now_joy Post n) Post (0 : Int32))) ∧ (¬ r_23 = 0 → (p_X7_catsOfWhom_37 F y4_5 y3_5 (p_X7_catsOfWhom_5 F p1 p2 x_now_cats f_now_grief f_purrs f_now_place f_now_bowl f_now_joy Post n) Post ((1 : Int32) <<< (y4_5 &&& 31))))))))) := rfl
def p_X7_catsOfWhom (F : Nat) (p1 : Int32) (p2 : Int32) (x_now_cats : Int32) (f_now_grief : Nat → Int32) (f_purrs : Nat → Int32) (f_now_place : Nat → Int32) (f_now_bowl : Nat → Int32) (f_now_joy : Nat → Int32) (Post : Int32 → Prop) : Prop := (p_X7_catsOfWhom_5 F p1 p2 x_now_cats f_now_grief f_purrs f_now_place f_now_bowl f_now_joy Post F (0 : Int32) (0 : Int32))
set_option maxHeartbeats 4000000 in
set_option maxRecDepth 100000 in
theorem c_X7_catsOfWhom (l : Launch) (D : va_G) (cT : Nat → ClassId) (F : Nat) (h : Nat) (p1 : Int32) (p2 : Int32) (w_text : Value) (w_told : Value) (q_now : Nat) (w_before : Value) (w_trial : Value) (w_past : Value) (w_kept : Value) (w_feltNotes : Value) (w_heardNotes : Value) (w_draws : Value) (q_purrs : Nat) (w_alone : Value) (w_nimbers : Value) (w_ways : Value) (w_ruling : Value) (w_spare : Value) (w_now_load : Value) (w_now_sag : Value) (q_now_joy : Nat) (q_now_bowl : Nat) (q_now_grief : Nat) (q_now_place : Nat) (x_now_arches : Int32) (x_now_cats : Int32) (x_now_store : Int32) (x_now_hour : Int32) (x_now_drops : Int32) (f_now_grief : Nat → Int32) (f_purrs : Nat → Int32) (f_now_place : Nat → Int32) (f_now_bowl : Nat → Int32) (f_now_joy : Nat → Int32) (Post : Int32 → Prop) (hg : p_X7_catsOfWhom F p1 p2 x_now_cats f_now_grief f_purrs f_now_place f_now_bowl f_now_joy Post) : MRi l D cT yX7_catsOfWhom cX7_catsOfWhom 5 (some .int) 1 23 [.ref h, .int p1, .int p2] [(h, oX7 w_text w_told (.ref q_now) w_before w_trial w_past w_kept w_feltNotes w_heardNotes w_draws (.ref q_purrs) w_alone w_nimbers w_ways w_ruling w_spare), (q_now, oX6 w_now_load w_now_sag (.ref q_now_joy) (.ref q_now_bowl) (.ref q_now_grief) (.ref q_now_place) (.int x_now_arches) (.int x_now_cats) (.int x_now_store) (.int x_now_hour) (.int x_now_drops)), (q_now_grief, aI cT 8 f_now_grief), (q_purrs, aI cT 8 f_purrs), (q_now_place, aI cT 8 f_now_place), (q_now_bowl, aI cT 8 f_now_bowl), (q_now_joy, aI cT 8 f_now_joy)] Post := by
  refine MRi.of (by decide) (Nat.le_of_ble_eq_true rfl) ?_
  intro p e s m below meth c hA C0 hr hP hD hS ls hl
  have hl : lv_has ls 5 [(0, .ref h), (1, .int p1), (2, .int p2)] := hl
  have hx := C0.x
  have hb := C0.b
  have hP : va_P D cls9 [(h, oX7 w_text w_told (.ref q_now) w_before w_trial w_past w_kept w_feltNotes w_heardNotes w_draws (.ref q_purrs) w_alone w_nimbers w_ways w_ruling w_spare), (q_now, oX6 w_now_load w_now_sag (.ref q_now_joy) (.ref q_now_bowl) (.ref q_now_grief) (.ref q_now_place) (.int x_now_arches) (.int x_now_cats) (.int x_now_store) (.int x_now_hour) (.int x_now_drops)), (q_now_grief, aI cT 8 f_now_grief), (q_purrs, aI cT 8 f_purrs), (q_now_place, aI cT 8 f_now_place), (q_now_bowl, aI cT 8 f_now_bowl), (q_now_joy, aI cT 8 f_now_joy)] s.heap := hP
  have hD : va_D (fun q => cT 6 ≤ q) [(h, oX7 w_text w_told (.ref q_now) w_before w_trial w_past w_kept w_feltNotes w_heardNotes w_draws (.ref q_purrs) w_alone w_nimbers w_ways w_ruling w_spare), (q_now, oX6 w_now_load w_now_sag (.ref q_now_joy) (.ref q_now_bowl) (.ref q_now_grief) (.ref q_now_place) (.int x_now_arches) (.int x_now_cats) (.int x_now_store) (.int x_now_hour) (.int x_now_drops)), (q_now_grief, aI cT 8 f_now_grief), (q_purrs, aI cT 8 f_purrs), (q_now_place, aI cT 8 f_now_place), (q_now_bowl, aI cT 8 f_now_bowl), (q_now_joy, aI cT 8 f_now_joy)] := hD
  have L5 : ∀ (n5 : Nat) (y4_5 : Int32) (y3_5 : Int32) (ls : Array Slot), p_X7_catsOfWhom_5 F p1 p2 x_now_cats f_now_grief f_purrs f_now_place f_now_bowl f_now_joy Post n5 y4_5 y3_5 → lv_has ls 5 [(0, .ref h), (1, .int p1), (2, .int p2), (3, .int y3_5), (4, .int y4_5)] → W p l e (rmO 1 23 0 0) s m ([.ref h, .int p1, .int p2] : List Value).toArray below meth c s.heap [] 0 0 (MQ below (vp_Si Post) ([.ref h, .int p1, .int p2] : List Value).toArray s 0 0 (fun _ => False)) (F0 m 5 ls []) := by
    intro n5
    induction n5 with
    | zero =>
      intro y4_5 y3_5 ls hg hl
      exact False.elim hg
    | succ n5 ih5 =>
      have L37 : ∀ (y4_5 : Int32) (y3_5 : Int32) (s1_37 : Int32) (ls : Array Slot), p_X7_catsOfWhom_37 F y4_5 y3_5 (p_X7_catsOfWhom_5 F p1 p2 x_now_cats f_now_grief f_purrs f_now_place f_now_bowl f_now_joy Post n5) Post s1_37 → lv_has ls 5 [(0, .ref h), (1, .int p1), (2, .int p2), (4, .int y4_5)] → W p l e (rmO 1 23 0 0) s m ([.ref h, .int p1, .int p2] : List Value).toArray below meth c s.heap [] 0 0 (MQ below (vp_Si Post) ([.ref h, .int p1, .int p2] : List Value).toArray s 0 0 (fun _ => False)) (F0 m 37 ls [.int s1_37, .int y3_5]) := by
        intro y4_5 y3_5 s1_37 ls hg hl
        unfold p_X7_catsOfWhom_37 at hg
        refine lv_ior hx hb dX7_catsOfWhom_37 ?_
        refine lv_istore_n (lv' := [(3, .int (y3_5 ||| s1_37)), (0, .ref h), (1, .int p1), (2, .int p2), (4, .int y4_5)]) hx hb dX7_catsOfWhom_38 rfl hl (by decide) rfl (fun ls hl => ?_)
        refine lv_iinc (v := (y4_5 + (1 : Int32))) (lv' := [(4, .int (y4_5 + (1 : Int32))), (3, .int (y3_5 ||| s1_37)), (0, .ref h), (1, .int p1), (2, .int p2)]) hx hb dX7_catsOfWhom_39 hl (k := 4) rfl rfl (by decide) rfl (fun ls hl => ?_)
        refine lv_goto (tgt := 5) hx hb dX7_catsOfWhom_42 (by decide) ?_
        exact ih5 (y4_5 + (1 : Int32)) (y3_5 ||| s1_37) _ hg (lv_sub hl [2, 3, 4, 1, 0] rfl)
      intro y4_5 y3_5 ls hg hl
      rw [p_X7_catsOfWhom_5_s] at hg
      refine lv_iload hx hb dX7_catsOfWhom_5 (lv_at hl 4 rfl) ?_
      refine lv_aload_n hx hb dX7_catsOfWhom_7 rfl (lv_at hl 0 rfl) ?_
      refine gf_X7_26 C0 hP 0 rfl rfl dX7_catsOfWhom_8 ?_
      refine gf_X7_118 C0 hP 1 rfl rfl dX7_catsOfWhom_11 ?_
      refine lv_icmp_ge (tgt := 45) hx hb dX7_catsOfWhom_14 (by decide) (fun c_14 => ?_) (fun c_14 => ?_)
      · have hg := hg.1 c_14
        refine lv_iload_n hx hb dX7_catsOfWhom_45 rfl (lv_at hl 3 rfl) ?_
        exact k_xiret C0 hr hg dX7_catsOfWhom_46
      have hg := hg.2 c_14
      refine lv_iload_n hx hb dX7_catsOfWhom_17 rfl (lv_at hl 3 rfl) ?_
      refine lv_aload_n hx hb dX7_catsOfWhom_18 rfl (lv_at hl 0 rfl) ?_
      refine lv_iload hx hb dX7_catsOfWhom_19 (lv_at hl 4 rfl) ?_
      refine lv_iload_n hx hb dX7_catsOfWhom_21 rfl (lv_at hl 1 rfl) ?_
      refine lv_iload_n hx hb dX7_catsOfWhom_22 rfl (lv_at hl 2 rfl) ?_
      refine k_Vxi (rest := [.int y3_5]) C0 lk_X7_347 (c_X7_isSo l D cT F h y4_5 p1 p2 w_text w_told q_now w_before w_trial w_past w_kept w_feltNotes w_heardNotes w_draws q_purrs w_alone w_nimbers w_ways w_ruling w_spare w_now_load w_now_sag q_now_joy q_now_bowl q_now_grief q_now_place x_now_arches x_now_cats x_now_store x_now_hour x_now_drops f_now_grief f_purrs f_now_place f_now_bowl f_now_joy _ hg) hP hD hS hA [0, 1, 2, 3, 4, 5, 6] (by decide +kernel) rfl rfl rfl ⟨Nat.le_of_ble_eq_true rfl, Nat.le_of_ble_eq_true rfl⟩ rfl hl.1 rfl (Nat.le_of_ble_eq_true rfl) dX7_catsOfWhom_23 ⟨Nat.le_of_ble_eq_true rfl, Nat.le_of_ble_eq_true rfl⟩ (fun r_23 hg => ?_)
      refine lv_if_eq (tgt := 36) hx hb dX7_catsOfWhom_26 (by decide) (fun c_26 => ?_) (fun c_26 => ?_)
      · have hg := hg.1 c_26
        refine lv_iconst (v := (0 : Int32)) hx hb dX7_catsOfWhom_36 (by decide) ?_
        exact L37 y4_5 y3_5 (0 : Int32) _ hg (lv_sub hl [0, 1, 2, 4] rfl)
      have hg := hg.2 c_26
      refine lv_iconst (v := (1 : Int32)) hx hb dX7_catsOfWhom_29 (by decide) ?_
      refine lv_iload hx hb dX7_catsOfWhom_30 (lv_at hl 4 rfl) ?_
      refine lv_ishl hx hb dX7_catsOfWhom_32 ?_
      refine lv_goto (tgt := 37) hx hb dX7_catsOfWhom_33 (by decide) ?_
      exact L37 y4_5 y3_5 ((1 : Int32) <<< (y4_5 &&& 31)) _ hg (lv_sub hl [0, 1, 2, 4] rfl)
  unfold p_X7_catsOfWhom at hg
  refine lv_iconst (v := (0 : Int32)) hx hb dX7_catsOfWhom_0 (by decide) ?_
  refine lv_istore_n (lv' := [(3, .int (0 : Int32)), (0, .ref h), (1, .int p1), (2, .int p2)]) hx hb dX7_catsOfWhom_1 rfl hl (by decide) rfl (fun ls hl => ?_)
  refine lv_iconst (v := (0 : Int32)) hx hb dX7_catsOfWhom_2 (by decide) ?_
  refine lv_istore (lv' := [(4, .int (0 : Int32)), (3, .int (0 : Int32)), (0, .ref h), (1, .int p1), (2, .int p2)]) hx hb dX7_catsOfWhom_3 hl (by decide) rfl (fun ls hl => ?_)
  exact L5 F (0 : Int32) (0 : Int32) _ hg (lv_sub hl [2, 3, 4, 1, 0] rfl)
theorem dX7_suitingCats_0 : decode cX7_suitingCats 0 = .ok (.iconst 1, 1) := by decide +kernel
theorem dX7_suitingCats_1 : decode cX7_suitingCats 1 = .ok (.aload_n 0, 1) := by decide +kernel
theorem dX7_suitingCats_2 : decode cX7_suitingCats 2 = .ok (.getfield 26, 3) := by decide +kernel
theorem dX7_suitingCats_5 : decode cX7_suitingCats 5 = .ok (.getfield 118, 3) := by decide +kernel
theorem dX7_suitingCats_8 : decode cX7_suitingCats 8 = .ok (.ishl, 1) := by decide +kernel
theorem dX7_suitingCats_9 : decode cX7_suitingCats 9 = .ok (.iconst 1, 1) := by decide +kernel
theorem dX7_suitingCats_10 : decode cX7_suitingCats 10 = .ok (.isub, 1) := by decide +kernel
theorem dX7_suitingCats_11 : decode cX7_suitingCats 11 = .ok (.istore_n 1, 1) := by decide +kernel
theorem dX7_suitingCats_12 : decode cX7_suitingCats 12 = .ok (.iconst 0, 1) := by decide +kernel
theorem dX7_suitingCats_13 : decode cX7_suitingCats 13 = .ok (.istore_n 2, 1) := by decide +kernel
theorem dX7_suitingCats_14 : decode cX7_suitingCats 14 = .ok (.iload_n 2, 1) := by decide +kernel
theorem dX7_suitingCats_15 : decode cX7_suitingCats 15 = .ok (.aload_n 0, 1) := by decide +kernel
theorem dX7_suitingCats_16 : decode cX7_suitingCats 16 = .ok (.getfield 56, 3) := by decide +kernel
theorem dX7_suitingCats_19 : decode cX7_suitingCats 19 = .ok (.getfield 322, 3) := by decide +kernel
theorem dX7_suitingCats_22 : decode cX7_suitingCats 22 = .ok (.if_icmp .ge 34, 3) := by decide +kernel
theorem dX7_suitingCats_25 : decode cX7_suitingCats 25 = .ok (.iload_n 1, 1) := by decide +kernel
theorem dX7_suitingCats_26 : decode cX7_suitingCats 26 = .ok (.aload_n 0, 1) := by decide +kernel
theorem dX7_suitingCats_27 : decode cX7_suitingCats 27 = .ok (.aload_n 0, 1) := by decide +kernel
theorem dX7_suitingCats_28 : decode cX7_suitingCats 28 = .ok (.getfield 56, 3) := by decide +kernel
theorem dX7_suitingCats_31 : decode cX7_suitingCats 31 = .ok (.getfield 323, 3) := by decide +kernel
theorem dX7_suitingCats_34 : decode cX7_suitingCats 34 = .ok (.iload_n 2, 1) := by decide +kernel
theorem dX7_suitingCats_35 : decode cX7_suitingCats 35 = .ok (.iaload, 1) := by decide +kernel
theorem dX7_suitingCats_36 : decode cX7_suitingCats 36 = .ok (.aload_n 0, 1) := by decide +kernel
theorem dX7_suitingCats_37 : decode cX7_suitingCats 37 = .ok (.getfield 56, 3) := by decide +kernel
theorem dX7_suitingCats_40 : decode cX7_suitingCats 40 = .ok (.getfield 329, 3) := by decide +kernel
theorem dX7_suitingCats_43 : decode cX7_suitingCats 43 = .ok (.iload_n 2, 1) := by decide +kernel
theorem dX7_suitingCats_44 : decode cX7_suitingCats 44 = .ok (.iaload, 1) := by decide +kernel
theorem dX7_suitingCats_45 : decode cX7_suitingCats 45 = .ok (.invokevirtual 344, 3) := by decide +kernel
theorem dX7_suitingCats_48 : decode cX7_suitingCats 48 = .ok (.iand, 1) := by decide +kernel
theorem dX7_suitingCats_49 : decode cX7_suitingCats 49 = .ok (.istore_n 1, 1) := by decide +kernel
theorem dX7_suitingCats_50 : decode cX7_suitingCats 50 = .ok (.iinc 2 1, 3) := by decide +kernel
theorem dX7_suitingCats_53 : decode cX7_suitingCats 53 = .ok (.goto (-39), 3) := by decide +kernel
theorem dX7_suitingCats_56 : decode cX7_suitingCats 56 = .ok (.iload_n 1, 1) := by decide +kernel
theorem dX7_suitingCats_57 : decode cX7_suitingCats 57 = .ok (.ireturn, 1) := by decide +kernel
noncomputable def p_X7_suitingCats_14 (F : Nat) (x_now_cats : Int32) (x_heardNotes_size : Int32) (f_heardNotes_first : Nat → Int32) (f_heardNotes_second : Nat → Int32) (f_now_grief : Nat → Int32) (f_purrs : Nat → Int32) (f_now_place : Nat → Int32) (f_now_bowl : Nat → Int32) (f_now_joy : Nat → Int32) (Post : Int32 → Prop) (n : Nat) : Int32 → Int32 → Prop := Nat.rec (motive := fun _ => Int32 → Int32 → Prop) (fun _ _ => False) (fun _ k14 => fun (y2_14 : Int32) (y1_14 : Int32) => ((x_heardNotes_size ≤ y2_14 → (Post y1_14)) ∧ (¬ x_heardNotes_size ≤ y2_14 → (vp_in y2_14 12 ∧ (vp_in y2_14 12 ∧ (p_X7_catsOfWhom F (f_heardNotes_first y2_14.toNatClampNeg) (f_heardNotes_second y2_14.toNatClampNeg) x_now_cats f_now_grief f_purrs f_now_place f_now_bowl f_now_joy (fun (r_45 : Int32) => (k14 (y2_14 + (1 : Int32)) (y1_14 &&& r_45))))))))) n
theorem p_X7_suitingCats_14_s (F : Nat) (x_now_cats : Int32) (x_heardNotes_size : Int32) (f_heardNotes_first : Nat → Int32) (f_heardNotes_second : Nat → Int32) (f_now_grief : Nat → Int32) (f_purrs : Nat → Int32) (f_now_place : Nat → Int32) (f_now_bowl : Nat → Int32) (f_now_joy : Nat → Int32) (Post : Int32 → Prop) (n : Nat) (y2_14 : Int32) (y1_14 : Int32) : p_X7_suitingCats_14 F x_now_cats x_heardNotes_size f_heardNotes_first f_heardNotes_second f_now_grief f_purrs f_now_place f_now_bowl f_now_joy Post (n + 1) y2_14 y1_14 = ((x_heardNotes_size ≤ y2_14 → (Post y1_14)) ∧ (¬ x_heardNotes_size ≤ y2_14 → (vp_in y2_14 12 ∧ (vp_in y2_14 12 ∧ (p_X7_catsOfWhom F (f_heardNotes_first y2_14.toNatClampNeg) (f_heardNotes_second y2_14.toNatClampNeg) x_now_cats f_now_grief f_purrs f_now_place f_now_bowl f_now_joy (fun (r_45 : Int32) => ((p_X7_suitingCats_14 F x_now_cats x_heardNotes_size f_heardNotes_first f_heardNotes_second f_now_grief f_purrs f_now_place f_now_bowl f_now_joy Post n) (y2_14 + (1 : Int32)) (y1_14 &&& r_45)))))))) := rfl
def p_X7_suitingCats (F : Nat) (x_now_cats : Int32) (x_heardNotes_size : Int32) (f_heardNotes_first : Nat → Int32) (f_heardNotes_second : Nat → Int32) (f_now_grief : Nat → Int32) (f_purrs : Nat → Int32) (f_now_place : Nat → Int32) (f_now_bowl : Nat → Int32) (f_now_joy : Nat → Int32) (Post : Int32 → Prop) : Prop := (p_X7_suitingCats_14 F x_now_cats x_heardNotes_size f_heardNotes_first f_heardNotes_second f_now_grief f_purrs f_now_place f_now_bowl f_now_joy Post F (0 : Int32) (((1 : Int32) <<< (x_now_cats &&& 31)) - (1 : Int32)))
set_option maxHeartbeats 4000000 in
set_option maxRecDepth 100000 in
theorem c_X7_suitingCats (l : Launch) (D : va_G) (cT : Nat → ClassId) (F : Nat) (h : Nat) (w_text : Value) (w_told : Value) (q_now : Nat) (w_before : Value) (w_trial : Value) (w_past : Value) (w_kept : Value) (w_feltNotes : Value) (q_heardNotes : Nat) (w_draws : Value) (q_purrs : Nat) (w_alone : Value) (w_nimbers : Value) (w_ways : Value) (w_ruling : Value) (w_spare : Value) (w_now_load : Value) (w_now_sag : Value) (q_now_joy : Nat) (q_now_bowl : Nat) (q_now_grief : Nat) (q_now_place : Nat) (x_now_arches : Int32) (x_now_cats : Int32) (x_now_store : Int32) (x_now_hour : Int32) (x_now_drops : Int32) (q_heardNotes_first : Nat) (q_heardNotes_second : Nat) (x_heardNotes_most : Int32) (x_heardNotes_size : Int32) (f_heardNotes_first : Nat → Int32) (f_heardNotes_second : Nat → Int32) (f_now_grief : Nat → Int32) (f_purrs : Nat → Int32) (f_now_place : Nat → Int32) (f_now_bowl : Nat → Int32) (f_now_joy : Nat → Int32) (Post : Int32 → Prop) (hg : p_X7_suitingCats F x_now_cats x_heardNotes_size f_heardNotes_first f_heardNotes_second f_now_grief f_purrs f_now_place f_now_bowl f_now_joy Post) : MRi l D cT yX7_suitingCats cX7_suitingCats 3 (some .int) 2 47 [.ref h] [(h, oX7 w_text w_told (.ref q_now) w_before w_trial w_past w_kept w_feltNotes (.ref q_heardNotes) w_draws (.ref q_purrs) w_alone w_nimbers w_ways w_ruling w_spare), (q_now, oX6 w_now_load w_now_sag (.ref q_now_joy) (.ref q_now_bowl) (.ref q_now_grief) (.ref q_now_place) (.int x_now_arches) (.int x_now_cats) (.int x_now_store) (.int x_now_hour) (.int x_now_drops)), (q_heardNotes, oX1 (.ref q_heardNotes_first) (.ref q_heardNotes_second) (.int x_heardNotes_most) (.int x_heardNotes_size)), (q_heardNotes_first, aI cT 12 f_heardNotes_first), (q_heardNotes_second, aI cT 12 f_heardNotes_second), (q_now_grief, aI cT 8 f_now_grief), (q_purrs, aI cT 8 f_purrs), (q_now_place, aI cT 8 f_now_place), (q_now_bowl, aI cT 8 f_now_bowl), (q_now_joy, aI cT 8 f_now_joy)] Post := by
  refine MRi.of (by decide) (Nat.le_of_ble_eq_true rfl) ?_
  intro p e s m below meth c hA C0 hr hP hD hS ls hl
  have hl : lv_has ls 3 [(0, .ref h)] := hl
  have hx := C0.x
  have hb := C0.b
  have hP : va_P D cls9 [(h, oX7 w_text w_told (.ref q_now) w_before w_trial w_past w_kept w_feltNotes (.ref q_heardNotes) w_draws (.ref q_purrs) w_alone w_nimbers w_ways w_ruling w_spare), (q_now, oX6 w_now_load w_now_sag (.ref q_now_joy) (.ref q_now_bowl) (.ref q_now_grief) (.ref q_now_place) (.int x_now_arches) (.int x_now_cats) (.int x_now_store) (.int x_now_hour) (.int x_now_drops)), (q_heardNotes, oX1 (.ref q_heardNotes_first) (.ref q_heardNotes_second) (.int x_heardNotes_most) (.int x_heardNotes_size)), (q_heardNotes_first, aI cT 12 f_heardNotes_first), (q_heardNotes_second, aI cT 12 f_heardNotes_second), (q_now_grief, aI cT 8 f_now_grief), (q_purrs, aI cT 8 f_purrs), (q_now_place, aI cT 8 f_now_place), (q_now_bowl, aI cT 8 f_now_bowl), (q_now_joy, aI cT 8 f_now_joy)] s.heap := hP
  have hD : va_D (fun q => cT 6 ≤ q) [(h, oX7 w_text w_told (.ref q_now) w_before w_trial w_past w_kept w_feltNotes (.ref q_heardNotes) w_draws (.ref q_purrs) w_alone w_nimbers w_ways w_ruling w_spare), (q_now, oX6 w_now_load w_now_sag (.ref q_now_joy) (.ref q_now_bowl) (.ref q_now_grief) (.ref q_now_place) (.int x_now_arches) (.int x_now_cats) (.int x_now_store) (.int x_now_hour) (.int x_now_drops)), (q_heardNotes, oX1 (.ref q_heardNotes_first) (.ref q_heardNotes_second) (.int x_heardNotes_most) (.int x_heardNotes_size)), (q_heardNotes_first, aI cT 12 f_heardNotes_first), (q_heardNotes_second, aI cT 12 f_heardNotes_second), (q_now_grief, aI cT 8 f_now_grief), (q_purrs, aI cT 8 f_purrs), (q_now_place, aI cT 8 f_now_place), (q_now_bowl, aI cT 8 f_now_bowl), (q_now_joy, aI cT 8 f_now_joy)] := hD
  have L14 : ∀ (n14 : Nat) (y2_14 : Int32) (y1_14 : Int32) (ls : Array Slot), p_X7_suitingCats_14 F x_now_cats x_heardNotes_size f_heardNotes_first f_heardNotes_second f_now_grief f_purrs f_now_place f_now_bowl f_now_joy Post n14 y2_14 y1_14 → lv_has ls 3 [(0, .ref h), (1, .int y1_14), (2, .int y2_14)] → W p l e (rmO 2 47 0 0) s m ([.ref h] : List Value).toArray below meth c s.heap [] 0 0 (MQ below (vp_Si Post) ([.ref h] : List Value).toArray s 0 0 (fun _ => False)) (F0 m 14 ls []) := by
    intro n14
    induction n14 with
    | zero =>
      intro y2_14 y1_14 ls hg hl
      exact False.elim hg
    | succ n14 ih14 =>
      intro y2_14 y1_14 ls hg hl
      rw [p_X7_suitingCats_14_s] at hg
      refine lv_iload_n hx hb dX7_suitingCats_14 rfl (lv_at hl 2 rfl) ?_
      refine lv_aload_n hx hb dX7_suitingCats_15 rfl (lv_at hl 0 rfl) ?_
      refine gf_X7_56 C0 hP 0 rfl rfl dX7_suitingCats_16 ?_
      refine gf_X7_322 C0 hP 2 rfl rfl dX7_suitingCats_19 ?_
      refine lv_icmp_ge (tgt := 56) hx hb dX7_suitingCats_22 (by decide) (fun c_22 => ?_) (fun c_22 => ?_)
      · have hg := hg.1 c_22
        refine lv_iload_n hx hb dX7_suitingCats_56 rfl (lv_at hl 1 rfl) ?_
        exact k_xiret C0 hr hg dX7_suitingCats_57
      have hg := hg.2 c_22
      refine lv_iload_n hx hb dX7_suitingCats_25 rfl (lv_at hl 1 rfl) ?_
      refine lv_aload_n hx hb dX7_suitingCats_26 rfl (lv_at hl 0 rfl) ?_
      refine lv_aload_n hx hb dX7_suitingCats_27 rfl (lv_at hl 0 rfl) ?_
      refine gf_X7_56 C0 hP 0 rfl rfl dX7_suitingCats_28 ?_
      refine gf_X7_323 C0 hP 2 rfl rfl dX7_suitingCats_31 ?_
      refine lv_iload_n hx hb dX7_suitingCats_34 rfl (lv_at hl 2 rfl) ?_
      obtain ⟨g_35, hg⟩ := hg
      refine k_iald C0 hP 3 rfl g_35 dX7_suitingCats_35 ?_
      refine lv_aload_n hx hb dX7_suitingCats_36 rfl (lv_at hl 0 rfl) ?_
      refine gf_X7_56 C0 hP 0 rfl rfl dX7_suitingCats_37 ?_
      refine gf_X7_329 C0 hP 2 rfl rfl dX7_suitingCats_40 ?_
      refine lv_iload_n hx hb dX7_suitingCats_43 rfl (lv_at hl 2 rfl) ?_
      obtain ⟨g_44, hg⟩ := hg
      refine k_iald C0 hP 4 rfl g_44 dX7_suitingCats_44 ?_
      refine k_Vxi (rest := [.int y1_14]) C0 lk_X7_344 (c_X7_catsOfWhom l D cT F h (f_heardNotes_first y2_14.toNatClampNeg) (f_heardNotes_second y2_14.toNatClampNeg) w_text w_told q_now w_before w_trial w_past w_kept w_feltNotes (.ref q_heardNotes) w_draws q_purrs w_alone w_nimbers w_ways w_ruling w_spare w_now_load w_now_sag q_now_joy q_now_bowl q_now_grief q_now_place x_now_arches x_now_cats x_now_store x_now_hour x_now_drops f_now_grief f_purrs f_now_place f_now_bowl f_now_joy _ hg) hP hD hS hA [0, 1, 5, 6, 7, 8, 9] (by decide +kernel) rfl rfl rfl ⟨Nat.le_of_ble_eq_true rfl, Nat.le_of_ble_eq_true rfl⟩ rfl hl.1 rfl (Nat.le_of_ble_eq_true rfl) dX7_suitingCats_45 ⟨Nat.le_of_ble_eq_true rfl, Nat.le_of_ble_eq_true rfl⟩ (fun r_45 hg => ?_)
      refine lv_iand hx hb dX7_suitingCats_48 ?_
      refine lv_istore_n (lv' := [(1, .int (y1_14 &&& r_45)), (0, .ref h), (2, .int y2_14)]) hx hb dX7_suitingCats_49 rfl hl (by decide) rfl (fun ls hl => ?_)
      refine lv_iinc (v := (y2_14 + (1 : Int32))) (lv' := [(2, .int (y2_14 + (1 : Int32))), (1, .int (y1_14 &&& r_45)), (0, .ref h)]) hx hb dX7_suitingCats_50 hl (k := 2) rfl rfl (by decide) rfl (fun ls hl => ?_)
      refine lv_goto (tgt := 14) hx hb dX7_suitingCats_53 (by decide) ?_
      exact ih14 (y2_14 + (1 : Int32)) (y1_14 &&& r_45) _ hg (lv_sub hl [2, 1, 0] rfl)
  unfold p_X7_suitingCats at hg
  refine lv_iconst (v := (1 : Int32)) hx hb dX7_suitingCats_0 (by decide) ?_
  refine lv_aload_n hx hb dX7_suitingCats_1 rfl (lv_at hl 0 rfl) ?_
  refine gf_X7_26 C0 hP 0 rfl rfl dX7_suitingCats_2 ?_
  refine gf_X7_118 C0 hP 1 rfl rfl dX7_suitingCats_5 ?_
  refine lv_ishl hx hb dX7_suitingCats_8 ?_
  refine lv_iconst (v := (1 : Int32)) hx hb dX7_suitingCats_9 (by decide) ?_
  refine lv_isub hx hb dX7_suitingCats_10 ?_
  refine lv_istore_n (lv' := [(1, .int (((1 : Int32) <<< (x_now_cats &&& 31)) - (1 : Int32))), (0, .ref h)]) hx hb dX7_suitingCats_11 rfl hl (by decide) rfl (fun ls hl => ?_)
  refine lv_iconst (v := (0 : Int32)) hx hb dX7_suitingCats_12 (by decide) ?_
  refine lv_istore_n (lv' := [(2, .int (0 : Int32)), (1, .int (((1 : Int32) <<< (x_now_cats &&& 31)) - (1 : Int32))), (0, .ref h)]) hx hb dX7_suitingCats_13 rfl hl (by decide) rfl (fun ls hl => ?_)
  exact L14 F (0 : Int32) (((1 : Int32) <<< (x_now_cats &&& 31)) - (1 : Int32)) _ hg (lv_sub hl [2, 1, 0] rfl)
theorem dX7_suits_0 : decode cX7_suits 0 = .ok (.aload_n 0, 1) := by decide +kernel
theorem dX7_suits_1 : decode cX7_suits 1 = .ok (.invokevirtual 313, 3) := by decide +kernel
theorem dX7_suits_4 : decode cX7_suits 4 = .ok (.aload_n 0, 1) := by decide +kernel
theorem dX7_suits_5 : decode cX7_suits 5 = .ok (.invokevirtual 341, 3) := by decide +kernel
theorem dX7_suits_8 : decode cX7_suits 8 = .ok (.istore_n 1, 1) := by decide +kernel
theorem dX7_suits_9 : decode cX7_suits 9 = .ok (.aload_n 0, 1) := by decide +kernel
theorem dX7_suits_10 : decode cX7_suits 10 = .ok (.getfield 19, 3) := by decide +kernel
theorem dX7_suits_13 : decode cX7_suits 13 = .ok (.invokevirtual 201, 3) := by decide +kernel
theorem dX7_suits_16 : decode cX7_suits 16 = .ok (.iload_n 1, 1) := by decide +kernel
theorem dX7_suits_17 : decode cX7_suits 17 = .ok (.invokestatic 253, 3) := by decide +kernel
theorem dX7_suits_20 : decode cX7_suits 20 = .ok (.i2l, 1) := by decide +kernel
theorem dX7_suits_21 : decode cX7_suits 21 = .ok (.invokevirtual 205, 3) := by decide +kernel
theorem dX7_suits_24 : decode cX7_suits 24 = .ok (.pop, 1) := by decide +kernel
theorem dX7_suits_25 : decode cX7_suits 25 = .ok (.iload_n 1, 1) := by decide +kernel
theorem dX7_suits_26 : decode cX7_suits 26 = .ok (.ireturn, 1) := by decide +kernel
def p_X7_suits (F : Nat) (x_now_arches : Int32) (x_now_cats : Int32) (x_now_hour : Int32) (x_ruling_size : Int32) (x_ruling_top : Int32) (f_now_place : Nat → Int32) (f_ruling_steps : Nat → Int32) (f_ruling_stack : Nat → Int32) (f_now_sag : Nat → Int32) (f_now_load : Nat → Int32) (f_now_joy : Nat → Int32) (f_now_grief : Nat → Int32) (f_now_bowl : Nat → Int32) (f_purrs : Nat → Int32) (x_heardNotes_size : Int32) (f_heardNotes_first : Nat → Int32) (f_heardNotes_second : Nat → Int32) (f_told_numbers : Nat → Int64) (Post : Int32 → (Int32 × (Nat → Int32) × (Nat → Int32) × Int32 × (Nat → Int64)) → Prop) : Prop := (p_X7_findPurrs F x_now_arches x_now_cats x_now_hour x_ruling_size x_ruling_top f_now_place f_ruling_steps f_ruling_stack f_now_sag f_now_load f_now_joy f_now_grief f_now_bowl f_purrs (fun (u_1 : (Int32 × (Nat → Int32) × (Nat → Int32))) => (p_X7_suitingCats F x_now_cats x_heardNotes_size f_heardNotes_first f_heardNotes_second f_now_grief u_1.2.2 f_now_place f_now_bowl f_now_joy (fun (r_5 : Int32) => (p_X3_anew F (fun (u_13 : Int32) => (p_J6_bitCount_0f7a4 F r_5 (fun (r_17 : Int32) => (p_X3_add F (r_17.toInt64) u_13 f_told_numbers (fun (u_21 : (Int32 × (Nat → Int64))) => (Post r_5 (u_1.1, u_1.2.1, u_1.2.2, u_21.1, u_21.2))))))))))))
set_option maxHeartbeats 4000000 in
set_option maxRecDepth 100000 in
theorem c_X7_suits (l : Launch) (D : va_G) (cT : Nat → ClassId) (F : Nat) (h : Nat) (w_text : Value) (q_told : Nat) (q_now : Nat) (w_before : Value) (w_trial : Value) (w_past : Value) (w_kept : Value) (w_feltNotes : Value) (q_heardNotes : Nat) (w_draws : Value) (q_purrs : Nat) (w_alone : Value) (w_nimbers : Value) (w_ways : Value) (q_ruling : Nat) (w_spare : Value) (q_now_load : Nat) (q_now_sag : Nat) (q_now_joy : Nat) (q_now_bowl : Nat) (q_now_grief : Nat) (q_now_place : Nat) (x_now_arches : Int32) (x_now_cats : Int32) (x_now_store : Int32) (x_now_hour : Int32) (x_now_drops : Int32) (q_ruling_steps : Nat) (q_ruling_stack : Nat) (x_ruling_size : Int32) (x_ruling_top : Int32) (x_ruling_open : Int32) (x_ruling_compared : Int32) (x_ruling_digits : Int32) (x_ruling_wantsThing : Int32) (f_now_place : Nat → Int32) (f_ruling_steps : Nat → Int32) (f_ruling_stack : Nat → Int32) (f_now_sag : Nat → Int32) (f_now_load : Nat → Int32) (f_now_joy : Nat → Int32) (f_now_grief : Nat → Int32) (f_now_bowl : Nat → Int32) (f_purrs : Nat → Int32) (q_heardNotes_first : Nat) (q_heardNotes_second : Nat) (x_heardNotes_most : Int32) (x_heardNotes_size : Int32) (f_heardNotes_first : Nat → Int32) (f_heardNotes_second : Nat → Int32) (q_told_numbers : Nat) (x_told_size : Int32) (f_told_numbers : Nat → Int64) (Post : Int32 → (Int32 × (Nat → Int32) × (Nat → Int32) × Int32 × (Nat → Int64)) → Prop) (hg : p_X7_suits F x_now_arches x_now_cats x_now_hour x_ruling_size x_ruling_top f_now_place f_ruling_steps f_ruling_stack f_now_sag f_now_load f_now_joy f_now_grief f_now_bowl f_purrs x_heardNotes_size f_heardNotes_first f_heardNotes_second f_told_numbers Post) : MWi l D cT yX7_suits cX7_suits 2 (some .int) 5 120 0 0 [.ref h] [(h, oX7 w_text (.ref q_told) (.ref q_now) w_before w_trial w_past w_kept w_feltNotes (.ref q_heardNotes) w_draws (.ref q_purrs) w_alone w_nimbers w_ways (.ref q_ruling) w_spare), (q_now, oX6 (.ref q_now_load) (.ref q_now_sag) (.ref q_now_joy) (.ref q_now_bowl) (.ref q_now_grief) (.ref q_now_place) (.int x_now_arches) (.int x_now_cats) (.int x_now_store) (.int x_now_hour) (.int x_now_drops)), (q_ruling, oX4 (.ref q_ruling_steps) (.ref q_ruling_stack) (.int x_ruling_size) (.int x_ruling_top) (.int x_ruling_open) (.int x_ruling_compared) (.int x_ruling_digits) (.int x_ruling_wantsThing)), (q_now_place, aI cT 8 f_now_place), (q_ruling_steps, aI cT 40 f_ruling_steps), (q_ruling_stack, aI cT 40 f_ruling_stack), (q_now_sag, aI cT 6 f_now_sag), (q_now_load, aI cT 6 f_now_load), (q_now_joy, aI cT 8 f_now_joy), (q_now_grief, aI cT 8 f_now_grief), (q_now_bowl, aI cT 8 f_now_bowl), (q_purrs, aI cT 8 f_purrs), (q_heardNotes, oX1 (.ref q_heardNotes_first) (.ref q_heardNotes_second) (.int x_heardNotes_most) (.int x_heardNotes_size)), (q_heardNotes_first, aI cT 12 f_heardNotes_first), (q_heardNotes_second, aI cT 12 f_heardNotes_second), (q_told, oX3 (.ref q_told_numbers) (.int x_told_size)), (q_told_numbers, aJ cT 8 f_told_numbers)] Post (fun (u : (Int32 × (Nat → Int32) × (Nat → Int32) × Int32 × (Nat → Int64))) => [(h, oX7 w_text (.ref q_told) (.ref q_now) w_before w_trial w_past w_kept w_feltNotes (.ref q_heardNotes) w_draws (.ref q_purrs) w_alone w_nimbers w_ways (.ref q_ruling) w_spare), (q_now, oX6 (.ref q_now_load) (.ref q_now_sag) (.ref q_now_joy) (.ref q_now_bowl) (.ref q_now_grief) (.ref q_now_place) (.int x_now_arches) (.int x_now_cats) (.int x_now_store) (.int x_now_hour) (.int x_now_drops)), (q_ruling, oX4 (.ref q_ruling_steps) (.ref q_ruling_stack) (.int x_ruling_size) (.int u.1) (.int x_ruling_open) (.int x_ruling_compared) (.int x_ruling_digits) (.int x_ruling_wantsThing)), (q_now_place, aI cT 8 f_now_place), (q_ruling_steps, aI cT 40 f_ruling_steps), (q_ruling_stack, aI cT 40 u.2.1), (q_now_sag, aI cT 6 f_now_sag), (q_now_load, aI cT 6 f_now_load), (q_now_joy, aI cT 8 f_now_joy), (q_now_grief, aI cT 8 f_now_grief), (q_now_bowl, aI cT 8 f_now_bowl), (q_purrs, aI cT 8 u.2.2.1), (q_heardNotes, oX1 (.ref q_heardNotes_first) (.ref q_heardNotes_second) (.int x_heardNotes_most) (.int x_heardNotes_size)), (q_heardNotes_first, aI cT 12 f_heardNotes_first), (q_heardNotes_second, aI cT 12 f_heardNotes_second), (q_told, oX3 (.ref q_told_numbers) (.int u.2.2.2.1)), (q_told_numbers, aJ cT 8 u.2.2.2.2)]) := by
  refine MWi.of (by decide) (Nat.le_of_ble_eq_true rfl) ?_
  intro p e s m below meth c A hA C0 hnm hr hP hD ls hl
  have hl : lv_has ls 2 [(0, .ref h)] := hl
  have hx := C0.x
  have hb := C0.b
  have hS : va_S A s.heap s.heap [] := va_S.rf
  have hP : va_P D cls9 [(h, oX7 w_text (.ref q_told) (.ref q_now) w_before w_trial w_past w_kept w_feltNotes (.ref q_heardNotes) w_draws (.ref q_purrs) w_alone w_nimbers w_ways (.ref q_ruling) w_spare), (q_now, oX6 (.ref q_now_load) (.ref q_now_sag) (.ref q_now_joy) (.ref q_now_bowl) (.ref q_now_grief) (.ref q_now_place) (.int x_now_arches) (.int x_now_cats) (.int x_now_store) (.int x_now_hour) (.int x_now_drops)), (q_ruling, oX4 (.ref q_ruling_steps) (.ref q_ruling_stack) (.int x_ruling_size) (.int x_ruling_top) (.int x_ruling_open) (.int x_ruling_compared) (.int x_ruling_digits) (.int x_ruling_wantsThing)), (q_now_place, aI cT 8 f_now_place), (q_ruling_steps, aI cT 40 f_ruling_steps), (q_ruling_stack, aI cT 40 f_ruling_stack), (q_now_sag, aI cT 6 f_now_sag), (q_now_load, aI cT 6 f_now_load), (q_now_joy, aI cT 8 f_now_joy), (q_now_grief, aI cT 8 f_now_grief), (q_now_bowl, aI cT 8 f_now_bowl), (q_purrs, aI cT 8 f_purrs), (q_heardNotes, oX1 (.ref q_heardNotes_first) (.ref q_heardNotes_second) (.int x_heardNotes_most) (.int x_heardNotes_size)), (q_heardNotes_first, aI cT 12 f_heardNotes_first), (q_heardNotes_second, aI cT 12 f_heardNotes_second), (q_told, oX3 (.ref q_told_numbers) (.int x_told_size)), (q_told_numbers, aJ cT 8 f_told_numbers)] s.heap := hP
  have hD : va_D A [(h, oX7 w_text (.ref q_told) (.ref q_now) w_before w_trial w_past w_kept w_feltNotes (.ref q_heardNotes) w_draws (.ref q_purrs) w_alone w_nimbers w_ways (.ref q_ruling) w_spare), (q_now, oX6 (.ref q_now_load) (.ref q_now_sag) (.ref q_now_joy) (.ref q_now_bowl) (.ref q_now_grief) (.ref q_now_place) (.int x_now_arches) (.int x_now_cats) (.int x_now_store) (.int x_now_hour) (.int x_now_drops)), (q_ruling, oX4 (.ref q_ruling_steps) (.ref q_ruling_stack) (.int x_ruling_size) (.int x_ruling_top) (.int x_ruling_open) (.int x_ruling_compared) (.int x_ruling_digits) (.int x_ruling_wantsThing)), (q_now_place, aI cT 8 f_now_place), (q_ruling_steps, aI cT 40 f_ruling_steps), (q_ruling_stack, aI cT 40 f_ruling_stack), (q_now_sag, aI cT 6 f_now_sag), (q_now_load, aI cT 6 f_now_load), (q_now_joy, aI cT 8 f_now_joy), (q_now_grief, aI cT 8 f_now_grief), (q_now_bowl, aI cT 8 f_now_bowl), (q_purrs, aI cT 8 f_purrs), (q_heardNotes, oX1 (.ref q_heardNotes_first) (.ref q_heardNotes_second) (.int x_heardNotes_most) (.int x_heardNotes_size)), (q_heardNotes_first, aI cT 12 f_heardNotes_first), (q_heardNotes_second, aI cT 12 f_heardNotes_second), (q_told, oX3 (.ref q_told_numbers) (.int x_told_size)), (q_told_numbers, aJ cT 8 f_told_numbers)] := hD
  unfold p_X7_suits at hg
  refine lv_aload_n hx hb dX7_suits_0 rfl (lv_at hl 0 rfl) ?_
  refine k_Vv (rest := []) (wr := [(q_heardNotes, oX1 (.ref q_heardNotes_first) (.ref q_heardNotes_second) (.int x_heardNotes_most) (.int x_heardNotes_size)), (q_heardNotes_first, aI cT 12 f_heardNotes_first), (q_heardNotes_second, aI cT 12 f_heardNotes_second), (q_told, oX3 (.ref q_told_numbers) (.int x_told_size)), (q_told_numbers, aJ cT 8 f_told_numbers)]) (w2 := fun u_1 => [(q_heardNotes, oX1 (.ref q_heardNotes_first) (.ref q_heardNotes_second) (.int x_heardNotes_most) (.int x_heardNotes_size)), (q_heardNotes_first, aI cT 12 f_heardNotes_first), (q_heardNotes_second, aI cT 12 f_heardNotes_second), (q_told, oX3 (.ref q_told_numbers) (.int x_told_size)), (q_told_numbers, aJ cT 8 f_told_numbers), (h, oX7 w_text (.ref q_told) (.ref q_now) w_before w_trial w_past w_kept w_feltNotes (.ref q_heardNotes) w_draws (.ref q_purrs) w_alone w_nimbers w_ways (.ref q_ruling) w_spare), (q_now, oX6 (.ref q_now_load) (.ref q_now_sag) (.ref q_now_joy) (.ref q_now_bowl) (.ref q_now_grief) (.ref q_now_place) (.int x_now_arches) (.int x_now_cats) (.int x_now_store) (.int x_now_hour) (.int x_now_drops)), (q_ruling, oX4 (.ref q_ruling_steps) (.ref q_ruling_stack) (.int x_ruling_size) (.int u_1.1) (.int x_ruling_open) (.int x_ruling_compared) (.int x_ruling_digits) (.int x_ruling_wantsThing)), (q_now_place, aI cT 8 f_now_place), (q_ruling_steps, aI cT 40 f_ruling_steps), (q_ruling_stack, aI cT 40 u_1.2.1), (q_now_sag, aI cT 6 f_now_sag), (q_now_load, aI cT 6 f_now_load), (q_now_joy, aI cT 8 f_now_joy), (q_now_grief, aI cT 8 f_now_grief), (q_now_bowl, aI cT 8 f_now_bowl), (q_purrs, aI cT 8 u_1.2.2)]) C0 lk_X7_313 (c_X7_findPurrs l D cT F h w_text (.ref q_told) q_now w_before w_trial w_past w_kept w_feltNotes (.ref q_heardNotes) w_draws q_purrs w_alone w_nimbers w_ways q_ruling w_spare q_now_load q_now_sag q_now_joy q_now_bowl q_now_grief q_now_place x_now_arches x_now_cats x_now_store x_now_hour x_now_drops q_ruling_steps q_ruling_stack x_ruling_size x_ruling_top x_ruling_open x_ruling_compared x_ruling_digits x_ruling_wantsThing f_now_place f_ruling_steps f_ruling_stack f_now_sag f_now_load f_now_joy f_now_grief f_now_bowl f_purrs _ hg) hP hD hS hA [0, 1, 2, 3, 4, 5, 6, 7, 8, 9, 10, 11] [12, 13, 14, 15, 16] (by decide +kernel) rfl rfl (fun _ => rfl) rfl rfl ⟨Nat.le_of_ble_eq_true rfl, Nat.le_of_ble_eq_true rfl⟩ rfl hl.1 rfl (Nat.le_of_ble_eq_true rfl) dX7_suits_1 ⟨Nat.le_of_ble_eq_true rfl, Nat.le_of_ble_eq_true rfl⟩ ?_
  intro u_1 H locs hg hP hD hS
  refine lv_aload_n hx hb dX7_suits_4 rfl (lv_at hl 0 rfl) ?_
  refine k_Vxi (rest := []) C0 lk_X7_341 (c_X7_suitingCats l D cT F h w_text (.ref q_told) q_now w_before w_trial w_past w_kept w_feltNotes q_heardNotes w_draws q_purrs w_alone w_nimbers w_ways (.ref q_ruling) w_spare (.ref q_now_load) (.ref q_now_sag) q_now_joy q_now_bowl q_now_grief q_now_place x_now_arches x_now_cats x_now_store x_now_hour x_now_drops q_heardNotes_first q_heardNotes_second x_heardNotes_most x_heardNotes_size f_heardNotes_first f_heardNotes_second f_now_grief u_1.2.2 f_now_place f_now_bowl f_now_joy _ hg) hP hD hS hA [5, 6, 0, 1, 2, 14, 16, 8, 15, 13] (by decide +kernel) rfl rfl rfl ⟨Nat.le_of_ble_eq_true rfl, Nat.le_of_ble_eq_true rfl⟩ rfl hl.1 rfl (Nat.le_of_ble_eq_true rfl) dX7_suits_5 ⟨Nat.le_of_ble_eq_true rfl, Nat.le_of_ble_eq_true rfl⟩ (fun r_5 hg => ?_)
  refine lv_istore_n (lv' := [(1, .int r_5), (0, .ref h)]) hx hb dX7_suits_8 rfl hl (by decide) rfl (fun ls hl => ?_)
  refine lv_aload_n hx hb dX7_suits_9 rfl (lv_at hl 1 rfl) ?_
  refine gf_X7_19 C0 hP 5 rfl rfl dX7_suits_10 ?_
  refine k_Vr (rest := []) (wr := [(q_heardNotes, oX1 (.ref q_heardNotes_first) (.ref q_heardNotes_second) (.int x_heardNotes_most) (.int x_heardNotes_size)), (q_heardNotes_first, aI cT 12 f_heardNotes_first), (q_heardNotes_second, aI cT 12 f_heardNotes_second), (q_told_numbers, aJ cT 8 f_told_numbers), (h, oX7 w_text (.ref q_told) (.ref q_now) w_before w_trial w_past w_kept w_feltNotes (.ref q_heardNotes) w_draws (.ref q_purrs) w_alone w_nimbers w_ways (.ref q_ruling) w_spare), (q_now, oX6 (.ref q_now_load) (.ref q_now_sag) (.ref q_now_joy) (.ref q_now_bowl) (.ref q_now_grief) (.ref q_now_place) (.int x_now_arches) (.int x_now_cats) (.int x_now_store) (.int x_now_hour) (.int x_now_drops)), (q_ruling, oX4 (.ref q_ruling_steps) (.ref q_ruling_stack) (.int x_ruling_size) (.int u_1.1) (.int x_ruling_open) (.int x_ruling_compared) (.int x_ruling_digits) (.int x_ruling_wantsThing)), (q_now_place, aI cT 8 f_now_place), (q_ruling_steps, aI cT 40 f_ruling_steps), (q_ruling_stack, aI cT 40 u_1.2.1), (q_now_sag, aI cT 6 f_now_sag), (q_now_load, aI cT 6 f_now_load), (q_now_joy, aI cT 8 f_now_joy), (q_now_grief, aI cT 8 f_now_grief), (q_now_bowl, aI cT 8 f_now_bowl), (q_purrs, aI cT 8 u_1.2.2)]) (w2 := fun u_13 => [(q_heardNotes, oX1 (.ref q_heardNotes_first) (.ref q_heardNotes_second) (.int x_heardNotes_most) (.int x_heardNotes_size)), (q_heardNotes_first, aI cT 12 f_heardNotes_first), (q_heardNotes_second, aI cT 12 f_heardNotes_second), (q_told_numbers, aJ cT 8 f_told_numbers), (h, oX7 w_text (.ref q_told) (.ref q_now) w_before w_trial w_past w_kept w_feltNotes (.ref q_heardNotes) w_draws (.ref q_purrs) w_alone w_nimbers w_ways (.ref q_ruling) w_spare), (q_now, oX6 (.ref q_now_load) (.ref q_now_sag) (.ref q_now_joy) (.ref q_now_bowl) (.ref q_now_grief) (.ref q_now_place) (.int x_now_arches) (.int x_now_cats) (.int x_now_store) (.int x_now_hour) (.int x_now_drops)), (q_ruling, oX4 (.ref q_ruling_steps) (.ref q_ruling_stack) (.int x_ruling_size) (.int u_1.1) (.int x_ruling_open) (.int x_ruling_compared) (.int x_ruling_digits) (.int x_ruling_wantsThing)), (q_now_place, aI cT 8 f_now_place), (q_ruling_steps, aI cT 40 f_ruling_steps), (q_ruling_stack, aI cT 40 u_1.2.1), (q_now_sag, aI cT 6 f_now_sag), (q_now_load, aI cT 6 f_now_load), (q_now_joy, aI cT 8 f_now_joy), (q_now_grief, aI cT 8 f_now_grief), (q_now_bowl, aI cT 8 f_now_bowl), (q_purrs, aI cT 8 u_1.2.2), (q_told, oX3 (.ref q_told_numbers) (.int u_13))]) C0 lk_X7_201 (c_X3_anew l D cT F q_told (.ref q_told_numbers) x_told_size _ hg) hP hD hS hA [3] [0, 1, 2, 4, 5, 6, 7, 8, 9, 10, 11, 12, 13, 14, 15, 16] (by decide +kernel) rfl rfl (fun _ => rfl) rfl rfl ⟨Nat.le_of_ble_eq_true rfl, Nat.le_of_ble_eq_true rfl⟩ rfl hl.1 rfl (Nat.le_of_ble_eq_true rfl) dX7_suits_13 ⟨Nat.le_of_ble_eq_true rfl, Nat.le_of_ble_eq_true rfl⟩ ?_
  intro u_13 H locs hg hP hD hS
  refine lv_iload_n hx hb dX7_suits_16 rfl (lv_at hl 0 rfl) ?_
  refine k_Sxi (rest := [.ref q_told]) C0 lk_X7_253 (c_J6_bitCount_0f7a4 l D cT F r_5 _ hg) hP hD hS hA [] (by decide +kernel) rfl ⟨Nat.le_of_ble_eq_true rfl, Nat.le_of_ble_eq_true rfl⟩ rfl hl.1 rfl (Nat.le_of_ble_eq_true rfl) dX7_suits_17 ⟨Nat.le_of_ble_eq_true rfl, Nat.le_of_ble_eq_true rfl⟩ (fun r_17 hg => ?_)
  refine lv_i2l (v := (r_17.toInt64)) hx hb dX7_suits_20 rfl ?_
  refine k_Vr (rest := []) (wr := [(q_heardNotes, oX1 (.ref q_heardNotes_first) (.ref q_heardNotes_second) (.int x_heardNotes_most) (.int x_heardNotes_size)), (q_heardNotes_first, aI cT 12 f_heardNotes_first), (q_heardNotes_second, aI cT 12 f_heardNotes_second), (h, oX7 w_text (.ref q_told) (.ref q_now) w_before w_trial w_past w_kept w_feltNotes (.ref q_heardNotes) w_draws (.ref q_purrs) w_alone w_nimbers w_ways (.ref q_ruling) w_spare), (q_now, oX6 (.ref q_now_load) (.ref q_now_sag) (.ref q_now_joy) (.ref q_now_bowl) (.ref q_now_grief) (.ref q_now_place) (.int x_now_arches) (.int x_now_cats) (.int x_now_store) (.int x_now_hour) (.int x_now_drops)), (q_ruling, oX4 (.ref q_ruling_steps) (.ref q_ruling_stack) (.int x_ruling_size) (.int u_1.1) (.int x_ruling_open) (.int x_ruling_compared) (.int x_ruling_digits) (.int x_ruling_wantsThing)), (q_now_place, aI cT 8 f_now_place), (q_ruling_steps, aI cT 40 f_ruling_steps), (q_ruling_stack, aI cT 40 u_1.2.1), (q_now_sag, aI cT 6 f_now_sag), (q_now_load, aI cT 6 f_now_load), (q_now_joy, aI cT 8 f_now_joy), (q_now_grief, aI cT 8 f_now_grief), (q_now_bowl, aI cT 8 f_now_bowl), (q_purrs, aI cT 8 u_1.2.2)]) (w2 := fun u_21 => [(q_heardNotes, oX1 (.ref q_heardNotes_first) (.ref q_heardNotes_second) (.int x_heardNotes_most) (.int x_heardNotes_size)), (q_heardNotes_first, aI cT 12 f_heardNotes_first), (q_heardNotes_second, aI cT 12 f_heardNotes_second), (h, oX7 w_text (.ref q_told) (.ref q_now) w_before w_trial w_past w_kept w_feltNotes (.ref q_heardNotes) w_draws (.ref q_purrs) w_alone w_nimbers w_ways (.ref q_ruling) w_spare), (q_now, oX6 (.ref q_now_load) (.ref q_now_sag) (.ref q_now_joy) (.ref q_now_bowl) (.ref q_now_grief) (.ref q_now_place) (.int x_now_arches) (.int x_now_cats) (.int x_now_store) (.int x_now_hour) (.int x_now_drops)), (q_ruling, oX4 (.ref q_ruling_steps) (.ref q_ruling_stack) (.int x_ruling_size) (.int u_1.1) (.int x_ruling_open) (.int x_ruling_compared) (.int x_ruling_digits) (.int x_ruling_wantsThing)), (q_now_place, aI cT 8 f_now_place), (q_ruling_steps, aI cT 40 f_ruling_steps), (q_ruling_stack, aI cT 40 u_1.2.1), (q_now_sag, aI cT 6 f_now_sag), (q_now_load, aI cT 6 f_now_load), (q_now_joy, aI cT 8 f_now_joy), (q_now_grief, aI cT 8 f_now_grief), (q_now_bowl, aI cT 8 f_now_bowl), (q_purrs, aI cT 8 u_1.2.2), (q_told, oX3 (.ref q_told_numbers) (.int u_21.1)), (q_told_numbers, aJ cT 8 u_21.2)]) C0 lk_X7_205 (c_X3_add l D cT F q_told (r_17.toInt64) q_told_numbers u_13 f_told_numbers _ hg) hP hD hS hA [16, 3] [0, 1, 2, 4, 5, 6, 7, 8, 9, 10, 11, 12, 13, 14, 15] (by decide +kernel) rfl rfl (fun _ => rfl) rfl rfl ⟨Nat.le_of_ble_eq_true rfl, Nat.le_of_ble_eq_true rfl⟩ rfl hl.1 rfl (Nat.le_of_ble_eq_true rfl) dX7_suits_21 ⟨Nat.le_of_ble_eq_true rfl, Nat.le_of_ble_eq_true rfl⟩ ?_
  intro u_21 H locs hg hP hD hS
  refine lv_pop hx hb dX7_suits_24 rfl ?_
  refine lv_iload_n hx hb dX7_suits_25 rfl (lv_at hl 0 rfl) ?_
  exact k_iret C0 hr (u_1.1, u_1.2.1, u_1.2.2, u_21.1, u_21.2) hg (subP hP [3, 4, 5, 6, 7, 8, 9, 10, 11, 12, 13, 14, 0, 1, 2, 15, 16] rfl) (hD.sub [3, 4, 5, 6, 7, 8, 9, 10, 11, 12, 13, 14, 0, 1, 2, 15, 16] (nd2_ok _ (by decide +kernel)) rfl) hS dX7_suits_26
theorem dX7_asks_0 : decode cX7_asks 0 = .ok (.aload_n 0, 1) := by decide +kernel
theorem dX7_asks_1 : decode cX7_asks 1 = .ok (.invokevirtual 313, 3) := by decide +kernel
theorem dX7_asks_4 : decode cX7_asks 4 = .ok (.aload_n 0, 1) := by decide +kernel
theorem dX7_asks_5 : decode cX7_asks 5 = .ok (.invokevirtual 341, 3) := by decide +kernel
theorem dX7_asks_8 : decode cX7_asks 8 = .ok (.istore_n 1, 1) := by decide +kernel
theorem dX7_asks_9 : decode cX7_asks 9 = .ok (.iload_n 1, 1) := by decide +kernel
theorem dX7_asks_10 : decode cX7_asks 10 = .ok (.invokestatic 253, 3) := by decide +kernel
theorem dX7_asks_13 : decode cX7_asks 13 = .ok (.istore_n 2, 1) := by decide +kernel
theorem dX7_asks_14 : decode cX7_asks 14 = .ok (.bipush (-2), 2) := by decide +kernel
theorem dX7_asks_16 : decode cX7_asks 16 = .ok (.istore_n 3, 1) := by decide +kernel
theorem dX7_asks_17 : decode cX7_asks 17 = .ok (.iconst 0, 1) := by decide +kernel
theorem dX7_asks_18 : decode cX7_asks 18 = .ok (.istore 4, 2) := by decide +kernel
theorem dX7_asks_20 : decode cX7_asks 20 = .ok (.iconst 0, 1) := by decide +kernel
theorem dX7_asks_21 : decode cX7_asks 21 = .ok (.istore 5, 2) := by decide +kernel
theorem dX7_asks_23 : decode cX7_asks 23 = .ok (.iload 5, 2) := by decide +kernel
theorem dX7_asks_25 : decode cX7_asks 25 = .ok (.iconst 5, 1) := by decide +kernel
theorem dX7_asks_26 : decode cX7_asks 26 = .ok (.if_icmp .ge 84, 3) := by decide +kernel
theorem dX7_asks_29 : decode cX7_asks 29 = .ok (.iload_n 2, 1) := by decide +kernel
theorem dX7_asks_30 : decode cX7_asks 30 = .ok (.ifCond .le 80, 3) := by decide +kernel
theorem dX7_asks_33 : decode cX7_asks 33 = .ok (.iconst 0, 1) := by decide +kernel
theorem dX7_asks_34 : decode cX7_asks 34 = .ok (.istore 6, 2) := by decide +kernel
theorem dX7_asks_36 : decode cX7_asks 36 = .ok (.iload 6, 2) := by decide +kernel
theorem dX7_asks_38 : decode cX7_asks 38 = .ok (.iload 5, 2) := by decide +kernel
theorem dX7_asks_40 : decode cX7_asks 40 = .ok (.invokestatic 338, 3) := by decide +kernel
theorem dX7_asks_43 : decode cX7_asks 43 = .ok (.if_icmp .gt 61, 3) := by decide +kernel
theorem dX7_asks_46 : decode cX7_asks 46 = .ok (.iload_n 1, 1) := by decide +kernel
theorem dX7_asks_47 : decode cX7_asks 47 = .ok (.aload_n 0, 1) := by decide +kernel
theorem dX7_asks_48 : decode cX7_asks 48 = .ok (.iload 5, 2) := by decide +kernel
theorem dX7_asks_50 : decode cX7_asks 50 = .ok (.iload 6, 2) := by decide +kernel
theorem dX7_asks_52 : decode cX7_asks 52 = .ok (.invokevirtual 344, 3) := by decide +kernel
theorem dX7_asks_55 : decode cX7_asks 55 = .ok (.iand, 1) := by decide +kernel
theorem dX7_asks_56 : decode cX7_asks 56 = .ok (.invokestatic 253, 3) := by decide +kernel
theorem dX7_asks_59 : decode cX7_asks 59 = .ok (.istore 7, 2) := by decide +kernel
theorem dX7_asks_61 : decode cX7_asks 61 = .ok (.iload 7, 2) := by decide +kernel
theorem dX7_asks_63 : decode cX7_asks 63 = .ok (.iload_n 2, 1) := by decide +kernel
theorem dX7_asks_64 : decode cX7_asks 64 = .ok (.iload 7, 2) := by decide +kernel
theorem dX7_asks_66 : decode cX7_asks 66 = .ok (.isub, 1) := by decide +kernel
theorem dX7_asks_67 : decode cX7_asks 67 = .ok (.invokestatic 188, 3) := by decide +kernel
theorem dX7_asks_70 : decode cX7_asks 70 = .ok (.istore 8, 2) := by decide +kernel
theorem dX7_asks_72 : decode cX7_asks 72 = .ok (.iload_n 3, 1) := by decide +kernel
theorem dX7_asks_73 : decode cX7_asks 73 = .ok (.bipush (-2), 2) := by decide +kernel
theorem dX7_asks_75 : decode cX7_asks 75 = .ok (.if_icmp .eq 10, 3) := by decide +kernel
theorem dX7_asks_78 : decode cX7_asks 78 = .ok (.iload 8, 2) := by decide +kernel
theorem dX7_asks_80 : decode cX7_asks 80 = .ok (.iload 4, 2) := by decide +kernel
theorem dX7_asks_82 : decode cX7_asks 82 = .ok (.if_icmp .ge 16, 3) := by decide +kernel
theorem dX7_asks_85 : decode cX7_asks 85 = .ok (.bipush 10, 2) := by decide +kernel
theorem dX7_asks_87 : decode cX7_asks 87 = .ok (.iload 5, 2) := by decide +kernel
theorem dX7_asks_89 : decode cX7_asks 89 = .ok (.imul, 1) := by decide +kernel
theorem dX7_asks_90 : decode cX7_asks 90 = .ok (.iload 6, 2) := by decide +kernel
theorem dX7_asks_92 : decode cX7_asks 92 = .ok (.iadd, 1) := by decide +kernel
theorem dX7_asks_93 : decode cX7_asks 93 = .ok (.istore_n 3, 1) := by decide +kernel
theorem dX7_asks_94 : decode cX7_asks 94 = .ok (.iload 8, 2) := by decide +kernel
theorem dX7_asks_96 : decode cX7_asks 96 = .ok (.istore 4, 2) := by decide +kernel
theorem dX7_asks_98 : decode cX7_asks 98 = .ok (.iinc 6 1, 3) := by decide +kernel
theorem dX7_asks_101 : decode cX7_asks 101 = .ok (.goto (-65), 3) := by decide +kernel
theorem dX7_asks_104 : decode cX7_asks 104 = .ok (.iinc 5 1, 3) := by decide +kernel
theorem dX7_asks_107 : decode cX7_asks 107 = .ok (.goto (-84), 3) := by decide +kernel
theorem dX7_asks_110 : decode cX7_asks 110 = .ok (.aload_n 0, 1) := by decide +kernel
theorem dX7_asks_111 : decode cX7_asks 111 = .ok (.iload_n 3, 1) := by decide +kernel
theorem dX7_asks_112 : decode cX7_asks 112 = .ok (.iload 4, 2) := by decide +kernel
theorem dX7_asks_114 : decode cX7_asks 114 = .ok (.invokevirtual 261, 3) := by decide +kernel
theorem dX7_asks_117 : decode cX7_asks 117 = .ok (.ireturn, 1) := by decide +kernel
def p_X7_asks_110 (F : Nat) (x_told_size : Int32) (f_told_numbers : Nat → Int64) (u_1 : (Int32 × (Nat → Int32) × (Nat → Int32))) (y4_23 : Int32) (y3_23 : Int32) (Post : Int32 → (Int32 × (Nat → Int32) × (Nat → Int32) × Int32 × (Nat → Int64)) → Prop) : Prop := (p_X7_toldIfFound F y3_23 y4_23 x_told_size f_told_numbers (fun (r_114 : Int32) (u_114 : (Int32 × (Nat → Int64))) => (Post r_114 (u_1.1, u_1.2.1, u_1.2.2, u_114.1, u_114.2))))
def p_X7_asks_98 (F : Nat) (y6_36 : Int32) (k23 : Int32 → Int32 → Int32 → Prop) (k36 : Int32 → Int32 → Int32 → Prop) (Post : Int32 → (Int32 × (Nat → Int32) × (Nat → Int32) × Int32 × (Nat → Int64)) → Prop) (y3_98 : Int32) (y4_98 : Int32) : Prop := (k36 (y6_36 + (1 : Int32)) y3_98 y4_98)
def p_X7_asks_85 (F : Nat) (r_10 : Int32) (r_56 : Int32) (y5_23 : Int32) (y6_36 : Int32) (k23 : Int32 → Int32 → Int32 → Prop) (k36 : Int32 → Int32 → Int32 → Prop) (Post : Int32 → (Int32 × (Nat → Int32) × (Nat → Int32) × Int32 × (Nat → Int64)) → Prop) : Prop := (p_X7_asks_98 F y6_36 k23 k36 Post (((10 : Int32) * y5_23) + y6_36) (if r_56 < (r_10 - r_56) then (r_10 - r_56) else r_56))
noncomputable def p_X7_asks_36 (F : Nat) (x_now_cats : Int32) (f_now_place : Nat → Int32) (f_now_joy : Nat → Int32) (f_now_grief : Nat → Int32) (f_now_bowl : Nat → Int32) (u_1 : (Int32 × (Nat → Int32) × (Nat → Int32))) (r_5 : Int32) (r_10 : Int32) (y5_23 : Int32) (k23 : Int32 → Int32 → Int32 → Prop) (Post : Int32 → (Int32 × (Nat → Int32) × (Nat → Int32) × Int32 × (Nat → Int64)) → Prop) (n : Nat) : Int32 → Int32 → Int32 → Prop := Nat.rec (motive := fun _ => Int32 → Int32 → Int32 → Prop) (fun _ _ _ => False) (fun _ k36 => fun (y6_36 : Int32) (y3_36 : Int32) (y4_36 : Int32) => (p_X7_highestHeard F y5_23 (fun (r_40 : Int32) => ((r_40 < y6_36 → (k23 (y5_23 + (1 : Int32)) y4_36 y3_36)) ∧ (¬ r_40 < y6_36 → (p_X7_catsOfWhom F y5_23 y6_36 x_now_cats f_now_grief u_1.2.2 f_now_place f_now_bowl f_now_joy (fun (r_52 : Int32) => (p_J6_bitCount_0f7a4 F (r_5 &&& r_52) (fun (r_56 : Int32) => ((y3_36 = (-2 : Int32) → (p_X7_asks_85 F r_10 r_56 y5_23 y6_36 k23 k36 Post )) ∧ (¬ y3_36 = (-2 : Int32) → ((y4_36 ≤ (if r_56 < (r_10 - r_56) then (r_10 - r_56) else r_56) → (p_X7_asks_98 F y6_36 k23 k36 Post y3_36 y4_36)) ∧ (¬ y4_36 ≤ (if r_56 < (r_10 - r_56) then (r_10 - r_56) else r_56) → (p_X7_asks_85 F r_10 r_56 y5_23 y6_36 k23 k36 Post )))))))))))))) n
theorem p_X7_asks_36_s (F : Nat) (x_now_cats : Int32) (f_now_place : Nat → Int32) (f_now_joy : Nat → Int32) (f_now_grief : Nat → Int32) (f_now_bowl : Nat → Int32) (u_1 : (Int32 × (Nat → Int32) × (Nat → Int32))) (r_5 : Int32) (r_10 : Int32) (y5_23 : Int32) (k23 : Int32 → Int32 → Int32 → Prop) (Post : Int32 → (Int32 × (Nat → Int32) × (Nat → Int32) × Int32 × (Nat → Int64)) → Prop) (n : Nat) (y6_36 : Int32) (y3_36 : Int32) (y4_36 : Int32) : p_X7_asks_36 F x_now_cats f_now_place f_now_joy f_now_grief f_now_bowl u_1 r_5 r_10 y5_23 k23 Post (n + 1) y6_36 y3_36 y4_36 = (p_X7_highestHeard F y5_23 (fun (r_40 : Int32) => ((r_40 < y6_36 → (k23 (y5_23 + (1 : Int32)) y4_36 y3_36)) ∧ (¬ r_40 < y6_36 → (p_X7_catsOfWhom F y5_23 y6_36 x_now_cats f_now_grief u_1.2.2 f_now_place f_now_bowl f_now_joy (fun (r_52 : Int32) => (p_J6_bitCount_0f7a4 F (r_5 &&& r_52) (fun (r_56 : Int32) => ((y3_36 = (-2 : Int32) → (p_X7_asks_85 F r_10 r_56 y5_23 y6_36 k23 (p_X7_asks_36 F x_now_cats f_now_place f_now_joy f_now_grief f_now_bowl u_1 r_5 r_10 y5_23 k23 Post n) Post )) ∧ (¬ y3_36 = (-2 : Int32) → ((y4_36 ≤ (if r_56 < (r_10 - r_56) then (r_10 - r_56) else r_56) → (p_X7_asks_98 F y6_36 k23 (p_X7_asks_36 F x_now_cats f_now_place f_now_joy f_now_grief f_now_bowl u_1 r_5 r_10 y5_23 k23 Post n) Post y3_36 y4_36)) ∧ (¬ y4_36 ≤ (if r_56 < (r_10 - r_56) then (r_10 - r_56) else r_56) → (p_X7_asks_85 F r_10 r_56 y5_23 y6_36 k23 (p_X7_asks_36 F x_now_cats f_now_place f_now_joy f_now_grief f_now_bowl u_1 r_5 r_10 y5_23 k23 Post n) Post ))))))))))))) := rfl
noncomputable def p_X7_asks_23 (F : Nat) (x_now_cats : Int32) (f_now_place : Nat → Int32) (f_now_joy : Nat → Int32) (f_now_grief : Nat → Int32) (f_now_bowl : Nat → Int32) (x_told_size : Int32) (f_told_numbers : Nat → Int64) (u_1 : (Int32 × (Nat → Int32) × (Nat → Int32))) (r_5 : Int32) (r_10 : Int32) (Post : Int32 → (Int32 × (Nat → Int32) × (Nat → Int32) × Int32 × (Nat → Int64)) → Prop) (n : Nat) : Int32 → Int32 → Int32 → Prop := Nat.rec (motive := fun _ => Int32 → Int32 → Int32 → Prop) (fun _ _ _ => False) (fun _ k23 => fun (y5_23 : Int32) (y4_23 : Int32) (y3_23 : Int32) => (((5 : Int32) ≤ y5_23 → (p_X7_asks_110 F x_told_size f_told_numbers u_1 y4_23 y3_23 Post )) ∧ (¬ (5 : Int32) ≤ y5_23 → ((r_10 ≤ 0 → (p_X7_asks_110 F x_told_size f_told_numbers u_1 y4_23 y3_23 Post )) ∧ (¬ r_10 ≤ 0 → (p_X7_asks_36 F x_now_cats f_now_place f_now_joy f_now_grief f_now_bowl u_1 r_5 r_10 y5_23 k23 Post F (0 : Int32) y3_23 y4_23)))))) n
theorem p_X7_asks_23_s (F : Nat) (x_now_cats : Int32) (f_now_place : Nat → Int32) (f_now_joy : Nat → Int32) (f_now_grief : Nat → Int32) (f_now_bowl : Nat → Int32) (x_told_size : Int32) (f_told_numbers : Nat → Int64) (u_1 : (Int32 × (Nat → Int32) × (Nat → Int32))) (r_5 : Int32) (r_10 : Int32) (Post : Int32 → (Int32 × (Nat → Int32) × (Nat → Int32) × Int32 × (Nat → Int64)) → Prop) (n : Nat) (y5_23 : Int32) (y4_23 : Int32) (y3_23 : Int32) : p_X7_asks_23 F x_now_cats f_now_place f_now_joy f_now_grief f_now_bowl x_told_size f_told_numbers u_1 r_5 r_10 Post (n + 1) y5_23 y4_23 y3_23 = (((5 : Int32) ≤ y5_23 → (p_X7_asks_110 F x_told_size f_told_numbers u_1 y4_23 y3_23 Post )) ∧ (¬ (5 : Int32) ≤ y5_23 → ((r_10 ≤ 0 → (p_X7_asks_110 F x_told_size f_told_numbers u_1 y4_23 y3_23 Post )) ∧ (¬ r_10 ≤ 0 → (p_X7_asks_36 F x_now_cats f_now_place f_now_joy f_now_grief f_now_bowl u_1 r_5 r_10 y5_23 (p_X7_asks_23 F x_now_cats f_now_place f_now_joy f_now_grief f_now_bowl x_told_size f_told_numbers u_1 r_5 r_10 Post n) Post F (0 : Int32) y3_23 y4_23))))) := rfl
def p_X7_asks (F : Nat) (x_now_arches : Int32) (x_now_cats : Int32) (x_now_hour : Int32) (x_ruling_size : Int32) (x_ruling_top : Int32) (f_now_place : Nat → Int32) (f_ruling_steps : Nat → Int32) (f_ruling_stack : Nat → Int32) (f_now_sag : Nat → Int32) (f_now_load : Nat → Int32) (f_now_joy : Nat → Int32) (f_now_grief : Nat → Int32) (f_now_bowl : Nat → Int32) (f_purrs : Nat → Int32) (x_heardNotes_size : Int32) (f_heardNotes_first : Nat → Int32) (f_heardNotes_second : Nat → Int32) (x_told_size : Int32) (f_told_numbers : Nat → Int64) (Post : Int32 → (Int32 × (Nat → Int32) × (Nat → Int32) × Int32 × (Nat → Int64)) → Prop) : Prop := (p_X7_findPurrs F x_now_arches x_now_cats x_now_hour x_ruling_size x_ruling_top f_now_place f_ruling_steps f_ruling_stack f_now_sag f_now_load f_now_joy f_now_grief f_now_bowl f_purrs (fun (u_1 : (Int32 × (Nat → Int32) × (Nat → Int32))) => (p_X7_suitingCats F x_now_cats x_heardNotes_size f_heardNotes_first f_heardNotes_second f_now_grief u_1.2.2 f_now_place f_now_bowl f_now_joy (fun (r_5 : Int32) => (p_J6_bitCount_0f7a4 F r_5 (fun (r_10 : Int32) => (p_X7_asks_23 F x_now_cats f_now_place f_now_joy f_now_grief f_now_bowl x_told_size f_told_numbers u_1 r_5 r_10 Post F (0 : Int32) (0 : Int32) (-2 : Int32))))))))
set_option maxHeartbeats 4000000 in
set_option maxRecDepth 100000 in
theorem c_X7_asks (l : Launch) (D : va_G) (cT : Nat → ClassId) (F : Nat) (h : Nat) (w_text : Value) (q_told : Nat) (q_now : Nat) (w_before : Value) (w_trial : Value) (w_past : Value) (w_kept : Value) (w_feltNotes : Value) (q_heardNotes : Nat) (w_draws : Value) (q_purrs : Nat) (w_alone : Value) (w_nimbers : Value) (w_ways : Value) (q_ruling : Nat) (w_spare : Value) (q_now_load : Nat) (q_now_sag : Nat) (q_now_joy : Nat) (q_now_bowl : Nat) (q_now_grief : Nat) (q_now_place : Nat) (x_now_arches : Int32) (x_now_cats : Int32) (x_now_store : Int32) (x_now_hour : Int32) (x_now_drops : Int32) (q_ruling_steps : Nat) (q_ruling_stack : Nat) (x_ruling_size : Int32) (x_ruling_top : Int32) (x_ruling_open : Int32) (x_ruling_compared : Int32) (x_ruling_digits : Int32) (x_ruling_wantsThing : Int32) (f_now_place : Nat → Int32) (f_ruling_steps : Nat → Int32) (f_ruling_stack : Nat → Int32) (f_now_sag : Nat → Int32) (f_now_load : Nat → Int32) (f_now_joy : Nat → Int32) (f_now_grief : Nat → Int32) (f_now_bowl : Nat → Int32) (f_purrs : Nat → Int32) (q_heardNotes_first : Nat) (q_heardNotes_second : Nat) (x_heardNotes_most : Int32) (x_heardNotes_size : Int32) (f_heardNotes_first : Nat → Int32) (f_heardNotes_second : Nat → Int32) (q_told_numbers : Nat) (x_told_size : Int32) (f_told_numbers : Nat → Int64) (Post : Int32 → (Int32 × (Nat → Int32) × (Nat → Int32) × Int32 × (Nat → Int64)) → Prop) (hg : p_X7_asks F x_now_arches x_now_cats x_now_hour x_ruling_size x_ruling_top f_now_place f_ruling_steps f_ruling_stack f_now_sag f_now_load f_now_joy f_now_grief f_now_bowl f_purrs x_heardNotes_size f_heardNotes_first f_heardNotes_second x_told_size f_told_numbers Post) : MWi l D cT yX7_asks cX7_asks 9 (some .int) 5 120 0 0 [.ref h] [(h, oX7 w_text (.ref q_told) (.ref q_now) w_before w_trial w_past w_kept w_feltNotes (.ref q_heardNotes) w_draws (.ref q_purrs) w_alone w_nimbers w_ways (.ref q_ruling) w_spare), (q_now, oX6 (.ref q_now_load) (.ref q_now_sag) (.ref q_now_joy) (.ref q_now_bowl) (.ref q_now_grief) (.ref q_now_place) (.int x_now_arches) (.int x_now_cats) (.int x_now_store) (.int x_now_hour) (.int x_now_drops)), (q_ruling, oX4 (.ref q_ruling_steps) (.ref q_ruling_stack) (.int x_ruling_size) (.int x_ruling_top) (.int x_ruling_open) (.int x_ruling_compared) (.int x_ruling_digits) (.int x_ruling_wantsThing)), (q_now_place, aI cT 8 f_now_place), (q_ruling_steps, aI cT 40 f_ruling_steps), (q_ruling_stack, aI cT 40 f_ruling_stack), (q_now_sag, aI cT 6 f_now_sag), (q_now_load, aI cT 6 f_now_load), (q_now_joy, aI cT 8 f_now_joy), (q_now_grief, aI cT 8 f_now_grief), (q_now_bowl, aI cT 8 f_now_bowl), (q_purrs, aI cT 8 f_purrs), (q_heardNotes, oX1 (.ref q_heardNotes_first) (.ref q_heardNotes_second) (.int x_heardNotes_most) (.int x_heardNotes_size)), (q_heardNotes_first, aI cT 12 f_heardNotes_first), (q_heardNotes_second, aI cT 12 f_heardNotes_second), (q_told, oX3 (.ref q_told_numbers) (.int x_told_size)), (q_told_numbers, aJ cT 8 f_told_numbers)] Post (fun (u : (Int32 × (Nat → Int32) × (Nat → Int32) × Int32 × (Nat → Int64))) => [(h, oX7 w_text (.ref q_told) (.ref q_now) w_before w_trial w_past w_kept w_feltNotes (.ref q_heardNotes) w_draws (.ref q_purrs) w_alone w_nimbers w_ways (.ref q_ruling) w_spare), (q_now, oX6 (.ref q_now_load) (.ref q_now_sag) (.ref q_now_joy) (.ref q_now_bowl) (.ref q_now_grief) (.ref q_now_place) (.int x_now_arches) (.int x_now_cats) (.int x_now_store) (.int x_now_hour) (.int x_now_drops)), (q_ruling, oX4 (.ref q_ruling_steps) (.ref q_ruling_stack) (.int x_ruling_size) (.int u.1) (.int x_ruling_open) (.int x_ruling_compared) (.int x_ruling_digits) (.int x_ruling_wantsThing)), (q_now_place, aI cT 8 f_now_place), (q_ruling_steps, aI cT 40 f_ruling_steps), (q_ruling_stack, aI cT 40 u.2.1), (q_now_sag, aI cT 6 f_now_sag), (q_now_load, aI cT 6 f_now_load), (q_now_joy, aI cT 8 f_now_joy), (q_now_grief, aI cT 8 f_now_grief), (q_now_bowl, aI cT 8 f_now_bowl), (q_purrs, aI cT 8 u.2.2.1), (q_heardNotes, oX1 (.ref q_heardNotes_first) (.ref q_heardNotes_second) (.int x_heardNotes_most) (.int x_heardNotes_size)), (q_heardNotes_first, aI cT 12 f_heardNotes_first), (q_heardNotes_second, aI cT 12 f_heardNotes_second), (q_told, oX3 (.ref q_told_numbers) (.int u.2.2.2.1)), (q_told_numbers, aJ cT 8 u.2.2.2.2)]) := by
  refine MWi.of (by decide) (Nat.le_of_ble_eq_true rfl) ?_
  intro p e s m below meth c A hA C0 hnm hr hP hD ls hl
  have hl : lv_has ls 9 [(0, .ref h)] := hl
  have hx := C0.x
  have hb := C0.b
  have hS : va_S A s.heap s.heap [] := va_S.rf
  have hP : va_P D cls9 [(h, oX7 w_text (.ref q_told) (.ref q_now) w_before w_trial w_past w_kept w_feltNotes (.ref q_heardNotes) w_draws (.ref q_purrs) w_alone w_nimbers w_ways (.ref q_ruling) w_spare), (q_now, oX6 (.ref q_now_load) (.ref q_now_sag) (.ref q_now_joy) (.ref q_now_bowl) (.ref q_now_grief) (.ref q_now_place) (.int x_now_arches) (.int x_now_cats) (.int x_now_store) (.int x_now_hour) (.int x_now_drops)), (q_ruling, oX4 (.ref q_ruling_steps) (.ref q_ruling_stack) (.int x_ruling_size) (.int x_ruling_top) (.int x_ruling_open) (.int x_ruling_compared) (.int x_ruling_digits) (.int x_ruling_wantsThing)), (q_now_place, aI cT 8 f_now_place), (q_ruling_steps, aI cT 40 f_ruling_steps), (q_ruling_stack, aI cT 40 f_ruling_stack), (q_now_sag, aI cT 6 f_now_sag), (q_now_load, aI cT 6 f_now_load), (q_now_joy, aI cT 8 f_now_joy), (q_now_grief, aI cT 8 f_now_grief), (q_now_bowl, aI cT 8 f_now_bowl), (q_purrs, aI cT 8 f_purrs), (q_heardNotes, oX1 (.ref q_heardNotes_first) (.ref q_heardNotes_second) (.int x_heardNotes_most) (.int x_heardNotes_size)), (q_heardNotes_first, aI cT 12 f_heardNotes_first), (q_heardNotes_second, aI cT 12 f_heardNotes_second), (q_told, oX3 (.ref q_told_numbers) (.int x_told_size)), (q_told_numbers, aJ cT 8 f_told_numbers)] s.heap := hP
  have hD : va_D A [(h, oX7 w_text (.ref q_told) (.ref q_now) w_before w_trial w_past w_kept w_feltNotes (.ref q_heardNotes) w_draws (.ref q_purrs) w_alone w_nimbers w_ways (.ref q_ruling) w_spare), (q_now, oX6 (.ref q_now_load) (.ref q_now_sag) (.ref q_now_joy) (.ref q_now_bowl) (.ref q_now_grief) (.ref q_now_place) (.int x_now_arches) (.int x_now_cats) (.int x_now_store) (.int x_now_hour) (.int x_now_drops)), (q_ruling, oX4 (.ref q_ruling_steps) (.ref q_ruling_stack) (.int x_ruling_size) (.int x_ruling_top) (.int x_ruling_open) (.int x_ruling_compared) (.int x_ruling_digits) (.int x_ruling_wantsThing)), (q_now_place, aI cT 8 f_now_place), (q_ruling_steps, aI cT 40 f_ruling_steps), (q_ruling_stack, aI cT 40 f_ruling_stack), (q_now_sag, aI cT 6 f_now_sag), (q_now_load, aI cT 6 f_now_load), (q_now_joy, aI cT 8 f_now_joy), (q_now_grief, aI cT 8 f_now_grief), (q_now_bowl, aI cT 8 f_now_bowl), (q_purrs, aI cT 8 f_purrs), (q_heardNotes, oX1 (.ref q_heardNotes_first) (.ref q_heardNotes_second) (.int x_heardNotes_most) (.int x_heardNotes_size)), (q_heardNotes_first, aI cT 12 f_heardNotes_first), (q_heardNotes_second, aI cT 12 f_heardNotes_second), (q_told, oX3 (.ref q_told_numbers) (.int x_told_size)), (q_told_numbers, aJ cT 8 f_told_numbers)] := hD
  have L110 : ∀ (u_1 : (Int32 × (Nat → Int32) × (Nat → Int32))) (y4_23 : Int32) (y3_23 : Int32) (H : Heap) (locs : List Loc) (ls : Array Slot), p_X7_asks_110 F x_told_size f_told_numbers u_1 y4_23 y3_23 Post → va_P D cls9 [(h, oX7 w_text (.ref q_told) (.ref q_now) w_before w_trial w_past w_kept w_feltNotes (.ref q_heardNotes) w_draws (.ref q_purrs) w_alone w_nimbers w_ways (.ref q_ruling) w_spare), (q_now, oX6 (.ref q_now_load) (.ref q_now_sag) (.ref q_now_joy) (.ref q_now_bowl) (.ref q_now_grief) (.ref q_now_place) (.int x_now_arches) (.int x_now_cats) (.int x_now_store) (.int x_now_hour) (.int x_now_drops)), (q_ruling, oX4 (.ref q_ruling_steps) (.ref q_ruling_stack) (.int x_ruling_size) (.int u_1.1) (.int x_ruling_open) (.int x_ruling_compared) (.int x_ruling_digits) (.int x_ruling_wantsThing)), (q_now_place, aI cT 8 f_now_place), (q_ruling_steps, aI cT 40 f_ruling_steps), (q_ruling_stack, aI cT 40 u_1.2.1), (q_now_sag, aI cT 6 f_now_sag), (q_now_load, aI cT 6 f_now_load), (q_now_joy, aI cT 8 f_now_joy), (q_now_grief, aI cT 8 f_now_grief), (q_now_bowl, aI cT 8 f_now_bowl), (q_purrs, aI cT 8 u_1.2.2), (q_heardNotes, oX1 (.ref q_heardNotes_first) (.ref q_heardNotes_second) (.int x_heardNotes_most) (.int x_heardNotes_size)), (q_heardNotes_first, aI cT 12 f_heardNotes_first), (q_heardNotes_second, aI cT 12 f_heardNotes_second), (q_told, oX3 (.ref q_told_numbers) (.int x_told_size)), (q_told_numbers, aJ cT 8 f_told_numbers)] H → va_D A [(h, oX7 w_text (.ref q_told) (.ref q_now) w_before w_trial w_past w_kept w_feltNotes (.ref q_heardNotes) w_draws (.ref q_purrs) w_alone w_nimbers w_ways (.ref q_ruling) w_spare), (q_now, oX6 (.ref q_now_load) (.ref q_now_sag) (.ref q_now_joy) (.ref q_now_bowl) (.ref q_now_grief) (.ref q_now_place) (.int x_now_arches) (.int x_now_cats) (.int x_now_store) (.int x_now_hour) (.int x_now_drops)), (q_ruling, oX4 (.ref q_ruling_steps) (.ref q_ruling_stack) (.int x_ruling_size) (.int u_1.1) (.int x_ruling_open) (.int x_ruling_compared) (.int x_ruling_digits) (.int x_ruling_wantsThing)), (q_now_place, aI cT 8 f_now_place), (q_ruling_steps, aI cT 40 f_ruling_steps), (q_ruling_stack, aI cT 40 u_1.2.1), (q_now_sag, aI cT 6 f_now_sag), (q_now_load, aI cT 6 f_now_load), (q_now_joy, aI cT 8 f_now_joy), (q_now_grief, aI cT 8 f_now_grief), (q_now_bowl, aI cT 8 f_now_bowl), (q_purrs, aI cT 8 u_1.2.2), (q_heardNotes, oX1 (.ref q_heardNotes_first) (.ref q_heardNotes_second) (.int x_heardNotes_most) (.int x_heardNotes_size)), (q_heardNotes_first, aI cT 12 f_heardNotes_first), (q_heardNotes_second, aI cT 12 f_heardNotes_second), (q_told, oX3 (.ref q_told_numbers) (.int x_told_size)), (q_told_numbers, aJ cT 8 f_told_numbers)] → va_S A s.heap H locs → lv_has ls 9 [(0, .ref h), (3, .int y3_23), (4, .int y4_23)] → W p l e (rmO 5 120 0 0) s m ([.ref h] : List Value).toArray below meth c H locs 0 0 (MQ below (va_Qi Post (cB D A (fun (u : (Int32 × (Nat → Int32) × (Nat → Int32) × Int32 × (Nat → Int64))) => [(h, oX7 w_text (.ref q_told) (.ref q_now) w_before w_trial w_past w_kept w_feltNotes (.ref q_heardNotes) w_draws (.ref q_purrs) w_alone w_nimbers w_ways (.ref q_ruling) w_spare), (q_now, oX6 (.ref q_now_load) (.ref q_now_sag) (.ref q_now_joy) (.ref q_now_bowl) (.ref q_now_grief) (.ref q_now_place) (.int x_now_arches) (.int x_now_cats) (.int x_now_store) (.int x_now_hour) (.int x_now_drops)), (q_ruling, oX4 (.ref q_ruling_steps) (.ref q_ruling_stack) (.int x_ruling_size) (.int u.1) (.int x_ruling_open) (.int x_ruling_compared) (.int x_ruling_digits) (.int x_ruling_wantsThing)), (q_now_place, aI cT 8 f_now_place), (q_ruling_steps, aI cT 40 f_ruling_steps), (q_ruling_stack, aI cT 40 u.2.1), (q_now_sag, aI cT 6 f_now_sag), (q_now_load, aI cT 6 f_now_load), (q_now_joy, aI cT 8 f_now_joy), (q_now_grief, aI cT 8 f_now_grief), (q_now_bowl, aI cT 8 f_now_bowl), (q_purrs, aI cT 8 u.2.2.1), (q_heardNotes, oX1 (.ref q_heardNotes_first) (.ref q_heardNotes_second) (.int x_heardNotes_most) (.int x_heardNotes_size)), (q_heardNotes_first, aI cT 12 f_heardNotes_first), (q_heardNotes_second, aI cT 12 f_heardNotes_second), (q_told, oX3 (.ref q_told_numbers) (.int u.2.2.2.1)), (q_told_numbers, aJ cT 8 u.2.2.2.2)])) A) ([.ref h] : List Value).toArray s 0 0 A) (F0 m 110 ls []) := by
    intro u_1 y4_23 y3_23 H locs ls hg hP hD hS hl
    unfold p_X7_asks_110 at hg
    refine lv_aload_n hx hb dX7_asks_110 rfl (lv_at hl 0 rfl) ?_
    refine lv_iload_n hx hb dX7_asks_111 rfl (lv_at hl 1 rfl) ?_
    refine lv_iload hx hb dX7_asks_112 (lv_at hl 2 rfl) ?_
    refine k_Vi (rest := []) (wr := [(q_now, oX6 (.ref q_now_load) (.ref q_now_sag) (.ref q_now_joy) (.ref q_now_bowl) (.ref q_now_grief) (.ref q_now_place) (.int x_now_arches) (.int x_now_cats) (.int x_now_store) (.int x_now_hour) (.int x_now_drops)), (q_ruling, oX4 (.ref q_ruling_steps) (.ref q_ruling_stack) (.int x_ruling_size) (.int u_1.1) (.int x_ruling_open) (.int x_ruling_compared) (.int x_ruling_digits) (.int x_ruling_wantsThing)), (q_now_place, aI cT 8 f_now_place), (q_ruling_steps, aI cT 40 f_ruling_steps), (q_ruling_stack, aI cT 40 u_1.2.1), (q_now_sag, aI cT 6 f_now_sag), (q_now_load, aI cT 6 f_now_load), (q_now_joy, aI cT 8 f_now_joy), (q_now_grief, aI cT 8 f_now_grief), (q_now_bowl, aI cT 8 f_now_bowl), (q_purrs, aI cT 8 u_1.2.2), (q_heardNotes, oX1 (.ref q_heardNotes_first) (.ref q_heardNotes_second) (.int x_heardNotes_most) (.int x_heardNotes_size)), (q_heardNotes_first, aI cT 12 f_heardNotes_first), (q_heardNotes_second, aI cT 12 f_heardNotes_second)]) (w2 := fun u_114 => [(q_now, oX6 (.ref q_now_load) (.ref q_now_sag) (.ref q_now_joy) (.ref q_now_bowl) (.ref q_now_grief) (.ref q_now_place) (.int x_now_arches) (.int x_now_cats) (.int x_now_store) (.int x_now_hour) (.int x_now_drops)), (q_ruling, oX4 (.ref q_ruling_steps) (.ref q_ruling_stack) (.int x_ruling_size) (.int u_1.1) (.int x_ruling_open) (.int x_ruling_compared) (.int x_ruling_digits) (.int x_ruling_wantsThing)), (q_now_place, aI cT 8 f_now_place), (q_ruling_steps, aI cT 40 f_ruling_steps), (q_ruling_stack, aI cT 40 u_1.2.1), (q_now_sag, aI cT 6 f_now_sag), (q_now_load, aI cT 6 f_now_load), (q_now_joy, aI cT 8 f_now_joy), (q_now_grief, aI cT 8 f_now_grief), (q_now_bowl, aI cT 8 f_now_bowl), (q_purrs, aI cT 8 u_1.2.2), (q_heardNotes, oX1 (.ref q_heardNotes_first) (.ref q_heardNotes_second) (.int x_heardNotes_most) (.int x_heardNotes_size)), (q_heardNotes_first, aI cT 12 f_heardNotes_first), (q_heardNotes_second, aI cT 12 f_heardNotes_second), (h, oX7 w_text (.ref q_told) (.ref q_now) w_before w_trial w_past w_kept w_feltNotes (.ref q_heardNotes) w_draws (.ref q_purrs) w_alone w_nimbers w_ways (.ref q_ruling) w_spare), (q_told, oX3 (.ref q_told_numbers) (.int u_114.1)), (q_told_numbers, aJ cT 8 u_114.2)]) C0 lk_X7_261 (c_X7_toldIfFound l D cT F h y3_23 y4_23 w_text q_told (.ref q_now) w_before w_trial w_past w_kept w_feltNotes (.ref q_heardNotes) w_draws (.ref q_purrs) w_alone w_nimbers w_ways (.ref q_ruling) w_spare q_told_numbers x_told_size f_told_numbers _ hg) hP hD hS hA [0, 15, 16] [1, 2, 3, 4, 5, 6, 7, 8, 9, 10, 11, 12, 13, 14] (by decide +kernel) rfl rfl (fun _ => rfl) rfl rfl ⟨Nat.le_of_ble_eq_true rfl, Nat.le_of_ble_eq_true rfl⟩ rfl hl.1 rfl (Nat.le_of_ble_eq_true rfl) dX7_asks_114 ⟨Nat.le_of_ble_eq_true rfl, Nat.le_of_ble_eq_true rfl⟩ ?_
    intro r_114 u_114 H locs hg hP hD hS
    exact k_iret C0 hr (u_1.1, u_1.2.1, u_1.2.2, u_114.1, u_114.2) hg (subP hP [14, 0, 1, 2, 3, 4, 5, 6, 7, 8, 9, 10, 11, 12, 13, 15, 16] rfl) (hD.sub [14, 0, 1, 2, 3, 4, 5, 6, 7, 8, 9, 10, 11, 12, 13, 15, 16] (nd2_ok _ (by decide +kernel)) rfl) hS dX7_asks_117
  have L23 : ∀ (u_1 : (Int32 × (Nat → Int32) × (Nat → Int32))) (r_5 : Int32) (r_10 : Int32) (n23 : Nat) (y5_23 : Int32) (y4_23 : Int32) (y3_23 : Int32) (H : Heap) (locs : List Loc) (ls : Array Slot), p_X7_asks_23 F x_now_cats f_now_place f_now_joy f_now_grief f_now_bowl x_told_size f_told_numbers u_1 r_5 r_10 Post n23 y5_23 y4_23 y3_23 → va_P D cls9 [(h, oX7 w_text (.ref q_told) (.ref q_now) w_before w_trial w_past w_kept w_feltNotes (.ref q_heardNotes) w_draws (.ref q_purrs) w_alone w_nimbers w_ways (.ref q_ruling) w_spare), (q_now, oX6 (.ref q_now_load) (.ref q_now_sag) (.ref q_now_joy) (.ref q_now_bowl) (.ref q_now_grief) (.ref q_now_place) (.int x_now_arches) (.int x_now_cats) (.int x_now_store) (.int x_now_hour) (.int x_now_drops)), (q_ruling, oX4 (.ref q_ruling_steps) (.ref q_ruling_stack) (.int x_ruling_size) (.int u_1.1) (.int x_ruling_open) (.int x_ruling_compared) (.int x_ruling_digits) (.int x_ruling_wantsThing)), (q_now_place, aI cT 8 f_now_place), (q_ruling_steps, aI cT 40 f_ruling_steps), (q_ruling_stack, aI cT 40 u_1.2.1), (q_now_sag, aI cT 6 f_now_sag), (q_now_load, aI cT 6 f_now_load), (q_now_joy, aI cT 8 f_now_joy), (q_now_grief, aI cT 8 f_now_grief), (q_now_bowl, aI cT 8 f_now_bowl), (q_purrs, aI cT 8 u_1.2.2), (q_heardNotes, oX1 (.ref q_heardNotes_first) (.ref q_heardNotes_second) (.int x_heardNotes_most) (.int x_heardNotes_size)), (q_heardNotes_first, aI cT 12 f_heardNotes_first), (q_heardNotes_second, aI cT 12 f_heardNotes_second), (q_told, oX3 (.ref q_told_numbers) (.int x_told_size)), (q_told_numbers, aJ cT 8 f_told_numbers)] H → va_D A [(h, oX7 w_text (.ref q_told) (.ref q_now) w_before w_trial w_past w_kept w_feltNotes (.ref q_heardNotes) w_draws (.ref q_purrs) w_alone w_nimbers w_ways (.ref q_ruling) w_spare), (q_now, oX6 (.ref q_now_load) (.ref q_now_sag) (.ref q_now_joy) (.ref q_now_bowl) (.ref q_now_grief) (.ref q_now_place) (.int x_now_arches) (.int x_now_cats) (.int x_now_store) (.int x_now_hour) (.int x_now_drops)), (q_ruling, oX4 (.ref q_ruling_steps) (.ref q_ruling_stack) (.int x_ruling_size) (.int u_1.1) (.int x_ruling_open) (.int x_ruling_compared) (.int x_ruling_digits) (.int x_ruling_wantsThing)), (q_now_place, aI cT 8 f_now_place), (q_ruling_steps, aI cT 40 f_ruling_steps), (q_ruling_stack, aI cT 40 u_1.2.1), (q_now_sag, aI cT 6 f_now_sag), (q_now_load, aI cT 6 f_now_load), (q_now_joy, aI cT 8 f_now_joy), (q_now_grief, aI cT 8 f_now_grief), (q_now_bowl, aI cT 8 f_now_bowl), (q_purrs, aI cT 8 u_1.2.2), (q_heardNotes, oX1 (.ref q_heardNotes_first) (.ref q_heardNotes_second) (.int x_heardNotes_most) (.int x_heardNotes_size)), (q_heardNotes_first, aI cT 12 f_heardNotes_first), (q_heardNotes_second, aI cT 12 f_heardNotes_second), (q_told, oX3 (.ref q_told_numbers) (.int x_told_size)), (q_told_numbers, aJ cT 8 f_told_numbers)] → va_S A s.heap H locs → lv_has ls 9 [(0, .ref h), (1, .int r_5), (2, .int r_10), (3, .int y3_23), (4, .int y4_23), (5, .int y5_23)] → W p l e (rmO 5 120 0 0) s m ([.ref h] : List Value).toArray below meth c H locs 0 0 (MQ below (va_Qi Post (cB D A (fun (u : (Int32 × (Nat → Int32) × (Nat → Int32) × Int32 × (Nat → Int64))) => [(h, oX7 w_text (.ref q_told) (.ref q_now) w_before w_trial w_past w_kept w_feltNotes (.ref q_heardNotes) w_draws (.ref q_purrs) w_alone w_nimbers w_ways (.ref q_ruling) w_spare), (q_now, oX6 (.ref q_now_load) (.ref q_now_sag) (.ref q_now_joy) (.ref q_now_bowl) (.ref q_now_grief) (.ref q_now_place) (.int x_now_arches) (.int x_now_cats) (.int x_now_store) (.int x_now_hour) (.int x_now_drops)), (q_ruling, oX4 (.ref q_ruling_steps) (.ref q_ruling_stack) (.int x_ruling_size) (.int u.1) (.int x_ruling_open) (.int x_ruling_compared) (.int x_ruling_digits) (.int x_ruling_wantsThing)), (q_now_place, aI cT 8 f_now_place), (q_ruling_steps, aI cT 40 f_ruling_steps), (q_ruling_stack, aI cT 40 u.2.1), (q_now_sag, aI cT 6 f_now_sag), (q_now_load, aI cT 6 f_now_load), (q_now_joy, aI cT 8 f_now_joy), (q_now_grief, aI cT 8 f_now_grief), (q_now_bowl, aI cT 8 f_now_bowl), (q_purrs, aI cT 8 u.2.2.1), (q_heardNotes, oX1 (.ref q_heardNotes_first) (.ref q_heardNotes_second) (.int x_heardNotes_most) (.int x_heardNotes_size)), (q_heardNotes_first, aI cT 12 f_heardNotes_first), (q_heardNotes_second, aI cT 12 f_heardNotes_second), (q_told, oX3 (.ref q_told_numbers) (.int u.2.2.2.1)), (q_told_numbers, aJ cT 8 u.2.2.2.2)])) A) ([.ref h] : List Value).toArray s 0 0 A) (F0 m 23 ls []) := by
    intro u_1 r_5 r_10 n23
    induction n23 with
    | zero =>
      intro y5_23 y4_23 y3_23 H locs ls hg hP hD hS hl
      exact False.elim hg
    | succ n23 ih23 =>
      have L36 : ∀ (y5_23 : Int32) (n36 : Nat) (y6_36 : Int32) (y3_36 : Int32) (y4_36 : Int32) (H : Heap) (locs : List Loc) (ls : Array Slot), p_X7_asks_36 F x_now_cats f_now_place f_now_joy f_now_grief f_now_bowl u_1 r_5 r_10 y5_23 (p_X7_asks_23 F x_now_cats f_now_place f_now_joy f_now_grief f_now_bowl x_told_size f_told_numbers u_1 r_5 r_10 Post n23) Post n36 y6_36 y3_36 y4_36 → va_P D cls9 [(h, oX7 w_text (.ref q_told) (.ref q_now) w_before w_trial w_past w_kept w_feltNotes (.ref q_heardNotes) w_draws (.ref q_purrs) w_alone w_nimbers w_ways (.ref q_ruling) w_spare), (q_now, oX6 (.ref q_now_load) (.ref q_now_sag) (.ref q_now_joy) (.ref q_now_bowl) (.ref q_now_grief) (.ref q_now_place) (.int x_now_arches) (.int x_now_cats) (.int x_now_store) (.int x_now_hour) (.int x_now_drops)), (q_ruling, oX4 (.ref q_ruling_steps) (.ref q_ruling_stack) (.int x_ruling_size) (.int u_1.1) (.int x_ruling_open) (.int x_ruling_compared) (.int x_ruling_digits) (.int x_ruling_wantsThing)), (q_now_place, aI cT 8 f_now_place), (q_ruling_steps, aI cT 40 f_ruling_steps), (q_ruling_stack, aI cT 40 u_1.2.1), (q_now_sag, aI cT 6 f_now_sag), (q_now_load, aI cT 6 f_now_load), (q_now_joy, aI cT 8 f_now_joy), (q_now_grief, aI cT 8 f_now_grief), (q_now_bowl, aI cT 8 f_now_bowl), (q_purrs, aI cT 8 u_1.2.2), (q_heardNotes, oX1 (.ref q_heardNotes_first) (.ref q_heardNotes_second) (.int x_heardNotes_most) (.int x_heardNotes_size)), (q_heardNotes_first, aI cT 12 f_heardNotes_first), (q_heardNotes_second, aI cT 12 f_heardNotes_second), (q_told, oX3 (.ref q_told_numbers) (.int x_told_size)), (q_told_numbers, aJ cT 8 f_told_numbers)] H → va_D A [(h, oX7 w_text (.ref q_told) (.ref q_now) w_before w_trial w_past w_kept w_feltNotes (.ref q_heardNotes) w_draws (.ref q_purrs) w_alone w_nimbers w_ways (.ref q_ruling) w_spare), (q_now, oX6 (.ref q_now_load) (.ref q_now_sag) (.ref q_now_joy) (.ref q_now_bowl) (.ref q_now_grief) (.ref q_now_place) (.int x_now_arches) (.int x_now_cats) (.int x_now_store) (.int x_now_hour) (.int x_now_drops)), (q_ruling, oX4 (.ref q_ruling_steps) (.ref q_ruling_stack) (.int x_ruling_size) (.int u_1.1) (.int x_ruling_open) (.int x_ruling_compared) (.int x_ruling_digits) (.int x_ruling_wantsThing)), (q_now_place, aI cT 8 f_now_place), (q_ruling_steps, aI cT 40 f_ruling_steps), (q_ruling_stack, aI cT 40 u_1.2.1), (q_now_sag, aI cT 6 f_now_sag), (q_now_load, aI cT 6 f_now_load), (q_now_joy, aI cT 8 f_now_joy), (q_now_grief, aI cT 8 f_now_grief), (q_now_bowl, aI cT 8 f_now_bowl), (q_purrs, aI cT 8 u_1.2.2), (q_heardNotes, oX1 (.ref q_heardNotes_first) (.ref q_heardNotes_second) (.int x_heardNotes_most) (.int x_heardNotes_size)), (q_heardNotes_first, aI cT 12 f_heardNotes_first), (q_heardNotes_second, aI cT 12 f_heardNotes_second), (q_told, oX3 (.ref q_told_numbers) (.int x_told_size)), (q_told_numbers, aJ cT 8 f_told_numbers)] → va_S A s.heap H locs → lv_has ls 9 [(0, .ref h), (1, .int r_5), (2, .int r_10), (3, .int y3_36), (4, .int y4_36), (5, .int y5_23), (6, .int y6_36)] → W p l e (rmO 5 120 0 0) s m ([.ref h] : List Value).toArray below meth c H locs 0 0 (MQ below (va_Qi Post (cB D A (fun (u : (Int32 × (Nat → Int32) × (Nat → Int32) × Int32 × (Nat → Int64))) => [(h, oX7 w_text (.ref q_told) (.ref q_now) w_before w_trial w_past w_kept w_feltNotes (.ref q_heardNotes) w_draws (.ref q_purrs) w_alone w_nimbers w_ways (.ref q_ruling) w_spare), (q_now, oX6 (.ref q_now_load) (.ref q_now_sag) (.ref q_now_joy) (.ref q_now_bowl) (.ref q_now_grief) (.ref q_now_place) (.int x_now_arches) (.int x_now_cats) (.int x_now_store) (.int x_now_hour) (.int x_now_drops)), (q_ruling, oX4 (.ref q_ruling_steps) (.ref q_ruling_stack) (.int x_ruling_size) (.int u.1) (.int x_ruling_open) (.int x_ruling_compared) (.int x_ruling_digits) (.int x_ruling_wantsThing)), (q_now_place, aI cT 8 f_now_place), (q_ruling_steps, aI cT 40 f_ruling_steps), (q_ruling_stack, aI cT 40 u.2.1), (q_now_sag, aI cT 6 f_now_sag), (q_now_load, aI cT 6 f_now_load), (q_now_joy, aI cT 8 f_now_joy), (q_now_grief, aI cT 8 f_now_grief), (q_now_bowl, aI cT 8 f_now_bowl), (q_purrs, aI cT 8 u.2.2.1), (q_heardNotes, oX1 (.ref q_heardNotes_first) (.ref q_heardNotes_second) (.int x_heardNotes_most) (.int x_heardNotes_size)), (q_heardNotes_first, aI cT 12 f_heardNotes_first), (q_heardNotes_second, aI cT 12 f_heardNotes_second), (q_told, oX3 (.ref q_told_numbers) (.int u.2.2.2.1)), (q_told_numbers, aJ cT 8 u.2.2.2.2)])) A) ([.ref h] : List Value).toArray s 0 0 A) (F0 m 36 ls []) := by
        intro y5_23 n36
        induction n36 with
        | zero =>
          intro y6_36 y3_36 y4_36 H locs ls hg hP hD hS hl
          exact False.elim hg
        | succ n36 ih36 =>
          have L98 : ∀ (y6_36 : Int32) (y3_98 : Int32) (y4_98 : Int32) (H : Heap) (locs : List Loc) (ls : Array Slot), p_X7_asks_98 F y6_36 (p_X7_asks_23 F x_now_cats f_now_place f_now_joy f_now_grief f_now_bowl x_told_size f_told_numbers u_1 r_5 r_10 Post n23) (p_X7_asks_36 F x_now_cats f_now_place f_now_joy f_now_grief f_now_bowl u_1 r_5 r_10 y5_23 (p_X7_asks_23 F x_now_cats f_now_place f_now_joy f_now_grief f_now_bowl x_told_size f_told_numbers u_1 r_5 r_10 Post n23) Post n36) Post y3_98 y4_98 → va_P D cls9 [(h, oX7 w_text (.ref q_told) (.ref q_now) w_before w_trial w_past w_kept w_feltNotes (.ref q_heardNotes) w_draws (.ref q_purrs) w_alone w_nimbers w_ways (.ref q_ruling) w_spare), (q_now, oX6 (.ref q_now_load) (.ref q_now_sag) (.ref q_now_joy) (.ref q_now_bowl) (.ref q_now_grief) (.ref q_now_place) (.int x_now_arches) (.int x_now_cats) (.int x_now_store) (.int x_now_hour) (.int x_now_drops)), (q_ruling, oX4 (.ref q_ruling_steps) (.ref q_ruling_stack) (.int x_ruling_size) (.int u_1.1) (.int x_ruling_open) (.int x_ruling_compared) (.int x_ruling_digits) (.int x_ruling_wantsThing)), (q_now_place, aI cT 8 f_now_place), (q_ruling_steps, aI cT 40 f_ruling_steps), (q_ruling_stack, aI cT 40 u_1.2.1), (q_now_sag, aI cT 6 f_now_sag), (q_now_load, aI cT 6 f_now_load), (q_now_joy, aI cT 8 f_now_joy), (q_now_grief, aI cT 8 f_now_grief), (q_now_bowl, aI cT 8 f_now_bowl), (q_purrs, aI cT 8 u_1.2.2), (q_heardNotes, oX1 (.ref q_heardNotes_first) (.ref q_heardNotes_second) (.int x_heardNotes_most) (.int x_heardNotes_size)), (q_heardNotes_first, aI cT 12 f_heardNotes_first), (q_heardNotes_second, aI cT 12 f_heardNotes_second), (q_told, oX3 (.ref q_told_numbers) (.int x_told_size)), (q_told_numbers, aJ cT 8 f_told_numbers)] H → va_D A [(h, oX7 w_text (.ref q_told) (.ref q_now) w_before w_trial w_past w_kept w_feltNotes (.ref q_heardNotes) w_draws (.ref q_purrs) w_alone w_nimbers w_ways (.ref q_ruling) w_spare), (q_now, oX6 (.ref q_now_load) (.ref q_now_sag) (.ref q_now_joy) (.ref q_now_bowl) (.ref q_now_grief) (.ref q_now_place) (.int x_now_arches) (.int x_now_cats) (.int x_now_store) (.int x_now_hour) (.int x_now_drops)), (q_ruling, oX4 (.ref q_ruling_steps) (.ref q_ruling_stack) (.int x_ruling_size) (.int u_1.1) (.int x_ruling_open) (.int x_ruling_compared) (.int x_ruling_digits) (.int x_ruling_wantsThing)), (q_now_place, aI cT 8 f_now_place), (q_ruling_steps, aI cT 40 f_ruling_steps), (q_ruling_stack, aI cT 40 u_1.2.1), (q_now_sag, aI cT 6 f_now_sag), (q_now_load, aI cT 6 f_now_load), (q_now_joy, aI cT 8 f_now_joy), (q_now_grief, aI cT 8 f_now_grief), (q_now_bowl, aI cT 8 f_now_bowl), (q_purrs, aI cT 8 u_1.2.2), (q_heardNotes, oX1 (.ref q_heardNotes_first) (.ref q_heardNotes_second) (.int x_heardNotes_most) (.int x_heardNotes_size)), (q_heardNotes_first, aI cT 12 f_heardNotes_first), (q_heardNotes_second, aI cT 12 f_heardNotes_second), (q_told, oX3 (.ref q_told_numbers) (.int x_told_size)), (q_told_numbers, aJ cT 8 f_told_numbers)] → va_S A s.heap H locs → lv_has ls 9 [(0, .ref h), (1, .int r_5), (2, .int r_10), (3, .int y3_98), (4, .int y4_98), (5, .int y5_23), (6, .int y6_36)] → W p l e (rmO 5 120 0 0) s m ([.ref h] : List Value).toArray below meth c H locs 0 0 (MQ below (va_Qi Post (cB D A (fun (u : (Int32 × (Nat → Int32) × (Nat → Int32) × Int32 × (Nat → Int64))) => [(h, oX7 w_text (.ref q_told) (.ref q_now) w_before w_trial w_past w_kept w_feltNotes (.ref q_heardNotes) w_draws (.ref q_purrs) w_alone w_nimbers w_ways (.ref q_ruling) w_spare), (q_now, oX6 (.ref q_now_load) (.ref q_now_sag) (.ref q_now_joy) (.ref q_now_bowl) (.ref q_now_grief) (.ref q_now_place) (.int x_now_arches) (.int x_now_cats) (.int x_now_store) (.int x_now_hour) (.int x_now_drops)), (q_ruling, oX4 (.ref q_ruling_steps) (.ref q_ruling_stack) (.int x_ruling_size) (.int u.1) (.int x_ruling_open) (.int x_ruling_compared) (.int x_ruling_digits) (.int x_ruling_wantsThing)), (q_now_place, aI cT 8 f_now_place), (q_ruling_steps, aI cT 40 f_ruling_steps), (q_ruling_stack, aI cT 40 u.2.1), (q_now_sag, aI cT 6 f_now_sag), (q_now_load, aI cT 6 f_now_load), (q_now_joy, aI cT 8 f_now_joy), (q_now_grief, aI cT 8 f_now_grief), (q_now_bowl, aI cT 8 f_now_bowl), (q_purrs, aI cT 8 u.2.2.1), (q_heardNotes, oX1 (.ref q_heardNotes_first) (.ref q_heardNotes_second) (.int x_heardNotes_most) (.int x_heardNotes_size)), (q_heardNotes_first, aI cT 12 f_heardNotes_first), (q_heardNotes_second, aI cT 12 f_heardNotes_second), (q_told, oX3 (.ref q_told_numbers) (.int u.2.2.2.1)), (q_told_numbers, aJ cT 8 u.2.2.2.2)])) A) ([.ref h] : List Value).toArray s 0 0 A) (F0 m 98 ls []) := by
            intro y6_36 y3_98 y4_98 H locs ls hg hP hD hS hl
            unfold p_X7_asks_98 at hg
            refine lv_iinc (v := (y6_36 + (1 : Int32))) (lv' := [(6, .int (y6_36 + (1 : Int32))), (0, .ref h), (1, .int r_5), (2, .int r_10), (3, .int y3_98), (4, .int y4_98), (5, .int y5_23)]) hx hb dX7_asks_98 hl (k := 6) rfl rfl (by decide) rfl (fun ls hl => ?_)
            refine lv_goto (tgt := 36) hx hb dX7_asks_101 (by decide) ?_
            exact ih36 (y6_36 + (1 : Int32)) y3_98 y4_98 _ _ _ hg hP hD hS (lv_sub hl [1, 2, 3, 4, 5, 6, 0] rfl)
          have L85 : ∀ (r_56 : Int32) (y6_36 : Int32) (H : Heap) (locs : List Loc) (ls : Array Slot), p_X7_asks_85 F r_10 r_56 y5_23 y6_36 (p_X7_asks_23 F x_now_cats f_now_place f_now_joy f_now_grief f_now_bowl x_told_size f_told_numbers u_1 r_5 r_10 Post n23) (p_X7_asks_36 F x_now_cats f_now_place f_now_joy f_now_grief f_now_bowl u_1 r_5 r_10 y5_23 (p_X7_asks_23 F x_now_cats f_now_place f_now_joy f_now_grief f_now_bowl x_told_size f_told_numbers u_1 r_5 r_10 Post n23) Post n36) Post → va_P D cls9 [(h, oX7 w_text (.ref q_told) (.ref q_now) w_before w_trial w_past w_kept w_feltNotes (.ref q_heardNotes) w_draws (.ref q_purrs) w_alone w_nimbers w_ways (.ref q_ruling) w_spare), (q_now, oX6 (.ref q_now_load) (.ref q_now_sag) (.ref q_now_joy) (.ref q_now_bowl) (.ref q_now_grief) (.ref q_now_place) (.int x_now_arches) (.int x_now_cats) (.int x_now_store) (.int x_now_hour) (.int x_now_drops)), (q_ruling, oX4 (.ref q_ruling_steps) (.ref q_ruling_stack) (.int x_ruling_size) (.int u_1.1) (.int x_ruling_open) (.int x_ruling_compared) (.int x_ruling_digits) (.int x_ruling_wantsThing)), (q_now_place, aI cT 8 f_now_place), (q_ruling_steps, aI cT 40 f_ruling_steps), (q_ruling_stack, aI cT 40 u_1.2.1), (q_now_sag, aI cT 6 f_now_sag), (q_now_load, aI cT 6 f_now_load), (q_now_joy, aI cT 8 f_now_joy), (q_now_grief, aI cT 8 f_now_grief), (q_now_bowl, aI cT 8 f_now_bowl), (q_purrs, aI cT 8 u_1.2.2), (q_heardNotes, oX1 (.ref q_heardNotes_first) (.ref q_heardNotes_second) (.int x_heardNotes_most) (.int x_heardNotes_size)), (q_heardNotes_first, aI cT 12 f_heardNotes_first), (q_heardNotes_second, aI cT 12 f_heardNotes_second), (q_told, oX3 (.ref q_told_numbers) (.int x_told_size)), (q_told_numbers, aJ cT 8 f_told_numbers)] H → va_D A [(h, oX7 w_text (.ref q_told) (.ref q_now) w_before w_trial w_past w_kept w_feltNotes (.ref q_heardNotes) w_draws (.ref q_purrs) w_alone w_nimbers w_ways (.ref q_ruling) w_spare), (q_now, oX6 (.ref q_now_load) (.ref q_now_sag) (.ref q_now_joy) (.ref q_now_bowl) (.ref q_now_grief) (.ref q_now_place) (.int x_now_arches) (.int x_now_cats) (.int x_now_store) (.int x_now_hour) (.int x_now_drops)), (q_ruling, oX4 (.ref q_ruling_steps) (.ref q_ruling_stack) (.int x_ruling_size) (.int u_1.1) (.int x_ruling_open) (.int x_ruling_compared) (.int x_ruling_digits) (.int x_ruling_wantsThing)), (q_now_place, aI cT 8 f_now_place), (q_ruling_steps, aI cT 40 f_ruling_steps), (q_ruling_stack, aI cT 40 u_1.2.1), (q_now_sag, aI cT 6 f_now_sag), (q_now_load, aI cT 6 f_now_load), (q_now_joy, aI cT 8 f_now_joy), (q_now_grief, aI cT 8 f_now_grief), (q_now_bowl, aI cT 8 f_now_bowl), (q_purrs, aI cT 8 u_1.2.2), (q_heardNotes, oX1 (.ref q_heardNotes_first) (.ref q_heardNotes_second) (.int x_heardNotes_most) (.int x_heardNotes_size)), (q_heardNotes_first, aI cT 12 f_heardNotes_first), (q_heardNotes_second, aI cT 12 f_heardNotes_second), (q_told, oX3 (.ref q_told_numbers) (.int x_told_size)), (q_told_numbers, aJ cT 8 f_told_numbers)] → va_S A s.heap H locs → lv_has ls 9 [(0, .ref h), (1, .int r_5), (2, .int r_10), (5, .int y5_23), (6, .int y6_36), (8, .int (if r_56 < (r_10 - r_56) then (r_10 - r_56) else r_56))] → W p l e (rmO 5 120 0 0) s m ([.ref h] : List Value).toArray below meth c H locs 0 0 (MQ below (va_Qi Post (cB D A (fun (u : (Int32 × (Nat → Int32) × (Nat → Int32) × Int32 × (Nat → Int64))) => [(h, oX7 w_text (.ref q_told) (.ref q_now) w_before w_trial w_past w_kept w_feltNotes (.ref q_heardNotes) w_draws (.ref q_purrs) w_alone w_nimbers w_ways (.ref q_ruling) w_spare), (q_now, oX6 (.ref q_now_load) (.ref q_now_sag) (.ref q_now_joy) (.ref q_now_bowl) (.ref q_now_grief) (.ref q_now_place) (.int x_now_arches) (.int x_now_cats) (.int x_now_store) (.int x_now_hour) (.int x_now_drops)), (q_ruling, oX4 (.ref q_ruling_steps) (.ref q_ruling_stack) (.int x_ruling_size) (.int u.1) (.int x_ruling_open) (.int x_ruling_compared) (.int x_ruling_digits) (.int x_ruling_wantsThing)), (q_now_place, aI cT 8 f_now_place), (q_ruling_steps, aI cT 40 f_ruling_steps), (q_ruling_stack, aI cT 40 u.2.1), (q_now_sag, aI cT 6 f_now_sag), (q_now_load, aI cT 6 f_now_load), (q_now_joy, aI cT 8 f_now_joy), (q_now_grief, aI cT 8 f_now_grief), (q_now_bowl, aI cT 8 f_now_bowl), (q_purrs, aI cT 8 u.2.2.1), (q_heardNotes, oX1 (.ref q_heardNotes_first) (.ref q_heardNotes_second) (.int x_heardNotes_most) (.int x_heardNotes_size)), (q_heardNotes_first, aI cT 12 f_heardNotes_first), (q_heardNotes_second, aI cT 12 f_heardNotes_second), (q_told, oX3 (.ref q_told_numbers) (.int u.2.2.2.1)), (q_told_numbers, aJ cT 8 u.2.2.2.2)])) A) ([.ref h] : List Value).toArray s 0 0 A) (F0 m 85 ls []) := by
            intro r_56 y6_36 H locs ls hg hP hD hS hl
            unfold p_X7_asks_85 at hg
            refine lv_bipush (v := (10 : Int32)) hx hb dX7_asks_85 (by decide) ?_
            refine lv_iload hx hb dX7_asks_87 (lv_at hl 3 rfl) ?_
            refine lv_imul hx hb dX7_asks_89 ?_
            refine lv_iload hx hb dX7_asks_90 (lv_at hl 4 rfl) ?_
            refine lv_iadd hx hb dX7_asks_92 ?_
            refine lv_istore_n (lv' := [(3, .int (((10 : Int32) * y5_23) + y6_36)), (0, .ref h), (1, .int r_5), (2, .int r_10), (5, .int y5_23), (6, .int y6_36), (8, .int (if r_56 < (r_10 - r_56) then (r_10 - r_56) else r_56))]) hx hb dX7_asks_93 rfl hl (by decide) rfl (fun ls hl => ?_)
            refine lv_iload hx hb dX7_asks_94 (lv_at hl 6 rfl) ?_
            refine lv_istore (lv' := [(4, .int (if r_56 < (r_10 - r_56) then (r_10 - r_56) else r_56)), (3, .int (((10 : Int32) * y5_23) + y6_36)), (0, .ref h), (1, .int r_5), (2, .int r_10), (5, .int y5_23), (6, .int y6_36), (8, .int (if r_56 < (r_10 - r_56) then (r_10 - r_56) else r_56))]) hx hb dX7_asks_96 hl (by decide) rfl (fun ls hl => ?_)
            exact L98 y6_36 (((10 : Int32) * y5_23) + y6_36) (if r_56 < (r_10 - r_56) then (r_10 - r_56) else r_56) _ _ _ hg hP hD hS (lv_sub hl [2, 3, 4, 1, 0, 5, 6] rfl)
          intro y6_36 y3_36 y4_36 H locs ls hg hP hD hS hl
          rw [p_X7_asks_36_s] at hg
          refine lv_iload hx hb dX7_asks_36 (lv_at hl 6 rfl) ?_
          refine lv_iload hx hb dX7_asks_38 (lv_at hl 5 rfl) ?_
          refine k_Sxi (rest := [.int y6_36]) C0 lk_X7_338 (c_X7_highestHeard l D cT F y5_23 _ hg) hP hD hS hA [] (by decide +kernel) rfl ⟨Nat.le_of_ble_eq_true rfl, Nat.le_of_ble_eq_true rfl⟩ rfl hl.1 rfl (Nat.le_of_ble_eq_true rfl) dX7_asks_40 ⟨Nat.le_of_ble_eq_true rfl, Nat.le_of_ble_eq_true rfl⟩ (fun r_40 hg => ?_)
          refine lv_icmp_gt (tgt := 104) hx hb dX7_asks_43 (by decide) (fun c_43 => ?_) (fun c_43 => ?_)
          · have hg := hg.1 c_43
            refine lv_iinc (v := (y5_23 + (1 : Int32))) (lv' := [(5, .int (y5_23 + (1 : Int32))), (0, .ref h), (1, .int r_5), (2, .int r_10), (3, .int y3_36), (4, .int y4_36), (6, .int y6_36)]) hx hb dX7_asks_104 hl (k := 5) rfl rfl (by decide) rfl (fun ls hl => ?_)
            refine lv_goto (tgt := 23) hx hb dX7_asks_107 (by decide) ?_
            exact ih23 (y5_23 + (1 : Int32)) y4_36 y3_36 _ _ _ hg hP hD hS (lv_sub hl [1, 2, 3, 4, 5, 0] rfl)
          have hg := hg.2 c_43
          refine lv_iload_n hx hb dX7_asks_46 rfl (lv_at hl 1 rfl) ?_
          refine lv_aload_n hx hb dX7_asks_47 rfl (lv_at hl 0 rfl) ?_
          refine lv_iload hx hb dX7_asks_48 (lv_at hl 5 rfl) ?_
          refine lv_iload hx hb dX7_asks_50 (lv_at hl 6 rfl) ?_
          refine k_Vxi (rest := [.int r_5]) C0 lk_X7_344 (c_X7_catsOfWhom l D cT F h y5_23 y6_36 w_text (.ref q_told) q_now w_before w_trial w_past w_kept w_feltNotes (.ref q_heardNotes) w_draws q_purrs w_alone w_nimbers w_ways (.ref q_ruling) w_spare (.ref q_now_load) (.ref q_now_sag) q_now_joy q_now_bowl q_now_grief q_now_place x_now_arches x_now_cats x_now_store x_now_hour x_now_drops f_now_grief u_1.2.2 f_now_place f_now_bowl f_now_joy _ hg) hP hD hS hA [0, 1, 9, 11, 3, 10, 8] (by decide +kernel) rfl rfl rfl ⟨Nat.le_of_ble_eq_true rfl, Nat.le_of_ble_eq_true rfl⟩ rfl hl.1 rfl (Nat.le_of_ble_eq_true rfl) dX7_asks_52 ⟨Nat.le_of_ble_eq_true rfl, Nat.le_of_ble_eq_true rfl⟩ (fun r_52 hg => ?_)
          refine lv_iand hx hb dX7_asks_55 ?_
          refine k_Sxi (rest := []) C0 lk_X7_253 (c_J6_bitCount_0f7a4 l D cT F (r_5 &&& r_52) _ hg) hP hD hS hA [] (by decide +kernel) rfl ⟨Nat.le_of_ble_eq_true rfl, Nat.le_of_ble_eq_true rfl⟩ rfl hl.1 rfl (Nat.le_of_ble_eq_true rfl) dX7_asks_56 ⟨Nat.le_of_ble_eq_true rfl, Nat.le_of_ble_eq_true rfl⟩ (fun r_56 hg => ?_)
          refine lv_istore (lv' := [(7, .int r_56), (0, .ref h), (1, .int r_5), (2, .int r_10), (3, .int y3_36), (4, .int y4_36), (5, .int y5_23), (6, .int y6_36)]) hx hb dX7_asks_59 hl (by decide) rfl (fun ls hl => ?_)
          refine lv_iload hx hb dX7_asks_61 (lv_at hl 0 rfl) ?_
          refine lv_iload_n hx hb dX7_asks_63 rfl (lv_at hl 3 rfl) ?_
          refine lv_iload hx hb dX7_asks_64 (lv_at hl 0 rfl) ?_
          refine lv_isub hx hb dX7_asks_66 ?_
          refine k_max C0 w2_121 hl.1 (Nat.le_of_ble_eq_true rfl) (Nat.le_of_ble_eq_true rfl) (Nat.le_of_ble_eq_true rfl) (Nat.le_of_ble_eq_true rfl) dX7_asks_67 ?_
          refine lv_istore (lv' := [(8, .int (if r_56 < (r_10 - r_56) then (r_10 - r_56) else r_56)), (7, .int r_56), (0, .ref h), (1, .int r_5), (2, .int r_10), (3, .int y3_36), (4, .int y4_36), (5, .int y5_23), (6, .int y6_36)]) hx hb dX7_asks_70 hl (by decide) rfl (fun ls hl => ?_)
          refine lv_iload_n hx hb dX7_asks_72 rfl (lv_at hl 5 rfl) ?_
          refine lv_bipush (v := (-2 : Int32)) hx hb dX7_asks_73 (by decide) ?_
          refine lv_icmp_eq (tgt := 85) hx hb dX7_asks_75 (by decide) (fun c_75 => ?_) (fun c_75 => ?_)
          · have hg := hg.1 c_75
            exact L85 r_56 y6_36 _ _ _ hg hP hD hS (lv_sub hl [2, 3, 4, 7, 8, 0] rfl)
          have hg := hg.2 c_75
          refine lv_iload hx hb dX7_asks_78 (lv_at hl 0 rfl) ?_
          refine lv_iload hx hb dX7_asks_80 (lv_at hl 6 rfl) ?_
          refine lv_icmp_ge (tgt := 98) hx hb dX7_asks_82 (by decide) (fun c_82 => ?_) (fun c_82 => ?_)
          · have hg := hg.1 c_82
            exact L98 y6_36 y3_36 y4_36 _ _ _ hg hP hD hS (lv_sub hl [2, 3, 4, 5, 6, 7, 8] rfl)
          have hg := hg.2 c_82
          exact L85 r_56 y6_36 _ _ _ hg hP hD hS (lv_sub hl [2, 3, 4, 7, 8, 0] rfl)
      intro y5_23 y4_23 y3_23 H locs ls hg hP hD hS hl
      rw [p_X7_asks_23_s] at hg
      refine lv_iload hx hb dX7_asks_23 (lv_at hl 5 rfl) ?_
      refine lv_iconst (v := (5 : Int32)) hx hb dX7_asks_25 (by decide) ?_
      refine lv_icmp_ge (tgt := 110) hx hb dX7_asks_26 (by decide) (fun c_26 => ?_) (fun c_26 => ?_)
      · have hg := hg.1 c_26
        exact L110 u_1 y4_23 y3_23 _ _ _ hg hP hD hS (lv_sub hl [0, 3, 4] rfl)
      have hg := hg.2 c_26
      refine lv_iload_n hx hb dX7_asks_29 rfl (lv_at hl 2 rfl) ?_
      refine lv_if_le (tgt := 110) hx hb dX7_asks_30 (by decide) (fun c_30 => ?_) (fun c_30 => ?_)
      · have hg := hg.1 c_30
        exact L110 u_1 y4_23 y3_23 _ _ _ hg hP hD hS (lv_sub hl [0, 3, 4] rfl)
      have hg := hg.2 c_30
      refine lv_iconst (v := (0 : Int32)) hx hb dX7_asks_33 (by decide) ?_
      refine lv_istore (lv' := [(6, .int (0 : Int32)), (0, .ref h), (1, .int r_5), (2, .int r_10), (3, .int y3_23), (4, .int y4_23), (5, .int y5_23)]) hx hb dX7_asks_34 hl (by decide) rfl (fun ls hl => ?_)
      exact L36 y5_23 F (0 : Int32) y3_23 y4_23 _ _ _ hg hP hD hS (lv_sub hl [1, 2, 3, 4, 5, 6, 0] rfl)
  unfold p_X7_asks at hg
  refine lv_aload_n hx hb dX7_asks_0 rfl (lv_at hl 0 rfl) ?_
  refine k_Vv (rest := []) (wr := [(q_heardNotes, oX1 (.ref q_heardNotes_first) (.ref q_heardNotes_second) (.int x_heardNotes_most) (.int x_heardNotes_size)), (q_heardNotes_first, aI cT 12 f_heardNotes_first), (q_heardNotes_second, aI cT 12 f_heardNotes_second), (q_told, oX3 (.ref q_told_numbers) (.int x_told_size)), (q_told_numbers, aJ cT 8 f_told_numbers)]) (w2 := fun u_1 => [(q_heardNotes, oX1 (.ref q_heardNotes_first) (.ref q_heardNotes_second) (.int x_heardNotes_most) (.int x_heardNotes_size)), (q_heardNotes_first, aI cT 12 f_heardNotes_first), (q_heardNotes_second, aI cT 12 f_heardNotes_second), (q_told, oX3 (.ref q_told_numbers) (.int x_told_size)), (q_told_numbers, aJ cT 8 f_told_numbers), (h, oX7 w_text (.ref q_told) (.ref q_now) w_before w_trial w_past w_kept w_feltNotes (.ref q_heardNotes) w_draws (.ref q_purrs) w_alone w_nimbers w_ways (.ref q_ruling) w_spare), (q_now, oX6 (.ref q_now_load) (.ref q_now_sag) (.ref q_now_joy) (.ref q_now_bowl) (.ref q_now_grief) (.ref q_now_place) (.int x_now_arches) (.int x_now_cats) (.int x_now_store) (.int x_now_hour) (.int x_now_drops)), (q_ruling, oX4 (.ref q_ruling_steps) (.ref q_ruling_stack) (.int x_ruling_size) (.int u_1.1) (.int x_ruling_open) (.int x_ruling_compared) (.int x_ruling_digits) (.int x_ruling_wantsThing)), (q_now_place, aI cT 8 f_now_place), (q_ruling_steps, aI cT 40 f_ruling_steps), (q_ruling_stack, aI cT 40 u_1.2.1), (q_now_sag, aI cT 6 f_now_sag), (q_now_load, aI cT 6 f_now_load), (q_now_joy, aI cT 8 f_now_joy), (q_now_grief, aI cT 8 f_now_grief), (q_now_bowl, aI cT 8 f_now_bowl), (q_purrs, aI cT 8 u_1.2.2)]) C0 lk_X7_313 (c_X7_findPurrs l D cT F h w_text (.ref q_told) q_now w_before w_trial w_past w_kept w_feltNotes (.ref q_heardNotes) w_draws q_purrs w_alone w_nimbers w_ways q_ruling w_spare q_now_load q_now_sag q_now_joy q_now_bowl q_now_grief q_now_place x_now_arches x_now_cats x_now_store x_now_hour x_now_drops q_ruling_steps q_ruling_stack x_ruling_size x_ruling_top x_ruling_open x_ruling_compared x_ruling_digits x_ruling_wantsThing f_now_place f_ruling_steps f_ruling_stack f_now_sag f_now_load f_now_joy f_now_grief f_now_bowl f_purrs _ hg) hP hD hS hA [0, 1, 2, 3, 4, 5, 6, 7, 8, 9, 10, 11] [12, 13, 14, 15, 16] (by decide +kernel) rfl rfl (fun _ => rfl) rfl rfl ⟨Nat.le_of_ble_eq_true rfl, Nat.le_of_ble_eq_true rfl⟩ rfl hl.1 rfl (Nat.le_of_ble_eq_true rfl) dX7_asks_1 ⟨Nat.le_of_ble_eq_true rfl, Nat.le_of_ble_eq_true rfl⟩ ?_
  intro u_1 H locs hg hP hD hS
  refine lv_aload_n hx hb dX7_asks_4 rfl (lv_at hl 0 rfl) ?_
  refine k_Vxi (rest := []) C0 lk_X7_341 (c_X7_suitingCats l D cT F h w_text (.ref q_told) q_now w_before w_trial w_past w_kept w_feltNotes q_heardNotes w_draws q_purrs w_alone w_nimbers w_ways (.ref q_ruling) w_spare (.ref q_now_load) (.ref q_now_sag) q_now_joy q_now_bowl q_now_grief q_now_place x_now_arches x_now_cats x_now_store x_now_hour x_now_drops q_heardNotes_first q_heardNotes_second x_heardNotes_most x_heardNotes_size f_heardNotes_first f_heardNotes_second f_now_grief u_1.2.2 f_now_place f_now_bowl f_now_joy _ hg) hP hD hS hA [5, 6, 0, 1, 2, 14, 16, 8, 15, 13] (by decide +kernel) rfl rfl rfl ⟨Nat.le_of_ble_eq_true rfl, Nat.le_of_ble_eq_true rfl⟩ rfl hl.1 rfl (Nat.le_of_ble_eq_true rfl) dX7_asks_5 ⟨Nat.le_of_ble_eq_true rfl, Nat.le_of_ble_eq_true rfl⟩ (fun r_5 hg => ?_)
  refine lv_istore_n (lv' := [(1, .int r_5), (0, .ref h)]) hx hb dX7_asks_8 rfl hl (by decide) rfl (fun ls hl => ?_)
  refine lv_iload_n hx hb dX7_asks_9 rfl (lv_at hl 0 rfl) ?_
  refine k_Sxi (rest := []) C0 lk_X7_253 (c_J6_bitCount_0f7a4 l D cT F r_5 _ hg) hP hD hS hA [] (by decide +kernel) rfl ⟨Nat.le_of_ble_eq_true rfl, Nat.le_of_ble_eq_true rfl⟩ rfl hl.1 rfl (Nat.le_of_ble_eq_true rfl) dX7_asks_10 ⟨Nat.le_of_ble_eq_true rfl, Nat.le_of_ble_eq_true rfl⟩ (fun r_10 hg => ?_)
  refine lv_istore_n (lv' := [(2, .int r_10), (1, .int r_5), (0, .ref h)]) hx hb dX7_asks_13 rfl hl (by decide) rfl (fun ls hl => ?_)
  refine lv_bipush (v := (-2 : Int32)) hx hb dX7_asks_14 (by decide) ?_
  refine lv_istore_n (lv' := [(3, .int (-2 : Int32)), (2, .int r_10), (1, .int r_5), (0, .ref h)]) hx hb dX7_asks_16 rfl hl (by decide) rfl (fun ls hl => ?_)
  refine lv_iconst (v := (0 : Int32)) hx hb dX7_asks_17 (by decide) ?_
  refine lv_istore (lv' := [(4, .int (0 : Int32)), (3, .int (-2 : Int32)), (2, .int r_10), (1, .int r_5), (0, .ref h)]) hx hb dX7_asks_18 hl (by decide) rfl (fun ls hl => ?_)
  refine lv_iconst (v := (0 : Int32)) hx hb dX7_asks_20 (by decide) ?_
  refine lv_istore (lv' := [(5, .int (0 : Int32)), (4, .int (0 : Int32)), (3, .int (-2 : Int32)), (2, .int r_10), (1, .int r_5), (0, .ref h)]) hx hb dX7_asks_21 hl (by decide) rfl (fun ls hl => ?_)
  exact L23 u_1 r_5 r_10 F (0 : Int32) (0 : Int32) (-2 : Int32) _ _ _ hg (subP hP [5, 6, 7, 8, 9, 10, 11, 12, 13, 14, 15, 16, 0, 1, 2, 3, 4] rfl) (hD.sub [5, 6, 7, 8, 9, 10, 11, 12, 13, 14, 15, 16, 0, 1, 2, 3, 4] (nd2_ok _ (by decide +kernel)) rfl) hS (lv_sub hl [5, 4, 3, 2, 1, 0] rfl)
