theorem dL_arch_0 : decode cL_arch 0 = .ok (.aload_n 3, 1) := by decide +kernel
theorem dL_arch_1 : decode cL_arch 1 = .ok (.iconst 0, 1) := by decide +kernel
theorem dL_arch_2 : decode cL_arch 2 = .ok (.aload_n 0, 1) := by decide +kernel
theorem dL_arch_3 : decode cL_arch 3 = .ok (.iload_n 1, 1) := by decide +kernel
theorem dL_arch_4 : decode cL_arch 4 = .ok (.iload_n 2, 1) := by decide +kernel
theorem dL_arch_5 : decode cL_arch 5 = .ok (.invokevirtual 7, 3) := by decide +kernel
theorem dL_arch_8 : decode cL_arch 8 = .ok (.i2l, 1) := by decide +kernel
theorem dL_arch_9 : decode cL_arch 9 = .ok (.lastore, 1) := by decide +kernel
theorem dL_arch_10 : decode cL_arch 10 = .ok (.goto 7, 3) := by decide +kernel
theorem dL_arch_13 : decode cL_arch 13 = .ok (.astore 4, 2) := by decide +kernel
theorem dL_arch_15 : decode cL_arch 15 = .ok (.iconst 1, 1) := by decide +kernel
theorem dL_arch_16 : decode cL_arch 16 = .ok (.ireturn, 1) := by decide +kernel
theorem dL_arch_17 : decode cL_arch 17 = .ok (.iconst 0, 1) := by decide +kernel
theorem dL_arch_18 : decode cL_arch 18 = .ok (.ireturn, 1) := by decide +kernel
def p_L_arch (F : Nat) (p1 : Int32) (p2 : Int32) (x_now_arches : Int32) (x_now_cats : Int32) (x_now_hour : Int32) (f_now_load : Nat → Int32) (f_now_sag : Nat → Int32) (x_ruling_size : Int32) (x_ruling_top : Int32) (f_now_place : Nat → Int32) (f_ruling_steps : Nat → Int32) (f_ruling_stack : Nat → Int32) (f_now_joy : Nat → Int32) (f_now_grief : Nat → Int32) (f_now_bowl : Nat → Int32) (f_out : Nat → Int64) (Post : Int32 → ((Nat → Int64) × (Int32 × (Nat → Int32))) → Prop) : Prop := p_X7_arch F p1 p2 x_now_arches x_now_cats x_now_hour f_now_load f_now_sag x_ruling_size x_ruling_top f_now_place f_ruling_steps f_ruling_stack f_now_joy f_now_grief f_now_bowl (fun r u => Post 0 (vp_updL f_out (0 : Int32).toNatClampNeg r.toInt64, u)) (Post 1 (f_out, (x_ruling_top, f_ruling_stack)))
set_option maxHeartbeats 4000000 in
theorem c_L_arch (l : Launch) (D : va_G) (cT : Nat → ClassId) (F : Nat) (h : Nat) (p1 : Int32) (p2 : Int32) (w_text : Value) (w_told : Value) (q_now : Nat) (w_before : Value) (w_trial : Value) (w_past : Value) (w_kept : Value) (w_feltNotes : Value) (w_heardNotes : Value) (w_draws : Value) (w_purrs : Value) (w_alone : Value) (w_nimbers : Value) (w_ways : Value) (q_ruling : Nat) (w_spare : Value) (q_now_load : Nat) (q_now_sag : Nat) (q_now_joy : Nat) (q_now_bowl : Nat) (q_now_grief : Nat) (q_now_place : Nat) (x_now_arches : Int32) (x_now_cats : Int32) (x_now_store : Int32) (x_now_hour : Int32) (x_now_drops : Int32) (f_now_load : Nat → Int32) (f_now_sag : Nat → Int32) (q_ruling_steps : Nat) (q_ruling_stack : Nat) (x_ruling_size : Int32) (x_ruling_top : Int32) (x_ruling_open : Int32) (x_ruling_compared : Int32) (x_ruling_digits : Int32) (x_ruling_wantsThing : Int32) (f_now_place : Nat → Int32) (f_ruling_steps : Nat → Int32) (f_ruling_stack : Nat → Int32) (f_now_joy : Nat → Int32) (f_now_grief : Nat → Int32) (f_now_bowl : Nat → Int32) (q_out : Nat) (f_out : Nat → Int64) (Post : Int32 → ((Nat → Int64) × (Int32 × (Nat → Int32))) → Prop) (hfl : l.stackTraces = false) (hg : p_L_arch F p1 p2 x_now_arches x_now_cats x_now_hour f_now_load f_now_sag x_ruling_size x_ruling_top f_now_place f_ruling_steps f_ruling_stack f_now_joy f_now_grief f_now_bowl f_out Post) : MLi l D cT yL_arch cL_arch 5 (some .int) [(0, 10, 13, 13)] 7 155 1 6 [.ref h, .int p1, .int p2, .ref q_out] [(q_out, aJ cT 1 f_out), (h, oX7 w_text w_told (.ref q_now) w_before w_trial w_past w_kept w_feltNotes w_heardNotes w_draws w_purrs w_alone w_nimbers w_ways (.ref q_ruling) w_spare), (q_now, oX6 (.ref q_now_load) (.ref q_now_sag) (.ref q_now_joy) (.ref q_now_bowl) (.ref q_now_grief) (.ref q_now_place) (.int x_now_arches) (.int x_now_cats) (.int x_now_store) (.int x_now_hour) (.int x_now_drops)), (q_now_load, aI cT 6 f_now_load), (q_now_sag, aI cT 6 f_now_sag), (q_ruling, oX4 (.ref q_ruling_steps) (.ref q_ruling_stack) (.int x_ruling_size) (.int x_ruling_top) (.int x_ruling_open) (.int x_ruling_compared) (.int x_ruling_digits) (.int x_ruling_wantsThing)), (q_now_place, aI cT 8 f_now_place), (q_ruling_steps, aI cT 40 f_ruling_steps), (q_ruling_stack, aI cT 40 f_ruling_stack), (q_now_joy, aI cT 8 f_now_joy), (q_now_grief, aI cT 8 f_now_grief), (q_now_bowl, aI cT 8 f_now_bowl)] Post (fun (u : ((Nat → Int64) × (Int32 × (Nat → Int32)))) => [(q_out, aJ cT 1 u.1), (h, oX7 w_text w_told (.ref q_now) w_before w_trial w_past w_kept w_feltNotes w_heardNotes w_draws w_purrs w_alone w_nimbers w_ways (.ref q_ruling) w_spare), (q_now, oX6 (.ref q_now_load) (.ref q_now_sag) (.ref q_now_joy) (.ref q_now_bowl) (.ref q_now_grief) (.ref q_now_place) (.int x_now_arches) (.int x_now_cats) (.int x_now_store) (.int x_now_hour) (.int x_now_drops)), (q_now_load, aI cT 6 f_now_load), (q_now_sag, aI cT 6 f_now_sag), (q_ruling, oX4 (.ref q_ruling_steps) (.ref q_ruling_stack) (.int x_ruling_size) (.int u.2.1) (.int x_ruling_open) (.int x_ruling_compared) (.int x_ruling_digits) (.int x_ruling_wantsThing)), (q_now_place, aI cT 8 f_now_place), (q_ruling_steps, aI cT 40 f_ruling_steps), (q_ruling_stack, aI cT 40 u.2.2), (q_now_joy, aI cT 8 f_now_joy), (q_now_grief, aI cT 8 f_now_grief), (q_now_bowl, aI cT 8 f_now_bowl)]) := by
  refine MLi.of (by decide) (Nat.le_of_ble_eq_true rfl) ?_
  intro p e s m below meth c A hA C0 hE htab hr hP hD ls hl
  have hl : lv_has ls 5 [(0, .ref h), (1, .int p1), (2, .int p2), (3, .ref q_out)] := hl
  have hx := C0.x
  have hb := C0.b
  have hS : va_S A s.heap s.heap [] := va_S.rf
  unfold p_L_arch at hg
  refine lv_aload_n hx hb dL_arch_0 rfl (lv_at hl 3 rfl) ?_
  refine lv_iconst (v := (0 : Int32)) hx hb dL_arch_1 (by decide) ?_
  refine lv_aload_n hx hb dL_arch_2 rfl (lv_at hl 0 rfl) ?_
  refine lv_iload_n hx hb dL_arch_3 rfl (lv_at hl 1 rfl) ?_
  refine lv_iload_n hx hb dL_arch_4 rfl (lv_at hl 2 rfl) ?_
  refine k_VXi (rest := [.int 0, .ref q_out]) C0 hE lk_L_7 (c_X7_arch l D cT F h p1 p2 w_text w_told q_now w_before w_trial w_past w_kept w_feltNotes w_heardNotes w_draws w_purrs w_alone w_nimbers w_ways q_ruling w_spare q_now_load q_now_sag q_now_joy q_now_bowl q_now_grief q_now_place x_now_arches x_now_cats x_now_store x_now_hour x_now_drops f_now_load f_now_sag q_ruling_steps q_ruling_stack x_ruling_size x_ruling_top x_ruling_open x_ruling_compared x_ruling_digits x_ruling_wantsThing f_now_place f_ruling_steps f_ruling_stack f_now_joy f_now_grief f_now_bowl _ _ hfl hg) hP hD hS hA [1, 2, 3, 4, 5, 6, 7, 8, 9, 10, 11] [0] (by decide +kernel) rfl (wr := [(q_out, aJ cT 1 f_out)]) rfl (fun _ => rfl) rfl rfl rfl ⟨Nat.le_of_ble_eq_true rfl, Nat.le_of_ble_eq_true rfl⟩ rfl hl.1 rfl (Nat.le_of_ble_eq_true rfl) dL_arch_5 ⟨Nat.le_of_ble_eq_true rfl, Nat.le_of_ble_eq_true rfl⟩ (fun q9 ce H locs hg hce hcv hfc hP hD hS => ?_) (fun r u H locs hg hP hD hS => ?_)
  · refine vx_catch C0.ow [] ⟨0, 10, 13, 13⟩ [] htab (fun z hz => by cases hz) (by decide) (by decide) (C0.t w4_86) (hE.2.2.2.use rfl) hce hcv hfc ?_
    refine lv_astore hx hb dL_arch_13 hl (by decide) rfl (fun ls hl => ?_)
    refine lv_iconst (v := (1 : Int32)) hx hb dL_arch_15 (by decide) ?_
    exact k_iret C0 hr (f_out, (x_ruling_top, f_ruling_stack)) hg hP hD hS dL_arch_16
  refine lv_i2l (v := r.toInt64) hx hb dL_arch_8 rfl ?_
  refine k_last C0 hP hD hS 0 rfl (by unfold vp_in; decide) rfl dL_arch_9 (fun H locs hP hD hS => ?_)
  refine lv_goto (tgt := 17) hx hb dL_arch_10 (by decide) ?_
  refine lv_iconst (v := (0 : Int32)) hx hb dL_arch_17 (by decide) ?_
  exact k_iret C0 hr (vp_updL f_out (0 : Int32).toNatClampNeg r.toInt64, u) hg hP hD hS dL_arch_18
theorem dL_cat_0 : decode cL_cat 0 = .ok (.aload_n 3, 1) := by decide +kernel
theorem dL_cat_1 : decode cL_cat 1 = .ok (.iconst 0, 1) := by decide +kernel
theorem dL_cat_2 : decode cL_cat 2 = .ok (.aload_n 0, 1) := by decide +kernel
theorem dL_cat_3 : decode cL_cat 3 = .ok (.iload_n 1, 1) := by decide +kernel
theorem dL_cat_4 : decode cL_cat 4 = .ok (.iload_n 2, 1) := by decide +kernel
theorem dL_cat_5 : decode cL_cat 5 = .ok (.invokevirtual 15, 3) := by decide +kernel
theorem dL_cat_8 : decode cL_cat 8 = .ok (.i2l, 1) := by decide +kernel
theorem dL_cat_9 : decode cL_cat 9 = .ok (.lastore, 1) := by decide +kernel
theorem dL_cat_10 : decode cL_cat 10 = .ok (.goto 7, 3) := by decide +kernel
theorem dL_cat_13 : decode cL_cat 13 = .ok (.astore 4, 2) := by decide +kernel
theorem dL_cat_15 : decode cL_cat 15 = .ok (.iconst 1, 1) := by decide +kernel
theorem dL_cat_16 : decode cL_cat 16 = .ok (.ireturn, 1) := by decide +kernel
theorem dL_cat_17 : decode cL_cat 17 = .ok (.iconst 0, 1) := by decide +kernel
theorem dL_cat_18 : decode cL_cat 18 = .ok (.ireturn, 1) := by decide +kernel
def p_L_cat (F : Nat) (p1 : Int32) (p2 : Int32) (x_now_arches : Int32) (x_now_cats : Int32) (x_now_hour : Int32) (f_now_joy : Nat → Int32) (f_now_bowl : Nat → Int32) (f_now_grief : Nat → Int32) (f_now_place : Nat → Int32) (x_ruling_size : Int32) (x_ruling_top : Int32) (f_ruling_steps : Nat → Int32) (f_ruling_stack : Nat → Int32) (f_now_sag : Nat → Int32) (f_now_load : Nat → Int32) (f_out : Nat → Int64) (Post : Int32 → ((Nat → Int64) × (Int32 × (Nat → Int32))) → Prop) : Prop := p_X7_cat F p1 p2 x_now_arches x_now_cats x_now_hour f_now_joy f_now_bowl f_now_grief f_now_place x_ruling_size x_ruling_top f_ruling_steps f_ruling_stack f_now_sag f_now_load (fun r u => Post 0 (vp_updL f_out (0 : Int32).toNatClampNeg r.toInt64, u)) (Post 1 (f_out, (x_ruling_top, f_ruling_stack)))
set_option maxHeartbeats 4000000 in
theorem c_L_cat (l : Launch) (D : va_G) (cT : Nat → ClassId) (F : Nat) (h : Nat) (p1 : Int32) (p2 : Int32) (w_text : Value) (w_told : Value) (q_now : Nat) (w_before : Value) (w_trial : Value) (w_past : Value) (w_kept : Value) (w_feltNotes : Value) (w_heardNotes : Value) (w_draws : Value) (w_purrs : Value) (w_alone : Value) (w_nimbers : Value) (w_ways : Value) (q_ruling : Nat) (w_spare : Value) (q_now_load : Nat) (q_now_sag : Nat) (q_now_joy : Nat) (q_now_bowl : Nat) (q_now_grief : Nat) (q_now_place : Nat) (x_now_arches : Int32) (x_now_cats : Int32) (x_now_store : Int32) (x_now_hour : Int32) (x_now_drops : Int32) (f_now_joy : Nat → Int32) (f_now_bowl : Nat → Int32) (f_now_grief : Nat → Int32) (f_now_place : Nat → Int32) (q_ruling_steps : Nat) (q_ruling_stack : Nat) (x_ruling_size : Int32) (x_ruling_top : Int32) (x_ruling_open : Int32) (x_ruling_compared : Int32) (x_ruling_digits : Int32) (x_ruling_wantsThing : Int32) (f_ruling_steps : Nat → Int32) (f_ruling_stack : Nat → Int32) (f_now_sag : Nat → Int32) (f_now_load : Nat → Int32) (q_out : Nat) (f_out : Nat → Int64) (Post : Int32 → ((Nat → Int64) × (Int32 × (Nat → Int32))) → Prop) (hfl : l.stackTraces = false) (hg : p_L_cat F p1 p2 x_now_arches x_now_cats x_now_hour f_now_joy f_now_bowl f_now_grief f_now_place x_ruling_size x_ruling_top f_ruling_steps f_ruling_stack f_now_sag f_now_load f_out Post) : MLi l D cT yL_cat cL_cat 5 (some .int) [(0, 10, 13, 13)] 7 130 1 6 [.ref h, .int p1, .int p2, .ref q_out] [(q_out, aJ cT 1 f_out), (h, oX7 w_text w_told (.ref q_now) w_before w_trial w_past w_kept w_feltNotes w_heardNotes w_draws w_purrs w_alone w_nimbers w_ways (.ref q_ruling) w_spare), (q_now, oX6 (.ref q_now_load) (.ref q_now_sag) (.ref q_now_joy) (.ref q_now_bowl) (.ref q_now_grief) (.ref q_now_place) (.int x_now_arches) (.int x_now_cats) (.int x_now_store) (.int x_now_hour) (.int x_now_drops)), (q_now_joy, aI cT 8 f_now_joy), (q_now_bowl, aI cT 8 f_now_bowl), (q_now_grief, aI cT 8 f_now_grief), (q_now_place, aI cT 8 f_now_place), (q_ruling, oX4 (.ref q_ruling_steps) (.ref q_ruling_stack) (.int x_ruling_size) (.int x_ruling_top) (.int x_ruling_open) (.int x_ruling_compared) (.int x_ruling_digits) (.int x_ruling_wantsThing)), (q_ruling_steps, aI cT 40 f_ruling_steps), (q_ruling_stack, aI cT 40 f_ruling_stack), (q_now_sag, aI cT 6 f_now_sag), (q_now_load, aI cT 6 f_now_load)] Post (fun (u : ((Nat → Int64) × (Int32 × (Nat → Int32)))) => [(q_out, aJ cT 1 u.1), (h, oX7 w_text w_told (.ref q_now) w_before w_trial w_past w_kept w_feltNotes w_heardNotes w_draws w_purrs w_alone w_nimbers w_ways (.ref q_ruling) w_spare), (q_now, oX6 (.ref q_now_load) (.ref q_now_sag) (.ref q_now_joy) (.ref q_now_bowl) (.ref q_now_grief) (.ref q_now_place) (.int x_now_arches) (.int x_now_cats) (.int x_now_store) (.int x_now_hour) (.int x_now_drops)), (q_now_joy, aI cT 8 f_now_joy), (q_now_bowl, aI cT 8 f_now_bowl), (q_now_grief, aI cT 8 f_now_grief), (q_now_place, aI cT 8 f_now_place), (q_ruling, oX4 (.ref q_ruling_steps) (.ref q_ruling_stack) (.int x_ruling_size) (.int u.2.1) (.int x_ruling_open) (.int x_ruling_compared) (.int x_ruling_digits) (.int x_ruling_wantsThing)), (q_ruling_steps, aI cT 40 f_ruling_steps), (q_ruling_stack, aI cT 40 u.2.2), (q_now_sag, aI cT 6 f_now_sag), (q_now_load, aI cT 6 f_now_load)]) := by
  refine MLi.of (by decide) (Nat.le_of_ble_eq_true rfl) ?_
  intro p e s m below meth c A hA C0 hE htab hr hP hD ls hl
  have hl : lv_has ls 5 [(0, .ref h), (1, .int p1), (2, .int p2), (3, .ref q_out)] := hl
  have hx := C0.x
  have hb := C0.b
  have hS : va_S A s.heap s.heap [] := va_S.rf
  unfold p_L_cat at hg
  refine lv_aload_n hx hb dL_cat_0 rfl (lv_at hl 3 rfl) ?_
  refine lv_iconst (v := (0 : Int32)) hx hb dL_cat_1 (by decide) ?_
  refine lv_aload_n hx hb dL_cat_2 rfl (lv_at hl 0 rfl) ?_
  refine lv_iload_n hx hb dL_cat_3 rfl (lv_at hl 1 rfl) ?_
  refine lv_iload_n hx hb dL_cat_4 rfl (lv_at hl 2 rfl) ?_
  refine k_VXi (rest := [.int 0, .ref q_out]) C0 hE lk_L_15 (c_X7_cat l D cT F h p1 p2 w_text w_told q_now w_before w_trial w_past w_kept w_feltNotes w_heardNotes w_draws w_purrs w_alone w_nimbers w_ways q_ruling w_spare q_now_load q_now_sag q_now_joy q_now_bowl q_now_grief q_now_place x_now_arches x_now_cats x_now_store x_now_hour x_now_drops f_now_joy f_now_bowl f_now_grief f_now_place q_ruling_steps q_ruling_stack x_ruling_size x_ruling_top x_ruling_open x_ruling_compared x_ruling_digits x_ruling_wantsThing f_ruling_steps f_ruling_stack f_now_sag f_now_load _ _ hfl hg) hP hD hS hA [1, 2, 3, 4, 5, 6, 7, 8, 9, 10, 11] [0] (by decide +kernel) rfl (wr := [(q_out, aJ cT 1 f_out)]) rfl (fun _ => rfl) rfl rfl rfl ⟨Nat.le_of_ble_eq_true rfl, Nat.le_of_ble_eq_true rfl⟩ rfl hl.1 rfl (Nat.le_of_ble_eq_true rfl) dL_cat_5 ⟨Nat.le_of_ble_eq_true rfl, Nat.le_of_ble_eq_true rfl⟩ (fun q9 ce H locs hg hce hcv hfc hP hD hS => ?_) (fun r u H locs hg hP hD hS => ?_)
  · refine vx_catch C0.ow [] ⟨0, 10, 13, 13⟩ [] htab (fun z hz => by cases hz) (by decide) (by decide) (C0.t w4_86) (hE.2.2.2.use rfl) hce hcv hfc ?_
    refine lv_astore hx hb dL_cat_13 hl (by decide) rfl (fun ls hl => ?_)
    refine lv_iconst (v := (1 : Int32)) hx hb dL_cat_15 (by decide) ?_
    exact k_iret C0 hr (f_out, (x_ruling_top, f_ruling_stack)) hg hP hD hS dL_cat_16
  refine lv_i2l (v := r.toInt64) hx hb dL_cat_8 rfl ?_
  refine k_last C0 hP hD hS 0 rfl (by unfold vp_in; decide) rfl dL_cat_9 (fun H locs hP hD hS => ?_)
  refine lv_goto (tgt := 17) hx hb dL_cat_10 (by decide) ?_
  refine lv_iconst (v := (0 : Int32)) hx hb dL_cat_17 (by decide) ?_
  exact k_iret C0 hr (vp_updL f_out (0 : Int32).toNatClampNeg r.toInt64, u) hg hP hD hS dL_cat_18
theorem dL_row_0 : decode cL_row 0 = .ok (.aload_n 2, 1) := by decide +kernel
theorem dL_row_1 : decode cL_row 1 = .ok (.iconst 0, 1) := by decide +kernel
theorem dL_row_2 : decode cL_row 2 = .ok (.aload_n 0, 1) := by decide +kernel
theorem dL_row_3 : decode cL_row 3 = .ok (.iload_n 1, 1) := by decide +kernel
theorem dL_row_4 : decode cL_row 4 = .ok (.invokevirtual 18, 3) := by decide +kernel
theorem dL_row_7 : decode cL_row 7 = .ok (.lastore, 1) := by decide +kernel
theorem dL_row_8 : decode cL_row 8 = .ok (.goto 6, 3) := by decide +kernel
theorem dL_row_11 : decode cL_row 11 = .ok (.astore_n 3, 1) := by decide +kernel
theorem dL_row_12 : decode cL_row 12 = .ok (.iconst 1, 1) := by decide +kernel
theorem dL_row_13 : decode cL_row 13 = .ok (.ireturn, 1) := by decide +kernel
theorem dL_row_14 : decode cL_row 14 = .ok (.iconst 0, 1) := by decide +kernel
theorem dL_row_15 : decode cL_row 15 = .ok (.ireturn, 1) := by decide +kernel
def p_L_row (F : Nat) (p1 : Int32) (x_told_size : Int32) (f_told_numbers : Nat → Int64) (f_out : Nat → Int64) (Post : Int32 → ((Nat → Int64) × Unit) → Prop) : Prop := p_X7_row F p1 x_told_size f_told_numbers (fun r u => Post 0 (vp_updL f_out (0 : Int32).toNatClampNeg r, u)) (Post 1 (f_out, ()))
set_option maxHeartbeats 4000000 in
theorem c_L_row (l : Launch) (D : va_G) (cT : Nat → ClassId) (F : Nat) (h : Nat) (p1 : Int32) (w_text : Value) (q_told : Nat) (w_now : Value) (w_before : Value) (w_trial : Value) (w_past : Value) (w_kept : Value) (w_feltNotes : Value) (w_heardNotes : Value) (w_draws : Value) (w_purrs : Value) (w_alone : Value) (w_nimbers : Value) (w_ways : Value) (w_ruling : Value) (w_spare : Value) (q_told_numbers : Nat) (x_told_size : Int32) (f_told_numbers : Nat → Int64) (q_out : Nat) (f_out : Nat → Int64) (Post : Int32 → ((Nat → Int64) × Unit) → Prop) (hfl : l.stackTraces = false) (hg : p_L_row F p1 x_told_size f_told_numbers f_out Post) : MLi l D cT yL_row cL_row 4 (some .int) [(0, 8, 11, 13)] 7 129 1 6 [.ref h, .int p1, .ref q_out] [(q_out, aJ cT 1 f_out), (h, oX7 w_text (.ref q_told) w_now w_before w_trial w_past w_kept w_feltNotes w_heardNotes w_draws w_purrs w_alone w_nimbers w_ways w_ruling w_spare), (q_told, oX3 (.ref q_told_numbers) (.int x_told_size)), (q_told_numbers, aJ cT 8 f_told_numbers)] Post (fun (u : ((Nat → Int64) × Unit)) => [(q_out, aJ cT 1 u.1), (h, oX7 w_text (.ref q_told) w_now w_before w_trial w_past w_kept w_feltNotes w_heardNotes w_draws w_purrs w_alone w_nimbers w_ways w_ruling w_spare), (q_told, oX3 (.ref q_told_numbers) (.int x_told_size)), (q_told_numbers, aJ cT 8 f_told_numbers)]) := by
  refine MLi.of (by decide) (Nat.le_of_ble_eq_true rfl) ?_
  intro p e s m below meth c A hA C0 hE htab hr hP hD ls hl
  have hl : lv_has ls 4 [(0, .ref h), (1, .int p1), (2, .ref q_out)] := hl
  have hx := C0.x
  have hb := C0.b
  have hS : va_S A s.heap s.heap [] := va_S.rf
  unfold p_L_row at hg
  refine lv_aload_n hx hb dL_row_0 rfl (lv_at hl 2 rfl) ?_
  refine lv_iconst (v := (0 : Int32)) hx hb dL_row_1 (by decide) ?_
  refine lv_aload_n hx hb dL_row_2 rfl (lv_at hl 0 rfl) ?_
  refine lv_iload_n hx hb dL_row_3 rfl (lv_at hl 1 rfl) ?_
  refine k_VXl (rest := [.int 0, .ref q_out]) C0 hE lk_L_18 (c_X7_row l D cT F h p1 w_text q_told w_now w_before w_trial w_past w_kept w_feltNotes w_heardNotes w_draws w_purrs w_alone w_nimbers w_ways w_ruling w_spare q_told_numbers x_told_size f_told_numbers _ _ hfl hg) hP hD hS hA [1, 2, 3] [0] (by decide +kernel) rfl (wr := [(q_out, aJ cT 1 f_out)]) rfl (fun _ => rfl) rfl rfl rfl ⟨Nat.le_of_ble_eq_true rfl, Nat.le_of_ble_eq_true rfl⟩ rfl hl.1 rfl (Nat.le_of_ble_eq_true rfl) dL_row_4 ⟨Nat.le_of_ble_eq_true rfl, Nat.le_of_ble_eq_true rfl⟩ (fun q9 ce H locs hg hce hcv hfc hP hD hS => ?_) (fun r u H locs hg hP hD hS => ?_)
  · refine vx_catch C0.ow [] ⟨0, 8, 11, 13⟩ [] htab (fun z hz => by cases hz) (by decide) (by decide) (C0.t w4_86) (hE.2.2.2.use rfl) hce hcv hfc ?_
    refine lv_astore_n hx hb dL_row_11 rfl hl (by decide) rfl (fun ls hl => ?_)
    refine lv_iconst (v := (1 : Int32)) hx hb dL_row_12 (by decide) ?_
    exact k_iret C0 hr (f_out, ()) hg hP hD hS dL_row_13
  refine k_last C0 hP hD hS 0 rfl (by unfold vp_in; decide) rfl dL_row_7 (fun H locs hP hD hS => ?_)
  refine lv_goto (tgt := 14) hx hb dL_row_8 (by decide) ?_
  refine lv_iconst (v := (0 : Int32)) hx hb dL_row_14 (by decide) ?_
  exact k_iret C0 hr (vp_updL f_out (0 : Int32).toNatClampNeg r, u) hg hP hD hS dL_row_15
