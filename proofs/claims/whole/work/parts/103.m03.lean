theorem dX6_feed_0 : decode cX6_feed 0 = .ok (.aload_n 0, 1) := by decide +kernel
theorem dX6_feed_1 : decode cX6_feed 1 = .ok (.iload_n 1, 1) := by decide +kernel
theorem dX6_feed_2 : decode cX6_feed 2 = .ok (.invokevirtual 52, 3) := by decide +kernel
theorem dX6_feed_5 : decode cX6_feed 5 = .ok (.ifCond .eq 14, 3) := by decide +kernel
theorem dX6_feed_8 : decode cX6_feed 8 = .ok (.iload_n 2, 1) := by decide +kernel
theorem dX6_feed_9 : decode cX6_feed 9 = .ok (.iconst 1, 1) := by decide +kernel
theorem dX6_feed_10 : decode cX6_feed 10 = .ok (.if_icmp .lt 9, 3) := by decide +kernel
theorem dX6_feed_13 : decode cX6_feed 13 = .ok (.iload_n 2, 1) := by decide +kernel
theorem dX6_feed_14 : decode cX6_feed 14 = .ok (.bipush 9, 2) := by decide +kernel
theorem dX6_feed_16 : decode cX6_feed 16 = .ok (.if_icmp .le 5, 3) := by decide +kernel
theorem dX6_feed_19 : decode cX6_feed 19 = .ok (.iconst (-1), 1) := by decide +kernel
theorem dX6_feed_20 : decode cX6_feed 20 = .ok (.ireturn, 1) := by decide +kernel
theorem dX6_feed_21 : decode cX6_feed 21 = .ok (.aload_n 0, 1) := by decide +kernel
theorem dX6_feed_22 : decode cX6_feed 22 = .ok (.getfield 30, 3) := by decide +kernel
theorem dX6_feed_25 : decode cX6_feed 25 = .ok (.iload_n 2, 1) := by decide +kernel
theorem dX6_feed_26 : decode cX6_feed 26 = .ok (.if_icmp .ge 6, 3) := by decide +kernel
theorem dX6_feed_29 : decode cX6_feed 29 = .ok (.bipush (-2), 2) := by decide +kernel
theorem dX6_feed_31 : decode cX6_feed 31 = .ok (.ireturn, 1) := by decide +kernel
theorem dX6_feed_32 : decode cX6_feed 32 = .ok (.aload_n 0, 1) := by decide +kernel
theorem dX6_feed_33 : decode cX6_feed 33 = .ok (.getfield 21, 3) := by decide +kernel
theorem dX6_feed_36 : decode cX6_feed 36 = .ok (.iload_n 1, 1) := by decide +kernel
theorem dX6_feed_37 : decode cX6_feed 37 = .ok (.iaload, 1) := by decide +kernel
theorem dX6_feed_38 : decode cX6_feed 38 = .ok (.iload_n 2, 1) := by decide +kernel
theorem dX6_feed_39 : decode cX6_feed 39 = .ok (.iadd, 1) := by decide +kernel
theorem dX6_feed_40 : decode cX6_feed 40 = .ok (.bipush 9, 2) := by decide +kernel
theorem dX6_feed_42 : decode cX6_feed 42 = .ok (.if_icmp .le 6, 3) := by decide +kernel
theorem dX6_feed_45 : decode cX6_feed 45 = .ok (.bipush (-3), 2) := by decide +kernel
theorem dX6_feed_47 : decode cX6_feed 47 = .ok (.ireturn, 1) := by decide +kernel
theorem dX6_feed_48 : decode cX6_feed 48 = .ok (.aload_n 0, 1) := by decide +kernel
theorem dX6_feed_49 : decode cX6_feed 49 = .ok (.dup, 1) := by decide +kernel
theorem dX6_feed_50 : decode cX6_feed 50 = .ok (.getfield 30, 3) := by decide +kernel
theorem dX6_feed_53 : decode cX6_feed 53 = .ok (.iload_n 2, 1) := by decide +kernel
theorem dX6_feed_54 : decode cX6_feed 54 = .ok (.isub, 1) := by decide +kernel
theorem dX6_feed_55 : decode cX6_feed 55 = .ok (.putfield 30, 3) := by decide +kernel
theorem dX6_feed_58 : decode cX6_feed 58 = .ok (.aload_n 0, 1) := by decide +kernel
theorem dX6_feed_59 : decode cX6_feed 59 = .ok (.getfield 21, 3) := by decide +kernel
theorem dX6_feed_62 : decode cX6_feed 62 = .ok (.iload_n 1, 1) := by decide +kernel
theorem dX6_feed_63 : decode cX6_feed 63 = .ok (.dup2, 1) := by decide +kernel
theorem dX6_feed_64 : decode cX6_feed 64 = .ok (.iaload, 1) := by decide +kernel
theorem dX6_feed_65 : decode cX6_feed 65 = .ok (.iload_n 2, 1) := by decide +kernel
theorem dX6_feed_66 : decode cX6_feed 66 = .ok (.iadd, 1) := by decide +kernel
theorem dX6_feed_67 : decode cX6_feed 67 = .ok (.iastore, 1) := by decide +kernel
theorem dX6_feed_68 : decode cX6_feed 68 = .ok (.aload_n 0, 1) := by decide +kernel
theorem dX6_feed_69 : decode cX6_feed 69 = .ok (.getfield 21, 3) := by decide +kernel
theorem dX6_feed_72 : decode cX6_feed 72 = .ok (.iload_n 1, 1) := by decide +kernel
theorem dX6_feed_73 : decode cX6_feed 73 = .ok (.iaload, 1) := by decide +kernel
theorem dX6_feed_74 : decode cX6_feed 74 = .ok (.ireturn, 1) := by decide +kernel
def p_X6_feed (F : Nat) (p1 : Int32) (p2 : Int32) (x_cats : Int32) (x_store : Int32) (f_bowl : Nat → Int32) (Post : Int32 → (Int32 × (Nat → Int32)) → Prop) : Prop := (p_X6_hasCat F p1 x_cats (fun (r_2 : Int32) => ((r_2 = 0 → (Post (-1 : Int32) (x_store, f_bowl))) ∧ (¬ r_2 = 0 → ((p2 < (1 : Int32) → (Post (-1 : Int32) (x_store, f_bowl))) ∧ (¬ p2 < (1 : Int32) → ((p2 ≤ (9 : Int32) → ((p2 ≤ x_store → (vp_in p1 8 ∧ ((((f_bowl p1.toNatClampNeg) + p2) ≤ (9 : Int32) → (vp_in p1 8 ∧ (vp_in p1 8 ∧ (vp_in p1 8 ∧ (Post ((upd f_bowl p1.toNatClampNeg ((f_bowl p1.toNatClampNeg) + p2)) p1.toNatClampNeg) ((x_store - p2), (upd f_bowl p1.toNatClampNeg ((f_bowl p1.toNatClampNeg) + p2)))))))) ∧ (¬ ((f_bowl p1.toNatClampNeg) + p2) ≤ (9 : Int32) → (Post (-3 : Int32) (x_store, f_bowl)))))) ∧ (¬ p2 ≤ x_store → (Post (-2 : Int32) (x_store, f_bowl))))) ∧ (¬ p2 ≤ (9 : Int32) → (Post (-1 : Int32) (x_store, f_bowl))))))))))
set_option maxHeartbeats 4000000 in
set_option maxRecDepth 100000 in
theorem c_X6_feed (l : Launch) (D : va_G) (cT : Nat → ClassId) (F : Nat) (h : Nat) (p1 : Int32) (p2 : Int32) (w_load : Value) (w_sag : Value) (w_joy : Value) (q_bowl : Nat) (w_grief : Value) (w_place : Value) (x_arches : Int32) (x_cats : Int32) (x_store : Int32) (x_hour : Int32) (x_drops : Int32) (f_bowl : Nat → Int32) (Post : Int32 → (Int32 × (Nat → Int32)) → Prop) (hg : p_X6_feed F p1 p2 x_cats x_store f_bowl Post) : MWi l D cT yX6_feed cX6_feed 3 (some .int) 1 21 0 0 [.ref h, .int p1, .int p2] [(h, oX6 w_load w_sag w_joy (.ref q_bowl) w_grief w_place (.int x_arches) (.int x_cats) (.int x_store) (.int x_hour) (.int x_drops)), (q_bowl, aI cT 8 f_bowl)] Post (fun (u : (Int32 × (Nat → Int32))) => [(h, oX6 w_load w_sag w_joy (.ref q_bowl) w_grief w_place (.int x_arches) (.int x_cats) (.int u.1) (.int x_hour) (.int x_drops)), (q_bowl, aI cT 8 u.2)]) := by
  refine MWi.of (by decide) (Nat.le_of_ble_eq_true rfl) ?_
  intro p e s m below meth c A hA C0 hnm hr hP hD ls hl
  have hl : lv_has ls 3 [(0, .ref h), (1, .int p1), (2, .int p2)] := hl
  have hx := C0.x
  have hb := C0.b
  have hS : va_S A s.heap s.heap [] := va_S.rf
  have hP : va_P D cls9 [(h, oX6 w_load w_sag w_joy (.ref q_bowl) w_grief w_place (.int x_arches) (.int x_cats) (.int x_store) (.int x_hour) (.int x_drops)), (q_bowl, aI cT 8 f_bowl)] s.heap := hP
  have hD : va_D A [(h, oX6 w_load w_sag w_joy (.ref q_bowl) w_grief w_place (.int x_arches) (.int x_cats) (.int x_store) (.int x_hour) (.int x_drops)), (q_bowl, aI cT 8 f_bowl)] := hD
  unfold p_X6_feed at hg
  refine lv_aload_n hx hb dX6_feed_0 rfl (lv_at hl 0 rfl) ?_
  refine lv_iload_n hx hb dX6_feed_1 rfl (lv_at hl 1 rfl) ?_
  refine k_Vxi (rest := []) C0 lk_X6_52 (c_X6_hasCat l D cT F h p1 w_load w_sag w_joy (.ref q_bowl) w_grief w_place x_arches x_cats x_store x_hour x_drops _ hg) hP hD hS hA [0] (by decide +kernel) rfl rfl rfl ⟨Nat.le_of_ble_eq_true rfl, Nat.le_of_ble_eq_true rfl⟩ rfl hl.1 rfl (Nat.le_of_ble_eq_true rfl) dX6_feed_2 ⟨Nat.le_of_ble_eq_true rfl, Nat.le_of_ble_eq_true rfl⟩ (fun r_2 hg => ?_)
  refine lv_if_eq (tgt := 19) hx hb dX6_feed_5 (by decide) (fun c_5 => ?_) (fun c_5 => ?_)
  · have hg := hg.1 c_5
    refine lv_iconst (v := (-1 : Int32)) hx hb dX6_feed_19 (by decide) ?_
    exact k_iret C0 hr (x_store, f_bowl) hg hP hD hS dX6_feed_20
  have hg := hg.2 c_5
  refine lv_iload_n hx hb dX6_feed_8 rfl (lv_at hl 2 rfl) ?_
  refine lv_iconst (v := (1 : Int32)) hx hb dX6_feed_9 (by decide) ?_
  refine lv_icmp_lt (tgt := 19) hx hb dX6_feed_10 (by decide) (fun c_10 => ?_) (fun c_10 => ?_)
  · have hg := hg.1 c_10
    refine lv_iconst (v := (-1 : Int32)) hx hb dX6_feed_19 (by decide) ?_
    exact k_iret C0 hr (x_store, f_bowl) hg hP hD hS dX6_feed_20
  have hg := hg.2 c_10
  refine lv_iload_n hx hb dX6_feed_13 rfl (lv_at hl 2 rfl) ?_
  refine lv_bipush (v := (9 : Int32)) hx hb dX6_feed_14 (by decide) ?_
  refine lv_icmp_le (tgt := 21) hx hb dX6_feed_16 (by decide) (fun c_16 => ?_) (fun c_16 => ?_)
  · have hg := hg.1 c_16
    refine lv_aload_n hx hb dX6_feed_21 rfl (lv_at hl 0 rfl) ?_
    refine gf_X6_30 C0 hP 0 rfl rfl dX6_feed_22 ?_
    refine lv_iload_n hx hb dX6_feed_25 rfl (lv_at hl 2 rfl) ?_
    refine lv_icmp_ge (tgt := 32) hx hb dX6_feed_26 (by decide) (fun c_26 => ?_) (fun c_26 => ?_)
    · have hg := hg.1 c_26
      refine lv_aload_n hx hb dX6_feed_32 rfl (lv_at hl 0 rfl) ?_
      refine gf_X6_21 C0 hP 0 rfl rfl dX6_feed_33 ?_
      refine lv_iload_n hx hb dX6_feed_36 rfl (lv_at hl 1 rfl) ?_
      obtain ⟨g_37, hg⟩ := hg
      refine k_iald C0 hP 1 rfl g_37 dX6_feed_37 ?_
      refine lv_iload_n hx hb dX6_feed_38 rfl (lv_at hl 2 rfl) ?_
      refine lv_iadd hx hb dX6_feed_39 ?_
      refine lv_bipush (v := (9 : Int32)) hx hb dX6_feed_40 (by decide) ?_
      refine lv_icmp_le (tgt := 48) hx hb dX6_feed_42 (by decide) (fun c_42 => ?_) (fun c_42 => ?_)
      · have hg := hg.1 c_42
        refine lv_aload_n hx hb dX6_feed_48 rfl (lv_at hl 0 rfl) ?_
        refine lv_dup hx hb dX6_feed_49 rfl ?_
        refine gf_X6_30 C0 hP 0 rfl rfl dX6_feed_50 ?_
        refine lv_iload_n hx hb dX6_feed_53 rfl (lv_at hl 2 rfl) ?_
        refine lv_isub hx hb dX6_feed_54 ?_
        refine pf_X6_30 C0 hP hD hS 0 rfl (Nat.le_of_ble_eq_true rfl) (ws2 := [(h, oX6 w_load w_sag w_joy (.ref q_bowl) w_grief w_place (.int x_arches) (.int x_cats) (.int (x_store - p2)) (.int x_hour) (.int x_drops)), (q_bowl, aI cT 8 f_bowl)]) rfl dX6_feed_55 (fun H locs hP hD hS => ?_)
        refine lv_aload_n hx hb dX6_feed_58 rfl (lv_at hl 0 rfl) ?_
        refine gf_X6_21 C0 hP 0 rfl rfl dX6_feed_59 ?_
        refine lv_iload_n hx hb dX6_feed_62 rfl (lv_at hl 1 rfl) ?_
        refine lv_dup2_11 hx hb dX6_feed_63 rfl rfl ?_
        obtain ⟨g_64, hg⟩ := hg
        refine k_iald C0 hP 1 rfl g_64 dX6_feed_64 ?_
        refine lv_iload_n hx hb dX6_feed_65 rfl (lv_at hl 2 rfl) ?_
        refine lv_iadd hx hb dX6_feed_66 ?_
        obtain ⟨g_67, hg⟩ := hg
        refine k_iast C0 hP hD hS 1 rfl g_67 (ws' := [(h, oX6 w_load w_sag w_joy (.ref q_bowl) w_grief w_place (.int x_arches) (.int x_cats) (.int (x_store - p2)) (.int x_hour) (.int x_drops)), (q_bowl, aI cT 8 (upd f_bowl p1.toNatClampNeg ((f_bowl p1.toNatClampNeg) + p2)))]) rfl dX6_feed_67 (fun H locs hP hD hS => ?_)
        refine lv_aload_n hx hb dX6_feed_68 rfl (lv_at hl 0 rfl) ?_
        refine gf_X6_21 C0 hP 0 rfl rfl dX6_feed_69 ?_
        refine lv_iload_n hx hb dX6_feed_72 rfl (lv_at hl 1 rfl) ?_
        obtain ⟨g_73, hg⟩ := hg
        refine k_iald C0 hP 1 rfl g_73 dX6_feed_73 ?_
        exact k_iret C0 hr ((x_store - p2), (upd f_bowl p1.toNatClampNeg ((f_bowl p1.toNatClampNeg) + p2))) hg hP hD hS dX6_feed_74
      have hg := hg.2 c_42
      refine lv_bipush (v := (-3 : Int32)) hx hb dX6_feed_45 (by decide) ?_
      exact k_iret C0 hr (x_store, f_bowl) hg hP hD hS dX6_feed_47
    have hg := hg.2 c_26
    refine lv_bipush (v := (-2 : Int32)) hx hb dX6_feed_29 (by decide) ?_
    exact k_iret C0 hr (x_store, f_bowl) hg hP hD hS dX6_feed_31
  have hg := hg.2 c_16
  refine lv_iconst (v := (-1 : Int32)) hx hb dX6_feed_19 (by decide) ?_
  exact k_iret C0 hr (x_store, f_bowl) hg hP hD hS dX6_feed_20
theorem dX6_pet_0 : decode cX6_pet 0 = .ok (.aload_n 0, 1) := by decide +kernel
theorem dX6_pet_1 : decode cX6_pet 1 = .ok (.iload_n 1, 1) := by decide +kernel
theorem dX6_pet_2 : decode cX6_pet 2 = .ok (.invokevirtual 52, 3) := by decide +kernel
theorem dX6_pet_5 : decode cX6_pet 5 = .ok (.ifCond .ne 5, 3) := by decide +kernel
theorem dX6_pet_8 : decode cX6_pet 8 = .ok (.iconst (-1), 1) := by decide +kernel
theorem dX6_pet_9 : decode cX6_pet 9 = .ok (.ireturn, 1) := by decide +kernel
theorem dX6_pet_10 : decode cX6_pet 10 = .ok (.aload_n 0, 1) := by decide +kernel
theorem dX6_pet_11 : decode cX6_pet 11 = .ok (.getfield 18, 3) := by decide +kernel
theorem dX6_pet_14 : decode cX6_pet 14 = .ok (.iload_n 1, 1) := by decide +kernel
theorem dX6_pet_15 : decode cX6_pet 15 = .ok (.iaload, 1) := by decide +kernel
theorem dX6_pet_16 : decode cX6_pet 16 = .ok (.bipush 9, 2) := by decide +kernel
theorem dX6_pet_18 : decode cX6_pet 18 = .ok (.if_icmp .ne 6, 3) := by decide +kernel
theorem dX6_pet_21 : decode cX6_pet 21 = .ok (.bipush (-2), 2) := by decide +kernel
theorem dX6_pet_23 : decode cX6_pet 23 = .ok (.ireturn, 1) := by decide +kernel
theorem dX6_pet_24 : decode cX6_pet 24 = .ok (.aload_n 0, 1) := by decide +kernel
theorem dX6_pet_25 : decode cX6_pet 25 = .ok (.getfield 18, 3) := by decide +kernel
theorem dX6_pet_28 : decode cX6_pet 28 = .ok (.iload_n 1, 1) := by decide +kernel
theorem dX6_pet_29 : decode cX6_pet 29 = .ok (.dup2, 1) := by decide +kernel
theorem dX6_pet_30 : decode cX6_pet 30 = .ok (.iaload, 1) := by decide +kernel
theorem dX6_pet_31 : decode cX6_pet 31 = .ok (.iconst 1, 1) := by decide +kernel
theorem dX6_pet_32 : decode cX6_pet 32 = .ok (.iadd, 1) := by decide +kernel
theorem dX6_pet_33 : decode cX6_pet 33 = .ok (.iastore, 1) := by decide +kernel
theorem dX6_pet_34 : decode cX6_pet 34 = .ok (.aload_n 0, 1) := by decide +kernel
theorem dX6_pet_35 : decode cX6_pet 35 = .ok (.getfield 18, 3) := by decide +kernel
theorem dX6_pet_38 : decode cX6_pet 38 = .ok (.iload_n 1, 1) := by decide +kernel
theorem dX6_pet_39 : decode cX6_pet 39 = .ok (.iaload, 1) := by decide +kernel
theorem dX6_pet_40 : decode cX6_pet 40 = .ok (.ireturn, 1) := by decide +kernel
def p_X6_pet (F : Nat) (p1 : Int32) (x_cats : Int32) (f_joy : Nat → Int32) (Post : Int32 → (Nat → Int32) → Prop) : Prop := (p_X6_hasCat F p1 x_cats (fun (r_2 : Int32) => ((¬ r_2 = 0 → (vp_in p1 8 ∧ ((¬ (f_joy p1.toNatClampNeg) = (9 : Int32) → (vp_in p1 8 ∧ (vp_in p1 8 ∧ (vp_in p1 8 ∧ (Post ((upd f_joy p1.toNatClampNeg ((f_joy p1.toNatClampNeg) + (1 : Int32))) p1.toNatClampNeg) (upd f_joy p1.toNatClampNeg ((f_joy p1.toNatClampNeg) + (1 : Int32)))))))) ∧ ((f_joy p1.toNatClampNeg) = (9 : Int32) → (Post (-2 : Int32) f_joy))))) ∧ (r_2 = 0 → (Post (-1 : Int32) f_joy)))))
set_option maxHeartbeats 4000000 in
set_option maxRecDepth 100000 in
theorem c_X6_pet (l : Launch) (D : va_G) (cT : Nat → ClassId) (F : Nat) (h : Nat) (p1 : Int32) (w_load : Value) (w_sag : Value) (q_joy : Nat) (w_bowl : Value) (w_grief : Value) (w_place : Value) (x_arches : Int32) (x_cats : Int32) (x_store : Int32) (x_hour : Int32) (x_drops : Int32) (f_joy : Nat → Int32) (Post : Int32 → (Nat → Int32) → Prop) (hg : p_X6_pet F p1 x_cats f_joy Post) : MWi l D cT yX6_pet cX6_pet 2 (some .int) 1 21 0 0 [.ref h, .int p1] [(h, oX6 w_load w_sag (.ref q_joy) w_bowl w_grief w_place (.int x_arches) (.int x_cats) (.int x_store) (.int x_hour) (.int x_drops)), (q_joy, aI cT 8 f_joy)] Post (fun (u : (Nat → Int32)) => [(h, oX6 w_load w_sag (.ref q_joy) w_bowl w_grief w_place (.int x_arches) (.int x_cats) (.int x_store) (.int x_hour) (.int x_drops)), (q_joy, aI cT 8 u)]) := by
  refine MWi.of (by decide) (Nat.le_of_ble_eq_true rfl) ?_
  intro p e s m below meth c A hA C0 hnm hr hP hD ls hl
  have hl : lv_has ls 2 [(0, .ref h), (1, .int p1)] := hl
  have hx := C0.x
  have hb := C0.b
  have hS : va_S A s.heap s.heap [] := va_S.rf
  have hP : va_P D cls9 [(h, oX6 w_load w_sag (.ref q_joy) w_bowl w_grief w_place (.int x_arches) (.int x_cats) (.int x_store) (.int x_hour) (.int x_drops)), (q_joy, aI cT 8 f_joy)] s.heap := hP
  have hD : va_D A [(h, oX6 w_load w_sag (.ref q_joy) w_bowl w_grief w_place (.int x_arches) (.int x_cats) (.int x_store) (.int x_hour) (.int x_drops)), (q_joy, aI cT 8 f_joy)] := hD
  unfold p_X6_pet at hg
  refine lv_aload_n hx hb dX6_pet_0 rfl (lv_at hl 0 rfl) ?_
  refine lv_iload_n hx hb dX6_pet_1 rfl (lv_at hl 1 rfl) ?_
  refine k_Vxi (rest := []) C0 lk_X6_52 (c_X6_hasCat l D cT F h p1 w_load w_sag (.ref q_joy) w_bowl w_grief w_place x_arches x_cats x_store x_hour x_drops _ hg) hP hD hS hA [0] (by decide +kernel) rfl rfl rfl ⟨Nat.le_of_ble_eq_true rfl, Nat.le_of_ble_eq_true rfl⟩ rfl hl.1 rfl (Nat.le_of_ble_eq_true rfl) dX6_pet_2 ⟨Nat.le_of_ble_eq_true rfl, Nat.le_of_ble_eq_true rfl⟩ (fun r_2 hg => ?_)
  refine lv_if_ne (tgt := 10) hx hb dX6_pet_5 (by decide) (fun c_5 => ?_) (fun c_5 => ?_)
  · have hg := hg.1 c_5
    refine lv_aload_n hx hb dX6_pet_10 rfl (lv_at hl 0 rfl) ?_
    refine gf_X6_18 C0 hP 0 rfl rfl dX6_pet_11 ?_
    refine lv_iload_n hx hb dX6_pet_14 rfl (lv_at hl 1 rfl) ?_
    obtain ⟨g_15, hg⟩ := hg
    refine k_iald C0 hP 1 rfl g_15 dX6_pet_15 ?_
    refine lv_bipush (v := (9 : Int32)) hx hb dX6_pet_16 (by decide) ?_
    refine lv_icmp_ne (tgt := 24) hx hb dX6_pet_18 (by decide) (fun c_18 => ?_) (fun c_18 => ?_)
    · have hg := hg.1 c_18
      refine lv_aload_n hx hb dX6_pet_24 rfl (lv_at hl 0 rfl) ?_
      refine gf_X6_18 C0 hP 0 rfl rfl dX6_pet_25 ?_
      refine lv_iload_n hx hb dX6_pet_28 rfl (lv_at hl 1 rfl) ?_
      refine lv_dup2_11 hx hb dX6_pet_29 rfl rfl ?_
      obtain ⟨g_30, hg⟩ := hg
      refine k_iald C0 hP 1 rfl g_30 dX6_pet_30 ?_
      refine lv_iconst (v := (1 : Int32)) hx hb dX6_pet_31 (by decide) ?_
      refine lv_iadd hx hb dX6_pet_32 ?_
      obtain ⟨g_33, hg⟩ := hg
      refine k_iast C0 hP hD hS 1 rfl g_33 (ws' := [(h, oX6 w_load w_sag (.ref q_joy) w_bowl w_grief w_place (.int x_arches) (.int x_cats) (.int x_store) (.int x_hour) (.int x_drops)), (q_joy, aI cT 8 (upd f_joy p1.toNatClampNeg ((f_joy p1.toNatClampNeg) + (1 : Int32))))]) rfl dX6_pet_33 (fun H locs hP hD hS => ?_)
      refine lv_aload_n hx hb dX6_pet_34 rfl (lv_at hl 0 rfl) ?_
      refine gf_X6_18 C0 hP 0 rfl rfl dX6_pet_35 ?_
      refine lv_iload_n hx hb dX6_pet_38 rfl (lv_at hl 1 rfl) ?_
      obtain ⟨g_39, hg⟩ := hg
      refine k_iald C0 hP 1 rfl g_39 dX6_pet_39 ?_
      exact k_iret C0 hr (upd f_joy p1.toNatClampNeg ((f_joy p1.toNatClampNeg) + (1 : Int32))) hg hP hD hS dX6_pet_40
    have hg := hg.2 c_18
    refine lv_bipush (v := (-2 : Int32)) hx hb dX6_pet_21 (by decide) ?_
    exact k_iret C0 hr f_joy hg hP hD hS dX6_pet_23
  have hg := hg.2 c_5
  refine lv_iconst (v := (-1 : Int32)) hx hb dX6_pet_8 (by decide) ?_
  exact k_iret C0 hr f_joy hg hP hD hS dX6_pet_9
theorem dX6_sadden_0 : decode cX6_sadden 0 = .ok (.aload_n 0, 1) := by decide +kernel
theorem dX6_sadden_1 : decode cX6_sadden 1 = .ok (.iload_n 1, 1) := by decide +kernel
theorem dX6_sadden_2 : decode cX6_sadden 2 = .ok (.invokevirtual 52, 3) := by decide +kernel
theorem dX6_sadden_5 : decode cX6_sadden 5 = .ok (.ifCond .eq 14, 3) := by decide +kernel
theorem dX6_sadden_8 : decode cX6_sadden 8 = .ok (.iload_n 2, 1) := by decide +kernel
theorem dX6_sadden_9 : decode cX6_sadden 9 = .ok (.iconst 1, 1) := by decide +kernel
theorem dX6_sadden_10 : decode cX6_sadden 10 = .ok (.if_icmp .lt 9, 3) := by decide +kernel
theorem dX6_sadden_13 : decode cX6_sadden 13 = .ok (.iload_n 2, 1) := by decide +kernel
theorem dX6_sadden_14 : decode cX6_sadden 14 = .ok (.bipush 9, 2) := by decide +kernel
theorem dX6_sadden_16 : decode cX6_sadden 16 = .ok (.if_icmp .le 5, 3) := by decide +kernel
theorem dX6_sadden_19 : decode cX6_sadden 19 = .ok (.iconst (-1), 1) := by decide +kernel
theorem dX6_sadden_20 : decode cX6_sadden 20 = .ok (.ireturn, 1) := by decide +kernel
theorem dX6_sadden_21 : decode cX6_sadden 21 = .ok (.aload_n 0, 1) := by decide +kernel
theorem dX6_sadden_22 : decode cX6_sadden 22 = .ok (.getfield 24, 3) := by decide +kernel
theorem dX6_sadden_25 : decode cX6_sadden 25 = .ok (.iload_n 1, 1) := by decide +kernel
theorem dX6_sadden_26 : decode cX6_sadden 26 = .ok (.bipush 9, 2) := by decide +kernel
theorem dX6_sadden_28 : decode cX6_sadden 28 = .ok (.aload_n 0, 1) := by decide +kernel
theorem dX6_sadden_29 : decode cX6_sadden 29 = .ok (.getfield 24, 3) := by decide +kernel
theorem dX6_sadden_32 : decode cX6_sadden 32 = .ok (.iload_n 1, 1) := by decide +kernel
theorem dX6_sadden_33 : decode cX6_sadden 33 = .ok (.iaload, 1) := by decide +kernel
theorem dX6_sadden_34 : decode cX6_sadden 34 = .ok (.iload_n 2, 1) := by decide +kernel
theorem dX6_sadden_35 : decode cX6_sadden 35 = .ok (.iadd, 1) := by decide +kernel
theorem dX6_sadden_36 : decode cX6_sadden 36 = .ok (.invokestatic 56, 3) := by decide +kernel
theorem dX6_sadden_39 : decode cX6_sadden 39 = .ok (.iastore, 1) := by decide +kernel
theorem dX6_sadden_40 : decode cX6_sadden 40 = .ok (.aload_n 0, 1) := by decide +kernel
theorem dX6_sadden_41 : decode cX6_sadden 41 = .ok (.getfield 24, 3) := by decide +kernel
theorem dX6_sadden_44 : decode cX6_sadden 44 = .ok (.iload_n 1, 1) := by decide +kernel
theorem dX6_sadden_45 : decode cX6_sadden 45 = .ok (.iaload, 1) := by decide +kernel
theorem dX6_sadden_46 : decode cX6_sadden 46 = .ok (.ireturn, 1) := by decide +kernel
def p_X6_sadden (F : Nat) (p1 : Int32) (p2 : Int32) (x_cats : Int32) (f_grief : Nat → Int32) (Post : Int32 → (Nat → Int32) → Prop) : Prop := (p_X6_hasCat F p1 x_cats (fun (r_2 : Int32) => ((r_2 = 0 → (Post (-1 : Int32) f_grief)) ∧ (¬ r_2 = 0 → ((p2 < (1 : Int32) → (Post (-1 : Int32) f_grief)) ∧ (¬ p2 < (1 : Int32) → ((p2 ≤ (9 : Int32) → (vp_in p1 8 ∧ (vp_in p1 8 ∧ (vp_in p1 8 ∧ (Post ((upd f_grief p1.toNatClampNeg (if ((f_grief p1.toNatClampNeg) + p2) < (9 : Int32) then ((f_grief p1.toNatClampNeg) + p2) else (9 : Int32))) p1.toNatClampNeg) (upd f_grief p1.toNatClampNeg (if ((f_grief p1.toNatClampNeg) + p2) < (9 : Int32) then ((f_grief p1.toNatClampNeg) + p2) else (9 : Int32)))))))) ∧ (¬ p2 ≤ (9 : Int32) → (Post (-1 : Int32) f_grief)))))))))
set_option maxHeartbeats 4000000 in
set_option maxRecDepth 100000 in
theorem c_X6_sadden (l : Launch) (D : va_G) (cT : Nat → ClassId) (F : Nat) (h : Nat) (p1 : Int32) (p2 : Int32) (w_load : Value) (w_sag : Value) (w_joy : Value) (w_bowl : Value) (q_grief : Nat) (w_place : Value) (x_arches : Int32) (x_cats : Int32) (x_store : Int32) (x_hour : Int32) (x_drops : Int32) (f_grief : Nat → Int32) (Post : Int32 → (Nat → Int32) → Prop) (hg : p_X6_sadden F p1 p2 x_cats f_grief Post) : MWi l D cT yX6_sadden cX6_sadden 3 (some .int) 1 30 0 0 [.ref h, .int p1, .int p2] [(h, oX6 w_load w_sag w_joy w_bowl (.ref q_grief) w_place (.int x_arches) (.int x_cats) (.int x_store) (.int x_hour) (.int x_drops)), (q_grief, aI cT 8 f_grief)] Post (fun (u : (Nat → Int32)) => [(h, oX6 w_load w_sag w_joy w_bowl (.ref q_grief) w_place (.int x_arches) (.int x_cats) (.int x_store) (.int x_hour) (.int x_drops)), (q_grief, aI cT 8 u)]) := by
  refine MWi.of (by decide) (Nat.le_of_ble_eq_true rfl) ?_
  intro p e s m below meth c A hA C0 hnm hr hP hD ls hl
  have hl : lv_has ls 3 [(0, .ref h), (1, .int p1), (2, .int p2)] := hl
  have hx := C0.x
  have hb := C0.b
  have hS : va_S A s.heap s.heap [] := va_S.rf
  have hP : va_P D cls9 [(h, oX6 w_load w_sag w_joy w_bowl (.ref q_grief) w_place (.int x_arches) (.int x_cats) (.int x_store) (.int x_hour) (.int x_drops)), (q_grief, aI cT 8 f_grief)] s.heap := hP
  have hD : va_D A [(h, oX6 w_load w_sag w_joy w_bowl (.ref q_grief) w_place (.int x_arches) (.int x_cats) (.int x_store) (.int x_hour) (.int x_drops)), (q_grief, aI cT 8 f_grief)] := hD
  unfold p_X6_sadden at hg
  refine lv_aload_n hx hb dX6_sadden_0 rfl (lv_at hl 0 rfl) ?_
  refine lv_iload_n hx hb dX6_sadden_1 rfl (lv_at hl 1 rfl) ?_
  refine k_Vxi (rest := []) C0 lk_X6_52 (c_X6_hasCat l D cT F h p1 w_load w_sag w_joy w_bowl (.ref q_grief) w_place x_arches x_cats x_store x_hour x_drops _ hg) hP hD hS hA [0] (by decide +kernel) rfl rfl rfl ⟨Nat.le_of_ble_eq_true rfl, Nat.le_of_ble_eq_true rfl⟩ rfl hl.1 rfl (Nat.le_of_ble_eq_true rfl) dX6_sadden_2 ⟨Nat.le_of_ble_eq_true rfl, Nat.le_of_ble_eq_true rfl⟩ (fun r_2 hg => ?_)
  refine lv_if_eq (tgt := 19) hx hb dX6_sadden_5 (by decide) (fun c_5 => ?_) (fun c_5 => ?_)
  · have hg := hg.1 c_5
    refine lv_iconst (v := (-1 : Int32)) hx hb dX6_sadden_19 (by decide) ?_
    exact k_iret C0 hr f_grief hg hP hD hS dX6_sadden_20
  have hg := hg.2 c_5
  refine lv_iload_n hx hb dX6_sadden_8 rfl (lv_at hl 2 rfl) ?_
  refine lv_iconst (v := (1 : Int32)) hx hb dX6_sadden_9 (by decide) ?_
  refine lv_icmp_lt (tgt := 19) hx hb dX6_sadden_10 (by decide) (fun c_10 => ?_) (fun c_10 => ?_)
  · have hg := hg.1 c_10
    refine lv_iconst (v := (-1 : Int32)) hx hb dX6_sadden_19 (by decide) ?_
    exact k_iret C0 hr f_grief hg hP hD hS dX6_sadden_20
  have hg := hg.2 c_10
  refine lv_iload_n hx hb dX6_sadden_13 rfl (lv_at hl 2 rfl) ?_
  refine lv_bipush (v := (9 : Int32)) hx hb dX6_sadden_14 (by decide) ?_
  refine lv_icmp_le (tgt := 21) hx hb dX6_sadden_16 (by decide) (fun c_16 => ?_) (fun c_16 => ?_)
  · have hg := hg.1 c_16
    refine lv_aload_n hx hb dX6_sadden_21 rfl (lv_at hl 0 rfl) ?_
    refine gf_X6_24 C0 hP 0 rfl rfl dX6_sadden_22 ?_
    refine lv_iload_n hx hb dX6_sadden_25 rfl (lv_at hl 1 rfl) ?_
    refine lv_bipush (v := (9 : Int32)) hx hb dX6_sadden_26 (by decide) ?_
    refine lv_aload_n hx hb dX6_sadden_28 rfl (lv_at hl 0 rfl) ?_
    refine gf_X6_24 C0 hP 0 rfl rfl dX6_sadden_29 ?_
    refine lv_iload_n hx hb dX6_sadden_32 rfl (lv_at hl 1 rfl) ?_
    obtain ⟨g_33, hg⟩ := hg
    refine k_iald C0 hP 1 rfl g_33 dX6_sadden_33 ?_
    refine lv_iload_n hx hb dX6_sadden_34 rfl (lv_at hl 2 rfl) ?_
    refine lv_iadd hx hb dX6_sadden_35 ?_
    refine k_min C0 w2_184 hl.1 (Nat.le_of_ble_eq_true rfl) (Nat.le_of_ble_eq_true rfl) (Nat.le_of_ble_eq_true rfl) (Nat.le_of_ble_eq_true rfl) dX6_sadden_36 ?_
    obtain ⟨g_39, hg⟩ := hg
    refine k_iast C0 hP hD hS 1 rfl g_39 (ws' := [(h, oX6 w_load w_sag w_joy w_bowl (.ref q_grief) w_place (.int x_arches) (.int x_cats) (.int x_store) (.int x_hour) (.int x_drops)), (q_grief, aI cT 8 (upd f_grief p1.toNatClampNeg (if ((f_grief p1.toNatClampNeg) + p2) < (9 : Int32) then ((f_grief p1.toNatClampNeg) + p2) else (9 : Int32))))]) rfl dX6_sadden_39 (fun H locs hP hD hS => ?_)
    refine lv_aload_n hx hb dX6_sadden_40 rfl (lv_at hl 0 rfl) ?_
    refine gf_X6_24 C0 hP 0 rfl rfl dX6_sadden_41 ?_
    refine lv_iload_n hx hb dX6_sadden_44 rfl (lv_at hl 1 rfl) ?_
    obtain ⟨g_45, hg⟩ := hg
    refine k_iald C0 hP 1 rfl g_45 dX6_sadden_45 ?_
    exact k_iret C0 hr (upd f_grief p1.toNatClampNeg (if ((f_grief p1.toNatClampNeg) + p2) < (9 : Int32) then ((f_grief p1.toNatClampNeg) + p2) else (9 : Int32))) hg hP hD hS dX6_sadden_46
  have hg := hg.2 c_16
  refine lv_iconst (v := (-1 : Int32)) hx hb dX6_sadden_19 (by decide) ?_
  exact k_iret C0 hr f_grief hg hP hD hS dX6_sadden_20
theorem dX6_seat_0 : decode cX6_seat 0 = .ok (.aload_n 0, 1) := by decide +kernel
theorem dX6_seat_1 : decode cX6_seat 1 = .ok (.iload_n 1, 1) := by decide +kernel
theorem dX6_seat_2 : decode cX6_seat 2 = .ok (.invokevirtual 52, 3) := by decide +kernel
theorem dX6_seat_5 : decode cX6_seat 5 = .ok (.ifCond .eq 11, 3) := by decide +kernel
theorem dX6_seat_8 : decode cX6_seat 8 = .ok (.aload_n 0, 1) := by decide +kernel
theorem dX6_seat_9 : decode cX6_seat 9 = .ok (.iload_n 2, 1) := by decide +kernel
theorem dX6_seat_10 : decode cX6_seat 10 = .ok (.invokevirtual 62, 3) := by decide +kernel
theorem dX6_seat_13 : decode cX6_seat 13 = .ok (.ifCond .ne 5, 3) := by decide +kernel
theorem dX6_seat_16 : decode cX6_seat 16 = .ok (.iconst (-1), 1) := by decide +kernel
theorem dX6_seat_17 : decode cX6_seat 17 = .ok (.ireturn, 1) := by decide +kernel
theorem dX6_seat_18 : decode cX6_seat 18 = .ok (.iload_n 2, 1) := by decide +kernel
theorem dX6_seat_19 : decode cX6_seat 19 = .ok (.aload_n 0, 1) := by decide +kernel
theorem dX6_seat_20 : decode cX6_seat 20 = .ok (.getfield 27, 3) := by decide +kernel
theorem dX6_seat_23 : decode cX6_seat 23 = .ok (.iload_n 1, 1) := by decide +kernel
theorem dX6_seat_24 : decode cX6_seat 24 = .ok (.iaload, 1) := by decide +kernel
theorem dX6_seat_25 : decode cX6_seat 25 = .ok (.isub, 1) := by decide +kernel
theorem dX6_seat_26 : decode cX6_seat 26 = .ok (.invokestatic 65, 3) := by decide +kernel
theorem dX6_seat_29 : decode cX6_seat 29 = .ok (.istore_n 3, 1) := by decide +kernel
theorem dX6_seat_30 : decode cX6_seat 30 = .ok (.aload_n 0, 1) := by decide +kernel
theorem dX6_seat_31 : decode cX6_seat 31 = .ok (.getfield 27, 3) := by decide +kernel
theorem dX6_seat_34 : decode cX6_seat 34 = .ok (.iload_n 1, 1) := by decide +kernel
theorem dX6_seat_35 : decode cX6_seat 35 = .ok (.iload_n 2, 1) := by decide +kernel
theorem dX6_seat_36 : decode cX6_seat 36 = .ok (.iastore, 1) := by decide +kernel
theorem dX6_seat_37 : decode cX6_seat 37 = .ok (.iload_n 3, 1) := by decide +kernel
theorem dX6_seat_38 : decode cX6_seat 38 = .ok (.ifCond .ne 8, 3) := by decide +kernel
theorem dX6_seat_41 : decode cX6_seat 41 = .ok (.bipush (-2), 2) := by decide +kernel
theorem dX6_seat_43 : decode cX6_seat 43 = .ok (.goto 4, 3) := by decide +kernel
theorem dX6_seat_46 : decode cX6_seat 46 = .ok (.iload_n 3, 1) := by decide +kernel
theorem dX6_seat_47 : decode cX6_seat 47 = .ok (.ireturn, 1) := by decide +kernel
def p_X6_seat (F : Nat) (p1 : Int32) (p2 : Int32) (x_arches : Int32) (x_cats : Int32) (f_place : Nat → Int32) (Post : Int32 → (Nat → Int32) → Prop) : Prop := (p_X6_hasCat F p1 x_cats (fun (r_2 : Int32) => ((r_2 = 0 → (Post (-1 : Int32) f_place)) ∧ (¬ r_2 = 0 → (p_X6_hasArch F p2 x_arches (fun (r_10 : Int32) => ((¬ r_10 = 0 → (vp_in p1 8 ∧ (vp_in p1 8 ∧ ((¬ (if 0 ≤ (p2 - (f_place p1.toNatClampNeg)) then (p2 - (f_place p1.toNatClampNeg)) else 0 - (p2 - (f_place p1.toNatClampNeg))) = 0 → (Post (if 0 ≤ (p2 - (f_place p1.toNatClampNeg)) then (p2 - (f_place p1.toNatClampNeg)) else 0 - (p2 - (f_place p1.toNatClampNeg))) (upd f_place p1.toNatClampNeg p2))) ∧ ((if 0 ≤ (p2 - (f_place p1.toNatClampNeg)) then (p2 - (f_place p1.toNatClampNeg)) else 0 - (p2 - (f_place p1.toNatClampNeg))) = 0 → (Post (-2 : Int32) (upd f_place p1.toNatClampNeg p2))))))) ∧ (r_10 = 0 → (Post (-1 : Int32) f_place)))))))))
set_option maxHeartbeats 4000000 in
set_option maxRecDepth 100000 in
theorem c_X6_seat (l : Launch) (D : va_G) (cT : Nat → ClassId) (F : Nat) (h : Nat) (p1 : Int32) (p2 : Int32) (w_load : Value) (w_sag : Value) (w_joy : Value) (w_bowl : Value) (w_grief : Value) (q_place : Nat) (x_arches : Int32) (x_cats : Int32) (x_store : Int32) (x_hour : Int32) (x_drops : Int32) (f_place : Nat → Int32) (Post : Int32 → (Nat → Int32) → Prop) (hg : p_X6_seat F p1 p2 x_arches x_cats f_place Post) : MWi l D cT yX6_seat cX6_seat 4 (some .int) 1 30 0 0 [.ref h, .int p1, .int p2] [(h, oX6 w_load w_sag w_joy w_bowl w_grief (.ref q_place) (.int x_arches) (.int x_cats) (.int x_store) (.int x_hour) (.int x_drops)), (q_place, aI cT 8 f_place)] Post (fun (u : (Nat → Int32)) => [(h, oX6 w_load w_sag w_joy w_bowl w_grief (.ref q_place) (.int x_arches) (.int x_cats) (.int x_store) (.int x_hour) (.int x_drops)), (q_place, aI cT 8 u)]) := by
  refine MWi.of (by decide) (Nat.le_of_ble_eq_true rfl) ?_
  intro p e s m below meth c A hA C0 hnm hr hP hD ls hl
  have hl : lv_has ls 4 [(0, .ref h), (1, .int p1), (2, .int p2)] := hl
  have hx := C0.x
  have hb := C0.b
  have hS : va_S A s.heap s.heap [] := va_S.rf
  have hP : va_P D cls9 [(h, oX6 w_load w_sag w_joy w_bowl w_grief (.ref q_place) (.int x_arches) (.int x_cats) (.int x_store) (.int x_hour) (.int x_drops)), (q_place, aI cT 8 f_place)] s.heap := hP
  have hD : va_D A [(h, oX6 w_load w_sag w_joy w_bowl w_grief (.ref q_place) (.int x_arches) (.int x_cats) (.int x_store) (.int x_hour) (.int x_drops)), (q_place, aI cT 8 f_place)] := hD
  unfold p_X6_seat at hg
  refine lv_aload_n hx hb dX6_seat_0 rfl (lv_at hl 0 rfl) ?_
  refine lv_iload_n hx hb dX6_seat_1 rfl (lv_at hl 1 rfl) ?_
  refine k_Vxi (rest := []) C0 lk_X6_52 (c_X6_hasCat l D cT F h p1 w_load w_sag w_joy w_bowl w_grief (.ref q_place) x_arches x_cats x_store x_hour x_drops _ hg) hP hD hS hA [0] (by decide +kernel) rfl rfl rfl ⟨Nat.le_of_ble_eq_true rfl, Nat.le_of_ble_eq_true rfl⟩ rfl hl.1 rfl (Nat.le_of_ble_eq_true rfl) dX6_seat_2 ⟨Nat.le_of_ble_eq_true rfl, Nat.le_of_ble_eq_true rfl⟩ (fun r_2 hg => ?_)
  refine lv_if_eq (tgt := 16) hx hb dX6_seat_5 (by decide) (fun c_5 => ?_) (fun c_5 => ?_)
  · have hg := hg.1 c_5
    refine lv_iconst (v := (-1 : Int32)) hx hb dX6_seat_16 (by decide) ?_
    exact k_iret C0 hr f_place hg hP hD hS dX6_seat_17
  have hg := hg.2 c_5
  refine lv_aload_n hx hb dX6_seat_8 rfl (lv_at hl 0 rfl) ?_
  refine lv_iload_n hx hb dX6_seat_9 rfl (lv_at hl 2 rfl) ?_
  refine k_Vxi (rest := []) C0 lk_X6_62 (c_X6_hasArch l D cT F h p2 w_load w_sag w_joy w_bowl w_grief (.ref q_place) x_arches x_cats x_store x_hour x_drops _ hg) hP hD hS hA [0] (by decide +kernel) rfl rfl rfl ⟨Nat.le_of_ble_eq_true rfl, Nat.le_of_ble_eq_true rfl⟩ rfl hl.1 rfl (Nat.le_of_ble_eq_true rfl) dX6_seat_10 ⟨Nat.le_of_ble_eq_true rfl, Nat.le_of_ble_eq_true rfl⟩ (fun r_10 hg => ?_)
  refine lv_if_ne (tgt := 18) hx hb dX6_seat_13 (by decide) (fun c_13 => ?_) (fun c_13 => ?_)
  · have hg := hg.1 c_13
    refine lv_iload_n hx hb dX6_seat_18 rfl (lv_at hl 2 rfl) ?_
    refine lv_aload_n hx hb dX6_seat_19 rfl (lv_at hl 0 rfl) ?_
    refine gf_X6_27 C0 hP 0 rfl rfl dX6_seat_20 ?_
    refine lv_iload_n hx hb dX6_seat_23 rfl (lv_at hl 1 rfl) ?_
    obtain ⟨g_24, hg⟩ := hg
    refine k_iald C0 hP 1 rfl g_24 dX6_seat_24 ?_
    refine lv_isub hx hb dX6_seat_25 ?_
    refine k_abs C0 w3_4 hl.1 (Nat.le_of_ble_eq_true rfl) (Nat.le_of_ble_eq_true rfl) (Nat.le_of_ble_eq_true rfl) (Nat.le_of_ble_eq_true rfl) dX6_seat_26 ?_
    refine lv_istore_n (lv' := [(3, .int (if 0 ≤ (p2 - (f_place p1.toNatClampNeg)) then (p2 - (f_place p1.toNatClampNeg)) else 0 - (p2 - (f_place p1.toNatClampNeg)))), (0, .ref h), (1, .int p1), (2, .int p2)]) hx hb dX6_seat_29 rfl hl (by decide) rfl (fun ls hl => ?_)
    refine lv_aload_n hx hb dX6_seat_30 rfl (lv_at hl 1 rfl) ?_
    refine gf_X6_27 C0 hP 0 rfl rfl dX6_seat_31 ?_
    refine lv_iload_n hx hb dX6_seat_34 rfl (lv_at hl 2 rfl) ?_
    refine lv_iload_n hx hb dX6_seat_35 rfl (lv_at hl 3 rfl) ?_
    obtain ⟨g_36, hg⟩ := hg
    refine k_iast C0 hP hD hS 1 rfl g_36 (ws' := [(h, oX6 w_load w_sag w_joy w_bowl w_grief (.ref q_place) (.int x_arches) (.int x_cats) (.int x_store) (.int x_hour) (.int x_drops)), (q_place, aI cT 8 (upd f_place p1.toNatClampNeg p2))]) rfl dX6_seat_36 (fun H locs hP hD hS => ?_)
    refine lv_iload_n hx hb dX6_seat_37 rfl (lv_at hl 0 rfl) ?_
    refine lv_if_ne (tgt := 46) hx hb dX6_seat_38 (by decide) (fun c_38 => ?_) (fun c_38 => ?_)
    · have hg := hg.1 c_38
      refine lv_iload_n hx hb dX6_seat_46 rfl (lv_at hl 0 rfl) ?_
      exact k_iret C0 hr (upd f_place p1.toNatClampNeg p2) hg hP hD hS dX6_seat_47
    have hg := hg.2 c_38
    refine lv_bipush (v := (-2 : Int32)) hx hb dX6_seat_41 (by decide) ?_
    refine lv_goto (tgt := 47) hx hb dX6_seat_43 (by decide) ?_
    exact k_iret C0 hr (upd f_place p1.toNatClampNeg p2) hg hP hD hS dX6_seat_47
  have hg := hg.2 c_13
  refine lv_iconst (v := (-1 : Int32)) hx hb dX6_seat_16 (by decide) ?_
  exact k_iret C0 hr f_place hg hP hD hS dX6_seat_17
theorem dX6_burden_0 : decode cX6_burden 0 = .ok (.aload_n 0, 1) := by decide +kernel
theorem dX6_burden_1 : decode cX6_burden 1 = .ok (.iload_n 1, 1) := by decide +kernel
theorem dX6_burden_2 : decode cX6_burden 2 = .ok (.invokevirtual 62, 3) := by decide +kernel
theorem dX6_burden_5 : decode cX6_burden 5 = .ok (.ifCond .eq 13, 3) := by decide +kernel
theorem dX6_burden_8 : decode cX6_burden 8 = .ok (.iload_n 2, 1) := by decide +kernel
theorem dX6_burden_9 : decode cX6_burden 9 = .ok (.ifCond .lt 9, 3) := by decide +kernel
theorem dX6_burden_12 : decode cX6_burden 12 = .ok (.iload_n 2, 1) := by decide +kernel
theorem dX6_burden_13 : decode cX6_burden 13 = .ok (.bipush 9, 2) := by decide +kernel
theorem dX6_burden_15 : decode cX6_burden 15 = .ok (.if_icmp .le 5, 3) := by decide +kernel
theorem dX6_burden_18 : decode cX6_burden 18 = .ok (.iconst (-1), 1) := by decide +kernel
theorem dX6_burden_19 : decode cX6_burden 19 = .ok (.ireturn, 1) := by decide +kernel
theorem dX6_burden_20 : decode cX6_burden 20 = .ok (.aload_n 0, 1) := by decide +kernel
theorem dX6_burden_21 : decode cX6_burden 21 = .ok (.getfield 9, 3) := by decide +kernel
theorem dX6_burden_24 : decode cX6_burden 24 = .ok (.iload_n 1, 1) := by decide +kernel
theorem dX6_burden_25 : decode cX6_burden 25 = .ok (.iaload, 1) := by decide +kernel
theorem dX6_burden_26 : decode cX6_burden 26 = .ok (.istore_n 3, 1) := by decide +kernel
theorem dX6_burden_27 : decode cX6_burden 27 = .ok (.aload_n 0, 1) := by decide +kernel
theorem dX6_burden_28 : decode cX6_burden 28 = .ok (.getfield 9, 3) := by decide +kernel
theorem dX6_burden_31 : decode cX6_burden 31 = .ok (.iload_n 1, 1) := by decide +kernel
theorem dX6_burden_32 : decode cX6_burden 32 = .ok (.iload_n 2, 1) := by decide +kernel
theorem dX6_burden_33 : decode cX6_burden 33 = .ok (.iastore, 1) := by decide +kernel
theorem dX6_burden_34 : decode cX6_burden 34 = .ok (.iload_n 3, 1) := by decide +kernel
theorem dX6_burden_35 : decode cX6_burden 35 = .ok (.iload_n 2, 1) := by decide +kernel
theorem dX6_burden_36 : decode cX6_burden 36 = .ok (.if_icmp .ne 8, 3) := by decide +kernel
theorem dX6_burden_39 : decode cX6_burden 39 = .ok (.bipush (-2), 2) := by decide +kernel
theorem dX6_burden_41 : decode cX6_burden 41 = .ok (.goto 7, 3) := by decide +kernel
theorem dX6_burden_44 : decode cX6_burden 44 = .ok (.bipush 10, 2) := by decide +kernel
theorem dX6_burden_46 : decode cX6_burden 46 = .ok (.iload_n 3, 1) := by decide +kernel
theorem dX6_burden_47 : decode cX6_burden 47 = .ok (.iadd, 1) := by decide +kernel
theorem dX6_burden_48 : decode cX6_burden 48 = .ok (.ireturn, 1) := by decide +kernel
def p_X6_burden (F : Nat) (p1 : Int32) (p2 : Int32) (x_arches : Int32) (f_load : Nat → Int32) (Post : Int32 → (Nat → Int32) → Prop) : Prop := (p_X6_hasArch F p1 x_arches (fun (r_2 : Int32) => ((r_2 = 0 → (Post (-1 : Int32) f_load)) ∧ (¬ r_2 = 0 → ((p2 < 0 → (Post (-1 : Int32) f_load)) ∧ (¬ p2 < 0 → ((p2 ≤ (9 : Int32) → (vp_in p1 6 ∧ (vp_in p1 6 ∧ ((¬ (f_load p1.toNatClampNeg) = p2 → (Post ((10 : Int32) + (f_load p1.toNatClampNeg)) (upd f_load p1.toNatClampNeg p2))) ∧ ((f_load p1.toNatClampNeg) = p2 → (Post (-2 : Int32) (upd f_load p1.toNatClampNeg p2))))))) ∧ (¬ p2 ≤ (9 : Int32) → (Post (-1 : Int32) f_load)))))))))
set_option maxHeartbeats 4000000 in
set_option maxRecDepth 100000 in
theorem c_X6_burden (l : Launch) (D : va_G) (cT : Nat → ClassId) (F : Nat) (h : Nat) (p1 : Int32) (p2 : Int32) (q_load : Nat) (w_sag : Value) (w_joy : Value) (w_bowl : Value) (w_grief : Value) (w_place : Value) (x_arches : Int32) (x_cats : Int32) (x_store : Int32) (x_hour : Int32) (x_drops : Int32) (f_load : Nat → Int32) (Post : Int32 → (Nat → Int32) → Prop) (hg : p_X6_burden F p1 p2 x_arches f_load Post) : MWi l D cT yX6_burden cX6_burden 4 (some .int) 1 21 0 0 [.ref h, .int p1, .int p2] [(h, oX6 (.ref q_load) w_sag w_joy w_bowl w_grief w_place (.int x_arches) (.int x_cats) (.int x_store) (.int x_hour) (.int x_drops)), (q_load, aI cT 6 f_load)] Post (fun (u : (Nat → Int32)) => [(h, oX6 (.ref q_load) w_sag w_joy w_bowl w_grief w_place (.int x_arches) (.int x_cats) (.int x_store) (.int x_hour) (.int x_drops)), (q_load, aI cT 6 u)]) := by
  refine MWi.of (by decide) (Nat.le_of_ble_eq_true rfl) ?_
  intro p e s m below meth c A hA C0 hnm hr hP hD ls hl
  have hl : lv_has ls 4 [(0, .ref h), (1, .int p1), (2, .int p2)] := hl
  have hx := C0.x
  have hb := C0.b
  have hS : va_S A s.heap s.heap [] := va_S.rf
  have hP : va_P D cls9 [(h, oX6 (.ref q_load) w_sag w_joy w_bowl w_grief w_place (.int x_arches) (.int x_cats) (.int x_store) (.int x_hour) (.int x_drops)), (q_load, aI cT 6 f_load)] s.heap := hP
  have hD : va_D A [(h, oX6 (.ref q_load) w_sag w_joy w_bowl w_grief w_place (.int x_arches) (.int x_cats) (.int x_store) (.int x_hour) (.int x_drops)), (q_load, aI cT 6 f_load)] := hD
  unfold p_X6_burden at hg
  refine lv_aload_n hx hb dX6_burden_0 rfl (lv_at hl 0 rfl) ?_
  refine lv_iload_n hx hb dX6_burden_1 rfl (lv_at hl 1 rfl) ?_
  refine k_Vxi (rest := []) C0 lk_X6_62 (c_X6_hasArch l D cT F h p1 (.ref q_load) w_sag w_joy w_bowl w_grief w_place x_arches x_cats x_store x_hour x_drops _ hg) hP hD hS hA [0] (by decide +kernel) rfl rfl rfl ⟨Nat.le_of_ble_eq_true rfl, Nat.le_of_ble_eq_true rfl⟩ rfl hl.1 rfl (Nat.le_of_ble_eq_true rfl) dX6_burden_2 ⟨Nat.le_of_ble_eq_true rfl, Nat.le_of_ble_eq_true rfl⟩ (fun r_2 hg => ?_)
  refine lv_if_eq (tgt := 18) hx hb dX6_burden_5 (by decide) (fun c_5 => ?_) (fun c_5 => ?_)
  · have hg := hg.1 c_5
    refine lv_iconst (v := (-1 : Int32)) hx hb dX6_burden_18 (by decide) ?_
    exact k_iret C0 hr f_load hg hP hD hS dX6_burden_19
  have hg := hg.2 c_5
  refine lv_iload_n hx hb dX6_burden_8 rfl (lv_at hl 2 rfl) ?_
  refine lv_if_lt (tgt := 18) hx hb dX6_burden_9 (by decide) (fun c_9 => ?_) (fun c_9 => ?_)
  · have hg := hg.1 c_9
    refine lv_iconst (v := (-1 : Int32)) hx hb dX6_burden_18 (by decide) ?_
    exact k_iret C0 hr f_load hg hP hD hS dX6_burden_19
  have hg := hg.2 c_9
  refine lv_iload_n hx hb dX6_burden_12 rfl (lv_at hl 2 rfl) ?_
  refine lv_bipush (v := (9 : Int32)) hx hb dX6_burden_13 (by decide) ?_
  refine lv_icmp_le (tgt := 20) hx hb dX6_burden_15 (by decide) (fun c_15 => ?_) (fun c_15 => ?_)
  · have hg := hg.1 c_15
    refine lv_aload_n hx hb dX6_burden_20 rfl (lv_at hl 0 rfl) ?_
    refine gf_X6_9 C0 hP 0 rfl rfl dX6_burden_21 ?_
    refine lv_iload_n hx hb dX6_burden_24 rfl (lv_at hl 1 rfl) ?_
    obtain ⟨g_25, hg⟩ := hg
    refine k_iald C0 hP 1 rfl g_25 dX6_burden_25 ?_
    refine lv_istore_n (lv' := [(3, .int (f_load p1.toNatClampNeg)), (0, .ref h), (1, .int p1), (2, .int p2)]) hx hb dX6_burden_26 rfl hl (by decide) rfl (fun ls hl => ?_)
    refine lv_aload_n hx hb dX6_burden_27 rfl (lv_at hl 1 rfl) ?_
    refine gf_X6_9 C0 hP 0 rfl rfl dX6_burden_28 ?_
    refine lv_iload_n hx hb dX6_burden_31 rfl (lv_at hl 2 rfl) ?_
    refine lv_iload_n hx hb dX6_burden_32 rfl (lv_at hl 3 rfl) ?_
    obtain ⟨g_33, hg⟩ := hg
    refine k_iast C0 hP hD hS 1 rfl g_33 (ws' := [(h, oX6 (.ref q_load) w_sag w_joy w_bowl w_grief w_place (.int x_arches) (.int x_cats) (.int x_store) (.int x_hour) (.int x_drops)), (q_load, aI cT 6 (upd f_load p1.toNatClampNeg p2))]) rfl dX6_burden_33 (fun H locs hP hD hS => ?_)
    refine lv_iload_n hx hb dX6_burden_34 rfl (lv_at hl 0 rfl) ?_
    refine lv_iload_n hx hb dX6_burden_35 rfl (lv_at hl 3 rfl) ?_
    refine lv_icmp_ne (tgt := 44) hx hb dX6_burden_36 (by decide) (fun c_36 => ?_) (fun c_36 => ?_)
    · have hg := hg.1 c_36
      refine lv_bipush (v := (10 : Int32)) hx hb dX6_burden_44 (by decide) ?_
      refine lv_iload_n hx hb dX6_burden_46 rfl (lv_at hl 0 rfl) ?_
      refine lv_iadd hx hb dX6_burden_47 ?_
      exact k_iret C0 hr (upd f_load p1.toNatClampNeg p2) hg hP hD hS dX6_burden_48
    have hg := hg.2 c_36
    refine lv_bipush (v := (-2 : Int32)) hx hb dX6_burden_39 (by decide) ?_
    refine lv_goto (tgt := 48) hx hb dX6_burden_41 (by decide) ?_
    exact k_iret C0 hr (upd f_load p1.toNatClampNeg p2) hg hP hD hS dX6_burden_48
  have hg := hg.2 c_15
  refine lv_iconst (v := (-1 : Int32)) hx hb dX6_burden_18 (by decide) ?_
  exact k_iret C0 hr f_load hg hP hD hS dX6_burden_19
theorem dX6_catsIn_0 : decode cX6_catsIn 0 = .ok (.iconst 0, 1) := by decide +kernel
theorem dX6_catsIn_1 : decode cX6_catsIn 1 = .ok (.istore_n 2, 1) := by decide +kernel
theorem dX6_catsIn_2 : decode cX6_catsIn 2 = .ok (.iconst 0, 1) := by decide +kernel
theorem dX6_catsIn_3 : decode cX6_catsIn 3 = .ok (.istore_n 3, 1) := by decide +kernel
theorem dX6_catsIn_4 : decode cX6_catsIn 4 = .ok (.iload_n 3, 1) := by decide +kernel
theorem dX6_catsIn_5 : decode cX6_catsIn 5 = .ok (.aload_n 0, 1) := by decide +kernel
theorem dX6_catsIn_6 : decode cX6_catsIn 6 = .ok (.getfield 37, 3) := by decide +kernel
theorem dX6_catsIn_9 : decode cX6_catsIn 9 = .ok (.if_icmp .ge 29, 3) := by decide +kernel
theorem dX6_catsIn_12 : decode cX6_catsIn 12 = .ok (.iload_n 2, 1) := by decide +kernel
theorem dX6_catsIn_13 : decode cX6_catsIn 13 = .ok (.aload_n 0, 1) := by decide +kernel
theorem dX6_catsIn_14 : decode cX6_catsIn 14 = .ok (.getfield 27, 3) := by decide +kernel
theorem dX6_catsIn_17 : decode cX6_catsIn 17 = .ok (.iload_n 3, 1) := by decide +kernel
theorem dX6_catsIn_18 : decode cX6_catsIn 18 = .ok (.iaload, 1) := by decide +kernel
theorem dX6_catsIn_19 : decode cX6_catsIn 19 = .ok (.iload_n 1, 1) := by decide +kernel
theorem dX6_catsIn_20 : decode cX6_catsIn 20 = .ok (.if_icmp .ne 9, 3) := by decide +kernel
theorem dX6_catsIn_23 : decode cX6_catsIn 23 = .ok (.iconst 1, 1) := by decide +kernel
theorem dX6_catsIn_24 : decode cX6_catsIn 24 = .ok (.iload_n 3, 1) := by decide +kernel
theorem dX6_catsIn_25 : decode cX6_catsIn 25 = .ok (.ishl, 1) := by decide +kernel
theorem dX6_catsIn_26 : decode cX6_catsIn 26 = .ok (.goto 4, 3) := by decide +kernel
theorem dX6_catsIn_29 : decode cX6_catsIn 29 = .ok (.iconst 0, 1) := by decide +kernel
theorem dX6_catsIn_30 : decode cX6_catsIn 30 = .ok (.ior, 1) := by decide +kernel
theorem dX6_catsIn_31 : decode cX6_catsIn 31 = .ok (.istore_n 2, 1) := by decide +kernel
theorem dX6_catsIn_32 : decode cX6_catsIn 32 = .ok (.iinc 3 1, 3) := by decide +kernel
theorem dX6_catsIn_35 : decode cX6_catsIn 35 = .ok (.goto (-31), 3) := by decide +kernel
theorem dX6_catsIn_38 : decode cX6_catsIn 38 = .ok (.iload_n 2, 1) := by decide +kernel
theorem dX6_catsIn_39 : decode cX6_catsIn 39 = .ok (.ireturn, 1) := by decide +kernel
def p_X6_catsIn_30 (F : Nat) (y3_4 : Int32) (y2_4 : Int32) (k4 : Int32 → Int32 → Prop) (Post : Int32 → Prop) (s1_30 : Int32) : Prop := (k4 (y3_4 + (1 : Int32)) (y2_4 ||| s1_30))
noncomputable def p_X6_catsIn_4 (F : Nat) (p1 : Int32) (x_cats : Int32) (f_place : Nat → Int32) (Post : Int32 → Prop) (n : Nat) : Int32 → Int32 → Prop := Nat.rec (motive := fun _ => Int32 → Int32 → Prop) (fun _ _ => False) (fun _ k4 => fun (y3_4 : Int32) (y2_4 : Int32) => ((x_cats ≤ y3_4 → (Post y2_4)) ∧ (¬ x_cats ≤ y3_4 → (vp_in y3_4 8 ∧ ((¬ (f_place y3_4.toNatClampNeg) = p1 → (p_X6_catsIn_30 F y3_4 y2_4 k4 Post (0 : Int32))) ∧ ((f_place y3_4.toNatClampNeg) = p1 → (p_X6_catsIn_30 F y3_4 y2_4 k4 Post ((1 : Int32) <<< (y3_4 &&& 31))))))))) n
theorem p_X6_catsIn_4_s (F : Nat) (p1 : Int32) (x_cats : Int32) (f_place : Nat → Int32) (Post : Int32 → Prop) (n : Nat) (y3_4 : Int32) (y2_4 : Int32) : p_X6_catsIn_4 F p1 x_cats f_place Post (n + 1) y3_4 y2_4 = ((x_cats ≤ y3_4 → (Post y2_4)) ∧ (¬ x_cats ≤ y3_4 → (vp_in y3_4 8 ∧ ((¬ (f_place y3_4.toNatClampNeg) = p1 → (p_X6_catsIn_30 F y3_4 y2_4 (p_X6_catsIn_4 F p1 x_cats f_place Post n) Post (0 : Int32))) ∧ ((f_place y3_4.toNatClampNeg) = p1 → (p_X6_catsIn_30 F y3_4 y2_4 (p_X6_catsIn_4 F p1 x_cats f_place Post n) Post ((1 : Int32) <<< (y3_4 &&& 31)))))))) := rfl
def p_X6_catsIn (F : Nat) (p1 : Int32) (x_cats : Int32) (f_place : Nat → Int32) (Post : Int32 → Prop) : Prop := (p_X6_catsIn_4 F p1 x_cats f_place Post F (0 : Int32) (0 : Int32))
set_option maxHeartbeats 4000000 in
set_option maxRecDepth 100000 in
theorem c_X6_catsIn (l : Launch) (D : va_G) (cT : Nat → ClassId) (F : Nat) (h : Nat) (p1 : Int32) (w_load : Value) (w_sag : Value) (w_joy : Value) (w_bowl : Value) (w_grief : Value) (q_place : Nat) (x_arches : Int32) (x_cats : Int32) (x_store : Int32) (x_hour : Int32) (x_drops : Int32) (f_place : Nat → Int32) (Post : Int32 → Prop) (hg : p_X6_catsIn F p1 x_cats f_place Post) : MRi l D cT yX6_catsIn cX6_catsIn 4 (some .int) 0 0 [.ref h, .int p1] [(h, oX6 w_load w_sag w_joy w_bowl w_grief (.ref q_place) (.int x_arches) (.int x_cats) (.int x_store) (.int x_hour) (.int x_drops)), (q_place, aI cT 8 f_place)] Post := by
  refine MRi.of (by decide) (Nat.le_of_ble_eq_true rfl) ?_
  intro p e s m below meth c hA C0 hr hP hD hS ls hl
  have hl : lv_has ls 4 [(0, .ref h), (1, .int p1)] := hl
  have hx := C0.x
  have hb := C0.b
  have hP : va_P D cls9 [(h, oX6 w_load w_sag w_joy w_bowl w_grief (.ref q_place) (.int x_arches) (.int x_cats) (.int x_store) (.int x_hour) (.int x_drops)), (q_place, aI cT 8 f_place)] s.heap := hP
  have hD : va_D (fun q => cT 6 ≤ q) [(h, oX6 w_load w_sag w_joy w_bowl w_grief (.ref q_place) (.int x_arches) (.int x_cats) (.int x_store) (.int x_hour) (.int x_drops)), (q_place, aI cT 8 f_place)] := hD
  have L4 : ∀ (n4 : Nat) (y3_4 : Int32) (y2_4 : Int32) (ls : Array Slot), p_X6_catsIn_4 F p1 x_cats f_place Post n4 y3_4 y2_4 → lv_has ls 4 [(0, .ref h), (1, .int p1), (2, .int y2_4), (3, .int y3_4)] → W p l e (rmO 0 0 0 0) s m ([.ref h, .int p1] : List Value).toArray below meth c s.heap [] 0 0 (MQ below (vp_Si Post) ([.ref h, .int p1] : List Value).toArray s 0 0 (fun _ => False)) (F0 m 4 ls []) := by
    intro n4
    induction n4 with
    | zero =>
      intro y3_4 y2_4 ls hg hl
      exact False.elim hg
    | succ n4 ih4 =>
      have L30 : ∀ (y3_4 : Int32) (y2_4 : Int32) (s1_30 : Int32) (ls : Array Slot), p_X6_catsIn_30 F y3_4 y2_4 (p_X6_catsIn_4 F p1 x_cats f_place Post n4) Post s1_30 → lv_has ls 4 [(0, .ref h), (1, .int p1), (3, .int y3_4)] → W p l e (rmO 0 0 0 0) s m ([.ref h, .int p1] : List Value).toArray below meth c s.heap [] 0 0 (MQ below (vp_Si Post) ([.ref h, .int p1] : List Value).toArray s 0 0 (fun _ => False)) (F0 m 30 ls [.int s1_30, .int y2_4]) := by
        intro y3_4 y2_4 s1_30 ls hg hl
        unfold p_X6_catsIn_30 at hg
        refine lv_ior hx hb dX6_catsIn_30 ?_
        refine lv_istore_n (lv' := [(2, .int (y2_4 ||| s1_30)), (0, .ref h), (1, .int p1), (3, .int y3_4)]) hx hb dX6_catsIn_31 rfl hl (by decide) rfl (fun ls hl => ?_)
        refine lv_iinc (v := (y3_4 + (1 : Int32))) (lv' := [(3, .int (y3_4 + (1 : Int32))), (2, .int (y2_4 ||| s1_30)), (0, .ref h), (1, .int p1)]) hx hb dX6_catsIn_32 hl (k := 3) rfl rfl (by decide) rfl (fun ls hl => ?_)
        refine lv_goto (tgt := 4) hx hb dX6_catsIn_35 (by decide) ?_
        exact ih4 (y3_4 + (1 : Int32)) (y2_4 ||| s1_30) _ hg (lv_sub hl [2, 3, 1, 0] rfl)
      intro y3_4 y2_4 ls hg hl
      rw [p_X6_catsIn_4_s] at hg
      refine lv_iload_n hx hb dX6_catsIn_4 rfl (lv_at hl 3 rfl) ?_
      refine lv_aload_n hx hb dX6_catsIn_5 rfl (lv_at hl 0 rfl) ?_
      refine gf_X6_37 C0 hP 0 rfl rfl dX6_catsIn_6 ?_
      refine lv_icmp_ge (tgt := 38) hx hb dX6_catsIn_9 (by decide) (fun c_9 => ?_) (fun c_9 => ?_)
      · have hg := hg.1 c_9
        refine lv_iload_n hx hb dX6_catsIn_38 rfl (lv_at hl 2 rfl) ?_
        exact k_xiret C0 hr hg dX6_catsIn_39
      have hg := hg.2 c_9
      refine lv_iload_n hx hb dX6_catsIn_12 rfl (lv_at hl 2 rfl) ?_
      refine lv_aload_n hx hb dX6_catsIn_13 rfl (lv_at hl 0 rfl) ?_
      refine gf_X6_27 C0 hP 0 rfl rfl dX6_catsIn_14 ?_
      refine lv_iload_n hx hb dX6_catsIn_17 rfl (lv_at hl 3 rfl) ?_
      obtain ⟨g_18, hg⟩ := hg
      refine k_iald C0 hP 1 rfl g_18 dX6_catsIn_18 ?_
      refine lv_iload_n hx hb dX6_catsIn_19 rfl (lv_at hl 1 rfl) ?_
      refine lv_icmp_ne (tgt := 29) hx hb dX6_catsIn_20 (by decide) (fun c_20 => ?_) (fun c_20 => ?_)
      · have hg := hg.1 c_20
        refine lv_iconst (v := (0 : Int32)) hx hb dX6_catsIn_29 (by decide) ?_
        exact L30 y3_4 y2_4 (0 : Int32) _ hg (lv_sub hl [0, 1, 3] rfl)
      have hg := hg.2 c_20
      refine lv_iconst (v := (1 : Int32)) hx hb dX6_catsIn_23 (by decide) ?_
      refine lv_iload_n hx hb dX6_catsIn_24 rfl (lv_at hl 3 rfl) ?_
      refine lv_ishl hx hb dX6_catsIn_25 ?_
      refine lv_goto (tgt := 30) hx hb dX6_catsIn_26 (by decide) ?_
      exact L30 y3_4 y2_4 ((1 : Int32) <<< (y3_4 &&& 31)) _ hg (lv_sub hl [0, 1, 3] rfl)
  unfold p_X6_catsIn at hg
  refine lv_iconst (v := (0 : Int32)) hx hb dX6_catsIn_0 (by decide) ?_
  refine lv_istore_n (lv' := [(2, .int (0 : Int32)), (0, .ref h), (1, .int p1)]) hx hb dX6_catsIn_1 rfl hl (by decide) rfl (fun ls hl => ?_)
  refine lv_iconst (v := (0 : Int32)) hx hb dX6_catsIn_2 (by decide) ?_
  refine lv_istore_n (lv' := [(3, .int (0 : Int32)), (2, .int (0 : Int32)), (0, .ref h), (1, .int p1)]) hx hb dX6_catsIn_3 rfl hl (by decide) rfl (fun ls hl => ?_)
  exact L4 F (0 : Int32) (0 : Int32) _ hg (lv_sub hl [2, 3, 1, 0] rfl)
theorem dJ6_bitCount_0f7a4_0 : decode cJ6_bitCount_0f7a4 0 = .ok (.iload_n 0, 1) := by decide +kernel
theorem dJ6_bitCount_0f7a4_1 : decode cJ6_bitCount_0f7a4 1 = .ok (.iload_n 0, 1) := by decide +kernel
theorem dJ6_bitCount_0f7a4_2 : decode cJ6_bitCount_0f7a4 2 = .ok (.iconst 1, 1) := by decide +kernel
theorem dJ6_bitCount_0f7a4_3 : decode cJ6_bitCount_0f7a4 3 = .ok (.iushr, 1) := by decide +kernel
theorem dJ6_bitCount_0f7a4_4 : decode cJ6_bitCount_0f7a4 4 = .ok (.ldc_w 265, 3) := by decide +kernel
theorem dJ6_bitCount_0f7a4_7 : decode cJ6_bitCount_0f7a4 7 = .ok (.iand, 1) := by decide +kernel
theorem dJ6_bitCount_0f7a4_8 : decode cJ6_bitCount_0f7a4 8 = .ok (.isub, 1) := by decide +kernel
theorem dJ6_bitCount_0f7a4_9 : decode cJ6_bitCount_0f7a4 9 = .ok (.istore_n 0, 1) := by decide +kernel
theorem dJ6_bitCount_0f7a4_10 : decode cJ6_bitCount_0f7a4 10 = .ok (.iload_n 0, 1) := by decide +kernel
theorem dJ6_bitCount_0f7a4_11 : decode cJ6_bitCount_0f7a4 11 = .ok (.ldc_w 266, 3) := by decide +kernel
theorem dJ6_bitCount_0f7a4_14 : decode cJ6_bitCount_0f7a4 14 = .ok (.iand, 1) := by decide +kernel
theorem dJ6_bitCount_0f7a4_15 : decode cJ6_bitCount_0f7a4 15 = .ok (.iload_n 0, 1) := by decide +kernel
theorem dJ6_bitCount_0f7a4_16 : decode cJ6_bitCount_0f7a4 16 = .ok (.iconst 2, 1) := by decide +kernel
theorem dJ6_bitCount_0f7a4_17 : decode cJ6_bitCount_0f7a4 17 = .ok (.iushr, 1) := by decide +kernel
theorem dJ6_bitCount_0f7a4_18 : decode cJ6_bitCount_0f7a4 18 = .ok (.ldc_w 266, 3) := by decide +kernel
theorem dJ6_bitCount_0f7a4_21 : decode cJ6_bitCount_0f7a4 21 = .ok (.iand, 1) := by decide +kernel
theorem dJ6_bitCount_0f7a4_22 : decode cJ6_bitCount_0f7a4 22 = .ok (.iadd, 1) := by decide +kernel
theorem dJ6_bitCount_0f7a4_23 : decode cJ6_bitCount_0f7a4 23 = .ok (.istore_n 0, 1) := by decide +kernel
theorem dJ6_bitCount_0f7a4_24 : decode cJ6_bitCount_0f7a4 24 = .ok (.iload_n 0, 1) := by decide +kernel
theorem dJ6_bitCount_0f7a4_25 : decode cJ6_bitCount_0f7a4 25 = .ok (.iload_n 0, 1) := by decide +kernel
theorem dJ6_bitCount_0f7a4_26 : decode cJ6_bitCount_0f7a4 26 = .ok (.iconst 4, 1) := by decide +kernel
theorem dJ6_bitCount_0f7a4_27 : decode cJ6_bitCount_0f7a4 27 = .ok (.iushr, 1) := by decide +kernel
theorem dJ6_bitCount_0f7a4_28 : decode cJ6_bitCount_0f7a4 28 = .ok (.iadd, 1) := by decide +kernel
theorem dJ6_bitCount_0f7a4_29 : decode cJ6_bitCount_0f7a4 29 = .ok (.ldc_w 267, 3) := by decide +kernel
theorem dJ6_bitCount_0f7a4_32 : decode cJ6_bitCount_0f7a4 32 = .ok (.iand, 1) := by decide +kernel
theorem dJ6_bitCount_0f7a4_33 : decode cJ6_bitCount_0f7a4 33 = .ok (.istore_n 0, 1) := by decide +kernel
theorem dJ6_bitCount_0f7a4_34 : decode cJ6_bitCount_0f7a4 34 = .ok (.iload_n 0, 1) := by decide +kernel
theorem dJ6_bitCount_0f7a4_35 : decode cJ6_bitCount_0f7a4 35 = .ok (.iload_n 0, 1) := by decide +kernel
theorem dJ6_bitCount_0f7a4_36 : decode cJ6_bitCount_0f7a4 36 = .ok (.bipush 8, 2) := by decide +kernel
theorem dJ6_bitCount_0f7a4_38 : decode cJ6_bitCount_0f7a4 38 = .ok (.iushr, 1) := by decide +kernel
theorem dJ6_bitCount_0f7a4_39 : decode cJ6_bitCount_0f7a4 39 = .ok (.iadd, 1) := by decide +kernel
theorem dJ6_bitCount_0f7a4_40 : decode cJ6_bitCount_0f7a4 40 = .ok (.istore_n 0, 1) := by decide +kernel
theorem dJ6_bitCount_0f7a4_41 : decode cJ6_bitCount_0f7a4 41 = .ok (.iload_n 0, 1) := by decide +kernel
theorem dJ6_bitCount_0f7a4_42 : decode cJ6_bitCount_0f7a4 42 = .ok (.iload_n 0, 1) := by decide +kernel
theorem dJ6_bitCount_0f7a4_43 : decode cJ6_bitCount_0f7a4 43 = .ok (.bipush 16, 2) := by decide +kernel
theorem dJ6_bitCount_0f7a4_45 : decode cJ6_bitCount_0f7a4 45 = .ok (.iushr, 1) := by decide +kernel
theorem dJ6_bitCount_0f7a4_46 : decode cJ6_bitCount_0f7a4 46 = .ok (.iadd, 1) := by decide +kernel
theorem dJ6_bitCount_0f7a4_47 : decode cJ6_bitCount_0f7a4 47 = .ok (.istore_n 0, 1) := by decide +kernel
theorem dJ6_bitCount_0f7a4_48 : decode cJ6_bitCount_0f7a4 48 = .ok (.iload_n 0, 1) := by decide +kernel
theorem dJ6_bitCount_0f7a4_49 : decode cJ6_bitCount_0f7a4 49 = .ok (.bipush 63, 2) := by decide +kernel
theorem dJ6_bitCount_0f7a4_51 : decode cJ6_bitCount_0f7a4 51 = .ok (.iand, 1) := by decide +kernel
theorem dJ6_bitCount_0f7a4_52 : decode cJ6_bitCount_0f7a4 52 = .ok (.ireturn, 1) := by decide +kernel
def p_J6_bitCount_0f7a4 (F : Nat) (p0 : Int32) (Post : Int32 → Prop) : Prop := (Post ((((((((p0 - (((p0.toUInt32 >>> ((1 : Int32).toUInt32 &&& Int32.toUInt32 31)).toInt32) &&& (1431655765 : Int32))) &&& (858993459 : Int32)) + ((((p0 - (((p0.toUInt32 >>> ((1 : Int32).toUInt32 &&& Int32.toUInt32 31)).toInt32) &&& (1431655765 : Int32))).toUInt32 >>> ((2 : Int32).toUInt32 &&& Int32.toUInt32 31)).toInt32) &&& (858993459 : Int32))) + (((((p0 - (((p0.toUInt32 >>> ((1 : Int32).toUInt32 &&& Int32.toUInt32 31)).toInt32) &&& (1431655765 : Int32))) &&& (858993459 : Int32)) + ((((p0 - (((p0.toUInt32 >>> ((1 : Int32).toUInt32 &&& Int32.toUInt32 31)).toInt32) &&& (1431655765 : Int32))).toUInt32 >>> ((2 : Int32).toUInt32 &&& Int32.toUInt32 31)).toInt32) &&& (858993459 : Int32))).toUInt32 >>> ((4 : Int32).toUInt32 &&& Int32.toUInt32 31)).toInt32)) &&& (252645135 : Int32)) + (((((((p0 - (((p0.toUInt32 >>> ((1 : Int32).toUInt32 &&& Int32.toUInt32 31)).toInt32) &&& (1431655765 : Int32))) &&& (858993459 : Int32)) + ((((p0 - (((p0.toUInt32 >>> ((1 : Int32).toUInt32 &&& Int32.toUInt32 31)).toInt32) &&& (1431655765 : Int32))).toUInt32 >>> ((2 : Int32).toUInt32 &&& Int32.toUInt32 31)).toInt32) &&& (858993459 : Int32))) + (((((p0 - (((p0.toUInt32 >>> ((1 : Int32).toUInt32 &&& Int32.toUInt32 31)).toInt32) &&& (1431655765 : Int32))) &&& (858993459 : Int32)) + ((((p0 - (((p0.toUInt32 >>> ((1 : Int32).toUInt32 &&& Int32.toUInt32 31)).toInt32) &&& (1431655765 : Int32))).toUInt32 >>> ((2 : Int32).toUInt32 &&& Int32.toUInt32 31)).toInt32) &&& (858993459 : Int32))).toUInt32 >>> ((4 : Int32).toUInt32 &&& Int32.toUInt32 31)).toInt32)) &&& (252645135 : Int32)).toUInt32 >>> ((8 : Int32).toUInt32 &&& Int32.toUInt32 31)).toInt32)) + ((((((((p0 - (((p0.toUInt32 >>> ((1 : Int32).toUInt32 &&& Int32.toUInt32 31)).toInt32) &&& (1431655765 : Int32))) &&& (858993459 : Int32)) + ((((p0 - (((p0.toUInt32 >>> ((1 : Int32).toUInt32 &&& Int32.toUInt32 31)).toInt32) &&& (1431655765 : Int32))).toUInt32 >>> ((2 : Int32).toUInt32 &&& Int32.toUInt32 31)).toInt32) &&& (858993459 : Int32))) + (((((p0 - (((p0.toUInt32 >>> ((1 : Int32).toUInt32 &&& Int32.toUInt32 31)).toInt32) &&& (1431655765 : Int32))) &&& (858993459 : Int32)) + ((((p0 - (((p0.toUInt32 >>> ((1 : Int32).toUInt32 &&& Int32.toUInt32 31)).toInt32) &&& (1431655765 : Int32))).toUInt32 >>> ((2 : Int32).toUInt32 &&& Int32.toUInt32 31)).toInt32) &&& (858993459 : Int32))).toUInt32 >>> ((4 : Int32).toUInt32 &&& Int32.toUInt32 31)).toInt32)) &&& (252645135 : Int32)) + (((((((p0 - (((p0.toUInt32 >>> ((1 : Int32).toUInt32 &&& Int32.toUInt32 31)).toInt32) &&& (1431655765 : Int32))) &&& (858993459 : Int32)) + ((((p0 - (((p0.toUInt32 >>> ((1 : Int32).toUInt32 &&& Int32.toUInt32 31)).toInt32) &&& (1431655765 : Int32))).toUInt32 >>> ((2 : Int32).toUInt32 &&& Int32.toUInt32 31)).toInt32) &&& (858993459 : Int32))) + (((((p0 - (((p0.toUInt32 >>> ((1 : Int32).toUInt32 &&& Int32.toUInt32 31)).toInt32) &&& (1431655765 : Int32))) &&& (858993459 : Int32)) + ((((p0 - (((p0.toUInt32 >>> ((1 : Int32).toUInt32 &&& Int32.toUInt32 31)).toInt32) &&& (1431655765 : Int32))).toUInt32 >>> ((2 : Int32).toUInt32 &&& Int32.toUInt32 31)).toInt32) &&& (858993459 : Int32))).toUInt32 >>> ((4 : Int32).toUInt32 &&& Int32.toUInt32 31)).toInt32)) &&& (252645135 : Int32)).toUInt32 >>> ((8 : Int32).toUInt32 &&& Int32.toUInt32 31)).toInt32)).toUInt32 >>> ((16 : Int32).toUInt32 &&& Int32.toUInt32 31)).toInt32)) &&& (63 : Int32)))
set_option maxHeartbeats 4000000 in
set_option maxRecDepth 100000 in
theorem c_J6_bitCount_0f7a4 (l : Launch) (D : va_G) (cT : Nat → ClassId) (F : Nat) (p0 : Int32) (Post : Int32 → Prop) (hg : p_J6_bitCount_0f7a4 F p0 Post) : MRi l D cT yJ6_bitCount_0f7a4 cJ6_bitCount_0f7a4 1 (some .int) 0 0 [.int p0] [] Post := by
  refine MRi.of (by decide) (Nat.le_of_ble_eq_true rfl) ?_
  intro p e s m below meth c hA C0 hr hP hD hS ls hl
  have hl : lv_has ls 1 [(0, .int p0)] := hl
  have hx := C0.x
  have hb := C0.b
  have hP : va_P D cls9 [] s.heap := hP
  have hD : va_D (fun q => cT 6 ≤ q) [] := hD
  unfold p_J6_bitCount_0f7a4 at hg
  refine lv_iload_n hx hb dJ6_bitCount_0f7a4_0 rfl (lv_at hl 0 rfl) ?_
  refine lv_iload_n hx hb dJ6_bitCount_0f7a4_1 rfl (lv_at hl 0 rfl) ?_
  refine lv_iconst (v := (1 : Int32)) hx hb dJ6_bitCount_0f7a4_2 (by decide) ?_
  refine lv_iushr (v := (p0.toUInt32 >>> ((1 : Int32).toUInt32 &&& Int32.toUInt32 31)).toInt32) hx hb dJ6_bitCount_0f7a4_3 rfl ?_
  refine lv_ldcw (v := (1431655765 : Int32)) hx hb C0.ow (C0.t w2_161) dJ6_bitCount_0f7a4_4 ?_
  refine lv_iand hx hb dJ6_bitCount_0f7a4_7 ?_
  refine lv_isub hx hb dJ6_bitCount_0f7a4_8 ?_
  refine lv_istore_n (lv' := [(0, .int (p0 - (((p0.toUInt32 >>> ((1 : Int32).toUInt32 &&& Int32.toUInt32 31)).toInt32) &&& (1431655765 : Int32))))]) hx hb dJ6_bitCount_0f7a4_9 rfl hl (by decide) rfl (fun ls hl => ?_)
  refine lv_iload_n hx hb dJ6_bitCount_0f7a4_10 rfl (lv_at hl 0 rfl) ?_
  refine lv_ldcw (v := (858993459 : Int32)) hx hb C0.ow (C0.t w2_162) dJ6_bitCount_0f7a4_11 ?_
  refine lv_iand hx hb dJ6_bitCount_0f7a4_14 ?_
  refine lv_iload_n hx hb dJ6_bitCount_0f7a4_15 rfl (lv_at hl 0 rfl) ?_
  refine lv_iconst (v := (2 : Int32)) hx hb dJ6_bitCount_0f7a4_16 (by decide) ?_
  refine lv_iushr (v := ((p0 - (((p0.toUInt32 >>> ((1 : Int32).toUInt32 &&& Int32.toUInt32 31)).toInt32) &&& (1431655765 : Int32))).toUInt32 >>> ((2 : Int32).toUInt32 &&& Int32.toUInt32 31)).toInt32) hx hb dJ6_bitCount_0f7a4_17 rfl ?_
  refine lv_ldcw (v := (858993459 : Int32)) hx hb C0.ow (C0.t w2_162) dJ6_bitCount_0f7a4_18 ?_
  refine lv_iand hx hb dJ6_bitCount_0f7a4_21 ?_
  refine lv_iadd hx hb dJ6_bitCount_0f7a4_22 ?_
  refine lv_istore_n (lv' := [(0, .int (((p0 - (((p0.toUInt32 >>> ((1 : Int32).toUInt32 &&& Int32.toUInt32 31)).toInt32) &&& (1431655765 : Int32))) &&& (858993459 : Int32)) + ((((p0 - (((p0.toUInt32 >>> ((1 : Int32).toUInt32 &&& Int32.toUInt32 31)).toInt32) &&& (1431655765 : Int32))).toUInt32 >>> ((2 : Int32).toUInt32 &&& Int32.toUInt32 31)).toInt32) &&& (858993459 : Int32))))]) hx hb dJ6_bitCount_0f7a4_23 rfl hl (by decide) rfl (fun ls hl => ?_)
  refine lv_iload_n hx hb dJ6_bitCount_0f7a4_24 rfl (lv_at hl 0 rfl) ?_
  refine lv_iload_n hx hb dJ6_bitCount_0f7a4_25 rfl (lv_at hl 0 rfl) ?_
  refine lv_iconst (v := (4 : Int32)) hx hb dJ6_bitCount_0f7a4_26 (by decide) ?_
  refine lv_iushr (v := ((((p0 - (((p0.toUInt32 >>> ((1 : Int32).toUInt32 &&& Int32.toUInt32 31)).toInt32) &&& (1431655765 : Int32))) &&& (858993459 : Int32)) + ((((p0 - (((p0.toUInt32 >>> ((1 : Int32).toUInt32 &&& Int32.toUInt32 31)).toInt32) &&& (1431655765 : Int32))).toUInt32 >>> ((2 : Int32).toUInt32 &&& Int32.toUInt32 31)).toInt32) &&& (858993459 : Int32))).toUInt32 >>> ((4 : Int32).toUInt32 &&& Int32.toUInt32 31)).toInt32) hx hb dJ6_bitCount_0f7a4_27 rfl ?_
  refine lv_iadd hx hb dJ6_bitCount_0f7a4_28 ?_
  refine lv_ldcw (v := (252645135 : Int32)) hx hb C0.ow (C0.t w2_163) dJ6_bitCount_0f7a4_29 ?_
  refine lv_iand hx hb dJ6_bitCount_0f7a4_32 ?_
  refine lv_istore_n (lv' := [(0, .int (((((p0 - (((p0.toUInt32 >>> ((1 : Int32).toUInt32 &&& Int32.toUInt32 31)).toInt32) &&& (1431655765 : Int32))) &&& (858993459 : Int32)) + ((((p0 - (((p0.toUInt32 >>> ((1 : Int32).toUInt32 &&& Int32.toUInt32 31)).toInt32) &&& (1431655765 : Int32))).toUInt32 >>> ((2 : Int32).toUInt32 &&& Int32.toUInt32 31)).toInt32) &&& (858993459 : Int32))) + (((((p0 - (((p0.toUInt32 >>> ((1 : Int32).toUInt32 &&& Int32.toUInt32 31)).toInt32) &&& (1431655765 : Int32))) &&& (858993459 : Int32)) + ((((p0 - (((p0.toUInt32 >>> ((1 : Int32).toUInt32 &&& Int32.toUInt32 31)).toInt32) &&& (1431655765 : Int32))).toUInt32 >>> ((2 : Int32).toUInt32 &&& Int32.toUInt32 31)).toInt32) &&& (858993459 : Int32))).toUInt32 >>> ((4 : Int32).toUInt32 &&& Int32.toUInt32 31)).toInt32)) &&& (252645135 : Int32)))]) hx hb dJ6_bitCount_0f7a4_33 rfl hl (by decide) rfl (fun ls hl => ?_)
  refine lv_iload_n hx hb dJ6_bitCount_0f7a4_34 rfl (lv_at hl 0 rfl) ?_
  refine lv_iload_n hx hb dJ6_bitCount_0f7a4_35 rfl (lv_at hl 0 rfl) ?_
  refine lv_bipush (v := (8 : Int32)) hx hb dJ6_bitCount_0f7a4_36 (by decide) ?_
  refine lv_iushr (v := ((((((p0 - (((p0.toUInt32 >>> ((1 : Int32).toUInt32 &&& Int32.toUInt32 31)).toInt32) &&& (1431655765 : Int32))) &&& (858993459 : Int32)) + ((((p0 - (((p0.toUInt32 >>> ((1 : Int32).toUInt32 &&& Int32.toUInt32 31)).toInt32) &&& (1431655765 : Int32))).toUInt32 >>> ((2 : Int32).toUInt32 &&& Int32.toUInt32 31)).toInt32) &&& (858993459 : Int32))) + (((((p0 - (((p0.toUInt32 >>> ((1 : Int32).toUInt32 &&& Int32.toUInt32 31)).toInt32) &&& (1431655765 : Int32))) &&& (858993459 : Int32)) + ((((p0 - (((p0.toUInt32 >>> ((1 : Int32).toUInt32 &&& Int32.toUInt32 31)).toInt32) &&& (1431655765 : Int32))).toUInt32 >>> ((2 : Int32).toUInt32 &&& Int32.toUInt32 31)).toInt32) &&& (858993459 : Int32))).toUInt32 >>> ((4 : Int32).toUInt32 &&& Int32.toUInt32 31)).toInt32)) &&& (252645135 : Int32)).toUInt32 >>> ((8 : Int32).toUInt32 &&& Int32.toUInt32 31)).toInt32) hx hb dJ6_bitCount_0f7a4_38 rfl ?_
  refine lv_iadd hx hb dJ6_bitCount_0f7a4_39 ?_
  refine lv_istore_n (lv' := [(0, .int ((((((p0 - (((p0.toUInt32 >>> ((1 : Int32).toUInt32 &&& Int32.toUInt32 31)).toInt32) &&& (1431655765 : Int32))) &&& (858993459 : Int32)) + ((((p0 - (((p0.toUInt32 >>> ((1 : Int32).toUInt32 &&& Int32.toUInt32 31)).toInt32) &&& (1431655765 : Int32))).toUInt32 >>> ((2 : Int32).toUInt32 &&& Int32.toUInt32 31)).toInt32) &&& (858993459 : Int32))) + (((((p0 - (((p0.toUInt32 >>> ((1 : Int32).toUInt32 &&& Int32.toUInt32 31)).toInt32) &&& (1431655765 : Int32))) &&& (858993459 : Int32)) + ((((p0 - (((p0.toUInt32 >>> ((1 : Int32).toUInt32 &&& Int32.toUInt32 31)).toInt32) &&& (1431655765 : Int32))).toUInt32 >>> ((2 : Int32).toUInt32 &&& Int32.toUInt32 31)).toInt32) &&& (858993459 : Int32))).toUInt32 >>> ((4 : Int32).toUInt32 &&& Int32.toUInt32 31)).toInt32)) &&& (252645135 : Int32)) + (((((((p0 - (((p0.toUInt32 >>> ((1 : Int32).toUInt32 &&& Int32.toUInt32 31)).toInt32) &&& (1431655765 : Int32))) &&& (858993459 : Int32)) + ((((p0 - (((p0.toUInt32 >>> ((1 : Int32).toUInt32 &&& Int32.toUInt32 31)).toInt32) &&& (1431655765 : Int32))).toUInt32 >>> ((2 : Int32).toUInt32 &&& Int32.toUInt32 31)).toInt32) &&& (858993459 : Int32))) + (((((p0 - (((p0.toUInt32 >>> ((1 : Int32).toUInt32 &&& Int32.toUInt32 31)).toInt32) &&& (1431655765 : Int32))) &&& (858993459 : Int32)) + ((((p0 - (((p0.toUInt32 >>> ((1 : Int32).toUInt32 &&& Int32.toUInt32 31)).toInt32) &&& (1431655765 : Int32))).toUInt32 >>> ((2 : Int32).toUInt32 &&& Int32.toUInt32 31)).toInt32) &&& (858993459 : Int32))).toUInt32 >>> ((4 : Int32).toUInt32 &&& Int32.toUInt32 31)).toInt32)) &&& (252645135 : Int32)).toUInt32 >>> ((8 : Int32).toUInt32 &&& Int32.toUInt32 31)).toInt32)))]) hx hb dJ6_bitCount_0f7a4_40 rfl hl (by decide) rfl (fun ls hl => ?_)
  refine lv_iload_n hx hb dJ6_bitCount_0f7a4_41 rfl (lv_at hl 0 rfl) ?_
  refine lv_iload_n hx hb dJ6_bitCount_0f7a4_42 rfl (lv_at hl 0 rfl) ?_
  refine lv_bipush (v := (16 : Int32)) hx hb dJ6_bitCount_0f7a4_43 (by decide) ?_
  refine lv_iushr (v := (((((((p0 - (((p0.toUInt32 >>> ((1 : Int32).toUInt32 &&& Int32.toUInt32 31)).toInt32) &&& (1431655765 : Int32))) &&& (858993459 : Int32)) + ((((p0 - (((p0.toUInt32 >>> ((1 : Int32).toUInt32 &&& Int32.toUInt32 31)).toInt32) &&& (1431655765 : Int32))).toUInt32 >>> ((2 : Int32).toUInt32 &&& Int32.toUInt32 31)).toInt32) &&& (858993459 : Int32))) + (((((p0 - (((p0.toUInt32 >>> ((1 : Int32).toUInt32 &&& Int32.toUInt32 31)).toInt32) &&& (1431655765 : Int32))) &&& (858993459 : Int32)) + ((((p0 - (((p0.toUInt32 >>> ((1 : Int32).toUInt32 &&& Int32.toUInt32 31)).toInt32) &&& (1431655765 : Int32))).toUInt32 >>> ((2 : Int32).toUInt32 &&& Int32.toUInt32 31)).toInt32) &&& (858993459 : Int32))).toUInt32 >>> ((4 : Int32).toUInt32 &&& Int32.toUInt32 31)).toInt32)) &&& (252645135 : Int32)) + (((((((p0 - (((p0.toUInt32 >>> ((1 : Int32).toUInt32 &&& Int32.toUInt32 31)).toInt32) &&& (1431655765 : Int32))) &&& (858993459 : Int32)) + ((((p0 - (((p0.toUInt32 >>> ((1 : Int32).toUInt32 &&& Int32.toUInt32 31)).toInt32) &&& (1431655765 : Int32))).toUInt32 >>> ((2 : Int32).toUInt32 &&& Int32.toUInt32 31)).toInt32) &&& (858993459 : Int32))) + (((((p0 - (((p0.toUInt32 >>> ((1 : Int32).toUInt32 &&& Int32.toUInt32 31)).toInt32) &&& (1431655765 : Int32))) &&& (858993459 : Int32)) + ((((p0 - (((p0.toUInt32 >>> ((1 : Int32).toUInt32 &&& Int32.toUInt32 31)).toInt32) &&& (1431655765 : Int32))).toUInt32 >>> ((2 : Int32).toUInt32 &&& Int32.toUInt32 31)).toInt32) &&& (858993459 : Int32))).toUInt32 >>> ((4 : Int32).toUInt32 &&& Int32.toUInt32 31)).toInt32)) &&& (252645135 : Int32)).toUInt32 >>> ((8 : Int32).toUInt32 &&& Int32.toUInt32 31)).toInt32)).toUInt32 >>> ((16 : Int32).toUInt32 &&& Int32.toUInt32 31)).toInt32) hx hb dJ6_bitCount_0f7a4_45 rfl ?_
  refine lv_iadd hx hb dJ6_bitCount_0f7a4_46 ?_
  refine lv_istore_n (lv' := [(0, .int (((((((p0 - (((p0.toUInt32 >>> ((1 : Int32).toUInt32 &&& Int32.toUInt32 31)).toInt32) &&& (1431655765 : Int32))) &&& (858993459 : Int32)) + ((((p0 - (((p0.toUInt32 >>> ((1 : Int32).toUInt32 &&& Int32.toUInt32 31)).toInt32) &&& (1431655765 : Int32))).toUInt32 >>> ((2 : Int32).toUInt32 &&& Int32.toUInt32 31)).toInt32) &&& (858993459 : Int32))) + (((((p0 - (((p0.toUInt32 >>> ((1 : Int32).toUInt32 &&& Int32.toUInt32 31)).toInt32) &&& (1431655765 : Int32))) &&& (858993459 : Int32)) + ((((p0 - (((p0.toUInt32 >>> ((1 : Int32).toUInt32 &&& Int32.toUInt32 31)).toInt32) &&& (1431655765 : Int32))).toUInt32 >>> ((2 : Int32).toUInt32 &&& Int32.toUInt32 31)).toInt32) &&& (858993459 : Int32))).toUInt32 >>> ((4 : Int32).toUInt32 &&& Int32.toUInt32 31)).toInt32)) &&& (252645135 : Int32)) + (((((((p0 - (((p0.toUInt32 >>> ((1 : Int32).toUInt32 &&& Int32.toUInt32 31)).toInt32) &&& (1431655765 : Int32))) &&& (858993459 : Int32)) + ((((p0 - (((p0.toUInt32 >>> ((1 : Int32).toUInt32 &&& Int32.toUInt32 31)).toInt32) &&& (1431655765 : Int32))).toUInt32 >>> ((2 : Int32).toUInt32 &&& Int32.toUInt32 31)).toInt32) &&& (858993459 : Int32))) + (((((p0 - (((p0.toUInt32 >>> ((1 : Int32).toUInt32 &&& Int32.toUInt32 31)).toInt32) &&& (1431655765 : Int32))) &&& (858993459 : Int32)) + ((((p0 - (((p0.toUInt32 >>> ((1 : Int32).toUInt32 &&& Int32.toUInt32 31)).toInt32) &&& (1431655765 : Int32))).toUInt32 >>> ((2 : Int32).toUInt32 &&& Int32.toUInt32 31)).toInt32) &&& (858993459 : Int32))).toUInt32 >>> ((4 : Int32).toUInt32 &&& Int32.toUInt32 31)).toInt32)) &&& (252645135 : Int32)).toUInt32 >>> ((8 : Int32).toUInt32 &&& Int32.toUInt32 31)).toInt32)) + ((((((((p0 - (((p0.toUInt32 >>> ((1 : Int32).toUInt32 &&& Int32.toUInt32 31)).toInt32) &&& (1431655765 : Int32))) &&& (858993459 : Int32)) + ((((p0 - (((p0.toUInt32 >>> ((1 : Int32).toUInt32 &&& Int32.toUInt32 31)).toInt32) &&& (1431655765 : Int32))).toUInt32 >>> ((2 : Int32).toUInt32 &&& Int32.toUInt32 31)).toInt32) &&& (858993459 : Int32))) + (((((p0 - (((p0.toUInt32 >>> ((1 : Int32).toUInt32 &&& Int32.toUInt32 31)).toInt32) &&& (1431655765 : Int32))) &&& (858993459 : Int32)) + ((((p0 - (((p0.toUInt32 >>> ((1 : Int32).toUInt32 &&& Int32.toUInt32 31)).toInt32) &&& (1431655765 : Int32))).toUInt32 >>> ((2 : Int32).toUInt32 &&& Int32.toUInt32 31)).toInt32) &&& (858993459 : Int32))).toUInt32 >>> ((4 : Int32).toUInt32 &&& Int32.toUInt32 31)).toInt32)) &&& (252645135 : Int32)) + (((((((p0 - (((p0.toUInt32 >>> ((1 : Int32).toUInt32 &&& Int32.toUInt32 31)).toInt32) &&& (1431655765 : Int32))) &&& (858993459 : Int32)) + ((((p0 - (((p0.toUInt32 >>> ((1 : Int32).toUInt32 &&& Int32.toUInt32 31)).toInt32) &&& (1431655765 : Int32))).toUInt32 >>> ((2 : Int32).toUInt32 &&& Int32.toUInt32 31)).toInt32) &&& (858993459 : Int32))) + (((((p0 - (((p0.toUInt32 >>> ((1 : Int32).toUInt32 &&& Int32.toUInt32 31)).toInt32) &&& (1431655765 : Int32))) &&& (858993459 : Int32)) + ((((p0 - (((p0.toUInt32 >>> ((1 : Int32).toUInt32 &&& Int32.toUInt32 31)).toInt32) &&& (1431655765 : Int32))).toUInt32 >>> ((2 : Int32).toUInt32 &&& Int32.toUInt32 31)).toInt32) &&& (858993459 : Int32))).toUInt32 >>> ((4 : Int32).toUInt32 &&& Int32.toUInt32 31)).toInt32)) &&& (252645135 : Int32)).toUInt32 >>> ((8 : Int32).toUInt32 &&& Int32.toUInt32 31)).toInt32)).toUInt32 >>> ((16 : Int32).toUInt32 &&& Int32.toUInt32 31)).toInt32)))]) hx hb dJ6_bitCount_0f7a4_47 rfl hl (by decide) rfl (fun ls hl => ?_)
  refine lv_iload_n hx hb dJ6_bitCount_0f7a4_48 rfl (lv_at hl 0 rfl) ?_
  refine lv_bipush (v := (63 : Int32)) hx hb dJ6_bitCount_0f7a4_49 (by decide) ?_
  refine lv_iand hx hb dJ6_bitCount_0f7a4_51 ?_
  exact k_xiret C0 hr hg dJ6_bitCount_0f7a4_52
theorem dX6_holdBy_0 : decode cX6_holdBy 0 = .ok (.iload_n 3, 1) := by decide +kernel
theorem dX6_holdBy_1 : decode cX6_holdBy 1 = .ok (.invokestatic 80, 3) := by decide +kernel
theorem dX6_holdBy_4 : decode cX6_holdBy 4 = .ok (.iconst 1, 1) := by decide +kernel
theorem dX6_holdBy_5 : decode cX6_holdBy 5 = .ok (.isub, 1) := by decide +kernel
theorem dX6_holdBy_6 : decode cX6_holdBy 6 = .ok (.istore 4, 2) := by decide +kernel
theorem dX6_holdBy_8 : decode cX6_holdBy 8 = .ok (.iconst 0, 1) := by decide +kernel
theorem dX6_holdBy_9 : decode cX6_holdBy 9 = .ok (.istore 5, 2) := by decide +kernel
theorem dX6_holdBy_11 : decode cX6_holdBy 11 = .ok (.iconst 0, 1) := by decide +kernel
theorem dX6_holdBy_12 : decode cX6_holdBy 12 = .ok (.istore 6, 2) := by decide +kernel
theorem dX6_holdBy_14 : decode cX6_holdBy 14 = .ok (.iload 6, 2) := by decide +kernel
theorem dX6_holdBy_16 : decode cX6_holdBy 16 = .ok (.aload_n 0, 1) := by decide +kernel
theorem dX6_holdBy_17 : decode cX6_holdBy 17 = .ok (.getfield 37, 3) := by decide +kernel
theorem dX6_holdBy_20 : decode cX6_holdBy 20 = .ok (.if_icmp .ge 34, 3) := by decide +kernel
theorem dX6_holdBy_23 : decode cX6_holdBy 23 = .ok (.iload_n 3, 1) := by decide +kernel
theorem dX6_holdBy_24 : decode cX6_holdBy 24 = .ok (.iload 6, 2) := by decide +kernel
theorem dX6_holdBy_26 : decode cX6_holdBy 26 = .ok (.ishr, 1) := by decide +kernel
theorem dX6_holdBy_27 : decode cX6_holdBy 27 = .ok (.iconst 1, 1) := by decide +kernel
theorem dX6_holdBy_28 : decode cX6_holdBy 28 = .ok (.iand, 1) := by decide +kernel
theorem dX6_holdBy_29 : decode cX6_holdBy 29 = .ok (.iconst 1, 1) := by decide +kernel
theorem dX6_holdBy_30 : decode cX6_holdBy 30 = .ok (.if_icmp .ne 18, 3) := by decide +kernel
theorem dX6_holdBy_33 : decode cX6_holdBy 33 = .ok (.iload 5, 2) := by decide +kernel
theorem dX6_holdBy_35 : decode cX6_holdBy 35 = .ok (.aload_n 1, 1) := by decide +kernel
theorem dX6_holdBy_36 : decode cX6_holdBy 36 = .ok (.aload_n 0, 1) := by decide +kernel
theorem dX6_holdBy_37 : decode cX6_holdBy 37 = .ok (.iload 6, 2) := by decide +kernel
theorem dX6_holdBy_39 : decode cX6_holdBy 39 = .ok (.iload_n 2, 1) := by decide +kernel
theorem dX6_holdBy_40 : decode cX6_holdBy 40 = .ok (.iload 4, 2) := by decide +kernel
theorem dX6_holdBy_42 : decode cX6_holdBy 42 = .ok (.invokevirtual 85, 3) := by decide +kernel
theorem dX6_holdBy_45 : decode cX6_holdBy 45 = .ok (.iadd, 1) := by decide +kernel
theorem dX6_holdBy_46 : decode cX6_holdBy 46 = .ok (.istore 5, 2) := by decide +kernel
theorem dX6_holdBy_48 : decode cX6_holdBy 48 = .ok (.iinc 6 1, 3) := by decide +kernel
theorem dX6_holdBy_51 : decode cX6_holdBy 51 = .ok (.goto (-37), 3) := by decide +kernel
theorem dX6_holdBy_54 : decode cX6_holdBy 54 = .ok (.iload 5, 2) := by decide +kernel
theorem dX6_holdBy_56 : decode cX6_holdBy 56 = .ok (.ireturn, 1) := by decide +kernel
def p_X6_holdBy_48 (F : Nat) (y6_14 : Int32) (k14 : Int32 → Int32 → Int32 → (Nat → Int32) → Prop) (Post : Int32 → (Int32 × (Nat → Int32)) → Prop) (y5_48 : Int32) (x_b1_top_48 : Int32) (f_b1_stack_48 : Nat → Int32) : Prop := (k14 (y6_14 + (1 : Int32)) y5_48 x_b1_top_48 f_b1_stack_48)
noncomputable def p_X6_holdBy_14 (F : Nat) (p2 : Int32) (p3 : Int32) (x_arches : Int32) (x_cats : Int32) (x_hour : Int32) (x_b1_size : Int32) (f_b1_steps : Nat → Int32) (f_sag : Nat → Int32) (f_load : Nat → Int32) (f_joy : Nat → Int32) (f_grief : Nat → Int32) (f_bowl : Nat → Int32) (r_1 : Int32) (Post : Int32 → (Int32 × (Nat → Int32)) → Prop) (n : Nat) : Int32 → Int32 → Int32 → (Nat → Int32) → Prop := Nat.rec (motive := fun _ => Int32 → Int32 → Int32 → (Nat → Int32) → Prop) (fun _ _ _ _ => False) (fun _ k14 => fun (y6_14 : Int32) (y5_14 : Int32) (x_b1_top_14 : Int32) (f_b1_stack_14 : Nat → Int32) => ((x_cats ≤ y6_14 → (Post y5_14 (x_b1_top_14, f_b1_stack_14))) ∧ (¬ x_cats ≤ y6_14 → ((¬ ((p3 >>> (y6_14 &&& 31)) &&& (1 : Int32)) = (1 : Int32) → (p_X6_holdBy_48 F y6_14 k14 Post y5_14 x_b1_top_14 f_b1_stack_14)) ∧ (((p3 >>> (y6_14 &&& 31)) &&& (1 : Int32)) = (1 : Int32) → (p_X4_purr F y6_14 p2 (r_1 - (1 : Int32)) x_b1_size f_b1_steps f_b1_stack_14 x_arches x_cats x_hour f_sag f_load f_joy f_grief f_bowl (fun (r_42 : Int32) (u_42 : (Int32 × (Nat → Int32))) => (p_X6_holdBy_48 F y6_14 k14 Post (y5_14 + r_42) u_42.1 u_42.2)))))))) n
theorem p_X6_holdBy_14_s (F : Nat) (p2 : Int32) (p3 : Int32) (x_arches : Int32) (x_cats : Int32) (x_hour : Int32) (x_b1_size : Int32) (f_b1_steps : Nat → Int32) (f_sag : Nat → Int32) (f_load : Nat → Int32) (f_joy : Nat → Int32) (f_grief : Nat → Int32) (f_bowl : Nat → Int32) (r_1 : Int32) (Post : Int32 → (Int32 × (Nat → Int32)) → Prop) (n : Nat) (y6_14 : Int32) (y5_14 : Int32) (x_b1_top_14 : Int32) (f_b1_stack_14 : Nat → Int32) : p_X6_holdBy_14 F p2 p3 x_arches x_cats x_hour x_b1_size f_b1_steps f_sag f_load f_joy f_grief f_bowl r_1 Post (n + 1) y6_14 y5_14 x_b1_top_14 f_b1_stack_14 = ((x_cats ≤ y6_14 → (Post y5_14 (x_b1_top_14, f_b1_stack_14))) ∧ (¬ x_cats ≤ y6_14 → ((¬ ((p3 >>> (y6_14 &&& 31)) &&& (1 : Int32)) = (1 : Int32) → (p_X6_holdBy_48 F y6_14 (p_X6_holdBy_14 F p2 p3 x_arches x_cats x_hour x_b1_size f_b1_steps f_sag f_load f_joy f_grief f_bowl r_1 Post n) Post y5_14 x_b1_top_14 f_b1_stack_14)) ∧ (((p3 >>> (y6_14 &&& 31)) &&& (1 : Int32)) = (1 : Int32) → (p_X4_purr F y6_14 p2 (r_1 - (1 : Int32)) x_b1_size f_b1_steps f_b1_stack_14 x_arches x_cats x_hour f_sag f_load f_joy f_grief f_bowl (fun (r_42 : Int32) (u_42 : (Int32 × (Nat → Int32))) => (p_X6_holdBy_48 F y6_14 (p_X6_holdBy_14 F p2 p3 x_arches x_cats x_hour x_b1_size f_b1_steps f_sag f_load f_joy f_grief f_bowl r_1 Post n) Post (y5_14 + r_42) u_42.1 u_42.2))))))) := rfl
def p_X6_holdBy (F : Nat) (p2 : Int32) (p3 : Int32) (x_arches : Int32) (x_cats : Int32) (x_hour : Int32) (x_b1_size : Int32) (x_b1_top : Int32) (f_b1_steps : Nat → Int32) (f_b1_stack : Nat → Int32) (f_sag : Nat → Int32) (f_load : Nat → Int32) (f_joy : Nat → Int32) (f_grief : Nat → Int32) (f_bowl : Nat → Int32) (Post : Int32 → (Int32 × (Nat → Int32)) → Prop) : Prop := (p_J6_bitCount_0f7a4 F p3 (fun (r_1 : Int32) => (p_X6_holdBy_14 F p2 p3 x_arches x_cats x_hour x_b1_size f_b1_steps f_sag f_load f_joy f_grief f_bowl r_1 Post F (0 : Int32) (0 : Int32) x_b1_top f_b1_stack)))
set_option maxHeartbeats 4000000 in
set_option maxRecDepth 100000 in
theorem c_X6_holdBy (l : Launch) (D : va_G) (cT : Nat → ClassId) (F : Nat) (h : Nat) (b1 : Nat) (p2 : Int32) (p3 : Int32) (q_load : Nat) (q_sag : Nat) (q_joy : Nat) (q_bowl : Nat) (q_grief : Nat) (w_place : Value) (x_arches : Int32) (x_cats : Int32) (x_store : Int32) (x_hour : Int32) (x_drops : Int32) (q_b1_steps : Nat) (q_b1_stack : Nat) (x_b1_size : Int32) (x_b1_top : Int32) (x_b1_open : Int32) (x_b1_compared : Int32) (x_b1_digits : Int32) (x_b1_wantsThing : Int32) (f_b1_steps : Nat → Int32) (f_b1_stack : Nat → Int32) (f_sag : Nat → Int32) (f_load : Nat → Int32) (f_joy : Nat → Int32) (f_grief : Nat → Int32) (f_bowl : Nat → Int32) (Post : Int32 → (Int32 × (Nat → Int32)) → Prop) (hg : p_X6_holdBy F p2 p3 x_arches x_cats x_hour x_b1_size x_b1_top f_b1_steps f_b1_stack f_sag f_load f_joy f_grief f_bowl Post) : MWi l D cT yX6_holdBy cX6_holdBy 7 (some .int) 3 77 0 0 [.ref h, .ref b1, .int p2, .int p3] [(h, oX6 (.ref q_load) (.ref q_sag) (.ref q_joy) (.ref q_bowl) (.ref q_grief) w_place (.int x_arches) (.int x_cats) (.int x_store) (.int x_hour) (.int x_drops)), (b1, oX4 (.ref q_b1_steps) (.ref q_b1_stack) (.int x_b1_size) (.int x_b1_top) (.int x_b1_open) (.int x_b1_compared) (.int x_b1_digits) (.int x_b1_wantsThing)), (q_b1_steps, aI cT 40 f_b1_steps), (q_b1_stack, aI cT 40 f_b1_stack), (q_sag, aI cT 6 f_sag), (q_load, aI cT 6 f_load), (q_joy, aI cT 8 f_joy), (q_grief, aI cT 8 f_grief), (q_bowl, aI cT 8 f_bowl)] Post (fun (u : (Int32 × (Nat → Int32))) => [(h, oX6 (.ref q_load) (.ref q_sag) (.ref q_joy) (.ref q_bowl) (.ref q_grief) w_place (.int x_arches) (.int x_cats) (.int x_store) (.int x_hour) (.int x_drops)), (b1, oX4 (.ref q_b1_steps) (.ref q_b1_stack) (.int x_b1_size) (.int u.1) (.int x_b1_open) (.int x_b1_compared) (.int x_b1_digits) (.int x_b1_wantsThing)), (q_b1_steps, aI cT 40 f_b1_steps), (q_b1_stack, aI cT 40 u.2), (q_sag, aI cT 6 f_sag), (q_load, aI cT 6 f_load), (q_joy, aI cT 8 f_joy), (q_grief, aI cT 8 f_grief), (q_bowl, aI cT 8 f_bowl)]) := by
  refine MWi.of (by decide) (Nat.le_of_ble_eq_true rfl) ?_
  intro p e s m below meth c A hA C0 hnm hr hP hD ls hl
  have hl : lv_has ls 7 [(0, .ref h), (1, .ref b1), (2, .int p2), (3, .int p3)] := hl
  have hx := C0.x
  have hb := C0.b
  have hS : va_S A s.heap s.heap [] := va_S.rf
  have hP : va_P D cls9 [(h, oX6 (.ref q_load) (.ref q_sag) (.ref q_joy) (.ref q_bowl) (.ref q_grief) w_place (.int x_arches) (.int x_cats) (.int x_store) (.int x_hour) (.int x_drops)), (b1, oX4 (.ref q_b1_steps) (.ref q_b1_stack) (.int x_b1_size) (.int x_b1_top) (.int x_b1_open) (.int x_b1_compared) (.int x_b1_digits) (.int x_b1_wantsThing)), (q_b1_steps, aI cT 40 f_b1_steps), (q_b1_stack, aI cT 40 f_b1_stack), (q_sag, aI cT 6 f_sag), (q_load, aI cT 6 f_load), (q_joy, aI cT 8 f_joy), (q_grief, aI cT 8 f_grief), (q_bowl, aI cT 8 f_bowl)] s.heap := hP
  have hD : va_D A [(h, oX6 (.ref q_load) (.ref q_sag) (.ref q_joy) (.ref q_bowl) (.ref q_grief) w_place (.int x_arches) (.int x_cats) (.int x_store) (.int x_hour) (.int x_drops)), (b1, oX4 (.ref q_b1_steps) (.ref q_b1_stack) (.int x_b1_size) (.int x_b1_top) (.int x_b1_open) (.int x_b1_compared) (.int x_b1_digits) (.int x_b1_wantsThing)), (q_b1_steps, aI cT 40 f_b1_steps), (q_b1_stack, aI cT 40 f_b1_stack), (q_sag, aI cT 6 f_sag), (q_load, aI cT 6 f_load), (q_joy, aI cT 8 f_joy), (q_grief, aI cT 8 f_grief), (q_bowl, aI cT 8 f_bowl)] := hD
  have L14 : ∀ (r_1 : Int32) (n14 : Nat) (y6_14 : Int32) (y5_14 : Int32) (x_b1_top_14 : Int32) (f_b1_stack_14 : Nat → Int32) (H : Heap) (locs : List Loc) (ls : Array Slot), p_X6_holdBy_14 F p2 p3 x_arches x_cats x_hour x_b1_size f_b1_steps f_sag f_load f_joy f_grief f_bowl r_1 Post n14 y6_14 y5_14 x_b1_top_14 f_b1_stack_14 → va_P D cls9 [(h, oX6 (.ref q_load) (.ref q_sag) (.ref q_joy) (.ref q_bowl) (.ref q_grief) w_place (.int x_arches) (.int x_cats) (.int x_store) (.int x_hour) (.int x_drops)), (b1, oX4 (.ref q_b1_steps) (.ref q_b1_stack) (.int x_b1_size) (.int x_b1_top_14) (.int x_b1_open) (.int x_b1_compared) (.int x_b1_digits) (.int x_b1_wantsThing)), (q_b1_steps, aI cT 40 f_b1_steps), (q_b1_stack, aI cT 40 f_b1_stack_14), (q_sag, aI cT 6 f_sag), (q_load, aI cT 6 f_load), (q_joy, aI cT 8 f_joy), (q_grief, aI cT 8 f_grief), (q_bowl, aI cT 8 f_bowl)] H → va_D A [(h, oX6 (.ref q_load) (.ref q_sag) (.ref q_joy) (.ref q_bowl) (.ref q_grief) w_place (.int x_arches) (.int x_cats) (.int x_store) (.int x_hour) (.int x_drops)), (b1, oX4 (.ref q_b1_steps) (.ref q_b1_stack) (.int x_b1_size) (.int x_b1_top_14) (.int x_b1_open) (.int x_b1_compared) (.int x_b1_digits) (.int x_b1_wantsThing)), (q_b1_steps, aI cT 40 f_b1_steps), (q_b1_stack, aI cT 40 f_b1_stack_14), (q_sag, aI cT 6 f_sag), (q_load, aI cT 6 f_load), (q_joy, aI cT 8 f_joy), (q_grief, aI cT 8 f_grief), (q_bowl, aI cT 8 f_bowl)] → va_S A s.heap H locs → lv_has ls 7 [(0, .ref h), (1, .ref b1), (2, .int p2), (3, .int p3), (4, .int (r_1 - (1 : Int32))), (5, .int y5_14), (6, .int y6_14)] → W p l e (rmO 3 77 0 0) s m ([.ref h, .ref b1, .int p2, .int p3] : List Value).toArray below meth c H locs 0 0 (MQ below (va_Qi Post (cB D A (fun (u : (Int32 × (Nat → Int32))) => [(h, oX6 (.ref q_load) (.ref q_sag) (.ref q_joy) (.ref q_bowl) (.ref q_grief) w_place (.int x_arches) (.int x_cats) (.int x_store) (.int x_hour) (.int x_drops)), (b1, oX4 (.ref q_b1_steps) (.ref q_b1_stack) (.int x_b1_size) (.int u.1) (.int x_b1_open) (.int x_b1_compared) (.int x_b1_digits) (.int x_b1_wantsThing)), (q_b1_steps, aI cT 40 f_b1_steps), (q_b1_stack, aI cT 40 u.2), (q_sag, aI cT 6 f_sag), (q_load, aI cT 6 f_load), (q_joy, aI cT 8 f_joy), (q_grief, aI cT 8 f_grief), (q_bowl, aI cT 8 f_bowl)])) A) ([.ref h, .ref b1, .int p2, .int p3] : List Value).toArray s 0 0 A) (F0 m 14 ls []) := by
    intro r_1 n14
    induction n14 with
    | zero =>
      intro y6_14 y5_14 x_b1_top_14 f_b1_stack_14 H locs ls hg hP hD hS hl
      exact False.elim hg
    | succ n14 ih14 =>
      have L48 : ∀ (y6_14 : Int32) (y5_48 : Int32) (x_b1_top_48 : Int32) (f_b1_stack_48 : Nat → Int32) (H : Heap) (locs : List Loc) (ls : Array Slot), p_X6_holdBy_48 F y6_14 (p_X6_holdBy_14 F p2 p3 x_arches x_cats x_hour x_b1_size f_b1_steps f_sag f_load f_joy f_grief f_bowl r_1 Post n14) Post y5_48 x_b1_top_48 f_b1_stack_48 → va_P D cls9 [(h, oX6 (.ref q_load) (.ref q_sag) (.ref q_joy) (.ref q_bowl) (.ref q_grief) w_place (.int x_arches) (.int x_cats) (.int x_store) (.int x_hour) (.int x_drops)), (b1, oX4 (.ref q_b1_steps) (.ref q_b1_stack) (.int x_b1_size) (.int x_b1_top_48) (.int x_b1_open) (.int x_b1_compared) (.int x_b1_digits) (.int x_b1_wantsThing)), (q_b1_steps, aI cT 40 f_b1_steps), (q_b1_stack, aI cT 40 f_b1_stack_48), (q_sag, aI cT 6 f_sag), (q_load, aI cT 6 f_load), (q_joy, aI cT 8 f_joy), (q_grief, aI cT 8 f_grief), (q_bowl, aI cT 8 f_bowl)] H → va_D A [(h, oX6 (.ref q_load) (.ref q_sag) (.ref q_joy) (.ref q_bowl) (.ref q_grief) w_place (.int x_arches) (.int x_cats) (.int x_store) (.int x_hour) (.int x_drops)), (b1, oX4 (.ref q_b1_steps) (.ref q_b1_stack) (.int x_b1_size) (.int x_b1_top_48) (.int x_b1_open) (.int x_b1_compared) (.int x_b1_digits) (.int x_b1_wantsThing)), (q_b1_steps, aI cT 40 f_b1_steps), (q_b1_stack, aI cT 40 f_b1_stack_48), (q_sag, aI cT 6 f_sag), (q_load, aI cT 6 f_load), (q_joy, aI cT 8 f_joy), (q_grief, aI cT 8 f_grief), (q_bowl, aI cT 8 f_bowl)] → va_S A s.heap H locs → lv_has ls 7 [(0, .ref h), (1, .ref b1), (2, .int p2), (3, .int p3), (4, .int (r_1 - (1 : Int32))), (5, .int y5_48), (6, .int y6_14)] → W p l e (rmO 3 77 0 0) s m ([.ref h, .ref b1, .int p2, .int p3] : List Value).toArray below meth c H locs 0 0 (MQ below (va_Qi Post (cB D A (fun (u : (Int32 × (Nat → Int32))) => [(h, oX6 (.ref q_load) (.ref q_sag) (.ref q_joy) (.ref q_bowl) (.ref q_grief) w_place (.int x_arches) (.int x_cats) (.int x_store) (.int x_hour) (.int x_drops)), (b1, oX4 (.ref q_b1_steps) (.ref q_b1_stack) (.int x_b1_size) (.int u.1) (.int x_b1_open) (.int x_b1_compared) (.int x_b1_digits) (.int x_b1_wantsThing)), (q_b1_steps, aI cT 40 f_b1_steps), (q_b1_stack, aI cT 40 u.2), (q_sag, aI cT 6 f_sag), (q_load, aI cT 6 f_load), (q_joy, aI cT 8 f_joy), (q_grief, aI cT 8 f_grief), (q_bowl, aI cT 8 f_bowl)])) A) ([.ref h, .ref b1, .int p2, .int p3] : List Value).toArray s 0 0 A) (F0 m 48 ls []) := by
        intro y6_14 y5_48 x_b1_top_48 f_b1_stack_48 H locs ls hg hP hD hS hl
        unfold p_X6_holdBy_48 at hg
        refine lv_iinc (v := (y6_14 + (1 : Int32))) (lv' := [(6, .int (y6_14 + (1 : Int32))), (0, .ref h), (1, .ref b1), (2, .int p2), (3, .int p3), (4, .int (r_1 - (1 : Int32))), (5, .int y5_48)]) hx hb dX6_holdBy_48 hl (k := 6) rfl rfl (by decide) rfl (fun ls hl => ?_)
        refine lv_goto (tgt := 14) hx hb dX6_holdBy_51 (by decide) ?_
        exact ih14 (y6_14 + (1 : Int32)) y5_48 x_b1_top_48 f_b1_stack_48 _ _ _ hg hP hD hS (lv_sub hl [1, 2, 3, 4, 5, 6, 0] rfl)
      intro y6_14 y5_14 x_b1_top_14 f_b1_stack_14 H locs ls hg hP hD hS hl
      rw [p_X6_holdBy_14_s] at hg
      refine lv_iload hx hb dX6_holdBy_14 (lv_at hl 6 rfl) ?_
      refine lv_aload_n hx hb dX6_holdBy_16 rfl (lv_at hl 0 rfl) ?_
      refine gf_X6_37 C0 hP 0 rfl rfl dX6_holdBy_17 ?_
      refine lv_icmp_ge (tgt := 54) hx hb dX6_holdBy_20 (by decide) (fun c_20 => ?_) (fun c_20 => ?_)
      · have hg := hg.1 c_20
        refine lv_iload hx hb dX6_holdBy_54 (lv_at hl 5 rfl) ?_
        exact k_iret C0 hr (x_b1_top_14, f_b1_stack_14) hg hP hD hS dX6_holdBy_56
      have hg := hg.2 c_20
      refine lv_iload_n hx hb dX6_holdBy_23 rfl (lv_at hl 3 rfl) ?_
      refine lv_iload hx hb dX6_holdBy_24 (lv_at hl 6 rfl) ?_
      refine lv_ishr hx hb dX6_holdBy_26 ?_
      refine lv_iconst (v := (1 : Int32)) hx hb dX6_holdBy_27 (by decide) ?_
      refine lv_iand hx hb dX6_holdBy_28 ?_
      refine lv_iconst (v := (1 : Int32)) hx hb dX6_holdBy_29 (by decide) ?_
      refine lv_icmp_ne (tgt := 48) hx hb dX6_holdBy_30 (by decide) (fun c_30 => ?_) (fun c_30 => ?_)
      · have hg := hg.1 c_30
        exact L48 y6_14 y5_14 x_b1_top_14 f_b1_stack_14 _ _ _ hg hP hD hS hl
      have hg := hg.2 c_30
      refine lv_iload hx hb dX6_holdBy_33 (lv_at hl 5 rfl) ?_
      refine lv_aload_n hx hb dX6_holdBy_35 rfl (lv_at hl 1 rfl) ?_
      refine lv_aload_n hx hb dX6_holdBy_36 rfl (lv_at hl 0 rfl) ?_
      refine lv_iload hx hb dX6_holdBy_37 (lv_at hl 6 rfl) ?_
      refine lv_iload_n hx hb dX6_holdBy_39 rfl (lv_at hl 2 rfl) ?_
      refine lv_iload hx hb dX6_holdBy_40 (lv_at hl 4 rfl) ?_
      refine k_Vi (rest := [.int y5_14]) (wr := []) (w2 := fun u_42 => [(b1, oX4 (.ref q_b1_steps) (.ref q_b1_stack) (.int x_b1_size) (.int u_42.1) (.int x_b1_open) (.int x_b1_compared) (.int x_b1_digits) (.int x_b1_wantsThing)), (q_b1_steps, aI cT 40 f_b1_steps), (q_b1_stack, aI cT 40 u_42.2), (h, oX6 (.ref q_load) (.ref q_sag) (.ref q_joy) (.ref q_bowl) (.ref q_grief) w_place (.int x_arches) (.int x_cats) (.int x_store) (.int x_hour) (.int x_drops)), (q_sag, aI cT 6 f_sag), (q_load, aI cT 6 f_load), (q_joy, aI cT 8 f_joy), (q_grief, aI cT 8 f_grief), (q_bowl, aI cT 8 f_bowl)]) C0 lk_X6_85 (c_X4_purr l D cT F b1 h y6_14 p2 (r_1 - (1 : Int32)) q_b1_steps q_b1_stack x_b1_size x_b1_top_14 x_b1_open x_b1_compared x_b1_digits x_b1_wantsThing f_b1_steps f_b1_stack_14 q_load q_sag q_joy q_bowl q_grief w_place x_arches x_cats x_store x_hour x_drops f_sag f_load f_joy f_grief f_bowl _ hg) hP hD hS hA [1, 2, 3, 0, 4, 5, 6, 7, 8] [] (by decide +kernel) rfl rfl (fun _ => rfl) rfl rfl ⟨Nat.le_of_ble_eq_true rfl, Nat.le_of_ble_eq_true rfl⟩ rfl hl.1 rfl (Nat.le_of_ble_eq_true rfl) dX6_holdBy_42 ⟨Nat.le_of_ble_eq_true rfl, Nat.le_of_ble_eq_true rfl⟩ ?_
      intro r_42 u_42 H locs hg hP hD hS
      refine lv_iadd hx hb dX6_holdBy_45 ?_
      refine lv_istore (lv' := [(5, .int (y5_14 + r_42)), (0, .ref h), (1, .ref b1), (2, .int p2), (3, .int p3), (4, .int (r_1 - (1 : Int32))), (6, .int y6_14)]) hx hb dX6_holdBy_46 hl (by decide) rfl (fun ls hl => ?_)
      exact L48 y6_14 (y5_14 + r_42) u_42.1 u_42.2 _ _ _ hg (subP hP [3, 0, 1, 2, 4, 5, 6, 7, 8] rfl) (hD.sub [3, 0, 1, 2, 4, 5, 6, 7, 8] (nd2_ok _ (by decide +kernel)) rfl) hS (lv_sub hl [1, 2, 3, 4, 5, 0, 6] rfl)
  unfold p_X6_holdBy at hg
  refine lv_iload_n hx hb dX6_holdBy_0 rfl (lv_at hl 3 rfl) ?_
  refine k_Sxi (rest := []) C0 lk_X6_80 (c_J6_bitCount_0f7a4 l D cT F p3 _ hg) hP hD hS hA [] (by decide +kernel) rfl ⟨Nat.le_of_ble_eq_true rfl, Nat.le_of_ble_eq_true rfl⟩ rfl hl.1 rfl (Nat.le_of_ble_eq_true rfl) dX6_holdBy_1 ⟨Nat.le_of_ble_eq_true rfl, Nat.le_of_ble_eq_true rfl⟩ (fun r_1 hg => ?_)
  refine lv_iconst (v := (1 : Int32)) hx hb dX6_holdBy_4 (by decide) ?_
  refine lv_isub hx hb dX6_holdBy_5 ?_
  refine lv_istore (lv' := [(4, .int (r_1 - (1 : Int32))), (0, .ref h), (1, .ref b1), (2, .int p2), (3, .int p3)]) hx hb dX6_holdBy_6 hl (by decide) rfl (fun ls hl => ?_)
  refine lv_iconst (v := (0 : Int32)) hx hb dX6_holdBy_8 (by decide) ?_
  refine lv_istore (lv' := [(5, .int (0 : Int32)), (4, .int (r_1 - (1 : Int32))), (0, .ref h), (1, .ref b1), (2, .int p2), (3, .int p3)]) hx hb dX6_holdBy_9 hl (by decide) rfl (fun ls hl => ?_)
  refine lv_iconst (v := (0 : Int32)) hx hb dX6_holdBy_11 (by decide) ?_
  refine lv_istore (lv' := [(6, .int (0 : Int32)), (5, .int (0 : Int32)), (4, .int (r_1 - (1 : Int32))), (0, .ref h), (1, .ref b1), (2, .int p2), (3, .int p3)]) hx hb dX6_holdBy_12 hl (by decide) rfl (fun ls hl => ?_)
  exact L14 r_1 F (0 : Int32) (0 : Int32) x_b1_top f_b1_stack _ _ _ hg hP hD hS (lv_sub hl [3, 4, 5, 6, 2, 1, 0] rfl)
theorem dX6_passHour_0 : decode cX6_passHour 0 = .ok (.iconst 0, 1) := by decide +kernel
theorem dX6_passHour_1 : decode cX6_passHour 1 = .ok (.istore_n 2, 1) := by decide +kernel
theorem dX6_passHour_2 : decode cX6_passHour 2 = .ok (.iconst 0, 1) := by decide +kernel
theorem dX6_passHour_3 : decode cX6_passHour 3 = .ok (.istore_n 3, 1) := by decide +kernel
theorem dX6_passHour_4 : decode cX6_passHour 4 = .ok (.iload_n 3, 1) := by decide +kernel
theorem dX6_passHour_5 : decode cX6_passHour 5 = .ok (.aload_n 0, 1) := by decide +kernel
theorem dX6_passHour_6 : decode cX6_passHour 6 = .ok (.getfield 34, 3) := by decide +kernel
theorem dX6_passHour_9 : decode cX6_passHour 9 = .ok (.if_icmp .ge 93, 3) := by decide +kernel
theorem dX6_passHour_12 : decode cX6_passHour 12 = .ok (.aload_n 0, 1) := by decide +kernel
theorem dX6_passHour_13 : decode cX6_passHour 13 = .ok (.getfield 9, 3) := by decide +kernel
theorem dX6_passHour_16 : decode cX6_passHour 16 = .ok (.iload_n 3, 1) := by decide +kernel
theorem dX6_passHour_17 : decode cX6_passHour 17 = .ok (.iaload, 1) := by decide +kernel
theorem dX6_passHour_18 : decode cX6_passHour 18 = .ok (.aload_n 0, 1) := by decide +kernel
theorem dX6_passHour_19 : decode cX6_passHour 19 = .ok (.aload_n 1, 1) := by decide +kernel
theorem dX6_passHour_20 : decode cX6_passHour 20 = .ok (.iload_n 3, 1) := by decide +kernel
theorem dX6_passHour_21 : decode cX6_passHour 21 = .ok (.aload_n 0, 1) := by decide +kernel
theorem dX6_passHour_22 : decode cX6_passHour 22 = .ok (.iload_n 3, 1) := by decide +kernel
theorem dX6_passHour_23 : decode cX6_passHour 23 = .ok (.invokevirtual 73, 3) := by decide +kernel
theorem dX6_passHour_26 : decode cX6_passHour 26 = .ok (.invokevirtual 76, 3) := by decide +kernel
theorem dX6_passHour_29 : decode cX6_passHour 29 = .ok (.isub, 1) := by decide +kernel
theorem dX6_passHour_30 : decode cX6_passHour 30 = .ok (.istore 4, 2) := by decide +kernel
theorem dX6_passHour_32 : decode cX6_passHour 32 = .ok (.iload 4, 2) := by decide +kernel
theorem dX6_passHour_34 : decode cX6_passHour 34 = .ok (.ifCond .le 20, 3) := by decide +kernel
theorem dX6_passHour_37 : decode cX6_passHour 37 = .ok (.aload_n 0, 1) := by decide +kernel
theorem dX6_passHour_38 : decode cX6_passHour 38 = .ok (.getfield 15, 3) := by decide +kernel
theorem dX6_passHour_41 : decode cX6_passHour 41 = .ok (.iload_n 3, 1) := by decide +kernel
theorem dX6_passHour_42 : decode cX6_passHour 42 = .ok (.iaload, 1) := by decide +kernel
theorem dX6_passHour_43 : decode cX6_passHour 43 = .ok (.bipush 9, 2) := by decide +kernel
theorem dX6_passHour_45 : decode cX6_passHour 45 = .ok (.if_icmp .ne 9, 3) := by decide +kernel
theorem dX6_passHour_48 : decode cX6_passHour 48 = .ok (.iinc 2 1, 3) := by decide +kernel
theorem dX6_passHour_51 : decode cX6_passHour 51 = .ok (.goto 45, 3) := by decide +kernel
theorem dX6_passHour_54 : decode cX6_passHour 54 = .ok (.iload 4, 2) := by decide +kernel
theorem dX6_passHour_56 : decode cX6_passHour 56 = .ok (.ifCond .le 16, 3) := by decide +kernel
theorem dX6_passHour_59 : decode cX6_passHour 59 = .ok (.aload_n 0, 1) := by decide +kernel
theorem dX6_passHour_60 : decode cX6_passHour 60 = .ok (.getfield 15, 3) := by decide +kernel
theorem dX6_passHour_63 : decode cX6_passHour 63 = .ok (.iload_n 3, 1) := by decide +kernel
theorem dX6_passHour_64 : decode cX6_passHour 64 = .ok (.dup2, 1) := by decide +kernel
theorem dX6_passHour_65 : decode cX6_passHour 65 = .ok (.iaload, 1) := by decide +kernel
theorem dX6_passHour_66 : decode cX6_passHour 66 = .ok (.iconst 1, 1) := by decide +kernel
theorem dX6_passHour_67 : decode cX6_passHour 67 = .ok (.iadd, 1) := by decide +kernel
theorem dX6_passHour_68 : decode cX6_passHour 68 = .ok (.iastore, 1) := by decide +kernel
theorem dX6_passHour_69 : decode cX6_passHour 69 = .ok (.goto 27, 3) := by decide +kernel
theorem dX6_passHour_72 : decode cX6_passHour 72 = .ok (.iload 4, 2) := by decide +kernel
theorem dX6_passHour_74 : decode cX6_passHour 74 = .ok (.ifCond .ge 22, 3) := by decide +kernel
theorem dX6_passHour_77 : decode cX6_passHour 77 = .ok (.aload_n 0, 1) := by decide +kernel
theorem dX6_passHour_78 : decode cX6_passHour 78 = .ok (.getfield 15, 3) := by decide +kernel
theorem dX6_passHour_81 : decode cX6_passHour 81 = .ok (.iload_n 3, 1) := by decide +kernel
theorem dX6_passHour_82 : decode cX6_passHour 82 = .ok (.iaload, 1) := by decide +kernel
theorem dX6_passHour_83 : decode cX6_passHour 83 = .ok (.ifCond .le 13, 3) := by decide +kernel
theorem dX6_passHour_86 : decode cX6_passHour 86 = .ok (.aload_n 0, 1) := by decide +kernel
theorem dX6_passHour_87 : decode cX6_passHour 87 = .ok (.getfield 15, 3) := by decide +kernel
theorem dX6_passHour_90 : decode cX6_passHour 90 = .ok (.iload_n 3, 1) := by decide +kernel
theorem dX6_passHour_91 : decode cX6_passHour 91 = .ok (.dup2, 1) := by decide +kernel
theorem dX6_passHour_92 : decode cX6_passHour 92 = .ok (.iaload, 1) := by decide +kernel
theorem dX6_passHour_93 : decode cX6_passHour 93 = .ok (.iconst 1, 1) := by decide +kernel
theorem dX6_passHour_94 : decode cX6_passHour 94 = .ok (.isub, 1) := by decide +kernel
theorem dX6_passHour_95 : decode cX6_passHour 95 = .ok (.iastore, 1) := by decide +kernel
theorem dX6_passHour_96 : decode cX6_passHour 96 = .ok (.iinc 3 1, 3) := by decide +kernel
theorem dX6_passHour_99 : decode cX6_passHour 99 = .ok (.goto (-95), 3) := by decide +kernel
theorem dX6_passHour_102 : decode cX6_passHour 102 = .ok (.iconst 0, 1) := by decide +kernel
theorem dX6_passHour_103 : decode cX6_passHour 103 = .ok (.istore_n 3, 1) := by decide +kernel
theorem dX6_passHour_104 : decode cX6_passHour 104 = .ok (.iload_n 3, 1) := by decide +kernel
theorem dX6_passHour_105 : decode cX6_passHour 105 = .ok (.aload_n 0, 1) := by decide +kernel
theorem dX6_passHour_106 : decode cX6_passHour 106 = .ok (.getfield 37, 3) := by decide +kernel
theorem dX6_passHour_109 : decode cX6_passHour 109 = .ok (.if_icmp .ge 69, 3) := by decide +kernel
theorem dX6_passHour_112 : decode cX6_passHour 112 = .ok (.aload_n 0, 1) := by decide +kernel
theorem dX6_passHour_113 : decode cX6_passHour 113 = .ok (.getfield 21, 3) := by decide +kernel
theorem dX6_passHour_116 : decode cX6_passHour 116 = .ok (.iload_n 3, 1) := by decide +kernel
theorem dX6_passHour_117 : decode cX6_passHour 117 = .ok (.iaload, 1) := by decide +kernel
theorem dX6_passHour_118 : decode cX6_passHour 118 = .ok (.ifCond .le 16, 3) := by decide +kernel
theorem dX6_passHour_121 : decode cX6_passHour 121 = .ok (.aload_n 0, 1) := by decide +kernel
theorem dX6_passHour_122 : decode cX6_passHour 122 = .ok (.getfield 21, 3) := by decide +kernel
theorem dX6_passHour_125 : decode cX6_passHour 125 = .ok (.iload_n 3, 1) := by decide +kernel
theorem dX6_passHour_126 : decode cX6_passHour 126 = .ok (.dup2, 1) := by decide +kernel
theorem dX6_passHour_127 : decode cX6_passHour 127 = .ok (.iaload, 1) := by decide +kernel
theorem dX6_passHour_128 : decode cX6_passHour 128 = .ok (.iconst 1, 1) := by decide +kernel
theorem dX6_passHour_129 : decode cX6_passHour 129 = .ok (.isub, 1) := by decide +kernel
theorem dX6_passHour_130 : decode cX6_passHour 130 = .ok (.iastore, 1) := by decide +kernel
theorem dX6_passHour_131 : decode cX6_passHour 131 = .ok (.goto 22, 3) := by decide +kernel
theorem dX6_passHour_134 : decode cX6_passHour 134 = .ok (.aload_n 0, 1) := by decide +kernel
theorem dX6_passHour_135 : decode cX6_passHour 135 = .ok (.getfield 18, 3) := by decide +kernel
theorem dX6_passHour_138 : decode cX6_passHour 138 = .ok (.iload_n 3, 1) := by decide +kernel
theorem dX6_passHour_139 : decode cX6_passHour 139 = .ok (.iaload, 1) := by decide +kernel
theorem dX6_passHour_140 : decode cX6_passHour 140 = .ok (.ifCond .le 13, 3) := by decide +kernel
theorem dX6_passHour_143 : decode cX6_passHour 143 = .ok (.aload_n 0, 1) := by decide +kernel
theorem dX6_passHour_144 : decode cX6_passHour 144 = .ok (.getfield 18, 3) := by decide +kernel
theorem dX6_passHour_147 : decode cX6_passHour 147 = .ok (.iload_n 3, 1) := by decide +kernel
theorem dX6_passHour_148 : decode cX6_passHour 148 = .ok (.dup2, 1) := by decide +kernel
theorem dX6_passHour_149 : decode cX6_passHour 149 = .ok (.iaload, 1) := by decide +kernel
theorem dX6_passHour_150 : decode cX6_passHour 150 = .ok (.iconst 1, 1) := by decide +kernel
theorem dX6_passHour_151 : decode cX6_passHour 151 = .ok (.isub, 1) := by decide +kernel
theorem dX6_passHour_152 : decode cX6_passHour 152 = .ok (.iastore, 1) := by decide +kernel
theorem dX6_passHour_153 : decode cX6_passHour 153 = .ok (.aload_n 0, 1) := by decide +kernel
theorem dX6_passHour_154 : decode cX6_passHour 154 = .ok (.getfield 24, 3) := by decide +kernel
theorem dX6_passHour_157 : decode cX6_passHour 157 = .ok (.iload_n 3, 1) := by decide +kernel
theorem dX6_passHour_158 : decode cX6_passHour 158 = .ok (.iaload, 1) := by decide +kernel
theorem dX6_passHour_159 : decode cX6_passHour 159 = .ok (.ifCond .le 13, 3) := by decide +kernel
theorem dX6_passHour_162 : decode cX6_passHour 162 = .ok (.aload_n 0, 1) := by decide +kernel
theorem dX6_passHour_163 : decode cX6_passHour 163 = .ok (.getfield 24, 3) := by decide +kernel
theorem dX6_passHour_166 : decode cX6_passHour 166 = .ok (.iload_n 3, 1) := by decide +kernel
theorem dX6_passHour_167 : decode cX6_passHour 167 = .ok (.dup2, 1) := by decide +kernel
theorem dX6_passHour_168 : decode cX6_passHour 168 = .ok (.iaload, 1) := by decide +kernel
theorem dX6_passHour_169 : decode cX6_passHour 169 = .ok (.iconst 1, 1) := by decide +kernel
theorem dX6_passHour_170 : decode cX6_passHour 170 = .ok (.isub, 1) := by decide +kernel
theorem dX6_passHour_171 : decode cX6_passHour 171 = .ok (.iastore, 1) := by decide +kernel
theorem dX6_passHour_172 : decode cX6_passHour 172 = .ok (.iinc 3 1, 3) := by decide +kernel
theorem dX6_passHour_175 : decode cX6_passHour 175 = .ok (.goto (-71), 3) := by decide +kernel
theorem dX6_passHour_178 : decode cX6_passHour 178 = .ok (.aload_n 0, 1) := by decide +kernel
theorem dX6_passHour_179 : decode cX6_passHour 179 = .ok (.dup, 1) := by decide +kernel
theorem dX6_passHour_180 : decode cX6_passHour 180 = .ok (.getfield 40, 3) := by decide +kernel
theorem dX6_passHour_183 : decode cX6_passHour 183 = .ok (.iconst 1, 1) := by decide +kernel
theorem dX6_passHour_184 : decode cX6_passHour 184 = .ok (.iadd, 1) := by decide +kernel
theorem dX6_passHour_185 : decode cX6_passHour 185 = .ok (.putfield 40, 3) := by decide +kernel
theorem dX6_passHour_188 : decode cX6_passHour 188 = .ok (.aload_n 0, 1) := by decide +kernel
theorem dX6_passHour_189 : decode cX6_passHour 189 = .ok (.sipush 9999, 3) := by decide +kernel
theorem dX6_passHour_192 : decode cX6_passHour 192 = .ok (.aload_n 0, 1) := by decide +kernel
theorem dX6_passHour_193 : decode cX6_passHour 193 = .ok (.getfield 43, 3) := by decide +kernel
theorem dX6_passHour_196 : decode cX6_passHour 196 = .ok (.iload_n 2, 1) := by decide +kernel
theorem dX6_passHour_197 : decode cX6_passHour 197 = .ok (.iadd, 1) := by decide +kernel
theorem dX6_passHour_198 : decode cX6_passHour 198 = .ok (.invokestatic 56, 3) := by decide +kernel
theorem dX6_passHour_201 : decode cX6_passHour 201 = .ok (.putfield 43, 3) := by decide +kernel
theorem dX6_passHour_204 : decode cX6_passHour 204 = .ok (.iload_n 2, 1) := by decide +kernel
theorem dX6_passHour_205 : decode cX6_passHour 205 = .ok (.ireturn, 1) := by decide +kernel
def p_X6_passHour_172 (F : Nat) (f_joy_153 : Nat → Int32) (f_bowl_153 : Nat → Int32) (y3_104 : Int32) (k104 : Int32 → (Nat → Int32) → (Nat → Int32) → (Nat → Int32) → Prop) (Post : Int32 → (Int32 × Int32 × Int32 × (Nat → Int32) × (Nat → Int32) × (Nat → Int32) × (Nat → Int32) × (Nat → Int32)) → Prop) (f_grief_172 : Nat → Int32) : Prop := (k104 (y3_104 + (1 : Int32)) f_joy_153 f_grief_172 f_bowl_153)
def p_X6_passHour_153 (F : Nat) (y3_104 : Int32) (f_grief_104 : Nat → Int32) (k104 : Int32 → (Nat → Int32) → (Nat → Int32) → (Nat → Int32) → Prop) (Post : Int32 → (Int32 × Int32 × Int32 × (Nat → Int32) × (Nat → Int32) × (Nat → Int32) × (Nat → Int32) × (Nat → Int32)) → Prop) (f_joy_153 : Nat → Int32) (f_bowl_153 : Nat → Int32) : Prop := (vp_in y3_104 8 ∧ (((f_grief_104 y3_104.toNatClampNeg) ≤ 0 → (p_X6_passHour_172 F f_joy_153 f_bowl_153 y3_104 k104 Post f_grief_104)) ∧ (¬ (f_grief_104 y3_104.toNatClampNeg) ≤ 0 → (vp_in y3_104 8 ∧ (vp_in y3_104 8 ∧ (p_X6_passHour_172 F f_joy_153 f_bowl_153 y3_104 k104 Post (upd f_grief_104 y3_104.toNatClampNeg ((f_grief_104 y3_104.toNatClampNeg) - (1 : Int32)))))))))
noncomputable def p_X6_passHour_104 (F : Nat) (x_cats : Int32) (x_hour : Int32) (x_drops : Int32) (y2_4 : Int32) (x_b1_top_4 : Int32) (f_b1_stack_4 : Nat → Int32) (f_sag_4 : Nat → Int32) (Post : Int32 → (Int32 × Int32 × Int32 × (Nat → Int32) × (Nat → Int32) × (Nat → Int32) × (Nat → Int32) × (Nat → Int32)) → Prop) (n : Nat) : Int32 → (Nat → Int32) → (Nat → Int32) → (Nat → Int32) → Prop := Nat.rec (motive := fun _ => Int32 → (Nat → Int32) → (Nat → Int32) → (Nat → Int32) → Prop) (fun _ _ _ _ => False) (fun _ k104 => fun (y3_104 : Int32) (f_joy_104 : Nat → Int32) (f_grief_104 : Nat → Int32) (f_bowl_104 : Nat → Int32) => ((x_cats ≤ y3_104 → (Post y2_4 ((x_hour + (1 : Int32)), (if (x_drops + y2_4) < (9999 : Int32) then (x_drops + y2_4) else (9999 : Int32)), x_b1_top_4, f_b1_stack_4, f_sag_4, f_joy_104, f_grief_104, f_bowl_104))) ∧ (¬ x_cats ≤ y3_104 → (vp_in y3_104 8 ∧ (((f_bowl_104 y3_104.toNatClampNeg) ≤ 0 → (vp_in y3_104 8 ∧ (((f_joy_104 y3_104.toNatClampNeg) ≤ 0 → (p_X6_passHour_153 F y3_104 f_grief_104 k104 Post f_joy_104 f_bowl_104)) ∧ (¬ (f_joy_104 y3_104.toNatClampNeg) ≤ 0 → (vp_in y3_104 8 ∧ (vp_in y3_104 8 ∧ (p_X6_passHour_153 F y3_104 f_grief_104 k104 Post (upd f_joy_104 y3_104.toNatClampNeg ((f_joy_104 y3_104.toNatClampNeg) - (1 : Int32))) f_bowl_104))))))) ∧ (¬ (f_bowl_104 y3_104.toNatClampNeg) ≤ 0 → (vp_in y3_104 8 ∧ (vp_in y3_104 8 ∧ (p_X6_passHour_153 F y3_104 f_grief_104 k104 Post f_joy_104 (upd f_bowl_104 y3_104.toNatClampNeg ((f_bowl_104 y3_104.toNatClampNeg) - (1 : Int32)))))))))))) n
theorem p_X6_passHour_104_s (F : Nat) (x_cats : Int32) (x_hour : Int32) (x_drops : Int32) (y2_4 : Int32) (x_b1_top_4 : Int32) (f_b1_stack_4 : Nat → Int32) (f_sag_4 : Nat → Int32) (Post : Int32 → (Int32 × Int32 × Int32 × (Nat → Int32) × (Nat → Int32) × (Nat → Int32) × (Nat → Int32) × (Nat → Int32)) → Prop) (n : Nat) (y3_104 : Int32) (f_joy_104 : Nat → Int32) (f_grief_104 : Nat → Int32) (f_bowl_104 : Nat → Int32) : p_X6_passHour_104 F x_cats x_hour x_drops y2_4 x_b1_top_4 f_b1_stack_4 f_sag_4 Post (n + 1) y3_104 f_joy_104 f_grief_104 f_bowl_104 = ((x_cats ≤ y3_104 → (Post y2_4 ((x_hour + (1 : Int32)), (if (x_drops + y2_4) < (9999 : Int32) then (x_drops + y2_4) else (9999 : Int32)), x_b1_top_4, f_b1_stack_4, f_sag_4, f_joy_104, f_grief_104, f_bowl_104))) ∧ (¬ x_cats ≤ y3_104 → (vp_in y3_104 8 ∧ (((f_bowl_104 y3_104.toNatClampNeg) ≤ 0 → (vp_in y3_104 8 ∧ (((f_joy_104 y3_104.toNatClampNeg) ≤ 0 → (p_X6_passHour_153 F y3_104 f_grief_104 (p_X6_passHour_104 F x_cats x_hour x_drops y2_4 x_b1_top_4 f_b1_stack_4 f_sag_4 Post n) Post f_joy_104 f_bowl_104)) ∧ (¬ (f_joy_104 y3_104.toNatClampNeg) ≤ 0 → (vp_in y3_104 8 ∧ (vp_in y3_104 8 ∧ (p_X6_passHour_153 F y3_104 f_grief_104 (p_X6_passHour_104 F x_cats x_hour x_drops y2_4 x_b1_top_4 f_b1_stack_4 f_sag_4 Post n) Post (upd f_joy_104 y3_104.toNatClampNeg ((f_joy_104 y3_104.toNatClampNeg) - (1 : Int32))) f_bowl_104))))))) ∧ (¬ (f_bowl_104 y3_104.toNatClampNeg) ≤ 0 → (vp_in y3_104 8 ∧ (vp_in y3_104 8 ∧ (p_X6_passHour_153 F y3_104 f_grief_104 (p_X6_passHour_104 F x_cats x_hour x_drops y2_4 x_b1_top_4 f_b1_stack_4 f_sag_4 Post n) Post f_joy_104 (upd f_bowl_104 y3_104.toNatClampNeg ((f_bowl_104 y3_104.toNatClampNeg) - (1 : Int32))))))))))) := rfl
def p_X6_passHour_96 (F : Nat) (u_26 : (Int32 × (Nat → Int32))) (y3_4 : Int32) (k4 : Int32 → Int32 → Int32 → (Nat → Int32) → (Nat → Int32) → Prop) (Post : Int32 → (Int32 × Int32 × Int32 × (Nat → Int32) × (Nat → Int32) × (Nat → Int32) × (Nat → Int32) × (Nat → Int32)) → Prop) (y2_96 : Int32) (f_sag_96 : Nat → Int32) : Prop := (k4 (y3_4 + (1 : Int32)) y2_96 u_26.1 u_26.2 f_sag_96)
def p_X6_passHour_54 (F : Nat) (f_load : Nat → Int32) (r_26 : Int32) (u_26 : (Int32 × (Nat → Int32))) (y3_4 : Int32) (y2_4 : Int32) (f_sag_4 : Nat → Int32) (k4 : Int32 → Int32 → Int32 → (Nat → Int32) → (Nat → Int32) → Prop) (Post : Int32 → (Int32 × Int32 × Int32 × (Nat → Int32) × (Nat → Int32) × (Nat → Int32) × (Nat → Int32) × (Nat → Int32)) → Prop) : Prop := ((((f_load y3_4.toNatClampNeg) - r_26) ≤ 0 → ((0 ≤ ((f_load y3_4.toNatClampNeg) - r_26) → (p_X6_passHour_96 F u_26 y3_4 k4 Post y2_4 f_sag_4)) ∧ (¬ 0 ≤ ((f_load y3_4.toNatClampNeg) - r_26) → (vp_in y3_4 6 ∧ (((f_sag_4 y3_4.toNatClampNeg) ≤ 0 → (p_X6_passHour_96 F u_26 y3_4 k4 Post y2_4 f_sag_4)) ∧ (¬ (f_sag_4 y3_4.toNatClampNeg) ≤ 0 → (vp_in y3_4 6 ∧ (vp_in y3_4 6 ∧ (p_X6_passHour_96 F u_26 y3_4 k4 Post y2_4 (upd f_sag_4 y3_4.toNatClampNeg ((f_sag_4 y3_4.toNatClampNeg) - (1 : Int32)))))))))))) ∧ (¬ ((f_load y3_4.toNatClampNeg) - r_26) ≤ 0 → (vp_in y3_4 6 ∧ (vp_in y3_4 6 ∧ (p_X6_passHour_96 F u_26 y3_4 k4 Post y2_4 (upd f_sag_4 y3_4.toNatClampNeg ((f_sag_4 y3_4.toNatClampNeg) + (1 : Int32))))))))
noncomputable def p_X6_passHour_4 (F : Nat) (x_arches : Int32) (x_cats : Int32) (x_hour : Int32) (x_drops : Int32) (f_load : Nat → Int32) (f_place : Nat → Int32) (x_b1_size : Int32) (f_b1_steps : Nat → Int32) (f_joy : Nat → Int32) (f_grief : Nat → Int32) (f_bowl : Nat → Int32) (Post : Int32 → (Int32 × Int32 × Int32 × (Nat → Int32) × (Nat → Int32) × (Nat → Int32) × (Nat → Int32) × (Nat → Int32)) → Prop) (n : Nat) : Int32 → Int32 → Int32 → (Nat → Int32) → (Nat → Int32) → Prop := Nat.rec (motive := fun _ => Int32 → Int32 → Int32 → (Nat → Int32) → (Nat → Int32) → Prop) (fun _ _ _ _ _ => False) (fun _ k4 => fun (y3_4 : Int32) (y2_4 : Int32) (x_b1_top_4 : Int32) (f_b1_stack_4 : Nat → Int32) (f_sag_4 : Nat → Int32) => ((x_arches ≤ y3_4 → (p_X6_passHour_104 F x_cats x_hour x_drops y2_4 x_b1_top_4 f_b1_stack_4 f_sag_4 Post F (0 : Int32) f_joy f_grief f_bowl)) ∧ (¬ x_arches ≤ y3_4 → (vp_in y3_4 6 ∧ (p_X6_catsIn F y3_4 x_cats f_place (fun (r_23 : Int32) => (p_X6_holdBy F y3_4 r_23 x_arches x_cats x_hour x_b1_size x_b1_top_4 f_b1_steps f_b1_stack_4 f_sag_4 f_load f_joy f_grief f_bowl (fun (r_26 : Int32) (u_26 : (Int32 × (Nat → Int32))) => ((((f_load y3_4.toNatClampNeg) - r_26) ≤ 0 → (p_X6_passHour_54 F f_load r_26 u_26 y3_4 y2_4 f_sag_4 k4 Post )) ∧ (¬ ((f_load y3_4.toNatClampNeg) - r_26) ≤ 0 → (vp_in y3_4 6 ∧ ((¬ (f_sag_4 y3_4.toNatClampNeg) = (9 : Int32) → (p_X6_passHour_54 F f_load r_26 u_26 y3_4 y2_4 f_sag_4 k4 Post )) ∧ ((f_sag_4 y3_4.toNatClampNeg) = (9 : Int32) → (p_X6_passHour_96 F u_26 y3_4 k4 Post (y2_4 + (1 : Int32)) f_sag_4)))))))))))))) n
theorem p_X6_passHour_4_s (F : Nat) (x_arches : Int32) (x_cats : Int32) (x_hour : Int32) (x_drops : Int32) (f_load : Nat → Int32) (f_place : Nat → Int32) (x_b1_size : Int32) (f_b1_steps : Nat → Int32) (f_joy : Nat → Int32) (f_grief : Nat → Int32) (f_bowl : Nat → Int32) (Post : Int32 → (Int32 × Int32 × Int32 × (Nat → Int32) × (Nat → Int32) × (Nat → Int32) × (Nat → Int32) × (Nat → Int32)) → Prop) (n : Nat) (y3_4 : Int32) (y2_4 : Int32) (x_b1_top_4 : Int32) (f_b1_stack_4 : Nat → Int32) (f_sag_4 : Nat → Int32) : p_X6_passHour_4 F x_arches x_cats x_hour x_drops f_load f_place x_b1_size f_b1_steps f_joy f_grief f_bowl Post (n + 1) y3_4 y2_4 x_b1_top_4 f_b1_stack_4 f_sag_4 = ((x_arches ≤ y3_4 → (p_X6_passHour_104 F x_cats x_hour x_drops y2_4 x_b1_top_4 f_b1_stack_4 f_sag_4 Post F (0 : Int32) f_joy f_grief f_bowl)) ∧ (¬ x_arches ≤ y3_4 → (vp_in y3_4 6 ∧ (p_X6_catsIn F y3_4 x_cats f_place (fun (r_23 : Int32) => (p_X6_holdBy F y3_4 r_23 x_arches x_cats x_hour x_b1_size x_b1_top_4 f_b1_steps f_b1_stack_4 f_sag_4 f_load f_joy f_grief f_bowl (fun (r_26 : Int32) (u_26 : (Int32 × (Nat → Int32))) => ((((f_load y3_4.toNatClampNeg) - r_26) ≤ 0 → (p_X6_passHour_54 F f_load r_26 u_26 y3_4 y2_4 f_sag_4 (p_X6_passHour_4 F x_arches x_cats x_hour x_drops f_load f_place x_b1_size f_b1_steps f_joy f_grief f_bowl Post n) Post )) ∧ (¬ ((f_load y3_4.toNatClampNeg) - r_26) ≤ 0 → (vp_in y3_4 6 ∧ ((¬ (f_sag_4 y3_4.toNatClampNeg) = (9 : Int32) → (p_X6_passHour_54 F f_load r_26 u_26 y3_4 y2_4 f_sag_4 (p_X6_passHour_4 F x_arches x_cats x_hour x_drops f_load f_place x_b1_size f_b1_steps f_joy f_grief f_bowl Post n) Post )) ∧ ((f_sag_4 y3_4.toNatClampNeg) = (9 : Int32) → (p_X6_passHour_96 F u_26 y3_4 (p_X6_passHour_4 F x_arches x_cats x_hour x_drops f_load f_place x_b1_size f_b1_steps f_joy f_grief f_bowl Post n) Post (y2_4 + (1 : Int32)) f_sag_4))))))))))))) := rfl
def p_X6_passHour (F : Nat) (x_arches : Int32) (x_cats : Int32) (x_hour : Int32) (x_drops : Int32) (f_load : Nat → Int32) (f_place : Nat → Int32) (x_b1_size : Int32) (x_b1_top : Int32) (f_b1_steps : Nat → Int32) (f_b1_stack : Nat → Int32) (f_sag : Nat → Int32) (f_joy : Nat → Int32) (f_grief : Nat → Int32) (f_bowl : Nat → Int32) (Post : Int32 → (Int32 × Int32 × Int32 × (Nat → Int32) × (Nat → Int32) × (Nat → Int32) × (Nat → Int32) × (Nat → Int32)) → Prop) : Prop := (p_X6_passHour_4 F x_arches x_cats x_hour x_drops f_load f_place x_b1_size f_b1_steps f_joy f_grief f_bowl Post F (0 : Int32) (0 : Int32) x_b1_top f_b1_stack f_sag)
set_option maxHeartbeats 4000000 in
set_option maxRecDepth 100000 in
theorem c_X6_passHour (l : Launch) (D : va_G) (cT : Nat → ClassId) (F : Nat) (h : Nat) (b1 : Nat) (q_load : Nat) (q_sag : Nat) (q_joy : Nat) (q_bowl : Nat) (q_grief : Nat) (q_place : Nat) (x_arches : Int32) (x_cats : Int32) (x_store : Int32) (x_hour : Int32) (x_drops : Int32) (f_load : Nat → Int32) (f_place : Nat → Int32) (q_b1_steps : Nat) (q_b1_stack : Nat) (x_b1_size : Int32) (x_b1_top : Int32) (x_b1_open : Int32) (x_b1_compared : Int32) (x_b1_digits : Int32) (x_b1_wantsThing : Int32) (f_b1_steps : Nat → Int32) (f_b1_stack : Nat → Int32) (f_sag : Nat → Int32) (f_joy : Nat → Int32) (f_grief : Nat → Int32) (f_bowl : Nat → Int32) (Post : Int32 → (Int32 × Int32 × Int32 × (Nat → Int32) × (Nat → Int32) × (Nat → Int32) × (Nat → Int32) × (Nat → Int32)) → Prop) (hg : p_X6_passHour F x_arches x_cats x_hour x_drops f_load f_place x_b1_size x_b1_top f_b1_steps f_b1_stack f_sag f_joy f_grief f_bowl Post) : MWi l D cT yX6_passHour cX6_passHour 5 (some .int) 4 103 0 0 [.ref h, .ref b1] [(h, oX6 (.ref q_load) (.ref q_sag) (.ref q_joy) (.ref q_bowl) (.ref q_grief) (.ref q_place) (.int x_arches) (.int x_cats) (.int x_store) (.int x_hour) (.int x_drops)), (q_load, aI cT 6 f_load), (q_place, aI cT 8 f_place), (b1, oX4 (.ref q_b1_steps) (.ref q_b1_stack) (.int x_b1_size) (.int x_b1_top) (.int x_b1_open) (.int x_b1_compared) (.int x_b1_digits) (.int x_b1_wantsThing)), (q_b1_steps, aI cT 40 f_b1_steps), (q_b1_stack, aI cT 40 f_b1_stack), (q_sag, aI cT 6 f_sag), (q_joy, aI cT 8 f_joy), (q_grief, aI cT 8 f_grief), (q_bowl, aI cT 8 f_bowl)] Post (fun (u : (Int32 × Int32 × Int32 × (Nat → Int32) × (Nat → Int32) × (Nat → Int32) × (Nat → Int32) × (Nat → Int32))) => [(h, oX6 (.ref q_load) (.ref q_sag) (.ref q_joy) (.ref q_bowl) (.ref q_grief) (.ref q_place) (.int x_arches) (.int x_cats) (.int x_store) (.int u.1) (.int u.2.1)), (q_load, aI cT 6 f_load), (q_place, aI cT 8 f_place), (b1, oX4 (.ref q_b1_steps) (.ref q_b1_stack) (.int x_b1_size) (.int u.2.2.1) (.int x_b1_open) (.int x_b1_compared) (.int x_b1_digits) (.int x_b1_wantsThing)), (q_b1_steps, aI cT 40 f_b1_steps), (q_b1_stack, aI cT 40 u.2.2.2.1), (q_sag, aI cT 6 u.2.2.2.2.1), (q_joy, aI cT 8 u.2.2.2.2.2.1), (q_grief, aI cT 8 u.2.2.2.2.2.2.1), (q_bowl, aI cT 8 u.2.2.2.2.2.2.2)]) := by
  refine MWi.of (by decide) (Nat.le_of_ble_eq_true rfl) ?_
  intro p e s m below meth c A hA C0 hnm hr hP hD ls hl
  have hl : lv_has ls 5 [(0, .ref h), (1, .ref b1)] := hl
  have hx := C0.x
  have hb := C0.b
  have hS : va_S A s.heap s.heap [] := va_S.rf
  have hP : va_P D cls9 [(h, oX6 (.ref q_load) (.ref q_sag) (.ref q_joy) (.ref q_bowl) (.ref q_grief) (.ref q_place) (.int x_arches) (.int x_cats) (.int x_store) (.int x_hour) (.int x_drops)), (q_load, aI cT 6 f_load), (q_place, aI cT 8 f_place), (b1, oX4 (.ref q_b1_steps) (.ref q_b1_stack) (.int x_b1_size) (.int x_b1_top) (.int x_b1_open) (.int x_b1_compared) (.int x_b1_digits) (.int x_b1_wantsThing)), (q_b1_steps, aI cT 40 f_b1_steps), (q_b1_stack, aI cT 40 f_b1_stack), (q_sag, aI cT 6 f_sag), (q_joy, aI cT 8 f_joy), (q_grief, aI cT 8 f_grief), (q_bowl, aI cT 8 f_bowl)] s.heap := hP
  have hD : va_D A [(h, oX6 (.ref q_load) (.ref q_sag) (.ref q_joy) (.ref q_bowl) (.ref q_grief) (.ref q_place) (.int x_arches) (.int x_cats) (.int x_store) (.int x_hour) (.int x_drops)), (q_load, aI cT 6 f_load), (q_place, aI cT 8 f_place), (b1, oX4 (.ref q_b1_steps) (.ref q_b1_stack) (.int x_b1_size) (.int x_b1_top) (.int x_b1_open) (.int x_b1_compared) (.int x_b1_digits) (.int x_b1_wantsThing)), (q_b1_steps, aI cT 40 f_b1_steps), (q_b1_stack, aI cT 40 f_b1_stack), (q_sag, aI cT 6 f_sag), (q_joy, aI cT 8 f_joy), (q_grief, aI cT 8 f_grief), (q_bowl, aI cT 8 f_bowl)] := hD
  have L104 : ∀ (y2_4 : Int32) (x_b1_top_4 : Int32) (f_b1_stack_4 : Nat → Int32) (f_sag_4 : Nat → Int32) (n104 : Nat) (y3_104 : Int32) (f_joy_104 : Nat → Int32) (f_grief_104 : Nat → Int32) (f_bowl_104 : Nat → Int32) (H : Heap) (locs : List Loc) (ls : Array Slot), p_X6_passHour_104 F x_cats x_hour x_drops y2_4 x_b1_top_4 f_b1_stack_4 f_sag_4 Post n104 y3_104 f_joy_104 f_grief_104 f_bowl_104 → va_P D cls9 [(h, oX6 (.ref q_load) (.ref q_sag) (.ref q_joy) (.ref q_bowl) (.ref q_grief) (.ref q_place) (.int x_arches) (.int x_cats) (.int x_store) (.int x_hour) (.int x_drops)), (q_load, aI cT 6 f_load), (q_place, aI cT 8 f_place), (b1, oX4 (.ref q_b1_steps) (.ref q_b1_stack) (.int x_b1_size) (.int x_b1_top_4) (.int x_b1_open) (.int x_b1_compared) (.int x_b1_digits) (.int x_b1_wantsThing)), (q_b1_steps, aI cT 40 f_b1_steps), (q_b1_stack, aI cT 40 f_b1_stack_4), (q_sag, aI cT 6 f_sag_4), (q_joy, aI cT 8 f_joy_104), (q_grief, aI cT 8 f_grief_104), (q_bowl, aI cT 8 f_bowl_104)] H → va_D A [(h, oX6 (.ref q_load) (.ref q_sag) (.ref q_joy) (.ref q_bowl) (.ref q_grief) (.ref q_place) (.int x_arches) (.int x_cats) (.int x_store) (.int x_hour) (.int x_drops)), (q_load, aI cT 6 f_load), (q_place, aI cT 8 f_place), (b1, oX4 (.ref q_b1_steps) (.ref q_b1_stack) (.int x_b1_size) (.int x_b1_top_4) (.int x_b1_open) (.int x_b1_compared) (.int x_b1_digits) (.int x_b1_wantsThing)), (q_b1_steps, aI cT 40 f_b1_steps), (q_b1_stack, aI cT 40 f_b1_stack_4), (q_sag, aI cT 6 f_sag_4), (q_joy, aI cT 8 f_joy_104), (q_grief, aI cT 8 f_grief_104), (q_bowl, aI cT 8 f_bowl_104)] → va_S A s.heap H locs → lv_has ls 5 [(0, .ref h), (2, .int y2_4), (3, .int y3_104)] → W p l e (rmO 4 103 0 0) s m ([.ref h, .ref b1] : List Value).toArray below meth c H locs 0 0 (MQ below (va_Qi Post (cB D A (fun (u : (Int32 × Int32 × Int32 × (Nat → Int32) × (Nat → Int32) × (Nat → Int32) × (Nat → Int32) × (Nat → Int32))) => [(h, oX6 (.ref q_load) (.ref q_sag) (.ref q_joy) (.ref q_bowl) (.ref q_grief) (.ref q_place) (.int x_arches) (.int x_cats) (.int x_store) (.int u.1) (.int u.2.1)), (q_load, aI cT 6 f_load), (q_place, aI cT 8 f_place), (b1, oX4 (.ref q_b1_steps) (.ref q_b1_stack) (.int x_b1_size) (.int u.2.2.1) (.int x_b1_open) (.int x_b1_compared) (.int x_b1_digits) (.int x_b1_wantsThing)), (q_b1_steps, aI cT 40 f_b1_steps), (q_b1_stack, aI cT 40 u.2.2.2.1), (q_sag, aI cT 6 u.2.2.2.2.1), (q_joy, aI cT 8 u.2.2.2.2.2.1), (q_grief, aI cT 8 u.2.2.2.2.2.2.1), (q_bowl, aI cT 8 u.2.2.2.2.2.2.2)])) A) ([.ref h, .ref b1] : List Value).toArray s 0 0 A) (F0 m 104 ls []) := by
    intro y2_4 x_b1_top_4 f_b1_stack_4 f_sag_4 n104
    induction n104 with
    | zero =>
      intro y3_104 f_joy_104 f_grief_104 f_bowl_104 H locs ls hg hP hD hS hl
      exact False.elim hg
    | succ n104 ih104 =>
      have L172 : ∀ (f_joy_153 : Nat → Int32) (f_bowl_153 : Nat → Int32) (y3_104 : Int32) (f_grief_172 : Nat → Int32) (H : Heap) (locs : List Loc) (ls : Array Slot), p_X6_passHour_172 F f_joy_153 f_bowl_153 y3_104 (p_X6_passHour_104 F x_cats x_hour x_drops y2_4 x_b1_top_4 f_b1_stack_4 f_sag_4 Post n104) Post f_grief_172 → va_P D cls9 [(h, oX6 (.ref q_load) (.ref q_sag) (.ref q_joy) (.ref q_bowl) (.ref q_grief) (.ref q_place) (.int x_arches) (.int x_cats) (.int x_store) (.int x_hour) (.int x_drops)), (q_load, aI cT 6 f_load), (q_place, aI cT 8 f_place), (b1, oX4 (.ref q_b1_steps) (.ref q_b1_stack) (.int x_b1_size) (.int x_b1_top_4) (.int x_b1_open) (.int x_b1_compared) (.int x_b1_digits) (.int x_b1_wantsThing)), (q_b1_steps, aI cT 40 f_b1_steps), (q_b1_stack, aI cT 40 f_b1_stack_4), (q_sag, aI cT 6 f_sag_4), (q_joy, aI cT 8 f_joy_153), (q_grief, aI cT 8 f_grief_172), (q_bowl, aI cT 8 f_bowl_153)] H → va_D A [(h, oX6 (.ref q_load) (.ref q_sag) (.ref q_joy) (.ref q_bowl) (.ref q_grief) (.ref q_place) (.int x_arches) (.int x_cats) (.int x_store) (.int x_hour) (.int x_drops)), (q_load, aI cT 6 f_load), (q_place, aI cT 8 f_place), (b1, oX4 (.ref q_b1_steps) (.ref q_b1_stack) (.int x_b1_size) (.int x_b1_top_4) (.int x_b1_open) (.int x_b1_compared) (.int x_b1_digits) (.int x_b1_wantsThing)), (q_b1_steps, aI cT 40 f_b1_steps), (q_b1_stack, aI cT 40 f_b1_stack_4), (q_sag, aI cT 6 f_sag_4), (q_joy, aI cT 8 f_joy_153), (q_grief, aI cT 8 f_grief_172), (q_bowl, aI cT 8 f_bowl_153)] → va_S A s.heap H locs → lv_has ls 5 [(0, .ref h), (2, .int y2_4), (3, .int y3_104)] → W p l e (rmO 4 103 0 0) s m ([.ref h, .ref b1] : List Value).toArray below meth c H locs 0 0 (MQ below (va_Qi Post (cB D A (fun (u : (Int32 × Int32 × Int32 × (Nat → Int32) × (Nat → Int32) × (Nat → Int32) × (Nat → Int32) × (Nat → Int32))) => [(h, oX6 (.ref q_load) (.ref q_sag) (.ref q_joy) (.ref q_bowl) (.ref q_grief) (.ref q_place) (.int x_arches) (.int x_cats) (.int x_store) (.int u.1) (.int u.2.1)), (q_load, aI cT 6 f_load), (q_place, aI cT 8 f_place), (b1, oX4 (.ref q_b1_steps) (.ref q_b1_stack) (.int x_b1_size) (.int u.2.2.1) (.int x_b1_open) (.int x_b1_compared) (.int x_b1_digits) (.int x_b1_wantsThing)), (q_b1_steps, aI cT 40 f_b1_steps), (q_b1_stack, aI cT 40 u.2.2.2.1), (q_sag, aI cT 6 u.2.2.2.2.1), (q_joy, aI cT 8 u.2.2.2.2.2.1), (q_grief, aI cT 8 u.2.2.2.2.2.2.1), (q_bowl, aI cT 8 u.2.2.2.2.2.2.2)])) A) ([.ref h, .ref b1] : List Value).toArray s 0 0 A) (F0 m 172 ls []) := by
        intro f_joy_153 f_bowl_153 y3_104 f_grief_172 H locs ls hg hP hD hS hl
        unfold p_X6_passHour_172 at hg
        refine lv_iinc (v := (y3_104 + (1 : Int32))) (lv' := [(3, .int (y3_104 + (1 : Int32))), (0, .ref h), (2, .int y2_4)]) hx hb dX6_passHour_172 hl (k := 2) rfl rfl (by decide) rfl (fun ls hl => ?_)
        refine lv_goto (tgt := 104) hx hb dX6_passHour_175 (by decide) ?_
        exact ih104 (y3_104 + (1 : Int32)) f_joy_153 f_grief_172 f_bowl_153 _ _ _ hg hP hD hS (lv_sub hl [1, 2, 0] rfl)
      have L153 : ∀ (y3_104 : Int32) (f_grief_104 : Nat → Int32) (f_joy_153 : Nat → Int32) (f_bowl_153 : Nat → Int32) (H : Heap) (locs : List Loc) (ls : Array Slot), p_X6_passHour_153 F y3_104 f_grief_104 (p_X6_passHour_104 F x_cats x_hour x_drops y2_4 x_b1_top_4 f_b1_stack_4 f_sag_4 Post n104) Post f_joy_153 f_bowl_153 → va_P D cls9 [(h, oX6 (.ref q_load) (.ref q_sag) (.ref q_joy) (.ref q_bowl) (.ref q_grief) (.ref q_place) (.int x_arches) (.int x_cats) (.int x_store) (.int x_hour) (.int x_drops)), (q_load, aI cT 6 f_load), (q_place, aI cT 8 f_place), (b1, oX4 (.ref q_b1_steps) (.ref q_b1_stack) (.int x_b1_size) (.int x_b1_top_4) (.int x_b1_open) (.int x_b1_compared) (.int x_b1_digits) (.int x_b1_wantsThing)), (q_b1_steps, aI cT 40 f_b1_steps), (q_b1_stack, aI cT 40 f_b1_stack_4), (q_sag, aI cT 6 f_sag_4), (q_joy, aI cT 8 f_joy_153), (q_grief, aI cT 8 f_grief_104), (q_bowl, aI cT 8 f_bowl_153)] H → va_D A [(h, oX6 (.ref q_load) (.ref q_sag) (.ref q_joy) (.ref q_bowl) (.ref q_grief) (.ref q_place) (.int x_arches) (.int x_cats) (.int x_store) (.int x_hour) (.int x_drops)), (q_load, aI cT 6 f_load), (q_place, aI cT 8 f_place), (b1, oX4 (.ref q_b1_steps) (.ref q_b1_stack) (.int x_b1_size) (.int x_b1_top_4) (.int x_b1_open) (.int x_b1_compared) (.int x_b1_digits) (.int x_b1_wantsThing)), (q_b1_steps, aI cT 40 f_b1_steps), (q_b1_stack, aI cT 40 f_b1_stack_4), (q_sag, aI cT 6 f_sag_4), (q_joy, aI cT 8 f_joy_153), (q_grief, aI cT 8 f_grief_104), (q_bowl, aI cT 8 f_bowl_153)] → va_S A s.heap H locs → lv_has ls 5 [(0, .ref h), (2, .int y2_4), (3, .int y3_104)] → W p l e (rmO 4 103 0 0) s m ([.ref h, .ref b1] : List Value).toArray below meth c H locs 0 0 (MQ below (va_Qi Post (cB D A (fun (u : (Int32 × Int32 × Int32 × (Nat → Int32) × (Nat → Int32) × (Nat → Int32) × (Nat → Int32) × (Nat → Int32))) => [(h, oX6 (.ref q_load) (.ref q_sag) (.ref q_joy) (.ref q_bowl) (.ref q_grief) (.ref q_place) (.int x_arches) (.int x_cats) (.int x_store) (.int u.1) (.int u.2.1)), (q_load, aI cT 6 f_load), (q_place, aI cT 8 f_place), (b1, oX4 (.ref q_b1_steps) (.ref q_b1_stack) (.int x_b1_size) (.int u.2.2.1) (.int x_b1_open) (.int x_b1_compared) (.int x_b1_digits) (.int x_b1_wantsThing)), (q_b1_steps, aI cT 40 f_b1_steps), (q_b1_stack, aI cT 40 u.2.2.2.1), (q_sag, aI cT 6 u.2.2.2.2.1), (q_joy, aI cT 8 u.2.2.2.2.2.1), (q_grief, aI cT 8 u.2.2.2.2.2.2.1), (q_bowl, aI cT 8 u.2.2.2.2.2.2.2)])) A) ([.ref h, .ref b1] : List Value).toArray s 0 0 A) (F0 m 153 ls []) := by
        intro y3_104 f_grief_104 f_joy_153 f_bowl_153 H locs ls hg hP hD hS hl
        unfold p_X6_passHour_153 at hg
        refine lv_aload_n hx hb dX6_passHour_153 rfl (lv_at hl 0 rfl) ?_
        refine gf_X6_24 C0 hP 0 rfl rfl dX6_passHour_154 ?_
        refine lv_iload_n hx hb dX6_passHour_157 rfl (lv_at hl 2 rfl) ?_
        obtain ⟨g_158, hg⟩ := hg
        refine k_iald C0 hP 8 rfl g_158 dX6_passHour_158 ?_
        refine lv_if_le (tgt := 172) hx hb dX6_passHour_159 (by decide) (fun c_159 => ?_) (fun c_159 => ?_)
        · have hg := hg.1 c_159
          exact L172 f_joy_153 f_bowl_153 y3_104 f_grief_104 _ _ _ hg hP hD hS hl
        have hg := hg.2 c_159
        refine lv_aload_n hx hb dX6_passHour_162 rfl (lv_at hl 0 rfl) ?_
        refine gf_X6_24 C0 hP 0 rfl rfl dX6_passHour_163 ?_
        refine lv_iload_n hx hb dX6_passHour_166 rfl (lv_at hl 2 rfl) ?_
        refine lv_dup2_11 hx hb dX6_passHour_167 rfl rfl ?_
        obtain ⟨g_168, hg⟩ := hg
        refine k_iald C0 hP 8 rfl g_168 dX6_passHour_168 ?_
        refine lv_iconst (v := (1 : Int32)) hx hb dX6_passHour_169 (by decide) ?_
        refine lv_isub hx hb dX6_passHour_170 ?_
        obtain ⟨g_171, hg⟩ := hg
        refine k_iast C0 hP hD hS 8 rfl g_171 (ws' := [(h, oX6 (.ref q_load) (.ref q_sag) (.ref q_joy) (.ref q_bowl) (.ref q_grief) (.ref q_place) (.int x_arches) (.int x_cats) (.int x_store) (.int x_hour) (.int x_drops)), (q_load, aI cT 6 f_load), (q_place, aI cT 8 f_place), (b1, oX4 (.ref q_b1_steps) (.ref q_b1_stack) (.int x_b1_size) (.int x_b1_top_4) (.int x_b1_open) (.int x_b1_compared) (.int x_b1_digits) (.int x_b1_wantsThing)), (q_b1_steps, aI cT 40 f_b1_steps), (q_b1_stack, aI cT 40 f_b1_stack_4), (q_sag, aI cT 6 f_sag_4), (q_joy, aI cT 8 f_joy_153), (q_grief, aI cT 8 (upd f_grief_104 y3_104.toNatClampNeg ((f_grief_104 y3_104.toNatClampNeg) - (1 : Int32)))), (q_bowl, aI cT 8 f_bowl_153)]) rfl dX6_passHour_171 (fun H locs hP hD hS => ?_)
        exact L172 f_joy_153 f_bowl_153 y3_104 (upd f_grief_104 y3_104.toNatClampNeg ((f_grief_104 y3_104.toNatClampNeg) - (1 : Int32))) _ _ _ hg hP hD hS hl
      intro y3_104 f_joy_104 f_grief_104 f_bowl_104 H locs ls hg hP hD hS hl
      rw [p_X6_passHour_104_s] at hg
      refine lv_iload_n hx hb dX6_passHour_104 rfl (lv_at hl 2 rfl) ?_
      refine lv_aload_n hx hb dX6_passHour_105 rfl (lv_at hl 0 rfl) ?_
      refine gf_X6_37 C0 hP 0 rfl rfl dX6_passHour_106 ?_
      refine lv_icmp_ge (tgt := 178) hx hb dX6_passHour_109 (by decide) (fun c_109 => ?_) (fun c_109 => ?_)
      · have hg := hg.1 c_109
        refine lv_aload_n hx hb dX6_passHour_178 rfl (lv_at hl 0 rfl) ?_
        refine lv_dup hx hb dX6_passHour_179 rfl ?_
        refine gf_X6_40 C0 hP 0 rfl rfl dX6_passHour_180 ?_
        refine lv_iconst (v := (1 : Int32)) hx hb dX6_passHour_183 (by decide) ?_
        refine lv_iadd hx hb dX6_passHour_184 ?_
        refine pf_X6_40 C0 hP hD hS 0 rfl (Nat.le_of_ble_eq_true rfl) (ws2 := [(h, oX6 (.ref q_load) (.ref q_sag) (.ref q_joy) (.ref q_bowl) (.ref q_grief) (.ref q_place) (.int x_arches) (.int x_cats) (.int x_store) (.int (x_hour + (1 : Int32))) (.int x_drops)), (q_load, aI cT 6 f_load), (q_place, aI cT 8 f_place), (b1, oX4 (.ref q_b1_steps) (.ref q_b1_stack) (.int x_b1_size) (.int x_b1_top_4) (.int x_b1_open) (.int x_b1_compared) (.int x_b1_digits) (.int x_b1_wantsThing)), (q_b1_steps, aI cT 40 f_b1_steps), (q_b1_stack, aI cT 40 f_b1_stack_4), (q_sag, aI cT 6 f_sag_4), (q_joy, aI cT 8 f_joy_104), (q_grief, aI cT 8 f_grief_104), (q_bowl, aI cT 8 f_bowl_104)]) rfl dX6_passHour_185 (fun H locs hP hD hS => ?_)
        refine lv_aload_n hx hb dX6_passHour_188 rfl (lv_at hl 0 rfl) ?_
        refine lv_sipush (v := (9999 : Int32)) hx hb dX6_passHour_189 (by decide) ?_
        refine lv_aload_n hx hb dX6_passHour_192 rfl (lv_at hl 0 rfl) ?_
        refine gf_X6_43 C0 hP 0 rfl rfl dX6_passHour_193 ?_
        refine lv_iload_n hx hb dX6_passHour_196 rfl (lv_at hl 1 rfl) ?_
        refine lv_iadd hx hb dX6_passHour_197 ?_
        refine k_min C0 w2_184 hl.1 (Nat.le_of_ble_eq_true rfl) (Nat.le_of_ble_eq_true rfl) (Nat.le_of_ble_eq_true rfl) (Nat.le_of_ble_eq_true rfl) dX6_passHour_198 ?_
        refine pf_X6_43 C0 hP hD hS 0 rfl (Nat.le_of_ble_eq_true rfl) (ws2 := [(h, oX6 (.ref q_load) (.ref q_sag) (.ref q_joy) (.ref q_bowl) (.ref q_grief) (.ref q_place) (.int x_arches) (.int x_cats) (.int x_store) (.int (x_hour + (1 : Int32))) (.int (if (x_drops + y2_4) < (9999 : Int32) then (x_drops + y2_4) else (9999 : Int32)))), (q_load, aI cT 6 f_load), (q_place, aI cT 8 f_place), (b1, oX4 (.ref q_b1_steps) (.ref q_b1_stack) (.int x_b1_size) (.int x_b1_top_4) (.int x_b1_open) (.int x_b1_compared) (.int x_b1_digits) (.int x_b1_wantsThing)), (q_b1_steps, aI cT 40 f_b1_steps), (q_b1_stack, aI cT 40 f_b1_stack_4), (q_sag, aI cT 6 f_sag_4), (q_joy, aI cT 8 f_joy_104), (q_grief, aI cT 8 f_grief_104), (q_bowl, aI cT 8 f_bowl_104)]) rfl dX6_passHour_201 (fun H locs hP hD hS => ?_)
        refine lv_iload_n hx hb dX6_passHour_204 rfl (lv_at hl 1 rfl) ?_
        exact k_iret C0 hr ((x_hour + (1 : Int32)), (if (x_drops + y2_4) < (9999 : Int32) then (x_drops + y2_4) else (9999 : Int32)), x_b1_top_4, f_b1_stack_4, f_sag_4, f_joy_104, f_grief_104, f_bowl_104) hg hP hD hS dX6_passHour_205
      have hg := hg.2 c_109
      refine lv_aload_n hx hb dX6_passHour_112 rfl (lv_at hl 0 rfl) ?_
      refine gf_X6_21 C0 hP 0 rfl rfl dX6_passHour_113 ?_
      refine lv_iload_n hx hb dX6_passHour_116 rfl (lv_at hl 2 rfl) ?_
      obtain ⟨g_117, hg⟩ := hg
      refine k_iald C0 hP 9 rfl g_117 dX6_passHour_117 ?_
      refine lv_if_le (tgt := 134) hx hb dX6_passHour_118 (by decide) (fun c_118 => ?_) (fun c_118 => ?_)
      · have hg := hg.1 c_118
        refine lv_aload_n hx hb dX6_passHour_134 rfl (lv_at hl 0 rfl) ?_
        refine gf_X6_18 C0 hP 0 rfl rfl dX6_passHour_135 ?_
        refine lv_iload_n hx hb dX6_passHour_138 rfl (lv_at hl 2 rfl) ?_
        obtain ⟨g_139, hg⟩ := hg
        refine k_iald C0 hP 7 rfl g_139 dX6_passHour_139 ?_
        refine lv_if_le (tgt := 153) hx hb dX6_passHour_140 (by decide) (fun c_140 => ?_) (fun c_140 => ?_)
        · have hg := hg.1 c_140
          exact L153 y3_104 f_grief_104 f_joy_104 f_bowl_104 _ _ _ hg hP hD hS hl
        have hg := hg.2 c_140
        refine lv_aload_n hx hb dX6_passHour_143 rfl (lv_at hl 0 rfl) ?_
        refine gf_X6_18 C0 hP 0 rfl rfl dX6_passHour_144 ?_
        refine lv_iload_n hx hb dX6_passHour_147 rfl (lv_at hl 2 rfl) ?_
        refine lv_dup2_11 hx hb dX6_passHour_148 rfl rfl ?_
        obtain ⟨g_149, hg⟩ := hg
        refine k_iald C0 hP 7 rfl g_149 dX6_passHour_149 ?_
        refine lv_iconst (v := (1 : Int32)) hx hb dX6_passHour_150 (by decide) ?_
        refine lv_isub hx hb dX6_passHour_151 ?_
        obtain ⟨g_152, hg⟩ := hg
        refine k_iast C0 hP hD hS 7 rfl g_152 (ws' := [(h, oX6 (.ref q_load) (.ref q_sag) (.ref q_joy) (.ref q_bowl) (.ref q_grief) (.ref q_place) (.int x_arches) (.int x_cats) (.int x_store) (.int x_hour) (.int x_drops)), (q_load, aI cT 6 f_load), (q_place, aI cT 8 f_place), (b1, oX4 (.ref q_b1_steps) (.ref q_b1_stack) (.int x_b1_size) (.int x_b1_top_4) (.int x_b1_open) (.int x_b1_compared) (.int x_b1_digits) (.int x_b1_wantsThing)), (q_b1_steps, aI cT 40 f_b1_steps), (q_b1_stack, aI cT 40 f_b1_stack_4), (q_sag, aI cT 6 f_sag_4), (q_joy, aI cT 8 (upd f_joy_104 y3_104.toNatClampNeg ((f_joy_104 y3_104.toNatClampNeg) - (1 : Int32)))), (q_grief, aI cT 8 f_grief_104), (q_bowl, aI cT 8 f_bowl_104)]) rfl dX6_passHour_152 (fun H locs hP hD hS => ?_)
        exact L153 y3_104 f_grief_104 (upd f_joy_104 y3_104.toNatClampNeg ((f_joy_104 y3_104.toNatClampNeg) - (1 : Int32))) f_bowl_104 _ _ _ hg hP hD hS hl
      have hg := hg.2 c_118
      refine lv_aload_n hx hb dX6_passHour_121 rfl (lv_at hl 0 rfl) ?_
      refine gf_X6_21 C0 hP 0 rfl rfl dX6_passHour_122 ?_
      refine lv_iload_n hx hb dX6_passHour_125 rfl (lv_at hl 2 rfl) ?_
      refine lv_dup2_11 hx hb dX6_passHour_126 rfl rfl ?_
      obtain ⟨g_127, hg⟩ := hg
      refine k_iald C0 hP 9 rfl g_127 dX6_passHour_127 ?_
      refine lv_iconst (v := (1 : Int32)) hx hb dX6_passHour_128 (by decide) ?_
      refine lv_isub hx hb dX6_passHour_129 ?_
      obtain ⟨g_130, hg⟩ := hg
      refine k_iast C0 hP hD hS 9 rfl g_130 (ws' := [(h, oX6 (.ref q_load) (.ref q_sag) (.ref q_joy) (.ref q_bowl) (.ref q_grief) (.ref q_place) (.int x_arches) (.int x_cats) (.int x_store) (.int x_hour) (.int x_drops)), (q_load, aI cT 6 f_load), (q_place, aI cT 8 f_place), (b1, oX4 (.ref q_b1_steps) (.ref q_b1_stack) (.int x_b1_size) (.int x_b1_top_4) (.int x_b1_open) (.int x_b1_compared) (.int x_b1_digits) (.int x_b1_wantsThing)), (q_b1_steps, aI cT 40 f_b1_steps), (q_b1_stack, aI cT 40 f_b1_stack_4), (q_sag, aI cT 6 f_sag_4), (q_joy, aI cT 8 f_joy_104), (q_grief, aI cT 8 f_grief_104), (q_bowl, aI cT 8 (upd f_bowl_104 y3_104.toNatClampNeg ((f_bowl_104 y3_104.toNatClampNeg) - (1 : Int32))))]) rfl dX6_passHour_130 (fun H locs hP hD hS => ?_)
      refine lv_goto (tgt := 153) hx hb dX6_passHour_131 (by decide) ?_
      exact L153 y3_104 f_grief_104 f_joy_104 (upd f_bowl_104 y3_104.toNatClampNeg ((f_bowl_104 y3_104.toNatClampNeg) - (1 : Int32))) _ _ _ hg hP hD hS hl
  have L4 : ∀ (n4 : Nat) (y3_4 : Int32) (y2_4 : Int32) (x_b1_top_4 : Int32) (f_b1_stack_4 : Nat → Int32) (f_sag_4 : Nat → Int32) (H : Heap) (locs : List Loc) (ls : Array Slot), p_X6_passHour_4 F x_arches x_cats x_hour x_drops f_load f_place x_b1_size f_b1_steps f_joy f_grief f_bowl Post n4 y3_4 y2_4 x_b1_top_4 f_b1_stack_4 f_sag_4 → va_P D cls9 [(h, oX6 (.ref q_load) (.ref q_sag) (.ref q_joy) (.ref q_bowl) (.ref q_grief) (.ref q_place) (.int x_arches) (.int x_cats) (.int x_store) (.int x_hour) (.int x_drops)), (q_load, aI cT 6 f_load), (q_place, aI cT 8 f_place), (b1, oX4 (.ref q_b1_steps) (.ref q_b1_stack) (.int x_b1_size) (.int x_b1_top_4) (.int x_b1_open) (.int x_b1_compared) (.int x_b1_digits) (.int x_b1_wantsThing)), (q_b1_steps, aI cT 40 f_b1_steps), (q_b1_stack, aI cT 40 f_b1_stack_4), (q_sag, aI cT 6 f_sag_4), (q_joy, aI cT 8 f_joy), (q_grief, aI cT 8 f_grief), (q_bowl, aI cT 8 f_bowl)] H → va_D A [(h, oX6 (.ref q_load) (.ref q_sag) (.ref q_joy) (.ref q_bowl) (.ref q_grief) (.ref q_place) (.int x_arches) (.int x_cats) (.int x_store) (.int x_hour) (.int x_drops)), (q_load, aI cT 6 f_load), (q_place, aI cT 8 f_place), (b1, oX4 (.ref q_b1_steps) (.ref q_b1_stack) (.int x_b1_size) (.int x_b1_top_4) (.int x_b1_open) (.int x_b1_compared) (.int x_b1_digits) (.int x_b1_wantsThing)), (q_b1_steps, aI cT 40 f_b1_steps), (q_b1_stack, aI cT 40 f_b1_stack_4), (q_sag, aI cT 6 f_sag_4), (q_joy, aI cT 8 f_joy), (q_grief, aI cT 8 f_grief), (q_bowl, aI cT 8 f_bowl)] → va_S A s.heap H locs → lv_has ls 5 [(0, .ref h), (1, .ref b1), (2, .int y2_4), (3, .int y3_4)] → W p l e (rmO 4 103 0 0) s m ([.ref h, .ref b1] : List Value).toArray below meth c H locs 0 0 (MQ below (va_Qi Post (cB D A (fun (u : (Int32 × Int32 × Int32 × (Nat → Int32) × (Nat → Int32) × (Nat → Int32) × (Nat → Int32) × (Nat → Int32))) => [(h, oX6 (.ref q_load) (.ref q_sag) (.ref q_joy) (.ref q_bowl) (.ref q_grief) (.ref q_place) (.int x_arches) (.int x_cats) (.int x_store) (.int u.1) (.int u.2.1)), (q_load, aI cT 6 f_load), (q_place, aI cT 8 f_place), (b1, oX4 (.ref q_b1_steps) (.ref q_b1_stack) (.int x_b1_size) (.int u.2.2.1) (.int x_b1_open) (.int x_b1_compared) (.int x_b1_digits) (.int x_b1_wantsThing)), (q_b1_steps, aI cT 40 f_b1_steps), (q_b1_stack, aI cT 40 u.2.2.2.1), (q_sag, aI cT 6 u.2.2.2.2.1), (q_joy, aI cT 8 u.2.2.2.2.2.1), (q_grief, aI cT 8 u.2.2.2.2.2.2.1), (q_bowl, aI cT 8 u.2.2.2.2.2.2.2)])) A) ([.ref h, .ref b1] : List Value).toArray s 0 0 A) (F0 m 4 ls []) := by
    intro n4
    induction n4 with
    | zero =>
      intro y3_4 y2_4 x_b1_top_4 f_b1_stack_4 f_sag_4 H locs ls hg hP hD hS hl
      exact False.elim hg
    | succ n4 ih4 =>
      have L96 : ∀ (u_26 : (Int32 × (Nat → Int32))) (y3_4 : Int32) (y2_96 : Int32) (f_sag_96 : Nat → Int32) (H : Heap) (locs : List Loc) (ls : Array Slot), p_X6_passHour_96 F u_26 y3_4 (p_X6_passHour_4 F x_arches x_cats x_hour x_drops f_load f_place x_b1_size f_b1_steps f_joy f_grief f_bowl Post n4) Post y2_96 f_sag_96 → va_P D cls9 [(h, oX6 (.ref q_load) (.ref q_sag) (.ref q_joy) (.ref q_bowl) (.ref q_grief) (.ref q_place) (.int x_arches) (.int x_cats) (.int x_store) (.int x_hour) (.int x_drops)), (q_load, aI cT 6 f_load), (q_place, aI cT 8 f_place), (b1, oX4 (.ref q_b1_steps) (.ref q_b1_stack) (.int x_b1_size) (.int u_26.1) (.int x_b1_open) (.int x_b1_compared) (.int x_b1_digits) (.int x_b1_wantsThing)), (q_b1_steps, aI cT 40 f_b1_steps), (q_b1_stack, aI cT 40 u_26.2), (q_sag, aI cT 6 f_sag_96), (q_joy, aI cT 8 f_joy), (q_grief, aI cT 8 f_grief), (q_bowl, aI cT 8 f_bowl)] H → va_D A [(h, oX6 (.ref q_load) (.ref q_sag) (.ref q_joy) (.ref q_bowl) (.ref q_grief) (.ref q_place) (.int x_arches) (.int x_cats) (.int x_store) (.int x_hour) (.int x_drops)), (q_load, aI cT 6 f_load), (q_place, aI cT 8 f_place), (b1, oX4 (.ref q_b1_steps) (.ref q_b1_stack) (.int x_b1_size) (.int u_26.1) (.int x_b1_open) (.int x_b1_compared) (.int x_b1_digits) (.int x_b1_wantsThing)), (q_b1_steps, aI cT 40 f_b1_steps), (q_b1_stack, aI cT 40 u_26.2), (q_sag, aI cT 6 f_sag_96), (q_joy, aI cT 8 f_joy), (q_grief, aI cT 8 f_grief), (q_bowl, aI cT 8 f_bowl)] → va_S A s.heap H locs → lv_has ls 5 [(0, .ref h), (1, .ref b1), (2, .int y2_96), (3, .int y3_4)] → W p l e (rmO 4 103 0 0) s m ([.ref h, .ref b1] : List Value).toArray below meth c H locs 0 0 (MQ below (va_Qi Post (cB D A (fun (u : (Int32 × Int32 × Int32 × (Nat → Int32) × (Nat → Int32) × (Nat → Int32) × (Nat → Int32) × (Nat → Int32))) => [(h, oX6 (.ref q_load) (.ref q_sag) (.ref q_joy) (.ref q_bowl) (.ref q_grief) (.ref q_place) (.int x_arches) (.int x_cats) (.int x_store) (.int u.1) (.int u.2.1)), (q_load, aI cT 6 f_load), (q_place, aI cT 8 f_place), (b1, oX4 (.ref q_b1_steps) (.ref q_b1_stack) (.int x_b1_size) (.int u.2.2.1) (.int x_b1_open) (.int x_b1_compared) (.int x_b1_digits) (.int x_b1_wantsThing)), (q_b1_steps, aI cT 40 f_b1_steps), (q_b1_stack, aI cT 40 u.2.2.2.1), (q_sag, aI cT 6 u.2.2.2.2.1), (q_joy, aI cT 8 u.2.2.2.2.2.1), (q_grief, aI cT 8 u.2.2.2.2.2.2.1), (q_bowl, aI cT 8 u.2.2.2.2.2.2.2)])) A) ([.ref h, .ref b1] : List Value).toArray s 0 0 A) (F0 m 96 ls []) := by
        intro u_26 y3_4 y2_96 f_sag_96 H locs ls hg hP hD hS hl
        unfold p_X6_passHour_96 at hg
        refine lv_iinc (v := (y3_4 + (1 : Int32))) (lv' := [(3, .int (y3_4 + (1 : Int32))), (0, .ref h), (1, .ref b1), (2, .int y2_96)]) hx hb dX6_passHour_96 hl (k := 3) rfl rfl (by decide) rfl (fun ls hl => ?_)
        refine lv_goto (tgt := 4) hx hb dX6_passHour_99 (by decide) ?_
        exact ih4 (y3_4 + (1 : Int32)) y2_96 u_26.1 u_26.2 f_sag_96 _ _ _ hg hP hD hS (lv_sub hl [1, 2, 3, 0] rfl)
      have L54 : ∀ (r_26 : Int32) (u_26 : (Int32 × (Nat → Int32))) (y3_4 : Int32) (y2_4 : Int32) (f_sag_4 : Nat → Int32) (H : Heap) (locs : List Loc) (ls : Array Slot), p_X6_passHour_54 F f_load r_26 u_26 y3_4 y2_4 f_sag_4 (p_X6_passHour_4 F x_arches x_cats x_hour x_drops f_load f_place x_b1_size f_b1_steps f_joy f_grief f_bowl Post n4) Post → va_P D cls9 [(h, oX6 (.ref q_load) (.ref q_sag) (.ref q_joy) (.ref q_bowl) (.ref q_grief) (.ref q_place) (.int x_arches) (.int x_cats) (.int x_store) (.int x_hour) (.int x_drops)), (q_load, aI cT 6 f_load), (q_place, aI cT 8 f_place), (b1, oX4 (.ref q_b1_steps) (.ref q_b1_stack) (.int x_b1_size) (.int u_26.1) (.int x_b1_open) (.int x_b1_compared) (.int x_b1_digits) (.int x_b1_wantsThing)), (q_b1_steps, aI cT 40 f_b1_steps), (q_b1_stack, aI cT 40 u_26.2), (q_sag, aI cT 6 f_sag_4), (q_joy, aI cT 8 f_joy), (q_grief, aI cT 8 f_grief), (q_bowl, aI cT 8 f_bowl)] H → va_D A [(h, oX6 (.ref q_load) (.ref q_sag) (.ref q_joy) (.ref q_bowl) (.ref q_grief) (.ref q_place) (.int x_arches) (.int x_cats) (.int x_store) (.int x_hour) (.int x_drops)), (q_load, aI cT 6 f_load), (q_place, aI cT 8 f_place), (b1, oX4 (.ref q_b1_steps) (.ref q_b1_stack) (.int x_b1_size) (.int u_26.1) (.int x_b1_open) (.int x_b1_compared) (.int x_b1_digits) (.int x_b1_wantsThing)), (q_b1_steps, aI cT 40 f_b1_steps), (q_b1_stack, aI cT 40 u_26.2), (q_sag, aI cT 6 f_sag_4), (q_joy, aI cT 8 f_joy), (q_grief, aI cT 8 f_grief), (q_bowl, aI cT 8 f_bowl)] → va_S A s.heap H locs → lv_has ls 5 [(0, .ref h), (1, .ref b1), (2, .int y2_4), (3, .int y3_4), (4, .int ((f_load y3_4.toNatClampNeg) - r_26))] → W p l e (rmO 4 103 0 0) s m ([.ref h, .ref b1] : List Value).toArray below meth c H locs 0 0 (MQ below (va_Qi Post (cB D A (fun (u : (Int32 × Int32 × Int32 × (Nat → Int32) × (Nat → Int32) × (Nat → Int32) × (Nat → Int32) × (Nat → Int32))) => [(h, oX6 (.ref q_load) (.ref q_sag) (.ref q_joy) (.ref q_bowl) (.ref q_grief) (.ref q_place) (.int x_arches) (.int x_cats) (.int x_store) (.int u.1) (.int u.2.1)), (q_load, aI cT 6 f_load), (q_place, aI cT 8 f_place), (b1, oX4 (.ref q_b1_steps) (.ref q_b1_stack) (.int x_b1_size) (.int u.2.2.1) (.int x_b1_open) (.int x_b1_compared) (.int x_b1_digits) (.int x_b1_wantsThing)), (q_b1_steps, aI cT 40 f_b1_steps), (q_b1_stack, aI cT 40 u.2.2.2.1), (q_sag, aI cT 6 u.2.2.2.2.1), (q_joy, aI cT 8 u.2.2.2.2.2.1), (q_grief, aI cT 8 u.2.2.2.2.2.2.1), (q_bowl, aI cT 8 u.2.2.2.2.2.2.2)])) A) ([.ref h, .ref b1] : List Value).toArray s 0 0 A) (F0 m 54 ls []) := by
        intro r_26 u_26 y3_4 y2_4 f_sag_4 H locs ls hg hP hD hS hl
        unfold p_X6_passHour_54 at hg
        refine lv_iload hx hb dX6_passHour_54 (lv_at hl 4 rfl) ?_
        refine lv_if_le (tgt := 72) hx hb dX6_passHour_56 (by decide) (fun c_56 => ?_) (fun c_56 => ?_)
        · have hg := hg.1 c_56
          refine lv_iload hx hb dX6_passHour_72 (lv_at hl 4 rfl) ?_
          refine lv_if_ge (tgt := 96) hx hb dX6_passHour_74 (by decide) (fun c_74 => ?_) (fun c_74 => ?_)
          · have hg := hg.1 c_74
            exact L96 u_26 y3_4 y2_4 f_sag_4 _ _ _ hg hP hD hS (lv_sub hl [0, 1, 2, 3] rfl)
          have hg := hg.2 c_74
          refine lv_aload_n hx hb dX6_passHour_77 rfl (lv_at hl 0 rfl) ?_
          refine gf_X6_15 C0 hP 0 rfl rfl dX6_passHour_78 ?_
          refine lv_iload_n hx hb dX6_passHour_81 rfl (lv_at hl 3 rfl) ?_
          obtain ⟨g_82, hg⟩ := hg
          refine k_iald C0 hP 6 rfl g_82 dX6_passHour_82 ?_
          refine lv_if_le (tgt := 96) hx hb dX6_passHour_83 (by decide) (fun c_83 => ?_) (fun c_83 => ?_)
          · have hg := hg.1 c_83
            exact L96 u_26 y3_4 y2_4 f_sag_4 _ _ _ hg hP hD hS (lv_sub hl [0, 1, 2, 3] rfl)
          have hg := hg.2 c_83
          refine lv_aload_n hx hb dX6_passHour_86 rfl (lv_at hl 0 rfl) ?_
          refine gf_X6_15 C0 hP 0 rfl rfl dX6_passHour_87 ?_
          refine lv_iload_n hx hb dX6_passHour_90 rfl (lv_at hl 3 rfl) ?_
          refine lv_dup2_11 hx hb dX6_passHour_91 rfl rfl ?_
          obtain ⟨g_92, hg⟩ := hg
          refine k_iald C0 hP 6 rfl g_92 dX6_passHour_92 ?_
          refine lv_iconst (v := (1 : Int32)) hx hb dX6_passHour_93 (by decide) ?_
          refine lv_isub hx hb dX6_passHour_94 ?_
          obtain ⟨g_95, hg⟩ := hg
          refine k_iast C0 hP hD hS 6 rfl g_95 (ws' := [(h, oX6 (.ref q_load) (.ref q_sag) (.ref q_joy) (.ref q_bowl) (.ref q_grief) (.ref q_place) (.int x_arches) (.int x_cats) (.int x_store) (.int x_hour) (.int x_drops)), (q_load, aI cT 6 f_load), (q_place, aI cT 8 f_place), (b1, oX4 (.ref q_b1_steps) (.ref q_b1_stack) (.int x_b1_size) (.int u_26.1) (.int x_b1_open) (.int x_b1_compared) (.int x_b1_digits) (.int x_b1_wantsThing)), (q_b1_steps, aI cT 40 f_b1_steps), (q_b1_stack, aI cT 40 u_26.2), (q_sag, aI cT 6 (upd f_sag_4 y3_4.toNatClampNeg ((f_sag_4 y3_4.toNatClampNeg) - (1 : Int32)))), (q_joy, aI cT 8 f_joy), (q_grief, aI cT 8 f_grief), (q_bowl, aI cT 8 f_bowl)]) rfl dX6_passHour_95 (fun H locs hP hD hS => ?_)
          exact L96 u_26 y3_4 y2_4 (upd f_sag_4 y3_4.toNatClampNeg ((f_sag_4 y3_4.toNatClampNeg) - (1 : Int32))) _ _ _ hg hP hD hS (lv_sub hl [0, 1, 2, 3] rfl)
        have hg := hg.2 c_56
        refine lv_aload_n hx hb dX6_passHour_59 rfl (lv_at hl 0 rfl) ?_
        refine gf_X6_15 C0 hP 0 rfl rfl dX6_passHour_60 ?_
        refine lv_iload_n hx hb dX6_passHour_63 rfl (lv_at hl 3 rfl) ?_
        refine lv_dup2_11 hx hb dX6_passHour_64 rfl rfl ?_
        obtain ⟨g_65, hg⟩ := hg
        refine k_iald C0 hP 6 rfl g_65 dX6_passHour_65 ?_
        refine lv_iconst (v := (1 : Int32)) hx hb dX6_passHour_66 (by decide) ?_
        refine lv_iadd hx hb dX6_passHour_67 ?_
        obtain ⟨g_68, hg⟩ := hg
        refine k_iast C0 hP hD hS 6 rfl g_68 (ws' := [(h, oX6 (.ref q_load) (.ref q_sag) (.ref q_joy) (.ref q_bowl) (.ref q_grief) (.ref q_place) (.int x_arches) (.int x_cats) (.int x_store) (.int x_hour) (.int x_drops)), (q_load, aI cT 6 f_load), (q_place, aI cT 8 f_place), (b1, oX4 (.ref q_b1_steps) (.ref q_b1_stack) (.int x_b1_size) (.int u_26.1) (.int x_b1_open) (.int x_b1_compared) (.int x_b1_digits) (.int x_b1_wantsThing)), (q_b1_steps, aI cT 40 f_b1_steps), (q_b1_stack, aI cT 40 u_26.2), (q_sag, aI cT 6 (upd f_sag_4 y3_4.toNatClampNeg ((f_sag_4 y3_4.toNatClampNeg) + (1 : Int32)))), (q_joy, aI cT 8 f_joy), (q_grief, aI cT 8 f_grief), (q_bowl, aI cT 8 f_bowl)]) rfl dX6_passHour_68 (fun H locs hP hD hS => ?_)
        refine lv_goto (tgt := 96) hx hb dX6_passHour_69 (by decide) ?_
        exact L96 u_26 y3_4 y2_4 (upd f_sag_4 y3_4.toNatClampNeg ((f_sag_4 y3_4.toNatClampNeg) + (1 : Int32))) _ _ _ hg hP hD hS (lv_sub hl [0, 1, 2, 3] rfl)
      intro y3_4 y2_4 x_b1_top_4 f_b1_stack_4 f_sag_4 H locs ls hg hP hD hS hl
      rw [p_X6_passHour_4_s] at hg
      refine lv_iload_n hx hb dX6_passHour_4 rfl (lv_at hl 3 rfl) ?_
      refine lv_aload_n hx hb dX6_passHour_5 rfl (lv_at hl 0 rfl) ?_
      refine gf_X6_34 C0 hP 0 rfl rfl dX6_passHour_6 ?_
      refine lv_icmp_ge (tgt := 102) hx hb dX6_passHour_9 (by decide) (fun c_9 => ?_) (fun c_9 => ?_)
      · have hg := hg.1 c_9
        refine lv_iconst (v := (0 : Int32)) hx hb dX6_passHour_102 (by decide) ?_
        refine lv_istore_n (lv' := [(3, .int (0 : Int32)), (0, .ref h), (1, .ref b1), (2, .int y2_4)]) hx hb dX6_passHour_103 rfl hl (by decide) rfl (fun ls hl => ?_)
        exact L104 y2_4 x_b1_top_4 f_b1_stack_4 f_sag_4 F (0 : Int32) f_joy f_grief f_bowl _ _ _ hg hP hD hS (lv_sub hl [1, 3, 0] rfl)
      have hg := hg.2 c_9
      refine lv_aload_n hx hb dX6_passHour_12 rfl (lv_at hl 0 rfl) ?_
      refine gf_X6_9 C0 hP 0 rfl rfl dX6_passHour_13 ?_
      refine lv_iload_n hx hb dX6_passHour_16 rfl (lv_at hl 3 rfl) ?_
      obtain ⟨g_17, hg⟩ := hg
      refine k_iald C0 hP 1 rfl g_17 dX6_passHour_17 ?_
      refine lv_aload_n hx hb dX6_passHour_18 rfl (lv_at hl 0 rfl) ?_
      refine lv_aload_n hx hb dX6_passHour_19 rfl (lv_at hl 1 rfl) ?_
      refine lv_iload_n hx hb dX6_passHour_20 rfl (lv_at hl 3 rfl) ?_
      refine lv_aload_n hx hb dX6_passHour_21 rfl (lv_at hl 0 rfl) ?_
      refine lv_iload_n hx hb dX6_passHour_22 rfl (lv_at hl 3 rfl) ?_
      refine k_Vxi (rest := [.int y3_4, .ref b1, .ref h, .int (f_load y3_4.toNatClampNeg)]) C0 lk_X6_73 (c_X6_catsIn l D cT F h y3_4 (.ref q_load) (.ref q_sag) (.ref q_joy) (.ref q_bowl) (.ref q_grief) q_place x_arches x_cats x_store x_hour x_drops f_place _ hg) hP hD hS hA [0, 2] (by decide +kernel) rfl rfl rfl ⟨Nat.le_of_ble_eq_true rfl, Nat.le_of_ble_eq_true rfl⟩ rfl hl.1 rfl (Nat.le_of_ble_eq_true rfl) dX6_passHour_23 ⟨Nat.le_of_ble_eq_true rfl, Nat.le_of_ble_eq_true rfl⟩ (fun r_23 hg => ?_)
      refine k_Vi (rest := [.int (f_load y3_4.toNatClampNeg)]) (wr := [(q_place, aI cT 8 f_place)]) (w2 := fun u_26 => [(q_place, aI cT 8 f_place), (h, oX6 (.ref q_load) (.ref q_sag) (.ref q_joy) (.ref q_bowl) (.ref q_grief) (.ref q_place) (.int x_arches) (.int x_cats) (.int x_store) (.int x_hour) (.int x_drops)), (b1, oX4 (.ref q_b1_steps) (.ref q_b1_stack) (.int x_b1_size) (.int u_26.1) (.int x_b1_open) (.int x_b1_compared) (.int x_b1_digits) (.int x_b1_wantsThing)), (q_b1_steps, aI cT 40 f_b1_steps), (q_b1_stack, aI cT 40 u_26.2), (q_sag, aI cT 6 f_sag_4), (q_load, aI cT 6 f_load), (q_joy, aI cT 8 f_joy), (q_grief, aI cT 8 f_grief), (q_bowl, aI cT 8 f_bowl)]) C0 lk_X6_76 (c_X6_holdBy l D cT F h b1 y3_4 r_23 q_load q_sag q_joy q_bowl q_grief (.ref q_place) x_arches x_cats x_store x_hour x_drops q_b1_steps q_b1_stack x_b1_size x_b1_top_4 x_b1_open x_b1_compared x_b1_digits x_b1_wantsThing f_b1_steps f_b1_stack_4 f_sag_4 f_load f_joy f_grief f_bowl _ hg) hP hD hS hA [0, 3, 4, 5, 6, 1, 7, 8, 9] [2] (by decide +kernel) rfl rfl (fun _ => rfl) rfl rfl ⟨Nat.le_of_ble_eq_true rfl, Nat.le_of_ble_eq_true rfl⟩ rfl hl.1 rfl (Nat.le_of_ble_eq_true rfl) dX6_passHour_26 ⟨Nat.le_of_ble_eq_true rfl, Nat.le_of_ble_eq_true rfl⟩ ?_
      intro r_26 u_26 H locs hg hP hD hS
      refine lv_isub hx hb dX6_passHour_29 ?_
      refine lv_istore (lv' := [(4, .int ((f_load y3_4.toNatClampNeg) - r_26)), (0, .ref h), (1, .ref b1), (2, .int y2_4), (3, .int y3_4)]) hx hb dX6_passHour_30 hl (by decide) rfl (fun ls hl => ?_)
      refine lv_iload hx hb dX6_passHour_32 (lv_at hl 0 rfl) ?_
      refine lv_if_le (tgt := 54) hx hb dX6_passHour_34 (by decide) (fun c_34 => ?_) (fun c_34 => ?_)
      · have hg := hg.1 c_34
        exact L54 r_26 u_26 y3_4 y2_4 f_sag_4 _ _ _ hg (subP hP [1, 6, 0, 2, 3, 4, 5, 7, 8, 9] rfl) (hD.sub [1, 6, 0, 2, 3, 4, 5, 7, 8, 9] (nd2_ok _ (by decide +kernel)) rfl) hS (lv_sub hl [1, 2, 3, 4, 0] rfl)
      have hg := hg.2 c_34
      refine lv_aload_n hx hb dX6_passHour_37 rfl (lv_at hl 1 rfl) ?_
      refine gf_X6_15 C0 hP 1 rfl rfl dX6_passHour_38 ?_
      refine lv_iload_n hx hb dX6_passHour_41 rfl (lv_at hl 4 rfl) ?_
      obtain ⟨g_42, hg⟩ := hg
      refine k_iald C0 hP 5 rfl g_42 dX6_passHour_42 ?_
      refine lv_bipush (v := (9 : Int32)) hx hb dX6_passHour_43 (by decide) ?_
      refine lv_icmp_ne (tgt := 54) hx hb dX6_passHour_45 (by decide) (fun c_45 => ?_) (fun c_45 => ?_)
      · have hg := hg.1 c_45
        exact L54 r_26 u_26 y3_4 y2_4 f_sag_4 _ _ _ hg (subP hP [1, 6, 0, 2, 3, 4, 5, 7, 8, 9] rfl) (hD.sub [1, 6, 0, 2, 3, 4, 5, 7, 8, 9] (nd2_ok _ (by decide +kernel)) rfl) hS (lv_sub hl [1, 2, 3, 4, 0] rfl)
      have hg := hg.2 c_45
      refine lv_iinc (v := (y2_4 + (1 : Int32))) (lv' := [(2, .int (y2_4 + (1 : Int32))), (4, .int ((f_load y3_4.toNatClampNeg) - r_26)), (0, .ref h), (1, .ref b1), (3, .int y3_4)]) hx hb dX6_passHour_48 hl (k := 3) rfl rfl (by decide) rfl (fun ls hl => ?_)
      refine lv_goto (tgt := 96) hx hb dX6_passHour_51 (by decide) ?_
      exact L96 u_26 y3_4 (y2_4 + (1 : Int32)) f_sag_4 _ _ _ hg (subP hP [1, 6, 0, 2, 3, 4, 5, 7, 8, 9] rfl) (hD.sub [1, 6, 0, 2, 3, 4, 5, 7, 8, 9] (nd2_ok _ (by decide +kernel)) rfl) hS (lv_sub hl [2, 3, 0, 4] rfl)
  unfold p_X6_passHour at hg
  refine lv_iconst (v := (0 : Int32)) hx hb dX6_passHour_0 (by decide) ?_
  refine lv_istore_n (lv' := [(2, .int (0 : Int32)), (0, .ref h), (1, .ref b1)]) hx hb dX6_passHour_1 rfl hl (by decide) rfl (fun ls hl => ?_)
  refine lv_iconst (v := (0 : Int32)) hx hb dX6_passHour_2 (by decide) ?_
  refine lv_istore_n (lv' := [(3, .int (0 : Int32)), (2, .int (0 : Int32)), (0, .ref h), (1, .ref b1)]) hx hb dX6_passHour_3 rfl hl (by decide) rfl (fun ls hl => ?_)
  exact L4 F (0 : Int32) (0 : Int32) x_b1_top f_b1_stack f_sag _ _ _ hg hP hD hS (lv_sub hl [2, 3, 1, 0] rfl)
theorem dX6_passHours_0 : decode cX6_passHours 0 = .ok (.iconst 0, 1) := by decide +kernel
theorem dX6_passHours_1 : decode cX6_passHours 1 = .ok (.istore_n 3, 1) := by decide +kernel
theorem dX6_passHours_2 : decode cX6_passHours 2 = .ok (.iconst 0, 1) := by decide +kernel
theorem dX6_passHours_3 : decode cX6_passHours 3 = .ok (.istore 4, 2) := by decide +kernel
theorem dX6_passHours_5 : decode cX6_passHours 5 = .ok (.iload 4, 2) := by decide +kernel
theorem dX6_passHours_7 : decode cX6_passHours 7 = .ok (.iload_n 2, 1) := by decide +kernel
theorem dX6_passHours_8 : decode cX6_passHours 8 = .ok (.if_icmp .ge 17, 3) := by decide +kernel
theorem dX6_passHours_11 : decode cX6_passHours 11 = .ok (.iload_n 3, 1) := by decide +kernel
theorem dX6_passHours_12 : decode cX6_passHours 12 = .ok (.aload_n 0, 1) := by decide +kernel
theorem dX6_passHours_13 : decode cX6_passHours 13 = .ok (.aload_n 1, 1) := by decide +kernel
theorem dX6_passHours_14 : decode cX6_passHours 14 = .ok (.invokevirtual 69, 3) := by decide +kernel
theorem dX6_passHours_17 : decode cX6_passHours 17 = .ok (.iadd, 1) := by decide +kernel
theorem dX6_passHours_18 : decode cX6_passHours 18 = .ok (.istore_n 3, 1) := by decide +kernel
theorem dX6_passHours_19 : decode cX6_passHours 19 = .ok (.iinc 4 1, 3) := by decide +kernel
theorem dX6_passHours_22 : decode cX6_passHours 22 = .ok (.goto (-17), 3) := by decide +kernel
theorem dX6_passHours_25 : decode cX6_passHours 25 = .ok (.iload_n 3, 1) := by decide +kernel
theorem dX6_passHours_26 : decode cX6_passHours 26 = .ok (.ireturn, 1) := by decide +kernel
noncomputable def p_X6_passHours_5 (F : Nat) (p2 : Int32) (x_arches : Int32) (x_cats : Int32) (x_b1_size : Int32) (f_load : Nat → Int32) (f_place : Nat → Int32) (f_b1_steps : Nat → Int32) (Post : Int32 → (Int32 × Int32 × Int32 × (Nat → Int32) × (Nat → Int32) × (Nat → Int32) × (Nat → Int32) × (Nat → Int32)) → Prop) (n : Nat) : Int32 → Int32 → Int32 → Int32 → Int32 → (Nat → Int32) → (Nat → Int32) → (Nat → Int32) → (Nat → Int32) → (Nat → Int32) → Prop := Nat.rec (motive := fun _ => Int32 → Int32 → Int32 → Int32 → Int32 → (Nat → Int32) → (Nat → Int32) → (Nat → Int32) → (Nat → Int32) → (Nat → Int32) → Prop) (fun _ _ _ _ _ _ _ _ _ _ => False) (fun _ k5 => fun (y4_5 : Int32) (y3_5 : Int32) (x_hour_5 : Int32) (x_drops_5 : Int32) (x_b1_top_5 : Int32) (f_b1_stack_5 : Nat → Int32) (f_sag_5 : Nat → Int32) (f_joy_5 : Nat → Int32) (f_grief_5 : Nat → Int32) (f_bowl_5 : Nat → Int32) => ((p2 ≤ y4_5 → (Post y3_5 (x_hour_5, x_drops_5, x_b1_top_5, f_b1_stack_5, f_sag_5, f_joy_5, f_grief_5, f_bowl_5))) ∧ (¬ p2 ≤ y4_5 → (p_X6_passHour F x_arches x_cats x_hour_5 x_drops_5 f_load f_place x_b1_size x_b1_top_5 f_b1_steps f_b1_stack_5 f_sag_5 f_joy_5 f_grief_5 f_bowl_5 (fun (r_14 : Int32) (u_14 : (Int32 × Int32 × Int32 × (Nat → Int32) × (Nat → Int32) × (Nat → Int32) × (Nat → Int32) × (Nat → Int32))) => (k5 (y4_5 + (1 : Int32)) (y3_5 + r_14) u_14.1 u_14.2.1 u_14.2.2.1 u_14.2.2.2.1 u_14.2.2.2.2.1 u_14.2.2.2.2.2.1 u_14.2.2.2.2.2.2.1 u_14.2.2.2.2.2.2.2)))))) n
theorem p_X6_passHours_5_s (F : Nat) (p2 : Int32) (x_arches : Int32) (x_cats : Int32) (x_b1_size : Int32) (f_load : Nat → Int32) (f_place : Nat → Int32) (f_b1_steps : Nat → Int32) (Post : Int32 → (Int32 × Int32 × Int32 × (Nat → Int32) × (Nat → Int32) × (Nat → Int32) × (Nat → Int32) × (Nat → Int32)) → Prop) (n : Nat) (y4_5 : Int32) (y3_5 : Int32) (x_hour_5 : Int32) (x_drops_5 : Int32) (x_b1_top_5 : Int32) (f_b1_stack_5 : Nat → Int32) (f_sag_5 : Nat → Int32) (f_joy_5 : Nat → Int32) (f_grief_5 : Nat → Int32) (f_bowl_5 : Nat → Int32) : p_X6_passHours_5 F p2 x_arches x_cats x_b1_size f_load f_place f_b1_steps Post (n + 1) y4_5 y3_5 x_hour_5 x_drops_5 x_b1_top_5 f_b1_stack_5 f_sag_5 f_joy_5 f_grief_5 f_bowl_5 = ((p2 ≤ y4_5 → (Post y3_5 (x_hour_5, x_drops_5, x_b1_top_5, f_b1_stack_5, f_sag_5, f_joy_5, f_grief_5, f_bowl_5))) ∧ (¬ p2 ≤ y4_5 → (p_X6_passHour F x_arches x_cats x_hour_5 x_drops_5 f_load f_place x_b1_size x_b1_top_5 f_b1_steps f_b1_stack_5 f_sag_5 f_joy_5 f_grief_5 f_bowl_5 (fun (r_14 : Int32) (u_14 : (Int32 × Int32 × Int32 × (Nat → Int32) × (Nat → Int32) × (Nat → Int32) × (Nat → Int32) × (Nat → Int32))) => ((p_X6_passHours_5 F p2 x_arches x_cats x_b1_size f_load f_place f_b1_steps Post n) (y4_5 + (1 : Int32)) (y3_5 + r_14) u_14.1 u_14.2.1 u_14.2.2.1 u_14.2.2.2.1 u_14.2.2.2.2.1 u_14.2.2.2.2.2.1 u_14.2.2.2.2.2.2.1 u_14.2.2.2.2.2.2.2))))) := rfl
def p_X6_passHours (F : Nat) (p2 : Int32) (x_arches : Int32) (x_cats : Int32) (x_hour : Int32) (x_drops : Int32) (x_b1_size : Int32) (x_b1_top : Int32) (f_load : Nat → Int32) (f_place : Nat → Int32) (f_b1_steps : Nat → Int32) (f_b1_stack : Nat → Int32) (f_sag : Nat → Int32) (f_joy : Nat → Int32) (f_grief : Nat → Int32) (f_bowl : Nat → Int32) (Post : Int32 → (Int32 × Int32 × Int32 × (Nat → Int32) × (Nat → Int32) × (Nat → Int32) × (Nat → Int32) × (Nat → Int32)) → Prop) : Prop := (p_X6_passHours_5 F p2 x_arches x_cats x_b1_size f_load f_place f_b1_steps Post F (0 : Int32) (0 : Int32) x_hour x_drops x_b1_top f_b1_stack f_sag f_joy f_grief f_bowl)
set_option maxHeartbeats 4000000 in
set_option maxRecDepth 100000 in
theorem c_X6_passHours (l : Launch) (D : va_G) (cT : Nat → ClassId) (F : Nat) (h : Nat) (b1 : Nat) (p2 : Int32) (q_load : Nat) (q_sag : Nat) (q_joy : Nat) (q_bowl : Nat) (q_grief : Nat) (q_place : Nat) (x_arches : Int32) (x_cats : Int32) (x_store : Int32) (x_hour : Int32) (x_drops : Int32) (q_b1_steps : Nat) (q_b1_stack : Nat) (x_b1_size : Int32) (x_b1_top : Int32) (x_b1_open : Int32) (x_b1_compared : Int32) (x_b1_digits : Int32) (x_b1_wantsThing : Int32) (f_load : Nat → Int32) (f_place : Nat → Int32) (f_b1_steps : Nat → Int32) (f_b1_stack : Nat → Int32) (f_sag : Nat → Int32) (f_joy : Nat → Int32) (f_grief : Nat → Int32) (f_bowl : Nat → Int32) (Post : Int32 → (Int32 × Int32 × Int32 × (Nat → Int32) × (Nat → Int32) × (Nat → Int32) × (Nat → Int32) × (Nat → Int32)) → Prop) (hg : p_X6_passHours F p2 x_arches x_cats x_hour x_drops x_b1_size x_b1_top f_load f_place f_b1_steps f_b1_stack f_sag f_joy f_grief f_bowl Post) : MWi l D cT yX6_passHours cX6_passHours 5 (some .int) 5 127 0 0 [.ref h, .ref b1, .int p2] [(h, oX6 (.ref q_load) (.ref q_sag) (.ref q_joy) (.ref q_bowl) (.ref q_grief) (.ref q_place) (.int x_arches) (.int x_cats) (.int x_store) (.int x_hour) (.int x_drops)), (b1, oX4 (.ref q_b1_steps) (.ref q_b1_stack) (.int x_b1_size) (.int x_b1_top) (.int x_b1_open) (.int x_b1_compared) (.int x_b1_digits) (.int x_b1_wantsThing)), (q_load, aI cT 6 f_load), (q_place, aI cT 8 f_place), (q_b1_steps, aI cT 40 f_b1_steps), (q_b1_stack, aI cT 40 f_b1_stack), (q_sag, aI cT 6 f_sag), (q_joy, aI cT 8 f_joy), (q_grief, aI cT 8 f_grief), (q_bowl, aI cT 8 f_bowl)] Post (fun (u : (Int32 × Int32 × Int32 × (Nat → Int32) × (Nat → Int32) × (Nat → Int32) × (Nat → Int32) × (Nat → Int32))) => [(h, oX6 (.ref q_load) (.ref q_sag) (.ref q_joy) (.ref q_bowl) (.ref q_grief) (.ref q_place) (.int x_arches) (.int x_cats) (.int x_store) (.int u.1) (.int u.2.1)), (b1, oX4 (.ref q_b1_steps) (.ref q_b1_stack) (.int x_b1_size) (.int u.2.2.1) (.int x_b1_open) (.int x_b1_compared) (.int x_b1_digits) (.int x_b1_wantsThing)), (q_load, aI cT 6 f_load), (q_place, aI cT 8 f_place), (q_b1_steps, aI cT 40 f_b1_steps), (q_b1_stack, aI cT 40 u.2.2.2.1), (q_sag, aI cT 6 u.2.2.2.2.1), (q_joy, aI cT 8 u.2.2.2.2.2.1), (q_grief, aI cT 8 u.2.2.2.2.2.2.1), (q_bowl, aI cT 8 u.2.2.2.2.2.2.2)]) := by
  refine MWi.of (by decide) (Nat.le_of_ble_eq_true rfl) ?_
  intro p e s m below meth c A hA C0 hnm hr hP hD ls hl
  have hl : lv_has ls 5 [(0, .ref h), (1, .ref b1), (2, .int p2)] := hl
  have hx := C0.x
  have hb := C0.b
  have hS : va_S A s.heap s.heap [] := va_S.rf
  have hP : va_P D cls9 [(h, oX6 (.ref q_load) (.ref q_sag) (.ref q_joy) (.ref q_bowl) (.ref q_grief) (.ref q_place) (.int x_arches) (.int x_cats) (.int x_store) (.int x_hour) (.int x_drops)), (b1, oX4 (.ref q_b1_steps) (.ref q_b1_stack) (.int x_b1_size) (.int x_b1_top) (.int x_b1_open) (.int x_b1_compared) (.int x_b1_digits) (.int x_b1_wantsThing)), (q_load, aI cT 6 f_load), (q_place, aI cT 8 f_place), (q_b1_steps, aI cT 40 f_b1_steps), (q_b1_stack, aI cT 40 f_b1_stack), (q_sag, aI cT 6 f_sag), (q_joy, aI cT 8 f_joy), (q_grief, aI cT 8 f_grief), (q_bowl, aI cT 8 f_bowl)] s.heap := hP
  have hD : va_D A [(h, oX6 (.ref q_load) (.ref q_sag) (.ref q_joy) (.ref q_bowl) (.ref q_grief) (.ref q_place) (.int x_arches) (.int x_cats) (.int x_store) (.int x_hour) (.int x_drops)), (b1, oX4 (.ref q_b1_steps) (.ref q_b1_stack) (.int x_b1_size) (.int x_b1_top) (.int x_b1_open) (.int x_b1_compared) (.int x_b1_digits) (.int x_b1_wantsThing)), (q_load, aI cT 6 f_load), (q_place, aI cT 8 f_place), (q_b1_steps, aI cT 40 f_b1_steps), (q_b1_stack, aI cT 40 f_b1_stack), (q_sag, aI cT 6 f_sag), (q_joy, aI cT 8 f_joy), (q_grief, aI cT 8 f_grief), (q_bowl, aI cT 8 f_bowl)] := hD
  have L5 : ∀ (n5 : Nat) (y4_5 : Int32) (y3_5 : Int32) (x_hour_5 : Int32) (x_drops_5 : Int32) (x_b1_top_5 : Int32) (f_b1_stack_5 : Nat → Int32) (f_sag_5 : Nat → Int32) (f_joy_5 : Nat → Int32) (f_grief_5 : Nat → Int32) (f_bowl_5 : Nat → Int32) (H : Heap) (locs : List Loc) (ls : Array Slot), p_X6_passHours_5 F p2 x_arches x_cats x_b1_size f_load f_place f_b1_steps Post n5 y4_5 y3_5 x_hour_5 x_drops_5 x_b1_top_5 f_b1_stack_5 f_sag_5 f_joy_5 f_grief_5 f_bowl_5 → va_P D cls9 [(h, oX6 (.ref q_load) (.ref q_sag) (.ref q_joy) (.ref q_bowl) (.ref q_grief) (.ref q_place) (.int x_arches) (.int x_cats) (.int x_store) (.int x_hour_5) (.int x_drops_5)), (b1, oX4 (.ref q_b1_steps) (.ref q_b1_stack) (.int x_b1_size) (.int x_b1_top_5) (.int x_b1_open) (.int x_b1_compared) (.int x_b1_digits) (.int x_b1_wantsThing)), (q_load, aI cT 6 f_load), (q_place, aI cT 8 f_place), (q_b1_steps, aI cT 40 f_b1_steps), (q_b1_stack, aI cT 40 f_b1_stack_5), (q_sag, aI cT 6 f_sag_5), (q_joy, aI cT 8 f_joy_5), (q_grief, aI cT 8 f_grief_5), (q_bowl, aI cT 8 f_bowl_5)] H → va_D A [(h, oX6 (.ref q_load) (.ref q_sag) (.ref q_joy) (.ref q_bowl) (.ref q_grief) (.ref q_place) (.int x_arches) (.int x_cats) (.int x_store) (.int x_hour_5) (.int x_drops_5)), (b1, oX4 (.ref q_b1_steps) (.ref q_b1_stack) (.int x_b1_size) (.int x_b1_top_5) (.int x_b1_open) (.int x_b1_compared) (.int x_b1_digits) (.int x_b1_wantsThing)), (q_load, aI cT 6 f_load), (q_place, aI cT 8 f_place), (q_b1_steps, aI cT 40 f_b1_steps), (q_b1_stack, aI cT 40 f_b1_stack_5), (q_sag, aI cT 6 f_sag_5), (q_joy, aI cT 8 f_joy_5), (q_grief, aI cT 8 f_grief_5), (q_bowl, aI cT 8 f_bowl_5)] → va_S A s.heap H locs → lv_has ls 5 [(0, .ref h), (1, .ref b1), (2, .int p2), (3, .int y3_5), (4, .int y4_5)] → W p l e (rmO 5 127 0 0) s m ([.ref h, .ref b1, .int p2] : List Value).toArray below meth c H locs 0 0 (MQ below (va_Qi Post (cB D A (fun (u : (Int32 × Int32 × Int32 × (Nat → Int32) × (Nat → Int32) × (Nat → Int32) × (Nat → Int32) × (Nat → Int32))) => [(h, oX6 (.ref q_load) (.ref q_sag) (.ref q_joy) (.ref q_bowl) (.ref q_grief) (.ref q_place) (.int x_arches) (.int x_cats) (.int x_store) (.int u.1) (.int u.2.1)), (b1, oX4 (.ref q_b1_steps) (.ref q_b1_stack) (.int x_b1_size) (.int u.2.2.1) (.int x_b1_open) (.int x_b1_compared) (.int x_b1_digits) (.int x_b1_wantsThing)), (q_load, aI cT 6 f_load), (q_place, aI cT 8 f_place), (q_b1_steps, aI cT 40 f_b1_steps), (q_b1_stack, aI cT 40 u.2.2.2.1), (q_sag, aI cT 6 u.2.2.2.2.1), (q_joy, aI cT 8 u.2.2.2.2.2.1), (q_grief, aI cT 8 u.2.2.2.2.2.2.1), (q_bowl, aI cT 8 u.2.2.2.2.2.2.2)])) A) ([.ref h, .ref b1, .int p2] : List Value).toArray s 0 0 A) (F0 m 5 ls []) := by
    intro n5
    induction n5 with
    | zero =>
      intro y4_5 y3_5 x_hour_5 x_drops_5 x_b1_top_5 f_b1_stack_5 f_sag_5 f_joy_5 f_grief_5 f_bowl_5 H locs ls hg hP hD hS hl
      exact False.elim hg
    | succ n5 ih5 =>
      intro y4_5 y3_5 x_hour_5 x_drops_5 x_b1_top_5 f_b1_stack_5 f_sag_5 f_joy_5 f_grief_5 f_bowl_5 H locs ls hg hP hD hS hl
      rw [p_X6_passHours_5_s] at hg
      refine lv_iload hx hb dX6_passHours_5 (lv_at hl 4 rfl) ?_
      refine lv_iload_n hx hb dX6_passHours_7 rfl (lv_at hl 2 rfl) ?_
      refine lv_icmp_ge (tgt := 25) hx hb dX6_passHours_8 (by decide) (fun c_8 => ?_) (fun c_8 => ?_)
      · have hg := hg.1 c_8
        refine lv_iload_n hx hb dX6_passHours_25 rfl (lv_at hl 3 rfl) ?_
        exact k_iret C0 hr (x_hour_5, x_drops_5, x_b1_top_5, f_b1_stack_5, f_sag_5, f_joy_5, f_grief_5, f_bowl_5) hg hP hD hS dX6_passHours_26
      have hg := hg.2 c_8
      refine lv_iload_n hx hb dX6_passHours_11 rfl (lv_at hl 3 rfl) ?_
      refine lv_aload_n hx hb dX6_passHours_12 rfl (lv_at hl 0 rfl) ?_
      refine lv_aload_n hx hb dX6_passHours_13 rfl (lv_at hl 1 rfl) ?_
      refine k_Vi (rest := [.int y3_5]) (wr := []) (w2 := fun u_14 => [(h, oX6 (.ref q_load) (.ref q_sag) (.ref q_joy) (.ref q_bowl) (.ref q_grief) (.ref q_place) (.int x_arches) (.int x_cats) (.int x_store) (.int u_14.1) (.int u_14.2.1)), (q_load, aI cT 6 f_load), (q_place, aI cT 8 f_place), (b1, oX4 (.ref q_b1_steps) (.ref q_b1_stack) (.int x_b1_size) (.int u_14.2.2.1) (.int x_b1_open) (.int x_b1_compared) (.int x_b1_digits) (.int x_b1_wantsThing)), (q_b1_steps, aI cT 40 f_b1_steps), (q_b1_stack, aI cT 40 u_14.2.2.2.1), (q_sag, aI cT 6 u_14.2.2.2.2.1), (q_joy, aI cT 8 u_14.2.2.2.2.2.1), (q_grief, aI cT 8 u_14.2.2.2.2.2.2.1), (q_bowl, aI cT 8 u_14.2.2.2.2.2.2.2)]) C0 lk_X6_69 (c_X6_passHour l D cT F h b1 q_load q_sag q_joy q_bowl q_grief q_place x_arches x_cats x_store x_hour_5 x_drops_5 f_load f_place q_b1_steps q_b1_stack x_b1_size x_b1_top_5 x_b1_open x_b1_compared x_b1_digits x_b1_wantsThing f_b1_steps f_b1_stack_5 f_sag_5 f_joy_5 f_grief_5 f_bowl_5 _ hg) hP hD hS hA [0, 2, 3, 1, 4, 5, 6, 7, 8, 9] [] (by decide +kernel) rfl rfl (fun _ => rfl) rfl rfl ⟨Nat.le_of_ble_eq_true rfl, Nat.le_of_ble_eq_true rfl⟩ rfl hl.1 rfl (Nat.le_of_ble_eq_true rfl) dX6_passHours_14 ⟨Nat.le_of_ble_eq_true rfl, Nat.le_of_ble_eq_true rfl⟩ ?_
      intro r_14 u_14 H locs hg hP hD hS
      refine lv_iadd hx hb dX6_passHours_17 ?_
      refine lv_istore_n (lv' := [(3, .int (y3_5 + r_14)), (0, .ref h), (1, .ref b1), (2, .int p2), (4, .int y4_5)]) hx hb dX6_passHours_18 rfl hl (by decide) rfl (fun ls hl => ?_)
      refine lv_iinc (v := (y4_5 + (1 : Int32))) (lv' := [(4, .int (y4_5 + (1 : Int32))), (3, .int (y3_5 + r_14)), (0, .ref h), (1, .ref b1), (2, .int p2)]) hx hb dX6_passHours_19 hl (k := 4) rfl rfl (by decide) rfl (fun ls hl => ?_)
      refine lv_goto (tgt := 5) hx hb dX6_passHours_22 (by decide) ?_
      exact ih5 (y4_5 + (1 : Int32)) (y3_5 + r_14) u_14.1 u_14.2.1 u_14.2.2.1 u_14.2.2.2.1 u_14.2.2.2.2.1 u_14.2.2.2.2.2.1 u_14.2.2.2.2.2.2.1 u_14.2.2.2.2.2.2.2 _ _ _ hg (subP hP [0, 3, 1, 2, 4, 5, 6, 7, 8, 9] rfl) (hD.sub [0, 3, 1, 2, 4, 5, 6, 7, 8, 9] (nd2_ok _ (by decide +kernel)) rfl) hS (lv_sub hl [2, 3, 4, 1, 0] rfl)
  unfold p_X6_passHours at hg
  refine lv_iconst (v := (0 : Int32)) hx hb dX6_passHours_0 (by decide) ?_
  refine lv_istore_n (lv' := [(3, .int (0 : Int32)), (0, .ref h), (1, .ref b1), (2, .int p2)]) hx hb dX6_passHours_1 rfl hl (by decide) rfl (fun ls hl => ?_)
  refine lv_iconst (v := (0 : Int32)) hx hb dX6_passHours_2 (by decide) ?_
  refine lv_istore (lv' := [(4, .int (0 : Int32)), (3, .int (0 : Int32)), (0, .ref h), (1, .ref b1), (2, .int p2)]) hx hb dX6_passHours_3 hl (by decide) rfl (fun ls hl => ?_)
  exact L5 F (0 : Int32) (0 : Int32) x_hour x_drops x_b1_top f_b1_stack f_sag f_joy f_grief f_bowl _ _ _ hg hP hD hS (lv_sub hl [2, 3, 4, 1, 0] rfl)
theorem dX6_purrOf_0 : decode cX6_purrOf 0 = .ok (.aload_n 1, 1) := by decide +kernel
theorem dX6_purrOf_1 : decode cX6_purrOf 1 = .ok (.aload_n 0, 1) := by decide +kernel
theorem dX6_purrOf_2 : decode cX6_purrOf 2 = .ok (.iload_n 2, 1) := by decide +kernel
theorem dX6_purrOf_3 : decode cX6_purrOf 3 = .ok (.aload_n 0, 1) := by decide +kernel
theorem dX6_purrOf_4 : decode cX6_purrOf 4 = .ok (.getfield 27, 3) := by decide +kernel
theorem dX6_purrOf_7 : decode cX6_purrOf 7 = .ok (.iload_n 2, 1) := by decide +kernel
theorem dX6_purrOf_8 : decode cX6_purrOf 8 = .ok (.iaload, 1) := by decide +kernel
theorem dX6_purrOf_9 : decode cX6_purrOf 9 = .ok (.aload_n 0, 1) := by decide +kernel
theorem dX6_purrOf_10 : decode cX6_purrOf 10 = .ok (.aload_n 0, 1) := by decide +kernel
theorem dX6_purrOf_11 : decode cX6_purrOf 11 = .ok (.getfield 27, 3) := by decide +kernel
theorem dX6_purrOf_14 : decode cX6_purrOf 14 = .ok (.iload_n 2, 1) := by decide +kernel
theorem dX6_purrOf_15 : decode cX6_purrOf 15 = .ok (.iaload, 1) := by decide +kernel
theorem dX6_purrOf_16 : decode cX6_purrOf 16 = .ok (.invokevirtual 73, 3) := by decide +kernel
theorem dX6_purrOf_19 : decode cX6_purrOf 19 = .ok (.invokestatic 80, 3) := by decide +kernel
theorem dX6_purrOf_22 : decode cX6_purrOf 22 = .ok (.iconst 1, 1) := by decide +kernel
theorem dX6_purrOf_23 : decode cX6_purrOf 23 = .ok (.isub, 1) := by decide +kernel
theorem dX6_purrOf_24 : decode cX6_purrOf 24 = .ok (.invokevirtual 85, 3) := by decide +kernel
theorem dX6_purrOf_27 : decode cX6_purrOf 27 = .ok (.ireturn, 1) := by decide +kernel
def p_X6_purrOf (F : Nat) (p2 : Int32) (x_arches : Int32) (x_cats : Int32) (x_hour : Int32) (f_place : Nat → Int32) (x_b1_size : Int32) (f_b1_steps : Nat → Int32) (f_b1_stack : Nat → Int32) (f_sag : Nat → Int32) (f_load : Nat → Int32) (f_joy : Nat → Int32) (f_grief : Nat → Int32) (f_bowl : Nat → Int32) (Post : Int32 → (Int32 × (Nat → Int32)) → Prop) : Prop := (vp_in p2 8 ∧ (vp_in p2 8 ∧ (p_X6_catsIn F (f_place p2.toNatClampNeg) x_cats f_place (fun (r_16 : Int32) => (p_J6_bitCount_0f7a4 F r_16 (fun (r_19 : Int32) => (p_X4_purr F p2 (f_place p2.toNatClampNeg) (r_19 - (1 : Int32)) x_b1_size f_b1_steps f_b1_stack x_arches x_cats x_hour f_sag f_load f_joy f_grief f_bowl (fun (r_24 : Int32) (u_24 : (Int32 × (Nat → Int32))) => (Post r_24 (u_24.1, u_24.2))))))))))
set_option maxHeartbeats 4000000 in
set_option maxRecDepth 100000 in
theorem c_X6_purrOf (l : Launch) (D : va_G) (cT : Nat → ClassId) (F : Nat) (h : Nat) (b1 : Nat) (p2 : Int32) (q_load : Nat) (q_sag : Nat) (q_joy : Nat) (q_bowl : Nat) (q_grief : Nat) (q_place : Nat) (x_arches : Int32) (x_cats : Int32) (x_store : Int32) (x_hour : Int32) (x_drops : Int32) (f_place : Nat → Int32) (q_b1_steps : Nat) (q_b1_stack : Nat) (x_b1_size : Int32) (x_b1_top : Int32) (x_b1_open : Int32) (x_b1_compared : Int32) (x_b1_digits : Int32) (x_b1_wantsThing : Int32) (f_b1_steps : Nat → Int32) (f_b1_stack : Nat → Int32) (f_sag : Nat → Int32) (f_load : Nat → Int32) (f_joy : Nat → Int32) (f_grief : Nat → Int32) (f_bowl : Nat → Int32) (Post : Int32 → (Int32 × (Nat → Int32)) → Prop) (hg : p_X6_purrOf F p2 x_arches x_cats x_hour f_place x_b1_size f_b1_steps f_b1_stack f_sag f_load f_joy f_grief f_bowl Post) : MWi l D cT yX6_purrOf cX6_purrOf 3 (some .int) 3 77 0 0 [.ref h, .ref b1, .int p2] [(h, oX6 (.ref q_load) (.ref q_sag) (.ref q_joy) (.ref q_bowl) (.ref q_grief) (.ref q_place) (.int x_arches) (.int x_cats) (.int x_store) (.int x_hour) (.int x_drops)), (q_place, aI cT 8 f_place), (b1, oX4 (.ref q_b1_steps) (.ref q_b1_stack) (.int x_b1_size) (.int x_b1_top) (.int x_b1_open) (.int x_b1_compared) (.int x_b1_digits) (.int x_b1_wantsThing)), (q_b1_steps, aI cT 40 f_b1_steps), (q_b1_stack, aI cT 40 f_b1_stack), (q_sag, aI cT 6 f_sag), (q_load, aI cT 6 f_load), (q_joy, aI cT 8 f_joy), (q_grief, aI cT 8 f_grief), (q_bowl, aI cT 8 f_bowl)] Post (fun (u : (Int32 × (Nat → Int32))) => [(h, oX6 (.ref q_load) (.ref q_sag) (.ref q_joy) (.ref q_bowl) (.ref q_grief) (.ref q_place) (.int x_arches) (.int x_cats) (.int x_store) (.int x_hour) (.int x_drops)), (q_place, aI cT 8 f_place), (b1, oX4 (.ref q_b1_steps) (.ref q_b1_stack) (.int x_b1_size) (.int u.1) (.int x_b1_open) (.int x_b1_compared) (.int x_b1_digits) (.int x_b1_wantsThing)), (q_b1_steps, aI cT 40 f_b1_steps), (q_b1_stack, aI cT 40 u.2), (q_sag, aI cT 6 f_sag), (q_load, aI cT 6 f_load), (q_joy, aI cT 8 f_joy), (q_grief, aI cT 8 f_grief), (q_bowl, aI cT 8 f_bowl)]) := by
  refine MWi.of (by decide) (Nat.le_of_ble_eq_true rfl) ?_
  intro p e s m below meth c A hA C0 hnm hr hP hD ls hl
  have hl : lv_has ls 3 [(0, .ref h), (1, .ref b1), (2, .int p2)] := hl
  have hx := C0.x
  have hb := C0.b
  have hS : va_S A s.heap s.heap [] := va_S.rf
  have hP : va_P D cls9 [(h, oX6 (.ref q_load) (.ref q_sag) (.ref q_joy) (.ref q_bowl) (.ref q_grief) (.ref q_place) (.int x_arches) (.int x_cats) (.int x_store) (.int x_hour) (.int x_drops)), (q_place, aI cT 8 f_place), (b1, oX4 (.ref q_b1_steps) (.ref q_b1_stack) (.int x_b1_size) (.int x_b1_top) (.int x_b1_open) (.int x_b1_compared) (.int x_b1_digits) (.int x_b1_wantsThing)), (q_b1_steps, aI cT 40 f_b1_steps), (q_b1_stack, aI cT 40 f_b1_stack), (q_sag, aI cT 6 f_sag), (q_load, aI cT 6 f_load), (q_joy, aI cT 8 f_joy), (q_grief, aI cT 8 f_grief), (q_bowl, aI cT 8 f_bowl)] s.heap := hP
  have hD : va_D A [(h, oX6 (.ref q_load) (.ref q_sag) (.ref q_joy) (.ref q_bowl) (.ref q_grief) (.ref q_place) (.int x_arches) (.int x_cats) (.int x_store) (.int x_hour) (.int x_drops)), (q_place, aI cT 8 f_place), (b1, oX4 (.ref q_b1_steps) (.ref q_b1_stack) (.int x_b1_size) (.int x_b1_top) (.int x_b1_open) (.int x_b1_compared) (.int x_b1_digits) (.int x_b1_wantsThing)), (q_b1_steps, aI cT 40 f_b1_steps), (q_b1_stack, aI cT 40 f_b1_stack), (q_sag, aI cT 6 f_sag), (q_load, aI cT 6 f_load), (q_joy, aI cT 8 f_joy), (q_grief, aI cT 8 f_grief), (q_bowl, aI cT 8 f_bowl)] := hD
  unfold p_X6_purrOf at hg
  refine lv_aload_n hx hb dX6_purrOf_0 rfl (lv_at hl 1 rfl) ?_
  refine lv_aload_n hx hb dX6_purrOf_1 rfl (lv_at hl 0 rfl) ?_
  refine lv_iload_n hx hb dX6_purrOf_2 rfl (lv_at hl 2 rfl) ?_
  refine lv_aload_n hx hb dX6_purrOf_3 rfl (lv_at hl 0 rfl) ?_
  refine gf_X6_27 C0 hP 0 rfl rfl dX6_purrOf_4 ?_
  refine lv_iload_n hx hb dX6_purrOf_7 rfl (lv_at hl 2 rfl) ?_
  obtain ⟨g_8, hg⟩ := hg
  refine k_iald C0 hP 1 rfl g_8 dX6_purrOf_8 ?_
  refine lv_aload_n hx hb dX6_purrOf_9 rfl (lv_at hl 0 rfl) ?_
  refine lv_aload_n hx hb dX6_purrOf_10 rfl (lv_at hl 0 rfl) ?_
  refine gf_X6_27 C0 hP 0 rfl rfl dX6_purrOf_11 ?_
  refine lv_iload_n hx hb dX6_purrOf_14 rfl (lv_at hl 2 rfl) ?_
  obtain ⟨g_15, hg⟩ := hg
  refine k_iald C0 hP 1 rfl g_15 dX6_purrOf_15 ?_
  refine k_Vxi (rest := [.int (f_place p2.toNatClampNeg), .int p2, .ref h, .ref b1]) C0 lk_X6_73 (c_X6_catsIn l D cT F h (f_place p2.toNatClampNeg) (.ref q_load) (.ref q_sag) (.ref q_joy) (.ref q_bowl) (.ref q_grief) q_place x_arches x_cats x_store x_hour x_drops f_place _ hg) hP hD hS hA [0, 1] (by decide +kernel) rfl rfl rfl ⟨Nat.le_of_ble_eq_true rfl, Nat.le_of_ble_eq_true rfl⟩ rfl hl.1 rfl (Nat.le_of_ble_eq_true rfl) dX6_purrOf_16 ⟨Nat.le_of_ble_eq_true rfl, Nat.le_of_ble_eq_true rfl⟩ (fun r_16 hg => ?_)
  refine k_Sxi (rest := [.int (f_place p2.toNatClampNeg), .int p2, .ref h, .ref b1]) C0 lk_X6_80 (c_J6_bitCount_0f7a4 l D cT F r_16 _ hg) hP hD hS hA [] (by decide +kernel) rfl ⟨Nat.le_of_ble_eq_true rfl, Nat.le_of_ble_eq_true rfl⟩ rfl hl.1 rfl (Nat.le_of_ble_eq_true rfl) dX6_purrOf_19 ⟨Nat.le_of_ble_eq_true rfl, Nat.le_of_ble_eq_true rfl⟩ (fun r_19 hg => ?_)
  refine lv_iconst (v := (1 : Int32)) hx hb dX6_purrOf_22 (by decide) ?_
  refine lv_isub hx hb dX6_purrOf_23 ?_
  refine k_Vi (rest := []) (wr := [(q_place, aI cT 8 f_place)]) (w2 := fun u_24 => [(q_place, aI cT 8 f_place), (b1, oX4 (.ref q_b1_steps) (.ref q_b1_stack) (.int x_b1_size) (.int u_24.1) (.int x_b1_open) (.int x_b1_compared) (.int x_b1_digits) (.int x_b1_wantsThing)), (q_b1_steps, aI cT 40 f_b1_steps), (q_b1_stack, aI cT 40 u_24.2), (h, oX6 (.ref q_load) (.ref q_sag) (.ref q_joy) (.ref q_bowl) (.ref q_grief) (.ref q_place) (.int x_arches) (.int x_cats) (.int x_store) (.int x_hour) (.int x_drops)), (q_sag, aI cT 6 f_sag), (q_load, aI cT 6 f_load), (q_joy, aI cT 8 f_joy), (q_grief, aI cT 8 f_grief), (q_bowl, aI cT 8 f_bowl)]) C0 lk_X6_85 (c_X4_purr l D cT F b1 h p2 (f_place p2.toNatClampNeg) (r_19 - (1 : Int32)) q_b1_steps q_b1_stack x_b1_size x_b1_top x_b1_open x_b1_compared x_b1_digits x_b1_wantsThing f_b1_steps f_b1_stack q_load q_sag q_joy q_bowl q_grief (.ref q_place) x_arches x_cats x_store x_hour x_drops f_sag f_load f_joy f_grief f_bowl _ hg) hP hD hS hA [2, 3, 4, 0, 5, 6, 7, 8, 9] [1] (by decide +kernel) rfl rfl (fun _ => rfl) rfl rfl ⟨Nat.le_of_ble_eq_true rfl, Nat.le_of_ble_eq_true rfl⟩ rfl hl.1 rfl (Nat.le_of_ble_eq_true rfl) dX6_purrOf_24 ⟨Nat.le_of_ble_eq_true rfl, Nat.le_of_ble_eq_true rfl⟩ ?_
  intro r_24 u_24 H locs hg hP hD hS
  exact k_iret C0 hr (u_24.1, u_24.2) hg (subP hP [4, 0, 1, 2, 3, 5, 6, 7, 8, 9] rfl) (hD.sub [4, 0, 1, 2, 3, 5, 6, 7, 8, 9] (nd2_ok _ (by decide +kernel)) rfl) hS dX6_purrOf_27
theorem dX6_holdOf_0 : decode cX6_holdOf 0 = .ok (.aload_n 0, 1) := by decide +kernel
theorem dX6_holdOf_1 : decode cX6_holdOf 1 = .ok (.aload_n 1, 1) := by decide +kernel
theorem dX6_holdOf_2 : decode cX6_holdOf 2 = .ok (.iload_n 2, 1) := by decide +kernel
theorem dX6_holdOf_3 : decode cX6_holdOf 3 = .ok (.aload_n 0, 1) := by decide +kernel
theorem dX6_holdOf_4 : decode cX6_holdOf 4 = .ok (.iload_n 2, 1) := by decide +kernel
theorem dX6_holdOf_5 : decode cX6_holdOf 5 = .ok (.invokevirtual 73, 3) := by decide +kernel
theorem dX6_holdOf_8 : decode cX6_holdOf 8 = .ok (.invokevirtual 76, 3) := by decide +kernel
theorem dX6_holdOf_11 : decode cX6_holdOf 11 = .ok (.ireturn, 1) := by decide +kernel
def p_X6_holdOf (F : Nat) (p2 : Int32) (x_arches : Int32) (x_cats : Int32) (x_hour : Int32) (f_place : Nat → Int32) (x_b1_size : Int32) (x_b1_top : Int32) (f_b1_steps : Nat → Int32) (f_b1_stack : Nat → Int32) (f_sag : Nat → Int32) (f_load : Nat → Int32) (f_joy : Nat → Int32) (f_grief : Nat → Int32) (f_bowl : Nat → Int32) (Post : Int32 → (Int32 × (Nat → Int32)) → Prop) : Prop := (p_X6_catsIn F p2 x_cats f_place (fun (r_5 : Int32) => (p_X6_holdBy F p2 r_5 x_arches x_cats x_hour x_b1_size x_b1_top f_b1_steps f_b1_stack f_sag f_load f_joy f_grief f_bowl (fun (r_8 : Int32) (u_8 : (Int32 × (Nat → Int32))) => (Post r_8 (u_8.1, u_8.2))))))
set_option maxHeartbeats 4000000 in
set_option maxRecDepth 100000 in
theorem c_X6_holdOf (l : Launch) (D : va_G) (cT : Nat → ClassId) (F : Nat) (h : Nat) (b1 : Nat) (p2 : Int32) (q_load : Nat) (q_sag : Nat) (q_joy : Nat) (q_bowl : Nat) (q_grief : Nat) (q_place : Nat) (x_arches : Int32) (x_cats : Int32) (x_store : Int32) (x_hour : Int32) (x_drops : Int32) (f_place : Nat → Int32) (q_b1_steps : Nat) (q_b1_stack : Nat) (x_b1_size : Int32) (x_b1_top : Int32) (x_b1_open : Int32) (x_b1_compared : Int32) (x_b1_digits : Int32) (x_b1_wantsThing : Int32) (f_b1_steps : Nat → Int32) (f_b1_stack : Nat → Int32) (f_sag : Nat → Int32) (f_load : Nat → Int32) (f_joy : Nat → Int32) (f_grief : Nat → Int32) (f_bowl : Nat → Int32) (Post : Int32 → (Int32 × (Nat → Int32)) → Prop) (hg : p_X6_holdOf F p2 x_arches x_cats x_hour f_place x_b1_size x_b1_top f_b1_steps f_b1_stack f_sag f_load f_joy f_grief f_bowl Post) : MWi l D cT yX6_holdOf cX6_holdOf 3 (some .int) 4 103 0 0 [.ref h, .ref b1, .int p2] [(h, oX6 (.ref q_load) (.ref q_sag) (.ref q_joy) (.ref q_bowl) (.ref q_grief) (.ref q_place) (.int x_arches) (.int x_cats) (.int x_store) (.int x_hour) (.int x_drops)), (q_place, aI cT 8 f_place), (b1, oX4 (.ref q_b1_steps) (.ref q_b1_stack) (.int x_b1_size) (.int x_b1_top) (.int x_b1_open) (.int x_b1_compared) (.int x_b1_digits) (.int x_b1_wantsThing)), (q_b1_steps, aI cT 40 f_b1_steps), (q_b1_stack, aI cT 40 f_b1_stack), (q_sag, aI cT 6 f_sag), (q_load, aI cT 6 f_load), (q_joy, aI cT 8 f_joy), (q_grief, aI cT 8 f_grief), (q_bowl, aI cT 8 f_bowl)] Post (fun (u : (Int32 × (Nat → Int32))) => [(h, oX6 (.ref q_load) (.ref q_sag) (.ref q_joy) (.ref q_bowl) (.ref q_grief) (.ref q_place) (.int x_arches) (.int x_cats) (.int x_store) (.int x_hour) (.int x_drops)), (q_place, aI cT 8 f_place), (b1, oX4 (.ref q_b1_steps) (.ref q_b1_stack) (.int x_b1_size) (.int u.1) (.int x_b1_open) (.int x_b1_compared) (.int x_b1_digits) (.int x_b1_wantsThing)), (q_b1_steps, aI cT 40 f_b1_steps), (q_b1_stack, aI cT 40 u.2), (q_sag, aI cT 6 f_sag), (q_load, aI cT 6 f_load), (q_joy, aI cT 8 f_joy), (q_grief, aI cT 8 f_grief), (q_bowl, aI cT 8 f_bowl)]) := by
  refine MWi.of (by decide) (Nat.le_of_ble_eq_true rfl) ?_
  intro p e s m below meth c A hA C0 hnm hr hP hD ls hl
  have hl : lv_has ls 3 [(0, .ref h), (1, .ref b1), (2, .int p2)] := hl
  have hx := C0.x
  have hb := C0.b
  have hS : va_S A s.heap s.heap [] := va_S.rf
  have hP : va_P D cls9 [(h, oX6 (.ref q_load) (.ref q_sag) (.ref q_joy) (.ref q_bowl) (.ref q_grief) (.ref q_place) (.int x_arches) (.int x_cats) (.int x_store) (.int x_hour) (.int x_drops)), (q_place, aI cT 8 f_place), (b1, oX4 (.ref q_b1_steps) (.ref q_b1_stack) (.int x_b1_size) (.int x_b1_top) (.int x_b1_open) (.int x_b1_compared) (.int x_b1_digits) (.int x_b1_wantsThing)), (q_b1_steps, aI cT 40 f_b1_steps), (q_b1_stack, aI cT 40 f_b1_stack), (q_sag, aI cT 6 f_sag), (q_load, aI cT 6 f_load), (q_joy, aI cT 8 f_joy), (q_grief, aI cT 8 f_grief), (q_bowl, aI cT 8 f_bowl)] s.heap := hP
  have hD : va_D A [(h, oX6 (.ref q_load) (.ref q_sag) (.ref q_joy) (.ref q_bowl) (.ref q_grief) (.ref q_place) (.int x_arches) (.int x_cats) (.int x_store) (.int x_hour) (.int x_drops)), (q_place, aI cT 8 f_place), (b1, oX4 (.ref q_b1_steps) (.ref q_b1_stack) (.int x_b1_size) (.int x_b1_top) (.int x_b1_open) (.int x_b1_compared) (.int x_b1_digits) (.int x_b1_wantsThing)), (q_b1_steps, aI cT 40 f_b1_steps), (q_b1_stack, aI cT 40 f_b1_stack), (q_sag, aI cT 6 f_sag), (q_load, aI cT 6 f_load), (q_joy, aI cT 8 f_joy), (q_grief, aI cT 8 f_grief), (q_bowl, aI cT 8 f_bowl)] := hD
  unfold p_X6_holdOf at hg
  refine lv_aload_n hx hb dX6_holdOf_0 rfl (lv_at hl 0 rfl) ?_
  refine lv_aload_n hx hb dX6_holdOf_1 rfl (lv_at hl 1 rfl) ?_
  refine lv_iload_n hx hb dX6_holdOf_2 rfl (lv_at hl 2 rfl) ?_
  refine lv_aload_n hx hb dX6_holdOf_3 rfl (lv_at hl 0 rfl) ?_
  refine lv_iload_n hx hb dX6_holdOf_4 rfl (lv_at hl 2 rfl) ?_
  refine k_Vxi (rest := [.int p2, .ref b1, .ref h]) C0 lk_X6_73 (c_X6_catsIn l D cT F h p2 (.ref q_load) (.ref q_sag) (.ref q_joy) (.ref q_bowl) (.ref q_grief) q_place x_arches x_cats x_store x_hour x_drops f_place _ hg) hP hD hS hA [0, 1] (by decide +kernel) rfl rfl rfl ⟨Nat.le_of_ble_eq_true rfl, Nat.le_of_ble_eq_true rfl⟩ rfl hl.1 rfl (Nat.le_of_ble_eq_true rfl) dX6_holdOf_5 ⟨Nat.le_of_ble_eq_true rfl, Nat.le_of_ble_eq_true rfl⟩ (fun r_5 hg => ?_)
  refine k_Vi (rest := []) (wr := [(q_place, aI cT 8 f_place)]) (w2 := fun u_8 => [(q_place, aI cT 8 f_place), (h, oX6 (.ref q_load) (.ref q_sag) (.ref q_joy) (.ref q_bowl) (.ref q_grief) (.ref q_place) (.int x_arches) (.int x_cats) (.int x_store) (.int x_hour) (.int x_drops)), (b1, oX4 (.ref q_b1_steps) (.ref q_b1_stack) (.int x_b1_size) (.int u_8.1) (.int x_b1_open) (.int x_b1_compared) (.int x_b1_digits) (.int x_b1_wantsThing)), (q_b1_steps, aI cT 40 f_b1_steps), (q_b1_stack, aI cT 40 u_8.2), (q_sag, aI cT 6 f_sag), (q_load, aI cT 6 f_load), (q_joy, aI cT 8 f_joy), (q_grief, aI cT 8 f_grief), (q_bowl, aI cT 8 f_bowl)]) C0 lk_X6_76 (c_X6_holdBy l D cT F h b1 p2 r_5 q_load q_sag q_joy q_bowl q_grief (.ref q_place) x_arches x_cats x_store x_hour x_drops q_b1_steps q_b1_stack x_b1_size x_b1_top x_b1_open x_b1_compared x_b1_digits x_b1_wantsThing f_b1_steps f_b1_stack f_sag f_load f_joy f_grief f_bowl _ hg) hP hD hS hA [0, 2, 3, 4, 5, 6, 7, 8, 9] [1] (by decide +kernel) rfl rfl (fun _ => rfl) rfl rfl ⟨Nat.le_of_ble_eq_true rfl, Nat.le_of_ble_eq_true rfl⟩ rfl hl.1 rfl (Nat.le_of_ble_eq_true rfl) dX6_holdOf_8 ⟨Nat.le_of_ble_eq_true rfl, Nat.le_of_ble_eq_true rfl⟩ ?_
  intro r_8 u_8 H locs hg hP hD hS
  exact k_iret C0 hr (u_8.1, u_8.2) hg (subP hP [1, 0, 2, 3, 4, 5, 6, 7, 8, 9] rfl) (hD.sub [1, 0, 2, 3, 4, 5, 6, 7, 8, 9] (nd2_ok _ (by decide +kernel)) rfl) hS dX6_holdOf_11
theorem dX6_allHold_0 : decode cX6_allHold 0 = .ok (.iconst 0, 1) := by decide +kernel
theorem dX6_allHold_1 : decode cX6_allHold 1 = .ok (.istore_n 2, 1) := by decide +kernel
theorem dX6_allHold_2 : decode cX6_allHold 2 = .ok (.iconst 0, 1) := by decide +kernel
theorem dX6_allHold_3 : decode cX6_allHold 3 = .ok (.istore_n 3, 1) := by decide +kernel
theorem dX6_allHold_4 : decode cX6_allHold 4 = .ok (.iload_n 3, 1) := by decide +kernel
theorem dX6_allHold_5 : decode cX6_allHold 5 = .ok (.aload_n 0, 1) := by decide +kernel
theorem dX6_allHold_6 : decode cX6_allHold 6 = .ok (.getfield 34, 3) := by decide +kernel
theorem dX6_allHold_9 : decode cX6_allHold 9 = .ok (.if_icmp .ge 18, 3) := by decide +kernel
theorem dX6_allHold_12 : decode cX6_allHold 12 = .ok (.iload_n 2, 1) := by decide +kernel
theorem dX6_allHold_13 : decode cX6_allHold 13 = .ok (.aload_n 0, 1) := by decide +kernel
theorem dX6_allHold_14 : decode cX6_allHold 14 = .ok (.aload_n 1, 1) := by decide +kernel
theorem dX6_allHold_15 : decode cX6_allHold 15 = .ok (.iload_n 3, 1) := by decide +kernel
theorem dX6_allHold_16 : decode cX6_allHold 16 = .ok (.invokevirtual 91, 3) := by decide +kernel
theorem dX6_allHold_19 : decode cX6_allHold 19 = .ok (.iadd, 1) := by decide +kernel
theorem dX6_allHold_20 : decode cX6_allHold 20 = .ok (.istore_n 2, 1) := by decide +kernel
theorem dX6_allHold_21 : decode cX6_allHold 21 = .ok (.iinc 3 1, 3) := by decide +kernel
theorem dX6_allHold_24 : decode cX6_allHold 24 = .ok (.goto (-20), 3) := by decide +kernel
theorem dX6_allHold_27 : decode cX6_allHold 27 = .ok (.iload_n 2, 1) := by decide +kernel
theorem dX6_allHold_28 : decode cX6_allHold 28 = .ok (.ireturn, 1) := by decide +kernel
noncomputable def p_X6_allHold_4 (F : Nat) (x_arches : Int32) (x_cats : Int32) (x_hour : Int32) (x_b1_size : Int32) (f_place : Nat → Int32) (f_b1_steps : Nat → Int32) (f_sag : Nat → Int32) (f_load : Nat → Int32) (f_joy : Nat → Int32) (f_grief : Nat → Int32) (f_bowl : Nat → Int32) (Post : Int32 → (Int32 × (Nat → Int32)) → Prop) (n : Nat) : Int32 → Int32 → Int32 → (Nat → Int32) → Prop := Nat.rec (motive := fun _ => Int32 → Int32 → Int32 → (Nat → Int32) → Prop) (fun _ _ _ _ => False) (fun _ k4 => fun (y3_4 : Int32) (y2_4 : Int32) (x_b1_top_4 : Int32) (f_b1_stack_4 : Nat → Int32) => ((x_arches ≤ y3_4 → (Post y2_4 (x_b1_top_4, f_b1_stack_4))) ∧ (¬ x_arches ≤ y3_4 → (p_X6_holdOf F y3_4 x_arches x_cats x_hour f_place x_b1_size x_b1_top_4 f_b1_steps f_b1_stack_4 f_sag f_load f_joy f_grief f_bowl (fun (r_16 : Int32) (u_16 : (Int32 × (Nat → Int32))) => (k4 (y3_4 + (1 : Int32)) (y2_4 + r_16) u_16.1 u_16.2)))))) n
theorem p_X6_allHold_4_s (F : Nat) (x_arches : Int32) (x_cats : Int32) (x_hour : Int32) (x_b1_size : Int32) (f_place : Nat → Int32) (f_b1_steps : Nat → Int32) (f_sag : Nat → Int32) (f_load : Nat → Int32) (f_joy : Nat → Int32) (f_grief : Nat → Int32) (f_bowl : Nat → Int32) (Post : Int32 → (Int32 × (Nat → Int32)) → Prop) (n : Nat) (y3_4 : Int32) (y2_4 : Int32) (x_b1_top_4 : Int32) (f_b1_stack_4 : Nat → Int32) : p_X6_allHold_4 F x_arches x_cats x_hour x_b1_size f_place f_b1_steps f_sag f_load f_joy f_grief f_bowl Post (n + 1) y3_4 y2_4 x_b1_top_4 f_b1_stack_4 = ((x_arches ≤ y3_4 → (Post y2_4 (x_b1_top_4, f_b1_stack_4))) ∧ (¬ x_arches ≤ y3_4 → (p_X6_holdOf F y3_4 x_arches x_cats x_hour f_place x_b1_size x_b1_top_4 f_b1_steps f_b1_stack_4 f_sag f_load f_joy f_grief f_bowl (fun (r_16 : Int32) (u_16 : (Int32 × (Nat → Int32))) => ((p_X6_allHold_4 F x_arches x_cats x_hour x_b1_size f_place f_b1_steps f_sag f_load f_joy f_grief f_bowl Post n) (y3_4 + (1 : Int32)) (y2_4 + r_16) u_16.1 u_16.2))))) := rfl
def p_X6_allHold (F : Nat) (x_arches : Int32) (x_cats : Int32) (x_hour : Int32) (x_b1_size : Int32) (x_b1_top : Int32) (f_place : Nat → Int32) (f_b1_steps : Nat → Int32) (f_b1_stack : Nat → Int32) (f_sag : Nat → Int32) (f_load : Nat → Int32) (f_joy : Nat → Int32) (f_grief : Nat → Int32) (f_bowl : Nat → Int32) (Post : Int32 → (Int32 × (Nat → Int32)) → Prop) : Prop := (p_X6_allHold_4 F x_arches x_cats x_hour x_b1_size f_place f_b1_steps f_sag f_load f_joy f_grief f_bowl Post F (0 : Int32) (0 : Int32) x_b1_top f_b1_stack)
set_option maxHeartbeats 4000000 in
set_option maxRecDepth 100000 in
theorem c_X6_allHold (l : Launch) (D : va_G) (cT : Nat → ClassId) (F : Nat) (h : Nat) (b1 : Nat) (q_load : Nat) (q_sag : Nat) (q_joy : Nat) (q_bowl : Nat) (q_grief : Nat) (q_place : Nat) (x_arches : Int32) (x_cats : Int32) (x_store : Int32) (x_hour : Int32) (x_drops : Int32) (q_b1_steps : Nat) (q_b1_stack : Nat) (x_b1_size : Int32) (x_b1_top : Int32) (x_b1_open : Int32) (x_b1_compared : Int32) (x_b1_digits : Int32) (x_b1_wantsThing : Int32) (f_place : Nat → Int32) (f_b1_steps : Nat → Int32) (f_b1_stack : Nat → Int32) (f_sag : Nat → Int32) (f_load : Nat → Int32) (f_joy : Nat → Int32) (f_grief : Nat → Int32) (f_bowl : Nat → Int32) (Post : Int32 → (Int32 × (Nat → Int32)) → Prop) (hg : p_X6_allHold F x_arches x_cats x_hour x_b1_size x_b1_top f_place f_b1_steps f_b1_stack f_sag f_load f_joy f_grief f_bowl Post) : MWi l D cT yX6_allHold cX6_allHold 4 (some .int) 5 125 0 0 [.ref h, .ref b1] [(h, oX6 (.ref q_load) (.ref q_sag) (.ref q_joy) (.ref q_bowl) (.ref q_grief) (.ref q_place) (.int x_arches) (.int x_cats) (.int x_store) (.int x_hour) (.int x_drops)), (b1, oX4 (.ref q_b1_steps) (.ref q_b1_stack) (.int x_b1_size) (.int x_b1_top) (.int x_b1_open) (.int x_b1_compared) (.int x_b1_digits) (.int x_b1_wantsThing)), (q_place, aI cT 8 f_place), (q_b1_steps, aI cT 40 f_b1_steps), (q_b1_stack, aI cT 40 f_b1_stack), (q_sag, aI cT 6 f_sag), (q_load, aI cT 6 f_load), (q_joy, aI cT 8 f_joy), (q_grief, aI cT 8 f_grief), (q_bowl, aI cT 8 f_bowl)] Post (fun (u : (Int32 × (Nat → Int32))) => [(h, oX6 (.ref q_load) (.ref q_sag) (.ref q_joy) (.ref q_bowl) (.ref q_grief) (.ref q_place) (.int x_arches) (.int x_cats) (.int x_store) (.int x_hour) (.int x_drops)), (b1, oX4 (.ref q_b1_steps) (.ref q_b1_stack) (.int x_b1_size) (.int u.1) (.int x_b1_open) (.int x_b1_compared) (.int x_b1_digits) (.int x_b1_wantsThing)), (q_place, aI cT 8 f_place), (q_b1_steps, aI cT 40 f_b1_steps), (q_b1_stack, aI cT 40 u.2), (q_sag, aI cT 6 f_sag), (q_load, aI cT 6 f_load), (q_joy, aI cT 8 f_joy), (q_grief, aI cT 8 f_grief), (q_bowl, aI cT 8 f_bowl)]) := by
  refine MWi.of (by decide) (Nat.le_of_ble_eq_true rfl) ?_
  intro p e s m below meth c A hA C0 hnm hr hP hD ls hl
  have hl : lv_has ls 4 [(0, .ref h), (1, .ref b1)] := hl
  have hx := C0.x
  have hb := C0.b
  have hS : va_S A s.heap s.heap [] := va_S.rf
  have hP : va_P D cls9 [(h, oX6 (.ref q_load) (.ref q_sag) (.ref q_joy) (.ref q_bowl) (.ref q_grief) (.ref q_place) (.int x_arches) (.int x_cats) (.int x_store) (.int x_hour) (.int x_drops)), (b1, oX4 (.ref q_b1_steps) (.ref q_b1_stack) (.int x_b1_size) (.int x_b1_top) (.int x_b1_open) (.int x_b1_compared) (.int x_b1_digits) (.int x_b1_wantsThing)), (q_place, aI cT 8 f_place), (q_b1_steps, aI cT 40 f_b1_steps), (q_b1_stack, aI cT 40 f_b1_stack), (q_sag, aI cT 6 f_sag), (q_load, aI cT 6 f_load), (q_joy, aI cT 8 f_joy), (q_grief, aI cT 8 f_grief), (q_bowl, aI cT 8 f_bowl)] s.heap := hP
  have hD : va_D A [(h, oX6 (.ref q_load) (.ref q_sag) (.ref q_joy) (.ref q_bowl) (.ref q_grief) (.ref q_place) (.int x_arches) (.int x_cats) (.int x_store) (.int x_hour) (.int x_drops)), (b1, oX4 (.ref q_b1_steps) (.ref q_b1_stack) (.int x_b1_size) (.int x_b1_top) (.int x_b1_open) (.int x_b1_compared) (.int x_b1_digits) (.int x_b1_wantsThing)), (q_place, aI cT 8 f_place), (q_b1_steps, aI cT 40 f_b1_steps), (q_b1_stack, aI cT 40 f_b1_stack), (q_sag, aI cT 6 f_sag), (q_load, aI cT 6 f_load), (q_joy, aI cT 8 f_joy), (q_grief, aI cT 8 f_grief), (q_bowl, aI cT 8 f_bowl)] := hD
  have L4 : ∀ (n4 : Nat) (y3_4 : Int32) (y2_4 : Int32) (x_b1_top_4 : Int32) (f_b1_stack_4 : Nat → Int32) (H : Heap) (locs : List Loc) (ls : Array Slot), p_X6_allHold_4 F x_arches x_cats x_hour x_b1_size f_place f_b1_steps f_sag f_load f_joy f_grief f_bowl Post n4 y3_4 y2_4 x_b1_top_4 f_b1_stack_4 → va_P D cls9 [(h, oX6 (.ref q_load) (.ref q_sag) (.ref q_joy) (.ref q_bowl) (.ref q_grief) (.ref q_place) (.int x_arches) (.int x_cats) (.int x_store) (.int x_hour) (.int x_drops)), (b1, oX4 (.ref q_b1_steps) (.ref q_b1_stack) (.int x_b1_size) (.int x_b1_top_4) (.int x_b1_open) (.int x_b1_compared) (.int x_b1_digits) (.int x_b1_wantsThing)), (q_place, aI cT 8 f_place), (q_b1_steps, aI cT 40 f_b1_steps), (q_b1_stack, aI cT 40 f_b1_stack_4), (q_sag, aI cT 6 f_sag), (q_load, aI cT 6 f_load), (q_joy, aI cT 8 f_joy), (q_grief, aI cT 8 f_grief), (q_bowl, aI cT 8 f_bowl)] H → va_D A [(h, oX6 (.ref q_load) (.ref q_sag) (.ref q_joy) (.ref q_bowl) (.ref q_grief) (.ref q_place) (.int x_arches) (.int x_cats) (.int x_store) (.int x_hour) (.int x_drops)), (b1, oX4 (.ref q_b1_steps) (.ref q_b1_stack) (.int x_b1_size) (.int x_b1_top_4) (.int x_b1_open) (.int x_b1_compared) (.int x_b1_digits) (.int x_b1_wantsThing)), (q_place, aI cT 8 f_place), (q_b1_steps, aI cT 40 f_b1_steps), (q_b1_stack, aI cT 40 f_b1_stack_4), (q_sag, aI cT 6 f_sag), (q_load, aI cT 6 f_load), (q_joy, aI cT 8 f_joy), (q_grief, aI cT 8 f_grief), (q_bowl, aI cT 8 f_bowl)] → va_S A s.heap H locs → lv_has ls 4 [(0, .ref h), (1, .ref b1), (2, .int y2_4), (3, .int y3_4)] → W p l e (rmO 5 125 0 0) s m ([.ref h, .ref b1] : List Value).toArray below meth c H locs 0 0 (MQ below (va_Qi Post (cB D A (fun (u : (Int32 × (Nat → Int32))) => [(h, oX6 (.ref q_load) (.ref q_sag) (.ref q_joy) (.ref q_bowl) (.ref q_grief) (.ref q_place) (.int x_arches) (.int x_cats) (.int x_store) (.int x_hour) (.int x_drops)), (b1, oX4 (.ref q_b1_steps) (.ref q_b1_stack) (.int x_b1_size) (.int u.1) (.int x_b1_open) (.int x_b1_compared) (.int x_b1_digits) (.int x_b1_wantsThing)), (q_place, aI cT 8 f_place), (q_b1_steps, aI cT 40 f_b1_steps), (q_b1_stack, aI cT 40 u.2), (q_sag, aI cT 6 f_sag), (q_load, aI cT 6 f_load), (q_joy, aI cT 8 f_joy), (q_grief, aI cT 8 f_grief), (q_bowl, aI cT 8 f_bowl)])) A) ([.ref h, .ref b1] : List Value).toArray s 0 0 A) (F0 m 4 ls []) := by
    intro n4
    induction n4 with
    | zero =>
      intro y3_4 y2_4 x_b1_top_4 f_b1_stack_4 H locs ls hg hP hD hS hl
      exact False.elim hg
    | succ n4 ih4 =>
      intro y3_4 y2_4 x_b1_top_4 f_b1_stack_4 H locs ls hg hP hD hS hl
      rw [p_X6_allHold_4_s] at hg
      refine lv_iload_n hx hb dX6_allHold_4 rfl (lv_at hl 3 rfl) ?_
      refine lv_aload_n hx hb dX6_allHold_5 rfl (lv_at hl 0 rfl) ?_
      refine gf_X6_34 C0 hP 0 rfl rfl dX6_allHold_6 ?_
      refine lv_icmp_ge (tgt := 27) hx hb dX6_allHold_9 (by decide) (fun c_9 => ?_) (fun c_9 => ?_)
      · have hg := hg.1 c_9
        refine lv_iload_n hx hb dX6_allHold_27 rfl (lv_at hl 2 rfl) ?_
        exact k_iret C0 hr (x_b1_top_4, f_b1_stack_4) hg hP hD hS dX6_allHold_28
      have hg := hg.2 c_9
      refine lv_iload_n hx hb dX6_allHold_12 rfl (lv_at hl 2 rfl) ?_
      refine lv_aload_n hx hb dX6_allHold_13 rfl (lv_at hl 0 rfl) ?_
      refine lv_aload_n hx hb dX6_allHold_14 rfl (lv_at hl 1 rfl) ?_
      refine lv_iload_n hx hb dX6_allHold_15 rfl (lv_at hl 3 rfl) ?_
      refine k_Vi (rest := [.int y2_4]) (wr := []) (w2 := fun u_16 => [(h, oX6 (.ref q_load) (.ref q_sag) (.ref q_joy) (.ref q_bowl) (.ref q_grief) (.ref q_place) (.int x_arches) (.int x_cats) (.int x_store) (.int x_hour) (.int x_drops)), (q_place, aI cT 8 f_place), (b1, oX4 (.ref q_b1_steps) (.ref q_b1_stack) (.int x_b1_size) (.int u_16.1) (.int x_b1_open) (.int x_b1_compared) (.int x_b1_digits) (.int x_b1_wantsThing)), (q_b1_steps, aI cT 40 f_b1_steps), (q_b1_stack, aI cT 40 u_16.2), (q_sag, aI cT 6 f_sag), (q_load, aI cT 6 f_load), (q_joy, aI cT 8 f_joy), (q_grief, aI cT 8 f_grief), (q_bowl, aI cT 8 f_bowl)]) C0 lk_X6_91 (c_X6_holdOf l D cT F h b1 y3_4 q_load q_sag q_joy q_bowl q_grief q_place x_arches x_cats x_store x_hour x_drops f_place q_b1_steps q_b1_stack x_b1_size x_b1_top_4 x_b1_open x_b1_compared x_b1_digits x_b1_wantsThing f_b1_steps f_b1_stack_4 f_sag f_load f_joy f_grief f_bowl _ hg) hP hD hS hA [0, 2, 1, 3, 4, 5, 6, 7, 8, 9] [] (by decide +kernel) rfl rfl (fun _ => rfl) rfl rfl ⟨Nat.le_of_ble_eq_true rfl, Nat.le_of_ble_eq_true rfl⟩ rfl hl.1 rfl (Nat.le_of_ble_eq_true rfl) dX6_allHold_16 ⟨Nat.le_of_ble_eq_true rfl, Nat.le_of_ble_eq_true rfl⟩ ?_
      intro r_16 u_16 H locs hg hP hD hS
      refine lv_iadd hx hb dX6_allHold_19 ?_
      refine lv_istore_n (lv' := [(2, .int (y2_4 + r_16)), (0, .ref h), (1, .ref b1), (3, .int y3_4)]) hx hb dX6_allHold_20 rfl hl (by decide) rfl (fun ls hl => ?_)
      refine lv_iinc (v := (y3_4 + (1 : Int32))) (lv' := [(3, .int (y3_4 + (1 : Int32))), (2, .int (y2_4 + r_16)), (0, .ref h), (1, .ref b1)]) hx hb dX6_allHold_21 hl (k := 3) rfl rfl (by decide) rfl (fun ls hl => ?_)
      refine lv_goto (tgt := 4) hx hb dX6_allHold_24 (by decide) ?_
      exact ih4 (y3_4 + (1 : Int32)) (y2_4 + r_16) u_16.1 u_16.2 _ _ _ hg (subP hP [0, 2, 1, 3, 4, 5, 6, 7, 8, 9] rfl) (hD.sub [0, 2, 1, 3, 4, 5, 6, 7, 8, 9] (nd2_ok _ (by decide +kernel)) rfl) hS (lv_sub hl [2, 3, 1, 0] rfl)
  unfold p_X6_allHold at hg
  refine lv_iconst (v := (0 : Int32)) hx hb dX6_allHold_0 (by decide) ?_
  refine lv_istore_n (lv' := [(2, .int (0 : Int32)), (0, .ref h), (1, .ref b1)]) hx hb dX6_allHold_1 rfl hl (by decide) rfl (fun ls hl => ?_)
  refine lv_iconst (v := (0 : Int32)) hx hb dX6_allHold_2 (by decide) ?_
  refine lv_istore_n (lv' := [(3, .int (0 : Int32)), (2, .int (0 : Int32)), (0, .ref h), (1, .ref b1)]) hx hb dX6_allHold_3 rfl hl (by decide) rfl (fun ls hl => ?_)
  exact L4 F (0 : Int32) (0 : Int32) x_b1_top f_b1_stack _ _ _ hg hP hD hS (lv_sub hl [2, 3, 1, 0] rfl)
theorem dX6_heldArches_0 : decode cX6_heldArches 0 = .ok (.iconst 0, 1) := by decide +kernel
theorem dX6_heldArches_1 : decode cX6_heldArches 1 = .ok (.istore_n 2, 1) := by decide +kernel
theorem dX6_heldArches_2 : decode cX6_heldArches 2 = .ok (.iconst 0, 1) := by decide +kernel
theorem dX6_heldArches_3 : decode cX6_heldArches 3 = .ok (.istore_n 3, 1) := by decide +kernel
theorem dX6_heldArches_4 : decode cX6_heldArches 4 = .ok (.iload_n 3, 1) := by decide +kernel
theorem dX6_heldArches_5 : decode cX6_heldArches 5 = .ok (.aload_n 0, 1) := by decide +kernel
theorem dX6_heldArches_6 : decode cX6_heldArches 6 = .ok (.getfield 34, 3) := by decide +kernel
theorem dX6_heldArches_9 : decode cX6_heldArches 9 = .ok (.if_icmp .ge 34, 3) := by decide +kernel
theorem dX6_heldArches_12 : decode cX6_heldArches 12 = .ok (.iload_n 2, 1) := by decide +kernel
theorem dX6_heldArches_13 : decode cX6_heldArches 13 = .ok (.aload_n 0, 1) := by decide +kernel
theorem dX6_heldArches_14 : decode cX6_heldArches 14 = .ok (.aload_n 1, 1) := by decide +kernel
theorem dX6_heldArches_15 : decode cX6_heldArches 15 = .ok (.iload_n 3, 1) := by decide +kernel
theorem dX6_heldArches_16 : decode cX6_heldArches 16 = .ok (.invokevirtual 91, 3) := by decide +kernel
theorem dX6_heldArches_19 : decode cX6_heldArches 19 = .ok (.aload_n 0, 1) := by decide +kernel
theorem dX6_heldArches_20 : decode cX6_heldArches 20 = .ok (.getfield 9, 3) := by decide +kernel
theorem dX6_heldArches_23 : decode cX6_heldArches 23 = .ok (.iload_n 3, 1) := by decide +kernel
theorem dX6_heldArches_24 : decode cX6_heldArches 24 = .ok (.iaload, 1) := by decide +kernel
theorem dX6_heldArches_25 : decode cX6_heldArches 25 = .ok (.if_icmp .lt 9, 3) := by decide +kernel
theorem dX6_heldArches_28 : decode cX6_heldArches 28 = .ok (.iconst 1, 1) := by decide +kernel
theorem dX6_heldArches_29 : decode cX6_heldArches 29 = .ok (.iload_n 3, 1) := by decide +kernel
theorem dX6_heldArches_30 : decode cX6_heldArches 30 = .ok (.ishl, 1) := by decide +kernel
theorem dX6_heldArches_31 : decode cX6_heldArches 31 = .ok (.goto 4, 3) := by decide +kernel
theorem dX6_heldArches_34 : decode cX6_heldArches 34 = .ok (.iconst 0, 1) := by decide +kernel
theorem dX6_heldArches_35 : decode cX6_heldArches 35 = .ok (.ior, 1) := by decide +kernel
theorem dX6_heldArches_36 : decode cX6_heldArches 36 = .ok (.istore_n 2, 1) := by decide +kernel
theorem dX6_heldArches_37 : decode cX6_heldArches 37 = .ok (.iinc 3 1, 3) := by decide +kernel
theorem dX6_heldArches_40 : decode cX6_heldArches 40 = .ok (.goto (-36), 3) := by decide +kernel
theorem dX6_heldArches_43 : decode cX6_heldArches 43 = .ok (.iload_n 2, 1) := by decide +kernel
theorem dX6_heldArches_44 : decode cX6_heldArches 44 = .ok (.ireturn, 1) := by decide +kernel
def p_X6_heldArches_35 (F : Nat) (u_16 : (Int32 × (Nat → Int32))) (y3_4 : Int32) (y2_4 : Int32) (k4 : Int32 → Int32 → Int32 → (Nat → Int32) → Prop) (Post : Int32 → (Int32 × (Nat → Int32)) → Prop) (s1_35 : Int32) : Prop := (k4 (y3_4 + (1 : Int32)) (y2_4 ||| s1_35) u_16.1 u_16.2)
noncomputable def p_X6_heldArches_4 (F : Nat) (x_arches : Int32) (x_cats : Int32) (x_hour : Int32) (x_b1_size : Int32) (f_place : Nat → Int32) (f_b1_steps : Nat → Int32) (f_sag : Nat → Int32) (f_load : Nat → Int32) (f_joy : Nat → Int32) (f_grief : Nat → Int32) (f_bowl : Nat → Int32) (Post : Int32 → (Int32 × (Nat → Int32)) → Prop) (n : Nat) : Int32 → Int32 → Int32 → (Nat → Int32) → Prop := Nat.rec (motive := fun _ => Int32 → Int32 → Int32 → (Nat → Int32) → Prop) (fun _ _ _ _ => False) (fun _ k4 => fun (y3_4 : Int32) (y2_4 : Int32) (x_b1_top_4 : Int32) (f_b1_stack_4 : Nat → Int32) => ((x_arches ≤ y3_4 → (Post y2_4 (x_b1_top_4, f_b1_stack_4))) ∧ (¬ x_arches ≤ y3_4 → (p_X6_holdOf F y3_4 x_arches x_cats x_hour f_place x_b1_size x_b1_top_4 f_b1_steps f_b1_stack_4 f_sag f_load f_joy f_grief f_bowl (fun (r_16 : Int32) (u_16 : (Int32 × (Nat → Int32))) => (vp_in y3_4 6 ∧ ((r_16 < (f_load y3_4.toNatClampNeg) → (p_X6_heldArches_35 F u_16 y3_4 y2_4 k4 Post (0 : Int32))) ∧ (¬ r_16 < (f_load y3_4.toNatClampNeg) → (p_X6_heldArches_35 F u_16 y3_4 y2_4 k4 Post ((1 : Int32) <<< (y3_4 &&& 31))))))))))) n
theorem p_X6_heldArches_4_s (F : Nat) (x_arches : Int32) (x_cats : Int32) (x_hour : Int32) (x_b1_size : Int32) (f_place : Nat → Int32) (f_b1_steps : Nat → Int32) (f_sag : Nat → Int32) (f_load : Nat → Int32) (f_joy : Nat → Int32) (f_grief : Nat → Int32) (f_bowl : Nat → Int32) (Post : Int32 → (Int32 × (Nat → Int32)) → Prop) (n : Nat) (y3_4 : Int32) (y2_4 : Int32) (x_b1_top_4 : Int32) (f_b1_stack_4 : Nat → Int32) : p_X6_heldArches_4 F x_arches x_cats x_hour x_b1_size f_place f_b1_steps f_sag f_load f_joy f_grief f_bowl Post (n + 1) y3_4 y2_4 x_b1_top_4 f_b1_stack_4 = ((x_arches ≤ y3_4 → (Post y2_4 (x_b1_top_4, f_b1_stack_4))) ∧ (¬ x_arches ≤ y3_4 → (p_X6_holdOf F y3_4 x_arches x_cats x_hour f_place x_b1_size x_b1_top_4 f_b1_steps f_b1_stack_4 f_sag f_load f_joy f_grief f_bowl (fun (r_16 : Int32) (u_16 : (Int32 × (Nat → Int32))) => (vp_in y3_4 6 ∧ ((r_16 < (f_load y3_4.toNatClampNeg) → (p_X6_heldArches_35 F u_16 y3_4 y2_4 (p_X6_heldArches_4 F x_arches x_cats x_hour x_b1_size f_place f_b1_steps f_sag f_load f_joy f_grief f_bowl Post n) Post (0 : Int32))) ∧ (¬ r_16 < (f_load y3_4.toNatClampNeg) → (p_X6_heldArches_35 F u_16 y3_4 y2_4 (p_X6_heldArches_4 F x_arches x_cats x_hour x_b1_size f_place f_b1_steps f_sag f_load f_joy f_grief f_bowl Post n) Post ((1 : Int32) <<< (y3_4 &&& 31)))))))))) := rfl
def p_X6_heldArches (F : Nat) (x_arches : Int32) (x_cats : Int32) (x_hour : Int32) (x_b1_size : Int32) (x_b1_top : Int32) (f_place : Nat → Int32) (f_b1_steps : Nat → Int32) (f_b1_stack : Nat → Int32) (f_sag : Nat → Int32) (f_load : Nat → Int32) (f_joy : Nat → Int32) (f_grief : Nat → Int32) (f_bowl : Nat → Int32) (Post : Int32 → (Int32 × (Nat → Int32)) → Prop) : Prop := (p_X6_heldArches_4 F x_arches x_cats x_hour x_b1_size f_place f_b1_steps f_sag f_load f_joy f_grief f_bowl Post F (0 : Int32) (0 : Int32) x_b1_top f_b1_stack)
set_option maxHeartbeats 4000000 in
set_option maxRecDepth 100000 in
theorem c_X6_heldArches (l : Launch) (D : va_G) (cT : Nat → ClassId) (F : Nat) (h : Nat) (b1 : Nat) (q_load : Nat) (q_sag : Nat) (q_joy : Nat) (q_bowl : Nat) (q_grief : Nat) (q_place : Nat) (x_arches : Int32) (x_cats : Int32) (x_store : Int32) (x_hour : Int32) (x_drops : Int32) (q_b1_steps : Nat) (q_b1_stack : Nat) (x_b1_size : Int32) (x_b1_top : Int32) (x_b1_open : Int32) (x_b1_compared : Int32) (x_b1_digits : Int32) (x_b1_wantsThing : Int32) (f_place : Nat → Int32) (f_b1_steps : Nat → Int32) (f_b1_stack : Nat → Int32) (f_sag : Nat → Int32) (f_load : Nat → Int32) (f_joy : Nat → Int32) (f_grief : Nat → Int32) (f_bowl : Nat → Int32) (Post : Int32 → (Int32 × (Nat → Int32)) → Prop) (hg : p_X6_heldArches F x_arches x_cats x_hour x_b1_size x_b1_top f_place f_b1_steps f_b1_stack f_sag f_load f_joy f_grief f_bowl Post) : MWi l D cT yX6_heldArches cX6_heldArches 4 (some .int) 5 125 0 0 [.ref h, .ref b1] [(h, oX6 (.ref q_load) (.ref q_sag) (.ref q_joy) (.ref q_bowl) (.ref q_grief) (.ref q_place) (.int x_arches) (.int x_cats) (.int x_store) (.int x_hour) (.int x_drops)), (b1, oX4 (.ref q_b1_steps) (.ref q_b1_stack) (.int x_b1_size) (.int x_b1_top) (.int x_b1_open) (.int x_b1_compared) (.int x_b1_digits) (.int x_b1_wantsThing)), (q_place, aI cT 8 f_place), (q_b1_steps, aI cT 40 f_b1_steps), (q_b1_stack, aI cT 40 f_b1_stack), (q_sag, aI cT 6 f_sag), (q_load, aI cT 6 f_load), (q_joy, aI cT 8 f_joy), (q_grief, aI cT 8 f_grief), (q_bowl, aI cT 8 f_bowl)] Post (fun (u : (Int32 × (Nat → Int32))) => [(h, oX6 (.ref q_load) (.ref q_sag) (.ref q_joy) (.ref q_bowl) (.ref q_grief) (.ref q_place) (.int x_arches) (.int x_cats) (.int x_store) (.int x_hour) (.int x_drops)), (b1, oX4 (.ref q_b1_steps) (.ref q_b1_stack) (.int x_b1_size) (.int u.1) (.int x_b1_open) (.int x_b1_compared) (.int x_b1_digits) (.int x_b1_wantsThing)), (q_place, aI cT 8 f_place), (q_b1_steps, aI cT 40 f_b1_steps), (q_b1_stack, aI cT 40 u.2), (q_sag, aI cT 6 f_sag), (q_load, aI cT 6 f_load), (q_joy, aI cT 8 f_joy), (q_grief, aI cT 8 f_grief), (q_bowl, aI cT 8 f_bowl)]) := by
  refine MWi.of (by decide) (Nat.le_of_ble_eq_true rfl) ?_
  intro p e s m below meth c A hA C0 hnm hr hP hD ls hl
  have hl : lv_has ls 4 [(0, .ref h), (1, .ref b1)] := hl
  have hx := C0.x
  have hb := C0.b
  have hS : va_S A s.heap s.heap [] := va_S.rf
  have hP : va_P D cls9 [(h, oX6 (.ref q_load) (.ref q_sag) (.ref q_joy) (.ref q_bowl) (.ref q_grief) (.ref q_place) (.int x_arches) (.int x_cats) (.int x_store) (.int x_hour) (.int x_drops)), (b1, oX4 (.ref q_b1_steps) (.ref q_b1_stack) (.int x_b1_size) (.int x_b1_top) (.int x_b1_open) (.int x_b1_compared) (.int x_b1_digits) (.int x_b1_wantsThing)), (q_place, aI cT 8 f_place), (q_b1_steps, aI cT 40 f_b1_steps), (q_b1_stack, aI cT 40 f_b1_stack), (q_sag, aI cT 6 f_sag), (q_load, aI cT 6 f_load), (q_joy, aI cT 8 f_joy), (q_grief, aI cT 8 f_grief), (q_bowl, aI cT 8 f_bowl)] s.heap := hP
  have hD : va_D A [(h, oX6 (.ref q_load) (.ref q_sag) (.ref q_joy) (.ref q_bowl) (.ref q_grief) (.ref q_place) (.int x_arches) (.int x_cats) (.int x_store) (.int x_hour) (.int x_drops)), (b1, oX4 (.ref q_b1_steps) (.ref q_b1_stack) (.int x_b1_size) (.int x_b1_top) (.int x_b1_open) (.int x_b1_compared) (.int x_b1_digits) (.int x_b1_wantsThing)), (q_place, aI cT 8 f_place), (q_b1_steps, aI cT 40 f_b1_steps), (q_b1_stack, aI cT 40 f_b1_stack), (q_sag, aI cT 6 f_sag), (q_load, aI cT 6 f_load), (q_joy, aI cT 8 f_joy), (q_grief, aI cT 8 f_grief), (q_bowl, aI cT 8 f_bowl)] := hD
  have L4 : ∀ (n4 : Nat) (y3_4 : Int32) (y2_4 : Int32) (x_b1_top_4 : Int32) (f_b1_stack_4 : Nat → Int32) (H : Heap) (locs : List Loc) (ls : Array Slot), p_X6_heldArches_4 F x_arches x_cats x_hour x_b1_size f_place f_b1_steps f_sag f_load f_joy f_grief f_bowl Post n4 y3_4 y2_4 x_b1_top_4 f_b1_stack_4 → va_P D cls9 [(h, oX6 (.ref q_load) (.ref q_sag) (.ref q_joy) (.ref q_bowl) (.ref q_grief) (.ref q_place) (.int x_arches) (.int x_cats) (.int x_store) (.int x_hour) (.int x_drops)), (b1, oX4 (.ref q_b1_steps) (.ref q_b1_stack) (.int x_b1_size) (.int x_b1_top_4) (.int x_b1_open) (.int x_b1_compared) (.int x_b1_digits) (.int x_b1_wantsThing)), (q_place, aI cT 8 f_place), (q_b1_steps, aI cT 40 f_b1_steps), (q_b1_stack, aI cT 40 f_b1_stack_4), (q_sag, aI cT 6 f_sag), (q_load, aI cT 6 f_load), (q_joy, aI cT 8 f_joy), (q_grief, aI cT 8 f_grief), (q_bowl, aI cT 8 f_bowl)] H → va_D A [(h, oX6 (.ref q_load) (.ref q_sag) (.ref q_joy) (.ref q_bowl) (.ref q_grief) (.ref q_place) (.int x_arches) (.int x_cats) (.int x_store) (.int x_hour) (.int x_drops)), (b1, oX4 (.ref q_b1_steps) (.ref q_b1_stack) (.int x_b1_size) (.int x_b1_top_4) (.int x_b1_open) (.int x_b1_compared) (.int x_b1_digits) (.int x_b1_wantsThing)), (q_place, aI cT 8 f_place), (q_b1_steps, aI cT 40 f_b1_steps), (q_b1_stack, aI cT 40 f_b1_stack_4), (q_sag, aI cT 6 f_sag), (q_load, aI cT 6 f_load), (q_joy, aI cT 8 f_joy), (q_grief, aI cT 8 f_grief), (q_bowl, aI cT 8 f_bowl)] → va_S A s.heap H locs → lv_has ls 4 [(0, .ref h), (1, .ref b1), (2, .int y2_4), (3, .int y3_4)] → W p l e (rmO 5 125 0 0) s m ([.ref h, .ref b1] : List Value).toArray below meth c H locs 0 0 (MQ below (va_Qi Post (cB D A (fun (u : (Int32 × (Nat → Int32))) => [(h, oX6 (.ref q_load) (.ref q_sag) (.ref q_joy) (.ref q_bowl) (.ref q_grief) (.ref q_place) (.int x_arches) (.int x_cats) (.int x_store) (.int x_hour) (.int x_drops)), (b1, oX4 (.ref q_b1_steps) (.ref q_b1_stack) (.int x_b1_size) (.int u.1) (.int x_b1_open) (.int x_b1_compared) (.int x_b1_digits) (.int x_b1_wantsThing)), (q_place, aI cT 8 f_place), (q_b1_steps, aI cT 40 f_b1_steps), (q_b1_stack, aI cT 40 u.2), (q_sag, aI cT 6 f_sag), (q_load, aI cT 6 f_load), (q_joy, aI cT 8 f_joy), (q_grief, aI cT 8 f_grief), (q_bowl, aI cT 8 f_bowl)])) A) ([.ref h, .ref b1] : List Value).toArray s 0 0 A) (F0 m 4 ls []) := by
    intro n4
    induction n4 with
    | zero =>
      intro y3_4 y2_4 x_b1_top_4 f_b1_stack_4 H locs ls hg hP hD hS hl
      exact False.elim hg
    | succ n4 ih4 =>
      have L35 : ∀ (u_16 : (Int32 × (Nat → Int32))) (y3_4 : Int32) (y2_4 : Int32) (s1_35 : Int32) (H : Heap) (locs : List Loc) (ls : Array Slot), p_X6_heldArches_35 F u_16 y3_4 y2_4 (p_X6_heldArches_4 F x_arches x_cats x_hour x_b1_size f_place f_b1_steps f_sag f_load f_joy f_grief f_bowl Post n4) Post s1_35 → va_P D cls9 [(h, oX6 (.ref q_load) (.ref q_sag) (.ref q_joy) (.ref q_bowl) (.ref q_grief) (.ref q_place) (.int x_arches) (.int x_cats) (.int x_store) (.int x_hour) (.int x_drops)), (b1, oX4 (.ref q_b1_steps) (.ref q_b1_stack) (.int x_b1_size) (.int u_16.1) (.int x_b1_open) (.int x_b1_compared) (.int x_b1_digits) (.int x_b1_wantsThing)), (q_place, aI cT 8 f_place), (q_b1_steps, aI cT 40 f_b1_steps), (q_b1_stack, aI cT 40 u_16.2), (q_sag, aI cT 6 f_sag), (q_load, aI cT 6 f_load), (q_joy, aI cT 8 f_joy), (q_grief, aI cT 8 f_grief), (q_bowl, aI cT 8 f_bowl)] H → va_D A [(h, oX6 (.ref q_load) (.ref q_sag) (.ref q_joy) (.ref q_bowl) (.ref q_grief) (.ref q_place) (.int x_arches) (.int x_cats) (.int x_store) (.int x_hour) (.int x_drops)), (b1, oX4 (.ref q_b1_steps) (.ref q_b1_stack) (.int x_b1_size) (.int u_16.1) (.int x_b1_open) (.int x_b1_compared) (.int x_b1_digits) (.int x_b1_wantsThing)), (q_place, aI cT 8 f_place), (q_b1_steps, aI cT 40 f_b1_steps), (q_b1_stack, aI cT 40 u_16.2), (q_sag, aI cT 6 f_sag), (q_load, aI cT 6 f_load), (q_joy, aI cT 8 f_joy), (q_grief, aI cT 8 f_grief), (q_bowl, aI cT 8 f_bowl)] → va_S A s.heap H locs → lv_has ls 4 [(0, .ref h), (1, .ref b1), (3, .int y3_4)] → W p l e (rmO 5 125 0 0) s m ([.ref h, .ref b1] : List Value).toArray below meth c H locs 0 0 (MQ below (va_Qi Post (cB D A (fun (u : (Int32 × (Nat → Int32))) => [(h, oX6 (.ref q_load) (.ref q_sag) (.ref q_joy) (.ref q_bowl) (.ref q_grief) (.ref q_place) (.int x_arches) (.int x_cats) (.int x_store) (.int x_hour) (.int x_drops)), (b1, oX4 (.ref q_b1_steps) (.ref q_b1_stack) (.int x_b1_size) (.int u.1) (.int x_b1_open) (.int x_b1_compared) (.int x_b1_digits) (.int x_b1_wantsThing)), (q_place, aI cT 8 f_place), (q_b1_steps, aI cT 40 f_b1_steps), (q_b1_stack, aI cT 40 u.2), (q_sag, aI cT 6 f_sag), (q_load, aI cT 6 f_load), (q_joy, aI cT 8 f_joy), (q_grief, aI cT 8 f_grief), (q_bowl, aI cT 8 f_bowl)])) A) ([.ref h, .ref b1] : List Value).toArray s 0 0 A) (F0 m 35 ls [.int s1_35, .int y2_4]) := by
        intro u_16 y3_4 y2_4 s1_35 H locs ls hg hP hD hS hl
        unfold p_X6_heldArches_35 at hg
        refine lv_ior hx hb dX6_heldArches_35 ?_
        refine lv_istore_n (lv' := [(2, .int (y2_4 ||| s1_35)), (0, .ref h), (1, .ref b1), (3, .int y3_4)]) hx hb dX6_heldArches_36 rfl hl (by decide) rfl (fun ls hl => ?_)
        refine lv_iinc (v := (y3_4 + (1 : Int32))) (lv' := [(3, .int (y3_4 + (1 : Int32))), (2, .int (y2_4 ||| s1_35)), (0, .ref h), (1, .ref b1)]) hx hb dX6_heldArches_37 hl (k := 3) rfl rfl (by decide) rfl (fun ls hl => ?_)
        refine lv_goto (tgt := 4) hx hb dX6_heldArches_40 (by decide) ?_
        exact ih4 (y3_4 + (1 : Int32)) (y2_4 ||| s1_35) u_16.1 u_16.2 _ _ _ hg hP hD hS (lv_sub hl [2, 3, 1, 0] rfl)
      intro y3_4 y2_4 x_b1_top_4 f_b1_stack_4 H locs ls hg hP hD hS hl
      rw [p_X6_heldArches_4_s] at hg
      refine lv_iload_n hx hb dX6_heldArches_4 rfl (lv_at hl 3 rfl) ?_
      refine lv_aload_n hx hb dX6_heldArches_5 rfl (lv_at hl 0 rfl) ?_
      refine gf_X6_34 C0 hP 0 rfl rfl dX6_heldArches_6 ?_
      refine lv_icmp_ge (tgt := 43) hx hb dX6_heldArches_9 (by decide) (fun c_9 => ?_) (fun c_9 => ?_)
      · have hg := hg.1 c_9
        refine lv_iload_n hx hb dX6_heldArches_43 rfl (lv_at hl 2 rfl) ?_
        exact k_iret C0 hr (x_b1_top_4, f_b1_stack_4) hg hP hD hS dX6_heldArches_44
      have hg := hg.2 c_9
      refine lv_iload_n hx hb dX6_heldArches_12 rfl (lv_at hl 2 rfl) ?_
      refine lv_aload_n hx hb dX6_heldArches_13 rfl (lv_at hl 0 rfl) ?_
      refine lv_aload_n hx hb dX6_heldArches_14 rfl (lv_at hl 1 rfl) ?_
      refine lv_iload_n hx hb dX6_heldArches_15 rfl (lv_at hl 3 rfl) ?_
      refine k_Vi (rest := [.int y2_4]) (wr := []) (w2 := fun u_16 => [(h, oX6 (.ref q_load) (.ref q_sag) (.ref q_joy) (.ref q_bowl) (.ref q_grief) (.ref q_place) (.int x_arches) (.int x_cats) (.int x_store) (.int x_hour) (.int x_drops)), (q_place, aI cT 8 f_place), (b1, oX4 (.ref q_b1_steps) (.ref q_b1_stack) (.int x_b1_size) (.int u_16.1) (.int x_b1_open) (.int x_b1_compared) (.int x_b1_digits) (.int x_b1_wantsThing)), (q_b1_steps, aI cT 40 f_b1_steps), (q_b1_stack, aI cT 40 u_16.2), (q_sag, aI cT 6 f_sag), (q_load, aI cT 6 f_load), (q_joy, aI cT 8 f_joy), (q_grief, aI cT 8 f_grief), (q_bowl, aI cT 8 f_bowl)]) C0 lk_X6_91 (c_X6_holdOf l D cT F h b1 y3_4 q_load q_sag q_joy q_bowl q_grief q_place x_arches x_cats x_store x_hour x_drops f_place q_b1_steps q_b1_stack x_b1_size x_b1_top_4 x_b1_open x_b1_compared x_b1_digits x_b1_wantsThing f_b1_steps f_b1_stack_4 f_sag f_load f_joy f_grief f_bowl _ hg) hP hD hS hA [0, 2, 1, 3, 4, 5, 6, 7, 8, 9] [] (by decide +kernel) rfl rfl (fun _ => rfl) rfl rfl ⟨Nat.le_of_ble_eq_true rfl, Nat.le_of_ble_eq_true rfl⟩ rfl hl.1 rfl (Nat.le_of_ble_eq_true rfl) dX6_heldArches_16 ⟨Nat.le_of_ble_eq_true rfl, Nat.le_of_ble_eq_true rfl⟩ ?_
      intro r_16 u_16 H locs hg hP hD hS
      refine lv_aload_n hx hb dX6_heldArches_19 rfl (lv_at hl 0 rfl) ?_
      refine gf_X6_9 C0 hP 0 rfl rfl dX6_heldArches_20 ?_
      refine lv_iload_n hx hb dX6_heldArches_23 rfl (lv_at hl 3 rfl) ?_
      obtain ⟨g_24, hg⟩ := hg
      refine k_iald C0 hP 6 rfl g_24 dX6_heldArches_24 ?_
      refine lv_icmp_lt (tgt := 34) hx hb dX6_heldArches_25 (by decide) (fun c_25 => ?_) (fun c_25 => ?_)
      · have hg := hg.1 c_25
        refine lv_iconst (v := (0 : Int32)) hx hb dX6_heldArches_34 (by decide) ?_
        exact L35 u_16 y3_4 y2_4 (0 : Int32) _ _ _ hg (subP hP [0, 2, 1, 3, 4, 5, 6, 7, 8, 9] rfl) (hD.sub [0, 2, 1, 3, 4, 5, 6, 7, 8, 9] (nd2_ok _ (by decide +kernel)) rfl) hS (lv_sub hl [0, 1, 3] rfl)
      have hg := hg.2 c_25
      refine lv_iconst (v := (1 : Int32)) hx hb dX6_heldArches_28 (by decide) ?_
      refine lv_iload_n hx hb dX6_heldArches_29 rfl (lv_at hl 3 rfl) ?_
      refine lv_ishl hx hb dX6_heldArches_30 ?_
      refine lv_goto (tgt := 35) hx hb dX6_heldArches_31 (by decide) ?_
      exact L35 u_16 y3_4 y2_4 ((1 : Int32) <<< (y3_4 &&& 31)) _ _ _ hg (subP hP [0, 2, 1, 3, 4, 5, 6, 7, 8, 9] rfl) (hD.sub [0, 2, 1, 3, 4, 5, 6, 7, 8, 9] (nd2_ok _ (by decide +kernel)) rfl) hS (lv_sub hl [0, 1, 3] rfl)
  unfold p_X6_heldArches at hg
  refine lv_iconst (v := (0 : Int32)) hx hb dX6_heldArches_0 (by decide) ?_
  refine lv_istore_n (lv' := [(2, .int (0 : Int32)), (0, .ref h), (1, .ref b1)]) hx hb dX6_heldArches_1 rfl hl (by decide) rfl (fun ls hl => ?_)
  refine lv_iconst (v := (0 : Int32)) hx hb dX6_heldArches_2 (by decide) ?_
  refine lv_istore_n (lv' := [(3, .int (0 : Int32)), (2, .int (0 : Int32)), (0, .ref h), (1, .ref b1)]) hx hb dX6_heldArches_3 rfl hl (by decide) rfl (fun ls hl => ?_)
  exact L4 F (0 : Int32) (0 : Int32) x_b1_top f_b1_stack _ _ _ hg hP hD hS (lv_sub hl [2, 3, 1, 0] rfl)
theorem dX6_loadedArches_0 : decode cX6_loadedArches 0 = .ok (.iconst 0, 1) := by decide +kernel
theorem dX6_loadedArches_1 : decode cX6_loadedArches 1 = .ok (.istore_n 1, 1) := by decide +kernel
theorem dX6_loadedArches_2 : decode cX6_loadedArches 2 = .ok (.iconst 0, 1) := by decide +kernel
theorem dX6_loadedArches_3 : decode cX6_loadedArches 3 = .ok (.istore_n 2, 1) := by decide +kernel
theorem dX6_loadedArches_4 : decode cX6_loadedArches 4 = .ok (.iload_n 2, 1) := by decide +kernel
theorem dX6_loadedArches_5 : decode cX6_loadedArches 5 = .ok (.aload_n 0, 1) := by decide +kernel
theorem dX6_loadedArches_6 : decode cX6_loadedArches 6 = .ok (.getfield 34, 3) := by decide +kernel
theorem dX6_loadedArches_9 : decode cX6_loadedArches 9 = .ok (.if_icmp .ge 28, 3) := by decide +kernel
theorem dX6_loadedArches_12 : decode cX6_loadedArches 12 = .ok (.iload_n 1, 1) := by decide +kernel
theorem dX6_loadedArches_13 : decode cX6_loadedArches 13 = .ok (.aload_n 0, 1) := by decide +kernel
theorem dX6_loadedArches_14 : decode cX6_loadedArches 14 = .ok (.getfield 9, 3) := by decide +kernel
theorem dX6_loadedArches_17 : decode cX6_loadedArches 17 = .ok (.iload_n 2, 1) := by decide +kernel
theorem dX6_loadedArches_18 : decode cX6_loadedArches 18 = .ok (.iaload, 1) := by decide +kernel
theorem dX6_loadedArches_19 : decode cX6_loadedArches 19 = .ok (.ifCond .le 9, 3) := by decide +kernel
theorem dX6_loadedArches_22 : decode cX6_loadedArches 22 = .ok (.iconst 1, 1) := by decide +kernel
theorem dX6_loadedArches_23 : decode cX6_loadedArches 23 = .ok (.iload_n 2, 1) := by decide +kernel
theorem dX6_loadedArches_24 : decode cX6_loadedArches 24 = .ok (.ishl, 1) := by decide +kernel
theorem dX6_loadedArches_25 : decode cX6_loadedArches 25 = .ok (.goto 4, 3) := by decide +kernel
theorem dX6_loadedArches_28 : decode cX6_loadedArches 28 = .ok (.iconst 0, 1) := by decide +kernel
theorem dX6_loadedArches_29 : decode cX6_loadedArches 29 = .ok (.ior, 1) := by decide +kernel
theorem dX6_loadedArches_30 : decode cX6_loadedArches 30 = .ok (.istore_n 1, 1) := by decide +kernel
theorem dX6_loadedArches_31 : decode cX6_loadedArches 31 = .ok (.iinc 2 1, 3) := by decide +kernel
theorem dX6_loadedArches_34 : decode cX6_loadedArches 34 = .ok (.goto (-30), 3) := by decide +kernel
theorem dX6_loadedArches_37 : decode cX6_loadedArches 37 = .ok (.iload_n 1, 1) := by decide +kernel
theorem dX6_loadedArches_38 : decode cX6_loadedArches 38 = .ok (.ireturn, 1) := by decide +kernel
def p_X6_loadedArches_29 (F : Nat) (y2_4 : Int32) (y1_4 : Int32) (k4 : Int32 → Int32 → Prop) (Post : Int32 → Prop) (s1_29 : Int32) : Prop := (k4 (y2_4 + (1 : Int32)) (y1_4 ||| s1_29))
noncomputable def p_X6_loadedArches_4 (F : Nat) (x_arches : Int32) (f_load : Nat → Int32) (Post : Int32 → Prop) (n : Nat) : Int32 → Int32 → Prop := Nat.rec (motive := fun _ => Int32 → Int32 → Prop) (fun _ _ => False) (fun _ k4 => fun (y2_4 : Int32) (y1_4 : Int32) => ((x_arches ≤ y2_4 → (Post y1_4)) ∧ (¬ x_arches ≤ y2_4 → (vp_in y2_4 6 ∧ (((f_load y2_4.toNatClampNeg) ≤ 0 → (p_X6_loadedArches_29 F y2_4 y1_4 k4 Post (0 : Int32))) ∧ (¬ (f_load y2_4.toNatClampNeg) ≤ 0 → (p_X6_loadedArches_29 F y2_4 y1_4 k4 Post ((1 : Int32) <<< (y2_4 &&& 31))))))))) n
theorem p_X6_loadedArches_4_s (F : Nat) (x_arches : Int32) (f_load : Nat → Int32) (Post : Int32 → Prop) (n : Nat) (y2_4 : Int32) (y1_4 : Int32) : p_X6_loadedArches_4 F x_arches f_load Post (n + 1) y2_4 y1_4 = ((x_arches ≤ y2_4 → (Post y1_4)) ∧ (¬ x_arches ≤ y2_4 → (vp_in y2_4 6 ∧ (((f_load y2_4.toNatClampNeg) ≤ 0 → (p_X6_loadedArches_29 F y2_4 y1_4 (p_X6_loadedArches_4 F x_arches f_load Post n) Post (0 : Int32))) ∧ (¬ (f_load y2_4.toNatClampNeg) ≤ 0 → (p_X6_loadedArches_29 F y2_4 y1_4 (p_X6_loadedArches_4 F x_arches f_load Post n) Post ((1 : Int32) <<< (y2_4 &&& 31)))))))) := rfl
def p_X6_loadedArches (F : Nat) (x_arches : Int32) (f_load : Nat → Int32) (Post : Int32 → Prop) : Prop := (p_X6_loadedArches_4 F x_arches f_load Post F (0 : Int32) (0 : Int32))
set_option maxHeartbeats 4000000 in
set_option maxRecDepth 100000 in
theorem c_X6_loadedArches (l : Launch) (D : va_G) (cT : Nat → ClassId) (F : Nat) (h : Nat) (q_load : Nat) (w_sag : Value) (w_joy : Value) (w_bowl : Value) (w_grief : Value) (w_place : Value) (x_arches : Int32) (x_cats : Int32) (x_store : Int32) (x_hour : Int32) (x_drops : Int32) (f_load : Nat → Int32) (Post : Int32 → Prop) (hg : p_X6_loadedArches F x_arches f_load Post) : MRi l D cT yX6_loadedArches cX6_loadedArches 3 (some .int) 0 0 [.ref h] [(h, oX6 (.ref q_load) w_sag w_joy w_bowl w_grief w_place (.int x_arches) (.int x_cats) (.int x_store) (.int x_hour) (.int x_drops)), (q_load, aI cT 6 f_load)] Post := by
  refine MRi.of (by decide) (Nat.le_of_ble_eq_true rfl) ?_
  intro p e s m below meth c hA C0 hr hP hD hS ls hl
  have hl : lv_has ls 3 [(0, .ref h)] := hl
  have hx := C0.x
  have hb := C0.b
  have hP : va_P D cls9 [(h, oX6 (.ref q_load) w_sag w_joy w_bowl w_grief w_place (.int x_arches) (.int x_cats) (.int x_store) (.int x_hour) (.int x_drops)), (q_load, aI cT 6 f_load)] s.heap := hP
  have hD : va_D (fun q => cT 6 ≤ q) [(h, oX6 (.ref q_load) w_sag w_joy w_bowl w_grief w_place (.int x_arches) (.int x_cats) (.int x_store) (.int x_hour) (.int x_drops)), (q_load, aI cT 6 f_load)] := hD
  have L4 : ∀ (n4 : Nat) (y2_4 : Int32) (y1_4 : Int32) (ls : Array Slot), p_X6_loadedArches_4 F x_arches f_load Post n4 y2_4 y1_4 → lv_has ls 3 [(0, .ref h), (1, .int y1_4), (2, .int y2_4)] → W p l e (rmO 0 0 0 0) s m ([.ref h] : List Value).toArray below meth c s.heap [] 0 0 (MQ below (vp_Si Post) ([.ref h] : List Value).toArray s 0 0 (fun _ => False)) (F0 m 4 ls []) := by
    intro n4
    induction n4 with
    | zero =>
      intro y2_4 y1_4 ls hg hl
      exact False.elim hg
    | succ n4 ih4 =>
      have L29 : ∀ (y2_4 : Int32) (y1_4 : Int32) (s1_29 : Int32) (ls : Array Slot), p_X6_loadedArches_29 F y2_4 y1_4 (p_X6_loadedArches_4 F x_arches f_load Post n4) Post s1_29 → lv_has ls 3 [(0, .ref h), (2, .int y2_4)] → W p l e (rmO 0 0 0 0) s m ([.ref h] : List Value).toArray below meth c s.heap [] 0 0 (MQ below (vp_Si Post) ([.ref h] : List Value).toArray s 0 0 (fun _ => False)) (F0 m 29 ls [.int s1_29, .int y1_4]) := by
        intro y2_4 y1_4 s1_29 ls hg hl
        unfold p_X6_loadedArches_29 at hg
        refine lv_ior hx hb dX6_loadedArches_29 ?_
        refine lv_istore_n (lv' := [(1, .int (y1_4 ||| s1_29)), (0, .ref h), (2, .int y2_4)]) hx hb dX6_loadedArches_30 rfl hl (by decide) rfl (fun ls hl => ?_)
        refine lv_iinc (v := (y2_4 + (1 : Int32))) (lv' := [(2, .int (y2_4 + (1 : Int32))), (1, .int (y1_4 ||| s1_29)), (0, .ref h)]) hx hb dX6_loadedArches_31 hl (k := 2) rfl rfl (by decide) rfl (fun ls hl => ?_)
        refine lv_goto (tgt := 4) hx hb dX6_loadedArches_34 (by decide) ?_
        exact ih4 (y2_4 + (1 : Int32)) (y1_4 ||| s1_29) _ hg (lv_sub hl [2, 1, 0] rfl)
      intro y2_4 y1_4 ls hg hl
      rw [p_X6_loadedArches_4_s] at hg
      refine lv_iload_n hx hb dX6_loadedArches_4 rfl (lv_at hl 2 rfl) ?_
      refine lv_aload_n hx hb dX6_loadedArches_5 rfl (lv_at hl 0 rfl) ?_
      refine gf_X6_34 C0 hP 0 rfl rfl dX6_loadedArches_6 ?_
      refine lv_icmp_ge (tgt := 37) hx hb dX6_loadedArches_9 (by decide) (fun c_9 => ?_) (fun c_9 => ?_)
      · have hg := hg.1 c_9
        refine lv_iload_n hx hb dX6_loadedArches_37 rfl (lv_at hl 1 rfl) ?_
        exact k_xiret C0 hr hg dX6_loadedArches_38
      have hg := hg.2 c_9
      refine lv_iload_n hx hb dX6_loadedArches_12 rfl (lv_at hl 1 rfl) ?_
      refine lv_aload_n hx hb dX6_loadedArches_13 rfl (lv_at hl 0 rfl) ?_
      refine gf_X6_9 C0 hP 0 rfl rfl dX6_loadedArches_14 ?_
      refine lv_iload_n hx hb dX6_loadedArches_17 rfl (lv_at hl 2 rfl) ?_
      obtain ⟨g_18, hg⟩ := hg
      refine k_iald C0 hP 1 rfl g_18 dX6_loadedArches_18 ?_
      refine lv_if_le (tgt := 28) hx hb dX6_loadedArches_19 (by decide) (fun c_19 => ?_) (fun c_19 => ?_)
      · have hg := hg.1 c_19
        refine lv_iconst (v := (0 : Int32)) hx hb dX6_loadedArches_28 (by decide) ?_
        exact L29 y2_4 y1_4 (0 : Int32) _ hg (lv_sub hl [0, 2] rfl)
      have hg := hg.2 c_19
      refine lv_iconst (v := (1 : Int32)) hx hb dX6_loadedArches_22 (by decide) ?_
      refine lv_iload_n hx hb dX6_loadedArches_23 rfl (lv_at hl 2 rfl) ?_
      refine lv_ishl hx hb dX6_loadedArches_24 ?_
      refine lv_goto (tgt := 29) hx hb dX6_loadedArches_25 (by decide) ?_
      exact L29 y2_4 y1_4 ((1 : Int32) <<< (y2_4 &&& 31)) _ hg (lv_sub hl [0, 2] rfl)
  unfold p_X6_loadedArches at hg
  refine lv_iconst (v := (0 : Int32)) hx hb dX6_loadedArches_0 (by decide) ?_
  refine lv_istore_n (lv' := [(1, .int (0 : Int32)), (0, .ref h)]) hx hb dX6_loadedArches_1 rfl hl (by decide) rfl (fun ls hl => ?_)
  refine lv_iconst (v := (0 : Int32)) hx hb dX6_loadedArches_2 (by decide) ?_
  refine lv_istore_n (lv' := [(2, .int (0 : Int32)), (1, .int (0 : Int32)), (0, .ref h)]) hx hb dX6_loadedArches_3 rfl hl (by decide) rfl (fun ls hl => ?_)
  exact L4 F (0 : Int32) (0 : Int32) _ hg (lv_sub hl [2, 1, 0] rfl)
theorem dX6_lowestArches_0 : decode cX6_lowestArches 0 = .ok (.iconst 0, 1) := by decide +kernel
theorem dX6_lowestArches_1 : decode cX6_lowestArches 1 = .ok (.istore_n 1, 1) := by decide +kernel
theorem dX6_lowestArches_2 : decode cX6_lowestArches 2 = .ok (.iconst 0, 1) := by decide +kernel
theorem dX6_lowestArches_3 : decode cX6_lowestArches 3 = .ok (.istore_n 2, 1) := by decide +kernel
theorem dX6_lowestArches_4 : decode cX6_lowestArches 4 = .ok (.iload_n 2, 1) := by decide +kernel
theorem dX6_lowestArches_5 : decode cX6_lowestArches 5 = .ok (.aload_n 0, 1) := by decide +kernel
theorem dX6_lowestArches_6 : decode cX6_lowestArches 6 = .ok (.getfield 34, 3) := by decide +kernel
theorem dX6_lowestArches_9 : decode cX6_lowestArches 9 = .ok (.if_icmp .ge 30, 3) := by decide +kernel
theorem dX6_lowestArches_12 : decode cX6_lowestArches 12 = .ok (.iload_n 1, 1) := by decide +kernel
theorem dX6_lowestArches_13 : decode cX6_lowestArches 13 = .ok (.aload_n 0, 1) := by decide +kernel
theorem dX6_lowestArches_14 : decode cX6_lowestArches 14 = .ok (.getfield 15, 3) := by decide +kernel
theorem dX6_lowestArches_17 : decode cX6_lowestArches 17 = .ok (.iload_n 2, 1) := by decide +kernel
theorem dX6_lowestArches_18 : decode cX6_lowestArches 18 = .ok (.iaload, 1) := by decide +kernel
theorem dX6_lowestArches_19 : decode cX6_lowestArches 19 = .ok (.bipush 9, 2) := by decide +kernel
theorem dX6_lowestArches_21 : decode cX6_lowestArches 21 = .ok (.if_icmp .ne 9, 3) := by decide +kernel
theorem dX6_lowestArches_24 : decode cX6_lowestArches 24 = .ok (.iconst 1, 1) := by decide +kernel
theorem dX6_lowestArches_25 : decode cX6_lowestArches 25 = .ok (.iload_n 2, 1) := by decide +kernel
theorem dX6_lowestArches_26 : decode cX6_lowestArches 26 = .ok (.ishl, 1) := by decide +kernel
theorem dX6_lowestArches_27 : decode cX6_lowestArches 27 = .ok (.goto 4, 3) := by decide +kernel
theorem dX6_lowestArches_30 : decode cX6_lowestArches 30 = .ok (.iconst 0, 1) := by decide +kernel
theorem dX6_lowestArches_31 : decode cX6_lowestArches 31 = .ok (.ior, 1) := by decide +kernel
theorem dX6_lowestArches_32 : decode cX6_lowestArches 32 = .ok (.istore_n 1, 1) := by decide +kernel
theorem dX6_lowestArches_33 : decode cX6_lowestArches 33 = .ok (.iinc 2 1, 3) := by decide +kernel
theorem dX6_lowestArches_36 : decode cX6_lowestArches 36 = .ok (.goto (-32), 3) := by decide +kernel
theorem dX6_lowestArches_39 : decode cX6_lowestArches 39 = .ok (.iload_n 1, 1) := by decide +kernel
theorem dX6_lowestArches_40 : decode cX6_lowestArches 40 = .ok (.ireturn, 1) := by decide +kernel
def p_X6_lowestArches_31 (F : Nat) (y2_4 : Int32) (y1_4 : Int32) (k4 : Int32 → Int32 → Prop) (Post : Int32 → Prop) (s1_31 : Int32) : Prop := (k4 (y2_4 + (1 : Int32)) (y1_4 ||| s1_31))
noncomputable def p_X6_lowestArches_4 (F : Nat) (x_arches : Int32) (f_sag : Nat → Int32) (Post : Int32 → Prop) (n : Nat) : Int32 → Int32 → Prop := Nat.rec (motive := fun _ => Int32 → Int32 → Prop) (fun _ _ => False) (fun _ k4 => fun (y2_4 : Int32) (y1_4 : Int32) => ((x_arches ≤ y2_4 → (Post y1_4)) ∧ (¬ x_arches ≤ y2_4 → (vp_in y2_4 6 ∧ ((¬ (f_sag y2_4.toNatClampNeg) = (9 : Int32) → (p_X6_lowestArches_31 F y2_4 y1_4 k4 Post (0 : Int32))) ∧ ((f_sag y2_4.toNatClampNeg) = (9 : Int32) → (p_X6_lowestArches_31 F y2_4 y1_4 k4 Post ((1 : Int32) <<< (y2_4 &&& 31))))))))) n
theorem p_X6_lowestArches_4_s (F : Nat) (x_arches : Int32) (f_sag : Nat → Int32) (Post : Int32 → Prop) (n : Nat) (y2_4 : Int32) (y1_4 : Int32) : p_X6_lowestArches_4 F x_arches f_sag Post (n + 1) y2_4 y1_4 = ((x_arches ≤ y2_4 → (Post y1_4)) ∧ (¬ x_arches ≤ y2_4 → (vp_in y2_4 6 ∧ ((¬ (f_sag y2_4.toNatClampNeg) = (9 : Int32) → (p_X6_lowestArches_31 F y2_4 y1_4 (p_X6_lowestArches_4 F x_arches f_sag Post n) Post (0 : Int32))) ∧ ((f_sag y2_4.toNatClampNeg) = (9 : Int32) → (p_X6_lowestArches_31 F y2_4 y1_4 (p_X6_lowestArches_4 F x_arches f_sag Post n) Post ((1 : Int32) <<< (y2_4 &&& 31)))))))) := rfl
def p_X6_lowestArches (F : Nat) (x_arches : Int32) (f_sag : Nat → Int32) (Post : Int32 → Prop) : Prop := (p_X6_lowestArches_4 F x_arches f_sag Post F (0 : Int32) (0 : Int32))
set_option maxHeartbeats 4000000 in
set_option maxRecDepth 100000 in
theorem c_X6_lowestArches (l : Launch) (D : va_G) (cT : Nat → ClassId) (F : Nat) (h : Nat) (w_load : Value) (q_sag : Nat) (w_joy : Value) (w_bowl : Value) (w_grief : Value) (w_place : Value) (x_arches : Int32) (x_cats : Int32) (x_store : Int32) (x_hour : Int32) (x_drops : Int32) (f_sag : Nat → Int32) (Post : Int32 → Prop) (hg : p_X6_lowestArches F x_arches f_sag Post) : MRi l D cT yX6_lowestArches cX6_lowestArches 3 (some .int) 0 0 [.ref h] [(h, oX6 w_load (.ref q_sag) w_joy w_bowl w_grief w_place (.int x_arches) (.int x_cats) (.int x_store) (.int x_hour) (.int x_drops)), (q_sag, aI cT 6 f_sag)] Post := by
  refine MRi.of (by decide) (Nat.le_of_ble_eq_true rfl) ?_
  intro p e s m below meth c hA C0 hr hP hD hS ls hl
  have hl : lv_has ls 3 [(0, .ref h)] := hl
  have hx := C0.x
  have hb := C0.b
  have hP : va_P D cls9 [(h, oX6 w_load (.ref q_sag) w_joy w_bowl w_grief w_place (.int x_arches) (.int x_cats) (.int x_store) (.int x_hour) (.int x_drops)), (q_sag, aI cT 6 f_sag)] s.heap := hP
  have hD : va_D (fun q => cT 6 ≤ q) [(h, oX6 w_load (.ref q_sag) w_joy w_bowl w_grief w_place (.int x_arches) (.int x_cats) (.int x_store) (.int x_hour) (.int x_drops)), (q_sag, aI cT 6 f_sag)] := hD
  have L4 : ∀ (n4 : Nat) (y2_4 : Int32) (y1_4 : Int32) (ls : Array Slot), p_X6_lowestArches_4 F x_arches f_sag Post n4 y2_4 y1_4 → lv_has ls 3 [(0, .ref h), (1, .int y1_4), (2, .int y2_4)] → W p l e (rmO 0 0 0 0) s m ([.ref h] : List Value).toArray below meth c s.heap [] 0 0 (MQ below (vp_Si Post) ([.ref h] : List Value).toArray s 0 0 (fun _ => False)) (F0 m 4 ls []) := by
    intro n4
    induction n4 with
    | zero =>
      intro y2_4 y1_4 ls hg hl
      exact False.elim hg
    | succ n4 ih4 =>
      have L31 : ∀ (y2_4 : Int32) (y1_4 : Int32) (s1_31 : Int32) (ls : Array Slot), p_X6_lowestArches_31 F y2_4 y1_4 (p_X6_lowestArches_4 F x_arches f_sag Post n4) Post s1_31 → lv_has ls 3 [(0, .ref h), (2, .int y2_4)] → W p l e (rmO 0 0 0 0) s m ([.ref h] : List Value).toArray below meth c s.heap [] 0 0 (MQ below (vp_Si Post) ([.ref h] : List Value).toArray s 0 0 (fun _ => False)) (F0 m 31 ls [.int s1_31, .int y1_4]) := by
        intro y2_4 y1_4 s1_31 ls hg hl
        unfold p_X6_lowestArches_31 at hg
        refine lv_ior hx hb dX6_lowestArches_31 ?_
        refine lv_istore_n (lv' := [(1, .int (y1_4 ||| s1_31)), (0, .ref h), (2, .int y2_4)]) hx hb dX6_lowestArches_32 rfl hl (by decide) rfl (fun ls hl => ?_)
        refine lv_iinc (v := (y2_4 + (1 : Int32))) (lv' := [(2, .int (y2_4 + (1 : Int32))), (1, .int (y1_4 ||| s1_31)), (0, .ref h)]) hx hb dX6_lowestArches_33 hl (k := 2) rfl rfl (by decide) rfl (fun ls hl => ?_)
        refine lv_goto (tgt := 4) hx hb dX6_lowestArches_36 (by decide) ?_
        exact ih4 (y2_4 + (1 : Int32)) (y1_4 ||| s1_31) _ hg (lv_sub hl [2, 1, 0] rfl)
      intro y2_4 y1_4 ls hg hl
      rw [p_X6_lowestArches_4_s] at hg
      refine lv_iload_n hx hb dX6_lowestArches_4 rfl (lv_at hl 2 rfl) ?_
      refine lv_aload_n hx hb dX6_lowestArches_5 rfl (lv_at hl 0 rfl) ?_
      refine gf_X6_34 C0 hP 0 rfl rfl dX6_lowestArches_6 ?_
      refine lv_icmp_ge (tgt := 39) hx hb dX6_lowestArches_9 (by decide) (fun c_9 => ?_) (fun c_9 => ?_)
      · have hg := hg.1 c_9
        refine lv_iload_n hx hb dX6_lowestArches_39 rfl (lv_at hl 1 rfl) ?_
        exact k_xiret C0 hr hg dX6_lowestArches_40
      have hg := hg.2 c_9
      refine lv_iload_n hx hb dX6_lowestArches_12 rfl (lv_at hl 1 rfl) ?_
      refine lv_aload_n hx hb dX6_lowestArches_13 rfl (lv_at hl 0 rfl) ?_
      refine gf_X6_15 C0 hP 0 rfl rfl dX6_lowestArches_14 ?_
      refine lv_iload_n hx hb dX6_lowestArches_17 rfl (lv_at hl 2 rfl) ?_
      obtain ⟨g_18, hg⟩ := hg
      refine k_iald C0 hP 1 rfl g_18 dX6_lowestArches_18 ?_
      refine lv_bipush (v := (9 : Int32)) hx hb dX6_lowestArches_19 (by decide) ?_
      refine lv_icmp_ne (tgt := 30) hx hb dX6_lowestArches_21 (by decide) (fun c_21 => ?_) (fun c_21 => ?_)
      · have hg := hg.1 c_21
        refine lv_iconst (v := (0 : Int32)) hx hb dX6_lowestArches_30 (by decide) ?_
        exact L31 y2_4 y1_4 (0 : Int32) _ hg (lv_sub hl [0, 2] rfl)
      have hg := hg.2 c_21
      refine lv_iconst (v := (1 : Int32)) hx hb dX6_lowestArches_24 (by decide) ?_
      refine lv_iload_n hx hb dX6_lowestArches_25 rfl (lv_at hl 2 rfl) ?_
      refine lv_ishl hx hb dX6_lowestArches_26 ?_
      refine lv_goto (tgt := 31) hx hb dX6_lowestArches_27 (by decide) ?_
      exact L31 y2_4 y1_4 ((1 : Int32) <<< (y2_4 &&& 31)) _ hg (lv_sub hl [0, 2] rfl)
  unfold p_X6_lowestArches at hg
  refine lv_iconst (v := (0 : Int32)) hx hb dX6_lowestArches_0 (by decide) ?_
  refine lv_istore_n (lv' := [(1, .int (0 : Int32)), (0, .ref h)]) hx hb dX6_lowestArches_1 rfl hl (by decide) rfl (fun ls hl => ?_)
  refine lv_iconst (v := (0 : Int32)) hx hb dX6_lowestArches_2 (by decide) ?_
  refine lv_istore_n (lv' := [(2, .int (0 : Int32)), (1, .int (0 : Int32)), (0, .ref h)]) hx hb dX6_lowestArches_3 rfl hl (by decide) rfl (fun ls hl => ?_)
  exact L4 F (0 : Int32) (0 : Int32) _ hg (lv_sub hl [2, 1, 0] rfl)
