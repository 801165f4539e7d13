theorem dX6_hasArch_0 : decode cX6_hasArch 0 = .ok (.iload_n 1, 1) := by decide +kernel
theorem dX6_hasArch_1 : decode cX6_hasArch 1 = .ok (.ifCond .lt 15, 3) := by decide +kernel
theorem dX6_hasArch_4 : decode cX6_hasArch 4 = .ok (.iload_n 1, 1) := by decide +kernel
theorem dX6_hasArch_5 : decode cX6_hasArch 5 = .ok (.aload_n 0, 1) := by decide +kernel
theorem dX6_hasArch_6 : decode cX6_hasArch 6 = .ok (.getfield 34, 3) := by decide +kernel
theorem dX6_hasArch_9 : decode cX6_hasArch 9 = .ok (.if_icmp .ge 7, 3) := by decide +kernel
theorem dX6_hasArch_12 : decode cX6_hasArch 12 = .ok (.iconst 1, 1) := by decide +kernel
theorem dX6_hasArch_13 : decode cX6_hasArch 13 = .ok (.goto 4, 3) := by decide +kernel
theorem dX6_hasArch_16 : decode cX6_hasArch 16 = .ok (.iconst 0, 1) := by decide +kernel
theorem dX6_hasArch_17 : decode cX6_hasArch 17 = .ok (.ireturn, 1) := by decide +kernel
def p_X6_hasArch (F : Nat) (p1 : Int32) (x_arches : Int32) (Post : Int32 → Prop) : Prop := ((p1 < 0 → (Post (0 : Int32))) ∧ (¬ p1 < 0 → ((x_arches ≤ p1 → (Post (0 : Int32))) ∧ (¬ x_arches ≤ p1 → (Post (1 : Int32))))))
set_option maxHeartbeats 4000000 in
set_option maxRecDepth 100000 in
theorem c_X6_hasArch (l : Launch) (D : va_G) (cT : Nat → ClassId) (F : Nat) (h : Nat) (p1 : Int32) (w_load : Value) (w_sag : Value) (w_joy : Value) (w_bowl : Value) (w_grief : Value) (w_place : Value) (x_arches : Int32) (x_cats : Int32) (x_store : Int32) (x_hour : Int32) (x_drops : Int32) (Post : Int32 → Prop) (hg : p_X6_hasArch F p1 x_arches Post) : MRi l D cT yX6_hasArch cX6_hasArch 2 (some .boolean) 0 0 [.ref h, .int p1] [(h, oX6 w_load w_sag w_joy w_bowl w_grief w_place (.int x_arches) (.int x_cats) (.int x_store) (.int x_hour) (.int x_drops))] Post := by
  refine MRi.of (by decide) (Nat.le_of_ble_eq_true rfl) ?_
  intro p e s m below meth c C0 hr hP hD ls hl
  have hl : lv_has ls 2 [(0, .ref h), (1, .int p1)] := hl
  have hx := C0.x
  have hb := C0.b
  have hP : va_P D cls9 [(h, oX6 w_load w_sag w_joy w_bowl w_grief w_place (.int x_arches) (.int x_cats) (.int x_store) (.int x_hour) (.int x_drops))] s.heap := hP
  have hD : va_D (fun _ => True) [(h, oX6 w_load w_sag w_joy w_bowl w_grief w_place (.int x_arches) (.int x_cats) (.int x_store) (.int x_hour) (.int x_drops))] := hD
  unfold p_X6_hasArch at hg
  refine lv_iload_n hx hb dX6_hasArch_0 rfl (lv_at hl 1 rfl) ?_
  refine lv_if_lt (tgt := 16) hx hb dX6_hasArch_1 (by decide) (fun c_1 => ?_) (fun c_1 => ?_)
  · have hg := hg.1 c_1
    refine lv_iconst (v := (0 : Int32)) hx hb dX6_hasArch_16 (by decide) ?_
    exact k_xzret C0 hr (Or.inl rfl) hg dX6_hasArch_17
  have hg := hg.2 c_1
  refine lv_iload_n hx hb dX6_hasArch_4 rfl (lv_at hl 1 rfl) ?_
  refine lv_aload_n hx hb dX6_hasArch_5 rfl (lv_at hl 0 rfl) ?_
  refine gf_X6_34 C0 hP 0 rfl rfl dX6_hasArch_6 ?_
  refine lv_icmp_ge (tgt := 16) hx hb dX6_hasArch_9 (by decide) (fun c_9 => ?_) (fun c_9 => ?_)
  · have hg := hg.1 c_9
    refine lv_iconst (v := (0 : Int32)) hx hb dX6_hasArch_16 (by decide) ?_
    exact k_xzret C0 hr (Or.inl rfl) hg dX6_hasArch_17
  have hg := hg.2 c_9
  refine lv_iconst (v := (1 : Int32)) hx hb dX6_hasArch_12 (by decide) ?_
  refine lv_goto (tgt := 17) hx hb dX6_hasArch_13 (by decide) ?_
  exact k_xzret C0 hr (Or.inr rfl) hg dX6_hasArch_17
theorem dX6_hasCat_0 : decode cX6_hasCat 0 = .ok (.iload_n 1, 1) := by decide +kernel
theorem dX6_hasCat_1 : decode cX6_hasCat 1 = .ok (.ifCond .lt 15, 3) := by decide +kernel
theorem dX6_hasCat_4 : decode cX6_hasCat 4 = .ok (.iload_n 1, 1) := by decide +kernel
theorem dX6_hasCat_5 : decode cX6_hasCat 5 = .ok (.aload_n 0, 1) := by decide +kernel
theorem dX6_hasCat_6 : decode cX6_hasCat 6 = .ok (.getfield 37, 3) := by decide +kernel
theorem dX6_hasCat_9 : decode cX6_hasCat 9 = .ok (.if_icmp .ge 7, 3) := by decide +kernel
theorem dX6_hasCat_12 : decode cX6_hasCat 12 = .ok (.iconst 1, 1) := by decide +kernel
theorem dX6_hasCat_13 : decode cX6_hasCat 13 = .ok (.goto 4, 3) := by decide +kernel
theorem dX6_hasCat_16 : decode cX6_hasCat 16 = .ok (.iconst 0, 1) := by decide +kernel
theorem dX6_hasCat_17 : decode cX6_hasCat 17 = .ok (.ireturn, 1) := by decide +kernel
def p_X6_hasCat (F : Nat) (p1 : Int32) (x_cats : Int32) (Post : Int32 → Prop) : Prop := ((p1 < 0 → (Post (0 : Int32))) ∧ (¬ p1 < 0 → ((x_cats ≤ p1 → (Post (0 : Int32))) ∧ (¬ x_cats ≤ p1 → (Post (1 : Int32))))))
set_option maxHeartbeats 4000000 in
set_option maxRecDepth 100000 in
theorem c_X6_hasCat (l : Launch) (D : va_G) (cT : Nat → ClassId) (F : Nat) (h : Nat) (p1 : Int32) (w_load : Value) (w_sag : Value) (w_joy : Value) (w_bowl : Value) (w_grief : Value) (w_place : Value) (x_arches : Int32) (x_cats : Int32) (x_store : Int32) (x_hour : Int32) (x_drops : Int32) (Post : Int32 → Prop) (hg : p_X6_hasCat F p1 x_cats Post) : MRi l D cT yX6_hasCat cX6_hasCat 2 (some .boolean) 0 0 [.ref h, .int p1] [(h, oX6 w_load w_sag w_joy w_bowl w_grief w_place (.int x_arches) (.int x_cats) (.int x_store) (.int x_hour) (.int x_drops))] Post := by
  refine MRi.of (by decide) (Nat.le_of_ble_eq_true rfl) ?_
  intro p e s m below meth c C0 hr hP hD ls hl
  have hl : lv_has ls 2 [(0, .ref h), (1, .int p1)] := hl
  have hx := C0.x
  have hb := C0.b
  have hP : va_P D cls9 [(h, oX6 w_load w_sag w_joy w_bowl w_grief w_place (.int x_arches) (.int x_cats) (.int x_store) (.int x_hour) (.int x_drops))] s.heap := hP
  have hD : va_D (fun _ => True) [(h, oX6 w_load w_sag w_joy w_bowl w_grief w_place (.int x_arches) (.int x_cats) (.int x_store) (.int x_hour) (.int x_drops))] := hD
  unfold p_X6_hasCat at hg
  refine lv_iload_n hx hb dX6_hasCat_0 rfl (lv_at hl 1 rfl) ?_
  refine lv_if_lt (tgt := 16) hx hb dX6_hasCat_1 (by decide) (fun c_1 => ?_) (fun c_1 => ?_)
  · have hg := hg.1 c_1
    refine lv_iconst (v := (0 : Int32)) hx hb dX6_hasCat_16 (by decide) ?_
    exact k_xzret C0 hr (Or.inl rfl) hg dX6_hasCat_17
  have hg := hg.2 c_1
  refine lv_iload_n hx hb dX6_hasCat_4 rfl (lv_at hl 1 rfl) ?_
  refine lv_aload_n hx hb dX6_hasCat_5 rfl (lv_at hl 0 rfl) ?_
  refine gf_X6_37 C0 hP 0 rfl rfl dX6_hasCat_6 ?_
  refine lv_icmp_ge (tgt := 16) hx hb dX6_hasCat_9 (by decide) (fun c_9 => ?_) (fun c_9 => ?_)
  · have hg := hg.1 c_9
    refine lv_iconst (v := (0 : Int32)) hx hb dX6_hasCat_16 (by decide) ?_
    exact k_xzret C0 hr (Or.inl rfl) hg dX6_hasCat_17
  have hg := hg.2 c_9
  refine lv_iconst (v := (1 : Int32)) hx hb dX6_hasCat_12 (by decide) ?_
  refine lv_goto (tgt := 17) hx hb dX6_hasCat_13 (by decide) ?_
  exact k_xzret C0 hr (Or.inr rfl) hg dX6_hasCat_17
theorem dX6_catsIn_0 : decode cX6_catsIn 0 = .ok (.iconst 0, 1) := by decide +kernel
theorem dX6_catsIn_1 : decode cX6_catsIn 1 = .ok (.istore_n 2, 1) := by decide +kernel
theorem dX6_catsIn_2 : decode cX6_catsIn 2 = .ok (.iconst 0, 1) := by decide +kernel
theorem dX6_catsIn_3 : decode cX6_catsIn 3 = .ok (.istore_n 3, 1) := by decide +kernel
theorem dX6_catsIn_4 : decode cX6_catsIn 4 = .ok (.iload_n 3, 1) := by decide +kernel
theorem dX6_catsIn_5 : decode cX6_catsIn 5 = .ok (.aload_n 0, 1) := by decide +kernel
theorem dX6_catsIn_6 : decode cX6_catsIn 6 = .ok (.getfield 37, 3) := by decide +kernel
theorem dX6_catsIn_9 : decode cX6_catsIn 9 = .ok (.if_icmp .ge 29, 3) := by decide +kernel
theorem dX6_catsIn_12 : decode cX6_catsIn 12 = .ok (.iload_n 2, 1) := by decide +kernel
theorem dX6_catsIn_13 : decode cX6_catsIn 13 = .ok (.aload_n 0, 1) := by decide +kernel
theorem dX6_catsIn_14 : decode cX6_catsIn 14 = .ok (.getfield 27, 3) := by decide +kernel
theorem dX6_catsIn_17 : decode cX6_catsIn 17 = .ok (.iload_n 3, 1) := by decide +kernel
theorem dX6_catsIn_18 : decode cX6_catsIn 18 = .ok (.iaload, 1) := by decide +kernel
theorem dX6_catsIn_19 : decode cX6_catsIn 19 = .ok (.iload_n 1, 1) := by decide +kernel
theorem dX6_catsIn_20 : decode cX6_catsIn 20 = .ok (.if_icmp .ne 9, 3) := by decide +kernel
theorem dX6_catsIn_23 : decode cX6_catsIn 23 = .ok (.iconst 1, 1) := by decide +kernel
theorem dX6_catsIn_24 : decode cX6_catsIn 24 = .ok (.iload_n 3, 1) := by decide +kernel
theorem dX6_catsIn_25 : decode cX6_catsIn 25 = .ok (.ishl, 1) := by decide +kernel
theorem dX6_catsIn_26 : decode cX6_catsIn 26 = .ok (.goto 4, 3) := by decide +kernel
theorem dX6_catsIn_29 : decode cX6_catsIn 29 = .ok (.iconst 0, 1) := by decide +kernel
theorem dX6_catsIn_30 : decode cX6_catsIn 30 = .ok (.ior, 1) := by decide +kernel
theorem dX6_catsIn_31 : decode cX6_catsIn 31 = .ok (.istore_n 2, 1) := by decide +kernel
theorem dX6_catsIn_32 : decode cX6_catsIn 32 = .ok (.iinc 3 1, 3) := by decide +kernel
theorem dX6_catsIn_35 : decode cX6_catsIn 35 = .ok (.goto (-31), 3) := by decide +kernel
theorem dX6_catsIn_38 : decode cX6_catsIn 38 = .ok (.iload_n 2, 1) := by decide +kernel
theorem dX6_catsIn_39 : decode cX6_catsIn 39 = .ok (.ireturn, 1) := by decide +kernel
def p_X6_catsIn_30 (F : Nat) (y3_4 : Int32) (y2_4 : Int32) (k4 : Int32 → Int32 → Prop) (Post : Int32 → Prop) (s1_30 : Int32) : Prop := (k4 (y3_4 + (1 : Int32)) (y2_4 ||| s1_30))
noncomputable def p_X6_catsIn_4 (F : Nat) (p1 : Int32) (x_cats : Int32) (f_place : Nat → Int32) (Post : Int32 → Prop) (n : Nat) : Int32 → Int32 → Prop := Nat.rec (motive := fun _ => Int32 → Int32 → Prop) (fun _ _ => False) (fun _ k4 => fun (y3_4 : Int32) (y2_4 : Int32) => ((x_cats ≤ y3_4 → (Post y2_4)) ∧ (¬ x_cats ≤ y3_4 → (vp_in y3_4 8 ∧ ((¬ (f_place y3_4.toNatClampNeg) = p1 → (p_X6_catsIn_30 F y3_4 y2_4 k4 Post (0 : Int32))) ∧ ((f_place y3_4.toNatClampNeg) = p1 → (p_X6_catsIn_30 F y3_4 y2_4 k4 Post ((1 : Int32) <<< (y3_4 &&& 31))))))))) n
theorem p_X6_catsIn_4_s (F : Nat) (p1 : Int32) (x_cats : Int32) (f_place : Nat → Int32) (Post : Int32 → Prop) (n : Nat) (y3_4 : Int32) (y2_4 : Int32) : p_X6_catsIn_4 F p1 x_cats f_place Post (n + 1) y3_4 y2_4 = ((x_cats ≤ y3_4 → (Post y2_4)) ∧ (¬ x_cats ≤ y3_4 → (vp_in y3_4 8 ∧ ((¬ (f_place y3_4.toNatClampNeg) = p1 → (p_X6_catsIn_30 F y3_4 y2_4 (p_X6_catsIn_4 F p1 x_cats f_place Post n) Post (0 : Int32))) ∧ ((f_place y3_4.toNatClampNeg) = p1 → (p_X6_catsIn_30 F y3_4 y2_4 (p_X6_catsIn_4 F p1 x_cats f_place Post n) Post ((1 : Int32) <<< (y3_4 &&& 31)))))))) := rfl
def p_X6_catsIn (F : Nat) (p1 : Int32) (x_cats : Int32) (f_place : Nat → Int32) (Post : Int32 → Prop) : Prop := (p_X6_catsIn_4 F p1 x_cats f_place Post F (0 : Int32) (0 : Int32))
set_option maxHeartbeats 4000000 in
set_option maxRecDepth 100000 in
theorem c_X6_catsIn (l : Launch) (D : va_G) (cT : Nat → ClassId) (F : Nat) (h : Nat) (p1 : Int32) (w_load : Value) (w_sag : Value) (w_joy : Value) (w_bowl : Value) (w_grief : Value) (q_place : Nat) (x_arches : Int32) (x_cats : Int32) (x_store : Int32) (x_hour : Int32) (x_drops : Int32) (f_place : Nat → Int32) (Post : Int32 → Prop) (hg : p_X6_catsIn F p1 x_cats f_place Post) : MRi l D cT yX6_catsIn cX6_catsIn 4 (some .int) 0 0 [.ref h, .int p1] [(h, oX6 w_load w_sag w_joy w_bowl w_grief (.ref q_place) (.int x_arches) (.int x_cats) (.int x_store) (.int x_hour) (.int x_drops)), (q_place, aI cT 8 f_place)] Post := by
  refine MRi.of (by decide) (Nat.le_of_ble_eq_true rfl) ?_
  intro p e s m below meth c C0 hr hP hD ls hl
  have hl : lv_has ls 4 [(0, .ref h), (1, .int p1)] := hl
  have hx := C0.x
  have hb := C0.b
  have hP : va_P D cls9 [(h, oX6 w_load w_sag w_joy w_bowl w_grief (.ref q_place) (.int x_arches) (.int x_cats) (.int x_store) (.int x_hour) (.int x_drops)), (q_place, aI cT 8 f_place)] s.heap := hP
  have hD : va_D (fun _ => True) [(h, oX6 w_load w_sag w_joy w_bowl w_grief (.ref q_place) (.int x_arches) (.int x_cats) (.int x_store) (.int x_hour) (.int x_drops)), (q_place, aI cT 8 f_place)] := hD
  have L4 : ∀ (n4 : Nat) (y3_4 : Int32) (y2_4 : Int32) (ls : Array Slot), p_X6_catsIn_4 F p1 x_cats f_place Post n4 y3_4 y2_4 → lv_has ls 4 [(0, .ref h), (1, .int p1), (2, .int y2_4), (3, .int y3_4)] → W p l e (rmO 0 0 0 0) s m ([.ref h, .int p1] : List Value).toArray below meth c s.heap [] 0 0 (MQ below (vp_Si Post) ([.ref h, .int p1] : List Value).toArray s 0 0 (fun _ => False)) (F0 m 4 ls []) := by
    intro n4
    induction n4 with
    | zero =>
      intro y3_4 y2_4 ls hg hl
      exact False.elim hg
    | succ n4 ih4 =>
      have L30 : ∀ (y3_4 : Int32) (y2_4 : Int32) (s1_30 : Int32) (ls : Array Slot), p_X6_catsIn_30 F y3_4 y2_4 (p_X6_catsIn_4 F p1 x_cats f_place Post n4) Post s1_30 → lv_has ls 4 [(0, .ref h), (1, .int p1), (3, .int y3_4)] → W p l e (rmO 0 0 0 0) s m ([.ref h, .int p1] : List Value).toArray below meth c s.heap [] 0 0 (MQ below (vp_Si Post) ([.ref h, .int p1] : List Value).toArray s 0 0 (fun _ => False)) (F0 m 30 ls [.int s1_30, .int y2_4]) := by
        intro y3_4 y2_4 s1_30 ls hg hl
        unfold p_X6_catsIn_30 at hg
        refine lv_ior hx hb dX6_catsIn_30 ?_
        refine lv_istore_n (lv' := [(2, .int (y2_4 ||| s1_30)), (0, .ref h), (1, .int p1), (3, .int y3_4)]) hx hb dX6_catsIn_31 rfl hl (by decide) rfl (fun ls hl => ?_)
        refine lv_iinc (v := (y3_4 + (1 : Int32))) (lv' := [(3, .int (y3_4 + (1 : Int32))), (2, .int (y2_4 ||| s1_30)), (0, .ref h), (1, .int p1)]) hx hb dX6_catsIn_32 hl (k := 3) rfl rfl (by decide) rfl (fun ls hl => ?_)
        refine lv_goto (tgt := 4) hx hb dX6_catsIn_35 (by decide) ?_
        exact ih4 (y3_4 + (1 : Int32)) (y2_4 ||| s1_30) _ hg (lv_sub hl [2, 3, 1, 0] rfl)
      intro y3_4 y2_4 ls hg hl
      rw [p_X6_catsIn_4_s] at hg
      refine lv_iload_n hx hb dX6_catsIn_4 rfl (lv_at hl 3 rfl) ?_
      refine lv_aload_n hx hb dX6_catsIn_5 rfl (lv_at hl 0 rfl) ?_
      refine gf_X6_37 C0 hP 0 rfl rfl dX6_catsIn_6 ?_
      refine lv_icmp_ge (tgt := 38) hx hb dX6_catsIn_9 (by decide) (fun c_9 => ?_) (fun c_9 => ?_)
      · have hg := hg.1 c_9
        refine lv_iload_n hx hb dX6_catsIn_38 rfl (lv_at hl 2 rfl) ?_
        exact k_xiret C0 hr hg dX6_catsIn_39
      have hg := hg.2 c_9
      refine lv_iload_n hx hb dX6_catsIn_12 rfl (lv_at hl 2 rfl) ?_
      refine lv_aload_n hx hb dX6_catsIn_13 rfl (lv_at hl 0 rfl) ?_
      refine gf_X6_27 C0 hP 0 rfl rfl dX6_catsIn_14 ?_
      refine lv_iload_n hx hb dX6_catsIn_17 rfl (lv_at hl 3 rfl) ?_
      obtain ⟨g_18, hg⟩ := hg
      refine k_iald C0 hP 1 rfl g_18 dX6_catsIn_18 ?_
      refine lv_iload_n hx hb dX6_catsIn_19 rfl (lv_at hl 1 rfl) ?_
      refine lv_icmp_ne (tgt := 29) hx hb dX6_catsIn_20 (by decide) (fun c_20 => ?_) (fun c_20 => ?_)
      · have hg := hg.1 c_20
        refine lv_iconst (v := (0 : Int32)) hx hb dX6_catsIn_29 (by decide) ?_
        exact L30 y3_4 y2_4 (0 : Int32) _ hg (lv_sub hl [0, 1, 3] rfl)
      have hg := hg.2 c_20
      refine lv_iconst (v := (1 : Int32)) hx hb dX6_catsIn_23 (by decide) ?_
      refine lv_iload_n hx hb dX6_catsIn_24 rfl (lv_at hl 3 rfl) ?_
      refine lv_ishl hx hb dX6_catsIn_25 ?_
      refine lv_goto (tgt := 30) hx hb dX6_catsIn_26 (by decide) ?_
      exact L30 y3_4 y2_4 ((1 : Int32) <<< (y3_4 &&& 31)) _ hg (lv_sub hl [0, 1, 3] rfl)
  unfold p_X6_catsIn at hg
  refine lv_iconst (v := (0 : Int32)) hx hb dX6_catsIn_0 (by decide) ?_
  refine lv_istore_n (lv' := [(2, .int (0 : Int32)), (0, .ref h), (1, .int p1)]) hx hb dX6_catsIn_1 rfl hl (by decide) rfl (fun ls hl => ?_)
  refine lv_iconst (v := (0 : Int32)) hx hb dX6_catsIn_2 (by decide) ?_
  refine lv_istore_n (lv' := [(3, .int (0 : Int32)), (2, .int (0 : Int32)), (0, .ref h), (1, .int p1)]) hx hb dX6_catsIn_3 rfl hl (by decide) rfl (fun ls hl => ?_)
  exact L4 F (0 : Int32) (0 : Int32) _ hg (lv_sub hl [2, 3, 1, 0] rfl)
theorem dX6_feed_0 : decode cX6_feed 0 = .ok (.aload_n 0, 1) := by decide +kernel
theorem dX6_feed_1 : decode cX6_feed 1 = .ok (.iload_n 1, 1) := by decide +kernel
theorem dX6_feed_2 : decode cX6_feed 2 = .ok (.invokevirtual 52, 3) := by decide +kernel
theorem dX6_feed_5 : decode cX6_feed 5 = .ok (.ifCond .eq 14, 3) := by decide +kernel
theorem dX6_feed_8 : decode cX6_feed 8 = .ok (.iload_n 2, 1) := by decide +kernel
theorem dX6_feed_9 : decode cX6_feed 9 = .ok (.iconst 1, 1) := by decide +kernel
theorem dX6_feed_10 : decode cX6_feed 10 = .ok (.if_icmp .lt 9, 3) := by decide +kernel
theorem dX6_feed_13 : decode cX6_feed 13 = .ok (.iload_n 2, 1) := by decide +kernel
theorem dX6_feed_14 : decode cX6_feed 14 = .ok (.bipush 9, 2) := by decide +kernel
theorem dX6_feed_16 : decode cX6_feed 16 = .ok (.if_icmp .le 5, 3) := by decide +kernel
theorem dX6_feed_19 : decode cX6_feed 19 = .ok (.iconst (-1), 1) := by decide +kernel
theorem dX6_feed_20 : decode cX6_feed 20 = .ok (.ireturn, 1) := by decide +kernel
theorem dX6_feed_21 : decode cX6_feed 21 = .ok (.aload_n 0, 1) := by decide +kernel
theorem dX6_feed_22 : decode cX6_feed 22 = .ok (.getfield 30, 3) := by decide +kernel
theorem dX6_feed_25 : decode cX6_feed 25 = .ok (.iload_n 2, 1) := by decide +kernel
theorem dX6_feed_26 : decode cX6_feed 26 = .ok (.if_icmp .ge 6, 3) := by decide +kernel
theorem dX6_feed_29 : decode cX6_feed 29 = .ok (.bipush (-2), 2) := by decide +kernel
theorem dX6_feed_31 : decode cX6_feed 31 = .ok (.ireturn, 1) := by decide +kernel
theorem dX6_feed_32 : decode cX6_feed 32 = .ok (.aload_n 0, 1) := by decide +kernel
theorem dX6_feed_33 : decode cX6_feed 33 = .ok (.getfield 21, 3) := by decide +kernel
theorem dX6_feed_36 : decode cX6_feed 36 = .ok (.iload_n 1, 1) := by decide +kernel
theorem dX6_feed_37 : decode cX6_feed 37 = .ok (.iaload, 1) := by decide +kernel
theorem dX6_feed_38 : decode cX6_feed 38 = .ok (.iload_n 2, 1) := by decide +kernel
theorem dX6_feed_39 : decode cX6_feed 39 = .ok (.iadd, 1) := by decide +kernel
theorem dX6_feed_40 : decode cX6_feed 40 = .ok (.bipush 9, 2) := by decide +kernel
theorem dX6_feed_42 : decode cX6_feed 42 = .ok (.if_icmp .le 6, 3) := by decide +kernel
theorem dX6_feed_45 : decode cX6_feed 45 = .ok (.bipush (-3), 2) := by decide +kernel
theorem dX6_feed_47 : decode cX6_feed 47 = .ok (.ireturn, 1) := by decide +kernel
theorem dX6_feed_48 : decode cX6_feed 48 = .ok (.aload_n 0, 1) := by decide +kernel
theorem dX6_feed_49 : decode cX6_feed 49 = .ok (.dup, 1) := by decide +kernel
theorem dX6_feed_50 : decode cX6_feed 50 = .ok (.getfield 30, 3) := by decide +kernel
theorem dX6_feed_53 : decode cX6_feed 53 = .ok (.iload_n 2, 1) := by decide +kernel
theorem dX6_feed_54 : decode cX6_feed 54 = .ok (.isub, 1) := by decide +kernel
theorem dX6_feed_55 : decode cX6_feed 55 = .ok (.putfield 30, 3) := by decide +kernel
theorem dX6_feed_58 : decode cX6_feed 58 = .ok (.aload_n 0, 1) := by decide +kernel
theorem dX6_feed_59 : decode cX6_feed 59 = .ok (.getfield 21, 3) := by decide +kernel
theorem dX6_feed_62 : decode cX6_feed 62 = .ok (.iload_n 1, 1) := by decide +kernel
theorem dX6_feed_63 : decode cX6_feed 63 = .ok (.dup2, 1) := by decide +kernel
theorem dX6_feed_64 : decode cX6_feed 64 = .ok (.iaload, 1) := by decide +kernel
theorem dX6_feed_65 : decode cX6_feed 65 = .ok (.iload_n 2, 1) := by decide +kernel
theorem dX6_feed_66 : decode cX6_feed 66 = .ok (.iadd, 1) := by decide +kernel
theorem dX6_feed_67 : decode cX6_feed 67 = .ok (.iastore, 1) := by decide +kernel
theorem dX6_feed_68 : decode cX6_feed 68 = .ok (.aload_n 0, 1) := by decide +kernel
theorem dX6_feed_69 : decode cX6_feed 69 = .ok (.getfield 21, 3) := by decide +kernel
theorem dX6_feed_72 : decode cX6_feed 72 = .ok (.iload_n 1, 1) := by decide +kernel
theorem dX6_feed_73 : decode cX6_feed 73 = .ok (.iaload, 1) := by decide +kernel
theorem dX6_feed_74 : decode cX6_feed 74 = .ok (.ireturn, 1) := by decide +kernel
def p_X6_feed (F : Nat) (p1 : Int32) (p2 : Int32) (x_cats : Int32) (x_store : Int32) (f_bowl : Nat → Int32) (Post : Int32 → (Int32 × (Nat → Int32)) → Prop) : Prop := (p_X6_hasCat F p1 x_cats (fun (r_2 : Int32) => ((r_2 = 0 → (Post (-1 : Int32) (x_store, f_bowl))) ∧ (¬ r_2 = 0 → ((p2 < (1 : Int32) → (Post (-1 : Int32) (x_store, f_bowl))) ∧ (¬ p2 < (1 : Int32) → ((p2 ≤ (9 : Int32) → ((p2 ≤ x_store → (vp_in p1 8 ∧ ((((f_bowl p1.toNatClampNeg) + p2) ≤ (9 : Int32) → (vp_in p1 8 ∧ (vp_in p1 8 ∧ (vp_in p1 8 ∧ (Post ((upd f_bowl p1.toNatClampNeg ((f_bowl p1.toNatClampNeg) + p2)) p1.toNatClampNeg) ((x_store - p2), (upd f_bowl p1.toNatClampNeg ((f_bowl p1.toNatClampNeg) + p2)))))))) ∧ (¬ ((f_bowl p1.toNatClampNeg) + p2) ≤ (9 : Int32) → (Post (-3 : Int32) (x_store, f_bowl)))))) ∧ (¬ p2 ≤ x_store → (Post (-2 : Int32) (x_store, f_bowl))))) ∧ (¬ p2 ≤ (9 : Int32) → (Post (-1 : Int32) (x_store, f_bowl))))))))))
set_option maxHeartbeats 4000000 in
set_option maxRecDepth 100000 in
theorem c_X6_feed (l : Launch) (D : va_G) (cT : Nat → ClassId) (F : Nat) (h : Nat) (p1 : Int32) (p2 : Int32) (w_load : Value) (w_sag : Value) (w_joy : Value) (q_bowl : Nat) (w_grief : Value) (w_place : Value) (x_arches : Int32) (x_cats : Int32) (x_store : Int32) (x_hour : Int32) (x_drops : Int32) (f_bowl : Nat → Int32) (Post : Int32 → (Int32 × (Nat → Int32)) → Prop) (hg : p_X6_feed F p1 p2 x_cats x_store f_bowl Post) : MWi l D cT yX6_feed cX6_feed 3 (some .int) 1 21 0 0 [.ref h, .int p1, .int p2] [(h, oX6 w_load w_sag w_joy (.ref q_bowl) w_grief w_place (.int x_arches) (.int x_cats) (.int x_store) (.int x_hour) (.int x_drops)), (q_bowl, aI cT 8 f_bowl)] Post (fun (u : (Int32 × (Nat → Int32))) => [(h, oX6 w_load w_sag w_joy (.ref q_bowl) w_grief w_place (.int x_arches) (.int x_cats) (.int u.1) (.int x_hour) (.int x_drops)), (q_bowl, aI cT 8 u.2)]) := by
  refine MWi.of (by decide) (Nat.le_of_ble_eq_true rfl) ?_
  intro p e s m below meth c A hA C0 hnm hr hP hD ls hl
  have hl : lv_has ls 3 [(0, .ref h), (1, .int p1), (2, .int p2)] := hl
  have hx := C0.x
  have hb := C0.b
  have hS : va_S A s.heap s.heap [] := va_S.rf
  have hP : va_P D cls9 [(h, oX6 w_load w_sag w_joy (.ref q_bowl) w_grief w_place (.int x_arches) (.int x_cats) (.int x_store) (.int x_hour) (.int x_drops)), (q_bowl, aI cT 8 f_bowl)] s.heap := hP
  have hD : va_D A [(h, oX6 w_load w_sag w_joy (.ref q_bowl) w_grief w_place (.int x_arches) (.int x_cats) (.int x_store) (.int x_hour) (.int x_drops)), (q_bowl, aI cT 8 f_bowl)] := hD
  unfold p_X6_feed at hg
  refine lv_aload_n hx hb dX6_feed_0 rfl (lv_at hl 0 rfl) ?_
  refine lv_iload_n hx hb dX6_feed_1 rfl (lv_at hl 1 rfl) ?_
  refine k_ri (k_runV (rest := []) C0 lk_X6_52 ((c_X6_hasCat l D cT F h p1 w_load w_sag w_joy (.ref q_bowl) w_grief w_place x_arches x_cats x_store x_hour x_drops _ hg) _) hP hD [0] rfl rfl rfl rfl ⟨Nat.le_of_ble_eq_true rfl, Nat.le_of_ble_eq_true rfl⟩ rfl hl.1 rfl (Nat.le_of_ble_eq_true rfl) dX6_feed_2 ⟨Nat.le_of_ble_eq_true rfl, Nat.le_of_ble_eq_true rfl⟩) (fun r_2 hg => ?_)
  refine lv_if_eq (tgt := 19) hx hb dX6_feed_5 (by decide) (fun c_5 => ?_) (fun c_5 => ?_)
  · have hg := hg.1 c_5
    refine lv_iconst (v := (-1 : Int32)) hx hb dX6_feed_19 (by decide) ?_
    exact k_iret C0 hr (x_store, f_bowl) hg hP hD hS dX6_feed_20
  have hg := hg.2 c_5
  refine lv_iload_n hx hb dX6_feed_8 rfl (lv_at hl 2 rfl) ?_
  refine lv_iconst (v := (1 : Int32)) hx hb dX6_feed_9 (by decide) ?_
  refine lv_icmp_lt (tgt := 19) hx hb dX6_feed_10 (by decide) (fun c_10 => ?_) (fun c_10 => ?_)
  · have hg := hg.1 c_10
    refine lv_iconst (v := (-1 : Int32)) hx hb dX6_feed_19 (by decide) ?_
    exact k_iret C0 hr (x_store, f_bowl) hg hP hD hS dX6_feed_20
  have hg := hg.2 c_10
  refine lv_iload_n hx hb dX6_feed_13 rfl (lv_at hl 2 rfl) ?_
  refine lv_bipush (v := (9 : Int32)) hx hb dX6_feed_14 (by decide) ?_
  refine lv_icmp_le (tgt := 21) hx hb dX6_feed_16 (by decide) (fun c_16 => ?_) (fun c_16 => ?_)
  · have hg := hg.1 c_16
    refine lv_aload_n hx hb dX6_feed_21 rfl (lv_at hl 0 rfl) ?_
    refine gf_X6_30 C0 hP 0 rfl rfl dX6_feed_22 ?_
    refine lv_iload_n hx hb dX6_feed_25 rfl (lv_at hl 2 rfl) ?_
    refine lv_icmp_ge (tgt := 32) hx hb dX6_feed_26 (by decide) (fun c_26 => ?_) (fun c_26 => ?_)
    · have hg := hg.1 c_26
      refine lv_aload_n hx hb dX6_feed_32 rfl (lv_at hl 0 rfl) ?_
      refine gf_X6_21 C0 hP 0 rfl rfl dX6_feed_33 ?_
      refine lv_iload_n hx hb dX6_feed_36 rfl (lv_at hl 1 rfl) ?_
      obtain ⟨g_37, hg⟩ := hg
      refine k_iald C0 hP 1 rfl g_37 dX6_feed_37 ?_
      refine lv_iload_n hx hb dX6_feed_38 rfl (lv_at hl 2 rfl) ?_
      refine lv_iadd hx hb dX6_feed_39 ?_
      refine lv_bipush (v := (9 : Int32)) hx hb dX6_feed_40 (by decide) ?_
      refine lv_icmp_le (tgt := 48) hx hb dX6_feed_42 (by decide) (fun c_42 => ?_) (fun c_42 => ?_)
      · have hg := hg.1 c_42
        refine lv_aload_n hx hb dX6_feed_48 rfl (lv_at hl 0 rfl) ?_
        refine lv_dup hx hb dX6_feed_49 rfl ?_
        refine gf_X6_30 C0 hP 0 rfl rfl dX6_feed_50 ?_
        refine lv_iload_n hx hb dX6_feed_53 rfl (lv_at hl 2 rfl) ?_
        refine lv_isub hx hb dX6_feed_54 ?_
        refine pf_X6_30 C0 hP hD hS 0 rfl (Nat.le_of_ble_eq_true rfl) (ws2 := [(h, oX6 w_load w_sag w_joy (.ref q_bowl) w_grief w_place (.int x_arches) (.int x_cats) (.int (x_store - p2)) (.int x_hour) (.int x_drops)), (q_bowl, aI cT 8 f_bowl)]) rfl dX6_feed_55 (fun H locs hP hD hS => ?_)
        refine lv_aload_n hx hb dX6_feed_58 rfl (lv_at hl 0 rfl) ?_
        refine gf_X6_21 C0 hP 0 rfl rfl dX6_feed_59 ?_
        refine lv_iload_n hx hb dX6_feed_62 rfl (lv_at hl 1 rfl) ?_
        refine lv_dup2_11 hx hb dX6_feed_63 rfl rfl ?_
        obtain ⟨g_64, hg⟩ := hg
        refine k_iald C0 hP 1 rfl g_64 dX6_feed_64 ?_
        refine lv_iload_n hx hb dX6_feed_65 rfl (lv_at hl 2 rfl) ?_
        refine lv_iadd hx hb dX6_feed_66 ?_
        obtain ⟨g_67, hg⟩ := hg
        refine k_iast C0 hP hD hS 1 rfl g_67 (ws' := [(h, oX6 w_load w_sag w_joy (.ref q_bowl) w_grief w_place (.int x_arches) (.int x_cats) (.int (x_store - p2)) (.int x_hour) (.int x_drops)), (q_bowl, aI cT 8 (upd f_bowl p1.toNatClampNeg ((f_bowl p1.toNatClampNeg) + p2)))]) rfl dX6_feed_67 (fun H locs hP hD hS => ?_)
        refine lv_aload_n hx hb dX6_feed_68 rfl (lv_at hl 0 rfl) ?_
        refine gf_X6_21 C0 hP 0 rfl rfl dX6_feed_69 ?_
        refine lv_iload_n hx hb dX6_feed_72 rfl (lv_at hl 1 rfl) ?_
        obtain ⟨g_73, hg⟩ := hg
        refine k_iald C0 hP 1 rfl g_73 dX6_feed_73 ?_
        exact k_iret C0 hr ((x_store - p2), (upd f_bowl p1.toNatClampNeg ((f_bowl p1.toNatClampNeg) + p2))) hg hP hD hS dX6_feed_74
      have hg := hg.2 c_42
      refine lv_bipush (v := (-3 : Int32)) hx hb dX6_feed_45 (by decide) ?_
      exact k_iret C0 hr (x_store, f_bowl) hg hP hD hS dX6_feed_47
    have hg := hg.2 c_26
    refine lv_bipush (v := (-2 : Int32)) hx hb dX6_feed_29 (by decide) ?_
    exact k_iret C0 hr (x_store, f_bowl) hg hP hD hS dX6_feed_31
  have hg := hg.2 c_16
  refine lv_iconst (v := (-1 : Int32)) hx hb dX6_feed_19 (by decide) ?_
  exact k_iret C0 hr (x_store, f_bowl) hg hP hD hS dX6_feed_20
