theorem dX4_joined_0 : decode cX4_joined 0 = .ok (.iload_n 0, 1) := by decide +kernel
theorem dX4_joined_1 : decode cX4_joined 1 = .ok (.lookupswitch 104 #[(42, 100), (43, 92), (45, 96), (60, 59), (61, 81), (62, 70)], 59) := by decide +kernel
theorem dX4_joined_60 : decode cX4_joined 60 = .ok (.iload_n 1, 1) := by decide +kernel
theorem dX4_joined_61 : decode cX4_joined 61 = .ok (.iload_n 2, 1) := by decide +kernel
theorem dX4_joined_62 : decode cX4_joined 62 = .ok (.if_icmp .ge 7, 3) := by decide +kernel
theorem dX4_joined_65 : decode cX4_joined 65 = .ok (.iconst 1, 1) := by decide +kernel
theorem dX4_joined_66 : decode cX4_joined 66 = .ok (.goto 4, 3) := by decide +kernel
theorem dX4_joined_69 : decode cX4_joined 69 = .ok (.iconst 0, 1) := by decide +kernel
theorem dX4_joined_70 : decode cX4_joined 70 = .ok (.ireturn, 1) := by decide +kernel
theorem dX4_joined_71 : decode cX4_joined 71 = .ok (.iload_n 1, 1) := by decide +kernel
theorem dX4_joined_72 : decode cX4_joined 72 = .ok (.iload_n 2, 1) := by decide +kernel
theorem dX4_joined_73 : decode cX4_joined 73 = .ok (.if_icmp .le 7, 3) := by decide +kernel
theorem dX4_joined_76 : decode cX4_joined 76 = .ok (.iconst 1, 1) := by decide +kernel
theorem dX4_joined_77 : decode cX4_joined 77 = .ok (.goto 4, 3) := by decide +kernel
theorem dX4_joined_80 : decode cX4_joined 80 = .ok (.iconst 0, 1) := by decide +kernel
theorem dX4_joined_81 : decode cX4_joined 81 = .ok (.ireturn, 1) := by decide +kernel
theorem dX4_joined_82 : decode cX4_joined 82 = .ok (.iload_n 1, 1) := by decide +kernel
theorem dX4_joined_83 : decode cX4_joined 83 = .ok (.iload_n 2, 1) := by decide +kernel
theorem dX4_joined_84 : decode cX4_joined 84 = .ok (.if_icmp .ne 7, 3) := by decide +kernel
theorem dX4_joined_87 : decode cX4_joined 87 = .ok (.iconst 1, 1) := by decide +kernel
theorem dX4_joined_88 : decode cX4_joined 88 = .ok (.goto 4, 3) := by decide +kernel
theorem dX4_joined_91 : decode cX4_joined 91 = .ok (.iconst 0, 1) := by decide +kernel
theorem dX4_joined_92 : decode cX4_joined 92 = .ok (.ireturn, 1) := by decide +kernel
theorem dX4_joined_93 : decode cX4_joined 93 = .ok (.iload_n 1, 1) := by decide +kernel
theorem dX4_joined_94 : decode cX4_joined 94 = .ok (.iload_n 2, 1) := by decide +kernel
theorem dX4_joined_95 : decode cX4_joined 95 = .ok (.iadd, 1) := by decide +kernel
theorem dX4_joined_96 : decode cX4_joined 96 = .ok (.ireturn, 1) := by decide +kernel
theorem dX4_joined_97 : decode cX4_joined 97 = .ok (.iload_n 1, 1) := by decide +kernel
theorem dX4_joined_98 : decode cX4_joined 98 = .ok (.iload_n 2, 1) := by decide +kernel
theorem dX4_joined_99 : decode cX4_joined 99 = .ok (.isub, 1) := by decide +kernel
theorem dX4_joined_100 : decode cX4_joined 100 = .ok (.ireturn, 1) := by decide +kernel
theorem dX4_joined_101 : decode cX4_joined 101 = .ok (.iload_n 1, 1) := by decide +kernel
theorem dX4_joined_102 : decode cX4_joined 102 = .ok (.iload_n 2, 1) := by decide +kernel
theorem dX4_joined_103 : decode cX4_joined 103 = .ok (.imul, 1) := by decide +kernel
theorem dX4_joined_104 : decode cX4_joined 104 = .ok (.ireturn, 1) := by decide +kernel
theorem dX4_joined_105 : decode cX4_joined 105 = .ok (.iload_n 2, 1) := by decide +kernel
theorem dX4_joined_106 : decode cX4_joined 106 = .ok (.ifCond .ne 7, 3) := by decide +kernel
theorem dX4_joined_109 : decode cX4_joined 109 = .ok (.iconst 0, 1) := by decide +kernel
theorem dX4_joined_110 : decode cX4_joined 110 = .ok (.goto 6, 3) := by decide +kernel
theorem dX4_joined_113 : decode cX4_joined 113 = .ok (.iload_n 1, 1) := by decide +kernel
theorem dX4_joined_114 : decode cX4_joined 114 = .ok (.iload_n 2, 1) := by decide +kernel
theorem dX4_joined_115 : decode cX4_joined 115 = .ok (.idiv, 1) := by decide +kernel
theorem dX4_joined_116 : decode cX4_joined 116 = .ok (.ireturn, 1) := by decide +kernel
def p_X4_joined (F : Nat) (p0 : Int32) (p1 : Int32) (p2 : Int32) (Post : Int32 → Prop) : Prop := ((p0 = (42 : Int32) → (Post (p1 * p2))) ∧ (¬ p0 = (42 : Int32) → ((p0 = (43 : Int32) → (Post (p1 + p2))) ∧ (¬ p0 = (43 : Int32) → ((p0 = (45 : Int32) → (Post (p1 - p2))) ∧ (¬ p0 = (45 : Int32) → ((p0 = (60 : Int32) → ((p2 ≤ p1 → (Post (0 : Int32))) ∧ (¬ p2 ≤ p1 → (Post (1 : Int32))))) ∧ (¬ p0 = (60 : Int32) → ((p0 = (61 : Int32) → ((¬ p1 = p2 → (Post (0 : Int32))) ∧ (p1 = p2 → (Post (1 : Int32))))) ∧ (¬ p0 = (61 : Int32) → ((p0 = (62 : Int32) → ((p1 ≤ p2 → (Post (0 : Int32))) ∧ (¬ p1 ≤ p2 → (Post (1 : Int32))))) ∧ (¬ p0 = (62 : Int32) → ((¬ p2 = 0 → (¬ p2 = 0 ∧ (Post (p1 / p2)))) ∧ (p2 = 0 → (Post (0 : Int32))))))))))))))))
set_option maxHeartbeats 4000000 in
set_option maxRecDepth 100000 in
theorem c_X4_joined (l : Launch) (D : va_G) (cT : Nat → ClassId) (F : Nat) (p0 : Int32) (p1 : Int32) (p2 : Int32) (Post : Int32 → Prop) (hg : p_X4_joined F p0 p1 p2 Post) : MRi l D cT yX4_joined cX4_joined 3 (some .int) 0 0 [.int p0, .int p1, .int p2] [] Post := by
  refine MRi.of (by decide) (Nat.le_of_ble_eq_true rfl) ?_
  intro p e s m below meth c hA C0 hr hP hD hS ls hl
  have hl : lv_has ls 3 [(0, .int p0), (1, .int p1), (2, .int p2)] := hl
  have hx := C0.x
  have hb := C0.b
  have hP : va_P D cls9 [] s.heap := hP
  have hD : va_D (fun q => cT 6 ≤ q) [] := hD
  unfold p_X4_joined at hg
  refine lv_iload_n hx hb dX4_joined_0 rfl (lv_at hl 0 rfl) ?_
  rcases Classical.em (p0 = (42 : Int32)) with c_1_42 | c_1_42
  · have hg := hg.1 c_1_42
    refine lv_lookup (off := 100) (tgt := 101) hx hb dX4_joined_1 (by decide) (by rw [c_1_42]; decide) (by decide) ?_
    refine lv_iload_n hx hb dX4_joined_101 rfl (lv_at hl 1 rfl) ?_
    refine lv_iload_n hx hb dX4_joined_102 rfl (lv_at hl 2 rfl) ?_
    refine lv_imul hx hb dX4_joined_103 ?_
    exact k_xiret C0 hr hg dX4_joined_104
  have hg := hg.2 c_1_42
  rcases Classical.em (p0 = (43 : Int32)) with c_1_43 | c_1_43
  · have hg := hg.1 c_1_43
    refine lv_lookup (off := 92) (tgt := 93) hx hb dX4_joined_1 (by decide) (by rw [c_1_43]; decide) (by decide) ?_
    refine lv_iload_n hx hb dX4_joined_93 rfl (lv_at hl 1 rfl) ?_
    refine lv_iload_n hx hb dX4_joined_94 rfl (lv_at hl 2 rfl) ?_
    refine lv_iadd hx hb dX4_joined_95 ?_
    exact k_xiret C0 hr hg dX4_joined_96
  have hg := hg.2 c_1_43
  rcases Classical.em (p0 = (45 : Int32)) with c_1_45 | c_1_45
  · have hg := hg.1 c_1_45
    refine lv_lookup (off := 96) (tgt := 97) hx hb dX4_joined_1 (by decide) (by rw [c_1_45]; decide) (by decide) ?_
    refine lv_iload_n hx hb dX4_joined_97 rfl (lv_at hl 1 rfl) ?_
    refine lv_iload_n hx hb dX4_joined_98 rfl (lv_at hl 2 rfl) ?_
    refine lv_isub hx hb dX4_joined_99 ?_
    exact k_xiret C0 hr hg dX4_joined_100
  have hg := hg.2 c_1_45
  rcases Classical.em (p0 = (60 : Int32)) with c_1_60 | c_1_60
  · have hg := hg.1 c_1_60
    refine lv_lookup (off := 59) (tgt := 60) hx hb dX4_joined_1 (by decide) (by rw [c_1_60]; decide) (by decide) ?_
    refine lv_iload_n hx hb dX4_joined_60 rfl (lv_at hl 1 rfl) ?_
    refine lv_iload_n hx hb dX4_joined_61 rfl (lv_at hl 2 rfl) ?_
    refine lv_icmp_ge (tgt := 69) hx hb dX4_joined_62 (by decide) (fun c_62 => ?_) (fun c_62 => ?_)
    · have hg := hg.1 c_62
      refine lv_iconst (v := (0 : Int32)) hx hb dX4_joined_69 (by decide) ?_
      exact k_xiret C0 hr hg dX4_joined_70
    have hg := hg.2 c_62
    refine lv_iconst (v := (1 : Int32)) hx hb dX4_joined_65 (by decide) ?_
    refine lv_goto (tgt := 70) hx hb dX4_joined_66 (by decide) ?_
    exact k_xiret C0 hr hg dX4_joined_70
  have hg := hg.2 c_1_60
  rcases Classical.em (p0 = (61 : Int32)) with c_1_61 | c_1_61
  · have hg := hg.1 c_1_61
    refine lv_lookup (off := 81) (tgt := 82) hx hb dX4_joined_1 (by decide) (by rw [c_1_61]; decide) (by decide) ?_
    refine lv_iload_n hx hb dX4_joined_82 rfl (lv_at hl 1 rfl) ?_
    refine lv_iload_n hx hb dX4_joined_83 rfl (lv_at hl 2 rfl) ?_
    refine lv_icmp_ne (tgt := 91) hx hb dX4_joined_84 (by decide) (fun c_84 => ?_) (fun c_84 => ?_)
    · have hg := hg.1 c_84
      refine lv_iconst (v := (0 : Int32)) hx hb dX4_joined_91 (by decide) ?_
      exact k_xiret C0 hr hg dX4_joined_92
    have hg := hg.2 c_84
    refine lv_iconst (v := (1 : Int32)) hx hb dX4_joined_87 (by decide) ?_
    refine lv_goto (tgt := 92) hx hb dX4_joined_88 (by decide) ?_
    exact k_xiret C0 hr hg dX4_joined_92
  have hg := hg.2 c_1_61
  rcases Classical.em (p0 = (62 : Int32)) with c_1_62 | c_1_62
  · have hg := hg.1 c_1_62
    refine lv_lookup (off := 70) (tgt := 71) hx hb dX4_joined_1 (by decide) (by rw [c_1_62]; decide) (by decide) ?_
    refine lv_iload_n hx hb dX4_joined_71 rfl (lv_at hl 1 rfl) ?_
    refine lv_iload_n hx hb dX4_joined_72 rfl (lv_at hl 2 rfl) ?_
    refine lv_icmp_le (tgt := 80) hx hb dX4_joined_73 (by decide) (fun c_73 => ?_) (fun c_73 => ?_)
    · have hg := hg.1 c_73
      refine lv_iconst (v := (0 : Int32)) hx hb dX4_joined_80 (by decide) ?_
      exact k_xiret C0 hr hg dX4_joined_81
    have hg := hg.2 c_73
    refine lv_iconst (v := (1 : Int32)) hx hb dX4_joined_76 (by decide) ?_
    refine lv_goto (tgt := 81) hx hb dX4_joined_77 (by decide) ?_
    exact k_xiret C0 hr hg dX4_joined_81
  have hg := hg.2 c_1_62
  refine lv_lookup (off := 104) (tgt := 105) hx hb dX4_joined_1 (by decide) (by rw [lv_osw c_1_42 (by decide)]; rw [lv_osw c_1_43 (by decide)]; rw [lv_osw c_1_45 (by decide)]; rw [lv_osw c_1_60 (by decide)]; rw [lv_osw c_1_61 (by decide)]; rw [lv_osw c_1_62 (by decide)]; rfl) (by decide) ?_
  refine lv_iload_n hx hb dX4_joined_105 rfl (lv_at hl 2 rfl) ?_
  refine lv_if_ne (tgt := 113) hx hb dX4_joined_106 (by decide) (fun c_106 => ?_) (fun c_106 => ?_)
  · have hg := hg.1 c_106
    refine lv_iload_n hx hb dX4_joined_113 rfl (lv_at hl 1 rfl) ?_
    refine lv_iload_n hx hb dX4_joined_114 rfl (lv_at hl 2 rfl) ?_
    obtain ⟨g_115, hg⟩ := hg
    refine lv_idiv hx hb dX4_joined_115 g_115 ?_
    exact k_xiret C0 hr hg dX4_joined_116
  have hg := hg.2 c_106
  refine lv_iconst (v := (0 : Int32)) hx hb dX4_joined_109 (by decide) ?_
  refine lv_goto (tgt := 116) hx hb dX4_joined_110 (by decide) ?_
  exact k_xiret C0 hr hg dX4_joined_116
theorem dX6_hasCat_0 : decode cX6_hasCat 0 = .ok (.iload_n 1, 1) := by decide +kernel
theorem dX6_hasCat_1 : decode cX6_hasCat 1 = .ok (.ifCond .lt 15, 3) := by decide +kernel
theorem dX6_hasCat_4 : decode cX6_hasCat 4 = .ok (.iload_n 1, 1) := by decide +kernel
theorem dX6_hasCat_5 : decode cX6_hasCat 5 = .ok (.aload_n 0, 1) := by decide +kernel
theorem dX6_hasCat_6 : decode cX6_hasCat 6 = .ok (.getfield 37, 3) := by decide +kernel
theorem dX6_hasCat_9 : decode cX6_hasCat 9 = .ok (.if_icmp .ge 7, 3) := by decide +kernel
theorem dX6_hasCat_12 : decode cX6_hasCat 12 = .ok (.iconst 1, 1) := by decide +kernel
theorem dX6_hasCat_13 : decode cX6_hasCat 13 = .ok (.goto 4, 3) := by decide +kernel
theorem dX6_hasCat_16 : decode cX6_hasCat 16 = .ok (.iconst 0, 1) := by decide +kernel
theorem dX6_hasCat_17 : decode cX6_hasCat 17 = .ok (.ireturn, 1) := by decide +kernel
def p_X6_hasCat (F : Nat) (p1 : Int32) (x_cats : Int32) (Post : Int32 → Prop) : Prop := ((p1 < 0 → (Post (0 : Int32))) ∧ (¬ p1 < 0 → ((x_cats ≤ p1 → (Post (0 : Int32))) ∧ (¬ x_cats ≤ p1 → (Post (1 : Int32))))))
set_option maxHeartbeats 4000000 in
set_option maxRecDepth 100000 in
theorem c_X6_hasCat (l : Launch) (D : va_G) (cT : Nat → ClassId) (F : Nat) (h : Nat) (p1 : Int32) (w_load : Value) (w_sag : Value) (w_joy : Value) (w_bowl : Value) (w_grief : Value) (w_place : Value) (x_arches : Int32) (x_cats : Int32) (x_store : Int32) (x_hour : Int32) (x_drops : Int32) (Post : Int32 → Prop) (hg : p_X6_hasCat F p1 x_cats Post) : MRi l D cT yX6_hasCat cX6_hasCat 2 (some .boolean) 0 0 [.ref h, .int p1] [(h, oX6 w_load w_sag w_joy w_bowl w_grief w_place (.int x_arches) (.int x_cats) (.int x_store) (.int x_hour) (.int x_drops))] Post := by
  refine MRi.of (by decide) (Nat.le_of_ble_eq_true rfl) ?_
  intro p e s m below meth c hA C0 hr hP hD hS ls hl
  have hl : lv_has ls 2 [(0, .ref h), (1, .int p1)] := hl
  have hx := C0.x
  have hb := C0.b
  have hP : va_P D cls9 [(h, oX6 w_load w_sag w_joy w_bowl w_grief w_place (.int x_arches) (.int x_cats) (.int x_store) (.int x_hour) (.int x_drops))] s.heap := hP
  have hD : va_D (fun q => cT 6 ≤ q) [(h, oX6 w_load w_sag w_joy w_bowl w_grief w_place (.int x_arches) (.int x_cats) (.int x_store) (.int x_hour) (.int x_drops))] := hD
  unfold p_X6_hasCat at hg
  refine lv_iload_n hx hb dX6_hasCat_0 rfl (lv_at hl 1 rfl) ?_
  refine lv_if_lt (tgt := 16) hx hb dX6_hasCat_1 (by decide) (fun c_1 => ?_) (fun c_1 => ?_)
  · have hg := hg.1 c_1
    refine lv_iconst (v := (0 : Int32)) hx hb dX6_hasCat_16 (by decide) ?_
    exact k_xzret C0 hr (Or.inl rfl) hg dX6_hasCat_17
  have hg := hg.2 c_1
  refine lv_iload_n hx hb dX6_hasCat_4 rfl (lv_at hl 1 rfl) ?_
  refine lv_aload_n hx hb dX6_hasCat_5 rfl (lv_at hl 0 rfl) ?_
  refine gf_X6_37 C0 hP 0 rfl rfl dX6_hasCat_6 ?_
  refine lv_icmp_ge (tgt := 16) hx hb dX6_hasCat_9 (by decide) (fun c_9 => ?_) (fun c_9 => ?_)
  · have hg := hg.1 c_9
    refine lv_iconst (v := (0 : Int32)) hx hb dX6_hasCat_16 (by decide) ?_
    exact k_xzret C0 hr (Or.inl rfl) hg dX6_hasCat_17
  have hg := hg.2 c_9
  refine lv_iconst (v := (1 : Int32)) hx hb dX6_hasCat_12 (by decide) ?_
  refine lv_goto (tgt := 17) hx hb dX6_hasCat_13 (by decide) ?_
  exact k_xzret C0 hr (Or.inr rfl) hg dX6_hasCat_17
theorem dX6_hasArch_0 : decode cX6_hasArch 0 = .ok (.iload_n 1, 1) := by decide +kernel
theorem dX6_hasArch_1 : decode cX6_hasArch 1 = .ok (.ifCond .lt 15, 3) := by decide +kernel
theorem dX6_hasArch_4 : decode cX6_hasArch 4 = .ok (.iload_n 1, 1) := by decide +kernel
theorem dX6_hasArch_5 : decode cX6_hasArch 5 = .ok (.aload_n 0, 1) := by decide +kernel
theorem dX6_hasArch_6 : decode cX6_hasArch 6 = .ok (.getfield 34, 3) := by decide +kernel
theorem dX6_hasArch_9 : decode cX6_hasArch 9 = .ok (.if_icmp .ge 7, 3) := by decide +kernel
theorem dX6_hasArch_12 : decode cX6_hasArch 12 = .ok (.iconst 1, 1) := by decide +kernel
theorem dX6_hasArch_13 : decode cX6_hasArch 13 = .ok (.goto 4, 3) := by decide +kernel
theorem dX6_hasArch_16 : decode cX6_hasArch 16 = .ok (.iconst 0, 1) := by decide +kernel
theorem dX6_hasArch_17 : decode cX6_hasArch 17 = .ok (.ireturn, 1) := by decide +kernel
def p_X6_hasArch (F : Nat) (p1 : Int32) (x_arches : Int32) (Post : Int32 → Prop) : Prop := ((p1 < 0 → (Post (0 : Int32))) ∧ (¬ p1 < 0 → ((x_arches ≤ p1 → (Post (0 : Int32))) ∧ (¬ x_arches ≤ p1 → (Post (1 : Int32))))))
set_option maxHeartbeats 4000000 in
set_option maxRecDepth 100000 in
theorem c_X6_hasArch (l : Launch) (D : va_G) (cT : Nat → ClassId) (F : Nat) (h : Nat) (p1 : Int32) (w_load : Value) (w_sag : Value) (w_joy : Value) (w_bowl : Value) (w_grief : Value) (w_place : Value) (x_arches : Int32) (x_cats : Int32) (x_store : Int32) (x_hour : Int32) (x_drops : Int32) (Post : Int32 → Prop) (hg : p_X6_hasArch F p1 x_arches Post) : MRi l D cT yX6_hasArch cX6_hasArch 2 (some .boolean) 0 0 [.ref h, .int p1] [(h, oX6 w_load w_sag w_joy w_bowl w_grief w_place (.int x_arches) (.int x_cats) (.int x_store) (.int x_hour) (.int x_drops))] Post := by
  refine MRi.of (by decide) (Nat.le_of_ble_eq_true rfl) ?_
  intro p e s m below meth c hA C0 hr hP hD hS ls hl
  have hl : lv_has ls 2 [(0, .ref h), (1, .int p1)] := hl
  have hx := C0.x
  have hb := C0.b
  have hP : va_P D cls9 [(h, oX6 w_load w_sag w_joy w_bowl w_grief w_place (.int x_arches) (.int x_cats) (.int x_store) (.int x_hour) (.int x_drops))] s.heap := hP
  have hD : va_D (fun q => cT 6 ≤ q) [(h, oX6 w_load w_sag w_joy w_bowl w_grief w_place (.int x_arches) (.int x_cats) (.int x_store) (.int x_hour) (.int x_drops))] := hD
  unfold p_X6_hasArch at hg
  refine lv_iload_n hx hb dX6_hasArch_0 rfl (lv_at hl 1 rfl) ?_
  refine lv_if_lt (tgt := 16) hx hb dX6_hasArch_1 (by decide) (fun c_1 => ?_) (fun c_1 => ?_)
  · have hg := hg.1 c_1
    refine lv_iconst (v := (0 : Int32)) hx hb dX6_hasArch_16 (by decide) ?_
    exact k_xzret C0 hr (Or.inl rfl) hg dX6_hasArch_17
  have hg := hg.2 c_1
  refine lv_iload_n hx hb dX6_hasArch_4 rfl (lv_at hl 1 rfl) ?_
  refine lv_aload_n hx hb dX6_hasArch_5 rfl (lv_at hl 0 rfl) ?_
  refine gf_X6_34 C0 hP 0 rfl rfl dX6_hasArch_6 ?_
  refine lv_icmp_ge (tgt := 16) hx hb dX6_hasArch_9 (by decide) (fun c_9 => ?_) (fun c_9 => ?_)
  · have hg := hg.1 c_9
    refine lv_iconst (v := (0 : Int32)) hx hb dX6_hasArch_16 (by decide) ?_
    exact k_xzret C0 hr (Or.inl rfl) hg dX6_hasArch_17
  have hg := hg.2 c_9
  refine lv_iconst (v := (1 : Int32)) hx hb dX6_hasArch_12 (by decide) ?_
  refine lv_goto (tgt := 17) hx hb dX6_hasArch_13 (by decide) ?_
  exact k_xzret C0 hr (Or.inr rfl) hg dX6_hasArch_17
theorem dX6_thing_0 : decode cX6_thing 0 = .ok (.aload_n 0, 1) := by decide +kernel
theorem dX6_thing_1 : decode cX6_thing 1 = .ok (.iload_n 2, 1) := by decide +kernel
theorem dX6_thing_2 : decode cX6_thing 2 = .ok (.invokevirtual 52, 3) := by decide +kernel
theorem dX6_thing_5 : decode cX6_thing 5 = .ok (.ifCond .eq 11, 3) := by decide +kernel
theorem dX6_thing_8 : decode cX6_thing 8 = .ok (.aload_n 0, 1) := by decide +kernel
theorem dX6_thing_9 : decode cX6_thing 9 = .ok (.iload_n 3, 1) := by decide +kernel
theorem dX6_thing_10 : decode cX6_thing 10 = .ok (.invokevirtual 62, 3) := by decide +kernel
theorem dX6_thing_13 : decode cX6_thing 13 = .ok (.ifCond .ne 5, 3) := by decide +kernel
theorem dX6_thing_16 : decode cX6_thing 16 = .ok (.iconst 0, 1) := by decide +kernel
theorem dX6_thing_17 : decode cX6_thing 17 = .ok (.ireturn, 1) := by decide +kernel
theorem dX6_thing_18 : decode cX6_thing 18 = .ok (.iload_n 1, 1) := by decide +kernel
theorem dX6_thing_19 : decode cX6_thing 19 = .ok (.tableswitch 123 98 115 #[92, 123, 123, 123, 123, 99, 123, 123, 85, 106, 109, 123, 123, 123, 123, 123, 123, 116], 85) := by decide +kernel
theorem dX6_thing_104 : decode cX6_thing 104 = .ok (.aload_n 0, 1) := by decide +kernel
theorem dX6_thing_105 : decode cX6_thing 105 = .ok (.getfield 18, 3) := by decide +kernel
theorem dX6_thing_108 : decode cX6_thing 108 = .ok (.iload_n 2, 1) := by decide +kernel
theorem dX6_thing_109 : decode cX6_thing 109 = .ok (.iaload, 1) := by decide +kernel
theorem dX6_thing_110 : decode cX6_thing 110 = .ok (.ireturn, 1) := by decide +kernel
theorem dX6_thing_111 : decode cX6_thing 111 = .ok (.aload_n 0, 1) := by decide +kernel
theorem dX6_thing_112 : decode cX6_thing 112 = .ok (.getfield 21, 3) := by decide +kernel
theorem dX6_thing_115 : decode cX6_thing 115 = .ok (.iload_n 2, 1) := by decide +kernel
theorem dX6_thing_116 : decode cX6_thing 116 = .ok (.iaload, 1) := by decide +kernel
theorem dX6_thing_117 : decode cX6_thing 117 = .ok (.ireturn, 1) := by decide +kernel
theorem dX6_thing_118 : decode cX6_thing 118 = .ok (.aload_n 0, 1) := by decide +kernel
theorem dX6_thing_119 : decode cX6_thing 119 = .ok (.getfield 24, 3) := by decide +kernel
theorem dX6_thing_122 : decode cX6_thing 122 = .ok (.iload_n 2, 1) := by decide +kernel
theorem dX6_thing_123 : decode cX6_thing 123 = .ok (.iaload, 1) := by decide +kernel
theorem dX6_thing_124 : decode cX6_thing 124 = .ok (.ireturn, 1) := by decide +kernel
theorem dX6_thing_125 : decode cX6_thing 125 = .ok (.iload 4, 2) := by decide +kernel
theorem dX6_thing_127 : decode cX6_thing 127 = .ok (.ireturn, 1) := by decide +kernel
theorem dX6_thing_128 : decode cX6_thing 128 = .ok (.aload_n 0, 1) := by decide +kernel
theorem dX6_thing_129 : decode cX6_thing 129 = .ok (.getfield 9, 3) := by decide +kernel
theorem dX6_thing_132 : decode cX6_thing 132 = .ok (.iload_n 3, 1) := by decide +kernel
theorem dX6_thing_133 : decode cX6_thing 133 = .ok (.iaload, 1) := by decide +kernel
theorem dX6_thing_134 : decode cX6_thing 134 = .ok (.ireturn, 1) := by decide +kernel
theorem dX6_thing_135 : decode cX6_thing 135 = .ok (.aload_n 0, 1) := by decide +kernel
theorem dX6_thing_136 : decode cX6_thing 136 = .ok (.getfield 15, 3) := by decide +kernel
theorem dX6_thing_139 : decode cX6_thing 139 = .ok (.iload_n 3, 1) := by decide +kernel
theorem dX6_thing_140 : decode cX6_thing 140 = .ok (.iaload, 1) := by decide +kernel
theorem dX6_thing_141 : decode cX6_thing 141 = .ok (.ireturn, 1) := by decide +kernel
theorem dX6_thing_142 : decode cX6_thing 142 = .ok (.aload_n 0, 1) := by decide +kernel
theorem dX6_thing_143 : decode cX6_thing 143 = .ok (.getfield 40, 3) := by decide +kernel
theorem dX6_thing_146 : decode cX6_thing 146 = .ok (.bipush 7, 2) := by decide +kernel
theorem dX6_thing_148 : decode cX6_thing 148 = .ok (.irem, 1) := by decide +kernel
theorem dX6_thing_149 : decode cX6_thing 149 = .ok (.ireturn, 1) := by decide +kernel
def p_X6_thing (F : Nat) (p1 : Int32) (p2 : Int32) (p3 : Int32) (p4 : Int32) (x_arches : Int32) (x_cats : Int32) (x_hour : Int32) (f_sag : Nat → Int32) (f_load : Nat → Int32) (f_joy : Nat → Int32) (f_grief : Nat → Int32) (f_bowl : Nat → Int32) (Post : Int32 → Prop) : Prop := (p_X6_hasCat F p2 x_cats (fun (r_2 : Int32) => ((r_2 = 0 → (Post (0 : Int32))) ∧ (¬ r_2 = 0 → (p_X6_hasArch F p3 x_arches (fun (r_10 : Int32) => ((¬ r_10 = 0 → ((p1 = (98 : Int32) → (vp_in p2 8 ∧ (Post (f_bowl p2.toNatClampNeg)))) ∧ (¬ p1 = (98 : Int32) → ((p1 = (103 : Int32) → (vp_in p2 8 ∧ (Post (f_grief p2.toNatClampNeg)))) ∧ (¬ p1 = (103 : Int32) → ((p1 = (106 : Int32) → (vp_in p2 8 ∧ (Post (f_joy p2.toNatClampNeg)))) ∧ (¬ p1 = (106 : Int32) → ((p1 = (107 : Int32) → (Post p4)) ∧ (¬ p1 = (107 : Int32) → ((p1 = (108 : Int32) → (vp_in p3 6 ∧ (Post (f_load p3.toNatClampNeg)))) ∧ (¬ p1 = (108 : Int32) → ((p1 = (115 : Int32) → (vp_in p3 6 ∧ (Post (f_sag p3.toNatClampNeg)))) ∧ (¬ p1 = (115 : Int32) → (¬ (7 : Int32) = 0 ∧ (Post (x_hour - x_hour / (7 : Int32) * (7 : Int32))))))))))))))))) ∧ (r_10 = 0 → (Post (0 : Int32))))))))))
set_option maxHeartbeats 4000000 in
set_option maxRecDepth 100000 in
theorem c_X6_thing (l : Launch) (D : va_G) (cT : Nat → ClassId) (F : Nat) (h : Nat) (p1 : Int32) (p2 : Int32) (p3 : Int32) (p4 : Int32) (q_load : Nat) (q_sag : Nat) (q_joy : Nat) (q_bowl : Nat) (q_grief : Nat) (w_place : Value) (x_arches : Int32) (x_cats : Int32) (x_store : Int32) (x_hour : Int32) (x_drops : Int32) (f_sag : Nat → Int32) (f_load : Nat → Int32) (f_joy : Nat → Int32) (f_grief : Nat → Int32) (f_bowl : Nat → Int32) (Post : Int32 → Prop) (hg : p_X6_thing F p1 p2 p3 p4 x_arches x_cats x_hour f_sag f_load f_joy f_grief f_bowl Post) : MRi l D cT yX6_thing cX6_thing 5 (some .int) 1 21 [.ref h, .int p1, .int p2, .int p3, .int p4] [(h, oX6 (.ref q_load) (.ref q_sag) (.ref q_joy) (.ref q_bowl) (.ref q_grief) w_place (.int x_arches) (.int x_cats) (.int x_store) (.int x_hour) (.int x_drops)), (q_sag, aI cT 6 f_sag), (q_load, aI cT 6 f_load), (q_joy, aI cT 8 f_joy), (q_grief, aI cT 8 f_grief), (q_bowl, aI cT 8 f_bowl)] Post := by
  refine MRi.of (by decide) (Nat.le_of_ble_eq_true rfl) ?_
  intro p e s m below meth c hA C0 hr hP hD hS ls hl
  have hl : lv_has ls 5 [(0, .ref h), (1, .int p1), (2, .int p2), (3, .int p3), (4, .int p4)] := hl
  have hx := C0.x
  have hb := C0.b
  have hP : va_P D cls9 [(h, oX6 (.ref q_load) (.ref q_sag) (.ref q_joy) (.ref q_bowl) (.ref q_grief) w_place (.int x_arches) (.int x_cats) (.int x_store) (.int x_hour) (.int x_drops)), (q_sag, aI cT 6 f_sag), (q_load, aI cT 6 f_load), (q_joy, aI cT 8 f_joy), (q_grief, aI cT 8 f_grief), (q_bowl, aI cT 8 f_bowl)] s.heap := hP
  have hD : va_D (fun q => cT 6 ≤ q) [(h, oX6 (.ref q_load) (.ref q_sag) (.ref q_joy) (.ref q_bowl) (.ref q_grief) w_place (.int x_arches) (.int x_cats) (.int x_store) (.int x_hour) (.int x_drops)), (q_sag, aI cT 6 f_sag), (q_load, aI cT 6 f_load), (q_joy, aI cT 8 f_joy), (q_grief, aI cT 8 f_grief), (q_bowl, aI cT 8 f_bowl)] := hD
  unfold p_X6_thing at hg
  refine lv_aload_n hx hb dX6_thing_0 rfl (lv_at hl 0 rfl) ?_
  refine lv_iload_n hx hb dX6_thing_1 rfl (lv_at hl 2 rfl) ?_
  refine k_Vxi (rest := []) C0 lk_X6_52 (c_X6_hasCat l D cT F h p2 (.ref q_load) (.ref q_sag) (.ref q_joy) (.ref q_bowl) (.ref q_grief) w_place x_arches x_cats x_store x_hour x_drops _ hg) hP hD hS hA [0] (by decide +kernel) rfl rfl rfl ⟨Nat.le_of_ble_eq_true rfl, Nat.le_of_ble_eq_true rfl⟩ rfl hl.1 rfl (Nat.le_of_ble_eq_true rfl) dX6_thing_2 ⟨Nat.le_of_ble_eq_true rfl, Nat.le_of_ble_eq_true rfl⟩ (fun r_2 hg => ?_)
  refine lv_if_eq (tgt := 16) hx hb dX6_thing_5 (by decide) (fun c_5 => ?_) (fun c_5 => ?_)
  · have hg := hg.1 c_5
    refine lv_iconst (v := (0 : Int32)) hx hb dX6_thing_16 (by decide) ?_
    exact k_xiret C0 hr hg dX6_thing_17
  have hg := hg.2 c_5
  refine lv_aload_n hx hb dX6_thing_8 rfl (lv_at hl 0 rfl) ?_
  refine lv_iload_n hx hb dX6_thing_9 rfl (lv_at hl 3 rfl) ?_
  refine k_Vxi (rest := []) C0 lk_X6_62 (c_X6_hasArch l D cT F h p3 (.ref q_load) (.ref q_sag) (.ref q_joy) (.ref q_bowl) (.ref q_grief) w_place x_arches x_cats x_store x_hour x_drops _ hg) hP hD hS hA [0] (by decide +kernel) rfl rfl rfl ⟨Nat.le_of_ble_eq_true rfl, Nat.le_of_ble_eq_true rfl⟩ rfl hl.1 rfl (Nat.le_of_ble_eq_true rfl) dX6_thing_10 ⟨Nat.le_of_ble_eq_true rfl, Nat.le_of_ble_eq_true rfl⟩ (fun r_10 hg => ?_)
  refine lv_if_ne (tgt := 18) hx hb dX6_thing_13 (by decide) (fun c_13 => ?_) (fun c_13 => ?_)
  · have hg := hg.1 c_13
    refine lv_iload_n hx hb dX6_thing_18 rfl (lv_at hl 1 rfl) ?_
    rcases Classical.em (p1 = (98 : Int32)) with c_19_98 | c_19_98
    · have hg := hg.1 c_19_98
      refine lv_tableIn (tgt := 111) hx hb dX6_thing_19 (by rw [c_19_98]; decide) (by rw [c_19_98]; decide) (by rw [c_19_98]; rfl) (by decide) ?_
      refine lv_aload_n hx hb dX6_thing_111 rfl (lv_at hl 0 rfl) ?_
      refine gf_X6_21 C0 hP 0 rfl rfl dX6_thing_112 ?_
      refine lv_iload_n hx hb dX6_thing_115 rfl (lv_at hl 2 rfl) ?_
      obtain ⟨g_116, hg⟩ := hg
      refine k_iald C0 hP 5 rfl g_116 dX6_thing_116 ?_
      exact k_xiret C0 hr hg dX6_thing_117
    have hg := hg.2 c_19_98
    rcases Classical.em (p1 = (103 : Int32)) with c_19_103 | c_19_103
    · have hg := hg.1 c_19_103
      refine lv_tableIn (tgt := 118) hx hb dX6_thing_19 (by rw [c_19_103]; decide) (by rw [c_19_103]; decide) (by rw [c_19_103]; rfl) (by decide) ?_
      refine lv_aload_n hx hb dX6_thing_118 rfl (lv_at hl 0 rfl) ?_
      refine gf_X6_24 C0 hP 0 rfl rfl dX6_thing_119 ?_
      refine lv_iload_n hx hb dX6_thing_122 rfl (lv_at hl 2 rfl) ?_
      obtain ⟨g_123, hg⟩ := hg
      refine k_iald C0 hP 4 rfl g_123 dX6_thing_123 ?_
      exact k_xiret C0 hr hg dX6_thing_124
    have hg := hg.2 c_19_103
    rcases Classical.em (p1 = (106 : Int32)) with c_19_106 | c_19_106
    · have hg := hg.1 c_19_106
      refine lv_tableIn (tgt := 104) hx hb dX6_thing_19 (by rw [c_19_106]; decide) (by rw [c_19_106]; decide) (by rw [c_19_106]; rfl) (by decide) ?_
      refine lv_aload_n hx hb dX6_thing_104 rfl (lv_at hl 0 rfl) ?_
      refine gf_X6_18 C0 hP 0 rfl rfl dX6_thing_105 ?_
      refine lv_iload_n hx hb dX6_thing_108 rfl (lv_at hl 2 rfl) ?_
      obtain ⟨g_109, hg⟩ := hg
      refine k_iald C0 hP 3 rfl g_109 dX6_thing_109 ?_
      exact k_xiret C0 hr hg dX6_thing_110
    have hg := hg.2 c_19_106
    rcases Classical.em (p1 = (107 : Int32)) with c_19_107 | c_19_107
    · have hg := hg.1 c_19_107
      refine lv_tableIn (tgt := 125) hx hb dX6_thing_19 (by rw [c_19_107]; decide) (by rw [c_19_107]; decide) (by rw [c_19_107]; rfl) (by decide) ?_
      refine lv_iload hx hb dX6_thing_125 (lv_at hl 4 rfl) ?_
      exact k_xiret C0 hr hg dX6_thing_127
    have hg := hg.2 c_19_107
    rcases Classical.em (p1 = (108 : Int32)) with c_19_108 | c_19_108
    · have hg := hg.1 c_19_108
      refine lv_tableIn (tgt := 128) hx hb dX6_thing_19 (by rw [c_19_108]; decide) (by rw [c_19_108]; decide) (by rw [c_19_108]; rfl) (by decide) ?_
      refine lv_aload_n hx hb dX6_thing_128 rfl (lv_at hl 0 rfl) ?_
      refine gf_X6_9 C0 hP 0 rfl rfl dX6_thing_129 ?_
      refine lv_iload_n hx hb dX6_thing_132 rfl (lv_at hl 3 rfl) ?_
      obtain ⟨g_133, hg⟩ := hg
      refine k_iald C0 hP 2 rfl g_133 dX6_thing_133 ?_
      exact k_xiret C0 hr hg dX6_thing_134
    have hg := hg.2 c_19_108
    rcases Classical.em (p1 = (115 : Int32)) with c_19_115 | c_19_115
    · have hg := hg.1 c_19_115
      refine lv_tableIn (tgt := 135) hx hb dX6_thing_19 (by rw [c_19_115]; decide) (by rw [c_19_115]; decide) (by rw [c_19_115]; rfl) (by decide) ?_
      refine lv_aload_n hx hb dX6_thing_135 rfl (lv_at hl 0 rfl) ?_
      refine gf_X6_15 C0 hP 0 rfl rfl dX6_thing_136 ?_
      refine lv_iload_n hx hb dX6_thing_139 rfl (lv_at hl 3 rfl) ?_
      obtain ⟨g_140, hg⟩ := hg
      refine k_iald C0 hP 1 rfl g_140 dX6_thing_140 ?_
      exact k_xiret C0 hr hg dX6_thing_141
    have hg := hg.2 c_19_115
    refine sw_def (x := p1) (lo := 98) (dflt := 123) (tgt := 142) hx hb dX6_thing_19 (by decide) (by decide) ?_ ?_
    · intro k hk hx2
      have n_19_98 := ne_toInt (k := 98) (by decide) c_19_98
      have n_19_103 := ne_toInt (k := 103) (by decide) c_19_103
      have n_19_106 := ne_toInt (k := 106) (by decide) c_19_106
      have n_19_107 := ne_toInt (k := 107) (by decide) c_19_107
      have n_19_108 := ne_toInt (k := 108) (by decide) c_19_108
      have n_19_115 := ne_toInt (k := 115) (by decide) c_19_115
      have hk3 : k < 18 := hk
      match k, hk3 with
      | 0, _ => exact absurd hx2 (by omega)
      | 1, _ => rfl
      | 2, _ => rfl
      | 3, _ => rfl
      | 4, _ => rfl
      | 5, _ => exact absurd hx2 (by omega)
      | 6, _ => rfl
      | 7, _ => rfl
      | 8, _ => exact absurd hx2 (by omega)
      | 9, _ => exact absurd hx2 (by omega)
      | 10, _ => exact absurd hx2 (by omega)
      | 11, _ => rfl
      | 12, _ => rfl
      | 13, _ => rfl
      | 14, _ => rfl
      | 15, _ => rfl
      | 16, _ => rfl
      | 17, _ => exact absurd hx2 (by omega)
      | k + 18, h => exact absurd h (by omega)
    refine lv_aload_n hx hb dX6_thing_142 rfl (lv_at hl 0 rfl) ?_
    refine gf_X6_40 C0 hP 0 rfl rfl dX6_thing_143 ?_
    refine lv_bipush (v := (7 : Int32)) hx hb dX6_thing_146 (by decide) ?_
    obtain ⟨g_148, hg⟩ := hg
    refine lv_irem hx hb dX6_thing_148 g_148 ?_
    exact k_xiret C0 hr hg dX6_thing_149
  have hg := hg.2 c_13
  refine lv_iconst (v := (0 : Int32)) hx hb dX6_thing_16 (by decide) ?_
  exact k_xiret C0 hr hg dX6_thing_17
theorem dX7_asDigit_0 : decode cX7_asDigit 0 = .ok (.iconst 0, 1) := by decide +kernel
theorem dX7_asDigit_1 : decode cX7_asDigit 1 = .ok (.bipush 9, 2) := by decide +kernel
theorem dX7_asDigit_3 : decode cX7_asDigit 3 = .ok (.iload_n 0, 1) := by decide +kernel
theorem dX7_asDigit_4 : decode cX7_asDigit 4 = .ok (.invokestatic 183, 3) := by decide +kernel
theorem dX7_asDigit_7 : decode cX7_asDigit 7 = .ok (.invokestatic 188, 3) := by decide +kernel
theorem dX7_asDigit_10 : decode cX7_asDigit 10 = .ok (.ireturn, 1) := by decide +kernel
def p_X7_asDigit (F : Nat) (p0 : Int32) (Post : Int32 → Prop) : Prop := (Post (if (0 : Int32) < (if p0 < (9 : Int32) then p0 else (9 : Int32)) then (if p0 < (9 : Int32) then p0 else (9 : Int32)) else (0 : Int32)))
set_option maxHeartbeats 4000000 in
set_option maxRecDepth 100000 in
theorem c_X7_asDigit (l : Launch) (D : va_G) (cT : Nat → ClassId) (F : Nat) (p0 : Int32) (Post : Int32 → Prop) (hg : p_X7_asDigit F p0 Post) : MRi l D cT yX7_asDigit cX7_asDigit 1 (some .int) 1 30 [.int p0] [] Post := by
  refine MRi.of (by decide) (Nat.le_of_ble_eq_true rfl) ?_
  intro p e s m below meth c hA C0 hr hP hD hS ls hl
  have hl : lv_has ls 1 [(0, .int p0)] := hl
  have hx := C0.x
  have hb := C0.b
  have hP : va_P D cls9 [] s.heap := hP
  have hD : va_D (fun q => cT 6 ≤ q) [] := hD
  unfold p_X7_asDigit at hg
  refine lv_iconst (v := (0 : Int32)) hx hb dX7_asDigit_0 (by decide) ?_
  refine lv_bipush (v := (9 : Int32)) hx hb dX7_asDigit_1 (by decide) ?_
  refine lv_iload_n hx hb dX7_asDigit_3 rfl (lv_at hl 0 rfl) ?_
  refine k_min C0 w2_118 hl.1 (Nat.le_of_ble_eq_true rfl) (Nat.le_of_ble_eq_true rfl) (Nat.le_of_ble_eq_true rfl) (Nat.le_of_ble_eq_true rfl) dX7_asDigit_4 ?_
  refine k_max C0 w2_121 hl.1 (Nat.le_of_ble_eq_true rfl) (Nat.le_of_ble_eq_true rfl) (Nat.le_of_ble_eq_true rfl) (Nat.le_of_ble_eq_true rfl) dX7_asDigit_7 ?_
  exact k_xiret C0 hr hg dX7_asDigit_10
theorem dX4_purr_0 : decode cX4_purr 0 = .ok (.aload_n 0, 1) := by decide +kernel
theorem dX4_purr_1 : decode cX4_purr 1 = .ok (.iconst 0, 1) := by decide +kernel
theorem dX4_purr_2 : decode cX4_purr 2 = .ok (.putfield 55, 3) := by decide +kernel
theorem dX4_purr_5 : decode cX4_purr 5 = .ok (.iconst 0, 1) := by decide +kernel
theorem dX4_purr_6 : decode cX4_purr 6 = .ok (.istore 5, 2) := by decide +kernel
theorem dX4_purr_8 : decode cX4_purr 8 = .ok (.iload 5, 2) := by decide +kernel
theorem dX4_purr_10 : decode cX4_purr 10 = .ok (.aload_n 0, 1) := by decide +kernel
theorem dX4_purr_11 : decode cX4_purr 11 = .ok (.getfield 52, 3) := by decide +kernel
theorem dX4_purr_14 : decode cX4_purr 14 = .ok (.if_icmp .ge 108, 3) := by decide +kernel
theorem dX4_purr_17 : decode cX4_purr 17 = .ok (.iload 5, 2) := by decide +kernel
theorem dX4_purr_19 : decode cX4_purr 19 = .ok (.bipush 40, 2) := by decide +kernel
theorem dX4_purr_21 : decode cX4_purr 21 = .ok (.if_icmp .ge 101, 3) := by decide +kernel
theorem dX4_purr_24 : decode cX4_purr 24 = .ok (.aload_n 0, 1) := by decide +kernel
theorem dX4_purr_25 : decode cX4_purr 25 = .ok (.getfield 9, 3) := by decide +kernel
theorem dX4_purr_28 : decode cX4_purr 28 = .ok (.iload 5, 2) := by decide +kernel
theorem dX4_purr_30 : decode cX4_purr 30 = .ok (.iaload, 1) := by decide +kernel
theorem dX4_purr_31 : decode cX4_purr 31 = .ok (.istore 6, 2) := by decide +kernel
theorem dX4_purr_33 : decode cX4_purr 33 = .ok (.iload 6, 2) := by decide +kernel
theorem dX4_purr_35 : decode cX4_purr 35 = .ok (.ifCond .lt 12, 3) := by decide +kernel
theorem dX4_purr_38 : decode cX4_purr 38 = .ok (.aload_n 0, 1) := by decide +kernel
theorem dX4_purr_39 : decode cX4_purr 39 = .ok (.iload 6, 2) := by decide +kernel
theorem dX4_purr_41 : decode cX4_purr 41 = .ok (.invokevirtual 73, 3) := by decide +kernel
theorem dX4_purr_44 : decode cX4_purr 44 = .ok (.goto 72, 3) := by decide +kernel
theorem dX4_purr_47 : decode cX4_purr 47 = .ok (.iload 6, 2) := by decide +kernel
theorem dX4_purr_49 : decode cX4_purr 49 = .ok (.sipush (-256), 3) := by decide +kernel
theorem dX4_purr_52 : decode cX4_purr 52 = .ok (.if_icmp .ne 15, 3) := by decide +kernel
theorem dX4_purr_55 : decode cX4_purr 55 = .ok (.aload_n 0, 1) := by decide +kernel
theorem dX4_purr_56 : decode cX4_purr 56 = .ok (.aload_n 0, 1) := by decide +kernel
theorem dX4_purr_57 : decode cX4_purr 57 = .ok (.invokevirtual 76, 3) := by decide +kernel
theorem dX4_purr_60 : decode cX4_purr 60 = .ok (.ineg, 1) := by decide +kernel
theorem dX4_purr_61 : decode cX4_purr 61 = .ok (.invokevirtual 73, 3) := by decide +kernel
theorem dX4_purr_64 : decode cX4_purr 64 = .ok (.goto 52, 3) := by decide +kernel
theorem dX4_purr_67 : decode cX4_purr 67 = .ok (.iload 6, 2) := by decide +kernel
theorem dX4_purr_69 : decode cX4_purr 69 = .ok (.ineg, 1) := by decide +kernel
theorem dX4_purr_70 : decode cX4_purr 70 = .ok (.invokestatic 80, 3) := by decide +kernel
theorem dX4_purr_73 : decode cX4_purr 73 = .ok (.ifCond .le 28, 3) := by decide +kernel
theorem dX4_purr_76 : decode cX4_purr 76 = .ok (.aload_n 0, 1) := by decide +kernel
theorem dX4_purr_77 : decode cX4_purr 77 = .ok (.invokevirtual 76, 3) := by decide +kernel
theorem dX4_purr_80 : decode cX4_purr 80 = .ok (.istore 7, 2) := by decide +kernel
theorem dX4_purr_82 : decode cX4_purr 82 = .ok (.aload_n 0, 1) := by decide +kernel
theorem dX4_purr_83 : decode cX4_purr 83 = .ok (.iload 6, 2) := by decide +kernel
theorem dX4_purr_85 : decode cX4_purr 85 = .ok (.ineg, 1) := by decide +kernel
theorem dX4_purr_86 : decode cX4_purr 86 = .ok (.aload_n 0, 1) := by decide +kernel
theorem dX4_purr_87 : decode cX4_purr 87 = .ok (.invokevirtual 76, 3) := by decide +kernel
theorem dX4_purr_90 : decode cX4_purr 90 = .ok (.iload 7, 2) := by decide +kernel
theorem dX4_purr_92 : decode cX4_purr 92 = .ok (.invokestatic 83, 3) := by decide +kernel
theorem dX4_purr_95 : decode cX4_purr 95 = .ok (.invokevirtual 73, 3) := by decide +kernel
theorem dX4_purr_98 : decode cX4_purr 98 = .ok (.goto 18, 3) := by decide +kernel
theorem dX4_purr_101 : decode cX4_purr 101 = .ok (.aload_n 0, 1) := by decide +kernel
theorem dX4_purr_102 : decode cX4_purr 102 = .ok (.aload_n 1, 1) := by decide +kernel
theorem dX4_purr_103 : decode cX4_purr 103 = .ok (.iload 6, 2) := by decide +kernel
theorem dX4_purr_105 : decode cX4_purr 105 = .ok (.ineg, 1) := by decide +kernel
theorem dX4_purr_106 : decode cX4_purr 106 = .ok (.iload_n 2, 1) := by decide +kernel
theorem dX4_purr_107 : decode cX4_purr 107 = .ok (.iload_n 3, 1) := by decide +kernel
theorem dX4_purr_108 : decode cX4_purr 108 = .ok (.iload 4, 2) := by decide +kernel
theorem dX4_purr_110 : decode cX4_purr 110 = .ok (.invokevirtual 87, 3) := by decide +kernel
theorem dX4_purr_113 : decode cX4_purr 113 = .ok (.invokevirtual 73, 3) := by decide +kernel
theorem dX4_purr_116 : decode cX4_purr 116 = .ok (.iinc 5 1, 3) := by decide +kernel
theorem dX4_purr_119 : decode cX4_purr 119 = .ok (.goto (-111), 3) := by decide +kernel
theorem dX4_purr_122 : decode cX4_purr 122 = .ok (.aload_n 0, 1) := by decide +kernel
theorem dX4_purr_123 : decode cX4_purr 123 = .ok (.invokevirtual 76, 3) := by decide +kernel
theorem dX4_purr_126 : decode cX4_purr 126 = .ok (.invokestatic 93, 3) := by decide +kernel
theorem dX4_purr_129 : decode cX4_purr 129 = .ok (.ireturn, 1) := by decide +kernel
def p_X4_purr_122 (F : Nat) (x_top_8 : Int32) (f_stack_8 : Nat → Int32) (Post : Int32 → (Int32 × (Nat → Int32)) → Prop) : Prop := (p_X4_pop F x_top_8 f_stack_8 (fun (r_123 : Int32) (u_123 : Int32) => (p_X7_asDigit F r_123 (fun (r_126 : Int32) => (Post r_126 (u_123, f_stack_8))))))
def p_X4_purr_116 (F : Nat) (y5_8 : Int32) (k8 : Int32 → Int32 → (Nat → Int32) → Prop) (Post : Int32 → (Int32 × (Nat → Int32)) → Prop) (x_top_116 : Int32) (f_stack_116 : Nat → Int32) : Prop := (k8 (y5_8 + (1 : Int32)) x_top_116 f_stack_116)
noncomputable def p_X4_purr_8 (F : Nat) (p2 : Int32) (p3 : Int32) (p4 : Int32) (x_size : Int32) (f_steps : Nat → Int32) (x_b1_arches : Int32) (x_b1_cats : Int32) (x_b1_hour : Int32) (f_b1_sag : Nat → Int32) (f_b1_load : Nat → Int32) (f_b1_joy : Nat → Int32) (f_b1_grief : Nat → Int32) (f_b1_bowl : Nat → Int32) (Post : Int32 → (Int32 × (Nat → Int32)) → Prop) (n : Nat) : Int32 → Int32 → (Nat → Int32) → Prop := Nat.rec (motive := fun _ => Int32 → Int32 → (Nat → Int32) → Prop) (fun _ _ _ => False) (fun _ k8 => fun (y5_8 : Int32) (x_top_8 : Int32) (f_stack_8 : Nat → Int32) => ((x_size ≤ y5_8 → (p_X4_purr_122 F x_top_8 f_stack_8 Post )) ∧ (¬ x_size ≤ y5_8 → (((40 : Int32) ≤ y5_8 → (p_X4_purr_122 F x_top_8 f_stack_8 Post )) ∧ (¬ (40 : Int32) ≤ y5_8 → (vp_in y5_8 40 ∧ (((f_steps y5_8.toNatClampNeg) < 0 → ((¬ (f_steps y5_8.toNatClampNeg) = (-256 : Int32) → (p_X4_rankOf F (-(f_steps y5_8.toNatClampNeg)) (fun (r_70 : Int32) => ((r_70 ≤ 0 → (p_X6_thing F (-(f_steps y5_8.toNatClampNeg)) p2 p3 p4 x_b1_arches x_b1_cats x_b1_hour f_b1_sag f_b1_load f_b1_joy f_b1_grief f_b1_bowl (fun (r_110 : Int32) => (p_X4_push F r_110 x_top_8 f_stack_8 (fun (u_113 : (Int32 × (Nat → Int32))) => (p_X4_purr_116 F y5_8 k8 Post u_113.1 u_113.2)))))) ∧ (¬ r_70 ≤ 0 → (p_X4_pop F x_top_8 f_stack_8 (fun (r_77 : Int32) (u_77 : Int32) => (p_X4_pop F u_77 f_stack_8 (fun (r_87 : Int32) (u_87 : Int32) => (p_X4_joined F (-(f_steps y5_8.toNatClampNeg)) r_87 r_77 (fun (r_92 : Int32) => (p_X4_push F r_92 u_87 f_stack_8 (fun (u_95 : (Int32 × (Nat → Int32))) => (p_X4_purr_116 F y5_8 k8 Post u_95.1 u_95.2)))))))))))))) ∧ ((f_steps y5_8.toNatClampNeg) = (-256 : Int32) → (p_X4_pop F x_top_8 f_stack_8 (fun (r_57 : Int32) (u_57 : Int32) => (p_X4_push F (-r_57) u_57 f_stack_8 (fun (u_61 : (Int32 × (Nat → Int32))) => (p_X4_purr_116 F y5_8 k8 Post u_61.1 u_61.2)))))))) ∧ (¬ (f_steps y5_8.toNatClampNeg) < 0 → (p_X4_push F (f_steps y5_8.toNatClampNeg) x_top_8 f_stack_8 (fun (u_41 : (Int32 × (Nat → Int32))) => (p_X4_purr_116 F y5_8 k8 Post u_41.1 u_41.2))))))))))) n
theorem p_X4_purr_8_s (F : Nat) (p2 : Int32) (p3 : Int32) (p4 : Int32) (x_size : Int32) (f_steps : Nat → Int32) (x_b1_arches : Int32) (x_b1_cats : Int32) (x_b1_hour : Int32) (f_b1_sag : Nat → Int32) (f_b1_load : Nat → Int32) (f_b1_joy : Nat → Int32) (f_b1_grief : Nat → Int32) (f_b1_bowl : Nat → Int32) (Post : Int32 → (Int32 × (Nat → Int32)) → Prop) (n : Nat) (y5_8 : Int32) (x_top_8 : Int32) (f_stack_8 : Nat → Int32) : p_X4_purr_8 F p2 p3 p4 x_size f_steps x_b1_arches x_b1_cats x_b1_hour f_b1_sag f_b1_load f_b1_joy f_b1_grief f_b1_bowl Post (n + 1) y5_8 x_top_8 f_stack_8 = ((x_size ≤ y5_8 → (p_X4_purr_122 F x_top_8 f_stack_8 Post )) ∧ (¬ x_size ≤ y5_8 → (((40 : Int32) ≤ y5_8 → (p_X4_purr_122 F x_top_8 f_stack_8 Post )) ∧ (¬ (40 : Int32) ≤ y5_8 → (vp_in y5_8 40 ∧ (((f_steps y5_8.toNatClampNeg) < 0 → ((¬ (f_steps y5_8.toNatClampNeg) = (-256 : Int32) → (p_X4_rankOf F (-(f_steps y5_8.toNatClampNeg)) (fun (r_70 : Int32) => ((r_70 ≤ 0 → (p_X6_thing F (-(f_steps y5_8.toNatClampNeg)) p2 p3 p4 x_b1_arches x_b1_cats x_b1_hour f_b1_sag f_b1_load f_b1_joy f_b1_grief f_b1_bowl (fun (r_110 : Int32) => (p_X4_push F r_110 x_top_8 f_stack_8 (fun (u_113 : (Int32 × (Nat → Int32))) => (p_X4_purr_116 F y5_8 (p_X4_purr_8 F p2 p3 p4 x_size f_steps x_b1_arches x_b1_cats x_b1_hour f_b1_sag f_b1_load f_b1_joy f_b1_grief f_b1_bowl Post n) Post u_113.1 u_113.2)))))) ∧ (¬ r_70 ≤ 0 → (p_X4_pop F x_top_8 f_stack_8 (fun (r_77 : Int32) (u_77 : Int32) => (p_X4_pop F u_77 f_stack_8 (fun (r_87 : Int32) (u_87 : Int32) => (p_X4_joined F (-(f_steps y5_8.toNatClampNeg)) r_87 r_77 (fun (r_92 : Int32) => (p_X4_push F r_92 u_87 f_stack_8 (fun (u_95 : (Int32 × (Nat → Int32))) => (p_X4_purr_116 F y5_8 (p_X4_purr_8 F p2 p3 p4 x_size f_steps x_b1_arches x_b1_cats x_b1_hour f_b1_sag f_b1_load f_b1_joy f_b1_grief f_b1_bowl Post n) Post u_95.1 u_95.2)))))))))))))) ∧ ((f_steps y5_8.toNatClampNeg) = (-256 : Int32) → (p_X4_pop F x_top_8 f_stack_8 (fun (r_57 : Int32) (u_57 : Int32) => (p_X4_push F (-r_57) u_57 f_stack_8 (fun (u_61 : (Int32 × (Nat → Int32))) => (p_X4_purr_116 F y5_8 (p_X4_purr_8 F p2 p3 p4 x_size f_steps x_b1_arches x_b1_cats x_b1_hour f_b1_sag f_b1_load f_b1_joy f_b1_grief f_b1_bowl Post n) Post u_61.1 u_61.2)))))))) ∧ (¬ (f_steps y5_8.toNatClampNeg) < 0 → (p_X4_push F (f_steps y5_8.toNatClampNeg) x_top_8 f_stack_8 (fun (u_41 : (Int32 × (Nat → Int32))) => (p_X4_purr_116 F y5_8 (p_X4_purr_8 F p2 p3 p4 x_size f_steps x_b1_arches x_b1_cats x_b1_hour f_b1_sag f_b1_load f_b1_joy f_b1_grief f_b1_bowl Post n) Post u_41.1 u_41.2)))))))))) := rfl
def p_X4_purr (F : Nat) (p2 : Int32) (p3 : Int32) (p4 : Int32) (x_size : Int32) (f_steps : Nat → Int32) (f_stack : Nat → Int32) (x_b1_arches : Int32) (x_b1_cats : Int32) (x_b1_hour : Int32) (f_b1_sag : Nat → Int32) (f_b1_load : Nat → Int32) (f_b1_joy : Nat → Int32) (f_b1_grief : Nat → Int32) (f_b1_bowl : Nat → Int32) (Post : Int32 → (Int32 × (Nat → Int32)) → Prop) : Prop := (p_X4_purr_8 F p2 p3 p4 x_size f_steps x_b1_arches x_b1_cats x_b1_hour f_b1_sag f_b1_load f_b1_joy f_b1_grief f_b1_bowl Post F (0 : Int32) (0 : Int32) f_stack)
set_option maxHeartbeats 4000000 in
set_option maxRecDepth 100000 in
theorem c_X4_purr (l : Launch) (D : va_G) (cT : Nat → ClassId) (F : Nat) (h : Nat) (b1 : Nat) (p2 : Int32) (p3 : Int32) (p4 : Int32) (q_steps : Nat) (q_stack : Nat) (x_size : Int32) (x_top : Int32) (x_open : Int32) (x_compared : Int32) (x_digits : Int32) (x_wantsThing : Int32) (f_steps : Nat → Int32) (f_stack : Nat → Int32) (q_b1_load : Nat) (q_b1_sag : Nat) (q_b1_joy : Nat) (q_b1_bowl : Nat) (q_b1_grief : Nat) (w_b1_place : Value) (x_b1_arches : Int32) (x_b1_cats : Int32) (x_b1_store : Int32) (x_b1_hour : Int32) (x_b1_drops : Int32) (f_b1_sag : Nat → Int32) (f_b1_load : Nat → Int32) (f_b1_joy : Nat → Int32) (f_b1_grief : Nat → Int32) (f_b1_bowl : Nat → Int32) (Post : Int32 → (Int32 × (Nat → Int32)) → Prop) (hg : p_X4_purr F p2 p3 p4 x_size f_steps f_stack x_b1_arches x_b1_cats x_b1_hour f_b1_sag f_b1_load f_b1_joy f_b1_grief f_b1_bowl Post) : MWi l D cT yX4_purr cX4_purr 8 (some .int) 2 50 0 0 [.ref h, .ref b1, .int p2, .int p3, .int p4] [(h, oX4 (.ref q_steps) (.ref q_stack) (.int x_size) (.int x_top) (.int x_open) (.int x_compared) (.int x_digits) (.int x_wantsThing)), (q_steps, aI cT 40 f_steps), (q_stack, aI cT 40 f_stack), (b1, oX6 (.ref q_b1_load) (.ref q_b1_sag) (.ref q_b1_joy) (.ref q_b1_bowl) (.ref q_b1_grief) w_b1_place (.int x_b1_arches) (.int x_b1_cats) (.int x_b1_store) (.int x_b1_hour) (.int x_b1_drops)), (q_b1_sag, aI cT 6 f_b1_sag), (q_b1_load, aI cT 6 f_b1_load), (q_b1_joy, aI cT 8 f_b1_joy), (q_b1_grief, aI cT 8 f_b1_grief), (q_b1_bowl, aI cT 8 f_b1_bowl)] Post (fun (u : (Int32 × (Nat → Int32))) => [(h, oX4 (.ref q_steps) (.ref q_stack) (.int x_size) (.int u.1) (.int x_open) (.int x_compared) (.int x_digits) (.int x_wantsThing)), (q_steps, aI cT 40 f_steps), (q_stack, aI cT 40 u.2), (b1, oX6 (.ref q_b1_load) (.ref q_b1_sag) (.ref q_b1_joy) (.ref q_b1_bowl) (.ref q_b1_grief) w_b1_place (.int x_b1_arches) (.int x_b1_cats) (.int x_b1_store) (.int x_b1_hour) (.int x_b1_drops)), (q_b1_sag, aI cT 6 f_b1_sag), (q_b1_load, aI cT 6 f_b1_load), (q_b1_joy, aI cT 8 f_b1_joy), (q_b1_grief, aI cT 8 f_b1_grief), (q_b1_bowl, aI cT 8 f_b1_bowl)]) := by
  refine MWi.of (by decide) (Nat.le_of_ble_eq_true rfl) ?_
  intro p e s m below meth c A hA C0 hnm hr hP hD ls hl
  have hl : lv_has ls 8 [(0, .ref h), (1, .ref b1), (2, .int p2), (3, .int p3), (4, .int p4)] := hl
  have hx := C0.x
  have hb := C0.b
  have hS : va_S A s.heap s.heap [] := va_S.rf
  have hP : va_P D cls9 [(h, oX4 (.ref q_steps) (.ref q_stack) (.int x_size) (.int x_top) (.int x_open) (.int x_compared) (.int x_digits) (.int x_wantsThing)), (q_steps, aI cT 40 f_steps), (q_stack, aI cT 40 f_stack), (b1, oX6 (.ref q_b1_load) (.ref q_b1_sag) (.ref q_b1_joy) (.ref q_b1_bowl) (.ref q_b1_grief) w_b1_place (.int x_b1_arches) (.int x_b1_cats) (.int x_b1_store) (.int x_b1_hour) (.int x_b1_drops)), (q_b1_sag, aI cT 6 f_b1_sag), (q_b1_load, aI cT 6 f_b1_load), (q_b1_joy, aI cT 8 f_b1_joy), (q_b1_grief, aI cT 8 f_b1_grief), (q_b1_bowl, aI cT 8 f_b1_bowl)] s.heap := hP
  have hD : va_D A [(h, oX4 (.ref q_steps) (.ref q_stack) (.int x_size) (.int x_top) (.int x_open) (.int x_compared) (.int x_digits) (.int x_wantsThing)), (q_steps, aI cT 40 f_steps), (q_stack, aI cT 40 f_stack), (b1, oX6 (.ref q_b1_load) (.ref q_b1_sag) (.ref q_b1_joy) (.ref q_b1_bowl) (.ref q_b1_grief) w_b1_place (.int x_b1_arches) (.int x_b1_cats) (.int x_b1_store) (.int x_b1_hour) (.int x_b1_drops)), (q_b1_sag, aI cT 6 f_b1_sag), (q_b1_load, aI cT 6 f_b1_load), (q_b1_joy, aI cT 8 f_b1_joy), (q_b1_grief, aI cT 8 f_b1_grief), (q_b1_bowl, aI cT 8 f_b1_bowl)] := hD
  have L122 : ∀ (x_top_8 : Int32) (f_stack_8 : Nat → Int32) (H : Heap) (locs : List Loc) (ls : Array Slot), p_X4_purr_122 F x_top_8 f_stack_8 Post → va_P D cls9 [(h, oX4 (.ref q_steps) (.ref q_stack) (.int x_size) (.int x_top_8) (.int x_open) (.int x_compared) (.int x_digits) (.int x_wantsThing)), (q_steps, aI cT 40 f_steps), (q_stack, aI cT 40 f_stack_8), (b1, oX6 (.ref q_b1_load) (.ref q_b1_sag) (.ref q_b1_joy) (.ref q_b1_bowl) (.ref q_b1_grief) w_b1_place (.int x_b1_arches) (.int x_b1_cats) (.int x_b1_store) (.int x_b1_hour) (.int x_b1_drops)), (q_b1_sag, aI cT 6 f_b1_sag), (q_b1_load, aI cT 6 f_b1_load), (q_b1_joy, aI cT 8 f_b1_joy), (q_b1_grief, aI cT 8 f_b1_grief), (q_b1_bowl, aI cT 8 f_b1_bowl)] H → va_D A [(h, oX4 (.ref q_steps) (.ref q_stack) (.int x_size) (.int x_top_8) (.int x_open) (.int x_compared) (.int x_digits) (.int x_wantsThing)), (q_steps, aI cT 40 f_steps), (q_stack, aI cT 40 f_stack_8), (b1, oX6 (.ref q_b1_load) (.ref q_b1_sag) (.ref q_b1_joy) (.ref q_b1_bowl) (.ref q_b1_grief) w_b1_place (.int x_b1_arches) (.int x_b1_cats) (.int x_b1_store) (.int x_b1_hour) (.int x_b1_drops)), (q_b1_sag, aI cT 6 f_b1_sag), (q_b1_load, aI cT 6 f_b1_load), (q_b1_joy, aI cT 8 f_b1_joy), (q_b1_grief, aI cT 8 f_b1_grief), (q_b1_bowl, aI cT 8 f_b1_bowl)] → va_S A s.heap H locs → lv_has ls 8 [(0, .ref h)] → W p l e (rmO 2 50 0 0) s m ([.ref h, .ref b1, .int p2, .int p3, .int p4] : List Value).toArray below meth c H locs 0 0 (MQ below (va_Qi Post (cB D A (fun (u : (Int32 × (Nat → Int32))) => [(h, oX4 (.ref q_steps) (.ref q_stack) (.int x_size) (.int u.1) (.int x_open) (.int x_compared) (.int x_digits) (.int x_wantsThing)), (q_steps, aI cT 40 f_steps), (q_stack, aI cT 40 u.2), (b1, oX6 (.ref q_b1_load) (.ref q_b1_sag) (.ref q_b1_joy) (.ref q_b1_bowl) (.ref q_b1_grief) w_b1_place (.int x_b1_arches) (.int x_b1_cats) (.int x_b1_store) (.int x_b1_hour) (.int x_b1_drops)), (q_b1_sag, aI cT 6 f_b1_sag), (q_b1_load, aI cT 6 f_b1_load), (q_b1_joy, aI cT 8 f_b1_joy), (q_b1_grief, aI cT 8 f_b1_grief), (q_b1_bowl, aI cT 8 f_b1_bowl)])) A) ([.ref h, .ref b1, .int p2, .int p3, .int p4] : List Value).toArray s 0 0 A) (F0 m 122 ls []) := by
    intro x_top_8 f_stack_8 H locs ls hg hP hD hS hl
    unfold p_X4_purr_122 at hg
    refine lv_aload_n hx hb dX4_purr_122 rfl (lv_at hl 0 rfl) ?_
    refine k_Vi (rest := []) (wr := [(q_steps, aI cT 40 f_steps), (b1, oX6 (.ref q_b1_load) (.ref q_b1_sag) (.ref q_b1_joy) (.ref q_b1_bowl) (.ref q_b1_grief) w_b1_place (.int x_b1_arches) (.int x_b1_cats) (.int x_b1_store) (.int x_b1_hour) (.int x_b1_drops)), (q_b1_sag, aI cT 6 f_b1_sag), (q_b1_load, aI cT 6 f_b1_load), (q_b1_joy, aI cT 8 f_b1_joy), (q_b1_grief, aI cT 8 f_b1_grief), (q_b1_bowl, aI cT 8 f_b1_bowl)]) (w2 := fun u_123 => [(q_steps, aI cT 40 f_steps), (b1, oX6 (.ref q_b1_load) (.ref q_b1_sag) (.ref q_b1_joy) (.ref q_b1_bowl) (.ref q_b1_grief) w_b1_place (.int x_b1_arches) (.int x_b1_cats) (.int x_b1_store) (.int x_b1_hour) (.int x_b1_drops)), (q_b1_sag, aI cT 6 f_b1_sag), (q_b1_load, aI cT 6 f_b1_load), (q_b1_joy, aI cT 8 f_b1_joy), (q_b1_grief, aI cT 8 f_b1_grief), (q_b1_bowl, aI cT 8 f_b1_bowl), (h, oX4 (.ref q_steps) (.ref q_stack) (.int x_size) (.int u_123) (.int x_open) (.int x_compared) (.int x_digits) (.int x_wantsThing)), (q_stack, aI cT 40 f_stack_8)]) C0 lk_X4_76 (c_X4_pop l D cT F h (.ref q_steps) q_stack x_size x_top_8 x_open x_compared x_digits x_wantsThing f_stack_8 _ hg) hP hD hS hA [0, 2] [1, 3, 4, 5, 6, 7, 8] (by decide +kernel) rfl rfl (fun _ => rfl) rfl rfl ⟨Nat.le_of_ble_eq_true rfl, Nat.le_of_ble_eq_true rfl⟩ rfl hl.1 rfl (Nat.le_of_ble_eq_true rfl) dX4_purr_123 ⟨Nat.le_of_ble_eq_true rfl, Nat.le_of_ble_eq_true rfl⟩ ?_
    intro r_123 u_123 H locs hg hP hD hS
    refine k_Nxi (rest := []) C0 lk_X4_93 (c_X7_asDigit l D cT F r_123 _ hg) hP hD hS hA [] (by decide +kernel) rfl ⟨Nat.le_of_ble_eq_true rfl, Nat.le_of_ble_eq_true rfl⟩ rfl hl.1 rfl (Nat.le_of_ble_eq_true rfl) dX4_purr_126 ⟨Nat.le_of_ble_eq_true rfl, Nat.le_of_ble_eq_true rfl⟩ (fun r_126 hg => ?_)
    exact k_iret C0 hr (u_123, f_stack_8) hg (subP hP [7, 0, 8, 1, 2, 3, 4, 5, 6] rfl) (hD.sub [7, 0, 8, 1, 2, 3, 4, 5, 6] (nd2_ok _ (by decide +kernel)) rfl) hS dX4_purr_129
  have L8 : ∀ (n8 : Nat) (y5_8 : Int32) (x_top_8 : Int32) (f_stack_8 : Nat → Int32) (H : Heap) (locs : List Loc) (ls : Array Slot), p_X4_purr_8 F p2 p3 p4 x_size f_steps x_b1_arches x_b1_cats x_b1_hour f_b1_sag f_b1_load f_b1_joy f_b1_grief f_b1_bowl Post n8 y5_8 x_top_8 f_stack_8 → va_P D cls9 [(h, oX4 (.ref q_steps) (.ref q_stack) (.int x_size) (.int x_top_8) (.int x_open) (.int x_compared) (.int x_digits) (.int x_wantsThing)), (q_steps, aI cT 40 f_steps), (q_stack, aI cT 40 f_stack_8), (b1, oX6 (.ref q_b1_load) (.ref q_b1_sag) (.ref q_b1_joy) (.ref q_b1_bowl) (.ref q_b1_grief) w_b1_place (.int x_b1_arches) (.int x_b1_cats) (.int x_b1_store) (.int x_b1_hour) (.int x_b1_drops)), (q_b1_sag, aI cT 6 f_b1_sag), (q_b1_load, aI cT 6 f_b1_load), (q_b1_joy, aI cT 8 f_b1_joy), (q_b1_grief, aI cT 8 f_b1_grief), (q_b1_bowl, aI cT 8 f_b1_bowl)] H → va_D A [(h, oX4 (.ref q_steps) (.ref q_stack) (.int x_size) (.int x_top_8) (.int x_open) (.int x_compared) (.int x_digits) (.int x_wantsThing)), (q_steps, aI cT 40 f_steps), (q_stack, aI cT 40 f_stack_8), (b1, oX6 (.ref q_b1_load) (.ref q_b1_sag) (.ref q_b1_joy) (.ref q_b1_bowl) (.ref q_b1_grief) w_b1_place (.int x_b1_arches) (.int x_b1_cats) (.int x_b1_store) (.int x_b1_hour) (.int x_b1_drops)), (q_b1_sag, aI cT 6 f_b1_sag), (q_b1_load, aI cT 6 f_b1_load), (q_b1_joy, aI cT 8 f_b1_joy), (q_b1_grief, aI cT 8 f_b1_grief), (q_b1_bowl, aI cT 8 f_b1_bowl)] → va_S A s.heap H locs → lv_has ls 8 [(0, .ref h), (1, .ref b1), (2, .int p2), (3, .int p3), (4, .int p4), (5, .int y5_8)] → W p l e (rmO 2 50 0 0) s m ([.ref h, .ref b1, .int p2, .int p3, .int p4] : List Value).toArray below meth c H locs 0 0 (MQ below (va_Qi Post (cB D A (fun (u : (Int32 × (Nat → Int32))) => [(h, oX4 (.ref q_steps) (.ref q_stack) (.int x_size) (.int u.1) (.int x_open) (.int x_compared) (.int x_digits) (.int x_wantsThing)), (q_steps, aI cT 40 f_steps), (q_stack, aI cT 40 u.2), (b1, oX6 (.ref q_b1_load) (.ref q_b1_sag) (.ref q_b1_joy) (.ref q_b1_bowl) (.ref q_b1_grief) w_b1_place (.int x_b1_arches) (.int x_b1_cats) (.int x_b1_store) (.int x_b1_hour) (.int x_b1_drops)), (q_b1_sag, aI cT 6 f_b1_sag), (q_b1_load, aI cT 6 f_b1_load), (q_b1_joy, aI cT 8 f_b1_joy), (q_b1_grief, aI cT 8 f_b1_grief), (q_b1_bowl, aI cT 8 f_b1_bowl)])) A) ([.ref h, .ref b1, .int p2, .int p3, .int p4] : List Value).toArray s 0 0 A) (F0 m 8 ls []) := by
    intro n8
    induction n8 with
    | zero =>
      intro y5_8 x_top_8 f_stack_8 H locs ls hg hP hD hS hl
      exact False.elim hg
    | succ n8 ih8 =>
      have L116 : ∀ (y5_8 : Int32) (x_top_116 : Int32) (f_stack_116 : Nat → Int32) (H : Heap) (locs : List Loc) (ls : Array Slot), p_X4_purr_116 F y5_8 (p_X4_purr_8 F p2 p3 p4 x_size f_steps x_b1_arches x_b1_cats x_b1_hour f_b1_sag f_b1_load f_b1_joy f_b1_grief f_b1_bowl Post n8) Post x_top_116 f_stack_116 → va_P D cls9 [(h, oX4 (.ref q_steps) (.ref q_stack) (.int x_size) (.int x_top_116) (.int x_open) (.int x_compared) (.int x_digits) (.int x_wantsThing)), (q_steps, aI cT 40 f_steps), (q_stack, aI cT 40 f_stack_116), (b1, oX6 (.ref q_b1_load) (.ref q_b1_sag) (.ref q_b1_joy) (.ref q_b1_bowl) (.ref q_b1_grief) w_b1_place (.int x_b1_arches) (.int x_b1_cats) (.int x_b1_store) (.int x_b1_hour) (.int x_b1_drops)), (q_b1_sag, aI cT 6 f_b1_sag), (q_b1_load, aI cT 6 f_b1_load), (q_b1_joy, aI cT 8 f_b1_joy), (q_b1_grief, aI cT 8 f_b1_grief), (q_b1_bowl, aI cT 8 f_b1_bowl)] H → va_D A [(h, oX4 (.ref q_steps) (.ref q_stack) (.int x_size) (.int x_top_116) (.int x_open) (.int x_compared) (.int x_digits) (.int x_wantsThing)), (q_steps, aI cT 40 f_steps), (q_stack, aI cT 40 f_stack_116), (b1, oX6 (.ref q_b1_load) (.ref q_b1_sag) (.ref q_b1_joy) (.ref q_b1_bowl) (.ref q_b1_grief) w_b1_place (.int x_b1_arches) (.int x_b1_cats) (.int x_b1_store) (.int x_b1_hour) (.int x_b1_drops)), (q_b1_sag, aI cT 6 f_b1_sag), (q_b1_load, aI cT 6 f_b1_load), (q_b1_joy, aI cT 8 f_b1_joy), (q_b1_grief, aI cT 8 f_b1_grief), (q_b1_bowl, aI cT 8 f_b1_bowl)] → va_S A s.heap H locs → lv_has ls 8 [(0, .ref h), (1, .ref b1), (2, .int p2), (3, .int p3), (4, .int p4), (5, .int y5_8)] → W p l e (rmO 2 50 0 0) s m ([.ref h, .ref b1, .int p2, .int p3, .int p4] : List Value).toArray below meth c H locs 0 0 (MQ below (va_Qi Post (cB D A (fun (u : (Int32 × (Nat → Int32))) => [(h, oX4 (.ref q_steps) (.ref q_stack) (.int x_size) (.int u.1) (.int x_open) (.int x_compared) (.int x_digits) (.int x_wantsThing)), (q_steps, aI cT 40 f_steps), (q_stack, aI cT 40 u.2), (b1, oX6 (.ref q_b1_load) (.ref q_b1_sag) (.ref q_b1_joy) (.ref q_b1_bowl) (.ref q_b1_grief) w_b1_place (.int x_b1_arches) (.int x_b1_cats) (.int x_b1_store) (.int x_b1_hour) (.int x_b1_drops)), (q_b1_sag, aI cT 6 f_b1_sag), (q_b1_load, aI cT 6 f_b1_load), (q_b1_joy, aI cT 8 f_b1_joy), (q_b1_grief, aI cT 8 f_b1_grief), (q_b1_bowl, aI cT 8 f_b1_bowl)])) A) ([.ref h, .ref b1, .int p2, .int p3, .int p4] : List Value).toArray s 0 0 A) (F0 m 116 ls []) := by
        intro y5_8 x_top_116 f_stack_116 H locs ls hg hP hD hS hl
        unfold p_X4_purr_116 at hg
        refine lv_iinc (v := (y5_8 + (1 : Int32))) (lv' := [(5, .int (y5_8 + (1 : Int32))), (0, .ref h), (1, .ref b1), (2, .int p2), (3, .int p3), (4, .int p4)]) hx hb dX4_purr_116 hl (k := 5) rfl rfl (by decide) rfl (fun ls hl => ?_)
        refine lv_goto (tgt := 8) hx hb dX4_purr_119 (by decide) ?_
        exact ih8 (y5_8 + (1 : Int32)) x_top_116 f_stack_116 _ _ _ hg hP hD hS (lv_sub hl [1, 2, 3, 4, 5, 0] rfl)
      intro y5_8 x_top_8 f_stack_8 H locs ls hg hP hD hS hl
      rw [p_X4_purr_8_s] at hg
      refine lv_iload hx hb dX4_purr_8 (lv_at hl 5 rfl) ?_
      refine lv_aload_n hx hb dX4_purr_10 rfl (lv_at hl 0 rfl) ?_
      refine gf_X4_52 C0 hP 0 rfl rfl dX4_purr_11 ?_
      refine lv_icmp_ge (tgt := 122) hx hb dX4_purr_14 (by decide) (fun c_14 => ?_) (fun c_14 => ?_)
      · have hg := hg.1 c_14
        exact L122 x_top_8 f_stack_8 _ _ _ hg hP hD hS (lv_sub hl [0] rfl)
      have hg := hg.2 c_14
      refine lv_iload hx hb dX4_purr_17 (lv_at hl 5 rfl) ?_
      refine lv_bipush (v := (40 : Int32)) hx hb dX4_purr_19 (by decide) ?_
      refine lv_icmp_ge (tgt := 122) hx hb dX4_purr_21 (by decide) (fun c_21 => ?_) (fun c_21 => ?_)
      · have hg := hg.1 c_21
        exact L122 x_top_8 f_stack_8 _ _ _ hg hP hD hS (lv_sub hl [0] rfl)
      have hg := hg.2 c_21
      refine lv_aload_n hx hb dX4_purr_24 rfl (lv_at hl 0 rfl) ?_
      refine gf_X4_9 C0 hP 0 rfl rfl dX4_purr_25 ?_
      refine lv_iload hx hb dX4_purr_28 (lv_at hl 5 rfl) ?_
      obtain ⟨g_30, hg⟩ := hg
      refine k_iald C0 hP 1 rfl g_30 dX4_purr_30 ?_
      refine lv_istore (lv' := [(6, .int (f_steps y5_8.toNatClampNeg)), (0, .ref h), (1, .ref b1), (2, .int p2), (3, .int p3), (4, .int p4), (5, .int y5_8)]) hx hb dX4_purr_31 hl (by decide) rfl (fun ls hl => ?_)
      refine lv_iload hx hb dX4_purr_33 (lv_at hl 0 rfl) ?_
      refine lv_if_lt (tgt := 47) hx hb dX4_purr_35 (by decide) (fun c_35 => ?_) (fun c_35 => ?_)
      · have hg := hg.1 c_35
        refine lv_iload hx hb dX4_purr_47 (lv_at hl 0 rfl) ?_
        refine lv_sipush (v := (-256 : Int32)) hx hb dX4_purr_49 (by decide) ?_
        refine lv_icmp_ne (tgt := 67) hx hb dX4_purr_52 (by decide) (fun c_52 => ?_) (fun c_52 => ?_)
        · have hg := hg.1 c_52
          refine lv_iload hx hb dX4_purr_67 (lv_at hl 0 rfl) ?_
          refine lv_ineg hx hb dX4_purr_69 ?_
          refine k_Sxi (rest := []) C0 lk_X4_80 (c_X4_rankOf l D cT F (-(f_steps y5_8.toNatClampNeg)) _ hg) hP hD hS hA [] (by decide +kernel) rfl ⟨Nat.le_of_ble_eq_true rfl, Nat.le_of_ble_eq_true rfl⟩ rfl hl.1 rfl (Nat.le_of_ble_eq_true rfl) dX4_purr_70 ⟨Nat.le_of_ble_eq_true rfl, Nat.le_of_ble_eq_true rfl⟩ (fun r_70 hg => ?_)
          refine lv_if_le (tgt := 101) hx hb dX4_purr_73 (by decide) (fun c_73 => ?_) (fun c_73 => ?_)
          · have hg := hg.1 c_73
            refine lv_aload_n hx hb dX4_purr_101 rfl (lv_at hl 1 rfl) ?_
            refine lv_aload_n hx hb dX4_purr_102 rfl (lv_at hl 2 rfl) ?_
            refine lv_iload hx hb dX4_purr_103 (lv_at hl 0 rfl) ?_
            refine lv_ineg hx hb dX4_purr_105 ?_
            refine lv_iload_n hx hb dX4_purr_106 rfl (lv_at hl 3 rfl) ?_
            refine lv_iload_n hx hb dX4_purr_107 rfl (lv_at hl 4 rfl) ?_
            refine lv_iload hx hb dX4_purr_108 (lv_at hl 5 rfl) ?_
            refine k_Vxi (rest := [.ref h]) C0 lk_X4_87 (c_X6_thing l D cT F b1 (-(f_steps y5_8.toNatClampNeg)) p2 p3 p4 q_b1_load q_b1_sag q_b1_joy q_b1_bowl q_b1_grief w_b1_place x_b1_arches x_b1_cats x_b1_store x_b1_hour x_b1_drops f_b1_sag f_b1_load f_b1_joy f_b1_grief f_b1_bowl _ hg) hP hD hS hA [3, 4, 5, 6, 7, 8] (by decide +kernel) rfl rfl rfl ⟨Nat.le_of_ble_eq_true rfl, Nat.le_of_ble_eq_true rfl⟩ rfl hl.1 rfl (Nat.le_of_ble_eq_true rfl) dX4_purr_110 ⟨Nat.le_of_ble_eq_true rfl, Nat.le_of_ble_eq_true rfl⟩ (fun r_110 hg => ?_)
            refine k_Vv (rest := []) (wr := [(q_steps, aI cT 40 f_steps), (b1, oX6 (.ref q_b1_load) (.ref q_b1_sag) (.ref q_b1_joy) (.ref q_b1_bowl) (.ref q_b1_grief) w_b1_place (.int x_b1_arches) (.int x_b1_cats) (.int x_b1_store) (.int x_b1_hour) (.int x_b1_drops)), (q_b1_sag, aI cT 6 f_b1_sag), (q_b1_load, aI cT 6 f_b1_load), (q_b1_joy, aI cT 8 f_b1_joy), (q_b1_grief, aI cT 8 f_b1_grief), (q_b1_bowl, aI cT 8 f_b1_bowl)]) (w2 := fun u_113 => [(q_steps, aI cT 40 f_steps), (b1, oX6 (.ref q_b1_load) (.ref q_b1_sag) (.ref q_b1_joy) (.ref q_b1_bowl) (.ref q_b1_grief) w_b1_place (.int x_b1_arches) (.int x_b1_cats) (.int x_b1_store) (.int x_b1_hour) (.int x_b1_drops)), (q_b1_sag, aI cT 6 f_b1_sag), (q_b1_load, aI cT 6 f_b1_load), (q_b1_joy, aI cT 8 f_b1_joy), (q_b1_grief, aI cT 8 f_b1_grief), (q_b1_bowl, aI cT 8 f_b1_bowl), (h, oX4 (.ref q_steps) (.ref q_stack) (.int x_size) (.int u_113.1) (.int x_open) (.int x_compared) (.int x_digits) (.int x_wantsThing)), (q_stack, aI cT 40 u_113.2)]) C0 lk_X4_73 (c_X4_push l D cT F h r_110 (.ref q_steps) q_stack x_size x_top_8 x_open x_compared x_digits x_wantsThing f_stack_8 _ hg) hP hD hS hA [0, 2] [1, 3, 4, 5, 6, 7, 8] (by decide +kernel) rfl rfl (fun _ => rfl) rfl rfl ⟨Nat.le_of_ble_eq_true rfl, Nat.le_of_ble_eq_true rfl⟩ rfl hl.1 rfl (Nat.le_of_ble_eq_true rfl) dX4_purr_113 ⟨Nat.le_of_ble_eq_true rfl, Nat.le_of_ble_eq_true rfl⟩ ?_
            intro u_113 H locs hg hP hD hS
            exact L116 y5_8 u_113.1 u_113.2 _ _ _ hg (subP hP [7, 0, 8, 1, 2, 3, 4, 5, 6] rfl) (hD.sub [7, 0, 8, 1, 2, 3, 4, 5, 6] (nd2_ok _ (by decide +kernel)) rfl) hS (lv_sub hl [1, 2, 3, 4, 5, 6] rfl)
          have hg := hg.2 c_73
          refine lv_aload_n hx hb dX4_purr_76 rfl (lv_at hl 1 rfl) ?_
          refine k_Vi (rest := []) (wr := [(q_steps, aI cT 40 f_steps), (b1, oX6 (.ref q_b1_load) (.ref q_b1_sag) (.ref q_b1_joy) (.ref q_b1_bowl) (.ref q_b1_grief) w_b1_place (.int x_b1_arches) (.int x_b1_cats) (.int x_b1_store) (.int x_b1_hour) (.int x_b1_drops)), (q_b1_sag, aI cT 6 f_b1_sag), (q_b1_load, aI cT 6 f_b1_load), (q_b1_joy, aI cT 8 f_b1_joy), (q_b1_grief, aI cT 8 f_b1_grief), (q_b1_bowl, aI cT 8 f_b1_bowl)]) (w2 := fun u_77 => [(q_steps, aI cT 40 f_steps), (b1, oX6 (.ref q_b1_load) (.ref q_b1_sag) (.ref q_b1_joy) (.ref q_b1_bowl) (.ref q_b1_grief) w_b1_place (.int x_b1_arches) (.int x_b1_cats) (.int x_b1_store) (.int x_b1_hour) (.int x_b1_drops)), (q_b1_sag, aI cT 6 f_b1_sag), (q_b1_load, aI cT 6 f_b1_load), (q_b1_joy, aI cT 8 f_b1_joy), (q_b1_grief, aI cT 8 f_b1_grief), (q_b1_bowl, aI cT 8 f_b1_bowl), (h, oX4 (.ref q_steps) (.ref q_stack) (.int x_size) (.int u_77) (.int x_open) (.int x_compared) (.int x_digits) (.int x_wantsThing)), (q_stack, aI cT 40 f_stack_8)]) C0 lk_X4_76 (c_X4_pop l D cT F h (.ref q_steps) q_stack x_size x_top_8 x_open x_compared x_digits x_wantsThing f_stack_8 _ hg) hP hD hS hA [0, 2] [1, 3, 4, 5, 6, 7, 8] (by decide +kernel) rfl rfl (fun _ => rfl) rfl rfl ⟨Nat.le_of_ble_eq_true rfl, Nat.le_of_ble_eq_true rfl⟩ rfl hl.1 rfl (Nat.le_of_ble_eq_true rfl) dX4_purr_77 ⟨Nat.le_of_ble_eq_true rfl, Nat.le_of_ble_eq_true rfl⟩ ?_
          intro r_77 u_77 H locs hg hP hD hS
          refine lv_istore (lv' := [(7, .int r_77), (6, .int (f_steps y5_8.toNatClampNeg)), (0, .ref h), (1, .ref b1), (2, .int p2), (3, .int p3), (4, .int p4), (5, .int y5_8)]) hx hb dX4_purr_80 hl (by decide) rfl (fun ls hl => ?_)
          refine lv_aload_n hx hb dX4_purr_82 rfl (lv_at hl 2 rfl) ?_
          refine lv_iload hx hb dX4_purr_83 (lv_at hl 1 rfl) ?_
          refine lv_ineg hx hb dX4_purr_85 ?_
          refine lv_aload_n hx hb dX4_purr_86 rfl (lv_at hl 2 rfl) ?_
          refine k_Vi (rest := [.int (-(f_steps y5_8.toNatClampNeg)), .ref h]) (wr := [(q_steps, aI cT 40 f_steps), (b1, oX6 (.ref q_b1_load) (.ref q_b1_sag) (.ref q_b1_joy) (.ref q_b1_bowl) (.ref q_b1_grief) w_b1_place (.int x_b1_arches) (.int x_b1_cats) (.int x_b1_store) (.int x_b1_hour) (.int x_b1_drops)), (q_b1_sag, aI cT 6 f_b1_sag), (q_b1_load, aI cT 6 f_b1_load), (q_b1_joy, aI cT 8 f_b1_joy), (q_b1_grief, aI cT 8 f_b1_grief), (q_b1_bowl, aI cT 8 f_b1_bowl)]) (w2 := fun u_87 => [(q_steps, aI cT 40 f_steps), (b1, oX6 (.ref q_b1_load) (.ref q_b1_sag) (.ref q_b1_joy) (.ref q_b1_bowl) (.ref q_b1_grief) w_b1_place (.int x_b1_arches) (.int x_b1_cats) (.int x_b1_store) (.int x_b1_hour) (.int x_b1_drops)), (q_b1_sag, aI cT 6 f_b1_sag), (q_b1_load, aI cT 6 f_b1_load), (q_b1_joy, aI cT 8 f_b1_joy), (q_b1_grief, aI cT 8 f_b1_grief), (q_b1_bowl, aI cT 8 f_b1_bowl), (h, oX4 (.ref q_steps) (.ref q_stack) (.int x_size) (.int u_87) (.int x_open) (.int x_compared) (.int x_digits) (.int x_wantsThing)), (q_stack, aI cT 40 f_stack_8)]) C0 lk_X4_76 (c_X4_pop l D cT F h (.ref q_steps) q_stack x_size u_77 x_open x_compared x_digits x_wantsThing f_stack_8 _ hg) hP hD hS hA [7, 8] [0, 1, 2, 3, 4, 5, 6] (by decide +kernel) rfl rfl (fun _ => rfl) rfl rfl ⟨Nat.le_of_ble_eq_true rfl, Nat.le_of_ble_eq_true rfl⟩ rfl hl.1 rfl (Nat.le_of_ble_eq_true rfl) dX4_purr_87 ⟨Nat.le_of_ble_eq_true rfl, Nat.le_of_ble_eq_true rfl⟩ ?_
          intro r_87 u_87 H locs hg hP hD hS
          refine lv_iload hx hb dX4_purr_90 (lv_at hl 0 rfl) ?_
          refine k_Sxi (rest := [.ref h]) C0 lk_X4_83 (c_X4_joined l D cT F (-(f_steps y5_8.toNatClampNeg)) r_87 r_77 _ hg) hP hD hS hA [] (by decide +kernel) rfl ⟨Nat.le_of_ble_eq_true rfl, Nat.le_of_ble_eq_true rfl⟩ rfl hl.1 rfl (Nat.le_of_ble_eq_true rfl) dX4_purr_92 ⟨Nat.le_of_ble_eq_true rfl, Nat.le_of_ble_eq_true rfl⟩ (fun r_92 hg => ?_)
          refine k_Vv (rest := []) (wr := [(q_steps, aI cT 40 f_steps), (b1, oX6 (.ref q_b1_load) (.ref q_b1_sag) (.ref q_b1_joy) (.ref q_b1_bowl) (.ref q_b1_grief) w_b1_place (.int x_b1_arches) (.int x_b1_cats) (.int x_b1_store) (.int x_b1_hour) (.int x_b1_drops)), (q_b1_sag, aI cT 6 f_b1_sag), (q_b1_load, aI cT 6 f_b1_load), (q_b1_joy, aI cT 8 f_b1_joy), (q_b1_grief, aI cT 8 f_b1_grief), (q_b1_bowl, aI cT 8 f_b1_bowl)]) (w2 := fun u_95 => [(q_steps, aI cT 40 f_steps), (b1, oX6 (.ref q_b1_load) (.ref q_b1_sag) (.ref q_b1_joy) (.ref q_b1_bowl) (.ref q_b1_grief) w_b1_place (.int x_b1_arches) (.int x_b1_cats) (.int x_b1_store) (.int x_b1_hour) (.int x_b1_drops)), (q_b1_sag, aI cT 6 f_b1_sag), (q_b1_load, aI cT 6 f_b1_load), (q_b1_joy, aI cT 8 f_b1_joy), (q_b1_grief, aI cT 8 f_b1_grief), (q_b1_bowl, aI cT 8 f_b1_bowl), (h, oX4 (.ref q_steps) (.ref q_stack) (.int x_size) (.int u_95.1) (.int x_open) (.int x_compared) (.int x_digits) (.int x_wantsThing)), (q_stack, aI cT 40 u_95.2)]) C0 lk_X4_73 (c_X4_push l D cT F h r_92 (.ref q_steps) q_stack x_size u_87 x_open x_compared x_digits x_wantsThing f_stack_8 _ hg) hP hD hS hA [7, 8] [0, 1, 2, 3, 4, 5, 6] (by decide +kernel) rfl rfl (fun _ => rfl) rfl rfl ⟨Nat.le_of_ble_eq_true rfl, Nat.le_of_ble_eq_true rfl⟩ rfl hl.1 rfl (Nat.le_of_ble_eq_true rfl) dX4_purr_95 ⟨Nat.le_of_ble_eq_true rfl, Nat.le_of_ble_eq_true rfl⟩ ?_
          intro u_95 H locs hg hP hD hS
          refine lv_goto (tgt := 116) hx hb dX4_purr_98 (by decide) ?_
          exact L116 y5_8 u_95.1 u_95.2 _ _ _ hg (subP hP [7, 0, 8, 1, 2, 3, 4, 5, 6] rfl) (hD.sub [7, 0, 8, 1, 2, 3, 4, 5, 6] (nd2_ok _ (by decide +kernel)) rfl) hS (lv_sub hl [2, 3, 4, 5, 6, 7] rfl)
        have hg := hg.2 c_52
        refine lv_aload_n hx hb dX4_purr_55 rfl (lv_at hl 1 rfl) ?_
        refine lv_aload_n hx hb dX4_purr_56 rfl (lv_at hl 1 rfl) ?_
        refine k_Vi (rest := [.ref h]) (wr := [(q_steps, aI cT 40 f_steps), (b1, oX6 (.ref q_b1_load) (.ref q_b1_sag) (.ref q_b1_joy) (.ref q_b1_bowl) (.ref q_b1_grief) w_b1_place (.int x_b1_arches) (.int x_b1_cats) (.int x_b1_store) (.int x_b1_hour) (.int x_b1_drops)), (q_b1_sag, aI cT 6 f_b1_sag), (q_b1_load, aI cT 6 f_b1_load), (q_b1_joy, aI cT 8 f_b1_joy), (q_b1_grief, aI cT 8 f_b1_grief), (q_b1_bowl, aI cT 8 f_b1_bowl)]) (w2 := fun u_57 => [(q_steps, aI cT 40 f_steps), (b1, oX6 (.ref q_b1_load) (.ref q_b1_sag) (.ref q_b1_joy) (.ref q_b1_bowl) (.ref q_b1_grief) w_b1_place (.int x_b1_arches) (.int x_b1_cats) (.int x_b1_store) (.int x_b1_hour) (.int x_b1_drops)), (q_b1_sag, aI cT 6 f_b1_sag), (q_b1_load, aI cT 6 f_b1_load), (q_b1_joy, aI cT 8 f_b1_joy), (q_b1_grief, aI cT 8 f_b1_grief), (q_b1_bowl, aI cT 8 f_b1_bowl), (h, oX4 (.ref q_steps) (.ref q_stack) (.int x_size) (.int u_57) (.int x_open) (.int x_compared) (.int x_digits) (.int x_wantsThing)), (q_stack, aI cT 40 f_stack_8)]) C0 lk_X4_76 (c_X4_pop l D cT F h (.ref q_steps) q_stack x_size x_top_8 x_open x_compared x_digits x_wantsThing f_stack_8 _ hg) hP hD hS hA [0, 2] [1, 3, 4, 5, 6, 7, 8] (by decide +kernel) rfl rfl (fun _ => rfl) rfl rfl ⟨Nat.le_of_ble_eq_true rfl, Nat.le_of_ble_eq_true rfl⟩ rfl hl.1 rfl (Nat.le_of_ble_eq_true rfl) dX4_purr_57 ⟨Nat.le_of_ble_eq_true rfl, Nat.le_of_ble_eq_true rfl⟩ ?_
        intro r_57 u_57 H locs hg hP hD hS
        refine lv_ineg hx hb dX4_purr_60 ?_
        refine k_Vv (rest := []) (wr := [(q_steps, aI cT 40 f_steps), (b1, oX6 (.ref q_b1_load) (.ref q_b1_sag) (.ref q_b1_joy) (.ref q_b1_bowl) (.ref q_b1_grief) w_b1_place (.int x_b1_arches) (.int x_b1_cats) (.int x_b1_store) (.int x_b1_hour) (.int x_b1_drops)), (q_b1_sag, aI cT 6 f_b1_sag), (q_b1_load, aI cT 6 f_b1_load), (q_b1_joy, aI cT 8 f_b1_joy), (q_b1_grief, aI cT 8 f_b1_grief), (q_b1_bowl, aI cT 8 f_b1_bowl)]) (w2 := fun u_61 => [(q_steps, aI cT 40 f_steps), (b1, oX6 (.ref q_b1_load) (.ref q_b1_sag) (.ref q_b1_joy) (.ref q_b1_bowl) (.ref q_b1_grief) w_b1_place (.int x_b1_arches) (.int x_b1_cats) (.int x_b1_store) (.int x_b1_hour) (.int x_b1_drops)), (q_b1_sag, aI cT 6 f_b1_sag), (q_b1_load, aI cT 6 f_b1_load), (q_b1_joy, aI cT 8 f_b1_joy), (q_b1_grief, aI cT 8 f_b1_grief), (q_b1_bowl, aI cT 8 f_b1_bowl), (h, oX4 (.ref q_steps) (.ref q_stack) (.int x_size) (.int u_61.1) (.int x_open) (.int x_compared) (.int x_digits) (.int x_wantsThing)), (q_stack, aI cT 40 u_61.2)]) C0 lk_X4_73 (c_X4_push l D cT F h (-r_57) (.ref q_steps) q_stack x_size u_57 x_open x_compared x_digits x_wantsThing f_stack_8 _ hg) hP hD hS hA [7, 8] [0, 1, 2, 3, 4, 5, 6] (by decide +kernel) rfl rfl (fun _ => rfl) rfl rfl ⟨Nat.le_of_ble_eq_true rfl, Nat.le_of_ble_eq_true rfl⟩ rfl hl.1 rfl (Nat.le_of_ble_eq_true rfl) dX4_purr_61 ⟨Nat.le_of_ble_eq_true rfl, Nat.le_of_ble_eq_true rfl⟩ ?_
        intro u_61 H locs hg hP hD hS
        refine lv_goto (tgt := 116) hx hb dX4_purr_64 (by decide) ?_
        exact L116 y5_8 u_61.1 u_61.2 _ _ _ hg (subP hP [7, 0, 8, 1, 2, 3, 4, 5, 6] rfl) (hD.sub [7, 0, 8, 1, 2, 3, 4, 5, 6] (nd2_ok _ (by decide +kernel)) rfl) hS (lv_sub hl [1, 2, 3, 4, 5, 6] rfl)
      have hg := hg.2 c_35
      refine lv_aload_n hx hb dX4_purr_38 rfl (lv_at hl 1 rfl) ?_
      refine lv_iload hx hb dX4_purr_39 (lv_at hl 0 rfl) ?_
      refine k_Vv (rest := []) (wr := [(q_steps, aI cT 40 f_steps), (b1, oX6 (.ref q_b1_load) (.ref q_b1_sag) (.ref q_b1_joy) (.ref q_b1_bowl) (.ref q_b1_grief) w_b1_place (.int x_b1_arches) (.int x_b1_cats) (.int x_b1_store) (.int x_b1_hour) (.int x_b1_drops)), (q_b1_sag, aI cT 6 f_b1_sag), (q_b1_load, aI cT 6 f_b1_load), (q_b1_joy, aI cT 8 f_b1_joy), (q_b1_grief, aI cT 8 f_b1_grief), (q_b1_bowl, aI cT 8 f_b1_bowl)]) (w2 := fun u_41 => [(q_steps, aI cT 40 f_steps), (b1, oX6 (.ref q_b1_load) (.ref q_b1_sag) (.ref q_b1_joy) (.ref q_b1_bowl) (.ref q_b1_grief) w_b1_place (.int x_b1_arches) (.int x_b1_cats) (.int x_b1_store) (.int x_b1_hour) (.int x_b1_drops)), (q_b1_sag, aI cT 6 f_b1_sag), (q_b1_load, aI cT 6 f_b1_load), (q_b1_joy, aI cT 8 f_b1_joy), (q_b1_grief, aI cT 8 f_b1_grief), (q_b1_bowl, aI cT 8 f_b1_bowl), (h, oX4 (.ref q_steps) (.ref q_stack) (.int x_size) (.int u_41.1) (.int x_open) (.int x_compared) (.int x_digits) (.int x_wantsThing)), (q_stack, aI cT 40 u_41.2)]) C0 lk_X4_73 (c_X4_push l D cT F h (f_steps y5_8.toNatClampNeg) (.ref q_steps) q_stack x_size x_top_8 x_open x_compared x_digits x_wantsThing f_stack_8 _ hg) hP hD hS hA [0, 2] [1, 3, 4, 5, 6, 7, 8] (by decide +kernel) rfl rfl (fun _ => rfl) rfl rfl ⟨Nat.le_of_ble_eq_true rfl, Nat.le_of_ble_eq_true rfl⟩ rfl hl.1 rfl (Nat.le_of_ble_eq_true rfl) dX4_purr_41 ⟨Nat.le_of_ble_eq_true rfl, Nat.le_of_ble_eq_true rfl⟩ ?_
      intro u_41 H locs hg hP hD hS
      refine lv_goto (tgt := 116) hx hb dX4_purr_44 (by decide) ?_
      exact L116 y5_8 u_41.1 u_41.2 _ _ _ hg (subP hP [7, 0, 8, 1, 2, 3, 4, 5, 6] rfl) (hD.sub [7, 0, 8, 1, 2, 3, 4, 5, 6] (nd2_ok _ (by decide +kernel)) rfl) hS (lv_sub hl [1, 2, 3, 4, 5, 6] rfl)
  unfold p_X4_purr at hg
  refine lv_aload_n hx hb dX4_purr_0 rfl (lv_at hl 0 rfl) ?_
  refine lv_iconst (v := (0 : Int32)) hx hb dX4_purr_1 (by decide) ?_
  refine pf_X4_55 C0 hP hD hS 0 rfl (Nat.le_of_ble_eq_true rfl) (ws2 := [(h, oX4 (.ref q_steps) (.ref q_stack) (.int x_size) (.int (0 : Int32)) (.int x_open) (.int x_compared) (.int x_digits) (.int x_wantsThing)), (q_steps, aI cT 40 f_steps), (q_stack, aI cT 40 f_stack), (b1, oX6 (.ref q_b1_load) (.ref q_b1_sag) (.ref q_b1_joy) (.ref q_b1_bowl) (.ref q_b1_grief) w_b1_place (.int x_b1_arches) (.int x_b1_cats) (.int x_b1_store) (.int x_b1_hour) (.int x_b1_drops)), (q_b1_sag, aI cT 6 f_b1_sag), (q_b1_load, aI cT 6 f_b1_load), (q_b1_joy, aI cT 8 f_b1_joy), (q_b1_grief, aI cT 8 f_b1_grief), (q_b1_bowl, aI cT 8 f_b1_bowl)]) rfl dX4_purr_2 (fun H locs hP hD hS => ?_)
  refine lv_iconst (v := (0 : Int32)) hx hb dX4_purr_5 (by decide) ?_
  refine lv_istore (lv' := [(5, .int (0 : Int32)), (0, .ref h), (1, .ref b1), (2, .int p2), (3, .int p3), (4, .int p4)]) hx hb dX4_purr_6 hl (by decide) rfl (fun ls hl => ?_)
  exact L8 F (0 : Int32) (0 : Int32) f_stack _ _ _ hg hP hD hS (lv_sub hl [1, 2, 3, 4, 5, 0] rfl)
theorem dX5_addFour_0 : decode cX5_addFour 0 = .ok (.aload_n 0, 1) := by decide +kernel
theorem dX5_addFour_1 : decode cX5_addFour 1 = .ok (.getfield 15, 3) := by decide +kernel
theorem dX5_addFour_4 : decode cX5_addFour 4 = .ok (.iconst 4, 1) := by decide +kernel
theorem dX5_addFour_5 : decode cX5_addFour 5 = .ok (.iadd, 1) := by decide +kernel
theorem dX5_addFour_6 : decode cX5_addFour 6 = .ok (.bipush 80, 2) := by decide +kernel
theorem dX5_addFour_8 : decode cX5_addFour 8 = .ok (.if_icmp .le 5, 3) := by decide +kernel
theorem dX5_addFour_11 : decode cX5_addFour 11 = .ok (.iconst (-1), 1) := by decide +kernel
theorem dX5_addFour_12 : decode cX5_addFour 12 = .ok (.ireturn, 1) := by decide +kernel
theorem dX5_addFour_13 : decode cX5_addFour 13 = .ok (.bipush 24, 2) := by decide +kernel
theorem dX5_addFour_15 : decode cX5_addFour 15 = .ok (.istore_n 2, 1) := by decide +kernel
theorem dX5_addFour_16 : decode cX5_addFour 16 = .ok (.iload_n 2, 1) := by decide +kernel
theorem dX5_addFour_17 : decode cX5_addFour 17 = .ok (.ifCond .lt 36, 3) := by decide +kernel
theorem dX5_addFour_20 : decode cX5_addFour 20 = .ok (.aload_n 0, 1) := by decide +kernel
theorem dX5_addFour_21 : decode cX5_addFour 21 = .ok (.getfield 9, 3) := by decide +kernel
theorem dX5_addFour_24 : decode cX5_addFour 24 = .ok (.aload_n 0, 1) := by decide +kernel
theorem dX5_addFour_25 : decode cX5_addFour 25 = .ok (.getfield 15, 3) := by decide +kernel
theorem dX5_addFour_28 : decode cX5_addFour 28 = .ok (.iload_n 1, 1) := by decide +kernel
theorem dX5_addFour_29 : decode cX5_addFour 29 = .ok (.iload_n 2, 1) := by decide +kernel
theorem dX5_addFour_30 : decode cX5_addFour 30 = .ok (.iushr, 1) := by decide +kernel
theorem dX5_addFour_31 : decode cX5_addFour 31 = .ok (.sipush 255, 3) := by decide +kernel
theorem dX5_addFour_34 : decode cX5_addFour 34 = .ok (.iand, 1) := by decide +kernel
theorem dX5_addFour_35 : decode cX5_addFour 35 = .ok (.i2c, 1) := by decide +kernel
theorem dX5_addFour_36 : decode cX5_addFour 36 = .ok (.castore, 1) := by decide +kernel
theorem dX5_addFour_37 : decode cX5_addFour 37 = .ok (.aload_n 0, 1) := by decide +kernel
theorem dX5_addFour_38 : decode cX5_addFour 38 = .ok (.dup, 1) := by decide +kernel
theorem dX5_addFour_39 : decode cX5_addFour 39 = .ok (.getfield 15, 3) := by decide +kernel
theorem dX5_addFour_42 : decode cX5_addFour 42 = .ok (.iconst 1, 1) := by decide +kernel
theorem dX5_addFour_43 : decode cX5_addFour 43 = .ok (.iadd, 1) := by decide +kernel
theorem dX5_addFour_44 : decode cX5_addFour 44 = .ok (.putfield 15, 3) := by decide +kernel
theorem dX5_addFour_47 : decode cX5_addFour 47 = .ok (.iinc 2 (-8), 3) := by decide +kernel
theorem dX5_addFour_50 : decode cX5_addFour 50 = .ok (.goto (-34), 3) := by decide +kernel
theorem dX5_addFour_53 : decode cX5_addFour 53 = .ok (.aload_n 0, 1) := by decide +kernel
theorem dX5_addFour_54 : decode cX5_addFour 54 = .ok (.getfield 15, 3) := by decide +kernel
theorem dX5_addFour_57 : decode cX5_addFour 57 = .ok (.ireturn, 1) := by decide +kernel
noncomputable def p_X5_addFour_16 (F : Nat) (p1 : Int32) (Post : Int32 → (Int32 × (Nat → Int32)) → Prop) (n : Nat) : Int32 → Int32 → (Nat → Int32) → Prop := Nat.rec (motive := fun _ => Int32 → Int32 → (Nat → Int32) → Prop) (fun _ _ _ => False) (fun _ k16 => fun (y2_16 : Int32) (x_length_16 : Int32) (f_signs_16 : Nat → Int32) => ((y2_16 < 0 → (Post x_length_16 (x_length_16, f_signs_16))) ∧ (¬ y2_16 < 0 → (vp_in x_length_16 80 ∧ (k16 (y2_16 + (-8 : Int32)) (x_length_16 + (1 : Int32)) (upd f_signs_16 x_length_16.toNatClampNeg (vp_nar .char (((((p1.toUInt32 >>> (y2_16.toUInt32 &&& Int32.toUInt32 31)).toInt32) &&& (255 : Int32)).toUInt32 % 65536).toInt32)))))))) n
theorem p_X5_addFour_16_s (F : Nat) (p1 : Int32) (Post : Int32 → (Int32 × (Nat → Int32)) → Prop) (n : Nat) (y2_16 : Int32) (x_length_16 : Int32) (f_signs_16 : Nat → Int32) : p_X5_addFour_16 F p1 Post (n + 1) y2_16 x_length_16 f_signs_16 = ((y2_16 < 0 → (Post x_length_16 (x_length_16, f_signs_16))) ∧ (¬ y2_16 < 0 → (vp_in x_length_16 80 ∧ ((p_X5_addFour_16 F p1 Post n) (y2_16 + (-8 : Int32)) (x_length_16 + (1 : Int32)) (upd f_signs_16 x_length_16.toNatClampNeg (vp_nar .char (((((p1.toUInt32 >>> (y2_16.toUInt32 &&& Int32.toUInt32 31)).toInt32) &&& (255 : Int32)).toUInt32 % 65536).toInt32))))))) := rfl
def p_X5_addFour (F : Nat) (p1 : Int32) (x_length : Int32) (f_signs : Nat → Int32) (Post : Int32 → (Int32 × (Nat → Int32)) → Prop) : Prop := (((x_length + (4 : Int32)) ≤ (80 : Int32) → (p_X5_addFour_16 F p1 Post F (24 : Int32) x_length f_signs)) ∧ (¬ (x_length + (4 : Int32)) ≤ (80 : Int32) → (Post (-1 : Int32) (x_length, f_signs))))
set_option maxHeartbeats 4000000 in
set_option maxRecDepth 100000 in
theorem c_X5_addFour (l : Launch) (D : va_G) (cT : Nat → ClassId) (F : Nat) (h : Nat) (p1 : Int32) (q_signs : Nat) (x_length : Int32) (f_signs : Nat → Int32) (Post : Int32 → (Int32 × (Nat → Int32)) → Prop) (hg : p_X5_addFour F p1 x_length f_signs Post) : MWi l D cT yX5_addFour cX5_addFour 3 (some .int) 0 0 0 0 [.ref h, .int p1] [(h, oX5 (.ref q_signs) (.int x_length)), (q_signs, aC cT 80 f_signs)] Post (fun (u : (Int32 × (Nat → Int32))) => [(h, oX5 (.ref q_signs) (.int u.1)), (q_signs, aC cT 80 u.2)]) := by
  refine MWi.of (by decide) (Nat.le_of_ble_eq_true rfl) ?_
  intro p e s m below meth c A hA C0 hnm hr hP hD ls hl
  have hl : lv_has ls 3 [(0, .ref h), (1, .int p1)] := hl
  have hx := C0.x
  have hb := C0.b
  have hS : va_S A s.heap s.heap [] := va_S.rf
  have hP : va_P D cls9 [(h, oX5 (.ref q_signs) (.int x_length)), (q_signs, aC cT 80 f_signs)] s.heap := hP
  have hD : va_D A [(h, oX5 (.ref q_signs) (.int x_length)), (q_signs, aC cT 80 f_signs)] := hD
  have L16 : ∀ (n16 : Nat) (y2_16 : Int32) (x_length_16 : Int32) (f_signs_16 : Nat → Int32) (H : Heap) (locs : List Loc) (ls : Array Slot), p_X5_addFour_16 F p1 Post n16 y2_16 x_length_16 f_signs_16 → va_P D cls9 [(h, oX5 (.ref q_signs) (.int x_length_16)), (q_signs, aC cT 80 f_signs_16)] H → va_D A [(h, oX5 (.ref q_signs) (.int x_length_16)), (q_signs, aC cT 80 f_signs_16)] → va_S A s.heap H locs → lv_has ls 3 [(0, .ref h), (1, .int p1), (2, .int y2_16)] → W p l e (rmO 0 0 0 0) s m ([.ref h, .int p1] : List Value).toArray below meth c H locs 0 0 (MQ below (va_Qi Post (cB D A (fun (u : (Int32 × (Nat → Int32))) => [(h, oX5 (.ref q_signs) (.int u.1)), (q_signs, aC cT 80 u.2)])) A) ([.ref h, .int p1] : List Value).toArray s 0 0 A) (F0 m 16 ls []) := by
    intro n16
    induction n16 with
    | zero =>
      intro y2_16 x_length_16 f_signs_16 H locs ls hg hP hD hS hl
      exact False.elim hg
    | succ n16 ih16 =>
      intro y2_16 x_length_16 f_signs_16 H locs ls hg hP hD hS hl
      rw [p_X5_addFour_16_s] at hg
      refine lv_iload_n hx hb dX5_addFour_16 rfl (lv_at hl 2 rfl) ?_
      refine lv_if_lt (tgt := 53) hx hb dX5_addFour_17 (by decide) (fun c_17 => ?_) (fun c_17 => ?_)
      · have hg := hg.1 c_17
        refine lv_aload_n hx hb dX5_addFour_53 rfl (lv_at hl 0 rfl) ?_
        refine gf_X5_15 C0 hP 0 rfl rfl dX5_addFour_54 ?_
        exact k_iret C0 hr (x_length_16, f_signs_16) hg hP hD hS dX5_addFour_57
      have hg := hg.2 c_17
      refine lv_aload_n hx hb dX5_addFour_20 rfl (lv_at hl 0 rfl) ?_
      refine gf_X5_9 C0 hP 0 rfl rfl dX5_addFour_21 ?_
      refine lv_aload_n hx hb dX5_addFour_24 rfl (lv_at hl 0 rfl) ?_
      refine gf_X5_15 C0 hP 0 rfl rfl dX5_addFour_25 ?_
      refine lv_iload_n hx hb dX5_addFour_28 rfl (lv_at hl 1 rfl) ?_
      refine lv_iload_n hx hb dX5_addFour_29 rfl (lv_at hl 2 rfl) ?_
      refine lv_iushr (v := (p1.toUInt32 >>> (y2_16.toUInt32 &&& Int32.toUInt32 31)).toInt32) hx hb dX5_addFour_30 rfl ?_
      refine lv_sipush (v := (255 : Int32)) hx hb dX5_addFour_31 (by decide) ?_
      refine lv_iand hx hb dX5_addFour_34 ?_
      refine lv_i2c (v := (((((p1.toUInt32 >>> (y2_16.toUInt32 &&& Int32.toUInt32 31)).toInt32) &&& (255 : Int32)).toUInt32 % 65536).toInt32)) hx hb dX5_addFour_35 rfl ?_
      obtain ⟨g_36, hg⟩ := hg
      refine k_cast C0 hP hD hS 1 rfl g_36 (ws' := [(h, oX5 (.ref q_signs) (.int x_length_16)), (q_signs, aC cT 80 (upd f_signs_16 x_length_16.toNatClampNeg (vp_nar .char (((((p1.toUInt32 >>> (y2_16.toUInt32 &&& Int32.toUInt32 31)).toInt32) &&& (255 : Int32)).toUInt32 % 65536).toInt32))))]) rfl dX5_addFour_36 (fun H locs hP hD hS => ?_)
      refine lv_aload_n hx hb dX5_addFour_37 rfl (lv_at hl 0 rfl) ?_
      refine lv_dup hx hb dX5_addFour_38 rfl ?_
      refine gf_X5_15 C0 hP 0 rfl rfl dX5_addFour_39 ?_
      refine lv_iconst (v := (1 : Int32)) hx hb dX5_addFour_42 (by decide) ?_
      refine lv_iadd hx hb dX5_addFour_43 ?_
      refine pf_X5_15 C0 hP hD hS 0 rfl (Nat.le_of_ble_eq_true rfl) (ws2 := [(h, oX5 (.ref q_signs) (.int (x_length_16 + (1 : Int32)))), (q_signs, aC cT 80 (upd f_signs_16 x_length_16.toNatClampNeg (vp_nar .char (((((p1.toUInt32 >>> (y2_16.toUInt32 &&& Int32.toUInt32 31)).toInt32) &&& (255 : Int32)).toUInt32 % 65536).toInt32))))]) rfl dX5_addFour_44 (fun H locs hP hD hS => ?_)
      refine lv_iinc (v := (y2_16 + (-8 : Int32))) (lv' := [(2, .int (y2_16 + (-8 : Int32))), (0, .ref h), (1, .int p1)]) hx hb dX5_addFour_47 hl (k := 2) rfl rfl (by decide) rfl (fun ls hl => ?_)
      refine lv_goto (tgt := 16) hx hb dX5_addFour_50 (by decide) ?_
      exact ih16 (y2_16 + (-8 : Int32)) (x_length_16 + (1 : Int32)) (upd f_signs_16 x_length_16.toNatClampNeg (vp_nar .char (((((p1.toUInt32 >>> (y2_16.toUInt32 &&& Int32.toUInt32 31)).toInt32) &&& (255 : Int32)).toUInt32 % 65536).toInt32))) _ _ _ hg hP hD hS (lv_sub hl [1, 2, 0] rfl)
  unfold p_X5_addFour at hg
  refine lv_aload_n hx hb dX5_addFour_0 rfl (lv_at hl 0 rfl) ?_
  refine gf_X5_15 C0 hP 0 rfl rfl dX5_addFour_1 ?_
  refine lv_iconst (v := (4 : Int32)) hx hb dX5_addFour_4 (by decide) ?_
  refine lv_iadd hx hb dX5_addFour_5 ?_
  refine lv_bipush (v := (80 : Int32)) hx hb dX5_addFour_6 (by decide) ?_
  refine lv_icmp_le (tgt := 13) hx hb dX5_addFour_8 (by decide) (fun c_8 => ?_) (fun c_8 => ?_)
  · have hg := hg.1 c_8
    refine lv_bipush (v := (24 : Int32)) hx hb dX5_addFour_13 (by decide) ?_
    refine lv_istore_n (lv' := [(2, .int (24 : Int32)), (0, .ref h), (1, .int p1)]) hx hb dX5_addFour_15 rfl hl (by decide) rfl (fun ls hl => ?_)
    exact L16 F (24 : Int32) x_length f_signs _ _ _ hg hP hD hS (lv_sub hl [1, 2, 0] rfl)
  have hg := hg.2 c_8
  refine lv_iconst (v := (-1 : Int32)) hx hb dX5_addFour_11 (by decide) ?_
  exact k_iret C0 hr (x_length, f_signs) hg hP hD hS dX5_addFour_12
theorem dX5_digit_0 : decode cX5_digit 0 = .ok (.aload_n 0, 1) := by decide +kernel
theorem dX5_digit_1 : decode cX5_digit 1 = .ok (.iload_n 1, 1) := by decide +kernel
theorem dX5_digit_2 : decode cX5_digit 2 = .ok (.invokevirtual 19, 3) := by decide +kernel
theorem dX5_digit_5 : decode cX5_digit 5 = .ok (.istore_n 2, 1) := by decide +kernel
theorem dX5_digit_6 : decode cX5_digit 6 = .ok (.iload_n 2, 1) := by decide +kernel
theorem dX5_digit_7 : decode cX5_digit 7 = .ok (.bipush 48, 2) := by decide +kernel
theorem dX5_digit_9 : decode cX5_digit 9 = .ok (.if_icmp .lt 16, 3) := by decide +kernel
theorem dX5_digit_12 : decode cX5_digit 12 = .ok (.iload_n 2, 1) := by decide +kernel
theorem dX5_digit_13 : decode cX5_digit 13 = .ok (.bipush 57, 2) := by decide +kernel
theorem dX5_digit_15 : decode cX5_digit 15 = .ok (.if_icmp .gt 10, 3) := by decide +kernel
theorem dX5_digit_18 : decode cX5_digit 18 = .ok (.iload_n 2, 1) := by decide +kernel
theorem dX5_digit_19 : decode cX5_digit 19 = .ok (.bipush 48, 2) := by decide +kernel
theorem dX5_digit_21 : decode cX5_digit 21 = .ok (.isub, 1) := by decide +kernel
theorem dX5_digit_22 : decode cX5_digit 22 = .ok (.goto 4, 3) := by decide +kernel
theorem dX5_digit_25 : decode cX5_digit 25 = .ok (.iconst (-1), 1) := by decide +kernel
theorem dX5_digit_26 : decode cX5_digit 26 = .ok (.ireturn, 1) := by decide +kernel
def p_X5_digit (F : Nat) (p1 : Int32) (x_length : Int32) (f_signs : Nat → Int32) (Post : Int32 → Prop) : Prop := (p_X5_at F p1 x_length f_signs (fun (r_2 : Int32) => ((r_2 < (48 : Int32) → (Post (-1 : Int32))) ∧ (¬ r_2 < (48 : Int32) → (((57 : Int32) < r_2 → (Post (-1 : Int32))) ∧ (¬ (57 : Int32) < r_2 → (Post (r_2 - (48 : Int32)))))))))
set_option maxHeartbeats 4000000 in
set_option maxRecDepth 100000 in
theorem c_X5_digit (l : Launch) (D : va_G) (cT : Nat → ClassId) (F : Nat) (h : Nat) (p1 : Int32) (q_signs : Nat) (x_length : Int32) (f_signs : Nat → Int32) (Post : Int32 → Prop) (hg : p_X5_digit F p1 x_length f_signs Post) : MRi l D cT yX5_digit cX5_digit 3 (some .int) 1 21 [.ref h, .int p1] [(h, oX5 (.ref q_signs) (.int x_length)), (q_signs, aC cT 80 f_signs)] Post := by
  refine MRi.of (by decide) (Nat.le_of_ble_eq_true rfl) ?_
  intro p e s m below meth c hA C0 hr hP hD hS ls hl
  have hl : lv_has ls 3 [(0, .ref h), (1, .int p1)] := hl
  have hx := C0.x
  have hb := C0.b
  have hP : va_P D cls9 [(h, oX5 (.ref q_signs) (.int x_length)), (q_signs, aC cT 80 f_signs)] s.heap := hP
  have hD : va_D (fun q => cT 6 ≤ q) [(h, oX5 (.ref q_signs) (.int x_length)), (q_signs, aC cT 80 f_signs)] := hD
  unfold p_X5_digit at hg
  refine lv_aload_n hx hb dX5_digit_0 rfl (lv_at hl 0 rfl) ?_
  refine lv_iload_n hx hb dX5_digit_1 rfl (lv_at hl 1 rfl) ?_
  refine k_Vxi (rest := []) C0 lk_X5_19 (c_X5_at l D cT F h p1 q_signs x_length f_signs _ hg) hP hD hS hA [0, 1] (by decide +kernel) rfl rfl rfl ⟨Nat.le_of_ble_eq_true rfl, Nat.le_of_ble_eq_true rfl⟩ rfl hl.1 rfl (Nat.le_of_ble_eq_true rfl) dX5_digit_2 ⟨Nat.le_of_ble_eq_true rfl, Nat.le_of_ble_eq_true rfl⟩ (fun r_2 hg => ?_)
  refine lv_istore_n (lv' := [(2, .int r_2), (0, .ref h), (1, .int p1)]) hx hb dX5_digit_5 rfl hl (by decide) rfl (fun ls hl => ?_)
  refine lv_iload_n hx hb dX5_digit_6 rfl (lv_at hl 0 rfl) ?_
  refine lv_bipush (v := (48 : Int32)) hx hb dX5_digit_7 (by decide) ?_
  refine lv_icmp_lt (tgt := 25) hx hb dX5_digit_9 (by decide) (fun c_9 => ?_) (fun c_9 => ?_)
  · have hg := hg.1 c_9
    refine lv_iconst (v := (-1 : Int32)) hx hb dX5_digit_25 (by decide) ?_
    exact k_xiret C0 hr hg dX5_digit_26
  have hg := hg.2 c_9
  refine lv_iload_n hx hb dX5_digit_12 rfl (lv_at hl 0 rfl) ?_
  refine lv_bipush (v := (57 : Int32)) hx hb dX5_digit_13 (by decide) ?_
  refine lv_icmp_gt (tgt := 25) hx hb dX5_digit_15 (by decide) (fun c_15 => ?_) (fun c_15 => ?_)
  · have hg := hg.1 c_15
    refine lv_iconst (v := (-1 : Int32)) hx hb dX5_digit_25 (by decide) ?_
    exact k_xiret C0 hr hg dX5_digit_26
  have hg := hg.2 c_15
  refine lv_iload_n hx hb dX5_digit_18 rfl (lv_at hl 0 rfl) ?_
  refine lv_bipush (v := (48 : Int32)) hx hb dX5_digit_19 (by decide) ?_
  refine lv_isub hx hb dX5_digit_21 ?_
  refine lv_goto (tgt := 26) hx hb dX5_digit_22 (by decide) ?_
  exact k_xiret C0 hr hg dX5_digit_26
theorem dX5_faultInLines_0 : decode cX5_faultInLines 0 = .ok (.iload_n 2, 1) := by decide +kernel
theorem dX5_faultInLines_1 : decode cX5_faultInLines 1 = .ok (.iload_n 1, 1) := by decide +kernel
theorem dX5_faultInLines_2 : decode cX5_faultInLines 2 = .ok (.iconst 1, 1) := by decide +kernel
theorem dX5_faultInLines_3 : decode cX5_faultInLines 3 = .ok (.iadd, 1) := by decide +kernel
theorem dX5_faultInLines_4 : decode cX5_faultInLines 4 = .ok (.imul, 1) := by decide +kernel
theorem dX5_faultInLines_5 : decode cX5_faultInLines 5 = .ok (.iconst 1, 1) := by decide +kernel
theorem dX5_faultInLines_6 : decode cX5_faultInLines 6 = .ok (.isub, 1) := by decide +kernel
theorem dX5_faultInLines_7 : decode cX5_faultInLines 7 = .ok (.istore 5, 2) := by decide +kernel
theorem dX5_faultInLines_9 : decode cX5_faultInLines 9 = .ok (.iconst 0, 1) := by decide +kernel
theorem dX5_faultInLines_10 : decode cX5_faultInLines 10 = .ok (.istore 6, 2) := by decide +kernel
theorem dX5_faultInLines_12 : decode cX5_faultInLines 12 = .ok (.iconst 0, 1) := by decide +kernel
theorem dX5_faultInLines_13 : decode cX5_faultInLines 13 = .ok (.istore 7, 2) := by decide +kernel
theorem dX5_faultInLines_15 : decode cX5_faultInLines 15 = .ok (.iconst 0, 1) := by decide +kernel
theorem dX5_faultInLines_16 : decode cX5_faultInLines 16 = .ok (.istore 8, 2) := by decide +kernel
theorem dX5_faultInLines_18 : decode cX5_faultInLines 18 = .ok (.iload 8, 2) := by decide +kernel
theorem dX5_faultInLines_20 : decode cX5_faultInLines 20 = .ok (.aload_n 0, 1) := by decide +kernel
theorem dX5_faultInLines_21 : decode cX5_faultInLines 21 = .ok (.getfield 15, 3) := by decide +kernel
theorem dX5_faultInLines_24 : decode cX5_faultInLines 24 = .ok (.if_icmp .ge 118, 3) := by decide +kernel
theorem dX5_faultInLines_27 : decode cX5_faultInLines 27 = .ok (.iload 7, 2) := by decide +kernel
theorem dX5_faultInLines_29 : decode cX5_faultInLines 29 = .ok (.iload_n 1, 1) := by decide +kernel
theorem dX5_faultInLines_30 : decode cX5_faultInLines 30 = .ok (.if_icmp .ne 22, 3) := by decide +kernel
theorem dX5_faultInLines_33 : decode cX5_faultInLines 33 = .ok (.aload_n 0, 1) := by decide +kernel
theorem dX5_faultInLines_34 : decode cX5_faultInLines 34 = .ok (.iload 8, 2) := by decide +kernel
theorem dX5_faultInLines_36 : decode cX5_faultInLines 36 = .ok (.invokevirtual 19, 3) := by decide +kernel
theorem dX5_faultInLines_39 : decode cX5_faultInLines 39 = .ok (.bipush 59, 2) := by decide +kernel
theorem dX5_faultInLines_41 : decode cX5_faultInLines 41 = .ok (.if_icmp .ne 7, 3) := by decide +kernel
theorem dX5_faultInLines_44 : decode cX5_faultInLines 44 = .ok (.iconst 1, 1) := by decide +kernel
theorem dX5_faultInLines_45 : decode cX5_faultInLines 45 = .ok (.goto 22, 3) := by decide +kernel
theorem dX5_faultInLines_48 : decode cX5_faultInLines 48 = .ok (.iconst 0, 1) := by decide +kernel
theorem dX5_faultInLines_49 : decode cX5_faultInLines 49 = .ok (.goto 18, 3) := by decide +kernel
theorem dX5_faultInLines_52 : decode cX5_faultInLines 52 = .ok (.aload_n 0, 1) := by decide +kernel
theorem dX5_faultInLines_53 : decode cX5_faultInLines 53 = .ok (.iload 8, 2) := by decide +kernel
theorem dX5_faultInLines_55 : decode cX5_faultInLines 55 = .ok (.invokevirtual 23, 3) := by decide +kernel
theorem dX5_faultInLines_58 : decode cX5_faultInLines 58 = .ok (.iconst (-1), 1) := by decide +kernel
theorem dX5_faultInLines_59 : decode cX5_faultInLines 59 = .ok (.if_icmp .eq 7, 3) := by decide +kernel
theorem dX5_faultInLines_62 : decode cX5_faultInLines 62 = .ok (.iconst 1, 1) := by decide +kernel
theorem dX5_faultInLines_63 : decode cX5_faultInLines 63 = .ok (.goto 4, 3) := by decide +kernel
theorem dX5_faultInLines_66 : decode cX5_faultInLines 66 = .ok (.iconst 0, 1) := by decide +kernel
theorem dX5_faultInLines_67 : decode cX5_faultInLines 67 = .ok (.istore 9, 2) := by decide +kernel
theorem dX5_faultInLines_69 : decode cX5_faultInLines 69 = .ok (.iload 9, 2) := by decide +kernel
theorem dX5_faultInLines_71 : decode cX5_faultInLines 71 = .ok (.ifCond .eq 26, 3) := by decide +kernel
theorem dX5_faultInLines_74 : decode cX5_faultInLines 74 = .ok (.iload 7, 2) := by decide +kernel
theorem dX5_faultInLines_76 : decode cX5_faultInLines 76 = .ok (.iload_n 1, 1) := by decide +kernel
theorem dX5_faultInLines_77 : decode cX5_faultInLines 77 = .ok (.iconst 1, 1) := by decide +kernel
theorem dX5_faultInLines_78 : decode cX5_faultInLines 78 = .ok (.isub, 1) := by decide +kernel
theorem dX5_faultInLines_79 : decode cX5_faultInLines 79 = .ok (.if_icmp .ne 14, 3) := by decide +kernel
theorem dX5_faultInLines_82 : decode cX5_faultInLines 82 = .ok (.aload_n 0, 1) := by decide +kernel
theorem dX5_faultInLines_83 : decode cX5_faultInLines 83 = .ok (.iload 8, 2) := by decide +kernel
theorem dX5_faultInLines_85 : decode cX5_faultInLines 85 = .ok (.invokevirtual 23, 3) := by decide +kernel
theorem dX5_faultInLines_88 : decode cX5_faultInLines 88 = .ok (.iload 4, 2) := by decide +kernel
theorem dX5_faultInLines_90 : decode cX5_faultInLines 90 = .ok (.if_icmp .ge 7, 3) := by decide +kernel
theorem dX5_faultInLines_93 : decode cX5_faultInLines 93 = .ok (.iconst 1, 1) := by decide +kernel
theorem dX5_faultInLines_94 : decode cX5_faultInLines 94 = .ok (.goto 4, 3) := by decide +kernel
theorem dX5_faultInLines_97 : decode cX5_faultInLines 97 = .ok (.iconst 0, 1) := by decide +kernel
theorem dX5_faultInLines_98 : decode cX5_faultInLines 98 = .ok (.istore 9, 2) := by decide +kernel
theorem dX5_faultInLines_100 : decode cX5_faultInLines 100 = .ok (.iload 8, 2) := by decide +kernel
theorem dX5_faultInLines_102 : decode cX5_faultInLines 102 = .ok (.iload 5, 2) := by decide +kernel
theorem dX5_faultInLines_104 : decode cX5_faultInLines 104 = .ok (.if_icmp .eq 14, 3) := by decide +kernel
theorem dX5_faultInLines_107 : decode cX5_faultInLines 107 = .ok (.iload 9, 2) := by decide +kernel
theorem dX5_faultInLines_109 : decode cX5_faultInLines 109 = .ok (.ifCond .eq 9, 3) := by decide +kernel
theorem dX5_faultInLines_112 : decode cX5_faultInLines 112 = .ok (.iload 6, 2) := by decide +kernel
theorem dX5_faultInLines_114 : decode cX5_faultInLines 114 = .ok (.iload_n 3, 1) := by decide +kernel
theorem dX5_faultInLines_115 : decode cX5_faultInLines 115 = .ok (.if_icmp .lt 6, 3) := by decide +kernel
theorem dX5_faultInLines_118 : decode cX5_faultInLines 118 = .ok (.iload 8, 2) := by decide +kernel
theorem dX5_faultInLines_120 : decode cX5_faultInLines 120 = .ok (.ireturn, 1) := by decide +kernel
theorem dX5_faultInLines_121 : decode cX5_faultInLines 121 = .ok (.iinc 7 1, 3) := by decide +kernel
theorem dX5_faultInLines_124 : decode cX5_faultInLines 124 = .ok (.iload 7, 2) := by decide +kernel
theorem dX5_faultInLines_126 : decode cX5_faultInLines 126 = .ok (.iload_n 1, 1) := by decide +kernel
theorem dX5_faultInLines_127 : decode cX5_faultInLines 127 = .ok (.if_icmp .le 9, 3) := by decide +kernel
theorem dX5_faultInLines_130 : decode cX5_faultInLines 130 = .ok (.iconst 0, 1) := by decide +kernel
theorem dX5_faultInLines_131 : decode cX5_faultInLines 131 = .ok (.istore 7, 2) := by decide +kernel
theorem dX5_faultInLines_133 : decode cX5_faultInLines 133 = .ok (.iinc 6 1, 3) := by decide +kernel
theorem dX5_faultInLines_136 : decode cX5_faultInLines 136 = .ok (.iinc 8 1, 3) := by decide +kernel
theorem dX5_faultInLines_139 : decode cX5_faultInLines 139 = .ok (.goto (-121), 3) := by decide +kernel
theorem dX5_faultInLines_142 : decode cX5_faultInLines 142 = .ok (.aload_n 0, 1) := by decide +kernel
theorem dX5_faultInLines_143 : decode cX5_faultInLines 143 = .ok (.getfield 15, 3) := by decide +kernel
theorem dX5_faultInLines_146 : decode cX5_faultInLines 146 = .ok (.ifCond .eq 9, 3) := by decide +kernel
theorem dX5_faultInLines_149 : decode cX5_faultInLines 149 = .ok (.iload 7, 2) := by decide +kernel
theorem dX5_faultInLines_151 : decode cX5_faultInLines 151 = .ok (.iload_n 1, 1) := by decide +kernel
theorem dX5_faultInLines_152 : decode cX5_faultInLines 152 = .ok (.if_icmp .ne 7, 3) := by decide +kernel
theorem dX5_faultInLines_155 : decode cX5_faultInLines 155 = .ok (.iconst (-1), 1) := by decide +kernel
theorem dX5_faultInLines_156 : decode cX5_faultInLines 156 = .ok (.goto 7, 3) := by decide +kernel
theorem dX5_faultInLines_159 : decode cX5_faultInLines 159 = .ok (.aload_n 0, 1) := by decide +kernel
theorem dX5_faultInLines_160 : decode cX5_faultInLines 160 = .ok (.getfield 15, 3) := by decide +kernel
theorem dX5_faultInLines_163 : decode cX5_faultInLines 163 = .ok (.ireturn, 1) := by decide +kernel
def p_X5_faultInLines_136 (F : Nat) (y8_18 : Int32) (k18 : Int32 → Int32 → Int32 → Prop) (Post : Int32 → Prop) (y7_136 : Int32) (y6_136 : Int32) : Prop := (k18 (y8_18 + (1 : Int32)) y7_136 y6_136)
def p_X5_faultInLines_98 (F : Nat) (p1 : Int32) (p2 : Int32) (p3 : Int32) (y8_18 : Int32) (y7_18 : Int32) (y6_18 : Int32) (k18 : Int32 → Int32 → Int32 → Prop) (Post : Int32 → Prop) (s0_98 : Int32) : Prop := ((y8_18 = ((p2 * (p1 + (1 : Int32))) - (1 : Int32)) → (Post y8_18)) ∧ (¬ y8_18 = ((p2 * (p1 + (1 : Int32))) - (1 : Int32)) → ((s0_98 = 0 → (Post y8_18)) ∧ (¬ s0_98 = 0 → ((y6_18 < p3 → (((y7_18 + (1 : Int32)) ≤ p1 → (p_X5_faultInLines_136 F y8_18 k18 Post (y7_18 + (1 : Int32)) y6_18)) ∧ (¬ (y7_18 + (1 : Int32)) ≤ p1 → (p_X5_faultInLines_136 F y8_18 k18 Post (0 : Int32) (y6_18 + (1 : Int32)))))) ∧ (¬ y6_18 < p3 → (Post y8_18)))))))
def p_X5_faultInLines_97 (F : Nat) (p1 : Int32) (p2 : Int32) (p3 : Int32) (y8_18 : Int32) (y7_18 : Int32) (y6_18 : Int32) (k18 : Int32 → Int32 → Int32 → Prop) (Post : Int32 → Prop) : Prop := (p_X5_faultInLines_98 F p1 p2 p3 y8_18 y7_18 y6_18 k18 Post (0 : Int32))
def p_X5_faultInLines_93 (F : Nat) (p1 : Int32) (p2 : Int32) (p3 : Int32) (y8_18 : Int32) (y7_18 : Int32) (y6_18 : Int32) (k18 : Int32 → Int32 → Int32 → Prop) (Post : Int32 → Prop) : Prop := (p_X5_faultInLines_98 F p1 p2 p3 y8_18 y7_18 y6_18 k18 Post (1 : Int32))
def p_X5_faultInLines_67 (F : Nat) (p1 : Int32) (p2 : Int32) (p3 : Int32) (p4 : Int32) (x_length : Int32) (f_signs : Nat → Int32) (y8_18 : Int32) (y7_18 : Int32) (y6_18 : Int32) (k18 : Int32 → Int32 → Int32 → Prop) (Post : Int32 → Prop) (s0_67 : Int32) : Prop := ((s0_67 = 0 → (p_X5_faultInLines_97 F p1 p2 p3 y8_18 y7_18 y6_18 k18 Post )) ∧ (¬ s0_67 = 0 → ((¬ y7_18 = (p1 - (1 : Int32)) → (p_X5_faultInLines_93 F p1 p2 p3 y8_18 y7_18 y6_18 k18 Post )) ∧ (y7_18 = (p1 - (1 : Int32)) → (p_X5_digit F y8_18 x_length f_signs (fun (r_85 : Int32) => ((p4 ≤ r_85 → (p_X5_faultInLines_97 F p1 p2 p3 y8_18 y7_18 y6_18 k18 Post )) ∧ (¬ p4 ≤ r_85 → (p_X5_faultInLines_93 F p1 p2 p3 y8_18 y7_18 y6_18 k18 Post )))))))))
noncomputable def p_X5_faultInLines_18 (F : Nat) (p1 : Int32) (p2 : Int32) (p3 : Int32) (p4 : Int32) (x_length : Int32) (f_signs : Nat → Int32) (Post : Int32 → Prop) (n : Nat) : Int32 → Int32 → Int32 → Prop := Nat.rec (motive := fun _ => Int32 → Int32 → Int32 → Prop) (fun _ _ _ => False) (fun _ k18 => fun (y8_18 : Int32) (y7_18 : Int32) (y6_18 : Int32) => ((x_length ≤ y8_18 → ((x_length = 0 → (Post (-1 : Int32))) ∧ (¬ x_length = 0 → ((¬ y7_18 = p1 → (Post x_length)) ∧ (y7_18 = p1 → (Post (-1 : Int32))))))) ∧ (¬ x_length ≤ y8_18 → ((¬ y7_18 = p1 → (p_X5_digit F y8_18 x_length f_signs (fun (r_55 : Int32) => ((r_55 = (-1 : Int32) → (p_X5_faultInLines_67 F p1 p2 p3 p4 x_length f_signs y8_18 y7_18 y6_18 k18 Post (0 : Int32))) ∧ (¬ r_55 = (-1 : Int32) → (p_X5_faultInLines_67 F p1 p2 p3 p4 x_length f_signs y8_18 y7_18 y6_18 k18 Post (1 : Int32))))))) ∧ (y7_18 = p1 → (p_X5_at F y8_18 x_length f_signs (fun (r_36 : Int32) => ((¬ r_36 = (59 : Int32) → (p_X5_faultInLines_67 F p1 p2 p3 p4 x_length f_signs y8_18 y7_18 y6_18 k18 Post (0 : Int32))) ∧ (r_36 = (59 : Int32) → (p_X5_faultInLines_67 F p1 p2 p3 p4 x_length f_signs y8_18 y7_18 y6_18 k18 Post (1 : Int32))))))))))) n
theorem p_X5_faultInLines_18_s (F : Nat) (p1 : Int32) (p2 : Int32) (p3 : Int32) (p4 : Int32) (x_length : Int32) (f_signs : Nat → Int32) (Post : Int32 → Prop) (n : Nat) (y8_18 : Int32) (y7_18 : Int32) (y6_18 : Int32) : p_X5_faultInLines_18 F p1 p2 p3 p4 x_length f_signs Post (n + 1) y8_18 y7_18 y6_18 = ((x_length ≤ y8_18 → ((x_length = 0 → (Post (-1 : Int32))) ∧ (¬ x_length = 0 → ((¬ y7_18 = p1 → (Post x_length)) ∧ (y7_18 = p1 → (Post (-1 : Int32))))))) ∧ (¬ x_length ≤ y8_18 → ((¬ y7_18 = p1 → (p_X5_digit F y8_18 x_length f_signs (fun (r_55 : Int32) => ((r_55 = (-1 : Int32) → (p_X5_faultInLines_67 F p1 p2 p3 p4 x_length f_signs y8_18 y7_18 y6_18 (p_X5_faultInLines_18 F p1 p2 p3 p4 x_length f_signs Post n) Post (0 : Int32))) ∧ (¬ r_55 = (-1 : Int32) → (p_X5_faultInLines_67 F p1 p2 p3 p4 x_length f_signs y8_18 y7_18 y6_18 (p_X5_faultInLines_18 F p1 p2 p3 p4 x_length f_signs Post n) Post (1 : Int32))))))) ∧ (y7_18 = p1 → (p_X5_at F y8_18 x_length f_signs (fun (r_36 : Int32) => ((¬ r_36 = (59 : Int32) → (p_X5_faultInLines_67 F p1 p2 p3 p4 x_length f_signs y8_18 y7_18 y6_18 (p_X5_faultInLines_18 F p1 p2 p3 p4 x_length f_signs Post n) Post (0 : Int32))) ∧ (r_36 = (59 : Int32) → (p_X5_faultInLines_67 F p1 p2 p3 p4 x_length f_signs y8_18 y7_18 y6_18 (p_X5_faultInLines_18 F p1 p2 p3 p4 x_length f_signs Post n) Post (1 : Int32)))))))))) := rfl
def p_X5_faultInLines (F : Nat) (p1 : Int32) (p2 : Int32) (p3 : Int32) (p4 : Int32) (x_length : Int32) (f_signs : Nat → Int32) (Post : Int32 → Prop) : Prop := (p_X5_faultInLines_18 F p1 p2 p3 p4 x_length f_signs Post F (0 : Int32) (0 : Int32) (0 : Int32))
set_option maxHeartbeats 4000000 in
set_option maxRecDepth 100000 in
theorem c_X5_faultInLines (l : Launch) (D : va_G) (cT : Nat → ClassId) (F : Nat) (h : Nat) (p1 : Int32) (p2 : Int32) (p3 : Int32) (p4 : Int32) (q_signs : Nat) (x_length : Int32) (f_signs : Nat → Int32) (Post : Int32 → Prop) (hg : p_X5_faultInLines F p1 p2 p3 p4 x_length f_signs Post) : MRi l D cT yX5_faultInLines cX5_faultInLines 10 (some .int) 2 43 [.ref h, .int p1, .int p2, .int p3, .int p4] [(h, oX5 (.ref q_signs) (.int x_length)), (q_signs, aC cT 80 f_signs)] Post := by
  refine MRi.of (by decide) (Nat.le_of_ble_eq_true rfl) ?_
  intro p e s m below meth c hA C0 hr hP hD hS ls hl
  have hl : lv_has ls 10 [(0, .ref h), (1, .int p1), (2, .int p2), (3, .int p3), (4, .int p4)] := hl
  have hx := C0.x
  have hb := C0.b
  have hP : va_P D cls9 [(h, oX5 (.ref q_signs) (.int x_length)), (q_signs, aC cT 80 f_signs)] s.heap := hP
  have hD : va_D (fun q => cT 6 ≤ q) [(h, oX5 (.ref q_signs) (.int x_length)), (q_signs, aC cT 80 f_signs)] := hD
  have L18 : ∀ (n18 : Nat) (y8_18 : Int32) (y7_18 : Int32) (y6_18 : Int32) (ls : Array Slot), p_X5_faultInLines_18 F p1 p2 p3 p4 x_length f_signs Post n18 y8_18 y7_18 y6_18 → lv_has ls 10 [(0, .ref h), (1, .int p1), (3, .int p3), (4, .int p4), (5, .int ((p2 * (p1 + (1 : Int32))) - (1 : Int32))), (6, .int y6_18), (7, .int y7_18), (8, .int y8_18)] → W p l e (rmO 2 43 0 0) s m ([.ref h, .int p1, .int p2, .int p3, .int p4] : List Value).toArray below meth c s.heap [] 0 0 (MQ below (vp_Si Post) ([.ref h, .int p1, .int p2, .int p3, .int p4] : List Value).toArray s 0 0 (fun _ => False)) (F0 m 18 ls []) := by
    intro n18
    induction n18 with
    | zero =>
      intro y8_18 y7_18 y6_18 ls hg hl
      exact False.elim hg
    | succ n18 ih18 =>
      have L136 : ∀ (y8_18 : Int32) (y7_136 : Int32) (y6_136 : Int32) (ls : Array Slot), p_X5_faultInLines_136 F y8_18 (p_X5_faultInLines_18 F p1 p2 p3 p4 x_length f_signs Post n18) Post y7_136 y6_136 → lv_has ls 10 [(0, .ref h), (1, .int p1), (3, .int p3), (4, .int p4), (5, .int ((p2 * (p1 + (1 : Int32))) - (1 : Int32))), (6, .int y6_136), (7, .int y7_136), (8, .int y8_18)] → W p l e (rmO 2 43 0 0) s m ([.ref h, .int p1, .int p2, .int p3, .int p4] : List Value).toArray below meth c s.heap [] 0 0 (MQ below (vp_Si Post) ([.ref h, .int p1, .int p2, .int p3, .int p4] : List Value).toArray s 0 0 (fun _ => False)) (F0 m 136 ls []) := by
        intro y8_18 y7_136 y6_136 ls hg hl
        unfold p_X5_faultInLines_136 at hg
        refine lv_iinc (v := (y8_18 + (1 : Int32))) (lv' := [(8, .int (y8_18 + (1 : Int32))), (0, .ref h), (1, .int p1), (3, .int p3), (4, .int p4), (5, .int ((p2 * (p1 + (1 : Int32))) - (1 : Int32))), (6, .int y6_136), (7, .int y7_136)]) hx hb dX5_faultInLines_136 hl (k := 7) rfl rfl (by decide) rfl (fun ls hl => ?_)
        refine lv_goto (tgt := 18) hx hb dX5_faultInLines_139 (by decide) ?_
        exact ih18 (y8_18 + (1 : Int32)) y7_136 y6_136 _ hg (lv_sub hl [1, 2, 3, 4, 5, 6, 7, 0] rfl)
      have L98 : ∀ (y8_18 : Int32) (y7_18 : Int32) (y6_18 : Int32) (s0_98 : Int32) (ls : Array Slot), p_X5_faultInLines_98 F p1 p2 p3 y8_18 y7_18 y6_18 (p_X5_faultInLines_18 F p1 p2 p3 p4 x_length f_signs Post n18) Post s0_98 → lv_has ls 10 [(0, .ref h), (1, .int p1), (3, .int p3), (4, .int p4), (5, .int ((p2 * (p1 + (1 : Int32))) - (1 : Int32))), (6, .int y6_18), (7, .int y7_18), (8, .int y8_18)] → W p l e (rmO 2 43 0 0) s m ([.ref h, .int p1, .int p2, .int p3, .int p4] : List Value).toArray below meth c s.heap [] 0 0 (MQ below (vp_Si Post) ([.ref h, .int p1, .int p2, .int p3, .int p4] : List Value).toArray s 0 0 (fun _ => False)) (F0 m 98 ls [.int s0_98]) := by
        intro y8_18 y7_18 y6_18 s0_98 ls hg hl
        unfold p_X5_faultInLines_98 at hg
        refine lv_istore (lv' := [(9, .int s0_98), (0, .ref h), (1, .int p1), (3, .int p3), (4, .int p4), (5, .int ((p2 * (p1 + (1 : Int32))) - (1 : Int32))), (6, .int y6_18), (7, .int y7_18), (8, .int y8_18)]) hx hb dX5_faultInLines_98 hl (by decide) rfl (fun ls hl => ?_)
        refine lv_iload hx hb dX5_faultInLines_100 (lv_at hl 8 rfl) ?_
        refine lv_iload hx hb dX5_faultInLines_102 (lv_at hl 5 rfl) ?_
        refine lv_icmp_eq (tgt := 118) hx hb dX5_faultInLines_104 (by decide) (fun c_104 => ?_) (fun c_104 => ?_)
        · have hg := hg.1 c_104
          refine lv_iload hx hb dX5_faultInLines_118 (lv_at hl 8 rfl) ?_
          exact k_xiret C0 hr hg dX5_faultInLines_120
        have hg := hg.2 c_104
        refine lv_iload hx hb dX5_faultInLines_107 (lv_at hl 0 rfl) ?_
        refine lv_if_eq (tgt := 118) hx hb dX5_faultInLines_109 (by decide) (fun c_109 => ?_) (fun c_109 => ?_)
        · have hg := hg.1 c_109
          refine lv_iload hx hb dX5_faultInLines_118 (lv_at hl 8 rfl) ?_
          exact k_xiret C0 hr hg dX5_faultInLines_120
        have hg := hg.2 c_109
        refine lv_iload hx hb dX5_faultInLines_112 (lv_at hl 6 rfl) ?_
        refine lv_iload_n hx hb dX5_faultInLines_114 rfl (lv_at hl 3 rfl) ?_
        refine lv_icmp_lt (tgt := 121) hx hb dX5_faultInLines_115 (by decide) (fun c_115 => ?_) (fun c_115 => ?_)
        · have hg := hg.1 c_115
          refine lv_iinc (v := (y7_18 + (1 : Int32))) (lv' := [(7, .int (y7_18 + (1 : Int32))), (9, .int s0_98), (0, .ref h), (1, .int p1), (3, .int p3), (4, .int p4), (5, .int ((p2 * (p1 + (1 : Int32))) - (1 : Int32))), (6, .int y6_18), (8, .int y8_18)]) hx hb dX5_faultInLines_121 hl (k := 7) rfl rfl (by decide) rfl (fun ls hl => ?_)
          refine lv_iload hx hb dX5_faultInLines_124 (lv_at hl 0 rfl) ?_
          refine lv_iload_n hx hb dX5_faultInLines_126 rfl (lv_at hl 3 rfl) ?_
          refine lv_icmp_le (tgt := 136) hx hb dX5_faultInLines_127 (by decide) (fun c_127 => ?_) (fun c_127 => ?_)
          · have hg := hg.1 c_127
            exact L136 y8_18 (y7_18 + (1 : Int32)) y6_18 _ hg (lv_sub hl [2, 3, 4, 5, 6, 7, 0, 8] rfl)
          have hg := hg.2 c_127
          refine lv_iconst (v := (0 : Int32)) hx hb dX5_faultInLines_130 (by decide) ?_
          refine lv_istore (lv' := [(7, .int (0 : Int32)), (9, .int s0_98), (0, .ref h), (1, .int p1), (3, .int p3), (4, .int p4), (5, .int ((p2 * (p1 + (1 : Int32))) - (1 : Int32))), (6, .int y6_18), (8, .int y8_18)]) hx hb dX5_faultInLines_131 hl (by decide) rfl (fun ls hl => ?_)
          refine lv_iinc (v := (y6_18 + (1 : Int32))) (lv' := [(6, .int (y6_18 + (1 : Int32))), (7, .int (0 : Int32)), (9, .int s0_98), (0, .ref h), (1, .int p1), (3, .int p3), (4, .int p4), (5, .int ((p2 * (p1 + (1 : Int32))) - (1 : Int32))), (8, .int y8_18)]) hx hb dX5_faultInLines_133 hl (k := 7) rfl rfl (by decide) rfl (fun ls hl => ?_)
          exact L136 y8_18 (0 : Int32) (y6_18 + (1 : Int32)) _ hg (lv_sub hl [3, 4, 5, 6, 7, 0, 1, 8] rfl)
        have hg := hg.2 c_115
        refine lv_iload hx hb dX5_faultInLines_118 (lv_at hl 8 rfl) ?_
        exact k_xiret C0 hr hg dX5_faultInLines_120
      have L97 : ∀ (y8_18 : Int32) (y7_18 : Int32) (y6_18 : Int32) (ls : Array Slot), p_X5_faultInLines_97 F p1 p2 p3 y8_18 y7_18 y6_18 (p_X5_faultInLines_18 F p1 p2 p3 p4 x_length f_signs Post n18) Post → lv_has ls 10 [(0, .ref h), (1, .int p1), (3, .int p3), (4, .int p4), (5, .int ((p2 * (p1 + (1 : Int32))) - (1 : Int32))), (6, .int y6_18), (7, .int y7_18), (8, .int y8_18)] → W p l e (rmO 2 43 0 0) s m ([.ref h, .int p1, .int p2, .int p3, .int p4] : List Value).toArray below meth c s.heap [] 0 0 (MQ below (vp_Si Post) ([.ref h, .int p1, .int p2, .int p3, .int p4] : List Value).toArray s 0 0 (fun _ => False)) (F0 m 97 ls []) := by
        intro y8_18 y7_18 y6_18 ls hg hl
        unfold p_X5_faultInLines_97 at hg
        refine lv_iconst (v := (0 : Int32)) hx hb dX5_faultInLines_97 (by decide) ?_
        exact L98 y8_18 y7_18 y6_18 (0 : Int32) _ hg hl
      have L93 : ∀ (y8_18 : Int32) (y7_18 : Int32) (y6_18 : Int32) (ls : Array Slot), p_X5_faultInLines_93 F p1 p2 p3 y8_18 y7_18 y6_18 (p_X5_faultInLines_18 F p1 p2 p3 p4 x_length f_signs Post n18) Post → lv_has ls 10 [(0, .ref h), (1, .int p1), (3, .int p3), (4, .int p4), (5, .int ((p2 * (p1 + (1 : Int32))) - (1 : Int32))), (6, .int y6_18), (7, .int y7_18), (8, .int y8_18)] → W p l e (rmO 2 43 0 0) s m ([.ref h, .int p1, .int p2, .int p3, .int p4] : List Value).toArray below meth c s.heap [] 0 0 (MQ below (vp_Si Post) ([.ref h, .int p1, .int p2, .int p3, .int p4] : List Value).toArray s 0 0 (fun _ => False)) (F0 m 93 ls []) := by
        intro y8_18 y7_18 y6_18 ls hg hl
        unfold p_X5_faultInLines_93 at hg
        refine lv_iconst (v := (1 : Int32)) hx hb dX5_faultInLines_93 (by decide) ?_
        refine lv_goto (tgt := 98) hx hb dX5_faultInLines_94 (by decide) ?_
        exact L98 y8_18 y7_18 y6_18 (1 : Int32) _ hg hl
      have L67 : ∀ (y8_18 : Int32) (y7_18 : Int32) (y6_18 : Int32) (s0_67 : Int32) (ls : Array Slot), p_X5_faultInLines_67 F p1 p2 p3 p4 x_length f_signs y8_18 y7_18 y6_18 (p_X5_faultInLines_18 F p1 p2 p3 p4 x_length f_signs Post n18) Post s0_67 → lv_has ls 10 [(0, .ref h), (1, .int p1), (3, .int p3), (4, .int p4), (5, .int ((p2 * (p1 + (1 : Int32))) - (1 : Int32))), (6, .int y6_18), (7, .int y7_18), (8, .int y8_18)] → W p l e (rmO 2 43 0 0) s m ([.ref h, .int p1, .int p2, .int p3, .int p4] : List Value).toArray below meth c s.heap [] 0 0 (MQ below (vp_Si Post) ([.ref h, .int p1, .int p2, .int p3, .int p4] : List Value).toArray s 0 0 (fun _ => False)) (F0 m 67 ls [.int s0_67]) := by
        intro y8_18 y7_18 y6_18 s0_67 ls hg hl
        unfold p_X5_faultInLines_67 at hg
        refine lv_istore (lv' := [(9, .int s0_67), (0, .ref h), (1, .int p1), (3, .int p3), (4, .int p4), (5, .int ((p2 * (p1 + (1 : Int32))) - (1 : Int32))), (6, .int y6_18), (7, .int y7_18), (8, .int y8_18)]) hx hb dX5_faultInLines_67 hl (by decide) rfl (fun ls hl => ?_)
        refine lv_iload hx hb dX5_faultInLines_69 (lv_at hl 0 rfl) ?_
        refine lv_if_eq (tgt := 97) hx hb dX5_faultInLines_71 (by decide) (fun c_71 => ?_) (fun c_71 => ?_)
        · have hg := hg.1 c_71
          exact L97 y8_18 y7_18 y6_18 _ hg (lv_sub hl [1, 2, 3, 4, 5, 6, 7, 8] rfl)
        have hg := hg.2 c_71
        refine lv_iload hx hb dX5_faultInLines_74 (lv_at hl 7 rfl) ?_
        refine lv_iload_n hx hb dX5_faultInLines_76 rfl (lv_at hl 2 rfl) ?_
        refine lv_iconst (v := (1 : Int32)) hx hb dX5_faultInLines_77 (by decide) ?_
        refine lv_isub hx hb dX5_faultInLines_78 ?_
        refine lv_icmp_ne (tgt := 93) hx hb dX5_faultInLines_79 (by decide) (fun c_79 => ?_) (fun c_79 => ?_)
        · have hg := hg.1 c_79
          exact L93 y8_18 y7_18 y6_18 _ hg (lv_sub hl [1, 2, 3, 4, 5, 6, 7, 8] rfl)
        have hg := hg.2 c_79
        refine lv_aload_n hx hb dX5_faultInLines_82 rfl (lv_at hl 1 rfl) ?_
        refine lv_iload hx hb dX5_faultInLines_83 (lv_at hl 8 rfl) ?_
        refine k_Vxi (rest := []) C0 lk_X5_23 (c_X5_digit l D cT F h y8_18 q_signs x_length f_signs _ hg) hP hD hS hA [0, 1] (by decide +kernel) rfl rfl rfl ⟨Nat.le_of_ble_eq_true rfl, Nat.le_of_ble_eq_true rfl⟩ rfl hl.1 rfl (Nat.le_of_ble_eq_true rfl) dX5_faultInLines_85 ⟨Nat.le_of_ble_eq_true rfl, Nat.le_of_ble_eq_true rfl⟩ (fun r_85 hg => ?_)
        refine lv_iload hx hb dX5_faultInLines_88 (lv_at hl 4 rfl) ?_
        refine lv_icmp_ge (tgt := 97) hx hb dX5_faultInLines_90 (by decide) (fun c_90 => ?_) (fun c_90 => ?_)
        · have hg := hg.1 c_90
          exact L97 y8_18 y7_18 y6_18 _ hg (lv_sub hl [1, 2, 3, 4, 5, 6, 7, 8] rfl)
        have hg := hg.2 c_90
        exact L93 y8_18 y7_18 y6_18 _ hg (lv_sub hl [1, 2, 3, 4, 5, 6, 7, 8] rfl)
      intro y8_18 y7_18 y6_18 ls hg hl
      rw [p_X5_faultInLines_18_s] at hg
      refine lv_iload hx hb dX5_faultInLines_18 (lv_at hl 7 rfl) ?_
      refine lv_aload_n hx hb dX5_faultInLines_20 rfl (lv_at hl 0 rfl) ?_
      refine gf_X5_15 C0 hP 0 rfl rfl dX5_faultInLines_21 ?_
      refine lv_icmp_ge (tgt := 142) hx hb dX5_faultInLines_24 (by decide) (fun c_24 => ?_) (fun c_24 => ?_)
      · have hg := hg.1 c_24
        refine lv_aload_n hx hb dX5_faultInLines_142 rfl (lv_at hl 0 rfl) ?_
        refine gf_X5_15 C0 hP 0 rfl rfl dX5_faultInLines_143 ?_
        refine lv_if_eq (tgt := 155) hx hb dX5_faultInLines_146 (by decide) (fun c_146 => ?_) (fun c_146 => ?_)
        · have hg := hg.1 c_146
          refine lv_iconst (v := (-1 : Int32)) hx hb dX5_faultInLines_155 (by decide) ?_
          refine lv_goto (tgt := 163) hx hb dX5_faultInLines_156 (by decide) ?_
          exact k_xiret C0 hr hg dX5_faultInLines_163
        have hg := hg.2 c_146
        refine lv_iload hx hb dX5_faultInLines_149 (lv_at hl 6 rfl) ?_
        refine lv_iload_n hx hb dX5_faultInLines_151 rfl (lv_at hl 1 rfl) ?_
        refine lv_icmp_ne (tgt := 159) hx hb dX5_faultInLines_152 (by decide) (fun c_152 => ?_) (fun c_152 => ?_)
        · have hg := hg.1 c_152
          refine lv_aload_n hx hb dX5_faultInLines_159 rfl (lv_at hl 0 rfl) ?_
          refine gf_X5_15 C0 hP 0 rfl rfl dX5_faultInLines_160 ?_
          exact k_xiret C0 hr hg dX5_faultInLines_163
        have hg := hg.2 c_152
        refine lv_iconst (v := (-1 : Int32)) hx hb dX5_faultInLines_155 (by decide) ?_
        refine lv_goto (tgt := 163) hx hb dX5_faultInLines_156 (by decide) ?_
        exact k_xiret C0 hr hg dX5_faultInLines_163
      have hg := hg.2 c_24
      refine lv_iload hx hb dX5_faultInLines_27 (lv_at hl 6 rfl) ?_
      refine lv_iload_n hx hb dX5_faultInLines_29 rfl (lv_at hl 1 rfl) ?_
      refine lv_icmp_ne (tgt := 52) hx hb dX5_faultInLines_30 (by decide) (fun c_30 => ?_) (fun c_30 => ?_)
      · have hg := hg.1 c_30
        refine lv_aload_n hx hb dX5_faultInLines_52 rfl (lv_at hl 0 rfl) ?_
        refine lv_iload hx hb dX5_faultInLines_53 (lv_at hl 7 rfl) ?_
        refine k_Vxi (rest := []) C0 lk_X5_23 (c_X5_digit l D cT F h y8_18 q_signs x_length f_signs _ hg) hP hD hS hA [0, 1] (by decide +kernel) rfl rfl rfl ⟨Nat.le_of_ble_eq_true rfl, Nat.le_of_ble_eq_true rfl⟩ rfl hl.1 rfl (Nat.le_of_ble_eq_true rfl) dX5_faultInLines_55 ⟨Nat.le_of_ble_eq_true rfl, Nat.le_of_ble_eq_true rfl⟩ (fun r_55 hg => ?_)
        refine lv_iconst (v := (-1 : Int32)) hx hb dX5_faultInLines_58 (by decide) ?_
        refine lv_icmp_eq (tgt := 66) hx hb dX5_faultInLines_59 (by decide) (fun c_59 => ?_) (fun c_59 => ?_)
        · have hg := hg.1 c_59
          refine lv_iconst (v := (0 : Int32)) hx hb dX5_faultInLines_66 (by decide) ?_
          exact L67 y8_18 y7_18 y6_18 (0 : Int32) _ hg hl
        have hg := hg.2 c_59
        refine lv_iconst (v := (1 : Int32)) hx hb dX5_faultInLines_62 (by decide) ?_
        refine lv_goto (tgt := 67) hx hb dX5_faultInLines_63 (by decide) ?_
        exact L67 y8_18 y7_18 y6_18 (1 : Int32) _ hg hl
      have hg := hg.2 c_30
      refine lv_aload_n hx hb dX5_faultInLines_33 rfl (lv_at hl 0 rfl) ?_
      refine lv_iload hx hb dX5_faultInLines_34 (lv_at hl 7 rfl) ?_
      refine k_Vxi (rest := []) C0 lk_X5_19 (c_X5_at l D cT F h y8_18 q_signs x_length f_signs _ hg) hP hD hS hA [0, 1] (by decide +kernel) rfl rfl rfl ⟨Nat.le_of_ble_eq_true rfl, Nat.le_of_ble_eq_true rfl⟩ rfl hl.1 rfl (Nat.le_of_ble_eq_true rfl) dX5_faultInLines_36 ⟨Nat.le_of_ble_eq_true rfl, Nat.le_of_ble_eq_true rfl⟩ (fun r_36 hg => ?_)
      refine lv_bipush (v := (59 : Int32)) hx hb dX5_faultInLines_39 (by decide) ?_
      refine lv_icmp_ne (tgt := 48) hx hb dX5_faultInLines_41 (by decide) (fun c_41 => ?_) (fun c_41 => ?_)
      · have hg := hg.1 c_41
        refine lv_iconst (v := (0 : Int32)) hx hb dX5_faultInLines_48 (by decide) ?_
        refine lv_goto (tgt := 67) hx hb dX5_faultInLines_49 (by decide) ?_
        exact L67 y8_18 y7_18 y6_18 (0 : Int32) _ hg hl
      have hg := hg.2 c_41
      refine lv_iconst (v := (1 : Int32)) hx hb dX5_faultInLines_44 (by decide) ?_
      refine lv_goto (tgt := 67) hx hb dX5_faultInLines_45 (by decide) ?_
      exact L67 y8_18 y7_18 y6_18 (1 : Int32) _ hg hl
  unfold p_X5_faultInLines at hg
  refine lv_iload_n hx hb dX5_faultInLines_0 rfl (lv_at hl 2 rfl) ?_
  refine lv_iload_n hx hb dX5_faultInLines_1 rfl (lv_at hl 1 rfl) ?_
  refine lv_iconst (v := (1 : Int32)) hx hb dX5_faultInLines_2 (by decide) ?_
  refine lv_iadd hx hb dX5_faultInLines_3 ?_
  refine lv_imul hx hb dX5_faultInLines_4 ?_
  refine lv_iconst (v := (1 : Int32)) hx hb dX5_faultInLines_5 (by decide) ?_
  refine lv_isub hx hb dX5_faultInLines_6 ?_
  refine lv_istore (lv' := [(5, .int ((p2 * (p1 + (1 : Int32))) - (1 : Int32))), (0, .ref h), (1, .int p1), (2, .int p2), (3, .int p3), (4, .int p4)]) hx hb dX5_faultInLines_7 hl (by decide) rfl (fun ls hl => ?_)
  refine lv_iconst (v := (0 : Int32)) hx hb dX5_faultInLines_9 (by decide) ?_
  refine lv_istore (lv' := [(6, .int (0 : Int32)), (5, .int ((p2 * (p1 + (1 : Int32))) - (1 : Int32))), (0, .ref h), (1, .int p1), (2, .int p2), (3, .int p3), (4, .int p4)]) hx hb dX5_faultInLines_10 hl (by decide) rfl (fun ls hl => ?_)
  refine lv_iconst (v := (0 : Int32)) hx hb dX5_faultInLines_12 (by decide) ?_
  refine lv_istore (lv' := [(7, .int (0 : Int32)), (6, .int (0 : Int32)), (5, .int ((p2 * (p1 + (1 : Int32))) - (1 : Int32))), (0, .ref h), (1, .int p1), (2, .int p2), (3, .int p3), (4, .int p4)]) hx hb dX5_faultInLines_13 hl (by decide) rfl (fun ls hl => ?_)
  refine lv_iconst (v := (0 : Int32)) hx hb dX5_faultInLines_15 (by decide) ?_
  refine lv_istore (lv' := [(8, .int (0 : Int32)), (7, .int (0 : Int32)), (6, .int (0 : Int32)), (5, .int ((p2 * (p1 + (1 : Int32))) - (1 : Int32))), (0, .ref h), (1, .int p1), (2, .int p2), (3, .int p3), (4, .int p4)]) hx hb dX5_faultInLines_16 hl (by decide) rfl (fun ls hl => ?_)
  exact L18 F (0 : Int32) (0 : Int32) (0 : Int32) _ hg (lv_sub hl [4, 5, 7, 8, 3, 2, 1, 0] rfl)
theorem dX5_linesOf_0 : decode cX5_linesOf 0 = .ok (.aload_n 0, 1) := by decide +kernel
theorem dX5_linesOf_1 : decode cX5_linesOf 1 = .ok (.getfield 15, 3) := by decide +kernel
theorem dX5_linesOf_4 : decode cX5_linesOf 4 = .ok (.iconst 1, 1) := by decide +kernel
theorem dX5_linesOf_5 : decode cX5_linesOf 5 = .ok (.iadd, 1) := by decide +kernel
theorem dX5_linesOf_6 : decode cX5_linesOf 6 = .ok (.iload_n 1, 1) := by decide +kernel
theorem dX5_linesOf_7 : decode cX5_linesOf 7 = .ok (.iconst 1, 1) := by decide +kernel
theorem dX5_linesOf_8 : decode cX5_linesOf 8 = .ok (.iadd, 1) := by decide +kernel
theorem dX5_linesOf_9 : decode cX5_linesOf 9 = .ok (.idiv, 1) := by decide +kernel
theorem dX5_linesOf_10 : decode cX5_linesOf 10 = .ok (.ireturn, 1) := by decide +kernel
def p_X5_linesOf (F : Nat) (p1 : Int32) (x_length : Int32) (Post : Int32 → Prop) : Prop := (¬ (p1 + (1 : Int32)) = 0 ∧ (Post ((x_length + (1 : Int32)) / (p1 + (1 : Int32)))))
set_option maxHeartbeats 4000000 in
set_option maxRecDepth 100000 in
theorem c_X5_linesOf (l : Launch) (D : va_G) (cT : Nat → ClassId) (F : Nat) (h : Nat) (p1 : Int32) (w_signs : Value) (x_length : Int32) (Post : Int32 → Prop) (hg : p_X5_linesOf F p1 x_length Post) : MRi l D cT yX5_linesOf cX5_linesOf 2 (some .int) 0 0 [.ref h, .int p1] [(h, oX5 w_signs (.int x_length))] Post := by
  refine MRi.of (by decide) (Nat.le_of_ble_eq_true rfl) ?_
  intro p e s m below meth c hA C0 hr hP hD hS ls hl
  have hl : lv_has ls 2 [(0, .ref h), (1, .int p1)] := hl
  have hx := C0.x
  have hb := C0.b
  have hP : va_P D cls9 [(h, oX5 w_signs (.int x_length))] s.heap := hP
  have hD : va_D (fun q => cT 6 ≤ q) [(h, oX5 w_signs (.int x_length))] := hD
  unfold p_X5_linesOf at hg
  refine lv_aload_n hx hb dX5_linesOf_0 rfl (lv_at hl 0 rfl) ?_
  refine gf_X5_15 C0 hP 0 rfl rfl dX5_linesOf_1 ?_
  refine lv_iconst (v := (1 : Int32)) hx hb dX5_linesOf_4 (by decide) ?_
  refine lv_iadd hx hb dX5_linesOf_5 ?_
  refine lv_iload_n hx hb dX5_linesOf_6 rfl (lv_at hl 1 rfl) ?_
  refine lv_iconst (v := (1 : Int32)) hx hb dX5_linesOf_7 (by decide) ?_
  refine lv_iadd hx hb dX5_linesOf_8 ?_
  obtain ⟨g_9, hg⟩ := hg
  refine lv_idiv hx hb dX5_linesOf_9 g_9 ?_
  exact k_xiret C0 hr hg dX5_linesOf_10
theorem dX7_digitsOfAct_0 : decode cX7_digitsOfAct 0 = .ok (.iload_n 0, 1) := by decide +kernel
theorem dX7_digitsOfAct_1 : decode cX7_digitsOfAct 1 = .ok (.tableswitch 75 102 115 #[73, 73, 75, 75, 75, 75, 73, 75, 71, 75, 71, 75, 75, 73], 71) := by decide +kernel
theorem dX7_digitsOfAct_72 : decode cX7_digitsOfAct 72 = .ok (.iconst 1, 1) := by decide +kernel
theorem dX7_digitsOfAct_73 : decode cX7_digitsOfAct 73 = .ok (.ireturn, 1) := by decide +kernel
theorem dX7_digitsOfAct_74 : decode cX7_digitsOfAct 74 = .ok (.iconst 2, 1) := by decide +kernel
theorem dX7_digitsOfAct_75 : decode cX7_digitsOfAct 75 = .ok (.ireturn, 1) := by decide +kernel
theorem dX7_digitsOfAct_76 : decode cX7_digitsOfAct 76 = .ok (.iconst 0, 1) := by decide +kernel
theorem dX7_digitsOfAct_77 : decode cX7_digitsOfAct 77 = .ok (.ireturn, 1) := by decide +kernel
def p_X7_digitsOfAct (F : Nat) (p0 : Int32) (Post : Int32 → Prop) : Prop := ((p0 = (102 : Int32) → (Post (2 : Int32))) ∧ (¬ p0 = (102 : Int32) → ((p0 = (103 : Int32) → (Post (2 : Int32))) ∧ (¬ p0 = (103 : Int32) → ((p0 = (108 : Int32) → (Post (2 : Int32))) ∧ (¬ p0 = (108 : Int32) → ((p0 = (110 : Int32) → (Post (1 : Int32))) ∧ (¬ p0 = (110 : Int32) → ((p0 = (112 : Int32) → (Post (1 : Int32))) ∧ (¬ p0 = (112 : Int32) → ((p0 = (115 : Int32) → (Post (2 : Int32))) ∧ (¬ p0 = (115 : Int32) → (Post (0 : Int32))))))))))))))
set_option maxHeartbeats 4000000 in
set_option maxRecDepth 100000 in
theorem c_X7_digitsOfAct (l : Launch) (D : va_G) (cT : Nat → ClassId) (F : Nat) (p0 : Int32) (Post : Int32 → Prop) (hg : p_X7_digitsOfAct F p0 Post) : MRi l D cT yX7_digitsOfAct cX7_digitsOfAct 1 (some .int) 0 0 [.int p0] [] Post := by
  refine MRi.of (by decide) (Nat.le_of_ble_eq_true rfl) ?_
  intro p e s m below meth c hA C0 hr hP hD hS ls hl
  have hl : lv_has ls 1 [(0, .int p0)] := hl
  have hx := C0.x
  have hb := C0.b
  have hP : va_P D cls9 [] s.heap := hP
  have hD : va_D (fun q => cT 6 ≤ q) [] := hD
  unfold p_X7_digitsOfAct at hg
  refine lv_iload_n hx hb dX7_digitsOfAct_0 rfl (lv_at hl 0 rfl) ?_
  rcases Classical.em (p0 = (102 : Int32)) with c_1_102 | c_1_102
  · have hg := hg.1 c_1_102
    refine lv_tableIn (tgt := 74) hx hb dX7_digitsOfAct_1 (by rw [c_1_102]; decide) (by rw [c_1_102]; decide) (by rw [c_1_102]; rfl) (by decide) ?_
    refine lv_iconst (v := (2 : Int32)) hx hb dX7_digitsOfAct_74 (by decide) ?_
    exact k_xiret C0 hr hg dX7_digitsOfAct_75
  have hg := hg.2 c_1_102
  rcases Classical.em (p0 = (103 : Int32)) with c_1_103 | c_1_103
  · have hg := hg.1 c_1_103
    refine lv_tableIn (tgt := 74) hx hb dX7_digitsOfAct_1 (by rw [c_1_103]; decide) (by rw [c_1_103]; decide) (by rw [c_1_103]; rfl) (by decide) ?_
    refine lv_iconst (v := (2 : Int32)) hx hb dX7_digitsOfAct_74 (by decide) ?_
    exact k_xiret C0 hr hg dX7_digitsOfAct_75
  have hg := hg.2 c_1_103
  rcases Classical.em (p0 = (108 : Int32)) with c_1_108 | c_1_108
  · have hg := hg.1 c_1_108
    refine lv_tableIn (tgt := 74) hx hb dX7_digitsOfAct_1 (by rw [c_1_108]; decide) (by rw [c_1_108]; decide) (by rw [c_1_108]; rfl) (by decide) ?_
    refine lv_iconst (v := (2 : Int32)) hx hb dX7_digitsOfAct_74 (by decide) ?_
    exact k_xiret C0 hr hg dX7_digitsOfAct_75
  have hg := hg.2 c_1_108
  rcases Classical.em (p0 = (110 : Int32)) with c_1_110 | c_1_110
  · have hg := hg.1 c_1_110
    refine lv_tableIn (tgt := 72) hx hb dX7_digitsOfAct_1 (by rw [c_1_110]; decide) (by rw [c_1_110]; decide) (by rw [c_1_110]; rfl) (by decide) ?_
    refine lv_iconst (v := (1 : Int32)) hx hb dX7_digitsOfAct_72 (by decide) ?_
    exact k_xiret C0 hr hg dX7_digitsOfAct_73
  have hg := hg.2 c_1_110
  rcases Classical.em (p0 = (112 : Int32)) with c_1_112 | c_1_112
  · have hg := hg.1 c_1_112
    refine lv_tableIn (tgt := 72) hx hb dX7_digitsOfAct_1 (by rw [c_1_112]; decide) (by rw [c_1_112]; decide) (by rw [c_1_112]; rfl) (by decide) ?_
    refine lv_iconst (v := (1 : Int32)) hx hb dX7_digitsOfAct_72 (by decide) ?_
    exact k_xiret C0 hr hg dX7_digitsOfAct_73
  have hg := hg.2 c_1_112
  rcases Classical.em (p0 = (115 : Int32)) with c_1_115 | c_1_115
  · have hg := hg.1 c_1_115
    refine lv_tableIn (tgt := 74) hx hb dX7_digitsOfAct_1 (by rw [c_1_115]; decide) (by rw [c_1_115]; decide) (by rw [c_1_115]; rfl) (by decide) ?_
    refine lv_iconst (v := (2 : Int32)) hx hb dX7_digitsOfAct_74 (by decide) ?_
    exact k_xiret C0 hr hg dX7_digitsOfAct_75
  have hg := hg.2 c_1_115
  refine sw_def (x := p0) (lo := 102) (dflt := 75) (tgt := 76) hx hb dX7_digitsOfAct_1 (by decide) (by decide) ?_ ?_
  · intro k hk hx2
    have n_1_102 := ne_toInt (k := 102) (by decide) c_1_102
    have n_1_103 := ne_toInt (k := 103) (by decide) c_1_103
    have n_1_108 := ne_toInt (k := 108) (by decide) c_1_108
    have n_1_110 := ne_toInt (k := 110) (by decide) c_1_110
    have n_1_112 := ne_toInt (k := 112) (by decide) c_1_112
    have n_1_115 := ne_toInt (k := 115) (by decide) c_1_115
    have hk3 : k < 14 := hk
    match k, hk3 with
    | 0, _ => exact absurd hx2 (by omega)
    | 1, _ => exact absurd hx2 (by omega)
    | 2, _ => rfl
    | 3, _ => rfl
    | 4, _ => rfl
    | 5, _ => rfl
    | 6, _ => exact absurd hx2 (by omega)
    | 7, _ => rfl
    | 8, _ => exact absurd hx2 (by omega)
    | 9, _ => rfl
    | 10, _ => exact absurd hx2 (by omega)
    | 11, _ => rfl
    | 12, _ => rfl
    | 13, _ => exact absurd hx2 (by omega)
    | k + 14, h => exact absurd h (by omega)
  refine lv_iconst (v := (0 : Int32)) hx hb dX7_digitsOfAct_76 (by decide) ?_
  exact k_xiret C0 hr hg dX7_digitsOfAct_77
theorem dX5_faultInNight_0 : decode cX5_faultInNight 0 = .ok (.iconst 0, 1) := by decide +kernel
theorem dX5_faultInNight_1 : decode cX5_faultInNight 1 = .ok (.istore_n 1, 1) := by decide +kernel
theorem dX5_faultInNight_2 : decode cX5_faultInNight 2 = .ok (.iconst 0, 1) := by decide +kernel
theorem dX5_faultInNight_3 : decode cX5_faultInNight 3 = .ok (.istore_n 2, 1) := by decide +kernel
theorem dX5_faultInNight_4 : decode cX5_faultInNight 4 = .ok (.iconst 0, 1) := by decide +kernel
theorem dX5_faultInNight_5 : decode cX5_faultInNight 5 = .ok (.istore_n 3, 1) := by decide +kernel
theorem dX5_faultInNight_6 : decode cX5_faultInNight 6 = .ok (.iload_n 3, 1) := by decide +kernel
theorem dX5_faultInNight_7 : decode cX5_faultInNight 7 = .ok (.aload_n 0, 1) := by decide +kernel
theorem dX5_faultInNight_8 : decode cX5_faultInNight 8 = .ok (.getfield 15, 3) := by decide +kernel
theorem dX5_faultInNight_11 : decode cX5_faultInNight 11 = .ok (.if_icmp .ge 85, 3) := by decide +kernel
theorem dX5_faultInNight_14 : decode cX5_faultInNight 14 = .ok (.iload_n 3, 1) := by decide +kernel
theorem dX5_faultInNight_15 : decode cX5_faultInNight 15 = .ok (.bipush 60, 2) := by decide +kernel
theorem dX5_faultInNight_17 : decode cX5_faultInNight 17 = .ok (.if_icmp .ne 5, 3) := by decide +kernel
theorem dX5_faultInNight_20 : decode cX5_faultInNight 20 = .ok (.iload_n 3, 1) := by decide +kernel
theorem dX5_faultInNight_21 : decode cX5_faultInNight 21 = .ok (.ireturn, 1) := by decide +kernel
theorem dX5_faultInNight_22 : decode cX5_faultInNight 22 = .ok (.iload_n 2, 1) := by decide +kernel
theorem dX5_faultInNight_23 : decode cX5_faultInNight 23 = .ok (.ifCond .ne 20, 3) := by decide +kernel
theorem dX5_faultInNight_26 : decode cX5_faultInNight 26 = .ok (.aload_n 0, 1) := by decide +kernel
theorem dX5_faultInNight_27 : decode cX5_faultInNight 27 = .ok (.iload_n 3, 1) := by decide +kernel
theorem dX5_faultInNight_28 : decode cX5_faultInNight 28 = .ok (.invokevirtual 19, 3) := by decide +kernel
theorem dX5_faultInNight_31 : decode cX5_faultInNight 31 = .ok (.istore_n 1, 1) := by decide +kernel
theorem dX5_faultInNight_32 : decode cX5_faultInNight 32 = .ok (.iload_n 1, 1) := by decide +kernel
theorem dX5_faultInNight_33 : decode cX5_faultInNight 33 = .ok (.invokestatic 26, 3) := by decide +kernel
theorem dX5_faultInNight_36 : decode cX5_faultInNight 36 = .ok (.istore_n 2, 1) := by decide +kernel
theorem dX5_faultInNight_37 : decode cX5_faultInNight 37 = .ok (.iload_n 2, 1) := by decide +kernel
theorem dX5_faultInNight_38 : decode cX5_faultInNight 38 = .ok (.ifCond .ne 52, 3) := by decide +kernel
theorem dX5_faultInNight_41 : decode cX5_faultInNight 41 = .ok (.iload_n 3, 1) := by decide +kernel
theorem dX5_faultInNight_42 : decode cX5_faultInNight 42 = .ok (.ireturn, 1) := by decide +kernel
theorem dX5_faultInNight_43 : decode cX5_faultInNight 43 = .ok (.iload_n 2, 1) := by decide +kernel
theorem dX5_faultInNight_44 : decode cX5_faultInNight 44 = .ok (.iconst 1, 1) := by decide +kernel
theorem dX5_faultInNight_45 : decode cX5_faultInNight 45 = .ok (.if_icmp .ne 19, 3) := by decide +kernel
theorem dX5_faultInNight_48 : decode cX5_faultInNight 48 = .ok (.iload_n 1, 1) := by decide +kernel
theorem dX5_faultInNight_49 : decode cX5_faultInNight 49 = .ok (.bipush 102, 2) := by decide +kernel
theorem dX5_faultInNight_51 : decode cX5_faultInNight 51 = .ok (.if_icmp .eq 9, 3) := by decide +kernel
theorem dX5_faultInNight_54 : decode cX5_faultInNight 54 = .ok (.iload_n 1, 1) := by decide +kernel
theorem dX5_faultInNight_55 : decode cX5_faultInNight 55 = .ok (.bipush 103, 2) := by decide +kernel
theorem dX5_faultInNight_57 : decode cX5_faultInNight 57 = .ok (.if_icmp .ne 7, 3) := by decide +kernel
theorem dX5_faultInNight_60 : decode cX5_faultInNight 60 = .ok (.iconst 1, 1) := by decide +kernel
theorem dX5_faultInNight_61 : decode cX5_faultInNight 61 = .ok (.goto 4, 3) := by decide +kernel
theorem dX5_faultInNight_64 : decode cX5_faultInNight 64 = .ok (.iconst 0, 1) := by decide +kernel
theorem dX5_faultInNight_65 : decode cX5_faultInNight 65 = .ok (.istore 4, 2) := by decide +kernel
theorem dX5_faultInNight_67 : decode cX5_faultInNight 67 = .ok (.aload_n 0, 1) := by decide +kernel
theorem dX5_faultInNight_68 : decode cX5_faultInNight 68 = .ok (.iload_n 3, 1) := by decide +kernel
theorem dX5_faultInNight_69 : decode cX5_faultInNight 69 = .ok (.invokevirtual 23, 3) := by decide +kernel
theorem dX5_faultInNight_72 : decode cX5_faultInNight 72 = .ok (.iload 4, 2) := by decide +kernel
theorem dX5_faultInNight_74 : decode cX5_faultInNight 74 = .ok (.ifCond .eq 7, 3) := by decide +kernel
theorem dX5_faultInNight_77 : decode cX5_faultInNight 77 = .ok (.iconst 1, 1) := by decide +kernel
theorem dX5_faultInNight_78 : decode cX5_faultInNight 78 = .ok (.goto 4, 3) := by decide +kernel
theorem dX5_faultInNight_81 : decode cX5_faultInNight 81 = .ok (.iconst 0, 1) := by decide +kernel
theorem dX5_faultInNight_82 : decode cX5_faultInNight 82 = .ok (.if_icmp .ge 5, 3) := by decide +kernel
theorem dX5_faultInNight_85 : decode cX5_faultInNight 85 = .ok (.iload_n 3, 1) := by decide +kernel
theorem dX5_faultInNight_86 : decode cX5_faultInNight 86 = .ok (.ireturn, 1) := by decide +kernel
theorem dX5_faultInNight_87 : decode cX5_faultInNight 87 = .ok (.iinc 2 (-1), 3) := by decide +kernel
theorem dX5_faultInNight_90 : decode cX5_faultInNight 90 = .ok (.iinc 3 1, 3) := by decide +kernel
theorem dX5_faultInNight_93 : decode cX5_faultInNight 93 = .ok (.goto (-87), 3) := by decide +kernel
theorem dX5_faultInNight_96 : decode cX5_faultInNight 96 = .ok (.iload_n 2, 1) := by decide +kernel
theorem dX5_faultInNight_97 : decode cX5_faultInNight 97 = .ok (.ifCond .ne 7, 3) := by decide +kernel
theorem dX5_faultInNight_100 : decode cX5_faultInNight 100 = .ok (.iconst (-1), 1) := by decide +kernel
theorem dX5_faultInNight_101 : decode cX5_faultInNight 101 = .ok (.goto 7, 3) := by decide +kernel
theorem dX5_faultInNight_104 : decode cX5_faultInNight 104 = .ok (.aload_n 0, 1) := by decide +kernel
theorem dX5_faultInNight_105 : decode cX5_faultInNight 105 = .ok (.getfield 15, 3) := by decide +kernel
theorem dX5_faultInNight_108 : decode cX5_faultInNight 108 = .ok (.ireturn, 1) := by decide +kernel
def p_X5_faultInNight_90 (F : Nat) (y3_6 : Int32) (k6 : Int32 → Int32 → Int32 → Prop) (Post : Int32 → Prop) (y2_90 : Int32) (y1_90 : Int32) : Prop := (k6 (y3_6 + (1 : Int32)) y2_90 y1_90)
def p_X5_faultInNight_82 (F : Nat) (r_69 : Int32) (y3_6 : Int32) (y2_6 : Int32) (y1_6 : Int32) (k6 : Int32 → Int32 → Int32 → Prop) (Post : Int32 → Prop) (s1_82 : Int32) : Prop := ((s1_82 ≤ r_69 → (p_X5_faultInNight_90 F y3_6 k6 Post (y2_6 + (-1 : Int32)) y1_6)) ∧ (¬ s1_82 ≤ r_69 → (Post y3_6)))
def p_X5_faultInNight_65 (F : Nat) (x_length : Int32) (f_signs : Nat → Int32) (y3_6 : Int32) (y2_6 : Int32) (y1_6 : Int32) (k6 : Int32 → Int32 → Int32 → Prop) (Post : Int32 → Prop) (s0_65 : Int32) : Prop := (p_X5_digit F y3_6 x_length f_signs (fun (r_69 : Int32) => ((s0_65 = 0 → (p_X5_faultInNight_82 F r_69 y3_6 y2_6 y1_6 k6 Post (0 : Int32))) ∧ (¬ s0_65 = 0 → (p_X5_faultInNight_82 F r_69 y3_6 y2_6 y1_6 k6 Post (1 : Int32))))))
def p_X5_faultInNight_64 (F : Nat) (x_length : Int32) (f_signs : Nat → Int32) (y3_6 : Int32) (y2_6 : Int32) (y1_6 : Int32) (k6 : Int32 → Int32 → Int32 → Prop) (Post : Int32 → Prop) : Prop := (p_X5_faultInNight_65 F x_length f_signs y3_6 y2_6 y1_6 k6 Post (0 : Int32))
def p_X5_faultInNight_60 (F : Nat) (x_length : Int32) (f_signs : Nat → Int32) (y3_6 : Int32) (y2_6 : Int32) (y1_6 : Int32) (k6 : Int32 → Int32 → Int32 → Prop) (Post : Int32 → Prop) : Prop := (p_X5_faultInNight_65 F x_length f_signs y3_6 y2_6 y1_6 k6 Post (1 : Int32))
noncomputable def p_X5_faultInNight_6 (F : Nat) (x_length : Int32) (f_signs : Nat → Int32) (Post : Int32 → Prop) (n : Nat) : Int32 → Int32 → Int32 → Prop := Nat.rec (motive := fun _ => Int32 → Int32 → Int32 → Prop) (fun _ _ _ => False) (fun _ k6 => fun (y3_6 : Int32) (y2_6 : Int32) (y1_6 : Int32) => ((x_length ≤ y3_6 → ((¬ y2_6 = 0 → (Post x_length)) ∧ (y2_6 = 0 → (Post (-1 : Int32))))) ∧ (¬ x_length ≤ y3_6 → ((¬ y3_6 = (60 : Int32) → ((¬ y2_6 = 0 → ((¬ y2_6 = (1 : Int32) → (p_X5_faultInNight_64 F x_length f_signs y3_6 y2_6 y1_6 k6 Post )) ∧ (y2_6 = (1 : Int32) → ((y1_6 = (102 : Int32) → (p_X5_faultInNight_60 F x_length f_signs y3_6 y2_6 y1_6 k6 Post )) ∧ (¬ y1_6 = (102 : Int32) → ((¬ y1_6 = (103 : Int32) → (p_X5_faultInNight_64 F x_length f_signs y3_6 y2_6 y1_6 k6 Post )) ∧ (y1_6 = (103 : Int32) → (p_X5_faultInNight_60 F x_length f_signs y3_6 y2_6 y1_6 k6 Post )))))))) ∧ (y2_6 = 0 → (p_X5_at F y3_6 x_length f_signs (fun (r_28 : Int32) => (p_X7_digitsOfAct F r_28 (fun (r_33 : Int32) => ((¬ r_33 = 0 → (p_X5_faultInNight_90 F y3_6 k6 Post r_33 r_28)) ∧ (r_33 = 0 → (Post y3_6)))))))))) ∧ (y3_6 = (60 : Int32) → (Post y3_6)))))) n
theorem p_X5_faultInNight_6_s (F : Nat) (x_length : Int32) (f_signs : Nat → Int32) (Post : Int32 → Prop) (n : Nat) (y3_6 : Int32) (y2_6 : Int32) (y1_6 : Int32) : p_X5_faultInNight_6 F x_length f_signs Post (n + 1) y3_6 y2_6 y1_6 = ((x_length ≤ y3_6 → ((¬ y2_6 = 0 → (Post x_length)) ∧ (y2_6 = 0 → (Post (-1 : Int32))))) ∧ (¬ x_length ≤ y3_6 → ((¬ y3_6 = (60 : Int32) → ((¬ y2_6 = 0 → ((¬ y2_6 = (1 : Int32) → (p_X5_faultInNight_64 F x_length f_signs y3_6 y2_6 y1_6 (p_X5_faultInNight_6 F x_length f_signs Post n) Post )) ∧ (y2_6 = (1 : Int32) → ((y1_6 = (102 : Int32) → (p_X5_faultInNight_60 F x_length f_signs y3_6 y2_6 y1_6 (p_X5_faultInNight_6 F x_length f_signs Post n) Post )) ∧ (¬ y1_6 = (102 : Int32) → ((¬ y1_6 = (103 : Int32) → (p_X5_faultInNight_64 F x_length f_signs y3_6 y2_6 y1_6 (p_X5_faultInNight_6 F x_length f_signs Post n) Post )) ∧ (y1_6 = (103 : Int32) → (p_X5_faultInNight_60 F x_length f_signs y3_6 y2_6 y1_6 (p_X5_faultInNight_6 F x_length f_signs Post n) Post )))))))) ∧ (y2_6 = 0 → (p_X5_at F y3_6 x_length f_signs (fun (r_28 : Int32) => (p_X7_digitsOfAct F r_28 (fun (r_33 : Int32) => ((¬ r_33 = 0 → (p_X5_faultInNight_90 F y3_6 (p_X5_faultInNight_6 F x_length f_signs Post n) Post r_33 r_28)) ∧ (r_33 = 0 → (Post y3_6)))))))))) ∧ (y3_6 = (60 : Int32) → (Post y3_6))))) := rfl
def p_X5_faultInNight (F : Nat) (x_length : Int32) (f_signs : Nat → Int32) (Post : Int32 → Prop) : Prop := (p_X5_faultInNight_6 F x_length f_signs Post F (0 : Int32) (0 : Int32) (0 : Int32))
set_option maxHeartbeats 4000000 in
set_option maxRecDepth 100000 in
theorem c_X5_faultInNight (l : Launch) (D : va_G) (cT : Nat → ClassId) (F : Nat) (h : Nat) (q_signs : Nat) (x_length : Int32) (f_signs : Nat → Int32) (Post : Int32 → Prop) (hg : p_X5_faultInNight F x_length f_signs Post) : MRi l D cT yX5_faultInNight cX5_faultInNight 5 (some .int) 2 43 [.ref h] [(h, oX5 (.ref q_signs) (.int x_length)), (q_signs, aC cT 80 f_signs)] Post := by
  refine MRi.of (by decide) (Nat.le_of_ble_eq_true rfl) ?_
  intro p e s m below meth c hA C0 hr hP hD hS ls hl
  have hl : lv_has ls 5 [(0, .ref h)] := hl
  have hx := C0.x
  have hb := C0.b
  have hP : va_P D cls9 [(h, oX5 (.ref q_signs) (.int x_length)), (q_signs, aC cT 80 f_signs)] s.heap := hP
  have hD : va_D (fun q => cT 6 ≤ q) [(h, oX5 (.ref q_signs) (.int x_length)), (q_signs, aC cT 80 f_signs)] := hD
  have L6 : ∀ (n6 : Nat) (y3_6 : Int32) (y2_6 : Int32) (y1_6 : Int32) (ls : Array Slot), p_X5_faultInNight_6 F x_length f_signs Post n6 y3_6 y2_6 y1_6 → lv_has ls 5 [(0, .ref h), (1, .int y1_6), (2, .int y2_6), (3, .int y3_6)] → W p l e (rmO 2 43 0 0) s m ([.ref h] : List Value).toArray below meth c s.heap [] 0 0 (MQ below (vp_Si Post) ([.ref h] : List Value).toArray s 0 0 (fun _ => False)) (F0 m 6 ls []) := by
    intro n6
    induction n6 with
    | zero =>
      intro y3_6 y2_6 y1_6 ls hg hl
      exact False.elim hg
    | succ n6 ih6 =>
      have L90 : ∀ (y3_6 : Int32) (y2_90 : Int32) (y1_90 : Int32) (ls : Array Slot), p_X5_faultInNight_90 F y3_6 (p_X5_faultInNight_6 F x_length f_signs Post n6) Post y2_90 y1_90 → lv_has ls 5 [(0, .ref h), (1, .int y1_90), (2, .int y2_90), (3, .int y3_6)] → W p l e (rmO 2 43 0 0) s m ([.ref h] : List Value).toArray below meth c s.heap [] 0 0 (MQ below (vp_Si Post) ([.ref h] : List Value).toArray s 0 0 (fun _ => False)) (F0 m 90 ls []) := by
        intro y3_6 y2_90 y1_90 ls hg hl
        unfold p_X5_faultInNight_90 at hg
        refine lv_iinc (v := (y3_6 + (1 : Int32))) (lv' := [(3, .int (y3_6 + (1 : Int32))), (0, .ref h), (1, .int y1_90), (2, .int y2_90)]) hx hb dX5_faultInNight_90 hl (k := 3) rfl rfl (by decide) rfl (fun ls hl => ?_)
        refine lv_goto (tgt := 6) hx hb dX5_faultInNight_93 (by decide) ?_
        exact ih6 (y3_6 + (1 : Int32)) y2_90 y1_90 _ hg (lv_sub hl [1, 2, 3, 0] rfl)
      have L82 : ∀ (r_69 : Int32) (y3_6 : Int32) (y2_6 : Int32) (y1_6 : Int32) (s1_82 : Int32) (ls : Array Slot), p_X5_faultInNight_82 F r_69 y3_6 y2_6 y1_6 (p_X5_faultInNight_6 F x_length f_signs Post n6) Post s1_82 → lv_has ls 5 [(0, .ref h), (1, .int y1_6), (2, .int y2_6), (3, .int y3_6)] → W p l e (rmO 2 43 0 0) s m ([.ref h] : List Value).toArray below meth c s.heap [] 0 0 (MQ below (vp_Si Post) ([.ref h] : List Value).toArray s 0 0 (fun _ => False)) (F0 m 82 ls [.int s1_82, .int r_69]) := by
        intro r_69 y3_6 y2_6 y1_6 s1_82 ls hg hl
        unfold p_X5_faultInNight_82 at hg
        refine lv_icmp_ge (tgt := 87) hx hb dX5_faultInNight_82 (by decide) (fun c_82 => ?_) (fun c_82 => ?_)
        · have hg := hg.1 c_82
          refine lv_iinc (v := (y2_6 + (-1 : Int32))) (lv' := [(2, .int (y2_6 + (-1 : Int32))), (0, .ref h), (1, .int y1_6), (3, .int y3_6)]) hx hb dX5_faultInNight_87 hl (k := 2) rfl rfl (by decide) rfl (fun ls hl => ?_)
          exact L90 y3_6 (y2_6 + (-1 : Int32)) y1_6 _ hg (lv_sub hl [1, 2, 0, 3] rfl)
        have hg := hg.2 c_82
        refine lv_iload_n hx hb dX5_faultInNight_85 rfl (lv_at hl 3 rfl) ?_
        exact k_xiret C0 hr hg dX5_faultInNight_86
      have L65 : ∀ (y3_6 : Int32) (y2_6 : Int32) (y1_6 : Int32) (s0_65 : Int32) (ls : Array Slot), p_X5_faultInNight_65 F x_length f_signs y3_6 y2_6 y1_6 (p_X5_faultInNight_6 F x_length f_signs Post n6) Post s0_65 → lv_has ls 5 [(0, .ref h), (1, .int y1_6), (2, .int y2_6), (3, .int y3_6)] → W p l e (rmO 2 43 0 0) s m ([.ref h] : List Value).toArray below meth c s.heap [] 0 0 (MQ below (vp_Si Post) ([.ref h] : List Value).toArray s 0 0 (fun _ => False)) (F0 m 65 ls [.int s0_65]) := by
        intro y3_6 y2_6 y1_6 s0_65 ls hg hl
        unfold p_X5_faultInNight_65 at hg
        refine lv_istore (lv' := [(4, .int s0_65), (0, .ref h), (1, .int y1_6), (2, .int y2_6), (3, .int y3_6)]) hx hb dX5_faultInNight_65 hl (by decide) rfl (fun ls hl => ?_)
        refine lv_aload_n hx hb dX5_faultInNight_67 rfl (lv_at hl 1 rfl) ?_
        refine lv_iload_n hx hb dX5_faultInNight_68 rfl (lv_at hl 4 rfl) ?_
        refine k_Vxi (rest := []) C0 lk_X5_23 (c_X5_digit l D cT F h y3_6 q_signs x_length f_signs _ hg) hP hD hS hA [0, 1] (by decide +kernel) rfl rfl rfl ⟨Nat.le_of_ble_eq_true rfl, Nat.le_of_ble_eq_true rfl⟩ rfl hl.1 rfl (Nat.le_of_ble_eq_true rfl) dX5_faultInNight_69 ⟨Nat.le_of_ble_eq_true rfl, Nat.le_of_ble_eq_true rfl⟩ (fun r_69 hg => ?_)
        refine lv_iload hx hb dX5_faultInNight_72 (lv_at hl 0 rfl) ?_
        refine lv_if_eq (tgt := 81) hx hb dX5_faultInNight_74 (by decide) (fun c_74 => ?_) (fun c_74 => ?_)
        · have hg := hg.1 c_74
          refine lv_iconst (v := (0 : Int32)) hx hb dX5_faultInNight_81 (by decide) ?_
          exact L82 r_69 y3_6 y2_6 y1_6 (0 : Int32) _ hg (lv_sub hl [1, 2, 3, 4] rfl)
        have hg := hg.2 c_74
        refine lv_iconst (v := (1 : Int32)) hx hb dX5_faultInNight_77 (by decide) ?_
        refine lv_goto (tgt := 82) hx hb dX5_faultInNight_78 (by decide) ?_
        exact L82 r_69 y3_6 y2_6 y1_6 (1 : Int32) _ hg (lv_sub hl [1, 2, 3, 4] rfl)
      have L64 : ∀ (y3_6 : Int32) (y2_6 : Int32) (y1_6 : Int32) (ls : Array Slot), p_X5_faultInNight_64 F x_length f_signs y3_6 y2_6 y1_6 (p_X5_faultInNight_6 F x_length f_signs Post n6) Post → lv_has ls 5 [(0, .ref h), (1, .int y1_6), (2, .int y2_6), (3, .int y3_6)] → W p l e (rmO 2 43 0 0) s m ([.ref h] : List Value).toArray below meth c s.heap [] 0 0 (MQ below (vp_Si Post) ([.ref h] : List Value).toArray s 0 0 (fun _ => False)) (F0 m 64 ls []) := by
        intro y3_6 y2_6 y1_6 ls hg hl
        unfold p_X5_faultInNight_64 at hg
        refine lv_iconst (v := (0 : Int32)) hx hb dX5_faultInNight_64 (by decide) ?_
        exact L65 y3_6 y2_6 y1_6 (0 : Int32) _ hg hl
      have L60 : ∀ (y3_6 : Int32) (y2_6 : Int32) (y1_6 : Int32) (ls : Array Slot), p_X5_faultInNight_60 F x_length f_signs y3_6 y2_6 y1_6 (p_X5_faultInNight_6 F x_length f_signs Post n6) Post → lv_has ls 5 [(0, .ref h), (1, .int y1_6), (2, .int y2_6), (3, .int y3_6)] → W p l e (rmO 2 43 0 0) s m ([.ref h] : List Value).toArray below meth c s.heap [] 0 0 (MQ below (vp_Si Post) ([.ref h] : List Value).toArray s 0 0 (fun _ => False)) (F0 m 60 ls []) := by
        intro y3_6 y2_6 y1_6 ls hg hl
        unfold p_X5_faultInNight_60 at hg
        refine lv_iconst (v := (1 : Int32)) hx hb dX5_faultInNight_60 (by decide) ?_
        refine lv_goto (tgt := 65) hx hb dX5_faultInNight_61 (by decide) ?_
        exact L65 y3_6 y2_6 y1_6 (1 : Int32) _ hg hl
      intro y3_6 y2_6 y1_6 ls hg hl
      rw [p_X5_faultInNight_6_s] at hg
      refine lv_iload_n hx hb dX5_faultInNight_6 rfl (lv_at hl 3 rfl) ?_
      refine lv_aload_n hx hb dX5_faultInNight_7 rfl (lv_at hl 0 rfl) ?_
      refine gf_X5_15 C0 hP 0 rfl rfl dX5_faultInNight_8 ?_
      refine lv_icmp_ge (tgt := 96) hx hb dX5_faultInNight_11 (by decide) (fun c_11 => ?_) (fun c_11 => ?_)
      · have hg := hg.1 c_11
        refine lv_iload_n hx hb dX5_faultInNight_96 rfl (lv_at hl 2 rfl) ?_
        refine lv_if_ne (tgt := 104) hx hb dX5_faultInNight_97 (by decide) (fun c_97 => ?_) (fun c_97 => ?_)
        · have hg := hg.1 c_97
          refine lv_aload_n hx hb dX5_faultInNight_104 rfl (lv_at hl 0 rfl) ?_
          refine gf_X5_15 C0 hP 0 rfl rfl dX5_faultInNight_105 ?_
          exact k_xiret C0 hr hg dX5_faultInNight_108
        have hg := hg.2 c_97
        refine lv_iconst (v := (-1 : Int32)) hx hb dX5_faultInNight_100 (by decide) ?_
        refine lv_goto (tgt := 108) hx hb dX5_faultInNight_101 (by decide) ?_
        exact k_xiret C0 hr hg dX5_faultInNight_108
      have hg := hg.2 c_11
      refine lv_iload_n hx hb dX5_faultInNight_14 rfl (lv_at hl 3 rfl) ?_
      refine lv_bipush (v := (60 : Int32)) hx hb dX5_faultInNight_15 (by decide) ?_
      refine lv_icmp_ne (tgt := 22) hx hb dX5_faultInNight_17 (by decide) (fun c_17 => ?_) (fun c_17 => ?_)
      · have hg := hg.1 c_17
        refine lv_iload_n hx hb dX5_faultInNight_22 rfl (lv_at hl 2 rfl) ?_
        refine lv_if_ne (tgt := 43) hx hb dX5_faultInNight_23 (by decide) (fun c_23 => ?_) (fun c_23 => ?_)
        · have hg := hg.1 c_23
          refine lv_iload_n hx hb dX5_faultInNight_43 rfl (lv_at hl 2 rfl) ?_
          refine lv_iconst (v := (1 : Int32)) hx hb dX5_faultInNight_44 (by decide) ?_
          refine lv_icmp_ne (tgt := 64) hx hb dX5_faultInNight_45 (by decide) (fun c_45 => ?_) (fun c_45 => ?_)
          · have hg := hg.1 c_45
            exact L64 y3_6 y2_6 y1_6 _ hg hl
          have hg := hg.2 c_45
          refine lv_iload_n hx hb dX5_faultInNight_48 rfl (lv_at hl 1 rfl) ?_
          refine lv_bipush (v := (102 : Int32)) hx hb dX5_faultInNight_49 (by decide) ?_
          refine lv_icmp_eq (tgt := 60) hx hb dX5_faultInNight_51 (by decide) (fun c_51 => ?_) (fun c_51 => ?_)
          · have hg := hg.1 c_51
            exact L60 y3_6 y2_6 y1_6 _ hg hl
          have hg := hg.2 c_51
          refine lv_iload_n hx hb dX5_faultInNight_54 rfl (lv_at hl 1 rfl) ?_
          refine lv_bipush (v := (103 : Int32)) hx hb dX5_faultInNight_55 (by decide) ?_
          refine lv_icmp_ne (tgt := 64) hx hb dX5_faultInNight_57 (by decide) (fun c_57 => ?_) (fun c_57 => ?_)
          · have hg := hg.1 c_57
            exact L64 y3_6 y2_6 y1_6 _ hg hl
          have hg := hg.2 c_57
          exact L60 y3_6 y2_6 y1_6 _ hg hl
        have hg := hg.2 c_23
        refine lv_aload_n hx hb dX5_faultInNight_26 rfl (lv_at hl 0 rfl) ?_
        refine lv_iload_n hx hb dX5_faultInNight_27 rfl (lv_at hl 3 rfl) ?_
        refine k_Vxi (rest := []) C0 lk_X5_19 (c_X5_at l D cT F h y3_6 q_signs x_length f_signs _ hg) hP hD hS hA [0, 1] (by decide +kernel) rfl rfl rfl ⟨Nat.le_of_ble_eq_true rfl, Nat.le_of_ble_eq_true rfl⟩ rfl hl.1 rfl (Nat.le_of_ble_eq_true rfl) dX5_faultInNight_28 ⟨Nat.le_of_ble_eq_true rfl, Nat.le_of_ble_eq_true rfl⟩ (fun r_28 hg => ?_)
        refine lv_istore_n (lv' := [(1, .int r_28), (0, .ref h), (2, .int y2_6), (3, .int y3_6)]) hx hb dX5_faultInNight_31 rfl hl (by decide) rfl (fun ls hl => ?_)
        refine lv_iload_n hx hb dX5_faultInNight_32 rfl (lv_at hl 0 rfl) ?_
        refine k_Nxi (rest := []) C0 lk_X5_26 (c_X7_digitsOfAct l D cT F r_28 _ hg) hP hD hS hA [] (by decide +kernel) rfl ⟨Nat.le_of_ble_eq_true rfl, Nat.le_of_ble_eq_true rfl⟩ rfl hl.1 rfl (Nat.le_of_ble_eq_true rfl) dX5_faultInNight_33 ⟨Nat.le_of_ble_eq_true rfl, Nat.le_of_ble_eq_true rfl⟩ (fun r_33 hg => ?_)
        refine lv_istore_n (lv' := [(2, .int r_33), (1, .int r_28), (0, .ref h), (3, .int y3_6)]) hx hb dX5_faultInNight_36 rfl hl (by decide) rfl (fun ls hl => ?_)
        refine lv_iload_n hx hb dX5_faultInNight_37 rfl (lv_at hl 0 rfl) ?_
        refine lv_if_ne (tgt := 90) hx hb dX5_faultInNight_38 (by decide) (fun c_38 => ?_) (fun c_38 => ?_)
        · have hg := hg.1 c_38
          exact L90 y3_6 r_33 r_28 _ hg (lv_sub hl [2, 1, 0, 3] rfl)
        have hg := hg.2 c_38
        refine lv_iload_n hx hb dX5_faultInNight_41 rfl (lv_at hl 3 rfl) ?_
        exact k_xiret C0 hr hg dX5_faultInNight_42
      have hg := hg.2 c_17
      refine lv_iload_n hx hb dX5_faultInNight_20 rfl (lv_at hl 3 rfl) ?_
      exact k_xiret C0 hr hg dX5_faultInNight_21
  unfold p_X5_faultInNight at hg
  refine lv_iconst (v := (0 : Int32)) hx hb dX5_faultInNight_0 (by decide) ?_
  refine lv_istore_n (lv' := [(1, .int (0 : Int32)), (0, .ref h)]) hx hb dX5_faultInNight_1 rfl hl (by decide) rfl (fun ls hl => ?_)
  refine lv_iconst (v := (0 : Int32)) hx hb dX5_faultInNight_2 (by decide) ?_
  refine lv_istore_n (lv' := [(2, .int (0 : Int32)), (1, .int (0 : Int32)), (0, .ref h)]) hx hb dX5_faultInNight_3 rfl hl (by decide) rfl (fun ls hl => ?_)
  refine lv_iconst (v := (0 : Int32)) hx hb dX5_faultInNight_4 (by decide) ?_
  refine lv_istore_n (lv' := [(3, .int (0 : Int32)), (2, .int (0 : Int32)), (1, .int (0 : Int32)), (0, .ref h)]) hx hb dX5_faultInNight_5 rfl hl (by decide) rfl (fun ls hl => ?_)
  exact L6 F (0 : Int32) (0 : Int32) (0 : Int32) _ hg (lv_sub hl [3, 2, 1, 0] rfl)
theorem dX5_faultInTrains_0 : decode cX5_faultInTrains 0 = .ok (.iconst 0, 1) := by decide +kernel
theorem dX5_faultInTrains_1 : decode cX5_faultInTrains 1 = .ok (.istore_n 1, 1) := by decide +kernel
theorem dX5_faultInTrains_2 : decode cX5_faultInTrains 2 = .ok (.iload_n 1, 1) := by decide +kernel
theorem dX5_faultInTrains_3 : decode cX5_faultInTrains 3 = .ok (.aload_n 0, 1) := by decide +kernel
theorem dX5_faultInTrains_4 : decode cX5_faultInTrains 4 = .ok (.getfield 15, 3) := by decide +kernel
theorem dX5_faultInTrains_7 : decode cX5_faultInTrains 7 = .ok (.if_icmp .ge 26, 3) := by decide +kernel
theorem dX5_faultInTrains_10 : decode cX5_faultInTrains 10 = .ok (.iload_n 1, 1) := by decide +kernel
theorem dX5_faultInTrains_11 : decode cX5_faultInTrains 11 = .ok (.bipush 20, 2) := by decide +kernel
theorem dX5_faultInTrains_13 : decode cX5_faultInTrains 13 = .ok (.if_icmp .eq 12, 3) := by decide +kernel
theorem dX5_faultInTrains_16 : decode cX5_faultInTrains 16 = .ok (.aload_n 0, 1) := by decide +kernel
theorem dX5_faultInTrains_17 : decode cX5_faultInTrains 17 = .ok (.iload_n 1, 1) := by decide +kernel
theorem dX5_faultInTrains_18 : decode cX5_faultInTrains 18 = .ok (.invokevirtual 23, 3) := by decide +kernel
theorem dX5_faultInTrains_21 : decode cX5_faultInTrains 21 = .ok (.iconst (-1), 1) := by decide +kernel
theorem dX5_faultInTrains_22 : decode cX5_faultInTrains 22 = .ok (.if_icmp .ne 5, 3) := by decide +kernel
theorem dX5_faultInTrains_25 : decode cX5_faultInTrains 25 = .ok (.iload_n 1, 1) := by decide +kernel
theorem dX5_faultInTrains_26 : decode cX5_faultInTrains 26 = .ok (.ireturn, 1) := by decide +kernel
theorem dX5_faultInTrains_27 : decode cX5_faultInTrains 27 = .ok (.iinc 1 1, 3) := by decide +kernel
theorem dX5_faultInTrains_30 : decode cX5_faultInTrains 30 = .ok (.goto (-28), 3) := by decide +kernel
theorem dX5_faultInTrains_33 : decode cX5_faultInTrains 33 = .ok (.aload_n 0, 1) := by decide +kernel
theorem dX5_faultInTrains_34 : decode cX5_faultInTrains 34 = .ok (.getfield 15, 3) := by decide +kernel
theorem dX5_faultInTrains_37 : decode cX5_faultInTrains 37 = .ok (.ifCond .ne 7, 3) := by decide +kernel
theorem dX5_faultInTrains_40 : decode cX5_faultInTrains 40 = .ok (.iconst 0, 1) := by decide +kernel
theorem dX5_faultInTrains_41 : decode cX5_faultInTrains 41 = .ok (.goto 4, 3) := by decide +kernel
theorem dX5_faultInTrains_44 : decode cX5_faultInTrains 44 = .ok (.iconst (-1), 1) := by decide +kernel
theorem dX5_faultInTrains_45 : decode cX5_faultInTrains 45 = .ok (.ireturn, 1) := by decide +kernel
noncomputable def p_X5_faultInTrains_2 (F : Nat) (x_length : Int32) (f_signs : Nat → Int32) (Post : Int32 → Prop) (n : Nat) : Int32 → Prop := Nat.rec (motive := fun _ => Int32 → Prop) (fun _ => False) (fun _ k2 => fun (y1_2 : Int32) => ((x_length ≤ y1_2 → ((¬ x_length = 0 → (Post (-1 : Int32))) ∧ (x_length = 0 → (Post (0 : Int32))))) ∧ (¬ x_length ≤ y1_2 → ((y1_2 = (20 : Int32) → (Post y1_2)) ∧ (¬ y1_2 = (20 : Int32) → (p_X5_digit F y1_2 x_length f_signs (fun (r_18 : Int32) => ((¬ r_18 = (-1 : Int32) → (k2 (y1_2 + (1 : Int32)))) ∧ (r_18 = (-1 : Int32) → (Post y1_2)))))))))) n
theorem p_X5_faultInTrains_2_s (F : Nat) (x_length : Int32) (f_signs : Nat → Int32) (Post : Int32 → Prop) (n : Nat) (y1_2 : Int32) : p_X5_faultInTrains_2 F x_length f_signs Post (n + 1) y1_2 = ((x_length ≤ y1_2 → ((¬ x_length = 0 → (Post (-1 : Int32))) ∧ (x_length = 0 → (Post (0 : Int32))))) ∧ (¬ x_length ≤ y1_2 → ((y1_2 = (20 : Int32) → (Post y1_2)) ∧ (¬ y1_2 = (20 : Int32) → (p_X5_digit F y1_2 x_length f_signs (fun (r_18 : Int32) => ((¬ r_18 = (-1 : Int32) → ((p_X5_faultInTrains_2 F x_length f_signs Post n) (y1_2 + (1 : Int32)))) ∧ (r_18 = (-1 : Int32) → (Post y1_2))))))))) := rfl
def p_X5_faultInTrains (F : Nat) (x_length : Int32) (f_signs : Nat → Int32) (Post : Int32 → Prop) : Prop := (p_X5_faultInTrains_2 F x_length f_signs Post F (0 : Int32))
set_option maxHeartbeats 4000000 in
set_option maxRecDepth 100000 in
theorem c_X5_faultInTrains (l : Launch) (D : va_G) (cT : Nat → ClassId) (F : Nat) (h : Nat) (q_signs : Nat) (x_length : Int32) (f_signs : Nat → Int32) (Post : Int32 → Prop) (hg : p_X5_faultInTrains F x_length f_signs Post) : MRi l D cT yX5_faultInTrains cX5_faultInTrains 2 (some .int) 2 43 [.ref h] [(h, oX5 (.ref q_signs) (.int x_length)), (q_signs, aC cT 80 f_signs)] Post := by
  refine MRi.of (by decide) (Nat.le_of_ble_eq_true rfl) ?_
  intro p e s m below meth c hA C0 hr hP hD hS ls hl
  have hl : lv_has ls 2 [(0, .ref h)] := hl
  have hx := C0.x
  have hb := C0.b
  have hP : va_P D cls9 [(h, oX5 (.ref q_signs) (.int x_length)), (q_signs, aC cT 80 f_signs)] s.heap := hP
  have hD : va_D (fun q => cT 6 ≤ q) [(h, oX5 (.ref q_signs) (.int x_length)), (q_signs, aC cT 80 f_signs)] := hD
  have L2 : ∀ (n2 : Nat) (y1_2 : Int32) (ls : Array Slot), p_X5_faultInTrains_2 F x_length f_signs Post n2 y1_2 → lv_has ls 2 [(0, .ref h), (1, .int y1_2)] → W p l e (rmO 2 43 0 0) s m ([.ref h] : List Value).toArray below meth c s.heap [] 0 0 (MQ below (vp_Si Post) ([.ref h] : List Value).toArray s 0 0 (fun _ => False)) (F0 m 2 ls []) := by
    intro n2
    induction n2 with
    | zero =>
      intro y1_2 ls hg hl
      exact False.elim hg
    | succ n2 ih2 =>
      intro y1_2 ls hg hl
      rw [p_X5_faultInTrains_2_s] at hg
      refine lv_iload_n hx hb dX5_faultInTrains_2 rfl (lv_at hl 1 rfl) ?_
      refine lv_aload_n hx hb dX5_faultInTrains_3 rfl (lv_at hl 0 rfl) ?_
      refine gf_X5_15 C0 hP 0 rfl rfl dX5_faultInTrains_4 ?_
      refine lv_icmp_ge (tgt := 33) hx hb dX5_faultInTrains_7 (by decide) (fun c_7 => ?_) (fun c_7 => ?_)
      · have hg := hg.1 c_7
        refine lv_aload_n hx hb dX5_faultInTrains_33 rfl (lv_at hl 0 rfl) ?_
        refine gf_X5_15 C0 hP 0 rfl rfl dX5_faultInTrains_34 ?_
        refine lv_if_ne (tgt := 44) hx hb dX5_faultInTrains_37 (by decide) (fun c_37 => ?_) (fun c_37 => ?_)
        · have hg := hg.1 c_37
          refine lv_iconst (v := (-1 : Int32)) hx hb dX5_faultInTrains_44 (by decide) ?_
          exact k_xiret C0 hr hg dX5_faultInTrains_45
        have hg := hg.2 c_37
        refine lv_iconst (v := (0 : Int32)) hx hb dX5_faultInTrains_40 (by decide) ?_
        refine lv_goto (tgt := 45) hx hb dX5_faultInTrains_41 (by decide) ?_
        exact k_xiret C0 hr hg dX5_faultInTrains_45
      have hg := hg.2 c_7
      refine lv_iload_n hx hb dX5_faultInTrains_10 rfl (lv_at hl 1 rfl) ?_
      refine lv_bipush (v := (20 : Int32)) hx hb dX5_faultInTrains_11 (by decide) ?_
      refine lv_icmp_eq (tgt := 25) hx hb dX5_faultInTrains_13 (by decide) (fun c_13 => ?_) (fun c_13 => ?_)
      · have hg := hg.1 c_13
        refine lv_iload_n hx hb dX5_faultInTrains_25 rfl (lv_at hl 1 rfl) ?_
        exact k_xiret C0 hr hg dX5_faultInTrains_26
      have hg := hg.2 c_13
      refine lv_aload_n hx hb dX5_faultInTrains_16 rfl (lv_at hl 0 rfl) ?_
      refine lv_iload_n hx hb dX5_faultInTrains_17 rfl (lv_at hl 1 rfl) ?_
      refine k_Vxi (rest := []) C0 lk_X5_23 (c_X5_digit l D cT F h y1_2 q_signs x_length f_signs _ hg) hP hD hS hA [0, 1] (by decide +kernel) rfl rfl rfl ⟨Nat.le_of_ble_eq_true rfl, Nat.le_of_ble_eq_true rfl⟩ rfl hl.1 rfl (Nat.le_of_ble_eq_true rfl) dX5_faultInTrains_18 ⟨Nat.le_of_ble_eq_true rfl, Nat.le_of_ble_eq_true rfl⟩ (fun r_18 hg => ?_)
      refine lv_iconst (v := (-1 : Int32)) hx hb dX5_faultInTrains_21 (by decide) ?_
      refine lv_icmp_ne (tgt := 27) hx hb dX5_faultInTrains_22 (by decide) (fun c_22 => ?_) (fun c_22 => ?_)
      · have hg := hg.1 c_22
        refine lv_iinc (v := (y1_2 + (1 : Int32))) (lv' := [(1, .int (y1_2 + (1 : Int32))), (0, .ref h)]) hx hb dX5_faultInTrains_27 hl (k := 1) rfl rfl (by decide) rfl (fun ls hl => ?_)
        refine lv_goto (tgt := 2) hx hb dX5_faultInTrains_30 (by decide) ?_
        exact ih2 (y1_2 + (1 : Int32)) _ hg (lv_sub hl [1, 0] rfl)
      have hg := hg.2 c_22
      refine lv_iload_n hx hb dX5_faultInTrains_25 rfl (lv_at hl 1 rfl) ?_
      exact k_xiret C0 hr hg dX5_faultInTrains_26
  unfold p_X5_faultInTrains at hg
  refine lv_iconst (v := (0 : Int32)) hx hb dX5_faultInTrains_0 (by decide) ?_
  refine lv_istore_n (lv' := [(1, .int (0 : Int32)), (0, .ref h)]) hx hb dX5_faultInTrains_1 rfl hl (by decide) rfl (fun ls hl => ?_)
  exact L2 F (0 : Int32) _ hg (lv_sub hl [1, 0] rfl)
theorem dX6_addArch_0 : decode cX6_addArch 0 = .ok (.aload_n 0, 1) := by decide +kernel
theorem dX6_addArch_1 : decode cX6_addArch 1 = .ok (.getfield 34, 3) := by decide +kernel
theorem dX6_addArch_4 : decode cX6_addArch 4 = .ok (.bipush 6, 2) := by decide +kernel
theorem dX6_addArch_6 : decode cX6_addArch 6 = .ok (.if_icmp .ge 23, 3) := by decide +kernel
theorem dX6_addArch_9 : decode cX6_addArch 9 = .ok (.aload_n 0, 1) := by decide +kernel
theorem dX6_addArch_10 : decode cX6_addArch 10 = .ok (.getfield 9, 3) := by decide +kernel
theorem dX6_addArch_13 : decode cX6_addArch 13 = .ok (.aload_n 0, 1) := by decide +kernel
theorem dX6_addArch_14 : decode cX6_addArch 14 = .ok (.getfield 34, 3) := by decide +kernel
theorem dX6_addArch_17 : decode cX6_addArch 17 = .ok (.iload_n 1, 1) := by decide +kernel
theorem dX6_addArch_18 : decode cX6_addArch 18 = .ok (.iastore, 1) := by decide +kernel
theorem dX6_addArch_19 : decode cX6_addArch 19 = .ok (.aload_n 0, 1) := by decide +kernel
theorem dX6_addArch_20 : decode cX6_addArch 20 = .ok (.dup, 1) := by decide +kernel
theorem dX6_addArch_21 : decode cX6_addArch 21 = .ok (.getfield 34, 3) := by decide +kernel
theorem dX6_addArch_24 : decode cX6_addArch 24 = .ok (.iconst 1, 1) := by decide +kernel
theorem dX6_addArch_25 : decode cX6_addArch 25 = .ok (.iadd, 1) := by decide +kernel
theorem dX6_addArch_26 : decode cX6_addArch 26 = .ok (.putfield 34, 3) := by decide +kernel
theorem dX6_addArch_29 : decode cX6_addArch 29 = .ok (.return_, 1) := by decide +kernel
def p_X6_addArch (F : Nat) (p1 : Int32) (x_arches : Int32) (f_load : Nat → Int32) (Post : (Int32 × (Nat → Int32)) → Prop) : Prop := (((6 : Int32) ≤ x_arches → (Post (x_arches, f_load))) ∧ (¬ (6 : Int32) ≤ x_arches → (vp_in x_arches 6 ∧ (Post ((x_arches + (1 : Int32)), (upd f_load x_arches.toNatClampNeg p1))))))
set_option maxHeartbeats 4000000 in
set_option maxRecDepth 100000 in
theorem c_X6_addArch (l : Launch) (D : va_G) (cT : Nat → ClassId) (F : Nat) (h : Nat) (p1 : Int32) (q_load : Nat) (w_sag : Value) (w_joy : Value) (w_bowl : Value) (w_grief : Value) (w_place : Value) (x_arches : Int32) (x_cats : Int32) (x_store : Int32) (x_hour : Int32) (x_drops : Int32) (f_load : Nat → Int32) (Post : (Int32 × (Nat → Int32)) → Prop) (hg : p_X6_addArch F p1 x_arches f_load Post) : MWv l D cT yX6_addArch cX6_addArch 2 none 0 0 0 0 [.ref h, .int p1] [(h, oX6 (.ref q_load) w_sag w_joy w_bowl w_grief w_place (.int x_arches) (.int x_cats) (.int x_store) (.int x_hour) (.int x_drops)), (q_load, aI cT 6 f_load)] Post (fun (u : (Int32 × (Nat → Int32))) => [(h, oX6 (.ref q_load) w_sag w_joy w_bowl w_grief w_place (.int u.1) (.int x_cats) (.int x_store) (.int x_hour) (.int x_drops)), (q_load, aI cT 6 u.2)]) := by
  refine MWv.of (by decide) (Nat.le_of_ble_eq_true rfl) ?_
  intro p e s m below meth c A hA C0 hnm hr hP hD ls hl
  have hl : lv_has ls 2 [(0, .ref h), (1, .int p1)] := hl
  have hx := C0.x
  have hb := C0.b
  have hS : va_S A s.heap s.heap [] := va_S.rf
  have hP : va_P D cls9 [(h, oX6 (.ref q_load) w_sag w_joy w_bowl w_grief w_place (.int x_arches) (.int x_cats) (.int x_store) (.int x_hour) (.int x_drops)), (q_load, aI cT 6 f_load)] s.heap := hP
  have hD : va_D A [(h, oX6 (.ref q_load) w_sag w_joy w_bowl w_grief w_place (.int x_arches) (.int x_cats) (.int x_store) (.int x_hour) (.int x_drops)), (q_load, aI cT 6 f_load)] := hD
  unfold p_X6_addArch at hg
  refine lv_aload_n hx hb dX6_addArch_0 rfl (lv_at hl 0 rfl) ?_
  refine gf_X6_34 C0 hP 0 rfl rfl dX6_addArch_1 ?_
  refine lv_bipush (v := (6 : Int32)) hx hb dX6_addArch_4 (by decide) ?_
  refine lv_icmp_ge (tgt := 29) hx hb dX6_addArch_6 (by decide) (fun c_6 => ?_) (fun c_6 => ?_)
  · have hg := hg.1 c_6
    exact k_vret C0 hr (x_arches, f_load) hg hP hD hS dX6_addArch_29
  have hg := hg.2 c_6
  refine lv_aload_n hx hb dX6_addArch_9 rfl (lv_at hl 0 rfl) ?_
  refine gf_X6_9 C0 hP 0 rfl rfl dX6_addArch_10 ?_
  refine lv_aload_n hx hb dX6_addArch_13 rfl (lv_at hl 0 rfl) ?_
  refine gf_X6_34 C0 hP 0 rfl rfl dX6_addArch_14 ?_
  refine lv_iload_n hx hb dX6_addArch_17 rfl (lv_at hl 1 rfl) ?_
  obtain ⟨g_18, hg⟩ := hg
  refine k_iast C0 hP hD hS 1 rfl g_18 (ws' := [(h, oX6 (.ref q_load) w_sag w_joy w_bowl w_grief w_place (.int x_arches) (.int x_cats) (.int x_store) (.int x_hour) (.int x_drops)), (q_load, aI cT 6 (upd f_load x_arches.toNatClampNeg p1))]) rfl dX6_addArch_18 (fun H locs hP hD hS => ?_)
  refine lv_aload_n hx hb dX6_addArch_19 rfl (lv_at hl 0 rfl) ?_
  refine lv_dup hx hb dX6_addArch_20 rfl ?_
  refine gf_X6_34 C0 hP 0 rfl rfl dX6_addArch_21 ?_
  refine lv_iconst (v := (1 : Int32)) hx hb dX6_addArch_24 (by decide) ?_
  refine lv_iadd hx hb dX6_addArch_25 ?_
  refine pf_X6_34 C0 hP hD hS 0 rfl (Nat.le_of_ble_eq_true rfl) (ws2 := [(h, oX6 (.ref q_load) w_sag w_joy w_bowl w_grief w_place (.int (x_arches + (1 : Int32))) (.int x_cats) (.int x_store) (.int x_hour) (.int x_drops)), (q_load, aI cT 6 (upd f_load x_arches.toNatClampNeg p1))]) rfl dX6_addArch_26 (fun H locs hP hD hS => ?_)
  exact k_vret C0 hr ((x_arches + (1 : Int32)), (upd f_load x_arches.toNatClampNeg p1)) hg hP hD hS dX6_addArch_29
theorem dX6_addCat_0 : decode cX6_addCat 0 = .ok (.aload_n 0, 1) := by decide +kernel
theorem dX6_addCat_1 : decode cX6_addCat 1 = .ok (.getfield 37, 3) := by decide +kernel
theorem dX6_addCat_4 : decode cX6_addCat 4 = .ok (.bipush 8, 2) := by decide +kernel
theorem dX6_addCat_6 : decode cX6_addCat 6 = .ok (.if_icmp .ge 43, 3) := by decide +kernel
theorem dX6_addCat_9 : decode cX6_addCat 9 = .ok (.aload_n 0, 1) := by decide +kernel
theorem dX6_addCat_10 : decode cX6_addCat 10 = .ok (.getfield 18, 3) := by decide +kernel
theorem dX6_addCat_13 : decode cX6_addCat 13 = .ok (.aload_n 0, 1) := by decide +kernel
theorem dX6_addCat_14 : decode cX6_addCat 14 = .ok (.getfield 37, 3) := by decide +kernel
theorem dX6_addCat_17 : decode cX6_addCat 17 = .ok (.iload_n 1, 1) := by decide +kernel
theorem dX6_addCat_18 : decode cX6_addCat 18 = .ok (.iastore, 1) := by decide +kernel
theorem dX6_addCat_19 : decode cX6_addCat 19 = .ok (.aload_n 0, 1) := by decide +kernel
theorem dX6_addCat_20 : decode cX6_addCat 20 = .ok (.getfield 21, 3) := by decide +kernel
theorem dX6_addCat_23 : decode cX6_addCat 23 = .ok (.aload_n 0, 1) := by decide +kernel
theorem dX6_addCat_24 : decode cX6_addCat 24 = .ok (.getfield 37, 3) := by decide +kernel
theorem dX6_addCat_27 : decode cX6_addCat 27 = .ok (.iload_n 2, 1) := by decide +kernel
theorem dX6_addCat_28 : decode cX6_addCat 28 = .ok (.iastore, 1) := by decide +kernel
theorem dX6_addCat_29 : decode cX6_addCat 29 = .ok (.aload_n 0, 1) := by decide +kernel
theorem dX6_addCat_30 : decode cX6_addCat 30 = .ok (.getfield 27, 3) := by decide +kernel
theorem dX6_addCat_33 : decode cX6_addCat 33 = .ok (.aload_n 0, 1) := by decide +kernel
theorem dX6_addCat_34 : decode cX6_addCat 34 = .ok (.getfield 37, 3) := by decide +kernel
theorem dX6_addCat_37 : decode cX6_addCat 37 = .ok (.iload_n 3, 1) := by decide +kernel
theorem dX6_addCat_38 : decode cX6_addCat 38 = .ok (.iastore, 1) := by decide +kernel
theorem dX6_addCat_39 : decode cX6_addCat 39 = .ok (.aload_n 0, 1) := by decide +kernel
theorem dX6_addCat_40 : decode cX6_addCat 40 = .ok (.dup, 1) := by decide +kernel
theorem dX6_addCat_41 : decode cX6_addCat 41 = .ok (.getfield 37, 3) := by decide +kernel
theorem dX6_addCat_44 : decode cX6_addCat 44 = .ok (.iconst 1, 1) := by decide +kernel
theorem dX6_addCat_45 : decode cX6_addCat 45 = .ok (.iadd, 1) := by decide +kernel
theorem dX6_addCat_46 : decode cX6_addCat 46 = .ok (.putfield 37, 3) := by decide +kernel
theorem dX6_addCat_49 : decode cX6_addCat 49 = .ok (.return_, 1) := by decide +kernel
def p_X6_addCat (F : Nat) (p1 : Int32) (p2 : Int32) (p3 : Int32) (x_cats : Int32) (f_joy : Nat → Int32) (f_bowl : Nat → Int32) (f_place : Nat → Int32) (Post : (Int32 × (Nat → Int32) × (Nat → Int32) × (Nat → Int32)) → Prop) : Prop := (((8 : Int32) ≤ x_cats → (Post (x_cats, f_joy, f_bowl, f_place))) ∧ (¬ (8 : Int32) ≤ x_cats → (vp_in x_cats 8 ∧ (vp_in x_cats 8 ∧ (vp_in x_cats 8 ∧ (Post ((x_cats + (1 : Int32)), (upd f_joy x_cats.toNatClampNeg p1), (upd f_bowl x_cats.toNatClampNeg p2), (upd f_place x_cats.toNatClampNeg p3))))))))
set_option maxHeartbeats 4000000 in
set_option maxRecDepth 100000 in
theorem c_X6_addCat (l : Launch) (D : va_G) (cT : Nat → ClassId) (F : Nat) (h : Nat) (p1 : Int32) (p2 : Int32) (p3 : Int32) (w_load : Value) (w_sag : Value) (q_joy : Nat) (q_bowl : Nat) (w_grief : Value) (q_place : Nat) (x_arches : Int32) (x_cats : Int32) (x_store : Int32) (x_hour : Int32) (x_drops : Int32) (f_joy : Nat → Int32) (f_bowl : Nat → Int32) (f_place : Nat → Int32) (Post : (Int32 × (Nat → Int32) × (Nat → Int32) × (Nat → Int32)) → Prop) (hg : p_X6_addCat F p1 p2 p3 x_cats f_joy f_bowl f_place Post) : MWv l D cT yX6_addCat cX6_addCat 4 none 0 0 0 0 [.ref h, .int p1, .int p2, .int p3] [(h, oX6 w_load w_sag (.ref q_joy) (.ref q_bowl) w_grief (.ref q_place) (.int x_arches) (.int x_cats) (.int x_store) (.int x_hour) (.int x_drops)), (q_joy, aI cT 8 f_joy), (q_bowl, aI cT 8 f_bowl), (q_place, aI cT 8 f_place)] Post (fun (u : (Int32 × (Nat → Int32) × (Nat → Int32) × (Nat → Int32))) => [(h, oX6 w_load w_sag (.ref q_joy) (.ref q_bowl) w_grief (.ref q_place) (.int x_arches) (.int u.1) (.int x_store) (.int x_hour) (.int x_drops)), (q_joy, aI cT 8 u.2.1), (q_bowl, aI cT 8 u.2.2.1), (q_place, aI cT 8 u.2.2.2)]) := by
  refine MWv.of (by decide) (Nat.le_of_ble_eq_true rfl) ?_
  intro p e s m below meth c A hA C0 hnm hr hP hD ls hl
  have hl : lv_has ls 4 [(0, .ref h), (1, .int p1), (2, .int p2), (3, .int p3)] := hl
  have hx := C0.x
  have hb := C0.b
  have hS : va_S A s.heap s.heap [] := va_S.rf
  have hP : va_P D cls9 [(h, oX6 w_load w_sag (.ref q_joy) (.ref q_bowl) w_grief (.ref q_place) (.int x_arches) (.int x_cats) (.int x_store) (.int x_hour) (.int x_drops)), (q_joy, aI cT 8 f_joy), (q_bowl, aI cT 8 f_bowl), (q_place, aI cT 8 f_place)] s.heap := hP
  have hD : va_D A [(h, oX6 w_load w_sag (.ref q_joy) (.ref q_bowl) w_grief (.ref q_place) (.int x_arches) (.int x_cats) (.int x_store) (.int x_hour) (.int x_drops)), (q_joy, aI cT 8 f_joy), (q_bowl, aI cT 8 f_bowl), (q_place, aI cT 8 f_place)] := hD
  unfold p_X6_addCat at hg
  refine lv_aload_n hx hb dX6_addCat_0 rfl (lv_at hl 0 rfl) ?_
  refine gf_X6_37 C0 hP 0 rfl rfl dX6_addCat_1 ?_
  refine lv_bipush (v := (8 : Int32)) hx hb dX6_addCat_4 (by decide) ?_
  refine lv_icmp_ge (tgt := 49) hx hb dX6_addCat_6 (by decide) (fun c_6 => ?_) (fun c_6 => ?_)
  · have hg := hg.1 c_6
    exact k_vret C0 hr (x_cats, f_joy, f_bowl, f_place) hg hP hD hS dX6_addCat_49
  have hg := hg.2 c_6
  refine lv_aload_n hx hb dX6_addCat_9 rfl (lv_at hl 0 rfl) ?_
  refine gf_X6_18 C0 hP 0 rfl rfl dX6_addCat_10 ?_
  refine lv_aload_n hx hb dX6_addCat_13 rfl (lv_at hl 0 rfl) ?_
  refine gf_X6_37 C0 hP 0 rfl rfl dX6_addCat_14 ?_
  refine lv_iload_n hx hb dX6_addCat_17 rfl (lv_at hl 1 rfl) ?_
  obtain ⟨g_18, hg⟩ := hg
  refine k_iast C0 hP hD hS 1 rfl g_18 (ws' := [(h, oX6 w_load w_sag (.ref q_joy) (.ref q_bowl) w_grief (.ref q_place) (.int x_arches) (.int x_cats) (.int x_store) (.int x_hour) (.int x_drops)), (q_joy, aI cT 8 (upd f_joy x_cats.toNatClampNeg p1)), (q_bowl, aI cT 8 f_bowl), (q_place, aI cT 8 f_place)]) rfl dX6_addCat_18 (fun H locs hP hD hS => ?_)
  refine lv_aload_n hx hb dX6_addCat_19 rfl (lv_at hl 0 rfl) ?_
  refine gf_X6_21 C0 hP 0 rfl rfl dX6_addCat_20 ?_
  refine lv_aload_n hx hb dX6_addCat_23 rfl (lv_at hl 0 rfl) ?_
  refine gf_X6_37 C0 hP 0 rfl rfl dX6_addCat_24 ?_
  refine lv_iload_n hx hb dX6_addCat_27 rfl (lv_at hl 2 rfl) ?_
  obtain ⟨g_28, hg⟩ := hg
  refine k_iast C0 hP hD hS 2 rfl g_28 (ws' := [(h, oX6 w_load w_sag (.ref q_joy) (.ref q_bowl) w_grief (.ref q_place) (.int x_arches) (.int x_cats) (.int x_store) (.int x_hour) (.int x_drops)), (q_joy, aI cT 8 (upd f_joy x_cats.toNatClampNeg p1)), (q_bowl, aI cT 8 (upd f_bowl x_cats.toNatClampNeg p2)), (q_place, aI cT 8 f_place)]) rfl dX6_addCat_28 (fun H locs hP hD hS => ?_)
  refine lv_aload_n hx hb dX6_addCat_29 rfl (lv_at hl 0 rfl) ?_
  refine gf_X6_27 C0 hP 0 rfl rfl dX6_addCat_30 ?_
  refine lv_aload_n hx hb dX6_addCat_33 rfl (lv_at hl 0 rfl) ?_
  refine gf_X6_37 C0 hP 0 rfl rfl dX6_addCat_34 ?_
  refine lv_iload_n hx hb dX6_addCat_37 rfl (lv_at hl 3 rfl) ?_
  obtain ⟨g_38, hg⟩ := hg
  refine k_iast C0 hP hD hS 3 rfl g_38 (ws' := [(h, oX6 w_load w_sag (.ref q_joy) (.ref q_bowl) w_grief (.ref q_place) (.int x_arches) (.int x_cats) (.int x_store) (.int x_hour) (.int x_drops)), (q_joy, aI cT 8 (upd f_joy x_cats.toNatClampNeg p1)), (q_bowl, aI cT 8 (upd f_bowl x_cats.toNatClampNeg p2)), (q_place, aI cT 8 (upd f_place x_cats.toNatClampNeg p3))]) rfl dX6_addCat_38 (fun H locs hP hD hS => ?_)
  refine lv_aload_n hx hb dX6_addCat_39 rfl (lv_at hl 0 rfl) ?_
  refine lv_dup hx hb dX6_addCat_40 rfl ?_
  refine gf_X6_37 C0 hP 0 rfl rfl dX6_addCat_41 ?_
  refine lv_iconst (v := (1 : Int32)) hx hb dX6_addCat_44 (by decide) ?_
  refine lv_iadd hx hb dX6_addCat_45 ?_
  refine pf_X6_37 C0 hP hD hS 0 rfl (Nat.le_of_ble_eq_true rfl) (ws2 := [(h, oX6 w_load w_sag (.ref q_joy) (.ref q_bowl) w_grief (.ref q_place) (.int x_arches) (.int (x_cats + (1 : Int32))) (.int x_store) (.int x_hour) (.int x_drops)), (q_joy, aI cT 8 (upd f_joy x_cats.toNatClampNeg p1)), (q_bowl, aI cT 8 (upd f_bowl x_cats.toNatClampNeg p2)), (q_place, aI cT 8 (upd f_place x_cats.toNatClampNeg p3))]) rfl dX6_addCat_46 (fun H locs hP hD hS => ?_)
  exact k_vret C0 hr ((x_cats + (1 : Int32)), (upd f_joy x_cats.toNatClampNeg p1), (upd f_bowl x_cats.toNatClampNeg p2), (upd f_place x_cats.toNatClampNeg p3)) hg hP hD hS dX6_addCat_49
