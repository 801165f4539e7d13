theorem dX7_arch_0 : decode cX7_arch 0 = .ok (.aload_n 0, 1) := by decide +kernel
theorem dX7_arch_1 : decode cX7_arch 1 = .ok (.getfield 26, 3) := by decide +kernel
theorem dX7_arch_4 : decode cX7_arch 4 = .ok (.iload_n 1, 1) := by decide +kernel
theorem dX7_arch_5 : decode cX7_arch 5 = .ok (.invokevirtual 136, 3) := by decide +kernel
theorem dX7_arch_8 : decode cX7_arch 8 = .ok (.ifCond .eq 78, 3) := by decide +kernel
theorem dX7_arch_11 : decode cX7_arch 11 = .ok (.iload_n 2, 1) := by decide +kernel
theorem dX7_arch_12 : decode cX7_arch 12 = .ok (.tableswitch 74 0 3 #[32, 42, 52, 61], 32) := by decide +kernel
theorem dX7_arch_44 : decode cX7_arch 44 = .ok (.aload_n 0, 1) := by decide +kernel
theorem dX7_arch_45 : decode cX7_arch 45 = .ok (.getfield 26, 3) := by decide +kernel
theorem dX7_arch_48 : decode cX7_arch 48 = .ok (.getfield 140, 3) := by decide +kernel
theorem dX7_arch_51 : decode cX7_arch 51 = .ok (.iload_n 1, 1) := by decide +kernel
theorem dX7_arch_52 : decode cX7_arch 52 = .ok (.iaload, 1) := by decide +kernel
theorem dX7_arch_53 : decode cX7_arch 53 = .ok (.ireturn, 1) := by decide +kernel
theorem dX7_arch_54 : decode cX7_arch 54 = .ok (.aload_n 0, 1) := by decide +kernel
theorem dX7_arch_55 : decode cX7_arch 55 = .ok (.getfield 26, 3) := by decide +kernel
theorem dX7_arch_58 : decode cX7_arch 58 = .ok (.getfield 143, 3) := by decide +kernel
theorem dX7_arch_61 : decode cX7_arch 61 = .ok (.iload_n 1, 1) := by decide +kernel
theorem dX7_arch_62 : decode cX7_arch 62 = .ok (.iaload, 1) := by decide +kernel
theorem dX7_arch_63 : decode cX7_arch 63 = .ok (.ireturn, 1) := by decide +kernel
theorem dX7_arch_64 : decode cX7_arch 64 = .ok (.aload_n 0, 1) := by decide +kernel
theorem dX7_arch_65 : decode cX7_arch 65 = .ok (.getfield 26, 3) := by decide +kernel
theorem dX7_arch_68 : decode cX7_arch 68 = .ok (.iload_n 1, 1) := by decide +kernel
theorem dX7_arch_69 : decode cX7_arch 69 = .ok (.invokevirtual 146, 3) := by decide +kernel
theorem dX7_arch_72 : decode cX7_arch 72 = .ok (.ireturn, 1) := by decide +kernel
theorem dX7_arch_73 : decode cX7_arch 73 = .ok (.aload_n 0, 1) := by decide +kernel
theorem dX7_arch_74 : decode cX7_arch 74 = .ok (.getfield 26, 3) := by decide +kernel
theorem dX7_arch_77 : decode cX7_arch 77 = .ok (.aload_n 0, 1) := by decide +kernel
theorem dX7_arch_78 : decode cX7_arch 78 = .ok (.getfield 83, 3) := by decide +kernel
theorem dX7_arch_81 : decode cX7_arch 81 = .ok (.iload_n 1, 1) := by decide +kernel
theorem dX7_arch_82 : decode cX7_arch 82 = .ok (.invokevirtual 149, 3) := by decide +kernel
theorem dX7_arch_85 : decode cX7_arch 85 = .ok (.ireturn, 1) := by decide +kernel
theorem dX7_arch_86 : decode cX7_arch 86 = .ok (.new 153, 3) := by decide +kernel
theorem dX7_arch_89 : decode cX7_arch 89 = .ok (.dup, 1) := by decide +kernel
theorem dX7_arch_90 : decode cX7_arch 90 = .ok (.invokespecial 155, 3) := by decide +kernel
theorem dX7_arch_93 : decode cX7_arch 93 = .ok (.athrow, 1) := by decide +kernel
def p_X7_arch (F : Nat) (p1 : Int32) (p2 : Int32) (x_now_arches : Int32) (x_now_cats : Int32) (x_now_hour : Int32) (f_now_load : Nat → Int32) (f_now_sag : Nat → Int32) (x_ruling_size : Int32) (x_ruling_top : Int32) (f_now_place : Nat → Int32) (f_ruling_steps : Nat → Int32) (f_ruling_stack : Nat → Int32) (f_now_joy : Nat → Int32) (f_now_grief : Nat → Int32) (f_now_bowl : Nat → Int32) (Post : Int32 → (Int32 × (Nat → Int32)) → Prop) (PostX : Prop) : Prop := (p_X6_hasArch F p1 x_now_arches (fun (r_5 : Int32) => ((r_5 = 0 → PostX) ∧ (¬ r_5 = 0 → ((p2 = (0 : Int32) → (vp_in p1 6 ∧ (Post (f_now_load p1.toNatClampNeg) (x_ruling_top, f_ruling_stack)))) ∧ (¬ p2 = (0 : Int32) → ((p2 = (1 : Int32) → (vp_in p1 6 ∧ (Post (f_now_sag p1.toNatClampNeg) (x_ruling_top, f_ruling_stack)))) ∧ (¬ p2 = (1 : Int32) → ((p2 = (2 : Int32) → (p_X6_catsIn F p1 x_now_cats f_now_place (fun (r_69 : Int32) => (Post r_69 (x_ruling_top, f_ruling_stack))))) ∧ (¬ p2 = (2 : Int32) → ((p2 = (3 : Int32) → (p_X6_holdOf F p1 x_now_arches x_now_cats x_now_hour f_now_place x_ruling_size x_ruling_top f_ruling_steps f_ruling_stack f_now_sag f_now_load f_now_joy f_now_grief f_now_bowl (fun (r_82 : Int32) (u_82 : (Int32 × (Nat → Int32))) => (Post r_82 (u_82.1, u_82.2))))) ∧ (¬ p2 = (3 : Int32) → PostX))))))))))))
set_option maxHeartbeats 4000000 in
set_option maxRecDepth 100000 in
theorem c_X7_arch (l : Launch) (D : va_G) (cT : Nat → ClassId) (F : Nat) (h : Nat) (p1 : Int32) (p2 : Int32) (w_text : Value) (w_told : Value) (q_now : Nat) (w_before : Value) (w_trial : Value) (w_past : Value) (w_kept : Value) (w_feltNotes : Value) (w_heardNotes : Value) (w_draws : Value) (w_purrs : Value) (w_alone : Value) (w_nimbers : Value) (w_ways : Value) (q_ruling : Nat) (w_spare : Value) (q_now_load : Nat) (q_now_sag : Nat) (q_now_joy : Nat) (q_now_bowl : Nat) (q_now_grief : Nat) (q_now_place : Nat) (x_now_arches : Int32) (x_now_cats : Int32) (x_now_store : Int32) (x_now_hour : Int32) (x_now_drops : Int32) (f_now_load : Nat → Int32) (f_now_sag : Nat → Int32) (q_ruling_steps : Nat) (q_ruling_stack : Nat) (x_ruling_size : Int32) (x_ruling_top : Int32) (x_ruling_open : Int32) (x_ruling_compared : Int32) (x_ruling_digits : Int32) (x_ruling_wantsThing : Int32) (f_now_place : Nat → Int32) (f_ruling_steps : Nat → Int32) (f_ruling_stack : Nat → Int32) (f_now_joy : Nat → Int32) (f_now_grief : Nat → Int32) (f_now_bowl : Nat → Int32) (Post : Int32 → (Int32 × (Nat → Int32)) → Prop) (PostX : Prop) (hfl : l.stackTraces = false) (hg : p_X7_arch F p1 p2 x_now_arches x_now_cats x_now_hour f_now_load f_now_sag x_ruling_size x_ruling_top f_now_place f_ruling_steps f_ruling_stack f_now_joy f_now_grief f_now_bowl Post PostX) : MXi l D cT yX7_arch cX7_arch 3 (some .int) 6 125 1 6 [.ref h, .int p1, .int p2] [(h, oX7 w_text w_told (.ref q_now) w_before w_trial w_past w_kept w_feltNotes w_heardNotes w_draws w_purrs w_alone w_nimbers w_ways (.ref q_ruling) w_spare), (q_now, oX6 (.ref q_now_load) (.ref q_now_sag) (.ref q_now_joy) (.ref q_now_bowl) (.ref q_now_grief) (.ref q_now_place) (.int x_now_arches) (.int x_now_cats) (.int x_now_store) (.int x_now_hour) (.int x_now_drops)), (q_now_load, aI cT 6 f_now_load), (q_now_sag, aI cT 6 f_now_sag), (q_ruling, oX4 (.ref q_ruling_steps) (.ref q_ruling_stack) (.int x_ruling_size) (.int x_ruling_top) (.int x_ruling_open) (.int x_ruling_compared) (.int x_ruling_digits) (.int x_ruling_wantsThing)), (q_now_place, aI cT 8 f_now_place), (q_ruling_steps, aI cT 40 f_ruling_steps), (q_ruling_stack, aI cT 40 f_ruling_stack), (q_now_joy, aI cT 8 f_now_joy), (q_now_grief, aI cT 8 f_now_grief), (q_now_bowl, aI cT 8 f_now_bowl)] Post PostX (fun (u : (Int32 × (Nat → Int32))) => [(h, oX7 w_text w_told (.ref q_now) w_before w_trial w_past w_kept w_feltNotes w_heardNotes w_draws w_purrs w_alone w_nimbers w_ways (.ref q_ruling) w_spare), (q_now, oX6 (.ref q_now_load) (.ref q_now_sag) (.ref q_now_joy) (.ref q_now_bowl) (.ref q_now_grief) (.ref q_now_place) (.int x_now_arches) (.int x_now_cats) (.int x_now_store) (.int x_now_hour) (.int x_now_drops)), (q_now_load, aI cT 6 f_now_load), (q_now_sag, aI cT 6 f_now_sag), (q_ruling, oX4 (.ref q_ruling_steps) (.ref q_ruling_stack) (.int x_ruling_size) (.int u.1) (.int x_ruling_open) (.int x_ruling_compared) (.int x_ruling_digits) (.int x_ruling_wantsThing)), (q_now_place, aI cT 8 f_now_place), (q_ruling_steps, aI cT 40 f_ruling_steps), (q_ruling_stack, aI cT 40 u.2), (q_now_joy, aI cT 8 f_now_joy), (q_now_grief, aI cT 8 f_now_grief), (q_now_bowl, aI cT 8 f_now_bowl)]) := by
  refine MXi.of (by decide) (Nat.le_of_ble_eq_true rfl) ?_
  intro p e s m below meth c A hA C0 hE htab hr hP hD ls hl
  have hl : lv_has ls 3 [(0, .ref h), (1, .int p1), (2, .int p2)] := hl
  have hx := C0.x
  have hb := C0.b
  have hS : va_S A s.heap s.heap [] := va_S.rf
  have hP : va_P D cls9 [(h, oX7 w_text w_told (.ref q_now) w_before w_trial w_past w_kept w_feltNotes w_heardNotes w_draws w_purrs w_alone w_nimbers w_ways (.ref q_ruling) w_spare), (q_now, oX6 (.ref q_now_load) (.ref q_now_sag) (.ref q_now_joy) (.ref q_now_bowl) (.ref q_now_grief) (.ref q_now_place) (.int x_now_arches) (.int x_now_cats) (.int x_now_store) (.int x_now_hour) (.int x_now_drops)), (q_now_load, aI cT 6 f_now_load), (q_now_sag, aI cT 6 f_now_sag), (q_ruling, oX4 (.ref q_ruling_steps) (.ref q_ruling_stack) (.int x_ruling_size) (.int x_ruling_top) (.int x_ruling_open) (.int x_ruling_compared) (.int x_ruling_digits) (.int x_ruling_wantsThing)), (q_now_place, aI cT 8 f_now_place), (q_ruling_steps, aI cT 40 f_ruling_steps), (q_ruling_stack, aI cT 40 f_ruling_stack), (q_now_joy, aI cT 8 f_now_joy), (q_now_grief, aI cT 8 f_now_grief), (q_now_bowl, aI cT 8 f_now_bowl)] s.heap := hP
  have hD : va_D A [(h, oX7 w_text w_told (.ref q_now) w_before w_trial w_past w_kept w_feltNotes w_heardNotes w_draws w_purrs w_alone w_nimbers w_ways (.ref q_ruling) w_spare), (q_now, oX6 (.ref q_now_load) (.ref q_now_sag) (.ref q_now_joy) (.ref q_now_bowl) (.ref q_now_grief) (.ref q_now_place) (.int x_now_arches) (.int x_now_cats) (.int x_now_store) (.int x_now_hour) (.int x_now_drops)), (q_now_load, aI cT 6 f_now_load), (q_now_sag, aI cT 6 f_now_sag), (q_ruling, oX4 (.ref q_ruling_steps) (.ref q_ruling_stack) (.int x_ruling_size) (.int x_ruling_top) (.int x_ruling_open) (.int x_ruling_compared) (.int x_ruling_digits) (.int x_ruling_wantsThing)), (q_now_place, aI cT 8 f_now_place), (q_ruling_steps, aI cT 40 f_ruling_steps), (q_ruling_stack, aI cT 40 f_ruling_stack), (q_now_joy, aI cT 8 f_now_joy), (q_now_grief, aI cT 8 f_now_grief), (q_now_bowl, aI cT 8 f_now_bowl)] := hD
  unfold p_X7_arch at hg
  refine lv_aload_n hx hb dX7_arch_0 rfl (lv_at hl 0 rfl) ?_
  refine gf_X7_26 C0 hP 0 rfl rfl dX7_arch_1 ?_
  refine lv_iload_n hx hb dX7_arch_4 rfl (lv_at hl 1 rfl) ?_
  refine k_Vxi (rest := []) C0 lk_X7_136 (c_X6_hasArch l D cT F q_now p1 (.ref q_now_load) (.ref q_now_sag) (.ref q_now_joy) (.ref q_now_bowl) (.ref q_now_grief) (.ref q_now_place) x_now_arches x_now_cats x_now_store x_now_hour x_now_drops _ hg) hP hD hS hA [1] (by decide +kernel) rfl rfl rfl ⟨Nat.le_of_ble_eq_true rfl, Nat.le_of_ble_eq_true rfl⟩ rfl hl.1 rfl (Nat.le_of_ble_eq_true rfl) dX7_arch_5 ⟨Nat.le_of_ble_eq_true rfl, Nat.le_of_ble_eq_true rfl⟩ (fun r_5 hg => ?_)
  refine lv_if_eq (tgt := 86) hx hb dX7_arch_8 (by decide) (fun c_8 => ?_) (fun c_8 => ?_)
  · have hg := hg.1 c_8
    exact k_throw C0 hfl hE htab hP hD hS hA hl.1 hg dX7_arch_86 dX7_arch_89 dX7_arch_90 dX7_arch_93 (Nat.le_of_ble_eq_true rfl) (Nat.le_of_ble_eq_true rfl) (Nat.le_of_ble_eq_true rfl) (Nat.le_of_ble_eq_true rfl) (Nat.le_of_ble_eq_true rfl) (Nat.le_of_ble_eq_true rfl)
  have hg := hg.2 c_8
  refine lv_iload_n hx hb dX7_arch_11 rfl (lv_at hl 2 rfl) ?_
  rcases Classical.em (p2 = (0 : Int32)) with c_12_0 | c_12_0
  · have hg := hg.1 c_12_0
    refine lv_tableIn (tgt := 44) hx hb dX7_arch_12 (by rw [c_12_0]; decide) (by rw [c_12_0]; decide) (by rw [c_12_0]; rfl) (by decide) ?_
    refine lv_aload_n hx hb dX7_arch_44 rfl (lv_at hl 0 rfl) ?_
    refine gf_X7_26 C0 hP 0 rfl rfl dX7_arch_45 ?_
    refine gf_X7_140 C0 hP 1 rfl rfl dX7_arch_48 ?_
    refine lv_iload_n hx hb dX7_arch_51 rfl (lv_at hl 1 rfl) ?_
    obtain ⟨g_52, hg⟩ := hg
    refine k_iald C0 hP 2 rfl g_52 dX7_arch_52 ?_
    refine W.widen (k := 1) (n := 6) (Nat.le_of_ble_eq_true rfl) (Nat.le_of_ble_eq_true rfl) ?_
    exact vx_ret (k_iret C0 hr (x_ruling_top, f_ruling_stack) hg hP hD hS dX7_arch_53)
  have hg := hg.2 c_12_0
  rcases Classical.em (p2 = (1 : Int32)) with c_12_1 | c_12_1
  · have hg := hg.1 c_12_1
    refine lv_tableIn (tgt := 54) hx hb dX7_arch_12 (by rw [c_12_1]; decide) (by rw [c_12_1]; decide) (by rw [c_12_1]; rfl) (by decide) ?_
    refine lv_aload_n hx hb dX7_arch_54 rfl (lv_at hl 0 rfl) ?_
    refine gf_X7_26 C0 hP 0 rfl rfl dX7_arch_55 ?_
    refine gf_X7_143 C0 hP 1 rfl rfl dX7_arch_58 ?_
    refine lv_iload_n hx hb dX7_arch_61 rfl (lv_at hl 1 rfl) ?_
    obtain ⟨g_62, hg⟩ := hg
    refine k_iald C0 hP 3 rfl g_62 dX7_arch_62 ?_
    refine W.widen (k := 1) (n := 6) (Nat.le_of_ble_eq_true rfl) (Nat.le_of_ble_eq_true rfl) ?_
    exact vx_ret (k_iret C0 hr (x_ruling_top, f_ruling_stack) hg hP hD hS dX7_arch_63)
  have hg := hg.2 c_12_1
  rcases Classical.em (p2 = (2 : Int32)) with c_12_2 | c_12_2
  · have hg := hg.1 c_12_2
    refine lv_tableIn (tgt := 64) hx hb dX7_arch_12 (by rw [c_12_2]; decide) (by rw [c_12_2]; decide) (by rw [c_12_2]; rfl) (by decide) ?_
    refine lv_aload_n hx hb dX7_arch_64 rfl (lv_at hl 0 rfl) ?_
    refine gf_X7_26 C0 hP 0 rfl rfl dX7_arch_65 ?_
    refine lv_iload_n hx hb dX7_arch_68 rfl (lv_at hl 1 rfl) ?_
    refine k_Vxi (rest := []) C0 lk_X7_146 (c_X6_catsIn l D cT F q_now p1 (.ref q_now_load) (.ref q_now_sag) (.ref q_now_joy) (.ref q_now_bowl) (.ref q_now_grief) q_now_place x_now_arches x_now_cats x_now_store x_now_hour x_now_drops f_now_place _ hg) hP hD hS hA [1, 5] (by decide +kernel) rfl rfl rfl ⟨Nat.le_of_ble_eq_true rfl, Nat.le_of_ble_eq_true rfl⟩ rfl hl.1 rfl (Nat.le_of_ble_eq_true rfl) dX7_arch_69 ⟨Nat.le_of_ble_eq_true rfl, Nat.le_of_ble_eq_true rfl⟩ (fun r_69 hg => ?_)
    refine W.widen (k := 1) (n := 6) (Nat.le_of_ble_eq_true rfl) (Nat.le_of_ble_eq_true rfl) ?_
    exact vx_ret (k_iret C0 hr (x_ruling_top, f_ruling_stack) hg hP hD hS dX7_arch_72)
  have hg := hg.2 c_12_2
  rcases Classical.em (p2 = (3 : Int32)) with c_12_3 | c_12_3
  · have hg := hg.1 c_12_3
    refine lv_tableIn (tgt := 73) hx hb dX7_arch_12 (by rw [c_12_3]; decide) (by rw [c_12_3]; decide) (by rw [c_12_3]; rfl) (by decide) ?_
    refine lv_aload_n hx hb dX7_arch_73 rfl (lv_at hl 0 rfl) ?_
    refine gf_X7_26 C0 hP 0 rfl rfl dX7_arch_74 ?_
    refine lv_aload_n hx hb dX7_arch_77 rfl (lv_at hl 0 rfl) ?_
    refine gf_X7_83 C0 hP 0 rfl rfl dX7_arch_78 ?_
    refine lv_iload_n hx hb dX7_arch_81 rfl (lv_at hl 1 rfl) ?_
    refine k_Vi (rest := []) (wr := [(h, oX7 w_text w_told (.ref q_now) w_before w_trial w_past w_kept w_feltNotes w_heardNotes w_draws w_purrs w_alone w_nimbers w_ways (.ref q_ruling) w_spare)]) (w2 := fun u_82 => [(h, oX7 w_text w_told (.ref q_now) w_before w_trial w_past w_kept w_feltNotes w_heardNotes w_draws w_purrs w_alone w_nimbers w_ways (.ref q_ruling) w_spare), (q_now, oX6 (.ref q_now_load) (.ref q_now_sag) (.ref q_now_joy) (.ref q_now_bowl) (.ref q_now_grief) (.ref q_now_place) (.int x_now_arches) (.int x_now_cats) (.int x_now_store) (.int x_now_hour) (.int x_now_drops)), (q_now_place, aI cT 8 f_now_place), (q_ruling, oX4 (.ref q_ruling_steps) (.ref q_ruling_stack) (.int x_ruling_size) (.int u_82.1) (.int x_ruling_open) (.int x_ruling_compared) (.int x_ruling_digits) (.int x_ruling_wantsThing)), (q_ruling_steps, aI cT 40 f_ruling_steps), (q_ruling_stack, aI cT 40 u_82.2), (q_now_sag, aI cT 6 f_now_sag), (q_now_load, aI cT 6 f_now_load), (q_now_joy, aI cT 8 f_now_joy), (q_now_grief, aI cT 8 f_now_grief), (q_now_bowl, aI cT 8 f_now_bowl)]) C0 lk_X7_149 (c_X6_holdOf l D cT F q_now q_ruling p1 q_now_load q_now_sag q_now_joy q_now_bowl q_now_grief q_now_place x_now_arches x_now_cats x_now_store x_now_hour x_now_drops f_now_place q_ruling_steps q_ruling_stack x_ruling_size x_ruling_top x_ruling_open x_ruling_compared x_ruling_digits x_ruling_wantsThing f_ruling_steps f_ruling_stack f_now_sag f_now_load f_now_joy f_now_grief f_now_bowl _ hg) hP hD hS hA [1, 5, 4, 6, 7, 3, 2, 8, 9, 10] [0] (by decide +kernel) rfl rfl (fun _ => rfl) rfl rfl ⟨Nat.le_of_ble_eq_true rfl, Nat.le_of_ble_eq_true rfl⟩ rfl hl.1 rfl (Nat.le_of_ble_eq_true rfl) dX7_arch_82 ⟨Nat.le_of_ble_eq_true rfl, Nat.le_of_ble_eq_true rfl⟩ ?_
    intro r_82 u_82 H locs hg hP hD hS
    refine W.widen (k := 1) (n := 6) (Nat.le_of_ble_eq_true rfl) (Nat.le_of_ble_eq_true rfl) ?_
    exact vx_ret (k_iret C0 hr (u_82.1, u_82.2) hg (subP hP [0, 1, 7, 6, 3, 2, 4, 5, 8, 9, 10] rfl) (hD.sub [0, 1, 7, 6, 3, 2, 4, 5, 8, 9, 10] (nd2_ok _ (by decide +kernel)) rfl) hS dX7_arch_85)
  have hg := hg.2 c_12_3
  refine sw_def (x := p2) (lo := 0) (dflt := 74) (tgt := 86) hx hb dX7_arch_12 (by decide) (by decide) ?_ ?_
  · intro k hk hx2
    have n_12_0 := ne_toInt (k := 0) (by decide) c_12_0
    have n_12_1 := ne_toInt (k := 1) (by decide) c_12_1
    have n_12_2 := ne_toInt (k := 2) (by decide) c_12_2
    have n_12_3 := ne_toInt (k := 3) (by decide) c_12_3
    have hk3 : k < 4 := hk
    match k, hk3 with
    | 0, _ => exact absurd hx2 (by omega)
    | 1, _ => exact absurd hx2 (by omega)
    | 2, _ => exact absurd hx2 (by omega)
    | 3, _ => exact absurd hx2 (by omega)
    | k + 4, h => exact absurd h (by omega)
  exact k_throw C0 hfl hE htab hP hD hS hA hl.1 hg dX7_arch_86 dX7_arch_89 dX7_arch_90 dX7_arch_93 (Nat.le_of_ble_eq_true rfl) (Nat.le_of_ble_eq_true rfl) (Nat.le_of_ble_eq_true rfl) (Nat.le_of_ble_eq_true rfl) (Nat.le_of_ble_eq_true rfl) (Nat.le_of_ble_eq_true rfl)
theorem dX7_cat_0 : decode cX7_cat 0 = .ok (.aload_n 0, 1) := by decide +kernel
theorem dX7_cat_1 : decode cX7_cat 1 = .ok (.getfield 26, 3) := by decide +kernel
theorem dX7_cat_4 : decode cX7_cat 4 = .ok (.iload_n 1, 1) := by decide +kernel
theorem dX7_cat_5 : decode cX7_cat 5 = .ok (.invokevirtual 156, 3) := by decide +kernel
theorem dX7_cat_8 : decode cX7_cat 8 = .ok (.ifCond .eq 93, 3) := by decide +kernel
theorem dX7_cat_11 : decode cX7_cat 11 = .ok (.iload_n 2, 1) := by decide +kernel
theorem dX7_cat_12 : decode cX7_cat 12 = .ok (.tableswitch 89 0 4 #[36, 46, 56, 66, 76], 36) := by decide +kernel
theorem dX7_cat_48 : decode cX7_cat 48 = .ok (.aload_n 0, 1) := by decide +kernel
theorem dX7_cat_49 : decode cX7_cat 49 = .ok (.getfield 26, 3) := by decide +kernel
theorem dX7_cat_52 : decode cX7_cat 52 = .ok (.getfield 159, 3) := by decide +kernel
theorem dX7_cat_55 : decode cX7_cat 55 = .ok (.iload_n 1, 1) := by decide +kernel
theorem dX7_cat_56 : decode cX7_cat 56 = .ok (.iaload, 1) := by decide +kernel
theorem dX7_cat_57 : decode cX7_cat 57 = .ok (.ireturn, 1) := by decide +kernel
theorem dX7_cat_58 : decode cX7_cat 58 = .ok (.aload_n 0, 1) := by decide +kernel
theorem dX7_cat_59 : decode cX7_cat 59 = .ok (.getfield 26, 3) := by decide +kernel
theorem dX7_cat_62 : decode cX7_cat 62 = .ok (.getfield 162, 3) := by decide +kernel
theorem dX7_cat_65 : decode cX7_cat 65 = .ok (.iload_n 1, 1) := by decide +kernel
theorem dX7_cat_66 : decode cX7_cat 66 = .ok (.iaload, 1) := by decide +kernel
theorem dX7_cat_67 : decode cX7_cat 67 = .ok (.ireturn, 1) := by decide +kernel
theorem dX7_cat_68 : decode cX7_cat 68 = .ok (.aload_n 0, 1) := by decide +kernel
theorem dX7_cat_69 : decode cX7_cat 69 = .ok (.getfield 26, 3) := by decide +kernel
theorem dX7_cat_72 : decode cX7_cat 72 = .ok (.getfield 165, 3) := by decide +kernel
theorem dX7_cat_75 : decode cX7_cat 75 = .ok (.iload_n 1, 1) := by decide +kernel
theorem dX7_cat_76 : decode cX7_cat 76 = .ok (.iaload, 1) := by decide +kernel
theorem dX7_cat_77 : decode cX7_cat 77 = .ok (.ireturn, 1) := by decide +kernel
theorem dX7_cat_78 : decode cX7_cat 78 = .ok (.aload_n 0, 1) := by decide +kernel
theorem dX7_cat_79 : decode cX7_cat 79 = .ok (.getfield 26, 3) := by decide +kernel
theorem dX7_cat_82 : decode cX7_cat 82 = .ok (.getfield 168, 3) := by decide +kernel
theorem dX7_cat_85 : decode cX7_cat 85 = .ok (.iload_n 1, 1) := by decide +kernel
theorem dX7_cat_86 : decode cX7_cat 86 = .ok (.iaload, 1) := by decide +kernel
theorem dX7_cat_87 : decode cX7_cat 87 = .ok (.ireturn, 1) := by decide +kernel
theorem dX7_cat_88 : decode cX7_cat 88 = .ok (.aload_n 0, 1) := by decide +kernel
theorem dX7_cat_89 : decode cX7_cat 89 = .ok (.getfield 26, 3) := by decide +kernel
theorem dX7_cat_92 : decode cX7_cat 92 = .ok (.aload_n 0, 1) := by decide +kernel
theorem dX7_cat_93 : decode cX7_cat 93 = .ok (.getfield 83, 3) := by decide +kernel
theorem dX7_cat_96 : decode cX7_cat 96 = .ok (.iload_n 1, 1) := by decide +kernel
theorem dX7_cat_97 : decode cX7_cat 97 = .ok (.invokevirtual 171, 3) := by decide +kernel
theorem dX7_cat_100 : decode cX7_cat 100 = .ok (.ireturn, 1) := by decide +kernel
theorem dX7_cat_101 : decode cX7_cat 101 = .ok (.new 153, 3) := by decide +kernel
theorem dX7_cat_104 : decode cX7_cat 104 = .ok (.dup, 1) := by decide +kernel
theorem dX7_cat_105 : decode cX7_cat 105 = .ok (.invokespecial 155, 3) := by decide +kernel
theorem dX7_cat_108 : decode cX7_cat 108 = .ok (.athrow, 1) := by decide +kernel
def p_X7_cat (F : Nat) (p1 : Int32) (p2 : Int32) (x_now_arches : Int32) (x_now_cats : Int32) (x_now_hour : Int32) (f_now_joy : Nat → Int32) (f_now_bowl : Nat → Int32) (f_now_grief : Nat → Int32) (f_now_place : Nat → Int32) (x_ruling_size : Int32) (x_ruling_top : Int32) (f_ruling_steps : Nat → Int32) (f_ruling_stack : Nat → Int32) (f_now_sag : Nat → Int32) (f_now_load : Nat → Int32) (Post : Int32 → (Int32 × (Nat → Int32)) → Prop) (PostX : Prop) : Prop := (p_X6_hasCat F p1 x_now_cats (fun (r_5 : Int32) => ((r_5 = 0 → PostX) ∧ (¬ r_5 = 0 → ((p2 = (0 : Int32) → (vp_in p1 8 ∧ (Post (f_now_joy p1.toNatClampNeg) (x_ruling_top, f_ruling_stack)))) ∧ (¬ p2 = (0 : Int32) → ((p2 = (1 : Int32) → (vp_in p1 8 ∧ (Post (f_now_bowl p1.toNatClampNeg) (x_ruling_top, f_ruling_stack)))) ∧ (¬ p2 = (1 : Int32) → ((p2 = (2 : Int32) → (vp_in p1 8 ∧ (Post (f_now_grief p1.toNatClampNeg) (x_ruling_top, f_ruling_stack)))) ∧ (¬ p2 = (2 : Int32) → ((p2 = (3 : Int32) → (vp_in p1 8 ∧ (Post (f_now_place p1.toNatClampNeg) (x_ruling_top, f_ruling_stack)))) ∧ (¬ p2 = (3 : Int32) → ((p2 = (4 : Int32) → (p_X6_purrOf F p1 x_now_arches x_now_cats x_now_hour f_now_place x_ruling_size f_ruling_steps f_ruling_stack f_now_sag f_now_load f_now_joy f_now_grief f_now_bowl (fun (r_97 : Int32) (u_97 : (Int32 × (Nat → Int32))) => (Post r_97 (u_97.1, u_97.2))))) ∧ (¬ p2 = (4 : Int32) → PostX))))))))))))))
set_option maxHeartbeats 4000000 in
set_option maxRecDepth 100000 in
theorem c_X7_cat (l : Launch) (D : va_G) (cT : Nat → ClassId) (F : Nat) (h : Nat) (p1 : Int32) (p2 : Int32) (w_text : Value) (w_told : Value) (q_now : Nat) (w_before : Value) (w_trial : Value) (w_past : Value) (w_kept : Value) (w_feltNotes : Value) (w_heardNotes : Value) (w_draws : Value) (w_purrs : Value) (w_alone : Value) (w_nimbers : Value) (w_ways : Value) (q_ruling : Nat) (w_spare : Value) (q_now_load : Nat) (q_now_sag : Nat) (q_now_joy : Nat) (q_now_bowl : Nat) (q_now_grief : Nat) (q_now_place : Nat) (x_now_arches : Int32) (x_now_cats : Int32) (x_now_store : Int32) (x_now_hour : Int32) (x_now_drops : Int32) (f_now_joy : Nat → Int32) (f_now_bowl : Nat → Int32) (f_now_grief : Nat → Int32) (f_now_place : Nat → Int32) (q_ruling_steps : Nat) (q_ruling_stack : Nat) (x_ruling_size : Int32) (x_ruling_top : Int32) (x_ruling_open : Int32) (x_ruling_compared : Int32) (x_ruling_digits : Int32) (x_ruling_wantsThing : Int32) (f_ruling_steps : Nat → Int32) (f_ruling_stack : Nat → Int32) (f_now_sag : Nat → Int32) (f_now_load : Nat → Int32) (Post : Int32 → (Int32 × (Nat → Int32)) → Prop) (PostX : Prop) (hfl : l.stackTraces = false) (hg : p_X7_cat F p1 p2 x_now_arches x_now_cats x_now_hour f_now_joy f_now_bowl f_now_grief f_now_place x_ruling_size x_ruling_top f_ruling_steps f_ruling_stack f_now_sag f_now_load Post PostX) : MXi l D cT yX7_cat cX7_cat 3 (some .int) 6 100 1 6 [.ref h, .int p1, .int p2] [(h, oX7 w_text w_told (.ref q_now) w_before w_trial w_past w_kept w_feltNotes w_heardNotes w_draws w_purrs w_alone w_nimbers w_ways (.ref q_ruling) w_spare), (q_now, oX6 (.ref q_now_load) (.ref q_now_sag) (.ref q_now_joy) (.ref q_now_bowl) (.ref q_now_grief) (.ref q_now_place) (.int x_now_arches) (.int x_now_cats) (.int x_now_store) (.int x_now_hour) (.int x_now_drops)), (q_now_joy, aI cT 8 f_now_joy), (q_now_bowl, aI cT 8 f_now_bowl), (q_now_grief, aI cT 8 f_now_grief), (q_now_place, aI cT 8 f_now_place), (q_ruling, oX4 (.ref q_ruling_steps) (.ref q_ruling_stack) (.int x_ruling_size) (.int x_ruling_top) (.int x_ruling_open) (.int x_ruling_compared) (.int x_ruling_digits) (.int x_ruling_wantsThing)), (q_ruling_steps, aI cT 40 f_ruling_steps), (q_ruling_stack, aI cT 40 f_ruling_stack), (q_now_sag, aI cT 6 f_now_sag), (q_now_load, aI cT 6 f_now_load)] Post PostX (fun (u : (Int32 × (Nat → Int32))) => [(h, oX7 w_text w_told (.ref q_now) w_before w_trial w_past w_kept w_feltNotes w_heardNotes w_draws w_purrs w_alone w_nimbers w_ways (.ref q_ruling) w_spare), (q_now, oX6 (.ref q_now_load) (.ref q_now_sag) (.ref q_now_joy) (.ref q_now_bowl) (.ref q_now_grief) (.ref q_now_place) (.int x_now_arches) (.int x_now_cats) (.int x_now_store) (.int x_now_hour) (.int x_now_drops)), (q_now_joy, aI cT 8 f_now_joy), (q_now_bowl, aI cT 8 f_now_bowl), (q_now_grief, aI cT 8 f_now_grief), (q_now_place, aI cT 8 f_now_place), (q_ruling, oX4 (.ref q_ruling_steps) (.ref q_ruling_stack) (.int x_ruling_size) (.int u.1) (.int x_ruling_open) (.int x_ruling_compared) (.int x_ruling_digits) (.int x_ruling_wantsThing)), (q_ruling_steps, aI cT 40 f_ruling_steps), (q_ruling_stack, aI cT 40 u.2), (q_now_sag, aI cT 6 f_now_sag), (q_now_load, aI cT 6 f_now_load)]) := by
  refine MXi.of (by decide) (Nat.le_of_ble_eq_true rfl) ?_
  intro p e s m below meth c A hA C0 hE htab hr hP hD ls hl
  have hl : lv_has ls 3 [(0, .ref h), (1, .int p1), (2, .int p2)] := hl
  have hx := C0.x
  have hb := C0.b
  have hS : va_S A s.heap s.heap [] := va_S.rf
  have hP : va_P D cls9 [(h, oX7 w_text w_told (.ref q_now) w_before w_trial w_past w_kept w_feltNotes w_heardNotes w_draws w_purrs w_alone w_nimbers w_ways (.ref q_ruling) w_spare), (q_now, oX6 (.ref q_now_load) (.ref q_now_sag) (.ref q_now_joy) (.ref q_now_bowl) (.ref q_now_grief) (.ref q_now_place) (.int x_now_arches) (.int x_now_cats) (.int x_now_store) (.int x_now_hour) (.int x_now_drops)), (q_now_joy, aI cT 8 f_now_joy), (q_now_bowl, aI cT 8 f_now_bowl), (q_now_grief, aI cT 8 f_now_grief), (q_now_place, aI cT 8 f_now_place), (q_ruling, oX4 (.ref q_ruling_steps) (.ref q_ruling_stack) (.int x_ruling_size) (.int x_ruling_top) (.int x_ruling_open) (.int x_ruling_compared) (.int x_ruling_digits) (.int x_ruling_wantsThing)), (q_ruling_steps, aI cT 40 f_ruling_steps), (q_ruling_stack, aI cT 40 f_ruling_stack), (q_now_sag, aI cT 6 f_now_sag), (q_now_load, aI cT 6 f_now_load)] s.heap := hP
  have hD : va_D A [(h, oX7 w_text w_told (.ref q_now) w_before w_trial w_past w_kept w_feltNotes w_heardNotes w_draws w_purrs w_alone w_nimbers w_ways (.ref q_ruling) w_spare), (q_now, oX6 (.ref q_now_load) (.ref q_now_sag) (.ref q_now_joy) (.ref q_now_bowl) (.ref q_now_grief) (.ref q_now_place) (.int x_now_arches) (.int x_now_cats) (.int x_now_store) (.int x_now_hour) (.int x_now_drops)), (q_now_joy, aI cT 8 f_now_joy), (q_now_bowl, aI cT 8 f_now_bowl), (q_now_grief, aI cT 8 f_now_grief), (q_now_place, aI cT 8 f_now_place), (q_ruling, oX4 (.ref q_ruling_steps) (.ref q_ruling_stack) (.int x_ruling_size) (.int x_ruling_top) (.int x_ruling_open) (.int x_ruling_compared) (.int x_ruling_digits) (.int x_ruling_wantsThing)), (q_ruling_steps, aI cT 40 f_ruling_steps), (q_ruling_stack, aI cT 40 f_ruling_stack), (q_now_sag, aI cT 6 f_now_sag), (q_now_load, aI cT 6 f_now_load)] := hD
  unfold p_X7_cat at hg
  refine lv_aload_n hx hb dX7_cat_0 rfl (lv_at hl 0 rfl) ?_
  refine gf_X7_26 C0 hP 0 rfl rfl dX7_cat_1 ?_
  refine lv_iload_n hx hb dX7_cat_4 rfl (lv_at hl 1 rfl) ?_
  refine k_Vxi (rest := []) C0 lk_X7_156 (c_X6_hasCat l D cT F q_now p1 (.ref q_now_load) (.ref q_now_sag) (.ref q_now_joy) (.ref q_now_bowl) (.ref q_now_grief) (.ref q_now_place) x_now_arches x_now_cats x_now_store x_now_hour x_now_drops _ hg) hP hD hS hA [1] (by decide +kernel) rfl rfl rfl ⟨Nat.le_of_ble_eq_true rfl, Nat.le_of_ble_eq_true rfl⟩ rfl hl.1 rfl (Nat.le_of_ble_eq_true rfl) dX7_cat_5 ⟨Nat.le_of_ble_eq_true rfl, Nat.le_of_ble_eq_true rfl⟩ (fun r_5 hg => ?_)
  refine lv_if_eq (tgt := 101) hx hb dX7_cat_8 (by decide) (fun c_8 => ?_) (fun c_8 => ?_)
  · have hg := hg.1 c_8
    exact k_throw C0 hfl hE htab hP hD hS hA hl.1 hg dX7_cat_101 dX7_cat_104 dX7_cat_105 dX7_cat_108 (Nat.le_of_ble_eq_true rfl) (Nat.le_of_ble_eq_true rfl) (Nat.le_of_ble_eq_true rfl) (Nat.le_of_ble_eq_true rfl) (Nat.le_of_ble_eq_true rfl) (Nat.le_of_ble_eq_true rfl)
  have hg := hg.2 c_8
  refine lv_iload_n hx hb dX7_cat_11 rfl (lv_at hl 2 rfl) ?_
  rcases Classical.em (p2 = (0 : Int32)) with c_12_0 | c_12_0
  · have hg := hg.1 c_12_0
    refine lv_tableIn (tgt := 48) hx hb dX7_cat_12 (by rw [c_12_0]; decide) (by rw [c_12_0]; decide) (by rw [c_12_0]; rfl) (by decide) ?_
    refine lv_aload_n hx hb dX7_cat_48 rfl (lv_at hl 0 rfl) ?_
    refine gf_X7_26 C0 hP 0 rfl rfl dX7_cat_49 ?_
    refine gf_X7_159 C0 hP 1 rfl rfl dX7_cat_52 ?_
    refine lv_iload_n hx hb dX7_cat_55 rfl (lv_at hl 1 rfl) ?_
    obtain ⟨g_56, hg⟩ := hg
    refine k_iald C0 hP 2 rfl g_56 dX7_cat_56 ?_
    refine W.widen (k := 1) (n := 6) (Nat.le_of_ble_eq_true rfl) (Nat.le_of_ble_eq_true rfl) ?_
    exact vx_ret (k_iret C0 hr (x_ruling_top, f_ruling_stack) hg hP hD hS dX7_cat_57)
  have hg := hg.2 c_12_0
  rcases Classical.em (p2 = (1 : Int32)) with c_12_1 | c_12_1
  · have hg := hg.1 c_12_1
    refine lv_tableIn (tgt := 58) hx hb dX7_cat_12 (by rw [c_12_1]; decide) (by rw [c_12_1]; decide) (by rw [c_12_1]; rfl) (by decide) ?_
    refine lv_aload_n hx hb dX7_cat_58 rfl (lv_at hl 0 rfl) ?_
    refine gf_X7_26 C0 hP 0 rfl rfl dX7_cat_59 ?_
    refine gf_X7_162 C0 hP 1 rfl rfl dX7_cat_62 ?_
    refine lv_iload_n hx hb dX7_cat_65 rfl (lv_at hl 1 rfl) ?_
    obtain ⟨g_66, hg⟩ := hg
    refine k_iald C0 hP 3 rfl g_66 dX7_cat_66 ?_
    refine W.widen (k := 1) (n := 6) (Nat.le_of_ble_eq_true rfl) (Nat.le_of_ble_eq_true rfl) ?_
    exact vx_ret (k_iret C0 hr (x_ruling_top, f_ruling_stack) hg hP hD hS dX7_cat_67)
  have hg := hg.2 c_12_1
  rcases Classical.em (p2 = (2 : Int32)) with c_12_2 | c_12_2
  · have hg := hg.1 c_12_2
    refine lv_tableIn (tgt := 68) hx hb dX7_cat_12 (by rw [c_12_2]; decide) (by rw [c_12_2]; decide) (by rw [c_12_2]; rfl) (by decide) ?_
    refine lv_aload_n hx hb dX7_cat_68 rfl (lv_at hl 0 rfl) ?_
    refine gf_X7_26 C0 hP 0 rfl rfl dX7_cat_69 ?_
    refine gf_X7_165 C0 hP 1 rfl rfl dX7_cat_72 ?_
    refine lv_iload_n hx hb dX7_cat_75 rfl (lv_at hl 1 rfl) ?_
    obtain ⟨g_76, hg⟩ := hg
    refine k_iald C0 hP 4 rfl g_76 dX7_cat_76 ?_
    refine W.widen (k := 1) (n := 6) (Nat.le_of_ble_eq_true rfl) (Nat.le_of_ble_eq_true rfl) ?_
    exact vx_ret (k_iret C0 hr (x_ruling_top, f_ruling_stack) hg hP hD hS dX7_cat_77)
  have hg := hg.2 c_12_2
  rcases Classical.em (p2 = (3 : Int32)) with c_12_3 | c_12_3
  · have hg := hg.1 c_12_3
    refine lv_tableIn (tgt := 78) hx hb dX7_cat_12 (by rw [c_12_3]; decide) (by rw [c_12_3]; decide) (by rw [c_12_3]; rfl) (by decide) ?_
    refine lv_aload_n hx hb dX7_cat_78 rfl (lv_at hl 0 rfl) ?_
    refine gf_X7_26 C0 hP 0 rfl rfl dX7_cat_79 ?_
    refine gf_X7_168 C0 hP 1 rfl rfl dX7_cat_82 ?_
    refine lv_iload_n hx hb dX7_cat_85 rfl (lv_at hl 1 rfl) ?_
    obtain ⟨g_86, hg⟩ := hg
    refine k_iald C0 hP 5 rfl g_86 dX7_cat_86 ?_
    refine W.widen (k := 1) (n := 6) (Nat.le_of_ble_eq_true rfl) (Nat.le_of_ble_eq_true rfl) ?_
    exact vx_ret (k_iret C0 hr (x_ruling_top, f_ruling_stack) hg hP hD hS dX7_cat_87)
  have hg := hg.2 c_12_3
  rcases Classical.em (p2 = (4 : Int32)) with c_12_4 | c_12_4
  · have hg := hg.1 c_12_4
    refine lv_tableIn (tgt := 88) hx hb dX7_cat_12 (by rw [c_12_4]; decide) (by rw [c_12_4]; decide) (by rw [c_12_4]; rfl) (by decide) ?_
    refine lv_aload_n hx hb dX7_cat_88 rfl (lv_at hl 0 rfl) ?_
    refine gf_X7_26 C0 hP 0 rfl rfl dX7_cat_89 ?_
    refine lv_aload_n hx hb dX7_cat_92 rfl (lv_at hl 0 rfl) ?_
    refine gf_X7_83 C0 hP 0 rfl rfl dX7_cat_93 ?_
    refine lv_iload_n hx hb dX7_cat_96 rfl (lv_at hl 1 rfl) ?_
    refine k_Vi (rest := []) (wr := [(h, oX7 w_text w_told (.ref q_now) w_before w_trial w_past w_kept w_feltNotes w_heardNotes w_draws w_purrs w_alone w_nimbers w_ways (.ref q_ruling) w_spare)]) (w2 := fun u_97 => [(h, oX7 w_text w_told (.ref q_now) w_before w_trial w_past w_kept w_feltNotes w_heardNotes w_draws w_purrs w_alone w_nimbers w_ways (.ref q_ruling) w_spare), (q_now, oX6 (.ref q_now_load) (.ref q_now_sag) (.ref q_now_joy) (.ref q_now_bowl) (.ref q_now_grief) (.ref q_now_place) (.int x_now_arches) (.int x_now_cats) (.int x_now_store) (.int x_now_hour) (.int x_now_drops)), (q_now_place, aI cT 8 f_now_place), (q_ruling, oX4 (.ref q_ruling_steps) (.ref q_ruling_stack) (.int x_ruling_size) (.int u_97.1) (.int x_ruling_open) (.int x_ruling_compared) (.int x_ruling_digits) (.int x_ruling_wantsThing)), (q_ruling_steps, aI cT 40 f_ruling_steps), (q_ruling_stack, aI cT 40 u_97.2), (q_now_sag, aI cT 6 f_now_sag), (q_now_load, aI cT 6 f_now_load), (q_now_joy, aI cT 8 f_now_joy), (q_now_grief, aI cT 8 f_now_grief), (q_now_bowl, aI cT 8 f_now_bowl)]) C0 lk_X7_171 (c_X6_purrOf l D cT F q_now q_ruling p1 q_now_load q_now_sag q_now_joy q_now_bowl q_now_grief q_now_place x_now_arches x_now_cats x_now_store x_now_hour x_now_drops f_now_place q_ruling_steps q_ruling_stack x_ruling_size x_ruling_top x_ruling_open x_ruling_compared x_ruling_digits x_ruling_wantsThing f_ruling_steps f_ruling_stack f_now_sag f_now_load f_now_joy f_now_grief f_now_bowl _ hg) hP hD hS hA [1, 5, 6, 7, 8, 9, 10, 2, 4, 3] [0] (by decide +kernel) rfl rfl (fun _ => rfl) rfl rfl ⟨Nat.le_of_ble_eq_true rfl, Nat.le_of_ble_eq_true rfl⟩ rfl hl.1 rfl (Nat.le_of_ble_eq_true rfl) dX7_cat_97 ⟨Nat.le_of_ble_eq_true rfl, Nat.le_of_ble_eq_true rfl⟩ ?_
    intro r_97 u_97 H locs hg hP hD hS
    refine W.widen (k := 1) (n := 6) (Nat.le_of_ble_eq_true rfl) (Nat.le_of_ble_eq_true rfl) ?_
    exact vx_ret (k_iret C0 hr (u_97.1, u_97.2) hg (subP hP [0, 1, 8, 10, 9, 2, 3, 4, 5, 6, 7] rfl) (hD.sub [0, 1, 8, 10, 9, 2, 3, 4, 5, 6, 7] (nd2_ok _ (by decide +kernel)) rfl) hS dX7_cat_100)
  have hg := hg.2 c_12_4
  refine sw_def (x := p2) (lo := 0) (dflt := 89) (tgt := 101) hx hb dX7_cat_12 (by decide) (by decide) ?_ ?_
  · intro k hk hx2
    have n_12_0 := ne_toInt (k := 0) (by decide) c_12_0
    have n_12_1 := ne_toInt (k := 1) (by decide) c_12_1
    have n_12_2 := ne_toInt (k := 2) (by decide) c_12_2
    have n_12_3 := ne_toInt (k := 3) (by decide) c_12_3
    have n_12_4 := ne_toInt (k := 4) (by decide) c_12_4
    have hk3 : k < 5 := hk
    match k, hk3 with
    | 0, _ => exact absurd hx2 (by omega)
    | 1, _ => exact absurd hx2 (by omega)
    | 2, _ => exact absurd hx2 (by omega)
    | 3, _ => exact absurd hx2 (by omega)
    | 4, _ => exact absurd hx2 (by omega)
    | k + 5, h => exact absurd h (by omega)
  exact k_throw C0 hfl hE htab hP hD hS hA hl.1 hg dX7_cat_101 dX7_cat_104 dX7_cat_105 dX7_cat_108 (Nat.le_of_ble_eq_true rfl) (Nat.le_of_ble_eq_true rfl) (Nat.le_of_ble_eq_true rfl) (Nat.le_of_ble_eq_true rfl) (Nat.le_of_ble_eq_true rfl) (Nat.le_of_ble_eq_true rfl)
theorem dX7_row_0 : decode cX7_row 0 = .ok (.iload_n 1, 1) := by decide +kernel
theorem dX7_row_1 : decode cX7_row 1 = .ok (.ifCond .lt 20, 3) := by decide +kernel
theorem dX7_row_4 : decode cX7_row 4 = .ok (.iload_n 1, 1) := by decide +kernel
theorem dX7_row_5 : decode cX7_row 5 = .ok (.aload_n 0, 1) := by decide +kernel
theorem dX7_row_6 : decode cX7_row 6 = .ok (.getfield 19, 3) := by decide +kernel
theorem dX7_row_9 : decode cX7_row 9 = .ok (.getfield 396, 3) := by decide +kernel
theorem dX7_row_12 : decode cX7_row 12 = .ok (.if_icmp .ge 9, 3) := by decide +kernel
theorem dX7_row_15 : decode cX7_row 15 = .ok (.iload_n 1, 1) := by decide +kernel
theorem dX7_row_16 : decode cX7_row 16 = .ok (.bipush 8, 2) := by decide +kernel
theorem dX7_row_18 : decode cX7_row 18 = .ok (.if_icmp .lt 11, 3) := by decide +kernel
theorem dX7_row_21 : decode cX7_row 21 = .ok (.new 153, 3) := by decide +kernel
theorem dX7_row_24 : decode cX7_row 24 = .ok (.dup, 1) := by decide +kernel
theorem dX7_row_25 : decode cX7_row 25 = .ok (.invokespecial 155, 3) := by decide +kernel
theorem dX7_row_28 : decode cX7_row 28 = .ok (.athrow, 1) := by decide +kernel
theorem dX7_row_29 : decode cX7_row 29 = .ok (.aload_n 0, 1) := by decide +kernel
theorem dX7_row_30 : decode cX7_row 30 = .ok (.getfield 19, 3) := by decide +kernel
theorem dX7_row_33 : decode cX7_row 33 = .ok (.getfield 397, 3) := by decide +kernel
theorem dX7_row_36 : decode cX7_row 36 = .ok (.iload_n 1, 1) := by decide +kernel
theorem dX7_row_37 : decode cX7_row 37 = .ok (.laload, 1) := by decide +kernel
theorem dX7_row_38 : decode cX7_row 38 = .ok (.lreturn, 1) := by decide +kernel
def p_X7_row (F : Nat) (p1 : Int32) (x_told_size : Int32) (f_told_numbers : Nat → Int64) (Post : Int64 → Unit → Prop) (PostX : Prop) : Prop := ((p1 < 0 → PostX) ∧ (¬ p1 < 0 → ((x_told_size ≤ p1 → PostX) ∧ (¬ x_told_size ≤ p1 → ((p1 < (8 : Int32) → (vp_in p1 8 ∧ (Post (f_told_numbers p1.toNatClampNeg) ()))) ∧ (¬ p1 < (8 : Int32) → PostX))))))
set_option maxHeartbeats 4000000 in
set_option maxRecDepth 100000 in
theorem c_X7_row (l : Launch) (D : va_G) (cT : Nat → ClassId) (F : Nat) (h : Nat) (p1 : Int32) (w_text : Value) (q_told : Nat) (w_now : Value) (w_before : Value) (w_trial : Value) (w_past : Value) (w_kept : Value) (w_feltNotes : Value) (w_heardNotes : Value) (w_draws : Value) (w_purrs : Value) (w_alone : Value) (w_nimbers : Value) (w_ways : Value) (w_ruling : Value) (w_spare : Value) (q_told_numbers : Nat) (x_told_size : Int32) (f_told_numbers : Nat → Int64) (Post : Int64 → Unit → Prop) (PostX : Prop) (hfl : l.stackTraces = false) (hg : p_X7_row F p1 x_told_size f_told_numbers Post PostX) : MXl l D cT yX7_row cX7_row 2 (some .long) 6 100 1 6 [.ref h, .int p1] [(h, oX7 w_text (.ref q_told) w_now w_before w_trial w_past w_kept w_feltNotes w_heardNotes w_draws w_purrs w_alone w_nimbers w_ways w_ruling w_spare), (q_told, oX3 (.ref q_told_numbers) (.int x_told_size)), (q_told_numbers, aJ cT 8 f_told_numbers)] Post PostX (fun (u : Unit) => [(h, oX7 w_text (.ref q_told) w_now w_before w_trial w_past w_kept w_feltNotes w_heardNotes w_draws w_purrs w_alone w_nimbers w_ways w_ruling w_spare), (q_told, oX3 (.ref q_told_numbers) (.int x_told_size)), (q_told_numbers, aJ cT 8 f_told_numbers)]) := by
  refine MXl.of (by decide) (Nat.le_of_ble_eq_true rfl) ?_
  intro p e s m below meth c A hA C0 hE htab hr hP hD ls hl
  have hl : lv_has ls 2 [(0, .ref h), (1, .int p1)] := hl
  have hx := C0.x
  have hb := C0.b
  have hS : va_S A s.heap s.heap [] := va_S.rf
  have hP : va_P D cls9 [(h, oX7 w_text (.ref q_told) w_now w_before w_trial w_past w_kept w_feltNotes w_heardNotes w_draws w_purrs w_alone w_nimbers w_ways w_ruling w_spare), (q_told, oX3 (.ref q_told_numbers) (.int x_told_size)), (q_told_numbers, aJ cT 8 f_told_numbers)] s.heap := hP
  have hD : va_D A [(h, oX7 w_text (.ref q_told) w_now w_before w_trial w_past w_kept w_feltNotes w_heardNotes w_draws w_purrs w_alone w_nimbers w_ways w_ruling w_spare), (q_told, oX3 (.ref q_told_numbers) (.int x_told_size)), (q_told_numbers, aJ cT 8 f_told_numbers)] := hD
  unfold p_X7_row at hg
  refine lv_iload_n hx hb dX7_row_0 rfl (lv_at hl 1 rfl) ?_
  refine lv_if_lt (tgt := 21) hx hb dX7_row_1 (by decide) (fun c_1 => ?_) (fun c_1 => ?_)
  · have hg := hg.1 c_1
    exact k_throw C0 hfl hE htab hP hD hS hA hl.1 hg dX7_row_21 dX7_row_24 dX7_row_25 dX7_row_28 (Nat.le_of_ble_eq_true rfl) (Nat.le_of_ble_eq_true rfl) (Nat.le_of_ble_eq_true rfl) (Nat.le_of_ble_eq_true rfl) (Nat.le_of_ble_eq_true rfl) (Nat.le_of_ble_eq_true rfl)
  have hg := hg.2 c_1
  refine lv_iload_n hx hb dX7_row_4 rfl (lv_at hl 1 rfl) ?_
  refine lv_aload_n hx hb dX7_row_5 rfl (lv_at hl 0 rfl) ?_
  refine gf_X7_19 C0 hP 0 rfl rfl dX7_row_6 ?_
  refine gf_X7_396 C0 hP 1 rfl rfl dX7_row_9 ?_
  refine lv_icmp_ge (tgt := 21) hx hb dX7_row_12 (by decide) (fun c_12 => ?_) (fun c_12 => ?_)
  · have hg := hg.1 c_12
    exact k_throw C0 hfl hE htab hP hD hS hA hl.1 hg dX7_row_21 dX7_row_24 dX7_row_25 dX7_row_28 (Nat.le_of_ble_eq_true rfl) (Nat.le_of_ble_eq_true rfl) (Nat.le_of_ble_eq_true rfl) (Nat.le_of_ble_eq_true rfl) (Nat.le_of_ble_eq_true rfl) (Nat.le_of_ble_eq_true rfl)
  have hg := hg.2 c_12
  refine lv_iload_n hx hb dX7_row_15 rfl (lv_at hl 1 rfl) ?_
  refine lv_bipush (v := (8 : Int32)) hx hb dX7_row_16 (by decide) ?_
  refine lv_icmp_lt (tgt := 29) hx hb dX7_row_18 (by decide) (fun c_18 => ?_) (fun c_18 => ?_)
  · have hg := hg.1 c_18
    refine lv_aload_n hx hb dX7_row_29 rfl (lv_at hl 0 rfl) ?_
    refine gf_X7_19 C0 hP 0 rfl rfl dX7_row_30 ?_
    refine gf_X7_397 C0 hP 1 rfl rfl dX7_row_33 ?_
    refine lv_iload_n hx hb dX7_row_36 rfl (lv_at hl 1 rfl) ?_
    obtain ⟨g_37, hg⟩ := hg
    refine k_lald C0 hP 2 rfl g_37 dX7_row_37 ?_
    refine W.widen (k := 1) (n := 6) (Nat.le_of_ble_eq_true rfl) (Nat.le_of_ble_eq_true rfl) ?_
    exact vx_ret (k_lret C0 hr () hg hP hD hS dX7_row_38)
  have hg := hg.2 c_18
  exact k_throw C0 hfl hE htab hP hD hS hA hl.1 hg dX7_row_21 dX7_row_24 dX7_row_25 dX7_row_28 (Nat.le_of_ble_eq_true rfl) (Nat.le_of_ble_eq_true rfl) (Nat.le_of_ble_eq_true rfl) (Nat.le_of_ble_eq_true rfl) (Nat.le_of_ble_eq_true rfl) (Nat.le_of_ble_eq_true rfl)
