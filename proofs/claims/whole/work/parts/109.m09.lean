theorem dX7_years_0 : decode cX7_years 0 = .ok (.iload_n 2, 1) := by decide +kernel
theorem dX7_years_1 : decode cX7_years 1 = .ok (.iconst 1, 1) := by decide +kernel
theorem dX7_years_2 : decode cX7_years 2 = .ok (.if_icmp .lt 9, 3) := by decide +kernel
theorem dX7_years_5 : decode cX7_years 5 = .ok (.iload_n 2, 1) := by decide +kernel
theorem dX7_years_6 : decode cX7_years 6 = .ok (.bipush 60, 2) := by decide +kernel
theorem dX7_years_8 : decode cX7_years 8 = .ok (.if_icmp .le 5, 3) := by decide +kernel
theorem dX7_years_11 : decode cX7_years 11 = .ok (.iconst (-1), 1) := by decide +kernel
theorem dX7_years_12 : decode cX7_years 12 = .ok (.ireturn, 1) := by decide +kernel
theorem dX7_years_13 : decode cX7_years 13 = .ok (.aload_n 0, 1) := by decide +kernel
theorem dX7_years_14 : decode cX7_years 14 = .ok (.getfield 33, 3) := by decide +kernel
theorem dX7_years_17 : decode cX7_years 17 = .ok (.aload_n 0, 1) := by decide +kernel
theorem dX7_years_18 : decode cX7_years 18 = .ok (.getfield 26, 3) := by decide +kernel
theorem dX7_years_21 : decode cX7_years 21 = .ok (.invokevirtual 191, 3) := by decide +kernel
theorem dX7_years_24 : decode cX7_years 24 = .ok (.aload_n 0, 1) := by decide +kernel
theorem dX7_years_25 : decode cX7_years 25 = .ok (.getfield 62, 3) := by decide +kernel
theorem dX7_years_28 : decode cX7_years 28 = .ok (.iload_n 1, 1) := by decide +kernel
theorem dX7_years_29 : decode cX7_years 29 = .ok (.putfield 378, 3) := by decide +kernel
theorem dX7_years_32 : decode cX7_years 32 = .ok (.iconst 0, 1) := by decide +kernel
theorem dX7_years_33 : decode cX7_years 33 = .ok (.istore_n 3, 1) := by decide +kernel
theorem dX7_years_34 : decode cX7_years 34 = .ok (.iconst 0, 1) := by decide +kernel
theorem dX7_years_35 : decode cX7_years 35 = .ok (.istore 4, 2) := by decide +kernel
theorem dX7_years_37 : decode cX7_years 37 = .ok (.iload 4, 2) := by decide +kernel
theorem dX7_years_39 : decode cX7_years 39 = .ok (.iload_n 2, 1) := by decide +kernel
theorem dX7_years_40 : decode cX7_years 40 = .ok (.if_icmp .ge 16, 3) := by decide +kernel
theorem dX7_years_43 : decode cX7_years 43 = .ok (.iload_n 3, 1) := by decide +kernel
theorem dX7_years_44 : decode cX7_years 44 = .ok (.aload_n 0, 1) := by decide +kernel
theorem dX7_years_45 : decode cX7_years 45 = .ok (.invokevirtual 381, 3) := by decide +kernel
theorem dX7_years_48 : decode cX7_years 48 = .ok (.iadd, 1) := by decide +kernel
theorem dX7_years_49 : decode cX7_years 49 = .ok (.istore_n 3, 1) := by decide +kernel
theorem dX7_years_50 : decode cX7_years 50 = .ok (.iinc 4 1, 3) := by decide +kernel
theorem dX7_years_53 : decode cX7_years 53 = .ok (.goto (-16), 3) := by decide +kernel
theorem dX7_years_56 : decode cX7_years 56 = .ok (.aload_n 0, 1) := by decide +kernel
theorem dX7_years_57 : decode cX7_years 57 = .ok (.getfield 19, 3) := by decide +kernel
theorem dX7_years_60 : decode cX7_years 60 = .ok (.invokevirtual 201, 3) := by decide +kernel
theorem dX7_years_63 : decode cX7_years 63 = .ok (.iload_n 3, 1) := by decide +kernel
theorem dX7_years_64 : decode cX7_years 64 = .ok (.i2l, 1) := by decide +kernel
theorem dX7_years_65 : decode cX7_years 65 = .ok (.invokevirtual 205, 3) := by decide +kernel
theorem dX7_years_68 : decode cX7_years 68 = .ok (.aload_n 0, 1) := by decide +kernel
theorem dX7_years_69 : decode cX7_years 69 = .ok (.getfield 33, 3) := by decide +kernel
theorem dX7_years_72 : decode cX7_years 72 = .ok (.getfield 384, 3) := by decide +kernel
theorem dX7_years_75 : decode cX7_years 75 = .ok (.i2l, 1) := by decide +kernel
theorem dX7_years_76 : decode cX7_years 76 = .ok (.invokevirtual 205, 3) := by decide +kernel
theorem dX7_years_79 : decode cX7_years 79 = .ok (.pop, 1) := by decide +kernel
theorem dX7_years_80 : decode cX7_years 80 = .ok (.aload_n 0, 1) := by decide +kernel
theorem dX7_years_81 : decode cX7_years 81 = .ok (.getfield 33, 3) := by decide +kernel
theorem dX7_years_84 : decode cX7_years 84 = .ok (.invokevirtual 211, 3) := by decide +kernel
theorem dX7_years_87 : decode cX7_years 87 = .ok (.ireturn, 1) := by decide +kernel
noncomputable def p_X7_years_37 (F : Nat) (p2 : Int32) (x_ruling_size : Int32) (f_ruling_steps : Nat → Int32) (f_told_numbers : Nat → Int64) (u_21 : (Int32 × Int32 × Int32 × Int32 × Int32 × (Nat → Int32) × (Nat → Int32) × (Nat → Int32) × (Nat → Int32) × (Nat → Int32) × (Nat → Int32))) (Post : Int32 → (Int32 × Int32 × Int32 × Int32 × Int32 × (Nat → Int32) × (Nat → Int32) × (Nat → Int32) × (Nat → Int32) × (Nat → Int32) × (Nat → Int32) × Int32 × Int32 × (Nat → Int32) × Int32 × (Nat → Int64)) → Prop) (n : Nat) : Int32 → Int32 → Int32 → Int32 → Int32 → (Nat → Int32) → (Nat → Int32) → (Nat → Int32) → (Nat → Int32) → Int32 → Int32 → (Nat → Int32) → Prop := Nat.rec (motive := fun _ => Int32 → Int32 → Int32 → Int32 → Int32 → (Nat → Int32) → (Nat → Int32) → (Nat → Int32) → (Nat → Int32) → Int32 → Int32 → (Nat → Int32) → Prop) (fun _ _ _ _ _ _ _ _ _ _ _ _ => False) (fun _ k37 => fun (y4_37 : Int32) (y3_37 : Int32) (x_trial_store_37 : Int32) (x_trial_hour_37 : Int32) (x_trial_drops_37 : Int32) (f_trial_sag_37 : Nat → Int32) (f_trial_joy_37 : Nat → Int32) (f_trial_bowl_37 : Nat → Int32) (f_trial_grief_37 : Nat → Int32) (x_draws_last_37 : Int32) (x_ruling_top_37 : Int32) (f_ruling_stack_37 : Nat → Int32) => ((p2 ≤ y4_37 → (p_X3_anew F (fun (u_60 : Int32) => (p_X3_add F (y3_37.toInt64) u_60 f_told_numbers (fun (u_65 : (Int32 × (Nat → Int64))) => (p_X3_add F (x_trial_store_37.toInt64) u_65.1 u_65.2 (fun (u_76 : (Int32 × (Nat → Int64))) => (p_X6_allSags F u_21.1 f_trial_sag_37 (fun (r_84 : Int32) => (Post r_84 (u_21.1, u_21.2.1, x_trial_store_37, x_trial_hour_37, x_trial_drops_37, u_21.2.2.2.2.2.1, f_trial_sag_37, f_trial_joy_37, f_trial_bowl_37, f_trial_grief_37, u_21.2.2.2.2.2.2.2.2.2.2, x_draws_last_37, x_ruling_top_37, f_ruling_stack_37, u_76.1, u_76.2))))))))))) ∧ (¬ p2 ≤ y4_37 → (p_X7_drawnAct F x_draws_last_37 u_21.1 u_21.2.1 x_trial_store_37 x_trial_hour_37 x_trial_drops_37 x_ruling_size x_ruling_top_37 u_21.2.2.2.2.2.1 u_21.2.2.2.2.2.2.2.2.2.2 f_ruling_steps f_ruling_stack_37 f_trial_sag_37 f_trial_joy_37 f_trial_grief_37 f_trial_bowl_37 (fun (r_45 : Int32) (u_45 : (Int32 × Int32 × Int32 × Int32 × Int32 × (Nat → Int32) × (Nat → Int32) × (Nat → Int32) × (Nat → Int32) × (Nat → Int32))) => (k37 (y4_37 + (1 : Int32)) (y3_37 + r_45) u_45.2.1 u_45.2.2.1 u_45.2.2.2.1 u_45.2.2.2.2.2.2.1 u_45.2.2.2.2.2.2.2.1 u_45.2.2.2.2.2.2.2.2.2 u_45.2.2.2.2.2.2.2.2.1 u_45.1 u_45.2.2.2.2.1 u_45.2.2.2.2.2.1)))))) n
theorem p_X7_years_37_s (F : Nat) (p2 : Int32) (x_ruling_size : Int32) (f_ruling_steps : Nat → Int32) (f_told_numbers : Nat → Int64) (u_21 : (Int32 × Int32 × Int32 × Int32 × Int32 × (Nat → Int32) × (Nat → Int32) × (Nat → Int32) × (Nat → Int32) × (Nat → Int32) × (Nat → Int32))) (Post : Int32 → (Int32 × Int32 × Int32 × Int32 × Int32 × (Nat → Int32) × (Nat → Int32) × (Nat → Int32) × (Nat → Int32) × (Nat → Int32) × (Nat → Int32) × Int32 × Int32 × (Nat → Int32) × Int32 × (Nat → Int64)) → Prop) (n : Nat) (y4_37 : Int32) (y3_37 : Int32) (x_trial_store_37 : Int32) (x_trial_hour_37 : Int32) (x_trial_drops_37 : Int32) (f_trial_sag_37 : Nat → Int32) (f_trial_joy_37 : Nat → Int32) (f_trial_bowl_37 : Nat → Int32) (f_trial_grief_37 : Nat → Int32) (x_draws_last_37 : Int32) (x_ruling_top_37 : Int32) (f_ruling_stack_37 : Nat → Int32) : p_X7_years_37 F p2 x_ruling_size f_ruling_steps f_told_numbers u_21 Post (n + 1) y4_37 y3_37 x_trial_store_37 x_trial_hour_37 x_trial_drops_37 f_trial_sag_37 f_trial_joy_37 f_trial_bowl_37 f_trial_grief_37 x_draws_last_37 x_ruling_top_37 f_ruling_stack_37 = ((p2 ≤ y4_37 → (p_X3_anew F (fun (u_60 : Int32) => (p_X3_add F (y3_37.toInt64) u_60 f_told_numbers (fun (u_65 : (Int32 × (Nat → Int64))) => (p_X3_add F (x_trial_store_37.toInt64) u_65.1 u_65.2 (fun (u_76 : (Int32 × (Nat → Int64))) => (p_X6_allSags F u_21.1 f_trial_sag_37 (fun (r_84 : Int32) => (Post r_84 (u_21.1, u_21.2.1, x_trial_store_37, x_trial_hour_37, x_trial_drops_37, u_21.2.2.2.2.2.1, f_trial_sag_37, f_trial_joy_37, f_trial_bowl_37, f_trial_grief_37, u_21.2.2.2.2.2.2.2.2.2.2, x_draws_last_37, x_ruling_top_37, f_ruling_stack_37, u_76.1, u_76.2))))))))))) ∧ (¬ p2 ≤ y4_37 → (p_X7_drawnAct F x_draws_last_37 u_21.1 u_21.2.1 x_trial_store_37 x_trial_hour_37 x_trial_drops_37 x_ruling_size x_ruling_top_37 u_21.2.2.2.2.2.1 u_21.2.2.2.2.2.2.2.2.2.2 f_ruling_steps f_ruling_stack_37 f_trial_sag_37 f_trial_joy_37 f_trial_grief_37 f_trial_bowl_37 (fun (r_45 : Int32) (u_45 : (Int32 × Int32 × Int32 × Int32 × Int32 × (Nat → Int32) × (Nat → Int32) × (Nat → Int32) × (Nat → Int32) × (Nat → Int32))) => ((p_X7_years_37 F p2 x_ruling_size f_ruling_steps f_told_numbers u_21 Post n) (y4_37 + (1 : Int32)) (y3_37 + r_45) u_45.2.1 u_45.2.2.1 u_45.2.2.2.1 u_45.2.2.2.2.2.2.1 u_45.2.2.2.2.2.2.2.1 u_45.2.2.2.2.2.2.2.2.2 u_45.2.2.2.2.2.2.2.2.1 u_45.1 u_45.2.2.2.2.1 u_45.2.2.2.2.2.1))))) := rfl
def p_X7_years (F : Nat) (p1 : Int32) (p2 : Int32) (x_now_arches : Int32) (x_now_cats : Int32) (x_now_store : Int32) (x_now_hour : Int32) (x_now_drops : Int32) (x_trial_arches : Int32) (x_trial_cats : Int32) (x_trial_store : Int32) (x_trial_hour : Int32) (x_trial_drops : Int32) (f_now_load : Nat → Int32) (f_trial_load : Nat → Int32) (f_now_sag : Nat → Int32) (f_trial_sag : Nat → Int32) (f_now_joy : Nat → Int32) (f_trial_joy : Nat → Int32) (f_now_bowl : Nat → Int32) (f_trial_bowl : Nat → Int32) (f_now_grief : Nat → Int32) (f_trial_grief : Nat → Int32) (f_now_place : Nat → Int32) (f_trial_place : Nat → Int32) (x_draws_last : Int32) (x_ruling_size : Int32) (x_ruling_top : Int32) (f_ruling_steps : Nat → Int32) (f_ruling_stack : Nat → Int32) (x_told_size : Int32) (f_told_numbers : Nat → Int64) (Post : Int32 → (Int32 × Int32 × Int32 × Int32 × Int32 × (Nat → Int32) × (Nat → Int32) × (Nat → Int32) × (Nat → Int32) × (Nat → Int32) × (Nat → Int32) × Int32 × Int32 × (Nat → Int32) × Int32 × (Nat → Int64)) → Prop) : Prop := ((p2 < (1 : Int32) → (Post (-1 : Int32) (x_trial_arches, x_trial_cats, x_trial_store, x_trial_hour, x_trial_drops, f_trial_load, f_trial_sag, f_trial_joy, f_trial_bowl, f_trial_grief, f_trial_place, x_draws_last, x_ruling_top, f_ruling_stack, x_told_size, f_told_numbers))) ∧ (¬ p2 < (1 : Int32) → ((p2 ≤ (60 : Int32) → (p_X6_become F x_now_arches x_now_cats x_now_store x_now_hour x_now_drops f_now_load f_trial_load f_now_sag f_trial_sag f_now_joy f_trial_joy f_now_bowl f_trial_bowl f_now_grief f_trial_grief f_now_place f_trial_place (fun (u_21 : (Int32 × Int32 × Int32 × Int32 × Int32 × (Nat → Int32) × (Nat → Int32) × (Nat → Int32) × (Nat → Int32) × (Nat → Int32) × (Nat → Int32))) => (p_X7_years_37 F p2 x_ruling_size f_ruling_steps f_told_numbers u_21 Post F (0 : Int32) (0 : Int32) u_21.2.2.1 u_21.2.2.2.1 u_21.2.2.2.2.1 u_21.2.2.2.2.2.2.1 u_21.2.2.2.2.2.2.2.1 u_21.2.2.2.2.2.2.2.2.1 u_21.2.2.2.2.2.2.2.2.2.1 p1 x_ruling_top f_ruling_stack)))) ∧ (¬ p2 ≤ (60 : Int32) → (Post (-1 : Int32) (x_trial_arches, x_trial_cats, x_trial_store, x_trial_hour, x_trial_drops, f_trial_load, f_trial_sag, f_trial_joy, f_trial_bowl, f_trial_grief, f_trial_place, x_draws_last, x_ruling_top, f_ruling_stack, x_told_size, f_told_numbers))))))
set_option maxHeartbeats 4000000 in
set_option maxRecDepth 100000 in
theorem c_X7_years (l : Launch) (D : va_G) (cT : Nat → ClassId) (F : Nat) (h : Nat) (p1 : Int32) (p2 : Int32) (w_text : Value) (q_told : Nat) (q_now : Nat) (w_before : Value) (q_trial : Nat) (w_past : Value) (w_kept : Value) (w_feltNotes : Value) (w_heardNotes : Value) (q_draws : Nat) (w_purrs : Value) (w_alone : Value) (w_nimbers : Value) (w_ways : Value) (q_ruling : Nat) (w_spare : Value) (q_now_load : Nat) (q_now_sag : Nat) (q_now_joy : Nat) (q_now_bowl : Nat) (q_now_grief : Nat) (q_now_place : Nat) (x_now_arches : Int32) (x_now_cats : Int32) (x_now_store : Int32) (x_now_hour : Int32) (x_now_drops : Int32) (q_trial_load : Nat) (q_trial_sag : Nat) (q_trial_joy : Nat) (q_trial_bowl : Nat) (q_trial_grief : Nat) (q_trial_place : Nat) (x_trial_arches : Int32) (x_trial_cats : Int32) (x_trial_store : Int32) (x_trial_hour : Int32) (x_trial_drops : Int32) (f_now_load : Nat → Int32) (f_trial_load : Nat → Int32) (f_now_sag : Nat → Int32) (f_trial_sag : Nat → Int32) (f_now_joy : Nat → Int32) (f_trial_joy : Nat → Int32) (f_now_bowl : Nat → Int32) (f_trial_bowl : Nat → Int32) (f_now_grief : Nat → Int32) (f_trial_grief : Nat → Int32) (f_now_place : Nat → Int32) (f_trial_place : Nat → Int32) (x_draws_last : Int32) (q_ruling_steps : Nat) (q_ruling_stack : Nat) (x_ruling_size : Int32) (x_ruling_top : Int32) (x_ruling_open : Int32) (x_ruling_compared : Int32) (x_ruling_digits : Int32) (x_ruling_wantsThing : Int32) (f_ruling_steps : Nat → Int32) (f_ruling_stack : Nat → Int32) (q_told_numbers : Nat) (x_told_size : Int32) (f_told_numbers : Nat → Int64) (Post : Int32 → (Int32 × Int32 × Int32 × Int32 × Int32 × (Nat → Int32) × (Nat → Int32) × (Nat → Int32) × (Nat → Int32) × (Nat → Int32) × (Nat → Int32) × Int32 × Int32 × (Nat → Int32) × Int32 × (Nat → Int64)) → Prop) (hg : p_X7_years F p1 p2 x_now_arches x_now_cats x_now_store x_now_hour x_now_drops x_trial_arches x_trial_cats x_trial_store x_trial_hour x_trial_drops f_now_load f_trial_load f_now_sag f_trial_sag f_now_joy f_trial_joy f_now_bowl f_trial_bowl f_now_grief f_trial_grief f_now_place f_trial_place x_draws_last x_ruling_size x_ruling_top f_ruling_steps f_ruling_stack x_told_size f_told_numbers Post) : MWi l D cT yX7_years cX7_years 5 (some .int) 6 149 0 0 [.ref h, .int p1, .int p2] [(h, oX7 w_text (.ref q_told) (.ref q_now) w_before (.ref q_trial) w_past w_kept w_feltNotes w_heardNotes (.ref q_draws) w_purrs w_alone w_nimbers w_ways (.ref q_ruling) w_spare), (q_now, oX6 (.ref q_now_load) (.ref q_now_sag) (.ref q_now_joy) (.ref q_now_bowl) (.ref q_now_grief) (.ref q_now_place) (.int x_now_arches) (.int x_now_cats) (.int x_now_store) (.int x_now_hour) (.int x_now_drops)), (q_trial, oX6 (.ref q_trial_load) (.ref q_trial_sag) (.ref q_trial_joy) (.ref q_trial_bowl) (.ref q_trial_grief) (.ref q_trial_place) (.int x_trial_arches) (.int x_trial_cats) (.int x_trial_store) (.int x_trial_hour) (.int x_trial_drops)), (q_now_load, aI cT 6 f_now_load), (q_trial_load, aI cT 6 f_trial_load), (q_now_sag, aI cT 6 f_now_sag), (q_trial_sag, aI cT 6 f_trial_sag), (q_now_joy, aI cT 8 f_now_joy), (q_trial_joy, aI cT 8 f_trial_joy), (q_now_bowl, aI cT 8 f_now_bowl), (q_trial_bowl, aI cT 8 f_trial_bowl), (q_now_grief, aI cT 8 f_now_grief), (q_trial_grief, aI cT 8 f_trial_grief), (q_now_place, aI cT 8 f_now_place), (q_trial_place, aI cT 8 f_trial_place), (q_draws, oX0 (.int x_draws_last)), (q_ruling, oX4 (.ref q_ruling_steps) (.ref q_ruling_stack) (.int x_ruling_size) (.int x_ruling_top) (.int x_ruling_open) (.int x_ruling_compared) (.int x_ruling_digits) (.int x_ruling_wantsThing)), (q_ruling_steps, aI cT 40 f_ruling_steps), (q_ruling_stack, aI cT 40 f_ruling_stack), (q_told, oX3 (.ref q_told_numbers) (.int x_told_size)), (q_told_numbers, aJ cT 8 f_told_numbers)] Post (fun (u : (Int32 × Int32 × Int32 × Int32 × Int32 × (Nat → Int32) × (Nat → Int32) × (Nat → Int32) × (Nat → Int32) × (Nat → Int32) × (Nat → Int32) × Int32 × Int32 × (Nat → Int32) × Int32 × (Nat → Int64))) => [(h, oX7 w_text (.ref q_told) (.ref q_now) w_before (.ref q_trial) w_past w_kept w_feltNotes w_heardNotes (.ref q_draws) w_purrs w_alone w_nimbers w_ways (.ref q_ruling) w_spare), (q_now, oX6 (.ref q_now_load) (.ref q_now_sag) (.ref q_now_joy) (.ref q_now_bowl) (.ref q_now_grief) (.ref q_now_place) (.int x_now_arches) (.int x_now_cats) (.int x_now_store) (.int x_now_hour) (.int x_now_drops)), (q_trial, oX6 (.ref q_trial_load) (.ref q_trial_sag) (.ref q_trial_joy) (.ref q_trial_bowl) (.ref q_trial_grief) (.ref q_trial_place) (.int u.1) (.int u.2.1) (.int u.2.2.1) (.int u.2.2.2.1) (.int u.2.2.2.2.1)), (q_now_load, aI cT 6 f_now_load), (q_trial_load, aI cT 6 u.2.2.2.2.2.1), (q_now_sag, aI cT 6 f_now_sag), (q_trial_sag, aI cT 6 u.2.2.2.2.2.2.1), (q_now_joy, aI cT 8 f_now_joy), (q_trial_joy, aI cT 8 u.2.2.2.2.2.2.2.1), (q_now_bowl, aI cT 8 f_now_bowl), (q_trial_bowl, aI cT 8 u.2.2.2.2.2.2.2.2.1), (q_now_grief, aI cT 8 f_now_grief), (q_trial_grief, aI cT 8 u.2.2.2.2.2.2.2.2.2.1), (q_now_place, aI cT 8 f_now_place), (q_trial_place, aI cT 8 u.2.2.2.2.2.2.2.2.2.2.1), (q_draws, oX0 (.int u.2.2.2.2.2.2.2.2.2.2.2.1)), (q_ruling, oX4 (.ref q_ruling_steps) (.ref q_ruling_stack) (.int x_ruling_size) (.int u.2.2.2.2.2.2.2.2.2.2.2.2.1) (.int x_ruling_open) (.int x_ruling_compared) (.int x_ruling_digits) (.int x_ruling_wantsThing)), (q_ruling_steps, aI cT 40 f_ruling_steps), (q_ruling_stack, aI cT 40 u.2.2.2.2.2.2.2.2.2.2.2.2.2.1), (q_told, oX3 (.ref q_told_numbers) (.int u.2.2.2.2.2.2.2.2.2.2.2.2.2.2.1)), (q_told_numbers, aJ cT 8 u.2.2.2.2.2.2.2.2.2.2.2.2.2.2.2)]) := by
  refine MWi.of (by decide) (Nat.le_of_ble_eq_true rfl) ?_
  intro p e s m below meth c A hA C0 hnm hr hP hD ls hl
  have hl : lv_has ls 5 [(0, .ref h), (1, .int p1), (2, .int p2)] := hl
  have hx := C0.x
  have hb := C0.b
  have hS : va_S A s.heap s.heap [] := va_S.rf
  have hP : va_P D cls9 [(h, oX7 w_text (.ref q_told) (.ref q_now) w_before (.ref q_trial) w_past w_kept w_feltNotes w_heardNotes (.ref q_draws) w_purrs w_alone w_nimbers w_ways (.ref q_ruling) w_spare), (q_now, oX6 (.ref q_now_load) (.ref q_now_sag) (.ref q_now_joy) (.ref q_now_bowl) (.ref q_now_grief) (.ref q_now_place) (.int x_now_arches) (.int x_now_cats) (.int x_now_store) (.int x_now_hour) (.int x_now_drops)), (q_trial, oX6 (.ref q_trial_load) (.ref q_trial_sag) (.ref q_trial_joy) (.ref q_trial_bowl) (.ref q_trial_grief) (.ref q_trial_place) (.int x_trial_arches) (.int x_trial_cats) (.int x_trial_store) (.int x_trial_hour) (.int x_trial_drops)), (q_now_load, aI cT 6 f_now_load), (q_trial_load, aI cT 6 f_trial_load), (q_now_sag, aI cT 6 f_now_sag), (q_trial_sag, aI cT 6 f_trial_sag), (q_now_joy, aI cT 8 f_now_joy), (q_trial_joy, aI cT 8 f_trial_joy), (q_now_bowl, aI cT 8 f_now_bowl), (q_trial_bowl, aI cT 8 f_trial_bowl), (q_now_grief, aI cT 8 f_now_grief), (q_trial_grief, aI cT 8 f_trial_grief), (q_now_place, aI cT 8 f_now_place), (q_trial_place, aI cT 8 f_trial_place), (q_draws, oX0 (.int x_draws_last)), (q_ruling, oX4 (.ref q_ruling_steps) (.ref q_ruling_stack) (.int x_ruling_size) (.int x_ruling_top) (.int x_ruling_open) (.int x_ruling_compared) (.int x_ruling_digits) (.int x_ruling_wantsThing)), (q_ruling_steps, aI cT 40 f_ruling_steps), (q_ruling_stack, aI cT 40 f_ruling_stack), (q_told, oX3 (.ref q_told_numbers) (.int x_told_size)), (q_told_numbers, aJ cT 8 f_told_numbers)] s.heap := hP
  have hD : va_D A [(h, oX7 w_text (.ref q_told) (.ref q_now) w_before (.ref q_trial) w_past w_kept w_feltNotes w_heardNotes (.ref q_draws) w_purrs w_alone w_nimbers w_ways (.ref q_ruling) w_spare), (q_now, oX6 (.ref q_now_load) (.ref q_now_sag) (.ref q_now_joy) (.ref q_now_bowl) (.ref q_now_grief) (.ref q_now_place) (.int x_now_arches) (.int x_now_cats) (.int x_now_store) (.int x_now_hour) (.int x_now_drops)), (q_trial, oX6 (.ref q_trial_load) (.ref q_trial_sag) (.ref q_trial_joy) (.ref q_trial_bowl) (.ref q_trial_grief) (.ref q_trial_place) (.int x_trial_arches) (.int x_trial_cats) (.int x_trial_store) (.int x_trial_hour) (.int x_trial_drops)), (q_now_load, aI cT 6 f_now_load), (q_trial_load, aI cT 6 f_trial_load), (q_now_sag, aI cT 6 f_now_sag), (q_trial_sag, aI cT 6 f_trial_sag), (q_now_joy, aI cT 8 f_now_joy), (q_trial_joy, aI cT 8 f_trial_joy), (q_now_bowl, aI cT 8 f_now_bowl), (q_trial_bowl, aI cT 8 f_trial_bowl), (q_now_grief, aI cT 8 f_now_grief), (q_trial_grief, aI cT 8 f_trial_grief), (q_now_place, aI cT 8 f_now_place), (q_trial_place, aI cT 8 f_trial_place), (q_draws, oX0 (.int x_draws_last)), (q_ruling, oX4 (.ref q_ruling_steps) (.ref q_ruling_stack) (.int x_ruling_size) (.int x_ruling_top) (.int x_ruling_open) (.int x_ruling_compared) (.int x_ruling_digits) (.int x_ruling_wantsThing)), (q_ruling_steps, aI cT 40 f_ruling_steps), (q_ruling_stack, aI cT 40 f_ruling_stack), (q_told, oX3 (.ref q_told_numbers) (.int x_told_size)), (q_told_numbers, aJ cT 8 f_told_numbers)] := hD
  have L37 : ∀ (u_21 : (Int32 × Int32 × Int32 × Int32 × Int32 × (Nat → Int32) × (Nat → Int32) × (Nat → Int32) × (Nat → Int32) × (Nat → Int32) × (Nat → Int32))) (n37 : Nat) (y4_37 : Int32) (y3_37 : Int32) (x_trial_store_37 : Int32) (x_trial_hour_37 : Int32) (x_trial_drops_37 : Int32) (f_trial_sag_37 : Nat → Int32) (f_trial_joy_37 : Nat → Int32) (f_trial_bowl_37 : Nat → Int32) (f_trial_grief_37 : Nat → Int32) (x_draws_last_37 : Int32) (x_ruling_top_37 : Int32) (f_ruling_stack_37 : Nat → Int32) (H : Heap) (locs : List Loc) (ls : Array Slot), p_X7_years_37 F p2 x_ruling_size f_ruling_steps f_told_numbers u_21 Post n37 y4_37 y3_37 x_trial_store_37 x_trial_hour_37 x_trial_drops_37 f_trial_sag_37 f_trial_joy_37 f_trial_bowl_37 f_trial_grief_37 x_draws_last_37 x_ruling_top_37 f_ruling_stack_37 → va_P D cls9 [(h, oX7 w_text (.ref q_told) (.ref q_now) w_before (.ref q_trial) w_past w_kept w_feltNotes w_heardNotes (.ref q_draws) w_purrs w_alone w_nimbers w_ways (.ref q_ruling) w_spare), (q_now, oX6 (.ref q_now_load) (.ref q_now_sag) (.ref q_now_joy) (.ref q_now_bowl) (.ref q_now_grief) (.ref q_now_place) (.int x_now_arches) (.int x_now_cats) (.int x_now_store) (.int x_now_hour) (.int x_now_drops)), (q_trial, oX6 (.ref q_trial_load) (.ref q_trial_sag) (.ref q_trial_joy) (.ref q_trial_bowl) (.ref q_trial_grief) (.ref q_trial_place) (.int u_21.1) (.int u_21.2.1) (.int x_trial_store_37) (.int x_trial_hour_37) (.int x_trial_drops_37)), (q_now_load, aI cT 6 f_now_load), (q_trial_load, aI cT 6 u_21.2.2.2.2.2.1), (q_now_sag, aI cT 6 f_now_sag), (q_trial_sag, aI cT 6 f_trial_sag_37), (q_now_joy, aI cT 8 f_now_joy), (q_trial_joy, aI cT 8 f_trial_joy_37), (q_now_bowl, aI cT 8 f_now_bowl), (q_trial_bowl, aI cT 8 f_trial_bowl_37), (q_now_grief, aI cT 8 f_now_grief), (q_trial_grief, aI cT 8 f_trial_grief_37), (q_now_place, aI cT 8 f_now_place), (q_trial_place, aI cT 8 u_21.2.2.2.2.2.2.2.2.2.2), (q_draws, oX0 (.int x_draws_last_37)), (q_ruling, oX4 (.ref q_ruling_steps) (.ref q_ruling_stack) (.int x_ruling_size) (.int x_ruling_top_37) (.int x_ruling_open) (.int x_ruling_compared) (.int x_ruling_digits) (.int x_ruling_wantsThing)), (q_ruling_steps, aI cT 40 f_ruling_steps), (q_ruling_stack, aI cT 40 f_ruling_stack_37), (q_told, oX3 (.ref q_told_numbers) (.int x_told_size)), (q_told_numbers, aJ cT 8 f_told_numbers)] H → va_D A [(h, oX7 w_text (.ref q_told) (.ref q_now) w_before (.ref q_trial) w_past w_kept w_feltNotes w_heardNotes (.ref q_draws) w_purrs w_alone w_nimbers w_ways (.ref q_ruling) w_spare), (q_now, oX6 (.ref q_now_load) (.ref q_now_sag) (.ref q_now_joy) (.ref q_now_bowl) (.ref q_now_grief) (.ref q_now_place) (.int x_now_arches) (.int x_now_cats) (.int x_now_store) (.int x_now_hour) (.int x_now_drops)), (q_trial, oX6 (.ref q_trial_load) (.ref q_trial_sag) (.ref q_trial_joy) (.ref q_trial_bowl) (.ref q_trial_grief) (.ref q_trial_place) (.int u_21.1) (.int u_21.2.1) (.int x_trial_store_37) (.int x_trial_hour_37) (.int x_trial_drops_37)), (q_now_load, aI cT 6 f_now_load), (q_trial_load, aI cT 6 u_21.2.2.2.2.2.1), (q_now_sag, aI cT 6 f_now_sag), (q_trial_sag, aI cT 6 f_trial_sag_37), (q_now_joy, aI cT 8 f_now_joy), (q_trial_joy, aI cT 8 f_trial_joy_37), (q_now_bowl, aI cT 8 f_now_bowl), (q_trial_bowl, aI cT 8 f_trial_bowl_37), (q_now_grief, aI cT 8 f_now_grief), (q_trial_grief, aI cT 8 f_trial_grief_37), (q_now_place, aI cT 8 f_now_place), (q_trial_place, aI cT 8 u_21.2.2.2.2.2.2.2.2.2.2), (q_draws, oX0 (.int x_draws_last_37)), (q_ruling, oX4 (.ref q_ruling_steps) (.ref q_ruling_stack) (.int x_ruling_size) (.int x_ruling_top_37) (.int x_ruling_open) (.int x_ruling_compared) (.int x_ruling_digits) (.int x_ruling_wantsThing)), (q_ruling_steps, aI cT 40 f_ruling_steps), (q_ruling_stack, aI cT 40 f_ruling_stack_37), (q_told, oX3 (.ref q_told_numbers) (.int x_told_size)), (q_told_numbers, aJ cT 8 f_told_numbers)] → va_S A s.heap H locs → lv_has ls 5 [(0, .ref h), (2, .int p2), (3, .int y3_37), (4, .int y4_37)] → W p l e (rmO 6 149 0 0) s m ([.ref h, .int p1, .int p2] : List Value).toArray below meth c H locs 0 0 (MQ below (va_Qi Post (cB D A (fun (u : (Int32 × Int32 × Int32 × Int32 × Int32 × (Nat → Int32) × (Nat → Int32) × (Nat → Int32) × (Nat → Int32) × (Nat → Int32) × (Nat → Int32) × Int32 × Int32 × (Nat → Int32) × Int32 × (Nat → Int64))) => [(h, oX7 w_text (.ref q_told) (.ref q_now) w_before (.ref q_trial) w_past w_kept w_feltNotes w_heardNotes (.ref q_draws) w_purrs w_alone w_nimbers w_ways (.ref q_ruling) w_spare), (q_now, oX6 (.ref q_now_load) (.ref q_now_sag) (.ref q_now_joy) (.ref q_now_bowl) (.ref q_now_grief) (.ref q_now_place) (.int x_now_arches) (.int x_now_cats) (.int x_now_store) (.int x_now_hour) (.int x_now_drops)), (q_trial, oX6 (.ref q_trial_load) (.ref q_trial_sag) (.ref q_trial_joy) (.ref q_trial_bowl) (.ref q_trial_grief) (.ref q_trial_place) (.int u.1) (.int u.2.1) (.int u.2.2.1) (.int u.2.2.2.1) (.int u.2.2.2.2.1)), (q_now_load, aI cT 6 f_now_load), (q_trial_load, aI cT 6 u.2.2.2.2.2.1), (q_now_sag, aI cT 6 f_now_sag), (q_trial_sag, aI cT 6 u.2.2.2.2.2.2.1), (q_now_joy, aI cT 8 f_now_joy), (q_trial_joy, aI cT 8 u.2.2.2.2.2.2.2.1), (q_now_bowl, aI cT 8 f_now_bowl), (q_trial_bowl, aI cT 8 u.2.2.2.2.2.2.2.2.1), (q_now_grief, aI cT 8 f_now_grief), (q_trial_grief, aI cT 8 u.2.2.2.2.2.2.2.2.2.1), (q_now_place, aI cT 8 f_now_place), (q_trial_place, aI cT 8 u.2.2.2.2.2.2.2.2.2.2.1), (q_draws, oX0 (.int u.2.2.2.2.2.2.2.2.2.2.2.1)), (q_ruling, oX4 (.ref q_ruling_steps) (.ref q_ruling_stack) (.int x_ruling_size) (.int u.2.2.2.2.2.2.2.2.2.2.2.2.1) (.int x_ruling_open) (.int x_ruling_compared) (.int x_ruling_digits) (.int x_ruling_wantsThing)), (q_ruling_steps, aI cT 40 f_ruling_steps), (q_ruling_stack, aI cT 40 u.2.2.2.2.2.2.2.2.2.2.2.2.2.1), (q_told, oX3 (.ref q_told_numbers) (.int u.2.2.2.2.2.2.2.2.2.2.2.2.2.2.1)), (q_told_numbers, aJ cT 8 u.2.2.2.2.2.2.2.2.2.2.2.2.2.2.2)])) A) ([.ref h, .int p1, .int p2] : List Value).toArray s 0 0 A) (F0 m 37 ls []) := by
    intro u_21 n37
    induction n37 with
    | zero =>
      intro y4_37 y3_37 x_trial_store_37 x_trial_hour_37 x_trial_drops_37 f_trial_sag_37 f_trial_joy_37 f_trial_bowl_37 f_trial_grief_37 x_draws_last_37 x_ruling_top_37 f_ruling_stack_37 H locs ls hg hP hD hS hl
      exact False.elim hg
    | succ n37 ih37 =>
      intro y4_37 y3_37 x_trial_store_37 x_trial_hour_37 x_trial_drops_37 f_trial_sag_37 f_trial_joy_37 f_trial_bowl_37 f_trial_grief_37 x_draws_last_37 x_ruling_top_37 f_ruling_stack_37 H locs ls hg hP hD hS hl
      rw [p_X7_years_37_s] at hg
      refine lv_iload hx hb dX7_years_37 (lv_at hl 3 rfl) ?_
      refine lv_iload_n hx hb dX7_years_39 rfl (lv_at hl 1 rfl) ?_
      refine lv_icmp_ge (tgt := 56) hx hb dX7_years_40 (by decide) (fun c_40 => ?_) (fun c_40 => ?_)
      · have hg := hg.1 c_40
        refine lv_aload_n hx hb dX7_years_56 rfl (lv_at hl 0 rfl) ?_
        refine gf_X7_19 C0 hP 0 rfl rfl dX7_years_57 ?_
        refine k_Vr (rest := []) (wr := [(h, oX7 w_text (.ref q_told) (.ref q_now) w_before (.ref q_trial) w_past w_kept w_feltNotes w_heardNotes (.ref q_draws) w_purrs w_alone w_nimbers w_ways (.ref q_ruling) w_spare), (q_now, oX6 (.ref q_now_load) (.ref q_now_sag) (.ref q_now_joy) (.ref q_now_bowl) (.ref q_now_grief) (.ref q_now_place) (.int x_now_arches) (.int x_now_cats) (.int x_now_store) (.int x_now_hour) (.int x_now_drops)), (q_trial, oX6 (.ref q_trial_load) (.ref q_trial_sag) (.ref q_trial_joy) (.ref q_trial_bowl) (.ref q_trial_grief) (.ref q_trial_place) (.int u_21.1) (.int u_21.2.1) (.int x_trial_store_37) (.int x_trial_hour_37) (.int x_trial_drops_37)), (q_now_load, aI cT 6 f_now_load), (q_trial_load, aI cT 6 u_21.2.2.2.2.2.1), (q_now_sag, aI cT 6 f_now_sag), (q_trial_sag, aI cT 6 f_trial_sag_37), (q_now_joy, aI cT 8 f_now_joy), (q_trial_joy, aI cT 8 f_trial_joy_37), (q_now_bowl, aI cT 8 f_now_bowl), (q_trial_bowl, aI cT 8 f_trial_bowl_37), (q_now_grief, aI cT 8 f_now_grief), (q_trial_grief, aI cT 8 f_trial_grief_37), (q_now_place, aI cT 8 f_now_place), (q_trial_place, aI cT 8 u_21.2.2.2.2.2.2.2.2.2.2), (q_draws, oX0 (.int x_draws_last_37)), (q_ruling, oX4 (.ref q_ruling_steps) (.ref q_ruling_stack) (.int x_ruling_size) (.int x_ruling_top_37) (.int x_ruling_open) (.int x_ruling_compared) (.int x_ruling_digits) (.int x_ruling_wantsThing)), (q_ruling_steps, aI cT 40 f_ruling_steps), (q_ruling_stack, aI cT 40 f_ruling_stack_37), (q_told_numbers, aJ cT 8 f_told_numbers)]) (w2 := fun u_60 => [(h, oX7 w_text (.ref q_told) (.ref q_now) w_before (.ref q_trial) w_past w_kept w_feltNotes w_heardNotes (.ref q_draws) w_purrs w_alone w_nimbers w_ways (.ref q_ruling) w_spare), (q_now, oX6 (.ref q_now_load) (.ref q_now_sag) (.ref q_now_joy) (.ref q_now_bowl) (.ref q_now_grief) (.ref q_now_place) (.int x_now_arches) (.int x_now_cats) (.int x_now_store) (.int x_now_hour) (.int x_now_drops)), (q_trial, oX6 (.ref q_trial_load) (.ref q_trial_sag) (.ref q_trial_joy) (.ref q_trial_bowl) (.ref q_trial_grief) (.ref q_trial_place) (.int u_21.1) (.int u_21.2.1) (.int x_trial_store_37) (.int x_trial_hour_37) (.int x_trial_drops_37)), (q_now_load, aI cT 6 f_now_load), (q_trial_load, aI cT 6 u_21.2.2.2.2.2.1), (q_now_sag, aI cT 6 f_now_sag), (q_trial_sag, aI cT 6 f_trial_sag_37), (q_now_joy, aI cT 8 f_now_joy), (q_trial_joy, aI cT 8 f_trial_joy_37), (q_now_bowl, aI cT 8 f_now_bowl), (q_trial_bowl, aI cT 8 f_trial_bowl_37), (q_now_grief, aI cT 8 f_now_grief), (q_trial_grief, aI cT 8 f_trial_grief_37), (q_now_place, aI cT 8 f_now_place), (q_trial_place, aI cT 8 u_21.2.2.2.2.2.2.2.2.2.2), (q_draws, oX0 (.int x_draws_last_37)), (q_ruling, oX4 (.ref q_ruling_steps) (.ref q_ruling_stack) (.int x_ruling_size) (.int x_ruling_top_37) (.int x_ruling_open) (.int x_ruling_compared) (.int x_ruling_digits) (.int x_ruling_wantsThing)), (q_ruling_steps, aI cT 40 f_ruling_steps), (q_ruling_stack, aI cT 40 f_ruling_stack_37), (q_told_numbers, aJ cT 8 f_told_numbers), (q_told, oX3 (.ref q_told_numbers) (.int u_60))]) C0 lk_X7_201 (c_X3_anew l D cT F q_told (.ref q_told_numbers) x_told_size _ hg) hP hD hS hA [19] [0, 1, 2, 3, 4, 5, 6, 7, 8, 9, 10, 11, 12, 13, 14, 15, 16, 17, 18, 20] (by decide +kernel) rfl rfl (fun _ => rfl) rfl rfl ⟨Nat.le_of_ble_eq_true rfl, Nat.le_of_ble_eq_true rfl⟩ rfl hl.1 rfl (Nat.le_of_ble_eq_true rfl) dX7_years_60 ⟨Nat.le_of_ble_eq_true rfl, Nat.le_of_ble_eq_true rfl⟩ ?_
        intro u_60 H locs hg hP hD hS
        refine lv_iload_n hx hb dX7_years_63 rfl (lv_at hl 2 rfl) ?_
        refine lv_i2l (v := (y3_37.toInt64)) hx hb dX7_years_64 rfl ?_
        refine k_Vr (rest := []) (wr := [(h, oX7 w_text (.ref q_told) (.ref q_now) w_before (.ref q_trial) w_past w_kept w_feltNotes w_heardNotes (.ref q_draws) w_purrs w_alone w_nimbers w_ways (.ref q_ruling) w_spare), (q_now, oX6 (.ref q_now_load) (.ref q_now_sag) (.ref q_now_joy) (.ref q_now_bowl) (.ref q_now_grief) (.ref q_now_place) (.int x_now_arches) (.int x_now_cats) (.int x_now_store) (.int x_now_hour) (.int x_now_drops)), (q_trial, oX6 (.ref q_trial_load) (.ref q_trial_sag) (.ref q_trial_joy) (.ref q_trial_bowl) (.ref q_trial_grief) (.ref q_trial_place) (.int u_21.1) (.int u_21.2.1) (.int x_trial_store_37) (.int x_trial_hour_37) (.int x_trial_drops_37)), (q_now_load, aI cT 6 f_now_load), (q_trial_load, aI cT 6 u_21.2.2.2.2.2.1), (q_now_sag, aI cT 6 f_now_sag), (q_trial_sag, aI cT 6 f_trial_sag_37), (q_now_joy, aI cT 8 f_now_joy), (q_trial_joy, aI cT 8 f_trial_joy_37), (q_now_bowl, aI cT 8 f_now_bowl), (q_trial_bowl, aI cT 8 f_trial_bowl_37), (q_now_grief, aI cT 8 f_now_grief), (q_trial_grief, aI cT 8 f_trial_grief_37), (q_now_place, aI cT 8 f_now_place), (q_trial_place, aI cT 8 u_21.2.2.2.2.2.2.2.2.2.2), (q_draws, oX0 (.int x_draws_last_37)), (q_ruling, oX4 (.ref q_ruling_steps) (.ref q_ruling_stack) (.int x_ruling_size) (.int x_ruling_top_37) (.int x_ruling_open) (.int x_ruling_compared) (.int x_ruling_digits) (.int x_ruling_wantsThing)), (q_ruling_steps, aI cT 40 f_ruling_steps), (q_ruling_stack, aI cT 40 f_ruling_stack_37)]) (w2 := fun u_65 => [(h, oX7 w_text (.ref q_told) (.ref q_now) w_before (.ref q_trial) w_past w_kept w_feltNotes w_heardNotes (.ref q_draws) w_purrs w_alone w_nimbers w_ways (.ref q_ruling) w_spare), (q_now, oX6 (.ref q_now_load) (.ref q_now_sag) (.ref q_now_joy) (.ref q_now_bowl) (.ref q_now_grief) (.ref q_now_place) (.int x_now_arches) (.int x_now_cats) (.int x_now_store) (.int x_now_hour) (.int x_now_drops)), (q_trial, oX6 (.ref q_trial_load) (.ref q_trial_sag) (.ref q_trial_joy) (.ref q_trial_bowl) (.ref q_trial_grief) (.ref q_trial_place) (.int u_21.1) (.int u_21.2.1) (.int x_trial_store_37) (.int x_trial_hour_37) (.int x_trial_drops_37)), (q_now_load, aI cT 6 f_now_load), (q_trial_load, aI cT 6 u_21.2.2.2.2.2.1), (q_now_sag, aI cT 6 f_now_sag), (q_trial_sag, aI cT 6 f_trial_sag_37), (q_now_joy, aI cT 8 f_now_joy), (q_trial_joy, aI cT 8 f_trial_joy_37), (q_now_bowl, aI cT 8 f_now_bowl), (q_trial_bowl, aI cT 8 f_trial_bowl_37), (q_now_grief, aI cT 8 f_now_grief), (q_trial_grief, aI cT 8 f_trial_grief_37), (q_now_place, aI cT 8 f_now_place), (q_trial_place, aI cT 8 u_21.2.2.2.2.2.2.2.2.2.2), (q_draws, oX0 (.int x_draws_last_37)), (q_ruling, oX4 (.ref q_ruling_steps) (.ref q_ruling_stack) (.int x_ruling_size) (.int x_ruling_top_37) (.int x_ruling_open) (.int x_ruling_compared) (.int x_ruling_digits) (.int x_ruling_wantsThing)), (q_ruling_steps, aI cT 40 f_ruling_steps), (q_ruling_stack, aI cT 40 f_ruling_stack_37), (q_told, oX3 (.ref q_told_numbers) (.int u_65.1)), (q_told_numbers, aJ cT 8 u_65.2)]) C0 lk_X7_205 (c_X3_add l D cT F q_told (y3_37.toInt64) q_told_numbers u_60 f_told_numbers _ hg) hP hD hS hA [20, 19] [0, 1, 2, 3, 4, 5, 6, 7, 8, 9, 10, 11, 12, 13, 14, 15, 16, 17, 18] (by decide +kernel) rfl rfl (fun _ => rfl) rfl rfl ⟨Nat.le_of_ble_eq_true rfl, Nat.le_of_ble_eq_true rfl⟩ rfl hl.1 rfl (Nat.le_of_ble_eq_true rfl) dX7_years_65 ⟨Nat.le_of_ble_eq_true rfl, Nat.le_of_ble_eq_true rfl⟩ ?_
        intro u_65 H locs hg hP hD hS
        refine lv_aload_n hx hb dX7_years_68 rfl (lv_at hl 0 rfl) ?_
        refine gf_X7_33 C0 hP 0 rfl rfl dX7_years_69 ?_
        refine gf_X7_384 C0 hP 2 rfl rfl dX7_years_72 ?_
        refine lv_i2l (v := (x_trial_store_37.toInt64)) hx hb dX7_years_75 rfl ?_
        refine k_Vr (rest := []) (wr := [(h, oX7 w_text (.ref q_told) (.ref q_now) w_before (.ref q_trial) w_past w_kept w_feltNotes w_heardNotes (.ref q_draws) w_purrs w_alone w_nimbers w_ways (.ref q_ruling) w_spare), (q_now, oX6 (.ref q_now_load) (.ref q_now_sag) (.ref q_now_joy) (.ref q_now_bowl) (.ref q_now_grief) (.ref q_now_place) (.int x_now_arches) (.int x_now_cats) (.int x_now_store) (.int x_now_hour) (.int x_now_drops)), (q_trial, oX6 (.ref q_trial_load) (.ref q_trial_sag) (.ref q_trial_joy) (.ref q_trial_bowl) (.ref q_trial_grief) (.ref q_trial_place) (.int u_21.1) (.int u_21.2.1) (.int x_trial_store_37) (.int x_trial_hour_37) (.int x_trial_drops_37)), (q_now_load, aI cT 6 f_now_load), (q_trial_load, aI cT 6 u_21.2.2.2.2.2.1), (q_now_sag, aI cT 6 f_now_sag), (q_trial_sag, aI cT 6 f_trial_sag_37), (q_now_joy, aI cT 8 f_now_joy), (q_trial_joy, aI cT 8 f_trial_joy_37), (q_now_bowl, aI cT 8 f_now_bowl), (q_trial_bowl, aI cT 8 f_trial_bowl_37), (q_now_grief, aI cT 8 f_now_grief), (q_trial_grief, aI cT 8 f_trial_grief_37), (q_now_place, aI cT 8 f_now_place), (q_trial_place, aI cT 8 u_21.2.2.2.2.2.2.2.2.2.2), (q_draws, oX0 (.int x_draws_last_37)), (q_ruling, oX4 (.ref q_ruling_steps) (.ref q_ruling_stack) (.int x_ruling_size) (.int x_ruling_top_37) (.int x_ruling_open) (.int x_ruling_compared) (.int x_ruling_digits) (.int x_ruling_wantsThing)), (q_ruling_steps, aI cT 40 f_ruling_steps), (q_ruling_stack, aI cT 40 f_ruling_stack_37)]) (w2 := fun u_76 => [(h, oX7 w_text (.ref q_told) (.ref q_now) w_before (.ref q_trial) w_past w_kept w_feltNotes w_heardNotes (.ref q_draws) w_purrs w_alone w_nimbers w_ways (.ref q_ruling) w_spare), (q_now, oX6 (.ref q_now_load) (.ref q_now_sag) (.ref q_now_joy) (.ref q_now_bowl) (.ref q_now_grief) (.ref q_now_place) (.int x_now_arches) (.int x_now_cats) (.int x_now_store) (.int x_now_hour) (.int x_now_drops)), (q_trial, oX6 (.ref q_trial_load) (.ref q_trial_sag) (.ref q_trial_joy) (.ref q_trial_bowl) (.ref q_trial_grief) (.ref q_trial_place) (.int u_21.1) (.int u_21.2.1) (.int x_trial_store_37) (.int x_trial_hour_37) (.int x_trial_drops_37)), (q_now_load, aI cT 6 f_now_load), (q_trial_load, aI cT 6 u_21.2.2.2.2.2.1), (q_now_sag, aI cT 6 f_now_sag), (q_trial_sag, aI cT 6 f_trial_sag_37), (q_now_joy, aI cT 8 f_now_joy), (q_trial_joy, aI cT 8 f_trial_joy_37), (q_now_bowl, aI cT 8 f_now_bowl), (q_trial_bowl, aI cT 8 f_trial_bowl_37), (q_now_grief, aI cT 8 f_now_grief), (q_trial_grief, aI cT 8 f_trial_grief_37), (q_now_place, aI cT 8 f_now_place), (q_trial_place, aI cT 8 u_21.2.2.2.2.2.2.2.2.2.2), (q_draws, oX0 (.int x_draws_last_37)), (q_ruling, oX4 (.ref q_ruling_steps) (.ref q_ruling_stack) (.int x_ruling_size) (.int x_ruling_top_37) (.int x_ruling_open) (.int x_ruling_compared) (.int x_ruling_digits) (.int x_ruling_wantsThing)), (q_ruling_steps, aI cT 40 f_ruling_steps), (q_ruling_stack, aI cT 40 f_ruling_stack_37), (q_told, oX3 (.ref q_told_numbers) (.int u_76.1)), (q_told_numbers, aJ cT 8 u_76.2)]) C0 lk_X7_205 (c_X3_add l D cT F q_told (x_trial_store_37.toInt64) q_told_numbers u_65.1 u_65.2 _ hg) hP hD hS hA [19, 20] [0, 1, 2, 3, 4, 5, 6, 7, 8, 9, 10, 11, 12, 13, 14, 15, 16, 17, 18] (by decide +kernel) rfl rfl (fun _ => rfl) rfl rfl ⟨Nat.le_of_ble_eq_true rfl, Nat.le_of_ble_eq_true rfl⟩ rfl hl.1 rfl (Nat.le_of_ble_eq_true rfl) dX7_years_76 ⟨Nat.le_of_ble_eq_true rfl, Nat.le_of_ble_eq_true rfl⟩ ?_
        intro u_76 H locs hg hP hD hS
        refine lv_pop hx hb dX7_years_79 rfl ?_
        refine lv_aload_n hx hb dX7_years_80 rfl (lv_at hl 0 rfl) ?_
        refine gf_X7_33 C0 hP 0 rfl rfl dX7_years_81 ?_
        refine k_Vxi (rest := []) C0 lk_X7_211 (c_X6_allSags l D cT F q_trial (.ref q_trial_load) q_trial_sag (.ref q_trial_joy) (.ref q_trial_bowl) (.ref q_trial_grief) (.ref q_trial_place) u_21.1 u_21.2.1 x_trial_store_37 x_trial_hour_37 x_trial_drops_37 f_trial_sag_37 _ hg) hP hD hS hA [2, 6] (by decide +kernel) rfl rfl rfl ⟨Nat.le_of_ble_eq_true rfl, Nat.le_of_ble_eq_true rfl⟩ rfl hl.1 rfl (Nat.le_of_ble_eq_true rfl) dX7_years_84 ⟨Nat.le_of_ble_eq_true rfl, Nat.le_of_ble_eq_true rfl⟩ (fun r_84 hg => ?_)
        exact k_iret C0 hr (u_21.1, u_21.2.1, x_trial_store_37, x_trial_hour_37, x_trial_drops_37, u_21.2.2.2.2.2.1, f_trial_sag_37, f_trial_joy_37, f_trial_bowl_37, f_trial_grief_37, u_21.2.2.2.2.2.2.2.2.2.2, x_draws_last_37, x_ruling_top_37, f_ruling_stack_37, u_76.1, u_76.2) hg hP hD hS dX7_years_87
      have hg := hg.2 c_40
      refine lv_iload_n hx hb dX7_years_43 rfl (lv_at hl 2 rfl) ?_
      refine lv_aload_n hx hb dX7_years_44 rfl (lv_at hl 0 rfl) ?_
      refine k_Vi (rest := [.int y3_37]) (wr := [(q_now, oX6 (.ref q_now_load) (.ref q_now_sag) (.ref q_now_joy) (.ref q_now_bowl) (.ref q_now_grief) (.ref q_now_place) (.int x_now_arches) (.int x_now_cats) (.int x_now_store) (.int x_now_hour) (.int x_now_drops)), (q_now_load, aI cT 6 f_now_load), (q_now_sag, aI cT 6 f_now_sag), (q_now_joy, aI cT 8 f_now_joy), (q_now_bowl, aI cT 8 f_now_bowl), (q_now_grief, aI cT 8 f_now_grief), (q_now_place, aI cT 8 f_now_place), (q_told, oX3 (.ref q_told_numbers) (.int x_told_size)), (q_told_numbers, aJ cT 8 f_told_numbers)]) (w2 := fun u_45 => [(q_now, oX6 (.ref q_now_load) (.ref q_now_sag) (.ref q_now_joy) (.ref q_now_bowl) (.ref q_now_grief) (.ref q_now_place) (.int x_now_arches) (.int x_now_cats) (.int x_now_store) (.int x_now_hour) (.int x_now_drops)), (q_now_load, aI cT 6 f_now_load), (q_now_sag, aI cT 6 f_now_sag), (q_now_joy, aI cT 8 f_now_joy), (q_now_bowl, aI cT 8 f_now_bowl), (q_now_grief, aI cT 8 f_now_grief), (q_now_place, aI cT 8 f_now_place), (q_told, oX3 (.ref q_told_numbers) (.int x_told_size)), (q_told_numbers, aJ cT 8 f_told_numbers), (h, oX7 w_text (.ref q_told) (.ref q_now) w_before (.ref q_trial) w_past w_kept w_feltNotes w_heardNotes (.ref q_draws) w_purrs w_alone w_nimbers w_ways (.ref q_ruling) w_spare), (q_draws, oX0 (.int u_45.1)), (q_trial, oX6 (.ref q_trial_load) (.ref q_trial_sag) (.ref q_trial_joy) (.ref q_trial_bowl) (.ref q_trial_grief) (.ref q_trial_place) (.int u_21.1) (.int u_21.2.1) (.int u_45.2.1) (.int u_45.2.2.1) (.int u_45.2.2.2.1)), (q_ruling, oX4 (.ref q_ruling_steps) (.ref q_ruling_stack) (.int x_ruling_size) (.int u_45.2.2.2.2.1) (.int x_ruling_open) (.int x_ruling_compared) (.int x_ruling_digits) (.int x_ruling_wantsThing)), (q_trial_load, aI cT 6 u_21.2.2.2.2.2.1), (q_trial_place, aI cT 8 u_21.2.2.2.2.2.2.2.2.2.2), (q_ruling_steps, aI cT 40 f_ruling_steps), (q_ruling_stack, aI cT 40 u_45.2.2.2.2.2.1), (q_trial_sag, aI cT 6 u_45.2.2.2.2.2.2.1), (q_trial_joy, aI cT 8 u_45.2.2.2.2.2.2.2.1), (q_trial_grief, aI cT 8 u_45.2.2.2.2.2.2.2.2.1), (q_trial_bowl, aI cT 8 u_45.2.2.2.2.2.2.2.2.2)]) C0 lk_X7_381 (c_X7_drawnAct l D cT F h w_text (.ref q_told) (.ref q_now) w_before q_trial w_past w_kept w_feltNotes w_heardNotes q_draws w_purrs w_alone w_nimbers w_ways q_ruling w_spare x_draws_last_37 q_trial_load q_trial_sag q_trial_joy q_trial_bowl q_trial_grief q_trial_place u_21.1 u_21.2.1 x_trial_store_37 x_trial_hour_37 x_trial_drops_37 q_ruling_steps q_ruling_stack x_ruling_size x_ruling_top_37 x_ruling_open x_ruling_compared x_ruling_digits x_ruling_wantsThing u_21.2.2.2.2.2.1 u_21.2.2.2.2.2.2.2.2.2.2 f_ruling_steps f_ruling_stack_37 f_trial_sag_37 f_trial_joy_37 f_trial_grief_37 f_trial_bowl_37 _ hg) hP hD hS hA [0, 15, 2, 16, 4, 14, 17, 18, 6, 8, 12, 10] [1, 3, 5, 7, 9, 11, 13, 19, 20] (by decide +kernel) rfl rfl (fun _ => rfl) rfl rfl ⟨Nat.le_of_ble_eq_true rfl, Nat.le_of_ble_eq_true rfl⟩ rfl hl.1 rfl (Nat.le_of_ble_eq_true rfl) dX7_years_45 ⟨Nat.le_of_ble_eq_true rfl, Nat.le_of_ble_eq_true rfl⟩ ?_
      intro r_45 u_45 H locs hg hP hD hS
      refine lv_iadd hx hb dX7_years_48 ?_
      refine lv_istore_n (lv' := [(3, .int (y3_37 + r_45)), (0, .ref h), (2, .int p2), (4, .int y4_37)]) hx hb dX7_years_49 rfl hl (by decide) rfl (fun ls hl => ?_)
      refine lv_iinc (v := (y4_37 + (1 : Int32))) (lv' := [(4, .int (y4_37 + (1 : Int32))), (3, .int (y3_37 + r_45)), (0, .ref h), (2, .int p2)]) hx hb dX7_years_50 hl (k := 3) rfl rfl (by decide) rfl (fun ls hl => ?_)
      refine lv_goto (tgt := 37) hx hb dX7_years_53 (by decide) ?_
      exact ih37 (y4_37 + (1 : Int32)) (y3_37 + r_45) u_45.2.1 u_45.2.2.1 u_45.2.2.2.1 u_45.2.2.2.2.2.2.1 u_45.2.2.2.2.2.2.2.1 u_45.2.2.2.2.2.2.2.2.2 u_45.2.2.2.2.2.2.2.2.1 u_45.1 u_45.2.2.2.2.1 u_45.2.2.2.2.2.1 _ _ _ hg (subP hP [9, 0, 11, 1, 13, 2, 17, 3, 18, 4, 20, 5, 19, 6, 14, 10, 12, 15, 16, 7, 8] rfl) (hD.sub [9, 0, 11, 1, 13, 2, 17, 3, 18, 4, 20, 5, 19, 6, 14, 10, 12, 15, 16, 7, 8] (nd2_ok _ (by decide +kernel)) rfl) hS (lv_sub hl [2, 3, 1, 0] rfl)
  unfold p_X7_years at hg
  refine lv_iload_n hx hb dX7_years_0 rfl (lv_at hl 2 rfl) ?_
  refine lv_iconst (v := (1 : Int32)) hx hb dX7_years_1 (by decide) ?_
  refine lv_icmp_lt (tgt := 11) hx hb dX7_years_2 (by decide) (fun c_2 => ?_) (fun c_2 => ?_)
  · have hg := hg.1 c_2
    refine lv_iconst (v := (-1 : Int32)) hx hb dX7_years_11 (by decide) ?_
    exact k_iret C0 hr (x_trial_arches, x_trial_cats, x_trial_store, x_trial_hour, x_trial_drops, f_trial_load, f_trial_sag, f_trial_joy, f_trial_bowl, f_trial_grief, f_trial_place, x_draws_last, x_ruling_top, f_ruling_stack, x_told_size, f_told_numbers) hg hP hD hS dX7_years_12
  have hg := hg.2 c_2
  refine lv_iload_n hx hb dX7_years_5 rfl (lv_at hl 2 rfl) ?_
  refine lv_bipush (v := (60 : Int32)) hx hb dX7_years_6 (by decide) ?_
  refine lv_icmp_le (tgt := 13) hx hb dX7_years_8 (by decide) (fun c_8 => ?_) (fun c_8 => ?_)
  · have hg := hg.1 c_8
    refine lv_aload_n hx hb dX7_years_13 rfl (lv_at hl 0 rfl) ?_
    refine gf_X7_33 C0 hP 0 rfl rfl dX7_years_14 ?_
    refine lv_aload_n hx hb dX7_years_17 rfl (lv_at hl 0 rfl) ?_
    refine gf_X7_26 C0 hP 0 rfl rfl dX7_years_18 ?_
    refine k_Vv (rest := []) (wr := [(h, oX7 w_text (.ref q_told) (.ref q_now) w_before (.ref q_trial) w_past w_kept w_feltNotes w_heardNotes (.ref q_draws) w_purrs w_alone w_nimbers w_ways (.ref q_ruling) w_spare), (q_draws, oX0 (.int x_draws_last)), (q_ruling, oX4 (.ref q_ruling_steps) (.ref q_ruling_stack) (.int x_ruling_size) (.int x_ruling_top) (.int x_ruling_open) (.int x_ruling_compared) (.int x_ruling_digits) (.int x_ruling_wantsThing)), (q_ruling_steps, aI cT 40 f_ruling_steps), (q_ruling_stack, aI cT 40 f_ruling_stack), (q_told, oX3 (.ref q_told_numbers) (.int x_told_size)), (q_told_numbers, aJ cT 8 f_told_numbers)]) (w2 := fun u_21 => [(h, oX7 w_text (.ref q_told) (.ref q_now) w_before (.ref q_trial) w_past w_kept w_feltNotes w_heardNotes (.ref q_draws) w_purrs w_alone w_nimbers w_ways (.ref q_ruling) w_spare), (q_draws, oX0 (.int x_draws_last)), (q_ruling, oX4 (.ref q_ruling_steps) (.ref q_ruling_stack) (.int x_ruling_size) (.int x_ruling_top) (.int x_ruling_open) (.int x_ruling_compared) (.int x_ruling_digits) (.int x_ruling_wantsThing)), (q_ruling_steps, aI cT 40 f_ruling_steps), (q_ruling_stack, aI cT 40 f_ruling_stack), (q_told, oX3 (.ref q_told_numbers) (.int x_told_size)), (q_told_numbers, aJ cT 8 f_told_numbers), (q_trial, oX6 (.ref q_trial_load) (.ref q_trial_sag) (.ref q_trial_joy) (.ref q_trial_bowl) (.ref q_trial_grief) (.ref q_trial_place) (.int u_21.1) (.int u_21.2.1) (.int u_21.2.2.1) (.int u_21.2.2.2.1) (.int u_21.2.2.2.2.1)), (q_now, oX6 (.ref q_now_load) (.ref q_now_sag) (.ref q_now_joy) (.ref q_now_bowl) (.ref q_now_grief) (.ref q_now_place) (.int x_now_arches) (.int x_now_cats) (.int x_now_store) (.int x_now_hour) (.int x_now_drops)), (q_now_load, aI cT 6 f_now_load), (q_trial_load, aI cT 6 u_21.2.2.2.2.2.1), (q_now_sag, aI cT 6 f_now_sag), (q_trial_sag, aI cT 6 u_21.2.2.2.2.2.2.1), (q_now_joy, aI cT 8 f_now_joy), (q_trial_joy, aI cT 8 u_21.2.2.2.2.2.2.2.1), (q_now_bowl, aI cT 8 f_now_bowl), (q_trial_bowl, aI cT 8 u_21.2.2.2.2.2.2.2.2.1), (q_now_grief, aI cT 8 f_now_grief), (q_trial_grief, aI cT 8 u_21.2.2.2.2.2.2.2.2.2.1), (q_now_place, aI cT 8 f_now_place), (q_trial_place, aI cT 8 u_21.2.2.2.2.2.2.2.2.2.2)]) C0 lk_X7_191 (c_X6_become l D cT F q_trial q_now q_trial_load q_trial_sag q_trial_joy q_trial_bowl q_trial_grief q_trial_place x_trial_arches x_trial_cats x_trial_store x_trial_hour x_trial_drops q_now_load q_now_sag q_now_joy q_now_bowl q_now_grief q_now_place x_now_arches x_now_cats x_now_store x_now_hour x_now_drops f_now_load f_trial_load f_now_sag f_trial_sag f_now_joy f_trial_joy f_now_bowl f_trial_bowl f_now_grief f_trial_grief f_now_place f_trial_place _ hg) hP hD hS hA [2, 1, 3, 4, 5, 6, 7, 8, 9, 10, 11, 12, 13, 14] [0, 15, 16, 17, 18, 19, 20] (by decide +kernel) rfl rfl (fun _ => rfl) rfl rfl ⟨Nat.le_of_ble_eq_true rfl, Nat.le_of_ble_eq_true rfl⟩ rfl hl.1 rfl (Nat.le_of_ble_eq_true rfl) dX7_years_21 ⟨Nat.le_of_ble_eq_true rfl, Nat.le_of_ble_eq_true rfl⟩ ?_
    intro u_21 H locs hg hP hD hS
    refine lv_aload_n hx hb dX7_years_24 rfl (lv_at hl 0 rfl) ?_
    refine gf_X7_62 C0 hP 0 rfl rfl dX7_years_25 ?_
    refine lv_iload_n hx hb dX7_years_28 rfl (lv_at hl 1 rfl) ?_
    refine pf_X7_378 C0 hP hD hS 1 rfl (Nat.le_of_ble_eq_true rfl) (ws2 := [(h, oX7 w_text (.ref q_told) (.ref q_now) w_before (.ref q_trial) w_past w_kept w_feltNotes w_heardNotes (.ref q_draws) w_purrs w_alone w_nimbers w_ways (.ref q_ruling) w_spare), (q_draws, oX0 (.int p1)), (q_ruling, oX4 (.ref q_ruling_steps) (.ref q_ruling_stack) (.int x_ruling_size) (.int x_ruling_top) (.int x_ruling_open) (.int x_ruling_compared) (.int x_ruling_digits) (.int x_ruling_wantsThing)), (q_ruling_steps, aI cT 40 f_ruling_steps), (q_ruling_stack, aI cT 40 f_ruling_stack), (q_told, oX3 (.ref q_told_numbers) (.int x_told_size)), (q_told_numbers, aJ cT 8 f_told_numbers), (q_trial, oX6 (.ref q_trial_load) (.ref q_trial_sag) (.ref q_trial_joy) (.ref q_trial_bowl) (.ref q_trial_grief) (.ref q_trial_place) (.int u_21.1) (.int u_21.2.1) (.int u_21.2.2.1) (.int u_21.2.2.2.1) (.int u_21.2.2.2.2.1)), (q_now, oX6 (.ref q_now_load) (.ref q_now_sag) (.ref q_now_joy) (.ref q_now_bowl) (.ref q_now_grief) (.ref q_now_place) (.int x_now_arches) (.int x_now_cats) (.int x_now_store) (.int x_now_hour) (.int x_now_drops)), (q_now_load, aI cT 6 f_now_load), (q_trial_load, aI cT 6 u_21.2.2.2.2.2.1), (q_now_sag, aI cT 6 f_now_sag), (q_trial_sag, aI cT 6 u_21.2.2.2.2.2.2.1), (q_now_joy, aI cT 8 f_now_joy), (q_trial_joy, aI cT 8 u_21.2.2.2.2.2.2.2.1), (q_now_bowl, aI cT 8 f_now_bowl), (q_trial_bowl, aI cT 8 u_21.2.2.2.2.2.2.2.2.1), (q_now_grief, aI cT 8 f_now_grief), (q_trial_grief, aI cT 8 u_21.2.2.2.2.2.2.2.2.2.1), (q_now_place, aI cT 8 f_now_place), (q_trial_place, aI cT 8 u_21.2.2.2.2.2.2.2.2.2.2)]) rfl dX7_years_29 (fun H locs hP hD hS => ?_)
    refine lv_iconst (v := (0 : Int32)) hx hb dX7_years_32 (by decide) ?_
    refine lv_istore_n (lv' := [(3, .int (0 : Int32)), (0, .ref h), (1, .int p1), (2, .int p2)]) hx hb dX7_years_33 rfl hl (by decide) rfl (fun ls hl => ?_)
    refine lv_iconst (v := (0 : Int32)) hx hb dX7_years_34 (by decide) ?_
    refine lv_istore (lv' := [(4, .int (0 : Int32)), (3, .int (0 : Int32)), (0, .ref h), (1, .int p1), (2, .int p2)]) hx hb dX7_years_35 hl (by decide) rfl (fun ls hl => ?_)
    exact L37 u_21 F (0 : Int32) (0 : Int32) u_21.2.2.1 u_21.2.2.2.1 u_21.2.2.2.2.1 u_21.2.2.2.2.2.2.1 u_21.2.2.2.2.2.2.2.1 u_21.2.2.2.2.2.2.2.2.1 u_21.2.2.2.2.2.2.2.2.2.1 p1 x_ruling_top f_ruling_stack _ _ _ hg (subP hP [0, 8, 7, 9, 10, 11, 12, 13, 14, 15, 16, 17, 18, 19, 20, 1, 2, 3, 4, 5, 6] rfl) (hD.sub [0, 8, 7, 9, 10, 11, 12, 13, 14, 15, 16, 17, 18, 19, 20, 1, 2, 3, 4, 5, 6] (nd2_ok _ (by decide +kernel)) rfl) hS (lv_sub hl [2, 4, 1, 0] rfl)
  have hg := hg.2 c_8
  refine lv_iconst (v := (-1 : Int32)) hx hb dX7_years_11 (by decide) ?_
  exact k_iret C0 hr (x_trial_arches, x_trial_cats, x_trial_store, x_trial_hour, x_trial_drops, f_trial_load, f_trial_sag, f_trial_joy, f_trial_bowl, f_trial_grief, f_trial_place, x_draws_last, x_ruling_top, f_ruling_stack, x_told_size, f_told_numbers) hg hP hD hS dX7_years_12
theorem dX7_count_0 : decode cX7_count 0 = .ok (.iload_n 1, 1) := by decide +kernel
theorem dX7_count_1 : decode cX7_count 1 = .ok (.tableswitch 187 0 13 #[71, 79, 87, 95, 103, 111, 119, 127, 135, 147, 155, 163, 171, 179], 71) := by decide +kernel
theorem dX7_count_72 : decode cX7_count 72 = .ok (.aload_n 0, 1) := by decide +kernel
theorem dX7_count_73 : decode cX7_count 73 = .ok (.getfield 26, 3) := by decide +kernel
theorem dX7_count_76 : decode cX7_count 76 = .ok (.getfield 98, 3) := by decide +kernel
theorem dX7_count_79 : decode cX7_count 79 = .ok (.ireturn, 1) := by decide +kernel
theorem dX7_count_80 : decode cX7_count 80 = .ok (.aload_n 0, 1) := by decide +kernel
theorem dX7_count_81 : decode cX7_count 81 = .ok (.getfield 26, 3) := by decide +kernel
theorem dX7_count_84 : decode cX7_count 84 = .ok (.getfield 118, 3) := by decide +kernel
theorem dX7_count_87 : decode cX7_count 87 = .ok (.ireturn, 1) := by decide +kernel
theorem dX7_count_88 : decode cX7_count 88 = .ok (.aload_n 0, 1) := by decide +kernel
theorem dX7_count_89 : decode cX7_count 89 = .ok (.getfield 26, 3) := by decide +kernel
theorem dX7_count_92 : decode cX7_count 92 = .ok (.getfield 390, 3) := by decide +kernel
theorem dX7_count_95 : decode cX7_count 95 = .ok (.ireturn, 1) := by decide +kernel
theorem dX7_count_96 : decode cX7_count 96 = .ok (.aload_n 0, 1) := by decide +kernel
theorem dX7_count_97 : decode cX7_count 97 = .ok (.getfield 26, 3) := by decide +kernel
theorem dX7_count_100 : decode cX7_count 100 = .ok (.getfield 384, 3) := by decide +kernel
theorem dX7_count_103 : decode cX7_count 103 = .ok (.ireturn, 1) := by decide +kernel
theorem dX7_count_104 : decode cX7_count 104 = .ok (.aload_n 0, 1) := by decide +kernel
theorem dX7_count_105 : decode cX7_count 105 = .ok (.getfield 26, 3) := by decide +kernel
theorem dX7_count_108 : decode cX7_count 108 = .ok (.getfield 393, 3) := by decide +kernel
theorem dX7_count_111 : decode cX7_count 111 = .ok (.ireturn, 1) := by decide +kernel
theorem dX7_count_112 : decode cX7_count 112 = .ok (.aload_n 0, 1) := by decide +kernel
theorem dX7_count_113 : decode cX7_count 113 = .ok (.getfield 26, 3) := by decide +kernel
theorem dX7_count_116 : decode cX7_count 116 = .ok (.invokevirtual 211, 3) := by decide +kernel
theorem dX7_count_119 : decode cX7_count 119 = .ok (.ireturn, 1) := by decide +kernel
theorem dX7_count_120 : decode cX7_count 120 = .ok (.aload_n 0, 1) := by decide +kernel
theorem dX7_count_121 : decode cX7_count 121 = .ok (.getfield 26, 3) := by decide +kernel
theorem dX7_count_124 : decode cX7_count 124 = .ok (.invokevirtual 177, 3) := by decide +kernel
theorem dX7_count_127 : decode cX7_count 127 = .ok (.ireturn, 1) := by decide +kernel
theorem dX7_count_128 : decode cX7_count 128 = .ok (.aload_n 0, 1) := by decide +kernel
theorem dX7_count_129 : decode cX7_count 129 = .ok (.getfield 26, 3) := by decide +kernel
theorem dX7_count_132 : decode cX7_count 132 = .ok (.invokevirtual 208, 3) := by decide +kernel
theorem dX7_count_135 : decode cX7_count 135 = .ok (.ireturn, 1) := by decide +kernel
theorem dX7_count_136 : decode cX7_count 136 = .ok (.aload_n 0, 1) := by decide +kernel
theorem dX7_count_137 : decode cX7_count 137 = .ok (.getfield 26, 3) := by decide +kernel
theorem dX7_count_140 : decode cX7_count 140 = .ok (.aload_n 0, 1) := by decide +kernel
theorem dX7_count_141 : decode cX7_count 141 = .ok (.getfield 83, 3) := by decide +kernel
theorem dX7_count_144 : decode cX7_count 144 = .ok (.invokevirtual 267, 3) := by decide +kernel
theorem dX7_count_147 : decode cX7_count 147 = .ok (.ireturn, 1) := by decide +kernel
theorem dX7_count_148 : decode cX7_count 148 = .ok (.aload_n 0, 1) := by decide +kernel
theorem dX7_count_149 : decode cX7_count 149 = .ok (.getfield 52, 3) := by decide +kernel
theorem dX7_count_152 : decode cX7_count 152 = .ok (.getfield 322, 3) := by decide +kernel
theorem dX7_count_155 : decode cX7_count 155 = .ok (.ireturn, 1) := by decide +kernel
theorem dX7_count_156 : decode cX7_count 156 = .ok (.aload_n 0, 1) := by decide +kernel
theorem dX7_count_157 : decode cX7_count 157 = .ok (.getfield 56, 3) := by decide +kernel
theorem dX7_count_160 : decode cX7_count 160 = .ok (.getfield 322, 3) := by decide +kernel
theorem dX7_count_163 : decode cX7_count 163 = .ok (.ireturn, 1) := by decide +kernel
theorem dX7_count_164 : decode cX7_count 164 = .ok (.aload_n 0, 1) := by decide +kernel
theorem dX7_count_165 : decode cX7_count 165 = .ok (.getfield 39, 3) := by decide +kernel
theorem dX7_count_168 : decode cX7_count 168 = .ok (.getfield 125, 3) := by decide +kernel
theorem dX7_count_171 : decode cX7_count 171 = .ok (.ireturn, 1) := by decide +kernel
theorem dX7_count_172 : decode cX7_count 172 = .ok (.aload_n 0, 1) := by decide +kernel
theorem dX7_count_173 : decode cX7_count 173 = .ok (.getfield 19, 3) := by decide +kernel
theorem dX7_count_176 : decode cX7_count 176 = .ok (.getfield 396, 3) := by decide +kernel
theorem dX7_count_179 : decode cX7_count 179 = .ok (.ireturn, 1) := by decide +kernel
theorem dX7_count_180 : decode cX7_count 180 = .ok (.aload_n 0, 1) := by decide +kernel
theorem dX7_count_181 : decode cX7_count 181 = .ok (.getfield 10, 3) := by decide +kernel
theorem dX7_count_184 : decode cX7_count 184 = .ok (.getfield 94, 3) := by decide +kernel
theorem dX7_count_187 : decode cX7_count 187 = .ok (.ireturn, 1) := by decide +kernel
theorem dX7_count_188 : decode cX7_count 188 = .ok (.iconst (-1), 1) := by decide +kernel
theorem dX7_count_189 : decode cX7_count 189 = .ok (.ireturn, 1) := by decide +kernel
def p_X7_count (F : Nat) (p1 : Int32) (x_now_arches : Int32) (x_now_cats : Int32) (x_now_store : Int32) (x_now_hour : Int32) (x_now_drops : Int32) (x_feltNotes_size : Int32) (x_heardNotes_size : Int32) (x_past_size : Int32) (x_told_size : Int32) (x_text_length : Int32) (x_ruling_size : Int32) (x_ruling_top : Int32) (f_now_place : Nat → Int32) (f_ruling_steps : Nat → Int32) (f_ruling_stack : Nat → Int32) (f_now_sag : Nat → Int32) (f_now_load : Nat → Int32) (f_now_joy : Nat → Int32) (f_now_grief : Nat → Int32) (f_now_bowl : Nat → Int32) (Post : Int32 → (Int32 × (Nat → Int32)) → Prop) : Prop := ((p1 = (0 : Int32) → (Post x_now_arches (x_ruling_top, f_ruling_stack))) ∧ (¬ p1 = (0 : Int32) → ((p1 = (1 : Int32) → (Post x_now_cats (x_ruling_top, f_ruling_stack))) ∧ (¬ p1 = (1 : Int32) → ((p1 = (2 : Int32) → (Post x_now_hour (x_ruling_top, f_ruling_stack))) ∧ (¬ p1 = (2 : Int32) → ((p1 = (3 : Int32) → (Post x_now_store (x_ruling_top, f_ruling_stack))) ∧ (¬ p1 = (3 : Int32) → ((p1 = (4 : Int32) → (Post x_now_drops (x_ruling_top, f_ruling_stack))) ∧ (¬ p1 = (4 : Int32) → ((p1 = (5 : Int32) → (p_X6_allSags F x_now_arches f_now_sag (fun (r_116 : Int32) => (Post r_116 (x_ruling_top, f_ruling_stack))))) ∧ (¬ p1 = (5 : Int32) → ((p1 = (6 : Int32) → (p_X6_allLoads F x_now_arches f_now_load (fun (r_124 : Int32) => (Post r_124 (x_ruling_top, f_ruling_stack))))) ∧ (¬ p1 = (6 : Int32) → ((p1 = (7 : Int32) → (p_X6_allJoy F x_now_cats f_now_joy (fun (r_132 : Int32) => (Post r_132 (x_ruling_top, f_ruling_stack))))) ∧ (¬ p1 = (7 : Int32) → ((p1 = (8 : Int32) → (p_X6_allHold F x_now_arches x_now_cats x_now_hour x_ruling_size x_ruling_top f_now_place f_ruling_steps f_ruling_stack f_now_sag f_now_load f_now_joy f_now_grief f_now_bowl (fun (r_144 : Int32) (u_144 : (Int32 × (Nat → Int32))) => (Post r_144 (u_144.1, u_144.2))))) ∧ (¬ p1 = (8 : Int32) → ((p1 = (9 : Int32) → (Post x_feltNotes_size (x_ruling_top, f_ruling_stack))) ∧ (¬ p1 = (9 : Int32) → ((p1 = (10 : Int32) → (Post x_heardNotes_size (x_ruling_top, f_ruling_stack))) ∧ (¬ p1 = (10 : Int32) → ((p1 = (11 : Int32) → (Post x_past_size (x_ruling_top, f_ruling_stack))) ∧ (¬ p1 = (11 : Int32) → ((p1 = (12 : Int32) → (Post x_told_size (x_ruling_top, f_ruling_stack))) ∧ (¬ p1 = (12 : Int32) → ((p1 = (13 : Int32) → (Post x_text_length (x_ruling_top, f_ruling_stack))) ∧ (¬ p1 = (13 : Int32) → (Post (-1 : Int32) (x_ruling_top, f_ruling_stack))))))))))))))))))))))))))))))
set_option maxHeartbeats 4000000 in
set_option maxRecDepth 100000 in
theorem c_X7_count (l : Launch) (D : va_G) (cT : Nat → ClassId) (F : Nat) (h : Nat) (p1 : Int32) (q_text : Nat) (q_told : Nat) (q_now : Nat) (w_before : Value) (w_trial : Value) (q_past : Nat) (w_kept : Value) (q_feltNotes : Nat) (q_heardNotes : Nat) (w_draws : Value) (w_purrs : Value) (w_alone : Value) (w_nimbers : Value) (w_ways : Value) (q_ruling : Nat) (w_spare : Value) (q_now_load : Nat) (q_now_sag : Nat) (q_now_joy : Nat) (q_now_bowl : Nat) (q_now_grief : Nat) (q_now_place : Nat) (x_now_arches : Int32) (x_now_cats : Int32) (x_now_store : Int32) (x_now_hour : Int32) (x_now_drops : Int32) (w_feltNotes_first : Value) (w_feltNotes_second : Value) (x_feltNotes_most : Int32) (x_feltNotes_size : Int32) (w_heardNotes_first : Value) (w_heardNotes_second : Value) (x_heardNotes_most : Int32) (x_heardNotes_size : Int32) (w_past_ring : Value) (x_past_next : Int32) (x_past_size : Int32) (w_told_numbers : Value) (x_told_size : Int32) (w_text_signs : Value) (x_text_length : Int32) (q_ruling_steps : Nat) (q_ruling_stack : Nat) (x_ruling_size : Int32) (x_ruling_top : Int32) (x_ruling_open : Int32) (x_ruling_compared : Int32) (x_ruling_digits : Int32) (x_ruling_wantsThing : Int32) (f_now_place : Nat → Int32) (f_ruling_steps : Nat → Int32) (f_ruling_stack : Nat → Int32) (f_now_sag : Nat → Int32) (f_now_load : Nat → Int32) (f_now_joy : Nat → Int32) (f_now_grief : Nat → Int32) (f_now_bowl : Nat → Int32) (Post : Int32 → (Int32 × (Nat → Int32)) → Prop) (hg : p_X7_count F p1 x_now_arches x_now_cats x_now_store x_now_hour x_now_drops x_feltNotes_size x_heardNotes_size x_past_size x_told_size x_text_length x_ruling_size x_ruling_top f_now_place f_ruling_steps f_ruling_stack f_now_sag f_now_load f_now_joy f_now_grief f_now_bowl Post) : MWi l D cT yX7_count cX7_count 2 (some .int) 6 148 0 0 [.ref h, .int p1] [(h, oX7 (.ref q_text) (.ref q_told) (.ref q_now) w_before w_trial (.ref q_past) w_kept (.ref q_feltNotes) (.ref q_heardNotes) w_draws w_purrs w_alone w_nimbers w_ways (.ref q_ruling) w_spare), (q_now, oX6 (.ref q_now_load) (.ref q_now_sag) (.ref q_now_joy) (.ref q_now_bowl) (.ref q_now_grief) (.ref q_now_place) (.int x_now_arches) (.int x_now_cats) (.int x_now_store) (.int x_now_hour) (.int x_now_drops)), (q_feltNotes, oX1 w_feltNotes_first w_feltNotes_second (.int x_feltNotes_most) (.int x_feltNotes_size)), (q_heardNotes, oX1 w_heardNotes_first w_heardNotes_second (.int x_heardNotes_most) (.int x_heardNotes_size)), (q_past, oX2 w_past_ring (.int x_past_next) (.int x_past_size)), (q_told, oX3 w_told_numbers (.int x_told_size)), (q_text, oX5 w_text_signs (.int x_text_length)), (q_ruling, oX4 (.ref q_ruling_steps) (.ref q_ruling_stack) (.int x_ruling_size) (.int x_ruling_top) (.int x_ruling_open) (.int x_ruling_compared) (.int x_ruling_digits) (.int x_ruling_wantsThing)), (q_now_place, aI cT 8 f_now_place), (q_ruling_steps, aI cT 40 f_ruling_steps), (q_ruling_stack, aI cT 40 f_ruling_stack), (q_now_sag, aI cT 6 f_now_sag), (q_now_load, aI cT 6 f_now_load), (q_now_joy, aI cT 8 f_now_joy), (q_now_grief, aI cT 8 f_now_grief), (q_now_bowl, aI cT 8 f_now_bowl)] Post (fun (u : (Int32 × (Nat → Int32))) => [(h, oX7 (.ref q_text) (.ref q_told) (.ref q_now) w_before w_trial (.ref q_past) w_kept (.ref q_feltNotes) (.ref q_heardNotes) w_draws w_purrs w_alone w_nimbers w_ways (.ref q_ruling) w_spare), (q_now, oX6 (.ref q_now_load) (.ref q_now_sag) (.ref q_now_joy) (.ref q_now_bowl) (.ref q_now_grief) (.ref q_now_place) (.int x_now_arches) (.int x_now_cats) (.int x_now_store) (.int x_now_hour) (.int x_now_drops)), (q_feltNotes, oX1 w_feltNotes_first w_feltNotes_second (.int x_feltNotes_most) (.int x_feltNotes_size)), (q_heardNotes, oX1 w_heardNotes_first w_heardNotes_second (.int x_heardNotes_most) (.int x_heardNotes_size)), (q_past, oX2 w_past_ring (.int x_past_next) (.int x_past_size)), (q_told, oX3 w_told_numbers (.int x_told_size)), (q_text, oX5 w_text_signs (.int x_text_length)), (q_ruling, oX4 (.ref q_ruling_steps) (.ref q_ruling_stack) (.int x_ruling_size) (.int u.1) (.int x_ruling_open) (.int x_ruling_compared) (.int x_ruling_digits) (.int x_ruling_wantsThing)), (q_now_place, aI cT 8 f_now_place), (q_ruling_steps, aI cT 40 f_ruling_steps), (q_ruling_stack, aI cT 40 u.2), (q_now_sag, aI cT 6 f_now_sag), (q_now_load, aI cT 6 f_now_load), (q_now_joy, aI cT 8 f_now_joy), (q_now_grief, aI cT 8 f_now_grief), (q_now_bowl, aI cT 8 f_now_bowl)]) := by
  refine MWi.of (by decide) (Nat.le_of_ble_eq_true rfl) ?_
  intro p e s m below meth c A hA C0 hnm hr hP hD ls hl
  have hl : lv_has ls 2 [(0, .ref h), (1, .int p1)] := hl
  have hx := C0.x
  have hb := C0.b
  have hS : va_S A s.heap s.heap [] := va_S.rf
  have hP : va_P D cls9 [(h, oX7 (.ref q_text) (.ref q_told) (.ref q_now) w_before w_trial (.ref q_past) w_kept (.ref q_feltNotes) (.ref q_heardNotes) w_draws w_purrs w_alone w_nimbers w_ways (.ref q_ruling) w_spare), (q_now, oX6 (.ref q_now_load) (.ref q_now_sag) (.ref q_now_joy) (.ref q_now_bowl) (.ref q_now_grief) (.ref q_now_place) (.int x_now_arches) (.int x_now_cats) (.int x_now_store) (.int x_now_hour) (.int x_now_drops)), (q_feltNotes, oX1 w_feltNotes_first w_feltNotes_second (.int x_feltNotes_most) (.int x_feltNotes_size)), (q_heardNotes, oX1 w_heardNotes_first w_heardNotes_second (.int x_heardNotes_most) (.int x_heardNotes_size)), (q_past, oX2 w_past_ring (.int x_past_next) (.int x_past_size)), (q_told, oX3 w_told_numbers (.int x_told_size)), (q_text, oX5 w_text_signs (.int x_text_length)), (q_ruling, oX4 (.ref q_ruling_steps) (.ref q_ruling_stack) (.int x_ruling_size) (.int x_ruling_top) (.int x_ruling_open) (.int x_ruling_compared) (.int x_ruling_digits) (.int x_ruling_wantsThing)), (q_now_place, aI cT 8 f_now_place), (q_ruling_steps, aI cT 40 f_ruling_steps), (q_ruling_stack, aI cT 40 f_ruling_stack), (q_now_sag, aI cT 6 f_now_sag), (q_now_load, aI cT 6 f_now_load), (q_now_joy, aI cT 8 f_now_joy), (q_now_grief, aI cT 8 f_now_grief), (q_now_bowl, aI cT 8 f_now_bowl)] s.heap := hP
  have hD : va_D A [(h, oX7 (.ref q_text) (.ref q_told) (.ref q_now) w_before w_trial (.ref q_past) w_kept (.ref q_feltNotes) (.ref q_heardNotes) w_draws w_purrs w_alone w_nimbers w_ways (.ref q_ruling) w_spare), (q_now, oX6 (.ref q_now_load) (.ref q_now_sag) (.ref q_now_joy) (.ref q_now_bowl) (.ref q_now_grief) (.ref q_now_place) (.int x_now_arches) (.int x_now_cats) (.int x_now_store) (.int x_now_hour) (.int x_now_drops)), (q_feltNotes, oX1 w_feltNotes_first w_feltNotes_second (.int x_feltNotes_most) (.int x_feltNotes_size)), (q_heardNotes, oX1 w_heardNotes_first w_heardNotes_second (.int x_heardNotes_most) (.int x_heardNotes_size)), (q_past, oX2 w_past_ring (.int x_past_next) (.int x_past_size)), (q_told, oX3 w_told_numbers (.int x_told_size)), (q_text, oX5 w_text_signs (.int x_text_length)), (q_ruling, oX4 (.ref q_ruling_steps) (.ref q_ruling_stack) (.int x_ruling_size) (.int x_ruling_top) (.int x_ruling_open) (.int x_ruling_compared) (.int x_ruling_digits) (.int x_ruling_wantsThing)), (q_now_place, aI cT 8 f_now_place), (q_ruling_steps, aI cT 40 f_ruling_steps), (q_ruling_stack, aI cT 40 f_ruling_stack), (q_now_sag, aI cT 6 f_now_sag), (q_now_load, aI cT 6 f_now_load), (q_now_joy, aI cT 8 f_now_joy), (q_now_grief, aI cT 8 f_now_grief), (q_now_bowl, aI cT 8 f_now_bowl)] := hD
  unfold p_X7_count at hg
  refine lv_iload_n hx hb dX7_count_0 rfl (lv_at hl 1 rfl) ?_
  rcases Classical.em (p1 = (0 : Int32)) with c_1_0 | c_1_0
  · have hg := hg.1 c_1_0
    refine lv_tableIn (tgt := 72) hx hb dX7_count_1 (by rw [c_1_0]; decide) (by rw [c_1_0]; decide) (by rw [c_1_0]; rfl) (by decide) ?_
    refine lv_aload_n hx hb dX7_count_72 rfl (lv_at hl 0 rfl) ?_
    refine gf_X7_26 C0 hP 0 rfl rfl dX7_count_73 ?_
    refine gf_X7_98 C0 hP 1 rfl rfl dX7_count_76 ?_
    exact k_iret C0 hr (x_ruling_top, f_ruling_stack) hg hP hD hS dX7_count_79
  have hg := hg.2 c_1_0
  rcases Classical.em (p1 = (1 : Int32)) with c_1_1 | c_1_1
  · have hg := hg.1 c_1_1
    refine lv_tableIn (tgt := 80) hx hb dX7_count_1 (by rw [c_1_1]; decide) (by rw [c_1_1]; decide) (by rw [c_1_1]; rfl) (by decide) ?_
    refine lv_aload_n hx hb dX7_count_80 rfl (lv_at hl 0 rfl) ?_
    refine gf_X7_26 C0 hP 0 rfl rfl dX7_count_81 ?_
    refine gf_X7_118 C0 hP 1 rfl rfl dX7_count_84 ?_
    exact k_iret C0 hr (x_ruling_top, f_ruling_stack) hg hP hD hS dX7_count_87
  have hg := hg.2 c_1_1
  rcases Classical.em (p1 = (2 : Int32)) with c_1_2 | c_1_2
  · have hg := hg.1 c_1_2
    refine lv_tableIn (tgt := 88) hx hb dX7_count_1 (by rw [c_1_2]; decide) (by rw [c_1_2]; decide) (by rw [c_1_2]; rfl) (by decide) ?_
    refine lv_aload_n hx hb dX7_count_88 rfl (lv_at hl 0 rfl) ?_
    refine gf_X7_26 C0 hP 0 rfl rfl dX7_count_89 ?_
    refine gf_X7_390 C0 hP 1 rfl rfl dX7_count_92 ?_
    exact k_iret C0 hr (x_ruling_top, f_ruling_stack) hg hP hD hS dX7_count_95
  have hg := hg.2 c_1_2
  rcases Classical.em (p1 = (3 : Int32)) with c_1_3 | c_1_3
  · have hg := hg.1 c_1_3
    refine lv_tableIn (tgt := 96) hx hb dX7_count_1 (by rw [c_1_3]; decide) (by rw [c_1_3]; decide) (by rw [c_1_3]; rfl) (by decide) ?_
    refine lv_aload_n hx hb dX7_count_96 rfl (lv_at hl 0 rfl) ?_
    refine gf_X7_26 C0 hP 0 rfl rfl dX7_count_97 ?_
    refine gf_X7_384 C0 hP 1 rfl rfl dX7_count_100 ?_
    exact k_iret C0 hr (x_ruling_top, f_ruling_stack) hg hP hD hS dX7_count_103
  have hg := hg.2 c_1_3
  rcases Classical.em (p1 = (4 : Int32)) with c_1_4 | c_1_4
  · have hg := hg.1 c_1_4
    refine lv_tableIn (tgt := 104) hx hb dX7_count_1 (by rw [c_1_4]; decide) (by rw [c_1_4]; decide) (by rw [c_1_4]; rfl) (by decide) ?_
    refine lv_aload_n hx hb dX7_count_104 rfl (lv_at hl 0 rfl) ?_
    refine gf_X7_26 C0 hP 0 rfl rfl dX7_count_105 ?_
    refine gf_X7_393 C0 hP 1 rfl rfl dX7_count_108 ?_
    exact k_iret C0 hr (x_ruling_top, f_ruling_stack) hg hP hD hS dX7_count_111
  have hg := hg.2 c_1_4
  rcases Classical.em (p1 = (5 : Int32)) with c_1_5 | c_1_5
  · have hg := hg.1 c_1_5
    refine lv_tableIn (tgt := 112) hx hb dX7_count_1 (by rw [c_1_5]; decide) (by rw [c_1_5]; decide) (by rw [c_1_5]; rfl) (by decide) ?_
    refine lv_aload_n hx hb dX7_count_112 rfl (lv_at hl 0 rfl) ?_
    refine gf_X7_26 C0 hP 0 rfl rfl dX7_count_113 ?_
    refine k_Vxi (rest := []) C0 lk_X7_211 (c_X6_allSags l D cT F q_now (.ref q_now_load) q_now_sag (.ref q_now_joy) (.ref q_now_bowl) (.ref q_now_grief) (.ref q_now_place) x_now_arches x_now_cats x_now_store x_now_hour x_now_drops f_now_sag _ hg) hP hD hS hA [1, 11] (by decide +kernel) rfl rfl rfl ⟨Nat.le_of_ble_eq_true rfl, Nat.le_of_ble_eq_true rfl⟩ rfl hl.1 rfl (Nat.le_of_ble_eq_true rfl) dX7_count_116 ⟨Nat.le_of_ble_eq_true rfl, Nat.le_of_ble_eq_true rfl⟩ (fun r_116 hg => ?_)
    exact k_iret C0 hr (x_ruling_top, f_ruling_stack) hg hP hD hS dX7_count_119
  have hg := hg.2 c_1_5
  rcases Classical.em (p1 = (6 : Int32)) with c_1_6 | c_1_6
  · have hg := hg.1 c_1_6
    refine lv_tableIn (tgt := 120) hx hb dX7_count_1 (by rw [c_1_6]; decide) (by rw [c_1_6]; decide) (by rw [c_1_6]; rfl) (by decide) ?_
    refine lv_aload_n hx hb dX7_count_120 rfl (lv_at hl 0 rfl) ?_
    refine gf_X7_26 C0 hP 0 rfl rfl dX7_count_121 ?_
    refine k_Vxi (rest := []) C0 lk_X7_177 (c_X6_allLoads l D cT F q_now q_now_load (.ref q_now_sag) (.ref q_now_joy) (.ref q_now_bowl) (.ref q_now_grief) (.ref q_now_place) x_now_arches x_now_cats x_now_store x_now_hour x_now_drops f_now_load _ hg) hP hD hS hA [1, 12] (by decide +kernel) rfl rfl rfl ⟨Nat.le_of_ble_eq_true rfl, Nat.le_of_ble_eq_true rfl⟩ rfl hl.1 rfl (Nat.le_of_ble_eq_true rfl) dX7_count_124 ⟨Nat.le_of_ble_eq_true rfl, Nat.le_of_ble_eq_true rfl⟩ (fun r_124 hg => ?_)
    exact k_iret C0 hr (x_ruling_top, f_ruling_stack) hg hP hD hS dX7_count_127
  have hg := hg.2 c_1_6
  rcases Classical.em (p1 = (7 : Int32)) with c_1_7 | c_1_7
  · have hg := hg.1 c_1_7
    refine lv_tableIn (tgt := 128) hx hb dX7_count_1 (by rw [c_1_7]; decide) (by rw [c_1_7]; decide) (by rw [c_1_7]; rfl) (by decide) ?_
    refine lv_aload_n hx hb dX7_count_128 rfl (lv_at hl 0 rfl) ?_
    refine gf_X7_26 C0 hP 0 rfl rfl dX7_count_129 ?_
    refine k_Vxi (rest := []) C0 lk_X7_208 (c_X6_allJoy l D cT F q_now (.ref q_now_load) (.ref q_now_sag) q_now_joy (.ref q_now_bowl) (.ref q_now_grief) (.ref q_now_place) x_now_arches x_now_cats x_now_store x_now_hour x_now_drops f_now_joy _ hg) hP hD hS hA [1, 13] (by decide +kernel) rfl rfl rfl ⟨Nat.le_of_ble_eq_true rfl, Nat.le_of_ble_eq_true rfl⟩ rfl hl.1 rfl (Nat.le_of_ble_eq_true rfl) dX7_count_132 ⟨Nat.le_of_ble_eq_true rfl, Nat.le_of_ble_eq_true rfl⟩ (fun r_132 hg => ?_)
    exact k_iret C0 hr (x_ruling_top, f_ruling_stack) hg hP hD hS dX7_count_135
  have hg := hg.2 c_1_7
  rcases Classical.em (p1 = (8 : Int32)) with c_1_8 | c_1_8
  · have hg := hg.1 c_1_8
    refine lv_tableIn (tgt := 136) hx hb dX7_count_1 (by rw [c_1_8]; decide) (by rw [c_1_8]; decide) (by rw [c_1_8]; rfl) (by decide) ?_
    refine lv_aload_n hx hb dX7_count_136 rfl (lv_at hl 0 rfl) ?_
    refine gf_X7_26 C0 hP 0 rfl rfl dX7_count_137 ?_
    refine lv_aload_n hx hb dX7_count_140 rfl (lv_at hl 0 rfl) ?_
    refine gf_X7_83 C0 hP 0 rfl rfl dX7_count_141 ?_
    refine k_Vi (rest := []) (wr := [(h, oX7 (.ref q_text) (.ref q_told) (.ref q_now) w_before w_trial (.ref q_past) w_kept (.ref q_feltNotes) (.ref q_heardNotes) w_draws w_purrs w_alone w_nimbers w_ways (.ref q_ruling) w_spare), (q_feltNotes, oX1 w_feltNotes_first w_feltNotes_second (.int x_feltNotes_most) (.int x_feltNotes_size)), (q_heardNotes, oX1 w_heardNotes_first w_heardNotes_second (.int x_heardNotes_most) (.int x_heardNotes_size)), (q_past, oX2 w_past_ring (.int x_past_next) (.int x_past_size)), (q_told, oX3 w_told_numbers (.int x_told_size)), (q_text, oX5 w_text_signs (.int x_text_length))]) (w2 := fun u_144 => [(h, oX7 (.ref q_text) (.ref q_told) (.ref q_now) w_before w_trial (.ref q_past) w_kept (.ref q_feltNotes) (.ref q_heardNotes) w_draws w_purrs w_alone w_nimbers w_ways (.ref q_ruling) w_spare), (q_feltNotes, oX1 w_feltNotes_first w_feltNotes_second (.int x_feltNotes_most) (.int x_feltNotes_size)), (q_heardNotes, oX1 w_heardNotes_first w_heardNotes_second (.int x_heardNotes_most) (.int x_heardNotes_size)), (q_past, oX2 w_past_ring (.int x_past_next) (.int x_past_size)), (q_told, oX3 w_told_numbers (.int x_told_size)), (q_text, oX5 w_text_signs (.int x_text_length)), (q_now, oX6 (.ref q_now_load) (.ref q_now_sag) (.ref q_now_joy) (.ref q_now_bowl) (.ref q_now_grief) (.ref q_now_place) (.int x_now_arches) (.int x_now_cats) (.int x_now_store) (.int x_now_hour) (.int x_now_drops)), (q_ruling, oX4 (.ref q_ruling_steps) (.ref q_ruling_stack) (.int x_ruling_size) (.int u_144.1) (.int x_ruling_open) (.int x_ruling_compared) (.int x_ruling_digits) (.int x_ruling_wantsThing)), (q_now_place, aI cT 8 f_now_place), (q_ruling_steps, aI cT 40 f_ruling_steps), (q_ruling_stack, aI cT 40 u_144.2), (q_now_sag, aI cT 6 f_now_sag), (q_now_load, aI cT 6 f_now_load), (q_now_joy, aI cT 8 f_now_joy), (q_now_grief, aI cT 8 f_now_grief), (q_now_bowl, aI cT 8 f_now_bowl)]) C0 lk_X7_267 (c_X6_allHold l D cT F q_now q_ruling q_now_load q_now_sag q_now_joy q_now_bowl q_now_grief q_now_place x_now_arches x_now_cats x_now_store x_now_hour x_now_drops q_ruling_steps q_ruling_stack x_ruling_size x_ruling_top x_ruling_open x_ruling_compared x_ruling_digits x_ruling_wantsThing f_now_place f_ruling_steps f_ruling_stack f_now_sag f_now_load f_now_joy f_now_grief f_now_bowl _ hg) hP hD hS hA [1, 7, 8, 9, 10, 11, 12, 13, 14, 15] [0, 2, 3, 4, 5, 6] (by decide +kernel) rfl rfl (fun _ => rfl) rfl rfl ⟨Nat.le_of_ble_eq_true rfl, Nat.le_of_ble_eq_true rfl⟩ rfl hl.1 rfl (Nat.le_of_ble_eq_true rfl) dX7_count_144 ⟨Nat.le_of_ble_eq_true rfl, Nat.le_of_ble_eq_true rfl⟩ ?_
    intro r_144 u_144 H locs hg hP hD hS
    exact k_iret C0 hr (u_144.1, u_144.2) hg (subP hP [0, 6, 1, 2, 3, 4, 5, 7, 8, 9, 10, 11, 12, 13, 14, 15] rfl) (hD.sub [0, 6, 1, 2, 3, 4, 5, 7, 8, 9, 10, 11, 12, 13, 14, 15] (nd2_ok _ (by decide +kernel)) rfl) hS dX7_count_147
  have hg := hg.2 c_1_8
  rcases Classical.em (p1 = (9 : Int32)) with c_1_9 | c_1_9
  · have hg := hg.1 c_1_9
    refine lv_tableIn (tgt := 148) hx hb dX7_count_1 (by rw [c_1_9]; decide) (by rw [c_1_9]; decide) (by rw [c_1_9]; rfl) (by decide) ?_
    refine lv_aload_n hx hb dX7_count_148 rfl (lv_at hl 0 rfl) ?_
    refine gf_X7_52 C0 hP 0 rfl rfl dX7_count_149 ?_
    refine gf_X7_322 C0 hP 2 rfl rfl dX7_count_152 ?_
    exact k_iret C0 hr (x_ruling_top, f_ruling_stack) hg hP hD hS dX7_count_155
  have hg := hg.2 c_1_9
  rcases Classical.em (p1 = (10 : Int32)) with c_1_10 | c_1_10
  · have hg := hg.1 c_1_10
    refine lv_tableIn (tgt := 156) hx hb dX7_count_1 (by rw [c_1_10]; decide) (by rw [c_1_10]; decide) (by rw [c_1_10]; rfl) (by decide) ?_
    refine lv_aload_n hx hb dX7_count_156 rfl (lv_at hl 0 rfl) ?_
    refine gf_X7_56 C0 hP 0 rfl rfl dX7_count_157 ?_
    refine gf_X7_322 C0 hP 3 rfl rfl dX7_count_160 ?_
    exact k_iret C0 hr (x_ruling_top, f_ruling_stack) hg hP hD hS dX7_count_163
  have hg := hg.2 c_1_10
  rcases Classical.em (p1 = (11 : Int32)) with c_1_11 | c_1_11
  · have hg := hg.1 c_1_11
    refine lv_tableIn (tgt := 164) hx hb dX7_count_1 (by rw [c_1_11]; decide) (by rw [c_1_11]; decide) (by rw [c_1_11]; rfl) (by decide) ?_
    refine lv_aload_n hx hb dX7_count_164 rfl (lv_at hl 0 rfl) ?_
    refine gf_X7_39 C0 hP 0 rfl rfl dX7_count_165 ?_
    refine gf_X7_125 C0 hP 4 rfl rfl dX7_count_168 ?_
    exact k_iret C0 hr (x_ruling_top, f_ruling_stack) hg hP hD hS dX7_count_171
  have hg := hg.2 c_1_11
  rcases Classical.em (p1 = (12 : Int32)) with c_1_12 | c_1_12
  · have hg := hg.1 c_1_12
    refine lv_tableIn (tgt := 172) hx hb dX7_count_1 (by rw [c_1_12]; decide) (by rw [c_1_12]; decide) (by rw [c_1_12]; rfl) (by decide) ?_
    refine lv_aload_n hx hb dX7_count_172 rfl (lv_at hl 0 rfl) ?_
    refine gf_X7_19 C0 hP 0 rfl rfl dX7_count_173 ?_
    refine gf_X7_396 C0 hP 5 rfl rfl dX7_count_176 ?_
    exact k_iret C0 hr (x_ruling_top, f_ruling_stack) hg hP hD hS dX7_count_179
  have hg := hg.2 c_1_12
  rcases Classical.em (p1 = (13 : Int32)) with c_1_13 | c_1_13
  · have hg := hg.1 c_1_13
    refine lv_tableIn (tgt := 180) hx hb dX7_count_1 (by rw [c_1_13]; decide) (by rw [c_1_13]; decide) (by rw [c_1_13]; rfl) (by decide) ?_
    refine lv_aload_n hx hb dX7_count_180 rfl (lv_at hl 0 rfl) ?_
    refine gf_X7_10 C0 hP 0 rfl rfl dX7_count_181 ?_
    refine gf_X7_94 C0 hP 6 rfl rfl dX7_count_184 ?_
    exact k_iret C0 hr (x_ruling_top, f_ruling_stack) hg hP hD hS dX7_count_187
  have hg := hg.2 c_1_13
  refine sw_def (x := p1) (lo := 0) (dflt := 187) (tgt := 188) hx hb dX7_count_1 (by decide) (by decide) ?_ ?_
  · intro k hk hx2
    have n_1_0 := ne_toInt (k := 0) (by decide) c_1_0
    have n_1_1 := ne_toInt (k := 1) (by decide) c_1_1
    have n_1_2 := ne_toInt (k := 2) (by decide) c_1_2
    have n_1_3 := ne_toInt (k := 3) (by decide) c_1_3
    have n_1_4 := ne_toInt (k := 4) (by decide) c_1_4
    have n_1_5 := ne_toInt (k := 5) (by decide) c_1_5
    have n_1_6 := ne_toInt (k := 6) (by decide) c_1_6
    have n_1_7 := ne_toInt (k := 7) (by decide) c_1_7
    have n_1_8 := ne_toInt (k := 8) (by decide) c_1_8
    have n_1_9 := ne_toInt (k := 9) (by decide) c_1_9
    have n_1_10 := ne_toInt (k := 10) (by decide) c_1_10
    have n_1_11 := ne_toInt (k := 11) (by decide) c_1_11
    have n_1_12 := ne_toInt (k := 12) (by decide) c_1_12
    have n_1_13 := ne_toInt (k := 13) (by decide) c_1_13
    have hk3 : k < 14 := hk
    match k, hk3 with
    | 0, _ => exact absurd hx2 (by omega)
    | 1, _ => exact absurd hx2 (by omega)
    | 2, _ => exact absurd hx2 (by omega)
    | 3, _ => exact absurd hx2 (by omega)
    | 4, _ => exact absurd hx2 (by omega)
    | 5, _ => exact absurd hx2 (by omega)
    | 6, _ => exact absurd hx2 (by omega)
    | 7, _ => exact absurd hx2 (by omega)
    | 8, _ => exact absurd hx2 (by omega)
    | 9, _ => exact absurd hx2 (by omega)
    | 10, _ => exact absurd hx2 (by omega)
    | 11, _ => exact absurd hx2 (by omega)
    | 12, _ => exact absurd hx2 (by omega)
    | 13, _ => exact absurd hx2 (by omega)
    | k + 14, h => exact absurd h (by omega)
  refine lv_iconst (v := (-1 : Int32)) hx hb dX7_count_188 (by decide) ?_
  exact k_iret C0 hr (x_ruling_top, f_ruling_stack) hg hP hD hS dX7_count_189
theorem dX8_thrown_0 : decode cX8_thrown 0 = .ok (.aload_n 0, 1) := by decide +kernel
theorem dX8_thrown_1 : decode cX8_thrown 1 = .ok (.getfield 82, 3) := by decide +kernel
theorem dX8_thrown_4 : decode cX8_thrown 4 = .ok (.ireturn, 1) := by decide +kernel
def p_X8_thrown (F : Nat) (x_thrown : Int32) (Post : Int32 → Prop) : Prop := (Post x_thrown)
set_option maxHeartbeats 4000000 in
set_option maxRecDepth 100000 in
theorem c_X8_thrown (l : Launch) (D : va_G) (cT : Nat → ClassId) (F : Nat) (h : Nat) (w_now : Value) (x_arches : Int32) (x_cats : Int32) (w_text : Value) (x_typed : Int32) (w_row : Value) (x_rowMany : Int32) (x_thrown : Int32) (w_read : Value) (x_length : Int32) (x_top : Int32) (x_at : Int32) (x_wrong : Int32) (w_told : Value) (w_rule : Value) (w_otherRule : Value) (x_ruleSize : Int32) (x_isAsked : Int32) (w_asked : Value) (w_undos : Value) (x_undoMany : Int32) (w_aside : Value) (w_then : Value) (w_hold : Value) (x_dropped : Int32) (w_acts : Value) (w_guarded : Value) (w_train : Value) (x_trolleyEnd : Int32) (w_feltOf : Value) (w_feltBy : Value) (x_feltMany : Int32) (w_many : Value) (w_heardOf : Value) (w_heardBy : Value) (x_heardMany : Int32) (w_worth : Value) (x_drawn : Int32) (x_came : Int32) (w_kept : Value) (w_isKept : Value) (w_keptCame : Value) (Post : Int32 → Prop) (hg : p_X8_thrown F x_thrown Post) : MRi l D cT yX8_thrown cX8_thrown 1 (some .int) 0 0 [.ref h] [(h, oX8 w_now (.int x_arches) (.int x_cats) w_text (.int x_typed) w_row (.int x_rowMany) (.int x_thrown) w_read (.int x_length) (.int x_top) (.int x_at) (.int x_wrong) w_told w_rule w_otherRule (.int x_ruleSize) (.int x_isAsked) w_asked w_undos (.int x_undoMany) w_aside w_then w_hold (.int x_dropped) w_acts w_guarded w_train (.int x_trolleyEnd) w_feltOf w_feltBy (.int x_feltMany) w_many w_heardOf w_heardBy (.int x_heardMany) w_worth (.int x_drawn) (.int x_came) w_kept w_isKept w_keptCame)] Post := by
  refine MRi.of (by decide) (Nat.le_of_ble_eq_true rfl) ?_
  intro p e s m below meth c hA C0 hr hP hD hS ls hl
  have hl : lv_has ls 1 [(0, .ref h)] := hl
  have hx := C0.x
  have hb := C0.b
  have hP : va_P D cls9 [(h, oX8 w_now (.int x_arches) (.int x_cats) w_text (.int x_typed) w_row (.int x_rowMany) (.int x_thrown) w_read (.int x_length) (.int x_top) (.int x_at) (.int x_wrong) w_told w_rule w_otherRule (.int x_ruleSize) (.int x_isAsked) w_asked w_undos (.int x_undoMany) w_aside w_then w_hold (.int x_dropped) w_acts w_guarded w_train (.int x_trolleyEnd) w_feltOf w_feltBy (.int x_feltMany) w_many w_heardOf w_heardBy (.int x_heardMany) w_worth (.int x_drawn) (.int x_came) w_kept w_isKept w_keptCame)] s.heap := hP
  have hD : va_D (fun q => cT 6 ≤ q) [(h, oX8 w_now (.int x_arches) (.int x_cats) w_text (.int x_typed) w_row (.int x_rowMany) (.int x_thrown) w_read (.int x_length) (.int x_top) (.int x_at) (.int x_wrong) w_told w_rule w_otherRule (.int x_ruleSize) (.int x_isAsked) w_asked w_undos (.int x_undoMany) w_aside w_then w_hold (.int x_dropped) w_acts w_guarded w_train (.int x_trolleyEnd) w_feltOf w_feltBy (.int x_feltMany) w_many w_heardOf w_heardBy (.int x_heardMany) w_worth (.int x_drawn) (.int x_came) w_kept w_isKept w_keptCame)] := hD
  unfold p_X8_thrown at hg
  refine lv_aload_n hx hb dX8_thrown_0 rfl (lv_at hl 0 rfl) ?_
  refine gf_X8_82 C0 hP 0 rfl rfl dX8_thrown_1 ?_
  exact k_xiret C0 hr hg dX8_thrown_4
theorem dX8_in_0 : decode cX8_in 0 = .ok (.iload_n 0, 1) := by decide +kernel
theorem dX8_in_1 : decode cX8_in 1 = .ok (.iload_n 1, 1) := by decide +kernel
theorem dX8_in_2 : decode cX8_in 2 = .ok (.if_icmp .lt 12, 3) := by decide +kernel
theorem dX8_in_5 : decode cX8_in 5 = .ok (.iload_n 0, 1) := by decide +kernel
theorem dX8_in_6 : decode cX8_in 6 = .ok (.iload_n 2, 1) := by decide +kernel
theorem dX8_in_7 : decode cX8_in 7 = .ok (.if_icmp .gt 7, 3) := by decide +kernel
theorem dX8_in_10 : decode cX8_in 10 = .ok (.iconst 1, 1) := by decide +kernel
theorem dX8_in_11 : decode cX8_in 11 = .ok (.goto 4, 3) := by decide +kernel
theorem dX8_in_14 : decode cX8_in 14 = .ok (.iconst 0, 1) := by decide +kernel
theorem dX8_in_15 : decode cX8_in 15 = .ok (.ireturn, 1) := by decide +kernel
def p_X8_in (F : Nat) (p0 : Int32) (p1 : Int32) (p2 : Int32) (Post : Int32 → Prop) : Prop := ((p0 < p1 → (Post (0 : Int32))) ∧ (¬ p0 < p1 → ((p2 < p0 → (Post (0 : Int32))) ∧ (¬ p2 < p0 → (Post (1 : Int32))))))
set_option maxHeartbeats 4000000 in
set_option maxRecDepth 100000 in
theorem c_X8_in (l : Launch) (D : va_G) (cT : Nat → ClassId) (F : Nat) (p0 : Int32) (p1 : Int32) (p2 : Int32) (Post : Int32 → Prop) (hg : p_X8_in F p0 p1 p2 Post) : MRi l D cT yX8_in cX8_in 3 (some .boolean) 0 0 [.int p0, .int p1, .int p2] [] Post := by
  refine MRi.of (by decide) (Nat.le_of_ble_eq_true rfl) ?_
  intro p e s m below meth c hA C0 hr hP hD hS ls hl
  have hl : lv_has ls 3 [(0, .int p0), (1, .int p1), (2, .int p2)] := hl
  have hx := C0.x
  have hb := C0.b
  have hP : va_P D cls9 [] s.heap := hP
  have hD : va_D (fun q => cT 6 ≤ q) [] := hD
  unfold p_X8_in at hg
  refine lv_iload_n hx hb dX8_in_0 rfl (lv_at hl 0 rfl) ?_
  refine lv_iload_n hx hb dX8_in_1 rfl (lv_at hl 1 rfl) ?_
  refine lv_icmp_lt (tgt := 14) hx hb dX8_in_2 (by decide) (fun c_2 => ?_) (fun c_2 => ?_)
  · have hg := hg.1 c_2
    refine lv_iconst (v := (0 : Int32)) hx hb dX8_in_14 (by decide) ?_
    exact k_xzret C0 hr (Or.inl rfl) hg dX8_in_15
  have hg := hg.2 c_2
  refine lv_iload_n hx hb dX8_in_5 rfl (lv_at hl 0 rfl) ?_
  refine lv_iload_n hx hb dX8_in_6 rfl (lv_at hl 2 rfl) ?_
  refine lv_icmp_gt (tgt := 14) hx hb dX8_in_7 (by decide) (fun c_7 => ?_) (fun c_7 => ?_)
  · have hg := hg.1 c_7
    refine lv_iconst (v := (0 : Int32)) hx hb dX8_in_14 (by decide) ?_
    exact k_xzret C0 hr (Or.inl rfl) hg dX8_in_15
  have hg := hg.2 c_7
  refine lv_iconst (v := (1 : Int32)) hx hb dX8_in_10 (by decide) ?_
  refine lv_goto (tgt := 15) hx hb dX8_in_11 (by decide) ?_
  exact k_xzret C0 hr (Or.inr rfl) hg dX8_in_15
theorem dX8_has_0 : decode cX8_has 0 = .ok (.iload_n 0, 1) := by decide +kernel
theorem dX8_has_1 : decode cX8_has 1 = .ok (.iload_n 1, 1) := by decide +kernel
theorem dX8_has_2 : decode cX8_has 2 = .ok (.ishr, 1) := by decide +kernel
theorem dX8_has_3 : decode cX8_has 3 = .ok (.iconst 1, 1) := by decide +kernel
theorem dX8_has_4 : decode cX8_has 4 = .ok (.iand, 1) := by decide +kernel
theorem dX8_has_5 : decode cX8_has 5 = .ok (.iconst 1, 1) := by decide +kernel
theorem dX8_has_6 : decode cX8_has 6 = .ok (.if_icmp .ne 7, 3) := by decide +kernel
theorem dX8_has_9 : decode cX8_has 9 = .ok (.iconst 1, 1) := by decide +kernel
theorem dX8_has_10 : decode cX8_has 10 = .ok (.goto 4, 3) := by decide +kernel
theorem dX8_has_13 : decode cX8_has 13 = .ok (.iconst 0, 1) := by decide +kernel
theorem dX8_has_14 : decode cX8_has 14 = .ok (.ireturn, 1) := by decide +kernel
def p_X8_has (F : Nat) (p0 : Int32) (p1 : Int32) (Post : Int32 → Prop) : Prop := ((¬ ((p0 >>> (p1 &&& 31)) &&& (1 : Int32)) = (1 : Int32) → (Post (0 : Int32))) ∧ (((p0 >>> (p1 &&& 31)) &&& (1 : Int32)) = (1 : Int32) → (Post (1 : Int32))))
set_option maxHeartbeats 4000000 in
set_option maxRecDepth 100000 in
theorem c_X8_has (l : Launch) (D : va_G) (cT : Nat → ClassId) (F : Nat) (p0 : Int32) (p1 : Int32) (Post : Int32 → Prop) (hg : p_X8_has F p0 p1 Post) : MRi l D cT yX8_has cX8_has 2 (some .boolean) 0 0 [.int p0, .int p1] [] Post := by
  refine MRi.of (by decide) (Nat.le_of_ble_eq_true rfl) ?_
  intro p e s m below meth c hA C0 hr hP hD hS ls hl
  have hl : lv_has ls 2 [(0, .int p0), (1, .int p1)] := hl
  have hx := C0.x
  have hb := C0.b
  have hP : va_P D cls9 [] s.heap := hP
  have hD : va_D (fun q => cT 6 ≤ q) [] := hD
  unfold p_X8_has at hg
  refine lv_iload_n hx hb dX8_has_0 rfl (lv_at hl 0 rfl) ?_
  refine lv_iload_n hx hb dX8_has_1 rfl (lv_at hl 1 rfl) ?_
  refine lv_ishr hx hb dX8_has_2 ?_
  refine lv_iconst (v := (1 : Int32)) hx hb dX8_has_3 (by decide) ?_
  refine lv_iand hx hb dX8_has_4 ?_
  refine lv_iconst (v := (1 : Int32)) hx hb dX8_has_5 (by decide) ?_
  refine lv_icmp_ne (tgt := 13) hx hb dX8_has_6 (by decide) (fun c_6 => ?_) (fun c_6 => ?_)
  · have hg := hg.1 c_6
    refine lv_iconst (v := (0 : Int32)) hx hb dX8_has_13 (by decide) ?_
    exact k_xzret C0 hr (Or.inl rfl) hg dX8_has_14
  have hg := hg.2 c_6
  refine lv_iconst (v := (1 : Int32)) hx hb dX8_has_9 (by decide) ?_
  refine lv_goto (tgt := 14) hx hb dX8_has_10 (by decide) ?_
  exact k_xzret C0 hr (Or.inr rfl) hg dX8_has_14
theorem dX8_lost_0 : decode cX8_lost 0 = .ok (.aload_n 0, 1) := by decide +kernel
theorem dX8_lost_1 : decode cX8_lost 1 = .ok (.iconst 1, 1) := by decide +kernel
theorem dX8_lost_2 : decode cX8_lost 2 = .ok (.putfield 82, 3) := by decide +kernel
theorem dX8_lost_5 : decode cX8_lost 5 = .ok (.iconst 0, 1) := by decide +kernel
theorem dX8_lost_6 : decode cX8_lost 6 = .ok (.ireturn, 1) := by decide +kernel
def p_X8_lost (F : Nat) (Post : Int32 → Int32 → Prop) : Prop := (Post (0 : Int32) (1 : Int32))
set_option maxHeartbeats 4000000 in
set_option maxRecDepth 100000 in
theorem c_X8_lost (l : Launch) (D : va_G) (cT : Nat → ClassId) (F : Nat) (h : Nat) (w_now : Value) (x_arches : Int32) (x_cats : Int32) (w_text : Value) (x_typed : Int32) (w_row : Value) (x_rowMany : Int32) (x_thrown : Int32) (w_read : Value) (x_length : Int32) (x_top : Int32) (x_at : Int32) (x_wrong : Int32) (w_told : Value) (w_rule : Value) (w_otherRule : Value) (x_ruleSize : Int32) (x_isAsked : Int32) (w_asked : Value) (w_undos : Value) (x_undoMany : Int32) (w_aside : Value) (w_then : Value) (w_hold : Value) (x_dropped : Int32) (w_acts : Value) (w_guarded : Value) (w_train : Value) (x_trolleyEnd : Int32) (w_feltOf : Value) (w_feltBy : Value) (x_feltMany : Int32) (w_many : Value) (w_heardOf : Value) (w_heardBy : Value) (x_heardMany : Int32) (w_worth : Value) (x_drawn : Int32) (x_came : Int32) (w_kept : Value) (w_isKept : Value) (w_keptCame : Value) (Post : Int32 → Int32 → Prop) (hg : p_X8_lost F Post) : MWi l D cT yX8_lost cX8_lost 1 (some .int) 0 0 0 0 [.ref h] [(h, oX8 w_now (.int x_arches) (.int x_cats) w_text (.int x_typed) w_row (.int x_rowMany) (.int x_thrown) w_read (.int x_length) (.int x_top) (.int x_at) (.int x_wrong) w_told w_rule w_otherRule (.int x_ruleSize) (.int x_isAsked) w_asked w_undos (.int x_undoMany) w_aside w_then w_hold (.int x_dropped) w_acts w_guarded w_train (.int x_trolleyEnd) w_feltOf w_feltBy (.int x_feltMany) w_many w_heardOf w_heardBy (.int x_heardMany) w_worth (.int x_drawn) (.int x_came) w_kept w_isKept w_keptCame)] Post (fun (u : Int32) => [(h, oX8 w_now (.int x_arches) (.int x_cats) w_text (.int x_typed) w_row (.int x_rowMany) (.int u) w_read (.int x_length) (.int x_top) (.int x_at) (.int x_wrong) w_told w_rule w_otherRule (.int x_ruleSize) (.int x_isAsked) w_asked w_undos (.int x_undoMany) w_aside w_then w_hold (.int x_dropped) w_acts w_guarded w_train (.int x_trolleyEnd) w_feltOf w_feltBy (.int x_feltMany) w_many w_heardOf w_heardBy (.int x_heardMany) w_worth (.int x_drawn) (.int x_came) w_kept w_isKept w_keptCame)]) := by
  refine MWi.of (by decide) (Nat.le_of_ble_eq_true rfl) ?_
  intro p e s m below meth c A hA C0 hnm hr hP hD ls hl
  have hl : lv_has ls 1 [(0, .ref h)] := hl
  have hx := C0.x
  have hb := C0.b
  have hS : va_S A s.heap s.heap [] := va_S.rf
  have hP : va_P D cls9 [(h, oX8 w_now (.int x_arches) (.int x_cats) w_text (.int x_typed) w_row (.int x_rowMany) (.int x_thrown) w_read (.int x_length) (.int x_top) (.int x_at) (.int x_wrong) w_told w_rule w_otherRule (.int x_ruleSize) (.int x_isAsked) w_asked w_undos (.int x_undoMany) w_aside w_then w_hold (.int x_dropped) w_acts w_guarded w_train (.int x_trolleyEnd) w_feltOf w_feltBy (.int x_feltMany) w_many w_heardOf w_heardBy (.int x_heardMany) w_worth (.int x_drawn) (.int x_came) w_kept w_isKept w_keptCame)] s.heap := hP
  have hD : va_D A [(h, oX8 w_now (.int x_arches) (.int x_cats) w_text (.int x_typed) w_row (.int x_rowMany) (.int x_thrown) w_read (.int x_length) (.int x_top) (.int x_at) (.int x_wrong) w_told w_rule w_otherRule (.int x_ruleSize) (.int x_isAsked) w_asked w_undos (.int x_undoMany) w_aside w_then w_hold (.int x_dropped) w_acts w_guarded w_train (.int x_trolleyEnd) w_feltOf w_feltBy (.int x_feltMany) w_many w_heardOf w_heardBy (.int x_heardMany) w_worth (.int x_drawn) (.int x_came) w_kept w_isKept w_keptCame)] := hD
  unfold p_X8_lost at hg
  refine lv_aload_n hx hb dX8_lost_0 rfl (lv_at hl 0 rfl) ?_
  refine lv_iconst (v := (1 : Int32)) hx hb dX8_lost_1 (by decide) ?_
  refine pf_X8_82 C0 hP hD hS 0 rfl (Nat.le_of_ble_eq_true rfl) (ws2 := [(h, oX8 w_now (.int x_arches) (.int x_cats) w_text (.int x_typed) w_row (.int x_rowMany) (.int (1 : Int32)) w_read (.int x_length) (.int x_top) (.int x_at) (.int x_wrong) w_told w_rule w_otherRule (.int x_ruleSize) (.int x_isAsked) w_asked w_undos (.int x_undoMany) w_aside w_then w_hold (.int x_dropped) w_acts w_guarded w_train (.int x_trolleyEnd) w_feltOf w_feltBy (.int x_feltMany) w_many w_heardOf w_heardBy (.int x_heardMany) w_worth (.int x_drawn) (.int x_came) w_kept w_isKept w_keptCame)]) rfl dX8_lost_2 (fun H locs hP hD hS => ?_)
  refine lv_iconst (v := (0 : Int32)) hx hb dX8_lost_5 (by decide) ?_
  exact k_iret C0 hr (1 : Int32) hg hP hD hS dX8_lost_6
theorem dX8_tell_0 : decode cX8_tell 0 = .ok (.aload_n 0, 1) := by decide +kernel
theorem dX8_tell_1 : decode cX8_tell 1 = .ok (.getfield 17, 3) := by decide +kernel
theorem dX8_tell_4 : decode cX8_tell 4 = .ok (.aload_n 0, 1) := by decide +kernel
theorem dX8_tell_5 : decode cX8_tell 5 = .ok (.getfield 86, 3) := by decide +kernel
theorem dX8_tell_8 : decode cX8_tell 8 = .ok (.lload_n 1, 1) := by decide +kernel
theorem dX8_tell_9 : decode cX8_tell 9 = .ok (.lastore, 1) := by decide +kernel
theorem dX8_tell_10 : decode cX8_tell 10 = .ok (.aload_n 0, 1) := by decide +kernel
theorem dX8_tell_11 : decode cX8_tell 11 = .ok (.dup, 1) := by decide +kernel
theorem dX8_tell_12 : decode cX8_tell 12 = .ok (.getfield 86, 3) := by decide +kernel
theorem dX8_tell_15 : decode cX8_tell 15 = .ok (.iconst 1, 1) := by decide +kernel
theorem dX8_tell_16 : decode cX8_tell 16 = .ok (.iadd, 1) := by decide +kernel
theorem dX8_tell_17 : decode cX8_tell 17 = .ok (.putfield 86, 3) := by decide +kernel
theorem dX8_tell_20 : decode cX8_tell 20 = .ok (.return_, 1) := by decide +kernel
def p_X8_tell (F : Nat) (p1 : Int64) (x_rowMany : Int32) (f_row : Nat → Int64) (Post : (Int32 × (Nat → Int64)) → Prop) : Prop := (vp_in x_rowMany 16 ∧ (Post ((x_rowMany + (1 : Int32)), (vp_updL f_row x_rowMany.toNatClampNeg p1))))
set_option maxHeartbeats 4000000 in
set_option maxRecDepth 100000 in
theorem c_X8_tell (l : Launch) (D : va_G) (cT : Nat → ClassId) (F : Nat) (h : Nat) (p1 : Int64) (w_now : Value) (x_arches : Int32) (x_cats : Int32) (w_text : Value) (x_typed : Int32) (q_row : Nat) (x_rowMany : Int32) (x_thrown : Int32) (w_read : Value) (x_length : Int32) (x_top : Int32) (x_at : Int32) (x_wrong : Int32) (w_told : Value) (w_rule : Value) (w_otherRule : Value) (x_ruleSize : Int32) (x_isAsked : Int32) (w_asked : Value) (w_undos : Value) (x_undoMany : Int32) (w_aside : Value) (w_then : Value) (w_hold : Value) (x_dropped : Int32) (w_acts : Value) (w_guarded : Value) (w_train : Value) (x_trolleyEnd : Int32) (w_feltOf : Value) (w_feltBy : Value) (x_feltMany : Int32) (w_many : Value) (w_heardOf : Value) (w_heardBy : Value) (x_heardMany : Int32) (w_worth : Value) (x_drawn : Int32) (x_came : Int32) (w_kept : Value) (w_isKept : Value) (w_keptCame : Value) (f_row : Nat → Int64) (Post : (Int32 × (Nat → Int64)) → Prop) (hg : p_X8_tell F p1 x_rowMany f_row Post) : MWv l D cT yX8_tell cX8_tell 3 none 0 0 0 0 [.ref h, .long p1] [(h, oX8 w_now (.int x_arches) (.int x_cats) w_text (.int x_typed) (.ref q_row) (.int x_rowMany) (.int x_thrown) w_read (.int x_length) (.int x_top) (.int x_at) (.int x_wrong) w_told w_rule w_otherRule (.int x_ruleSize) (.int x_isAsked) w_asked w_undos (.int x_undoMany) w_aside w_then w_hold (.int x_dropped) w_acts w_guarded w_train (.int x_trolleyEnd) w_feltOf w_feltBy (.int x_feltMany) w_many w_heardOf w_heardBy (.int x_heardMany) w_worth (.int x_drawn) (.int x_came) w_kept w_isKept w_keptCame), (q_row, aJ cT 16 f_row)] Post (fun (u : (Int32 × (Nat → Int64))) => [(h, oX8 w_now (.int x_arches) (.int x_cats) w_text (.int x_typed) (.ref q_row) (.int u.1) (.int x_thrown) w_read (.int x_length) (.int x_top) (.int x_at) (.int x_wrong) w_told w_rule w_otherRule (.int x_ruleSize) (.int x_isAsked) w_asked w_undos (.int x_undoMany) w_aside w_then w_hold (.int x_dropped) w_acts w_guarded w_train (.int x_trolleyEnd) w_feltOf w_feltBy (.int x_feltMany) w_many w_heardOf w_heardBy (.int x_heardMany) w_worth (.int x_drawn) (.int x_came) w_kept w_isKept w_keptCame), (q_row, aJ cT 16 u.2)]) := by
  refine MWv.of (by decide) (Nat.le_of_ble_eq_true rfl) ?_
  intro p e s m below meth c A hA C0 hnm hr hP hD ls hl
  have hl : lv_has ls 3 [(0, .ref h), (1, .long p1)] := hl
  have hx := C0.x
  have hb := C0.b
  have hS : va_S A s.heap s.heap [] := va_S.rf
  have hP : va_P D cls9 [(h, oX8 w_now (.int x_arches) (.int x_cats) w_text (.int x_typed) (.ref q_row) (.int x_rowMany) (.int x_thrown) w_read (.int x_length) (.int x_top) (.int x_at) (.int x_wrong) w_told w_rule w_otherRule (.int x_ruleSize) (.int x_isAsked) w_asked w_undos (.int x_undoMany) w_aside w_then w_hold (.int x_dropped) w_acts w_guarded w_train (.int x_trolleyEnd) w_feltOf w_feltBy (.int x_feltMany) w_many w_heardOf w_heardBy (.int x_heardMany) w_worth (.int x_drawn) (.int x_came) w_kept w_isKept w_keptCame), (q_row, aJ cT 16 f_row)] s.heap := hP
  have hD : va_D A [(h, oX8 w_now (.int x_arches) (.int x_cats) w_text (.int x_typed) (.ref q_row) (.int x_rowMany) (.int x_thrown) w_read (.int x_length) (.int x_top) (.int x_at) (.int x_wrong) w_told w_rule w_otherRule (.int x_ruleSize) (.int x_isAsked) w_asked w_undos (.int x_undoMany) w_aside w_then w_hold (.int x_dropped) w_acts w_guarded w_train (.int x_trolleyEnd) w_feltOf w_feltBy (.int x_feltMany) w_many w_heardOf w_heardBy (.int x_heardMany) w_worth (.int x_drawn) (.int x_came) w_kept w_isKept w_keptCame), (q_row, aJ cT 16 f_row)] := hD
  unfold p_X8_tell at hg
  refine lv_aload_n hx hb dX8_tell_0 rfl (lv_at hl 0 rfl) ?_
  refine gf_X8_17 C0 hP 0 rfl rfl dX8_tell_1 ?_
  refine lv_aload_n hx hb dX8_tell_4 rfl (lv_at hl 0 rfl) ?_
  refine gf_X8_86 C0 hP 0 rfl rfl dX8_tell_5 ?_
  refine lv_lload_n hx hb dX8_tell_8 rfl (lv_at hl 1 rfl) ?_
  obtain ⟨g_9, hg⟩ := hg
  refine k_last C0 hP hD hS 1 rfl g_9 (ws' := [(h, oX8 w_now (.int x_arches) (.int x_cats) w_text (.int x_typed) (.ref q_row) (.int x_rowMany) (.int x_thrown) w_read (.int x_length) (.int x_top) (.int x_at) (.int x_wrong) w_told w_rule w_otherRule (.int x_ruleSize) (.int x_isAsked) w_asked w_undos (.int x_undoMany) w_aside w_then w_hold (.int x_dropped) w_acts w_guarded w_train (.int x_trolleyEnd) w_feltOf w_feltBy (.int x_feltMany) w_many w_heardOf w_heardBy (.int x_heardMany) w_worth (.int x_drawn) (.int x_came) w_kept w_isKept w_keptCame), (q_row, aJ cT 16 (vp_updL f_row x_rowMany.toNatClampNeg p1))]) rfl dX8_tell_9 (fun H locs hP hD hS => ?_)
  refine lv_aload_n hx hb dX8_tell_10 rfl (lv_at hl 0 rfl) ?_
  refine lv_dup hx hb dX8_tell_11 rfl ?_
  refine gf_X8_86 C0 hP 0 rfl rfl dX8_tell_12 ?_
  refine lv_iconst (v := (1 : Int32)) hx hb dX8_tell_15 (by decide) ?_
  refine lv_iadd hx hb dX8_tell_16 ?_
  refine pf_X8_86 C0 hP hD hS 0 rfl (Nat.le_of_ble_eq_true rfl) (ws2 := [(h, oX8 w_now (.int x_arches) (.int x_cats) w_text (.int x_typed) (.ref q_row) (.int (x_rowMany + (1 : Int32))) (.int x_thrown) w_read (.int x_length) (.int x_top) (.int x_at) (.int x_wrong) w_told w_rule w_otherRule (.int x_ruleSize) (.int x_isAsked) w_asked w_undos (.int x_undoMany) w_aside w_then w_hold (.int x_dropped) w_acts w_guarded w_train (.int x_trolleyEnd) w_feltOf w_feltBy (.int x_feltMany) w_many w_heardOf w_heardBy (.int x_heardMany) w_worth (.int x_drawn) (.int x_came) w_kept w_isKept w_keptCame), (q_row, aJ cT 16 (vp_updL f_row x_rowMany.toNatClampNeg p1))]) rfl dX8_tell_17 (fun H locs hP hD hS => ?_)
  exact k_vret C0 hr ((x_rowMany + (1 : Int32)), (vp_updL f_row x_rowMany.toNatClampNeg p1)) hg hP hD hS dX8_tell_20
theorem dX8_isArch_0 : decode cX8_isArch 0 = .ok (.iload_n 1, 1) := by decide +kernel
theorem dX8_isArch_1 : decode cX8_isArch 1 = .ok (.iconst 0, 1) := by decide +kernel
theorem dX8_isArch_2 : decode cX8_isArch 2 = .ok (.aload_n 0, 1) := by decide +kernel
theorem dX8_isArch_3 : decode cX8_isArch 3 = .ok (.getfield 89, 3) := by decide +kernel
theorem dX8_isArch_6 : decode cX8_isArch 6 = .ok (.iconst 1, 1) := by decide +kernel
theorem dX8_isArch_7 : decode cX8_isArch 7 = .ok (.isub, 1) := by decide +kernel
theorem dX8_isArch_8 : decode cX8_isArch 8 = .ok (.invokestatic 92, 3) := by decide +kernel
theorem dX8_isArch_11 : decode cX8_isArch 11 = .ok (.ireturn, 1) := by decide +kernel
def p_X8_isArch (F : Nat) (p1 : Int32) (x_arches : Int32) (Post : Int32 → Prop) : Prop := (p_X8_in F p1 (0 : Int32) (x_arches - (1 : Int32)) (fun (r_8 : Int32) => ((r_8 = 0 ∨ r_8 = 1) ∧ (Post r_8))))
set_option maxHeartbeats 4000000 in
set_option maxRecDepth 100000 in
theorem c_X8_isArch (l : Launch) (D : va_G) (cT : Nat → ClassId) (F : Nat) (h : Nat) (p1 : Int32) (w_now : Value) (x_arches : Int32) (x_cats : Int32) (w_text : Value) (x_typed : Int32) (w_row : Value) (x_rowMany : Int32) (x_thrown : Int32) (w_read : Value) (x_length : Int32) (x_top : Int32) (x_at : Int32) (x_wrong : Int32) (w_told : Value) (w_rule : Value) (w_otherRule : Value) (x_ruleSize : Int32) (x_isAsked : Int32) (w_asked : Value) (w_undos : Value) (x_undoMany : Int32) (w_aside : Value) (w_then : Value) (w_hold : Value) (x_dropped : Int32) (w_acts : Value) (w_guarded : Value) (w_train : Value) (x_trolleyEnd : Int32) (w_feltOf : Value) (w_feltBy : Value) (x_feltMany : Int32) (w_many : Value) (w_heardOf : Value) (w_heardBy : Value) (x_heardMany : Int32) (w_worth : Value) (x_drawn : Int32) (x_came : Int32) (w_kept : Value) (w_isKept : Value) (w_keptCame : Value) (Post : Int32 → Prop) (hg : p_X8_isArch F p1 x_arches Post) : MRi l D cT yX8_isArch cX8_isArch 2 (some .boolean) 1 22 [.ref h, .int p1] [(h, oX8 w_now (.int x_arches) (.int x_cats) w_text (.int x_typed) w_row (.int x_rowMany) (.int x_thrown) w_read (.int x_length) (.int x_top) (.int x_at) (.int x_wrong) w_told w_rule w_otherRule (.int x_ruleSize) (.int x_isAsked) w_asked w_undos (.int x_undoMany) w_aside w_then w_hold (.int x_dropped) w_acts w_guarded w_train (.int x_trolleyEnd) w_feltOf w_feltBy (.int x_feltMany) w_many w_heardOf w_heardBy (.int x_heardMany) w_worth (.int x_drawn) (.int x_came) w_kept w_isKept w_keptCame)] Post := by
  refine MRi.of (by decide) (Nat.le_of_ble_eq_true rfl) ?_
  intro p e s m below meth c hA C0 hr hP hD hS ls hl
  have hl : lv_has ls 2 [(0, .ref h), (1, .int p1)] := hl
  have hx := C0.x
  have hb := C0.b
  have hP : va_P D cls9 [(h, oX8 w_now (.int x_arches) (.int x_cats) w_text (.int x_typed) w_row (.int x_rowMany) (.int x_thrown) w_read (.int x_length) (.int x_top) (.int x_at) (.int x_wrong) w_told w_rule w_otherRule (.int x_ruleSize) (.int x_isAsked) w_asked w_undos (.int x_undoMany) w_aside w_then w_hold (.int x_dropped) w_acts w_guarded w_train (.int x_trolleyEnd) w_feltOf w_feltBy (.int x_feltMany) w_many w_heardOf w_heardBy (.int x_heardMany) w_worth (.int x_drawn) (.int x_came) w_kept w_isKept w_keptCame)] s.heap := hP
  have hD : va_D (fun q => cT 6 ≤ q) [(h, oX8 w_now (.int x_arches) (.int x_cats) w_text (.int x_typed) w_row (.int x_rowMany) (.int x_thrown) w_read (.int x_length) (.int x_top) (.int x_at) (.int x_wrong) w_told w_rule w_otherRule (.int x_ruleSize) (.int x_isAsked) w_asked w_undos (.int x_undoMany) w_aside w_then w_hold (.int x_dropped) w_acts w_guarded w_train (.int x_trolleyEnd) w_feltOf w_feltBy (.int x_feltMany) w_many w_heardOf w_heardBy (.int x_heardMany) w_worth (.int x_drawn) (.int x_came) w_kept w_isKept w_keptCame)] := hD
  unfold p_X8_isArch at hg
  refine lv_iload_n hx hb dX8_isArch_0 rfl (lv_at hl 1 rfl) ?_
  refine lv_iconst (v := (0 : Int32)) hx hb dX8_isArch_1 (by decide) ?_
  refine lv_aload_n hx hb dX8_isArch_2 rfl (lv_at hl 0 rfl) ?_
  refine gf_X8_89 C0 hP 0 rfl rfl dX8_isArch_3 ?_
  refine lv_iconst (v := (1 : Int32)) hx hb dX8_isArch_6 (by decide) ?_
  refine lv_isub hx hb dX8_isArch_7 ?_
  refine k_Sxi (rest := []) C0 lk_X8_92 (c_X8_in l D cT F p1 (0 : Int32) (x_arches - (1 : Int32)) _ hg) hP hD hS hA [] (by decide +kernel) rfl ⟨Nat.le_of_ble_eq_true rfl, Nat.le_of_ble_eq_true rfl⟩ rfl hl.1 rfl (Nat.le_of_ble_eq_true rfl) dX8_isArch_8 ⟨Nat.le_of_ble_eq_true rfl, Nat.le_of_ble_eq_true rfl⟩ (fun r_8 hg => ?_)
  obtain ⟨g_11, hg⟩ := hg
  exact k_xzret C0 hr g_11 hg dX8_isArch_11
theorem dX8_isCat_0 : decode cX8_isCat 0 = .ok (.iload_n 1, 1) := by decide +kernel
theorem dX8_isCat_1 : decode cX8_isCat 1 = .ok (.iconst 0, 1) := by decide +kernel
theorem dX8_isCat_2 : decode cX8_isCat 2 = .ok (.aload_n 0, 1) := by decide +kernel
theorem dX8_isCat_3 : decode cX8_isCat 3 = .ok (.getfield 96, 3) := by decide +kernel
theorem dX8_isCat_6 : decode cX8_isCat 6 = .ok (.iconst 1, 1) := by decide +kernel
theorem dX8_isCat_7 : decode cX8_isCat 7 = .ok (.isub, 1) := by decide +kernel
theorem dX8_isCat_8 : decode cX8_isCat 8 = .ok (.invokestatic 92, 3) := by decide +kernel
theorem dX8_isCat_11 : decode cX8_isCat 11 = .ok (.ireturn, 1) := by decide +kernel
def p_X8_isCat (F : Nat) (p1 : Int32) (x_cats : Int32) (Post : Int32 → Prop) : Prop := (p_X8_in F p1 (0 : Int32) (x_cats - (1 : Int32)) (fun (r_8 : Int32) => ((r_8 = 0 ∨ r_8 = 1) ∧ (Post r_8))))
set_option maxHeartbeats 4000000 in
set_option maxRecDepth 100000 in
theorem c_X8_isCat (l : Launch) (D : va_G) (cT : Nat → ClassId) (F : Nat) (h : Nat) (p1 : Int32) (w_now : Value) (x_arches : Int32) (x_cats : Int32) (w_text : Value) (x_typed : Int32) (w_row : Value) (x_rowMany : Int32) (x_thrown : Int32) (w_read : Value) (x_length : Int32) (x_top : Int32) (x_at : Int32) (x_wrong : Int32) (w_told : Value) (w_rule : Value) (w_otherRule : Value) (x_ruleSize : Int32) (x_isAsked : Int32) (w_asked : Value) (w_undos : Value) (x_undoMany : Int32) (w_aside : Value) (w_then : Value) (w_hold : Value) (x_dropped : Int32) (w_acts : Value) (w_guarded : Value) (w_train : Value) (x_trolleyEnd : Int32) (w_feltOf : Value) (w_feltBy : Value) (x_feltMany : Int32) (w_many : Value) (w_heardOf : Value) (w_heardBy : Value) (x_heardMany : Int32) (w_worth : Value) (x_drawn : Int32) (x_came : Int32) (w_kept : Value) (w_isKept : Value) (w_keptCame : Value) (Post : Int32 → Prop) (hg : p_X8_isCat F p1 x_cats Post) : MRi l D cT yX8_isCat cX8_isCat 2 (some .boolean) 1 22 [.ref h, .int p1] [(h, oX8 w_now (.int x_arches) (.int x_cats) w_text (.int x_typed) w_row (.int x_rowMany) (.int x_thrown) w_read (.int x_length) (.int x_top) (.int x_at) (.int x_wrong) w_told w_rule w_otherRule (.int x_ruleSize) (.int x_isAsked) w_asked w_undos (.int x_undoMany) w_aside w_then w_hold (.int x_dropped) w_acts w_guarded w_train (.int x_trolleyEnd) w_feltOf w_feltBy (.int x_feltMany) w_many w_heardOf w_heardBy (.int x_heardMany) w_worth (.int x_drawn) (.int x_came) w_kept w_isKept w_keptCame)] Post := by
  refine MRi.of (by decide) (Nat.le_of_ble_eq_true rfl) ?_
  intro p e s m below meth c hA C0 hr hP hD hS ls hl
  have hl : lv_has ls 2 [(0, .ref h), (1, .int p1)] := hl
  have hx := C0.x
  have hb := C0.b
  have hP : va_P D cls9 [(h, oX8 w_now (.int x_arches) (.int x_cats) w_text (.int x_typed) w_row (.int x_rowMany) (.int x_thrown) w_read (.int x_length) (.int x_top) (.int x_at) (.int x_wrong) w_told w_rule w_otherRule (.int x_ruleSize) (.int x_isAsked) w_asked w_undos (.int x_undoMany) w_aside w_then w_hold (.int x_dropped) w_acts w_guarded w_train (.int x_trolleyEnd) w_feltOf w_feltBy (.int x_feltMany) w_many w_heardOf w_heardBy (.int x_heardMany) w_worth (.int x_drawn) (.int x_came) w_kept w_isKept w_keptCame)] s.heap := hP
  have hD : va_D (fun q => cT 6 ≤ q) [(h, oX8 w_now (.int x_arches) (.int x_cats) w_text (.int x_typed) w_row (.int x_rowMany) (.int x_thrown) w_read (.int x_length) (.int x_top) (.int x_at) (.int x_wrong) w_told w_rule w_otherRule (.int x_ruleSize) (.int x_isAsked) w_asked w_undos (.int x_undoMany) w_aside w_then w_hold (.int x_dropped) w_acts w_guarded w_train (.int x_trolleyEnd) w_feltOf w_feltBy (.int x_feltMany) w_many w_heardOf w_heardBy (.int x_heardMany) w_worth (.int x_drawn) (.int x_came) w_kept w_isKept w_keptCame)] := hD
  unfold p_X8_isCat at hg
  refine lv_iload_n hx hb dX8_isCat_0 rfl (lv_at hl 1 rfl) ?_
  refine lv_iconst (v := (0 : Int32)) hx hb dX8_isCat_1 (by decide) ?_
  refine lv_aload_n hx hb dX8_isCat_2 rfl (lv_at hl 0 rfl) ?_
  refine gf_X8_96 C0 hP 0 rfl rfl dX8_isCat_3 ?_
  refine lv_iconst (v := (1 : Int32)) hx hb dX8_isCat_6 (by decide) ?_
  refine lv_isub hx hb dX8_isCat_7 ?_
  refine k_Sxi (rest := []) C0 lk_X8_92 (c_X8_in l D cT F p1 (0 : Int32) (x_cats - (1 : Int32)) _ hg) hP hD hS hA [] (by decide +kernel) rfl ⟨Nat.le_of_ble_eq_true rfl, Nat.le_of_ble_eq_true rfl⟩ rfl hl.1 rfl (Nat.le_of_ble_eq_true rfl) dX8_isCat_8 ⟨Nat.le_of_ble_eq_true rfl, Nat.le_of_ble_eq_true rfl⟩ (fun r_8 hg => ?_)
  obtain ⟨g_11, hg⟩ := hg
  exact k_xzret C0 hr g_11 hg dX8_isCat_11
theorem dX8_allCats_0 : decode cX8_allCats 0 = .ok (.iconst 1, 1) := by decide +kernel
theorem dX8_allCats_1 : decode cX8_allCats 1 = .ok (.aload_n 0, 1) := by decide +kernel
theorem dX8_allCats_2 : decode cX8_allCats 2 = .ok (.getfield 96, 3) := by decide +kernel
theorem dX8_allCats_5 : decode cX8_allCats 5 = .ok (.ishl, 1) := by decide +kernel
theorem dX8_allCats_6 : decode cX8_allCats 6 = .ok (.iconst 1, 1) := by decide +kernel
theorem dX8_allCats_7 : decode cX8_allCats 7 = .ok (.isub, 1) := by decide +kernel
theorem dX8_allCats_8 : decode cX8_allCats 8 = .ok (.ireturn, 1) := by decide +kernel
def p_X8_allCats (F : Nat) (x_cats : Int32) (Post : Int32 → Prop) : Prop := (Post (((1 : Int32) <<< (x_cats &&& 31)) - (1 : Int32)))
set_option maxHeartbeats 4000000 in
set_option maxRecDepth 100000 in
theorem c_X8_allCats (l : Launch) (D : va_G) (cT : Nat → ClassId) (F : Nat) (h : Nat) (w_now : Value) (x_arches : Int32) (x_cats : Int32) (w_text : Value) (x_typed : Int32) (w_row : Value) (x_rowMany : Int32) (x_thrown : Int32) (w_read : Value) (x_length : Int32) (x_top : Int32) (x_at : Int32) (x_wrong : Int32) (w_told : Value) (w_rule : Value) (w_otherRule : Value) (x_ruleSize : Int32) (x_isAsked : Int32) (w_asked : Value) (w_undos : Value) (x_undoMany : Int32) (w_aside : Value) (w_then : Value) (w_hold : Value) (x_dropped : Int32) (w_acts : Value) (w_guarded : Value) (w_train : Value) (x_trolleyEnd : Int32) (w_feltOf : Value) (w_feltBy : Value) (x_feltMany : Int32) (w_many : Value) (w_heardOf : Value) (w_heardBy : Value) (x_heardMany : Int32) (w_worth : Value) (x_drawn : Int32) (x_came : Int32) (w_kept : Value) (w_isKept : Value) (w_keptCame : Value) (Post : Int32 → Prop) (hg : p_X8_allCats F x_cats Post) : MRi l D cT yX8_allCats cX8_allCats 1 (some .int) 0 0 [.ref h] [(h, oX8 w_now (.int x_arches) (.int x_cats) w_text (.int x_typed) w_row (.int x_rowMany) (.int x_thrown) w_read (.int x_length) (.int x_top) (.int x_at) (.int x_wrong) w_told w_rule w_otherRule (.int x_ruleSize) (.int x_isAsked) w_asked w_undos (.int x_undoMany) w_aside w_then w_hold (.int x_dropped) w_acts w_guarded w_train (.int x_trolleyEnd) w_feltOf w_feltBy (.int x_feltMany) w_many w_heardOf w_heardBy (.int x_heardMany) w_worth (.int x_drawn) (.int x_came) w_kept w_isKept w_keptCame)] Post := by
  refine MRi.of (by decide) (Nat.le_of_ble_eq_true rfl) ?_
  intro p e s m below meth c hA C0 hr hP hD hS ls hl
  have hl : lv_has ls 1 [(0, .ref h)] := hl
  have hx := C0.x
  have hb := C0.b
  have hP : va_P D cls9 [(h, oX8 w_now (.int x_arches) (.int x_cats) w_text (.int x_typed) w_row (.int x_rowMany) (.int x_thrown) w_read (.int x_length) (.int x_top) (.int x_at) (.int x_wrong) w_told w_rule w_otherRule (.int x_ruleSize) (.int x_isAsked) w_asked w_undos (.int x_undoMany) w_aside w_then w_hold (.int x_dropped) w_acts w_guarded w_train (.int x_trolleyEnd) w_feltOf w_feltBy (.int x_feltMany) w_many w_heardOf w_heardBy (.int x_heardMany) w_worth (.int x_drawn) (.int x_came) w_kept w_isKept w_keptCame)] s.heap := hP
  have hD : va_D (fun q => cT 6 ≤ q) [(h, oX8 w_now (.int x_arches) (.int x_cats) w_text (.int x_typed) w_row (.int x_rowMany) (.int x_thrown) w_read (.int x_length) (.int x_top) (.int x_at) (.int x_wrong) w_told w_rule w_otherRule (.int x_ruleSize) (.int x_isAsked) w_asked w_undos (.int x_undoMany) w_aside w_then w_hold (.int x_dropped) w_acts w_guarded w_train (.int x_trolleyEnd) w_feltOf w_feltBy (.int x_feltMany) w_many w_heardOf w_heardBy (.int x_heardMany) w_worth (.int x_drawn) (.int x_came) w_kept w_isKept w_keptCame)] := hD
  unfold p_X8_allCats at hg
  refine lv_iconst (v := (1 : Int32)) hx hb dX8_allCats_0 (by decide) ?_
  refine lv_aload_n hx hb dX8_allCats_1 rfl (lv_at hl 0 rfl) ?_
  refine gf_X8_96 C0 hP 0 rfl rfl dX8_allCats_2 ?_
  refine lv_ishl hx hb dX8_allCats_5 ?_
  refine lv_iconst (v := (1 : Int32)) hx hb dX8_allCats_6 (by decide) ?_
  refine lv_isub hx hb dX8_allCats_7 ?_
  exact k_xiret C0 hr hg dX8_allCats_8
theorem dX8_sign_0 : decode cX8_sign 0 = .ok (.aload_n 0, 1) := by decide +kernel
theorem dX8_sign_1 : decode cX8_sign 1 = .ok (.iconst 0, 1) := by decide +kernel
theorem dX8_sign_2 : decode cX8_sign 2 = .ok (.putfield 82, 3) := by decide +kernel
theorem dX8_sign_5 : decode cX8_sign 5 = .ok (.aload_n 0, 1) := by decide +kernel
theorem dX8_sign_6 : decode cX8_sign 6 = .ok (.getfield 99, 3) := by decide +kernel
theorem dX8_sign_9 : decode cX8_sign 9 = .ok (.iconst 4, 1) := by decide +kernel
theorem dX8_sign_10 : decode cX8_sign 10 = .ok (.iadd, 1) := by decide +kernel
theorem dX8_sign_11 : decode cX8_sign 11 = .ok (.bipush 80, 2) := by decide +kernel
theorem dX8_sign_13 : decode cX8_sign 13 = .ok (.if_icmp .le 5, 3) := by decide +kernel
theorem dX8_sign_16 : decode cX8_sign 16 = .ok (.iconst (-1), 1) := by decide +kernel
theorem dX8_sign_17 : decode cX8_sign 17 = .ok (.ireturn, 1) := by decide +kernel
theorem dX8_sign_18 : decode cX8_sign 18 = .ok (.iconst 3, 1) := by decide +kernel
theorem dX8_sign_19 : decode cX8_sign 19 = .ok (.istore_n 2, 1) := by decide +kernel
theorem dX8_sign_20 : decode cX8_sign 20 = .ok (.iload_n 2, 1) := by decide +kernel
theorem dX8_sign_21 : decode cX8_sign 21 = .ok (.ifCond .lt 32, 3) := by decide +kernel
theorem dX8_sign_24 : decode cX8_sign 24 = .ok (.aload_n 0, 1) := by decide +kernel
theorem dX8_sign_25 : decode cX8_sign 25 = .ok (.getfield 13, 3) := by decide +kernel
theorem dX8_sign_28 : decode cX8_sign 28 = .ok (.aload_n 0, 1) := by decide +kernel
theorem dX8_sign_29 : decode cX8_sign 29 = .ok (.dup, 1) := by decide +kernel
theorem dX8_sign_30 : decode cX8_sign 30 = .ok (.getfield 99, 3) := by decide +kernel
theorem dX8_sign_33 : decode cX8_sign 33 = .ok (.dup_x1, 1) := by decide +kernel
theorem dX8_sign_34 : decode cX8_sign 34 = .ok (.iconst 1, 1) := by decide +kernel
theorem dX8_sign_35 : decode cX8_sign 35 = .ok (.iadd, 1) := by decide +kernel
theorem dX8_sign_36 : decode cX8_sign 36 = .ok (.putfield 99, 3) := by decide +kernel
theorem dX8_sign_39 : decode cX8_sign 39 = .ok (.iload_n 1, 1) := by decide +kernel
theorem dX8_sign_40 : decode cX8_sign 40 = .ok (.bipush 8, 2) := by decide +kernel
theorem dX8_sign_42 : decode cX8_sign 42 = .ok (.iload_n 2, 1) := by decide +kernel
theorem dX8_sign_43 : decode cX8_sign 43 = .ok (.imul, 1) := by decide +kernel
theorem dX8_sign_44 : decode cX8_sign 44 = .ok (.ishr, 1) := by decide +kernel
theorem dX8_sign_45 : decode cX8_sign 45 = .ok (.i2b, 1) := by decide +kernel
theorem dX8_sign_46 : decode cX8_sign 46 = .ok (.bastore, 1) := by decide +kernel
theorem dX8_sign_47 : decode cX8_sign 47 = .ok (.iinc 2 (-1), 3) := by decide +kernel
theorem dX8_sign_50 : decode cX8_sign 50 = .ok (.goto (-30), 3) := by decide +kernel
theorem dX8_sign_53 : decode cX8_sign 53 = .ok (.aload_n 0, 1) := by decide +kernel
theorem dX8_sign_54 : decode cX8_sign 54 = .ok (.getfield 99, 3) := by decide +kernel
theorem dX8_sign_57 : decode cX8_sign 57 = .ok (.ireturn, 1) := by decide +kernel
noncomputable def p_X8_sign_20 (F : Nat) (p1 : Int32) (Post : Int32 → (Int32 × Int32 × (Nat → Int32)) → Prop) (n : Nat) : Int32 → Int32 → (Nat → Int32) → Prop := Nat.rec (motive := fun _ => Int32 → Int32 → (Nat → Int32) → Prop) (fun _ _ _ => False) (fun _ k20 => fun (y2_20 : Int32) (x_typed_20 : Int32) (f_text_20 : Nat → Int32) => ((y2_20 < 0 → (Post x_typed_20 (x_typed_20, (0 : Int32), f_text_20))) ∧ (¬ y2_20 < 0 → (vp_in x_typed_20 80 ∧ (k20 (y2_20 + (-1 : Int32)) (x_typed_20 + (1 : Int32)) (upd f_text_20 x_typed_20.toNatClampNeg (vp_nar .byte ((p1 >>> (((8 : Int32) * y2_20) &&& 31)).toInt8.toInt32)))))))) n
theorem p_X8_sign_20_s (F : Nat) (p1 : Int32) (Post : Int32 → (Int32 × Int32 × (Nat → Int32)) → Prop) (n : Nat) (y2_20 : Int32) (x_typed_20 : Int32) (f_text_20 : Nat → Int32) : p_X8_sign_20 F p1 Post (n + 1) y2_20 x_typed_20 f_text_20 = ((y2_20 < 0 → (Post x_typed_20 (x_typed_20, (0 : Int32), f_text_20))) ∧ (¬ y2_20 < 0 → (vp_in x_typed_20 80 ∧ ((p_X8_sign_20 F p1 Post n) (y2_20 + (-1 : Int32)) (x_typed_20 + (1 : Int32)) (upd f_text_20 x_typed_20.toNatClampNeg (vp_nar .byte ((p1 >>> (((8 : Int32) * y2_20) &&& 31)).toInt8.toInt32))))))) := rfl
def p_X8_sign (F : Nat) (p1 : Int32) (x_typed : Int32) (f_text : Nat → Int32) (Post : Int32 → (Int32 × Int32 × (Nat → Int32)) → Prop) : Prop := (((x_typed + (4 : Int32)) ≤ (80 : Int32) → (p_X8_sign_20 F p1 Post F (3 : Int32) x_typed f_text)) ∧ (¬ (x_typed + (4 : Int32)) ≤ (80 : Int32) → (Post (-1 : Int32) (x_typed, (0 : Int32), f_text))))
set_option maxHeartbeats 4000000 in
set_option maxRecDepth 100000 in
theorem c_X8_sign (l : Launch) (D : va_G) (cT : Nat → ClassId) (F : Nat) (h : Nat) (p1 : Int32) (w_now : Value) (x_arches : Int32) (x_cats : Int32) (q_text : Nat) (x_typed : Int32) (w_row : Value) (x_rowMany : Int32) (x_thrown : Int32) (w_read : Value) (x_length : Int32) (x_top : Int32) (x_at : Int32) (x_wrong : Int32) (w_told : Value) (w_rule : Value) (w_otherRule : Value) (x_ruleSize : Int32) (x_isAsked : Int32) (w_asked : Value) (w_undos : Value) (x_undoMany : Int32) (w_aside : Value) (w_then : Value) (w_hold : Value) (x_dropped : Int32) (w_acts : Value) (w_guarded : Value) (w_train : Value) (x_trolleyEnd : Int32) (w_feltOf : Value) (w_feltBy : Value) (x_feltMany : Int32) (w_many : Value) (w_heardOf : Value) (w_heardBy : Value) (x_heardMany : Int32) (w_worth : Value) (x_drawn : Int32) (x_came : Int32) (w_kept : Value) (w_isKept : Value) (w_keptCame : Value) (f_text : Nat → Int32) (Post : Int32 → (Int32 × Int32 × (Nat → Int32)) → Prop) (hg : p_X8_sign F p1 x_typed f_text Post) : MWi l D cT yX8_sign cX8_sign 3 (some .int) 0 0 0 0 [.ref h, .int p1] [(h, oX8 w_now (.int x_arches) (.int x_cats) (.ref q_text) (.int x_typed) w_row (.int x_rowMany) (.int x_thrown) w_read (.int x_length) (.int x_top) (.int x_at) (.int x_wrong) w_told w_rule w_otherRule (.int x_ruleSize) (.int x_isAsked) w_asked w_undos (.int x_undoMany) w_aside w_then w_hold (.int x_dropped) w_acts w_guarded w_train (.int x_trolleyEnd) w_feltOf w_feltBy (.int x_feltMany) w_many w_heardOf w_heardBy (.int x_heardMany) w_worth (.int x_drawn) (.int x_came) w_kept w_isKept w_keptCame), (q_text, aB cT 80 f_text)] Post (fun (u : (Int32 × Int32 × (Nat → Int32))) => [(h, oX8 w_now (.int x_arches) (.int x_cats) (.ref q_text) (.int u.1) w_row (.int x_rowMany) (.int u.2.1) w_read (.int x_length) (.int x_top) (.int x_at) (.int x_wrong) w_told w_rule w_otherRule (.int x_ruleSize) (.int x_isAsked) w_asked w_undos (.int x_undoMany) w_aside w_then w_hold (.int x_dropped) w_acts w_guarded w_train (.int x_trolleyEnd) w_feltOf w_feltBy (.int x_feltMany) w_many w_heardOf w_heardBy (.int x_heardMany) w_worth (.int x_drawn) (.int x_came) w_kept w_isKept w_keptCame), (q_text, aB cT 80 u.2.2)]) := by
  refine MWi.of (by decide) (Nat.le_of_ble_eq_true rfl) ?_
  intro p e s m below meth c A hA C0 hnm hr hP hD ls hl
  have hl : lv_has ls 3 [(0, .ref h), (1, .int p1)] := hl
  have hx := C0.x
  have hb := C0.b
  have hS : va_S A s.heap s.heap [] := va_S.rf
  have hP : va_P D cls9 [(h, oX8 w_now (.int x_arches) (.int x_cats) (.ref q_text) (.int x_typed) w_row (.int x_rowMany) (.int x_thrown) w_read (.int x_length) (.int x_top) (.int x_at) (.int x_wrong) w_told w_rule w_otherRule (.int x_ruleSize) (.int x_isAsked) w_asked w_undos (.int x_undoMany) w_aside w_then w_hold (.int x_dropped) w_acts w_guarded w_train (.int x_trolleyEnd) w_feltOf w_feltBy (.int x_feltMany) w_many w_heardOf w_heardBy (.int x_heardMany) w_worth (.int x_drawn) (.int x_came) w_kept w_isKept w_keptCame), (q_text, aB cT 80 f_text)] s.heap := hP
  have hD : va_D A [(h, oX8 w_now (.int x_arches) (.int x_cats) (.ref q_text) (.int x_typed) w_row (.int x_rowMany) (.int x_thrown) w_read (.int x_length) (.int x_top) (.int x_at) (.int x_wrong) w_told w_rule w_otherRule (.int x_ruleSize) (.int x_isAsked) w_asked w_undos (.int x_undoMany) w_aside w_then w_hold (.int x_dropped) w_acts w_guarded w_train (.int x_trolleyEnd) w_feltOf w_feltBy (.int x_feltMany) w_many w_heardOf w_heardBy (.int x_heardMany) w_worth (.int x_drawn) (.int x_came) w_kept w_isKept w_keptCame), (q_text, aB cT 80 f_text)] := hD
  have L20 : ∀ (n20 : Nat) (y2_20 : Int32) (x_typed_20 : Int32) (f_text_20 : Nat → Int32) (H : Heap) (locs : List Loc) (ls : Array Slot), p_X8_sign_20 F p1 Post n20 y2_20 x_typed_20 f_text_20 → va_P D cls9 [(h, oX8 w_now (.int x_arches) (.int x_cats) (.ref q_text) (.int x_typed_20) w_row (.int x_rowMany) (.int (0 : Int32)) w_read (.int x_length) (.int x_top) (.int x_at) (.int x_wrong) w_told w_rule w_otherRule (.int x_ruleSize) (.int x_isAsked) w_asked w_undos (.int x_undoMany) w_aside w_then w_hold (.int x_dropped) w_acts w_guarded w_train (.int x_trolleyEnd) w_feltOf w_feltBy (.int x_feltMany) w_many w_heardOf w_heardBy (.int x_heardMany) w_worth (.int x_drawn) (.int x_came) w_kept w_isKept w_keptCame), (q_text, aB cT 80 f_text_20)] H → va_D A [(h, oX8 w_now (.int x_arches) (.int x_cats) (.ref q_text) (.int x_typed_20) w_row (.int x_rowMany) (.int (0 : Int32)) w_read (.int x_length) (.int x_top) (.int x_at) (.int x_wrong) w_told w_rule w_otherRule (.int x_ruleSize) (.int x_isAsked) w_asked w_undos (.int x_undoMany) w_aside w_then w_hold (.int x_dropped) w_acts w_guarded w_train (.int x_trolleyEnd) w_feltOf w_feltBy (.int x_feltMany) w_many w_heardOf w_heardBy (.int x_heardMany) w_worth (.int x_drawn) (.int x_came) w_kept w_isKept w_keptCame), (q_text, aB cT 80 f_text_20)] → va_S A s.heap H locs → lv_has ls 3 [(0, .ref h), (1, .int p1), (2, .int y2_20)] → W p l e (rmO 0 0 0 0) s m ([.ref h, .int p1] : List Value).toArray below meth c H locs 0 0 (MQ below (va_Qi Post (cB D A (fun (u : (Int32 × Int32 × (Nat → Int32))) => [(h, oX8 w_now (.int x_arches) (.int x_cats) (.ref q_text) (.int u.1) w_row (.int x_rowMany) (.int u.2.1) w_read (.int x_length) (.int x_top) (.int x_at) (.int x_wrong) w_told w_rule w_otherRule (.int x_ruleSize) (.int x_isAsked) w_asked w_undos (.int x_undoMany) w_aside w_then w_hold (.int x_dropped) w_acts w_guarded w_train (.int x_trolleyEnd) w_feltOf w_feltBy (.int x_feltMany) w_many w_heardOf w_heardBy (.int x_heardMany) w_worth (.int x_drawn) (.int x_came) w_kept w_isKept w_keptCame), (q_text, aB cT 80 u.2.2)])) A) ([.ref h, .int p1] : List Value).toArray s 0 0 A) (F0 m 20 ls []) := by
    intro n20
    induction n20 with
    | zero =>
      intro y2_20 x_typed_20 f_text_20 H locs ls hg hP hD hS hl
      exact False.elim hg
    | succ n20 ih20 =>
      intro y2_20 x_typed_20 f_text_20 H locs ls hg hP hD hS hl
      rw [p_X8_sign_20_s] at hg
      refine lv_iload_n hx hb dX8_sign_20 rfl (lv_at hl 2 rfl) ?_
      refine lv_if_lt (tgt := 53) hx hb dX8_sign_21 (by decide) (fun c_21 => ?_) (fun c_21 => ?_)
      · have hg := hg.1 c_21
        refine lv_aload_n hx hb dX8_sign_53 rfl (lv_at hl 0 rfl) ?_
        refine gf_X8_99 C0 hP 0 rfl rfl dX8_sign_54 ?_
        exact k_iret C0 hr (x_typed_20, (0 : Int32), f_text_20) hg hP hD hS dX8_sign_57
      have hg := hg.2 c_21
      refine lv_aload_n hx hb dX8_sign_24 rfl (lv_at hl 0 rfl) ?_
      refine gf_X8_13 C0 hP 0 rfl rfl dX8_sign_25 ?_
      refine lv_aload_n hx hb dX8_sign_28 rfl (lv_at hl 0 rfl) ?_
      refine lv_dup hx hb dX8_sign_29 rfl ?_
      refine gf_X8_99 C0 hP 0 rfl rfl dX8_sign_30 ?_
      refine lv_dup_x1 hx hb dX8_sign_33 rfl rfl ?_
      refine lv_iconst (v := (1 : Int32)) hx hb dX8_sign_34 (by decide) ?_
      refine lv_iadd hx hb dX8_sign_35 ?_
      refine pf_X8_99 C0 hP hD hS 0 rfl (Nat.le_of_ble_eq_true rfl) (ws2 := [(h, oX8 w_now (.int x_arches) (.int x_cats) (.ref q_text) (.int (x_typed_20 + (1 : Int32))) w_row (.int x_rowMany) (.int (0 : Int32)) w_read (.int x_length) (.int x_top) (.int x_at) (.int x_wrong) w_told w_rule w_otherRule (.int x_ruleSize) (.int x_isAsked) w_asked w_undos (.int x_undoMany) w_aside w_then w_hold (.int x_dropped) w_acts w_guarded w_train (.int x_trolleyEnd) w_feltOf w_feltBy (.int x_feltMany) w_many w_heardOf w_heardBy (.int x_heardMany) w_worth (.int x_drawn) (.int x_came) w_kept w_isKept w_keptCame), (q_text, aB cT 80 f_text_20)]) rfl dX8_sign_36 (fun H locs hP hD hS => ?_)
      refine lv_iload_n hx hb dX8_sign_39 rfl (lv_at hl 1 rfl) ?_
      refine lv_bipush (v := (8 : Int32)) hx hb dX8_sign_40 (by decide) ?_
      refine lv_iload_n hx hb dX8_sign_42 rfl (lv_at hl 2 rfl) ?_
      refine lv_imul hx hb dX8_sign_43 ?_
      refine lv_ishr hx hb dX8_sign_44 ?_
      refine lv_i2b (v := ((p1 >>> (((8 : Int32) * y2_20) &&& 31)).toInt8.toInt32)) hx hb dX8_sign_45 rfl ?_
      obtain ⟨g_46, hg⟩ := hg
      refine k_bast C0 hP hD hS 1 rfl g_46 (ws' := [(h, oX8 w_now (.int x_arches) (.int x_cats) (.ref q_text) (.int (x_typed_20 + (1 : Int32))) w_row (.int x_rowMany) (.int (0 : Int32)) w_read (.int x_length) (.int x_top) (.int x_at) (.int x_wrong) w_told w_rule w_otherRule (.int x_ruleSize) (.int x_isAsked) w_asked w_undos (.int x_undoMany) w_aside w_then w_hold (.int x_dropped) w_acts w_guarded w_train (.int x_trolleyEnd) w_feltOf w_feltBy (.int x_feltMany) w_many w_heardOf w_heardBy (.int x_heardMany) w_worth (.int x_drawn) (.int x_came) w_kept w_isKept w_keptCame), (q_text, aB cT 80 (upd f_text_20 x_typed_20.toNatClampNeg (vp_nar .byte ((p1 >>> (((8 : Int32) * y2_20) &&& 31)).toInt8.toInt32))))]) rfl dX8_sign_46 (fun H locs hP hD hS => ?_)
      refine lv_iinc (v := (y2_20 + (-1 : Int32))) (lv' := [(2, .int (y2_20 + (-1 : Int32))), (0, .ref h), (1, .int p1)]) hx hb dX8_sign_47 hl (k := 2) rfl rfl (by decide) rfl (fun ls hl => ?_)
      refine lv_goto (tgt := 20) hx hb dX8_sign_50 (by decide) ?_
      exact ih20 (y2_20 + (-1 : Int32)) (x_typed_20 + (1 : Int32)) (upd f_text_20 x_typed_20.toNatClampNeg (vp_nar .byte ((p1 >>> (((8 : Int32) * y2_20) &&& 31)).toInt8.toInt32))) _ _ _ hg hP hD hS (lv_sub hl [1, 2, 0] rfl)
  unfold p_X8_sign at hg
  refine lv_aload_n hx hb dX8_sign_0 rfl (lv_at hl 0 rfl) ?_
  refine lv_iconst (v := (0 : Int32)) hx hb dX8_sign_1 (by decide) ?_
  refine pf_X8_82 C0 hP hD hS 0 rfl (Nat.le_of_ble_eq_true rfl) (ws2 := [(h, oX8 w_now (.int x_arches) (.int x_cats) (.ref q_text) (.int x_typed) w_row (.int x_rowMany) (.int (0 : Int32)) w_read (.int x_length) (.int x_top) (.int x_at) (.int x_wrong) w_told w_rule w_otherRule (.int x_ruleSize) (.int x_isAsked) w_asked w_undos (.int x_undoMany) w_aside w_then w_hold (.int x_dropped) w_acts w_guarded w_train (.int x_trolleyEnd) w_feltOf w_feltBy (.int x_feltMany) w_many w_heardOf w_heardBy (.int x_heardMany) w_worth (.int x_drawn) (.int x_came) w_kept w_isKept w_keptCame), (q_text, aB cT 80 f_text)]) rfl dX8_sign_2 (fun H locs hP hD hS => ?_)
  refine lv_aload_n hx hb dX8_sign_5 rfl (lv_at hl 0 rfl) ?_
  refine gf_X8_99 C0 hP 0 rfl rfl dX8_sign_6 ?_
  refine lv_iconst (v := (4 : Int32)) hx hb dX8_sign_9 (by decide) ?_
  refine lv_iadd hx hb dX8_sign_10 ?_
  refine lv_bipush (v := (80 : Int32)) hx hb dX8_sign_11 (by decide) ?_
  refine lv_icmp_le (tgt := 18) hx hb dX8_sign_13 (by decide) (fun c_13 => ?_) (fun c_13 => ?_)
  · have hg := hg.1 c_13
    refine lv_iconst (v := (3 : Int32)) hx hb dX8_sign_18 (by decide) ?_
    refine lv_istore_n (lv' := [(2, .int (3 : Int32)), (0, .ref h), (1, .int p1)]) hx hb dX8_sign_19 rfl hl (by decide) rfl (fun ls hl => ?_)
    exact L20 F (3 : Int32) x_typed f_text _ _ _ hg hP hD hS (lv_sub hl [1, 2, 0] rfl)
  have hg := hg.2 c_13
  refine lv_iconst (v := (-1 : Int32)) hx hb dX8_sign_16 (by decide) ?_
  exact k_iret C0 hr (x_typed, (0 : Int32), f_text) hg hP hD hS dX8_sign_17
theorem dX8_end_0 : decode cX8_end 0 = .ok (.aload_n 0, 1) := by decide +kernel
theorem dX8_end_1 : decode cX8_end 1 = .ok (.iconst 0, 1) := by decide +kernel
theorem dX8_end_2 : decode cX8_end 2 = .ok (.putfield 82, 3) := by decide +kernel
theorem dX8_end_5 : decode cX8_end 5 = .ok (.iload_n 1, 1) := by decide +kernel
theorem dX8_end_6 : decode cX8_end 6 = .ok (.iconst 0, 1) := by decide +kernel
theorem dX8_end_7 : decode cX8_end 7 = .ok (.aload_n 0, 1) := by decide +kernel
theorem dX8_end_8 : decode cX8_end 8 = .ok (.getfield 99, 3) := by decide +kernel
theorem dX8_end_11 : decode cX8_end 11 = .ok (.invokestatic 92, 3) := by decide +kernel
theorem dX8_end_14 : decode cX8_end 14 = .ok (.ifCond .ne 5, 3) := by decide +kernel
theorem dX8_end_17 : decode cX8_end 17 = .ok (.iconst 0, 1) := by decide +kernel
theorem dX8_end_18 : decode cX8_end 18 = .ok (.ireturn, 1) := by decide +kernel
theorem dX8_end_19 : decode cX8_end 19 = .ok (.aload_n 0, 1) := by decide +kernel
theorem dX8_end_20 : decode cX8_end 20 = .ok (.iload_n 1, 1) := by decide +kernel
theorem dX8_end_21 : decode cX8_end 21 = .ok (.putfield 99, 3) := by decide +kernel
theorem dX8_end_24 : decode cX8_end 24 = .ok (.iconst 1, 1) := by decide +kernel
theorem dX8_end_25 : decode cX8_end 25 = .ok (.ireturn, 1) := by decide +kernel
def p_X8_end (F : Nat) (p1 : Int32) (x_typed : Int32) (Post : Int32 → (Int32 × Int32) → Prop) : Prop := (p_X8_in F p1 (0 : Int32) x_typed (fun (r_11 : Int32) => ((¬ r_11 = 0 → (Post (1 : Int32) (p1, (0 : Int32)))) ∧ (r_11 = 0 → (Post (0 : Int32) (x_typed, (0 : Int32)))))))
set_option maxHeartbeats 4000000 in
set_option maxRecDepth 100000 in
theorem c_X8_end (l : Launch) (D : va_G) (cT : Nat → ClassId) (F : Nat) (h : Nat) (p1 : Int32) (w_now : Value) (x_arches : Int32) (x_cats : Int32) (w_text : Value) (x_typed : Int32) (w_row : Value) (x_rowMany : Int32) (x_thrown : Int32) (w_read : Value) (x_length : Int32) (x_top : Int32) (x_at : Int32) (x_wrong : Int32) (w_told : Value) (w_rule : Value) (w_otherRule : Value) (x_ruleSize : Int32) (x_isAsked : Int32) (w_asked : Value) (w_undos : Value) (x_undoMany : Int32) (w_aside : Value) (w_then : Value) (w_hold : Value) (x_dropped : Int32) (w_acts : Value) (w_guarded : Value) (w_train : Value) (x_trolleyEnd : Int32) (w_feltOf : Value) (w_feltBy : Value) (x_feltMany : Int32) (w_many : Value) (w_heardOf : Value) (w_heardBy : Value) (x_heardMany : Int32) (w_worth : Value) (x_drawn : Int32) (x_came : Int32) (w_kept : Value) (w_isKept : Value) (w_keptCame : Value) (Post : Int32 → (Int32 × Int32) → Prop) (hg : p_X8_end F p1 x_typed Post) : MWi l D cT yX8_end cX8_end 2 (some .boolean) 1 22 0 0 [.ref h, .int p1] [(h, oX8 w_now (.int x_arches) (.int x_cats) w_text (.int x_typed) w_row (.int x_rowMany) (.int x_thrown) w_read (.int x_length) (.int x_top) (.int x_at) (.int x_wrong) w_told w_rule w_otherRule (.int x_ruleSize) (.int x_isAsked) w_asked w_undos (.int x_undoMany) w_aside w_then w_hold (.int x_dropped) w_acts w_guarded w_train (.int x_trolleyEnd) w_feltOf w_feltBy (.int x_feltMany) w_many w_heardOf w_heardBy (.int x_heardMany) w_worth (.int x_drawn) (.int x_came) w_kept w_isKept w_keptCame)] Post (fun (u : (Int32 × Int32)) => [(h, oX8 w_now (.int x_arches) (.int x_cats) w_text (.int u.1) w_row (.int x_rowMany) (.int u.2) w_read (.int x_length) (.int x_top) (.int x_at) (.int x_wrong) w_told w_rule w_otherRule (.int x_ruleSize) (.int x_isAsked) w_asked w_undos (.int x_undoMany) w_aside w_then w_hold (.int x_dropped) w_acts w_guarded w_train (.int x_trolleyEnd) w_feltOf w_feltBy (.int x_feltMany) w_many w_heardOf w_heardBy (.int x_heardMany) w_worth (.int x_drawn) (.int x_came) w_kept w_isKept w_keptCame)]) := by
  refine MWi.of (by decide) (Nat.le_of_ble_eq_true rfl) ?_
  intro p e s m below meth c A hA C0 hnm hr hP hD ls hl
  have hl : lv_has ls 2 [(0, .ref h), (1, .int p1)] := hl
  have hx := C0.x
  have hb := C0.b
  have hS : va_S A s.heap s.heap [] := va_S.rf
  have hP : va_P D cls9 [(h, oX8 w_now (.int x_arches) (.int x_cats) w_text (.int x_typed) w_row (.int x_rowMany) (.int x_thrown) w_read (.int x_length) (.int x_top) (.int x_at) (.int x_wrong) w_told w_rule w_otherRule (.int x_ruleSize) (.int x_isAsked) w_asked w_undos (.int x_undoMany) w_aside w_then w_hold (.int x_dropped) w_acts w_guarded w_train (.int x_trolleyEnd) w_feltOf w_feltBy (.int x_feltMany) w_many w_heardOf w_heardBy (.int x_heardMany) w_worth (.int x_drawn) (.int x_came) w_kept w_isKept w_keptCame)] s.heap := hP
  have hD : va_D A [(h, oX8 w_now (.int x_arches) (.int x_cats) w_text (.int x_typed) w_row (.int x_rowMany) (.int x_thrown) w_read (.int x_length) (.int x_top) (.int x_at) (.int x_wrong) w_told w_rule w_otherRule (.int x_ruleSize) (.int x_isAsked) w_asked w_undos (.int x_undoMany) w_aside w_then w_hold (.int x_dropped) w_acts w_guarded w_train (.int x_trolleyEnd) w_feltOf w_feltBy (.int x_feltMany) w_many w_heardOf w_heardBy (.int x_heardMany) w_worth (.int x_drawn) (.int x_came) w_kept w_isKept w_keptCame)] := hD
  unfold p_X8_end at hg
  refine lv_aload_n hx hb dX8_end_0 rfl (lv_at hl 0 rfl) ?_
  refine lv_iconst (v := (0 : Int32)) hx hb dX8_end_1 (by decide) ?_
  refine pf_X8_82 C0 hP hD hS 0 rfl (Nat.le_of_ble_eq_true rfl) (ws2 := [(h, oX8 w_now (.int x_arches) (.int x_cats) w_text (.int x_typed) w_row (.int x_rowMany) (.int (0 : Int32)) w_read (.int x_length) (.int x_top) (.int x_at) (.int x_wrong) w_told w_rule w_otherRule (.int x_ruleSize) (.int x_isAsked) w_asked w_undos (.int x_undoMany) w_aside w_then w_hold (.int x_dropped) w_acts w_guarded w_train (.int x_trolleyEnd) w_feltOf w_feltBy (.int x_feltMany) w_many w_heardOf w_heardBy (.int x_heardMany) w_worth (.int x_drawn) (.int x_came) w_kept w_isKept w_keptCame)]) rfl dX8_end_2 (fun H locs hP hD hS => ?_)
  refine lv_iload_n hx hb dX8_end_5 rfl (lv_at hl 1 rfl) ?_
  refine lv_iconst (v := (0 : Int32)) hx hb dX8_end_6 (by decide) ?_
  refine lv_aload_n hx hb dX8_end_7 rfl (lv_at hl 0 rfl) ?_
  refine gf_X8_99 C0 hP 0 rfl rfl dX8_end_8 ?_
  refine k_Sxi (rest := []) C0 lk_X8_92 (c_X8_in l D cT F p1 (0 : Int32) x_typed _ hg) hP hD hS hA [] (by decide +kernel) rfl ⟨Nat.le_of_ble_eq_true rfl, Nat.le_of_ble_eq_true rfl⟩ rfl hl.1 rfl (Nat.le_of_ble_eq_true rfl) dX8_end_11 ⟨Nat.le_of_ble_eq_true rfl, Nat.le_of_ble_eq_true rfl⟩ (fun r_11 hg => ?_)
  refine lv_if_ne (tgt := 19) hx hb dX8_end_14 (by decide) (fun c_14 => ?_) (fun c_14 => ?_)
  · have hg := hg.1 c_14
    refine lv_aload_n hx hb dX8_end_19 rfl (lv_at hl 0 rfl) ?_
    refine lv_iload_n hx hb dX8_end_20 rfl (lv_at hl 1 rfl) ?_
    refine pf_X8_99 C0 hP hD hS 0 rfl (Nat.le_of_ble_eq_true rfl) (ws2 := [(h, oX8 w_now (.int x_arches) (.int x_cats) w_text (.int p1) w_row (.int x_rowMany) (.int (0 : Int32)) w_read (.int x_length) (.int x_top) (.int x_at) (.int x_wrong) w_told w_rule w_otherRule (.int x_ruleSize) (.int x_isAsked) w_asked w_undos (.int x_undoMany) w_aside w_then w_hold (.int x_dropped) w_acts w_guarded w_train (.int x_trolleyEnd) w_feltOf w_feltBy (.int x_feltMany) w_many w_heardOf w_heardBy (.int x_heardMany) w_worth (.int x_drawn) (.int x_came) w_kept w_isKept w_keptCame)]) rfl dX8_end_21 (fun H locs hP hD hS => ?_)
    refine lv_iconst (v := (1 : Int32)) hx hb dX8_end_24 (by decide) ?_
    exact k_zret C0 hr (Or.inr rfl) (p1, (0 : Int32)) hg hP hD hS dX8_end_25
  have hg := hg.2 c_14
  refine lv_iconst (v := (0 : Int32)) hx hb dX8_end_17 (by decide) ?_
  exact k_zret C0 hr (Or.inl rfl) (x_typed, (0 : Int32)) hg hP hD hS dX8_end_18
theorem dX8_begin_0 : decode cX8_begin 0 = .ok (.aload_n 0, 1) := by decide +kernel
theorem dX8_begin_1 : decode cX8_begin 1 = .ok (.aload_n 1, 1) := by decide +kernel
theorem dX8_begin_2 : decode cX8_begin 2 = .ok (.putfield 102, 3) := by decide +kernel
theorem dX8_begin_5 : decode cX8_begin 5 = .ok (.aload_n 0, 1) := by decide +kernel
theorem dX8_begin_6 : decode cX8_begin 6 = .ok (.iload_n 2, 1) := by decide +kernel
theorem dX8_begin_7 : decode cX8_begin 7 = .ok (.putfield 105, 3) := by decide +kernel
theorem dX8_begin_10 : decode cX8_begin 10 = .ok (.aload_n 0, 1) := by decide +kernel
theorem dX8_begin_11 : decode cX8_begin 11 = .ok (.iload_n 3, 1) := by decide +kernel
theorem dX8_begin_12 : decode cX8_begin 12 = .ok (.putfield 108, 3) := by decide +kernel
theorem dX8_begin_15 : decode cX8_begin 15 = .ok (.aload_n 0, 1) := by decide +kernel
theorem dX8_begin_16 : decode cX8_begin 16 = .ok (.iconst 0, 1) := by decide +kernel
theorem dX8_begin_17 : decode cX8_begin 17 = .ok (.putfield 111, 3) := by decide +kernel
theorem dX8_begin_20 : decode cX8_begin 20 = .ok (.aload_n 0, 1) := by decide +kernel
theorem dX8_begin_21 : decode cX8_begin 21 = .ok (.iconst (-1), 1) := by decide +kernel
theorem dX8_begin_22 : decode cX8_begin 22 = .ok (.putfield 114, 3) := by decide +kernel
theorem dX8_begin_25 : decode cX8_begin 25 = .ok (.return_, 1) := by decide +kernel
def p_X8_begin (F : Nat) (p2 : Int32) (p3 : Int32) (Post : (Int32 × Int32 × Int32 × Int32) → Prop) : Prop := (Post (p2, p3, (0 : Int32), (-1 : Int32)))
set_option maxHeartbeats 4000000 in
set_option maxRecDepth 100000 in
theorem c_X8_begin (l : Launch) (D : va_G) (cT : Nat → ClassId) (F : Nat) (h : Nat) (b1 : Nat) (p2 : Int32) (p3 : Int32) (w_now : Value) (x_arches : Int32) (x_cats : Int32) (w_text : Value) (x_typed : Int32) (w_row : Value) (x_rowMany : Int32) (x_thrown : Int32) (w_read : Value) (x_length : Int32) (x_top : Int32) (x_at : Int32) (x_wrong : Int32) (w_told : Value) (w_rule : Value) (w_otherRule : Value) (x_ruleSize : Int32) (x_isAsked : Int32) (w_asked : Value) (w_undos : Value) (x_undoMany : Int32) (w_aside : Value) (w_then : Value) (w_hold : Value) (x_dropped : Int32) (w_acts : Value) (w_guarded : Value) (w_train : Value) (x_trolleyEnd : Int32) (w_feltOf : Value) (w_feltBy : Value) (x_feltMany : Int32) (w_many : Value) (w_heardOf : Value) (w_heardBy : Value) (x_heardMany : Int32) (w_worth : Value) (x_drawn : Int32) (x_came : Int32) (w_kept : Value) (w_isKept : Value) (w_keptCame : Value) (Post : (Int32 × Int32 × Int32 × Int32) → Prop) (hg : p_X8_begin F p2 p3 Post) : MWv l D cT yX8_begin cX8_begin 4 none 0 0 0 0 [.ref h, .ref b1, .int p2, .int p3] [(h, oX8 w_now (.int x_arches) (.int x_cats) w_text (.int x_typed) w_row (.int x_rowMany) (.int x_thrown) w_read (.int x_length) (.int x_top) (.int x_at) (.int x_wrong) w_told w_rule w_otherRule (.int x_ruleSize) (.int x_isAsked) w_asked w_undos (.int x_undoMany) w_aside w_then w_hold (.int x_dropped) w_acts w_guarded w_train (.int x_trolleyEnd) w_feltOf w_feltBy (.int x_feltMany) w_many w_heardOf w_heardBy (.int x_heardMany) w_worth (.int x_drawn) (.int x_came) w_kept w_isKept w_keptCame)] Post (fun (u : (Int32 × Int32 × Int32 × Int32)) => [(h, oX8 w_now (.int x_arches) (.int x_cats) w_text (.int x_typed) w_row (.int x_rowMany) (.int x_thrown) (.ref b1) (.int u.1) (.int u.2.1) (.int u.2.2.1) (.int u.2.2.2) w_told w_rule w_otherRule (.int x_ruleSize) (.int x_isAsked) w_asked w_undos (.int x_undoMany) w_aside w_then w_hold (.int x_dropped) w_acts w_guarded w_train (.int x_trolleyEnd) w_feltOf w_feltBy (.int x_feltMany) w_many w_heardOf w_heardBy (.int x_heardMany) w_worth (.int x_drawn) (.int x_came) w_kept w_isKept w_keptCame)]) := by
  refine MWv.of (by decide) (Nat.le_of_ble_eq_true rfl) ?_
  intro p e s m below meth c A hA C0 hnm hr hP hD ls hl
  have hl : lv_has ls 4 [(0, .ref h), (1, .ref b1), (2, .int p2), (3, .int p3)] := hl
  have hx := C0.x
  have hb := C0.b
  have hS : va_S A s.heap s.heap [] := va_S.rf
  have hP : va_P D cls9 [(h, oX8 w_now (.int x_arches) (.int x_cats) w_text (.int x_typed) w_row (.int x_rowMany) (.int x_thrown) w_read (.int x_length) (.int x_top) (.int x_at) (.int x_wrong) w_told w_rule w_otherRule (.int x_ruleSize) (.int x_isAsked) w_asked w_undos (.int x_undoMany) w_aside w_then w_hold (.int x_dropped) w_acts w_guarded w_train (.int x_trolleyEnd) w_feltOf w_feltBy (.int x_feltMany) w_many w_heardOf w_heardBy (.int x_heardMany) w_worth (.int x_drawn) (.int x_came) w_kept w_isKept w_keptCame)] s.heap := hP
  have hD : va_D A [(h, oX8 w_now (.int x_arches) (.int x_cats) w_text (.int x_typed) w_row (.int x_rowMany) (.int x_thrown) w_read (.int x_length) (.int x_top) (.int x_at) (.int x_wrong) w_told w_rule w_otherRule (.int x_ruleSize) (.int x_isAsked) w_asked w_undos (.int x_undoMany) w_aside w_then w_hold (.int x_dropped) w_acts w_guarded w_train (.int x_trolleyEnd) w_feltOf w_feltBy (.int x_feltMany) w_many w_heardOf w_heardBy (.int x_heardMany) w_worth (.int x_drawn) (.int x_came) w_kept w_isKept w_keptCame)] := hD
  unfold p_X8_begin at hg
  refine lv_aload_n hx hb dX8_begin_0 rfl (lv_at hl 0 rfl) ?_
  refine lv_aload_n hx hb dX8_begin_1 rfl (lv_at hl 1 rfl) ?_
  refine pf_X8_102 C0 hP hD hS 0 rfl (Nat.le_of_ble_eq_true rfl) (ws2 := [(h, oX8 w_now (.int x_arches) (.int x_cats) w_text (.int x_typed) w_row (.int x_rowMany) (.int x_thrown) (.ref b1) (.int x_length) (.int x_top) (.int x_at) (.int x_wrong) w_told w_rule w_otherRule (.int x_ruleSize) (.int x_isAsked) w_asked w_undos (.int x_undoMany) w_aside w_then w_hold (.int x_dropped) w_acts w_guarded w_train (.int x_trolleyEnd) w_feltOf w_feltBy (.int x_feltMany) w_many w_heardOf w_heardBy (.int x_heardMany) w_worth (.int x_drawn) (.int x_came) w_kept w_isKept w_keptCame)]) rfl dX8_begin_2 (fun H locs hP hD hS => ?_)
  refine lv_aload_n hx hb dX8_begin_5 rfl (lv_at hl 0 rfl) ?_
  refine lv_iload_n hx hb dX8_begin_6 rfl (lv_at hl 2 rfl) ?_
  refine pf_X8_105 C0 hP hD hS 0 rfl (Nat.le_of_ble_eq_true rfl) (ws2 := [(h, oX8 w_now (.int x_arches) (.int x_cats) w_text (.int x_typed) w_row (.int x_rowMany) (.int x_thrown) (.ref b1) (.int p2) (.int x_top) (.int x_at) (.int x_wrong) w_told w_rule w_otherRule (.int x_ruleSize) (.int x_isAsked) w_asked w_undos (.int x_undoMany) w_aside w_then w_hold (.int x_dropped) w_acts w_guarded w_train (.int x_trolleyEnd) w_feltOf w_feltBy (.int x_feltMany) w_many w_heardOf w_heardBy (.int x_heardMany) w_worth (.int x_drawn) (.int x_came) w_kept w_isKept w_keptCame)]) rfl dX8_begin_7 (fun H locs hP hD hS => ?_)
  refine lv_aload_n hx hb dX8_begin_10 rfl (lv_at hl 0 rfl) ?_
  refine lv_iload_n hx hb dX8_begin_11 rfl (lv_at hl 3 rfl) ?_
  refine pf_X8_108 C0 hP hD hS 0 rfl (Nat.le_of_ble_eq_true rfl) (ws2 := [(h, oX8 w_now (.int x_arches) (.int x_cats) w_text (.int x_typed) w_row (.int x_rowMany) (.int x_thrown) (.ref b1) (.int p2) (.int p3) (.int x_at) (.int x_wrong) w_told w_rule w_otherRule (.int x_ruleSize) (.int x_isAsked) w_asked w_undos (.int x_undoMany) w_aside w_then w_hold (.int x_dropped) w_acts w_guarded w_train (.int x_trolleyEnd) w_feltOf w_feltBy (.int x_feltMany) w_many w_heardOf w_heardBy (.int x_heardMany) w_worth (.int x_drawn) (.int x_came) w_kept w_isKept w_keptCame)]) rfl dX8_begin_12 (fun H locs hP hD hS => ?_)
  refine lv_aload_n hx hb dX8_begin_15 rfl (lv_at hl 0 rfl) ?_
  refine lv_iconst (v := (0 : Int32)) hx hb dX8_begin_16 (by decide) ?_
  refine pf_X8_111 C0 hP hD hS 0 rfl (Nat.le_of_ble_eq_true rfl) (ws2 := [(h, oX8 w_now (.int x_arches) (.int x_cats) w_text (.int x_typed) w_row (.int x_rowMany) (.int x_thrown) (.ref b1) (.int p2) (.int p3) (.int (0 : Int32)) (.int x_wrong) w_told w_rule w_otherRule (.int x_ruleSize) (.int x_isAsked) w_asked w_undos (.int x_undoMany) w_aside w_then w_hold (.int x_dropped) w_acts w_guarded w_train (.int x_trolleyEnd) w_feltOf w_feltBy (.int x_feltMany) w_many w_heardOf w_heardBy (.int x_heardMany) w_worth (.int x_drawn) (.int x_came) w_kept w_isKept w_keptCame)]) rfl dX8_begin_17 (fun H locs hP hD hS => ?_)
  refine lv_aload_n hx hb dX8_begin_20 rfl (lv_at hl 0 rfl) ?_
  refine lv_iconst (v := (-1 : Int32)) hx hb dX8_begin_21 (by decide) ?_
  refine pf_X8_114 C0 hP hD hS 0 rfl (Nat.le_of_ble_eq_true rfl) (ws2 := [(h, oX8 w_now (.int x_arches) (.int x_cats) w_text (.int x_typed) w_row (.int x_rowMany) (.int x_thrown) (.ref b1) (.int p2) (.int p3) (.int (0 : Int32)) (.int (-1 : Int32)) w_told w_rule w_otherRule (.int x_ruleSize) (.int x_isAsked) w_asked w_undos (.int x_undoMany) w_aside w_then w_hold (.int x_dropped) w_acts w_guarded w_train (.int x_trolleyEnd) w_feltOf w_feltBy (.int x_feltMany) w_many w_heardOf w_heardBy (.int x_heardMany) w_worth (.int x_drawn) (.int x_came) w_kept w_isKept w_keptCame)]) rfl dX8_begin_22 (fun H locs hP hD hS => ?_)
  exact k_vret C0 hr (p2, p3, (0 : Int32), (-1 : Int32)) hg hP hD hS dX8_begin_25
theorem dX8_beginText_0 : decode cX8_beginText 0 = .ok (.aload_n 0, 1) := by decide +kernel
theorem dX8_beginText_1 : decode cX8_beginText 1 = .ok (.aload_n 0, 1) := by decide +kernel
theorem dX8_beginText_2 : decode cX8_beginText 2 = .ok (.getfield 13, 3) := by decide +kernel
theorem dX8_beginText_5 : decode cX8_beginText 5 = .ok (.aload_n 0, 1) := by decide +kernel
theorem dX8_beginText_6 : decode cX8_beginText 6 = .ok (.getfield 99, 3) := by decide +kernel
theorem dX8_beginText_9 : decode cX8_beginText 9 = .ok (.iload_n 1, 1) := by decide +kernel
theorem dX8_beginText_10 : decode cX8_beginText 10 = .ok (.invokevirtual 117, 3) := by decide +kernel
theorem dX8_beginText_13 : decode cX8_beginText 13 = .ok (.aload_n 0, 1) := by decide +kernel
theorem dX8_beginText_14 : decode cX8_beginText 14 = .ok (.iconst 0, 1) := by decide +kernel
theorem dX8_beginText_15 : decode cX8_beginText 15 = .ok (.putfield 99, 3) := by decide +kernel
theorem dX8_beginText_18 : decode cX8_beginText 18 = .ok (.return_, 1) := by decide +kernel
def p_X8_beginText (F : Nat) (p1 : Int32) (x_typed : Int32) (Post : (Int32 × Int32 × Int32 × Int32 × Int32) → Prop) : Prop := (p_X8_begin F x_typed p1 (fun (u_10 : (Int32 × Int32 × Int32 × Int32)) => (Post ((0 : Int32), u_10.1, u_10.2.1, u_10.2.2.1, u_10.2.2.2))))
set_option maxHeartbeats 4000000 in
set_option maxRecDepth 100000 in
theorem c_X8_beginText (l : Launch) (D : va_G) (cT : Nat → ClassId) (F : Nat) (h : Nat) (p1 : Int32) (w_now : Value) (x_arches : Int32) (x_cats : Int32) (q_text : Nat) (x_typed : Int32) (w_row : Value) (x_rowMany : Int32) (x_thrown : Int32) (w_read : Value) (x_length : Int32) (x_top : Int32) (x_at : Int32) (x_wrong : Int32) (w_told : Value) (w_rule : Value) (w_otherRule : Value) (x_ruleSize : Int32) (x_isAsked : Int32) (w_asked : Value) (w_undos : Value) (x_undoMany : Int32) (w_aside : Value) (w_then : Value) (w_hold : Value) (x_dropped : Int32) (w_acts : Value) (w_guarded : Value) (w_train : Value) (x_trolleyEnd : Int32) (w_feltOf : Value) (w_feltBy : Value) (x_feltMany : Int32) (w_many : Value) (w_heardOf : Value) (w_heardBy : Value) (x_heardMany : Int32) (w_worth : Value) (x_drawn : Int32) (x_came : Int32) (w_kept : Value) (w_isKept : Value) (w_keptCame : Value) (Post : (Int32 × Int32 × Int32 × Int32 × Int32) → Prop) (hg : p_X8_beginText F p1 x_typed Post) : MWv l D cT yX8_beginText cX8_beginText 2 none 1 23 0 0 [.ref h, .int p1] [(h, oX8 w_now (.int x_arches) (.int x_cats) (.ref q_text) (.int x_typed) w_row (.int x_rowMany) (.int x_thrown) w_read (.int x_length) (.int x_top) (.int x_at) (.int x_wrong) w_told w_rule w_otherRule (.int x_ruleSize) (.int x_isAsked) w_asked w_undos (.int x_undoMany) w_aside w_then w_hold (.int x_dropped) w_acts w_guarded w_train (.int x_trolleyEnd) w_feltOf w_feltBy (.int x_feltMany) w_many w_heardOf w_heardBy (.int x_heardMany) w_worth (.int x_drawn) (.int x_came) w_kept w_isKept w_keptCame)] Post (fun (u : (Int32 × Int32 × Int32 × Int32 × Int32)) => [(h, oX8 w_now (.int x_arches) (.int x_cats) (.ref q_text) (.int u.1) w_row (.int x_rowMany) (.int x_thrown) (.ref q_text) (.int u.2.1) (.int u.2.2.1) (.int u.2.2.2.1) (.int u.2.2.2.2) w_told w_rule w_otherRule (.int x_ruleSize) (.int x_isAsked) w_asked w_undos (.int x_undoMany) w_aside w_then w_hold (.int x_dropped) w_acts w_guarded w_train (.int x_trolleyEnd) w_feltOf w_feltBy (.int x_feltMany) w_many w_heardOf w_heardBy (.int x_heardMany) w_worth (.int x_drawn) (.int x_came) w_kept w_isKept w_keptCame)]) := by
  refine MWv.of (by decide) (Nat.le_of_ble_eq_true rfl) ?_
  intro p e s m below meth c A hA C0 hnm hr hP hD ls hl
  have hl : lv_has ls 2 [(0, .ref h), (1, .int p1)] := hl
  have hx := C0.x
  have hb := C0.b
  have hS : va_S A s.heap s.heap [] := va_S.rf
  have hP : va_P D cls9 [(h, oX8 w_now (.int x_arches) (.int x_cats) (.ref q_text) (.int x_typed) w_row (.int x_rowMany) (.int x_thrown) w_read (.int x_length) (.int x_top) (.int x_at) (.int x_wrong) w_told w_rule w_otherRule (.int x_ruleSize) (.int x_isAsked) w_asked w_undos (.int x_undoMany) w_aside w_then w_hold (.int x_dropped) w_acts w_guarded w_train (.int x_trolleyEnd) w_feltOf w_feltBy (.int x_feltMany) w_many w_heardOf w_heardBy (.int x_heardMany) w_worth (.int x_drawn) (.int x_came) w_kept w_isKept w_keptCame)] s.heap := hP
  have hD : va_D A [(h, oX8 w_now (.int x_arches) (.int x_cats) (.ref q_text) (.int x_typed) w_row (.int x_rowMany) (.int x_thrown) w_read (.int x_length) (.int x_top) (.int x_at) (.int x_wrong) w_told w_rule w_otherRule (.int x_ruleSize) (.int x_isAsked) w_asked w_undos (.int x_undoMany) w_aside w_then w_hold (.int x_dropped) w_acts w_guarded w_train (.int x_trolleyEnd) w_feltOf w_feltBy (.int x_feltMany) w_many w_heardOf w_heardBy (.int x_heardMany) w_worth (.int x_drawn) (.int x_came) w_kept w_isKept w_keptCame)] := hD
  unfold p_X8_beginText at hg
  refine lv_aload_n hx hb dX8_beginText_0 rfl (lv_at hl 0 rfl) ?_
  refine lv_aload_n hx hb dX8_beginText_1 rfl (lv_at hl 0 rfl) ?_
  refine gf_X8_13 C0 hP 0 rfl rfl dX8_beginText_2 ?_
  refine lv_aload_n hx hb dX8_beginText_5 rfl (lv_at hl 0 rfl) ?_
  refine gf_X8_99 C0 hP 0 rfl rfl dX8_beginText_6 ?_
  refine lv_iload_n hx hb dX8_beginText_9 rfl (lv_at hl 1 rfl) ?_
  refine k_Vv (rest := []) (wr := []) (w2 := fun u_10 => [(h, oX8 w_now (.int x_arches) (.int x_cats) (.ref q_text) (.int x_typed) w_row (.int x_rowMany) (.int x_thrown) (.ref q_text) (.int u_10.1) (.int u_10.2.1) (.int u_10.2.2.1) (.int u_10.2.2.2) w_told w_rule w_otherRule (.int x_ruleSize) (.int x_isAsked) w_asked w_undos (.int x_undoMany) w_aside w_then w_hold (.int x_dropped) w_acts w_guarded w_train (.int x_trolleyEnd) w_feltOf w_feltBy (.int x_feltMany) w_many w_heardOf w_heardBy (.int x_heardMany) w_worth (.int x_drawn) (.int x_came) w_kept w_isKept w_keptCame)]) C0 lk_X8_117 (c_X8_begin l D cT F h q_text x_typed p1 w_now x_arches x_cats (.ref q_text) x_typed w_row x_rowMany x_thrown w_read x_length x_top x_at x_wrong w_told w_rule w_otherRule x_ruleSize x_isAsked w_asked w_undos x_undoMany w_aside w_then w_hold x_dropped w_acts w_guarded w_train x_trolleyEnd w_feltOf w_feltBy x_feltMany w_many w_heardOf w_heardBy x_heardMany w_worth x_drawn x_came w_kept w_isKept w_keptCame _ hg) hP hD hS hA [0] [] (by decide +kernel) rfl rfl (fun _ => rfl) rfl rfl ⟨Nat.le_of_ble_eq_true rfl, Nat.le_of_ble_eq_true rfl⟩ rfl hl.1 rfl (Nat.le_of_ble_eq_true rfl) dX8_beginText_10 ⟨Nat.le_of_ble_eq_true rfl, Nat.le_of_ble_eq_true rfl⟩ ?_
  intro u_10 H locs hg hP hD hS
  refine lv_aload_n hx hb dX8_beginText_13 rfl (lv_at hl 0 rfl) ?_
  refine lv_iconst (v := (0 : Int32)) hx hb dX8_beginText_14 (by decide) ?_
  refine pf_X8_99 C0 hP hD hS 0 rfl (Nat.le_of_ble_eq_true rfl) (ws2 := [(h, oX8 w_now (.int x_arches) (.int x_cats) (.ref q_text) (.int (0 : Int32)) w_row (.int x_rowMany) (.int x_thrown) (.ref q_text) (.int u_10.1) (.int u_10.2.1) (.int u_10.2.2.1) (.int u_10.2.2.2) w_told w_rule w_otherRule (.int x_ruleSize) (.int x_isAsked) w_asked w_undos (.int x_undoMany) w_aside w_then w_hold (.int x_dropped) w_acts w_guarded w_train (.int x_trolleyEnd) w_feltOf w_feltBy (.int x_feltMany) w_many w_heardOf w_heardBy (.int x_heardMany) w_worth (.int x_drawn) (.int x_came) w_kept w_isKept w_keptCame)]) rfl dX8_beginText_15 (fun H locs hP hD hS => ?_)
  exact k_vret C0 hr ((0 : Int32), u_10.1, u_10.2.1, u_10.2.2.1, u_10.2.2.2) hg hP hD hS dX8_beginText_18
theorem dX8_here_0 : decode cX8_here 0 = .ok (.aload_n 0, 1) := by decide +kernel
theorem dX8_here_1 : decode cX8_here 1 = .ok (.getfield 111, 3) := by decide +kernel
theorem dX8_here_4 : decode cX8_here 4 = .ok (.aload_n 0, 1) := by decide +kernel
theorem dX8_here_5 : decode cX8_here 5 = .ok (.getfield 105, 3) := by decide +kernel
theorem dX8_here_8 : decode cX8_here 8 = .ok (.if_icmp .ge 30, 3) := by decide +kernel
theorem dX8_here_11 : decode cX8_here 11 = .ok (.aload_n 0, 1) := by decide +kernel
theorem dX8_here_12 : decode cX8_here 12 = .ok (.getfield 111, 3) := by decide +kernel
theorem dX8_here_15 : decode cX8_here 15 = .ok (.aload_n 0, 1) := by decide +kernel
theorem dX8_here_16 : decode cX8_here 16 = .ok (.getfield 108, 3) := by decide +kernel
theorem dX8_here_19 : decode cX8_here 19 = .ok (.if_icmp .ge 19, 3) := by decide +kernel
theorem dX8_here_22 : decode cX8_here 22 = .ok (.aload_n 0, 1) := by decide +kernel
theorem dX8_here_23 : decode cX8_here 23 = .ok (.getfield 102, 3) := by decide +kernel
theorem dX8_here_26 : decode cX8_here 26 = .ok (.aload_n 0, 1) := by decide +kernel
theorem dX8_here_27 : decode cX8_here 27 = .ok (.getfield 111, 3) := by decide +kernel
theorem dX8_here_30 : decode cX8_here 30 = .ok (.baload, 1) := by decide +kernel
theorem dX8_here_31 : decode cX8_here 31 = .ok (.sipush 255, 3) := by decide +kernel
theorem dX8_here_34 : decode cX8_here 34 = .ok (.iand, 1) := by decide +kernel
theorem dX8_here_35 : decode cX8_here 35 = .ok (.goto 4, 3) := by decide +kernel
theorem dX8_here_38 : decode cX8_here 38 = .ok (.iconst (-1), 1) := by decide +kernel
theorem dX8_here_39 : decode cX8_here 39 = .ok (.ireturn, 1) := by decide +kernel
def p_X8_here (F : Nat) (x_length : Int32) (x_top : Int32) (x_at : Int32) (n_read : Nat) (f_read : Nat → Int32) (Post : Int32 → Prop) : Prop := ((x_length ≤ x_at → (Post (-1 : Int32))) ∧ (¬ x_length ≤ x_at → ((x_top ≤ x_at → (Post (-1 : Int32))) ∧ (¬ x_top ≤ x_at → (vp_in x_at n_read ∧ (Post ((f_read x_at.toNatClampNeg) &&& (255 : Int32))))))))
set_option maxHeartbeats 4000000 in
set_option maxRecDepth 100000 in
theorem c_X8_here (l : Launch) (D : va_G) (cT : Nat → ClassId) (F : Nat) (h : Nat) (w_now : Value) (x_arches : Int32) (x_cats : Int32) (w_text : Value) (x_typed : Int32) (w_row : Value) (x_rowMany : Int32) (x_thrown : Int32) (q_read : Nat) (x_length : Int32) (x_top : Int32) (x_at : Int32) (x_wrong : Int32) (w_told : Value) (w_rule : Value) (w_otherRule : Value) (x_ruleSize : Int32) (x_isAsked : Int32) (w_asked : Value) (w_undos : Value) (x_undoMany : Int32) (w_aside : Value) (w_then : Value) (w_hold : Value) (x_dropped : Int32) (w_acts : Value) (w_guarded : Value) (w_train : Value) (x_trolleyEnd : Int32) (w_feltOf : Value) (w_feltBy : Value) (x_feltMany : Int32) (w_many : Value) (w_heardOf : Value) (w_heardBy : Value) (x_heardMany : Int32) (w_worth : Value) (x_drawn : Int32) (x_came : Int32) (w_kept : Value) (w_isKept : Value) (w_keptCame : Value) (n_read : Nat) (f_read : Nat → Int32) (Post : Int32 → Prop) (hg : p_X8_here F x_length x_top x_at n_read f_read Post) : MRi l D cT yX8_here cX8_here 1 (some .int) 0 0 [.ref h] [(h, oX8 w_now (.int x_arches) (.int x_cats) w_text (.int x_typed) w_row (.int x_rowMany) (.int x_thrown) (.ref q_read) (.int x_length) (.int x_top) (.int x_at) (.int x_wrong) w_told w_rule w_otherRule (.int x_ruleSize) (.int x_isAsked) w_asked w_undos (.int x_undoMany) w_aside w_then w_hold (.int x_dropped) w_acts w_guarded w_train (.int x_trolleyEnd) w_feltOf w_feltBy (.int x_feltMany) w_many w_heardOf w_heardBy (.int x_heardMany) w_worth (.int x_drawn) (.int x_came) w_kept w_isKept w_keptCame), (q_read, aB cT n_read f_read)] Post := by
  refine MRi.of (by decide) (Nat.le_of_ble_eq_true rfl) ?_
  intro p e s m below meth c hA C0 hr hP hD hS ls hl
  have hl : lv_has ls 1 [(0, .ref h)] := hl
  have hx := C0.x
  have hb := C0.b
  have hP : va_P D cls9 [(h, oX8 w_now (.int x_arches) (.int x_cats) w_text (.int x_typed) w_row (.int x_rowMany) (.int x_thrown) (.ref q_read) (.int x_length) (.int x_top) (.int x_at) (.int x_wrong) w_told w_rule w_otherRule (.int x_ruleSize) (.int x_isAsked) w_asked w_undos (.int x_undoMany) w_aside w_then w_hold (.int x_dropped) w_acts w_guarded w_train (.int x_trolleyEnd) w_feltOf w_feltBy (.int x_feltMany) w_many w_heardOf w_heardBy (.int x_heardMany) w_worth (.int x_drawn) (.int x_came) w_kept w_isKept w_keptCame), (q_read, aB cT n_read f_read)] s.heap := hP
  have hD : va_D (fun q => cT 6 ≤ q) [(h, oX8 w_now (.int x_arches) (.int x_cats) w_text (.int x_typed) w_row (.int x_rowMany) (.int x_thrown) (.ref q_read) (.int x_length) (.int x_top) (.int x_at) (.int x_wrong) w_told w_rule w_otherRule (.int x_ruleSize) (.int x_isAsked) w_asked w_undos (.int x_undoMany) w_aside w_then w_hold (.int x_dropped) w_acts w_guarded w_train (.int x_trolleyEnd) w_feltOf w_feltBy (.int x_feltMany) w_many w_heardOf w_heardBy (.int x_heardMany) w_worth (.int x_drawn) (.int x_came) w_kept w_isKept w_keptCame), (q_read, aB cT n_read f_read)] := hD
  unfold p_X8_here at hg
  refine lv_aload_n hx hb dX8_here_0 rfl (lv_at hl 0 rfl) ?_
  refine gf_X8_111 C0 hP 0 rfl rfl dX8_here_1 ?_
  refine lv_aload_n hx hb dX8_here_4 rfl (lv_at hl 0 rfl) ?_
  refine gf_X8_105 C0 hP 0 rfl rfl dX8_here_5 ?_
  refine lv_icmp_ge (tgt := 38) hx hb dX8_here_8 (by decide) (fun c_8 => ?_) (fun c_8 => ?_)
  · have hg := hg.1 c_8
    refine lv_iconst (v := (-1 : Int32)) hx hb dX8_here_38 (by decide) ?_
    exact k_xiret C0 hr hg dX8_here_39
  have hg := hg.2 c_8
  refine lv_aload_n hx hb dX8_here_11 rfl (lv_at hl 0 rfl) ?_
  refine gf_X8_111 C0 hP 0 rfl rfl dX8_here_12 ?_
  refine lv_aload_n hx hb dX8_here_15 rfl (lv_at hl 0 rfl) ?_
  refine gf_X8_108 C0 hP 0 rfl rfl dX8_here_16 ?_
  refine lv_icmp_ge (tgt := 38) hx hb dX8_here_19 (by decide) (fun c_19 => ?_) (fun c_19 => ?_)
  · have hg := hg.1 c_19
    refine lv_iconst (v := (-1 : Int32)) hx hb dX8_here_38 (by decide) ?_
    exact k_xiret C0 hr hg dX8_here_39
  have hg := hg.2 c_19
  refine lv_aload_n hx hb dX8_here_22 rfl (lv_at hl 0 rfl) ?_
  refine gf_X8_102 C0 hP 0 rfl rfl dX8_here_23 ?_
  refine lv_aload_n hx hb dX8_here_26 rfl (lv_at hl 0 rfl) ?_
  refine gf_X8_111 C0 hP 0 rfl rfl dX8_here_27 ?_
  obtain ⟨g_30, hg⟩ := hg
  refine k_bald C0 hP 1 rfl g_30 dX8_here_30 ?_
  refine lv_sipush (v := (255 : Int32)) hx hb dX8_here_31 (by decide) ?_
  refine lv_iand hx hb dX8_here_34 ?_
  refine lv_goto (tgt := 39) hx hb dX8_here_35 (by decide) ?_
  exact k_xiret C0 hr hg dX8_here_39
theorem dX8_fine_0 : decode cX8_fine 0 = .ok (.aload_n 0, 1) := by decide +kernel
theorem dX8_fine_1 : decode cX8_fine 1 = .ok (.getfield 114, 3) := by decide +kernel
theorem dX8_fine_4 : decode cX8_fine 4 = .ok (.iconst (-1), 1) := by decide +kernel
theorem dX8_fine_5 : decode cX8_fine 5 = .ok (.if_icmp .ne 7, 3) := by decide +kernel
theorem dX8_fine_8 : decode cX8_fine 8 = .ok (.iconst 1, 1) := by decide +kernel
theorem dX8_fine_9 : decode cX8_fine 9 = .ok (.goto 4, 3) := by decide +kernel
theorem dX8_fine_12 : decode cX8_fine 12 = .ok (.iconst 0, 1) := by decide +kernel
theorem dX8_fine_13 : decode cX8_fine 13 = .ok (.ireturn, 1) := by decide +kernel
def p_X8_fine (F : Nat) (x_wrong : Int32) (Post : Int32 → Prop) : Prop := ((¬ x_wrong = (-1 : Int32) → (Post (0 : Int32))) ∧ (x_wrong = (-1 : Int32) → (Post (1 : Int32))))
set_option maxHeartbeats 4000000 in
set_option maxRecDepth 100000 in
theorem c_X8_fine (l : Launch) (D : va_G) (cT : Nat → ClassId) (F : Nat) (h : Nat) (w_now : Value) (x_arches : Int32) (x_cats : Int32) (w_text : Value) (x_typed : Int32) (w_row : Value) (x_rowMany : Int32) (x_thrown : Int32) (w_read : Value) (x_length : Int32) (x_top : Int32) (x_at : Int32) (x_wrong : Int32) (w_told : Value) (w_rule : Value) (w_otherRule : Value) (x_ruleSize : Int32) (x_isAsked : Int32) (w_asked : Value) (w_undos : Value) (x_undoMany : Int32) (w_aside : Value) (w_then : Value) (w_hold : Value) (x_dropped : Int32) (w_acts : Value) (w_guarded : Value) (w_train : Value) (x_trolleyEnd : Int32) (w_feltOf : Value) (w_feltBy : Value) (x_feltMany : Int32) (w_many : Value) (w_heardOf : Value) (w_heardBy : Value) (x_heardMany : Int32) (w_worth : Value) (x_drawn : Int32) (x_came : Int32) (w_kept : Value) (w_isKept : Value) (w_keptCame : Value) (Post : Int32 → Prop) (hg : p_X8_fine F x_wrong Post) : MRi l D cT yX8_fine cX8_fine 1 (some .boolean) 0 0 [.ref h] [(h, oX8 w_now (.int x_arches) (.int x_cats) w_text (.int x_typed) w_row (.int x_rowMany) (.int x_thrown) w_read (.int x_length) (.int x_top) (.int x_at) (.int x_wrong) w_told w_rule w_otherRule (.int x_ruleSize) (.int x_isAsked) w_asked w_undos (.int x_undoMany) w_aside w_then w_hold (.int x_dropped) w_acts w_guarded w_train (.int x_trolleyEnd) w_feltOf w_feltBy (.int x_feltMany) w_many w_heardOf w_heardBy (.int x_heardMany) w_worth (.int x_drawn) (.int x_came) w_kept w_isKept w_keptCame)] Post := by
  refine MRi.of (by decide) (Nat.le_of_ble_eq_true rfl) ?_
  intro p e s m below meth c hA C0 hr hP hD hS ls hl
  have hl : lv_has ls 1 [(0, .ref h)] := hl
  have hx := C0.x
  have hb := C0.b
  have hP : va_P D cls9 [(h, oX8 w_now (.int x_arches) (.int x_cats) w_text (.int x_typed) w_row (.int x_rowMany) (.int x_thrown) w_read (.int x_length) (.int x_top) (.int x_at) (.int x_wrong) w_told w_rule w_otherRule (.int x_ruleSize) (.int x_isAsked) w_asked w_undos (.int x_undoMany) w_aside w_then w_hold (.int x_dropped) w_acts w_guarded w_train (.int x_trolleyEnd) w_feltOf w_feltBy (.int x_feltMany) w_many w_heardOf w_heardBy (.int x_heardMany) w_worth (.int x_drawn) (.int x_came) w_kept w_isKept w_keptCame)] s.heap := hP
  have hD : va_D (fun q => cT 6 ≤ q) [(h, oX8 w_now (.int x_arches) (.int x_cats) w_text (.int x_typed) w_row (.int x_rowMany) (.int x_thrown) w_read (.int x_length) (.int x_top) (.int x_at) (.int x_wrong) w_told w_rule w_otherRule (.int x_ruleSize) (.int x_isAsked) w_asked w_undos (.int x_undoMany) w_aside w_then w_hold (.int x_dropped) w_acts w_guarded w_train (.int x_trolleyEnd) w_feltOf w_feltBy (.int x_feltMany) w_many w_heardOf w_heardBy (.int x_heardMany) w_worth (.int x_drawn) (.int x_came) w_kept w_isKept w_keptCame)] := hD
  unfold p_X8_fine at hg
  refine lv_aload_n hx hb dX8_fine_0 rfl (lv_at hl 0 rfl) ?_
  refine gf_X8_114 C0 hP 0 rfl rfl dX8_fine_1 ?_
  refine lv_iconst (v := (-1 : Int32)) hx hb dX8_fine_4 (by decide) ?_
  refine lv_icmp_ne (tgt := 12) hx hb dX8_fine_5 (by decide) (fun c_5 => ?_) (fun c_5 => ?_)
  · have hg := hg.1 c_5
    refine lv_iconst (v := (0 : Int32)) hx hb dX8_fine_12 (by decide) ?_
    exact k_xzret C0 hr (Or.inl rfl) hg dX8_fine_13
  have hg := hg.2 c_5
  refine lv_iconst (v := (1 : Int32)) hx hb dX8_fine_8 (by decide) ?_
  refine lv_goto (tgt := 13) hx hb dX8_fine_9 (by decide) ?_
  exact k_xzret C0 hr (Or.inr rfl) hg dX8_fine_13
theorem dX8_fault_0 : decode cX8_fault 0 = .ok (.aload_n 0, 1) := by decide +kernel
theorem dX8_fault_1 : decode cX8_fault 1 = .ok (.invokevirtual 121, 3) := by decide +kernel
theorem dX8_fault_4 : decode cX8_fault 4 = .ok (.ifCond .eq 8, 3) := by decide +kernel
theorem dX8_fault_7 : decode cX8_fault 7 = .ok (.aload_n 0, 1) := by decide +kernel
theorem dX8_fault_8 : decode cX8_fault 8 = .ok (.iload_n 1, 1) := by decide +kernel
theorem dX8_fault_9 : decode cX8_fault 9 = .ok (.putfield 114, 3) := by decide +kernel
theorem dX8_fault_12 : decode cX8_fault 12 = .ok (.return_, 1) := by decide +kernel
def p_X8_fault (F : Nat) (p1 : Int32) (x_wrong : Int32) (Post : Int32 → Prop) : Prop := (p_X8_fine F x_wrong (fun (r_1 : Int32) => ((r_1 = 0 → (Post x_wrong)) ∧ (¬ r_1 = 0 → (Post p1)))))
set_option maxHeartbeats 4000000 in
set_option maxRecDepth 100000 in
theorem c_X8_fault (l : Launch) (D : va_G) (cT : Nat → ClassId) (F : Nat) (h : Nat) (p1 : Int32) (w_now : Value) (x_arches : Int32) (x_cats : Int32) (w_text : Value) (x_typed : Int32) (w_row : Value) (x_rowMany : Int32) (x_thrown : Int32) (w_read : Value) (x_length : Int32) (x_top : Int32) (x_at : Int32) (x_wrong : Int32) (w_told : Value) (w_rule : Value) (w_otherRule : Value) (x_ruleSize : Int32) (x_isAsked : Int32) (w_asked : Value) (w_undos : Value) (x_undoMany : Int32) (w_aside : Value) (w_then : Value) (w_hold : Value) (x_dropped : Int32) (w_acts : Value) (w_guarded : Value) (w_train : Value) (x_trolleyEnd : Int32) (w_feltOf : Value) (w_feltBy : Value) (x_feltMany : Int32) (w_many : Value) (w_heardOf : Value) (w_heardBy : Value) (x_heardMany : Int32) (w_worth : Value) (x_drawn : Int32) (x_came : Int32) (w_kept : Value) (w_isKept : Value) (w_keptCame : Value) (Post : Int32 → Prop) (hg : p_X8_fault F p1 x_wrong Post) : MWv l D cT yX8_fault cX8_fault 2 none 1 20 0 0 [.ref h, .int p1] [(h, oX8 w_now (.int x_arches) (.int x_cats) w_text (.int x_typed) w_row (.int x_rowMany) (.int x_thrown) w_read (.int x_length) (.int x_top) (.int x_at) (.int x_wrong) w_told w_rule w_otherRule (.int x_ruleSize) (.int x_isAsked) w_asked w_undos (.int x_undoMany) w_aside w_then w_hold (.int x_dropped) w_acts w_guarded w_train (.int x_trolleyEnd) w_feltOf w_feltBy (.int x_feltMany) w_many w_heardOf w_heardBy (.int x_heardMany) w_worth (.int x_drawn) (.int x_came) w_kept w_isKept w_keptCame)] Post (fun (u : Int32) => [(h, oX8 w_now (.int x_arches) (.int x_cats) w_text (.int x_typed) w_row (.int x_rowMany) (.int x_thrown) w_read (.int x_length) (.int x_top) (.int x_at) (.int u) w_told w_rule w_otherRule (.int x_ruleSize) (.int x_isAsked) w_asked w_undos (.int x_undoMany) w_aside w_then w_hold (.int x_dropped) w_acts w_guarded w_train (.int x_trolleyEnd) w_feltOf w_feltBy (.int x_feltMany) w_many w_heardOf w_heardBy (.int x_heardMany) w_worth (.int x_drawn) (.int x_came) w_kept w_isKept w_keptCame)]) := by
  refine MWv.of (by decide) (Nat.le_of_ble_eq_true rfl) ?_
  intro p e s m below meth c A hA C0 hnm hr hP hD ls hl
  have hl : lv_has ls 2 [(0, .ref h), (1, .int p1)] := hl
  have hx := C0.x
  have hb := C0.b
  have hS : va_S A s.heap s.heap [] := va_S.rf
  have hP : va_P D cls9 [(h, oX8 w_now (.int x_arches) (.int x_cats) w_text (.int x_typed) w_row (.int x_rowMany) (.int x_thrown) w_read (.int x_length) (.int x_top) (.int x_at) (.int x_wrong) w_told w_rule w_otherRule (.int x_ruleSize) (.int x_isAsked) w_asked w_undos (.int x_undoMany) w_aside w_then w_hold (.int x_dropped) w_acts w_guarded w_train (.int x_trolleyEnd) w_feltOf w_feltBy (.int x_feltMany) w_many w_heardOf w_heardBy (.int x_heardMany) w_worth (.int x_drawn) (.int x_came) w_kept w_isKept w_keptCame)] s.heap := hP
  have hD : va_D A [(h, oX8 w_now (.int x_arches) (.int x_cats) w_text (.int x_typed) w_row (.int x_rowMany) (.int x_thrown) w_read (.int x_length) (.int x_top) (.int x_at) (.int x_wrong) w_told w_rule w_otherRule (.int x_ruleSize) (.int x_isAsked) w_asked w_undos (.int x_undoMany) w_aside w_then w_hold (.int x_dropped) w_acts w_guarded w_train (.int x_trolleyEnd) w_feltOf w_feltBy (.int x_feltMany) w_many w_heardOf w_heardBy (.int x_heardMany) w_worth (.int x_drawn) (.int x_came) w_kept w_isKept w_keptCame)] := hD
  unfold p_X8_fault at hg
  refine lv_aload_n hx hb dX8_fault_0 rfl (lv_at hl 0 rfl) ?_
  refine k_Vxi (rest := []) C0 lk_X8_121 (c_X8_fine l D cT F h w_now x_arches x_cats w_text x_typed w_row x_rowMany x_thrown w_read x_length x_top x_at x_wrong w_told w_rule w_otherRule x_ruleSize x_isAsked w_asked w_undos x_undoMany w_aside w_then w_hold x_dropped w_acts w_guarded w_train x_trolleyEnd w_feltOf w_feltBy x_feltMany w_many w_heardOf w_heardBy x_heardMany w_worth x_drawn x_came w_kept w_isKept w_keptCame _ hg) hP hD hS hA [0] (by decide +kernel) rfl rfl rfl ⟨Nat.le_of_ble_eq_true rfl, Nat.le_of_ble_eq_true rfl⟩ rfl hl.1 rfl (Nat.le_of_ble_eq_true rfl) dX8_fault_1 ⟨Nat.le_of_ble_eq_true rfl, Nat.le_of_ble_eq_true rfl⟩ (fun r_1 hg => ?_)
  refine lv_if_eq (tgt := 12) hx hb dX8_fault_4 (by decide) (fun c_4 => ?_) (fun c_4 => ?_)
  · have hg := hg.1 c_4
    exact k_vret C0 hr x_wrong hg hP hD hS dX8_fault_12
  have hg := hg.2 c_4
  refine lv_aload_n hx hb dX8_fault_7 rfl (lv_at hl 0 rfl) ?_
  refine lv_iload_n hx hb dX8_fault_8 rfl (lv_at hl 1 rfl) ?_
  refine pf_X8_114 C0 hP hD hS 0 rfl (Nat.le_of_ble_eq_true rfl) (ws2 := [(h, oX8 w_now (.int x_arches) (.int x_cats) w_text (.int x_typed) w_row (.int x_rowMany) (.int x_thrown) w_read (.int x_length) (.int x_top) (.int x_at) (.int p1) w_told w_rule w_otherRule (.int x_ruleSize) (.int x_isAsked) w_asked w_undos (.int x_undoMany) w_aside w_then w_hold (.int x_dropped) w_acts w_guarded w_train (.int x_trolleyEnd) w_feltOf w_feltBy (.int x_feltMany) w_many w_heardOf w_heardBy (.int x_heardMany) w_worth (.int x_drawn) (.int x_came) w_kept w_isKept w_keptCame)]) rfl dX8_fault_9 (fun H locs hP hD hS => ?_)
  exact k_vret C0 hr p1 hg hP hD hS dX8_fault_12
theorem dX8_passes_0 : decode cX8_passes 0 = .ok (.aload_n 0, 1) := by decide +kernel
theorem dX8_passes_1 : decode cX8_passes 1 = .ok (.invokevirtual 121, 3) := by decide +kernel
theorem dX8_passes_4 : decode cX8_passes 4 = .ok (.ifCond .eq 11, 3) := by decide +kernel
theorem dX8_passes_7 : decode cX8_passes 7 = .ok (.aload_n 0, 1) := by decide +kernel
theorem dX8_passes_8 : decode cX8_passes 8 = .ok (.invokevirtual 125, 3) := by decide +kernel
theorem dX8_passes_11 : decode cX8_passes 11 = .ok (.iload_n 1, 1) := by decide +kernel
theorem dX8_passes_12 : decode cX8_passes 12 = .ok (.if_icmp .eq 5, 3) := by decide +kernel
theorem dX8_passes_15 : decode cX8_passes 15 = .ok (.iconst 0, 1) := by decide +kernel
theorem dX8_passes_16 : decode cX8_passes 16 = .ok (.ireturn, 1) := by decide +kernel
theorem dX8_passes_17 : decode cX8_passes 17 = .ok (.aload_n 0, 1) := by decide +kernel
theorem dX8_passes_18 : decode cX8_passes 18 = .ok (.dup, 1) := by decide +kernel
theorem dX8_passes_19 : decode cX8_passes 19 = .ok (.getfield 111, 3) := by decide +kernel
theorem dX8_passes_22 : decode cX8_passes 22 = .ok (.iconst 1, 1) := by decide +kernel
theorem dX8_passes_23 : decode cX8_passes 23 = .ok (.iadd, 1) := by decide +kernel
theorem dX8_passes_24 : decode cX8_passes 24 = .ok (.putfield 111, 3) := by decide +kernel
theorem dX8_passes_27 : decode cX8_passes 27 = .ok (.iconst 1, 1) := by decide +kernel
theorem dX8_passes_28 : decode cX8_passes 28 = .ok (.ireturn, 1) := by decide +kernel
def p_X8_passes (F : Nat) (p1 : Int32) (x_length : Int32) (x_top : Int32) (x_at : Int32) (x_wrong : Int32) (n_read : Nat) (f_read : Nat → Int32) (Post : Int32 → Int32 → Prop) : Prop := (p_X8_fine F x_wrong (fun (r_1 : Int32) => ((r_1 = 0 → (Post (0 : Int32) x_at)) ∧ (¬ r_1 = 0 → (p_X8_here F x_length x_top x_at n_read f_read (fun (r_8 : Int32) => ((r_8 = p1 → (Post (1 : Int32) (x_at + (1 : Int32)))) ∧ (¬ r_8 = p1 → (Post (0 : Int32) x_at)))))))))
set_option maxHeartbeats 4000000 in
set_option maxRecDepth 100000 in
theorem c_X8_passes (l : Launch) (D : va_G) (cT : Nat → ClassId) (F : Nat) (h : Nat) (p1 : Int32) (w_now : Value) (x_arches : Int32) (x_cats : Int32) (w_text : Value) (x_typed : Int32) (w_row : Value) (x_rowMany : Int32) (x_thrown : Int32) (q_read : Nat) (x_length : Int32) (x_top : Int32) (x_at : Int32) (x_wrong : Int32) (w_told : Value) (w_rule : Value) (w_otherRule : Value) (x_ruleSize : Int32) (x_isAsked : Int32) (w_asked : Value) (w_undos : Value) (x_undoMany : Int32) (w_aside : Value) (w_then : Value) (w_hold : Value) (x_dropped : Int32) (w_acts : Value) (w_guarded : Value) (w_train : Value) (x_trolleyEnd : Int32) (w_feltOf : Value) (w_feltBy : Value) (x_feltMany : Int32) (w_many : Value) (w_heardOf : Value) (w_heardBy : Value) (x_heardMany : Int32) (w_worth : Value) (x_drawn : Int32) (x_came : Int32) (w_kept : Value) (w_isKept : Value) (w_keptCame : Value) (n_read : Nat) (f_read : Nat → Int32) (Post : Int32 → Int32 → Prop) (hg : p_X8_passes F p1 x_length x_top x_at x_wrong n_read f_read Post) : MWi l D cT yX8_passes cX8_passes 2 (some .boolean) 1 20 0 0 [.ref h, .int p1] [(h, oX8 w_now (.int x_arches) (.int x_cats) w_text (.int x_typed) w_row (.int x_rowMany) (.int x_thrown) (.ref q_read) (.int x_length) (.int x_top) (.int x_at) (.int x_wrong) w_told w_rule w_otherRule (.int x_ruleSize) (.int x_isAsked) w_asked w_undos (.int x_undoMany) w_aside w_then w_hold (.int x_dropped) w_acts w_guarded w_train (.int x_trolleyEnd) w_feltOf w_feltBy (.int x_feltMany) w_many w_heardOf w_heardBy (.int x_heardMany) w_worth (.int x_drawn) (.int x_came) w_kept w_isKept w_keptCame), (q_read, aB cT n_read f_read)] Post (fun (u : Int32) => [(h, oX8 w_now (.int x_arches) (.int x_cats) w_text (.int x_typed) w_row (.int x_rowMany) (.int x_thrown) (.ref q_read) (.int x_length) (.int x_top) (.int u) (.int x_wrong) w_told w_rule w_otherRule (.int x_ruleSize) (.int x_isAsked) w_asked w_undos (.int x_undoMany) w_aside w_then w_hold (.int x_dropped) w_acts w_guarded w_train (.int x_trolleyEnd) w_feltOf w_feltBy (.int x_feltMany) w_many w_heardOf w_heardBy (.int x_heardMany) w_worth (.int x_drawn) (.int x_came) w_kept w_isKept w_keptCame), (q_read, aB cT n_read f_read)]) := by
  refine MWi.of (by decide) (Nat.le_of_ble_eq_true rfl) ?_
  intro p e s m below meth c A hA C0 hnm hr hP hD ls hl
  have hl : lv_has ls 2 [(0, .ref h), (1, .int p1)] := hl
  have hx := C0.x
  have hb := C0.b
  have hS : va_S A s.heap s.heap [] := va_S.rf
  have hP : va_P D cls9 [(h, oX8 w_now (.int x_arches) (.int x_cats) w_text (.int x_typed) w_row (.int x_rowMany) (.int x_thrown) (.ref q_read) (.int x_length) (.int x_top) (.int x_at) (.int x_wrong) w_told w_rule w_otherRule (.int x_ruleSize) (.int x_isAsked) w_asked w_undos (.int x_undoMany) w_aside w_then w_hold (.int x_dropped) w_acts w_guarded w_train (.int x_trolleyEnd) w_feltOf w_feltBy (.int x_feltMany) w_many w_heardOf w_heardBy (.int x_heardMany) w_worth (.int x_drawn) (.int x_came) w_kept w_isKept w_keptCame), (q_read, aB cT n_read f_read)] s.heap := hP
  have hD : va_D A [(h, oX8 w_now (.int x_arches) (.int x_cats) w_text (.int x_typed) w_row (.int x_rowMany) (.int x_thrown) (.ref q_read) (.int x_length) (.int x_top) (.int x_at) (.int x_wrong) w_told w_rule w_otherRule (.int x_ruleSize) (.int x_isAsked) w_asked w_undos (.int x_undoMany) w_aside w_then w_hold (.int x_dropped) w_acts w_guarded w_train (.int x_trolleyEnd) w_feltOf w_feltBy (.int x_feltMany) w_many w_heardOf w_heardBy (.int x_heardMany) w_worth (.int x_drawn) (.int x_came) w_kept w_isKept w_keptCame), (q_read, aB cT n_read f_read)] := hD
  unfold p_X8_passes at hg
  refine lv_aload_n hx hb dX8_passes_0 rfl (lv_at hl 0 rfl) ?_
  refine k_Vxi (rest := []) C0 lk_X8_121 (c_X8_fine l D cT F h w_now x_arches x_cats w_text x_typed w_row x_rowMany x_thrown (.ref q_read) x_length x_top x_at x_wrong w_told w_rule w_otherRule x_ruleSize x_isAsked w_asked w_undos x_undoMany w_aside w_then w_hold x_dropped w_acts w_guarded w_train x_trolleyEnd w_feltOf w_feltBy x_feltMany w_many w_heardOf w_heardBy x_heardMany w_worth x_drawn x_came w_kept w_isKept w_keptCame _ hg) hP hD hS hA [0] (by decide +kernel) rfl rfl rfl ⟨Nat.le_of_ble_eq_true rfl, Nat.le_of_ble_eq_true rfl⟩ rfl hl.1 rfl (Nat.le_of_ble_eq_true rfl) dX8_passes_1 ⟨Nat.le_of_ble_eq_true rfl, Nat.le_of_ble_eq_true rfl⟩ (fun r_1 hg => ?_)
  refine lv_if_eq (tgt := 15) hx hb dX8_passes_4 (by decide) (fun c_4 => ?_) (fun c_4 => ?_)
  · have hg := hg.1 c_4
    refine lv_iconst (v := (0 : Int32)) hx hb dX8_passes_15 (by decide) ?_
    exact k_zret C0 hr (Or.inl rfl) x_at hg hP hD hS dX8_passes_16
  have hg := hg.2 c_4
  refine lv_aload_n hx hb dX8_passes_7 rfl (lv_at hl 0 rfl) ?_
  refine k_Vxi (rest := []) C0 lk_X8_125 (c_X8_here l D cT F h w_now x_arches x_cats w_text x_typed w_row x_rowMany x_thrown q_read x_length x_top x_at x_wrong w_told w_rule w_otherRule x_ruleSize x_isAsked w_asked w_undos x_undoMany w_aside w_then w_hold x_dropped w_acts w_guarded w_train x_trolleyEnd w_feltOf w_feltBy x_feltMany w_many w_heardOf w_heardBy x_heardMany w_worth x_drawn x_came w_kept w_isKept w_keptCame n_read f_read _ hg) hP hD hS hA [0, 1] (by decide +kernel) rfl rfl rfl ⟨Nat.le_of_ble_eq_true rfl, Nat.le_of_ble_eq_true rfl⟩ rfl hl.1 rfl (Nat.le_of_ble_eq_true rfl) dX8_passes_8 ⟨Nat.le_of_ble_eq_true rfl, Nat.le_of_ble_eq_true rfl⟩ (fun r_8 hg => ?_)
  refine lv_iload_n hx hb dX8_passes_11 rfl (lv_at hl 1 rfl) ?_
  refine lv_icmp_eq (tgt := 17) hx hb dX8_passes_12 (by decide) (fun c_12 => ?_) (fun c_12 => ?_)
  · have hg := hg.1 c_12
    refine lv_aload_n hx hb dX8_passes_17 rfl (lv_at hl 0 rfl) ?_
    refine lv_dup hx hb dX8_passes_18 rfl ?_
    refine gf_X8_111 C0 hP 0 rfl rfl dX8_passes_19 ?_
    refine lv_iconst (v := (1 : Int32)) hx hb dX8_passes_22 (by decide) ?_
    refine lv_iadd hx hb dX8_passes_23 ?_
    refine pf_X8_111 C0 hP hD hS 0 rfl (Nat.le_of_ble_eq_true rfl) (ws2 := [(h, oX8 w_now (.int x_arches) (.int x_cats) w_text (.int x_typed) w_row (.int x_rowMany) (.int x_thrown) (.ref q_read) (.int x_length) (.int x_top) (.int (x_at + (1 : Int32))) (.int x_wrong) w_told w_rule w_otherRule (.int x_ruleSize) (.int x_isAsked) w_asked w_undos (.int x_undoMany) w_aside w_then w_hold (.int x_dropped) w_acts w_guarded w_train (.int x_trolleyEnd) w_feltOf w_feltBy (.int x_feltMany) w_many w_heardOf w_heardBy (.int x_heardMany) w_worth (.int x_drawn) (.int x_came) w_kept w_isKept w_keptCame), (q_read, aB cT n_read f_read)]) rfl dX8_passes_24 (fun H locs hP hD hS => ?_)
    refine lv_iconst (v := (1 : Int32)) hx hb dX8_passes_27 (by decide) ?_
    exact k_zret C0 hr (Or.inr rfl) (x_at + (1 : Int32)) hg hP hD hS dX8_passes_28
  have hg := hg.2 c_12
  refine lv_iconst (v := (0 : Int32)) hx hb dX8_passes_15 (by decide) ?_
  exact k_zret C0 hr (Or.inl rfl) x_at hg hP hD hS dX8_passes_16
theorem dX8_need_0 : decode cX8_need 0 = .ok (.aload_n 0, 1) := by decide +kernel
theorem dX8_need_1 : decode cX8_need 1 = .ok (.iload_n 1, 1) := by decide +kernel
theorem dX8_need_2 : decode cX8_need 2 = .ok (.invokevirtual 129, 3) := by decide +kernel
theorem dX8_need_5 : decode cX8_need 5 = .ok (.ifCond .ne 11, 3) := by decide +kernel
theorem dX8_need_8 : decode cX8_need 8 = .ok (.aload_n 0, 1) := by decide +kernel
theorem dX8_need_9 : decode cX8_need 9 = .ok (.aload_n 0, 1) := by decide +kernel
theorem dX8_need_10 : decode cX8_need 10 = .ok (.getfield 111, 3) := by decide +kernel
theorem dX8_need_13 : decode cX8_need 13 = .ok (.invokevirtual 133, 3) := by decide +kernel
theorem dX8_need_16 : decode cX8_need 16 = .ok (.return_, 1) := by decide +kernel
def p_X8_need (F : Nat) (p1 : Int32) (x_length : Int32) (x_top : Int32) (x_at : Int32) (x_wrong : Int32) (n_read : Nat) (f_read : Nat → Int32) (Post : (Int32 × Int32) → Prop) : Prop := (p_X8_passes F p1 x_length x_top x_at x_wrong n_read f_read (fun (r_2 : Int32) (u_2 : Int32) => ((¬ r_2 = 0 → (Post (u_2, x_wrong))) ∧ (r_2 = 0 → (p_X8_fault F u_2 x_wrong (fun (u_13 : Int32) => (Post (u_2, u_13))))))))
set_option maxHeartbeats 4000000 in
set_option maxRecDepth 100000 in
theorem c_X8_need (l : Launch) (D : va_G) (cT : Nat → ClassId) (F : Nat) (h : Nat) (p1 : Int32) (w_now : Value) (x_arches : Int32) (x_cats : Int32) (w_text : Value) (x_typed : Int32) (w_row : Value) (x_rowMany : Int32) (x_thrown : Int32) (q_read : Nat) (x_length : Int32) (x_top : Int32) (x_at : Int32) (x_wrong : Int32) (w_told : Value) (w_rule : Value) (w_otherRule : Value) (x_ruleSize : Int32) (x_isAsked : Int32) (w_asked : Value) (w_undos : Value) (x_undoMany : Int32) (w_aside : Value) (w_then : Value) (w_hold : Value) (x_dropped : Int32) (w_acts : Value) (w_guarded : Value) (w_train : Value) (x_trolleyEnd : Int32) (w_feltOf : Value) (w_feltBy : Value) (x_feltMany : Int32) (w_many : Value) (w_heardOf : Value) (w_heardBy : Value) (x_heardMany : Int32) (w_worth : Value) (x_drawn : Int32) (x_came : Int32) (w_kept : Value) (w_isKept : Value) (w_keptCame : Value) (n_read : Nat) (f_read : Nat → Int32) (Post : (Int32 × Int32) → Prop) (hg : p_X8_need F p1 x_length x_top x_at x_wrong n_read f_read Post) : MWv l D cT yX8_need cX8_need 2 none 2 41 0 0 [.ref h, .int p1] [(h, oX8 w_now (.int x_arches) (.int x_cats) w_text (.int x_typed) w_row (.int x_rowMany) (.int x_thrown) (.ref q_read) (.int x_length) (.int x_top) (.int x_at) (.int x_wrong) w_told w_rule w_otherRule (.int x_ruleSize) (.int x_isAsked) w_asked w_undos (.int x_undoMany) w_aside w_then w_hold (.int x_dropped) w_acts w_guarded w_train (.int x_trolleyEnd) w_feltOf w_feltBy (.int x_feltMany) w_many w_heardOf w_heardBy (.int x_heardMany) w_worth (.int x_drawn) (.int x_came) w_kept w_isKept w_keptCame), (q_read, aB cT n_read f_read)] Post (fun (u : (Int32 × Int32)) => [(h, oX8 w_now (.int x_arches) (.int x_cats) w_text (.int x_typed) w_row (.int x_rowMany) (.int x_thrown) (.ref q_read) (.int x_length) (.int x_top) (.int u.1) (.int u.2) w_told w_rule w_otherRule (.int x_ruleSize) (.int x_isAsked) w_asked w_undos (.int x_undoMany) w_aside w_then w_hold (.int x_dropped) w_acts w_guarded w_train (.int x_trolleyEnd) w_feltOf w_feltBy (.int x_feltMany) w_many w_heardOf w_heardBy (.int x_heardMany) w_worth (.int x_drawn) (.int x_came) w_kept w_isKept w_keptCame), (q_read, aB cT n_read f_read)]) := by
  refine MWv.of (by decide) (Nat.le_of_ble_eq_true rfl) ?_
  intro p e s m below meth c A hA C0 hnm hr hP hD ls hl
  have hl : lv_has ls 2 [(0, .ref h), (1, .int p1)] := hl
  have hx := C0.x
  have hb := C0.b
  have hS : va_S A s.heap s.heap [] := va_S.rf
  have hP : va_P D cls9 [(h, oX8 w_now (.int x_arches) (.int x_cats) w_text (.int x_typed) w_row (.int x_rowMany) (.int x_thrown) (.ref q_read) (.int x_length) (.int x_top) (.int x_at) (.int x_wrong) w_told w_rule w_otherRule (.int x_ruleSize) (.int x_isAsked) w_asked w_undos (.int x_undoMany) w_aside w_then w_hold (.int x_dropped) w_acts w_guarded w_train (.int x_trolleyEnd) w_feltOf w_feltBy (.int x_feltMany) w_many w_heardOf w_heardBy (.int x_heardMany) w_worth (.int x_drawn) (.int x_came) w_kept w_isKept w_keptCame), (q_read, aB cT n_read f_read)] s.heap := hP
  have hD : va_D A [(h, oX8 w_now (.int x_arches) (.int x_cats) w_text (.int x_typed) w_row (.int x_rowMany) (.int x_thrown) (.ref q_read) (.int x_length) (.int x_top) (.int x_at) (.int x_wrong) w_told w_rule w_otherRule (.int x_ruleSize) (.int x_isAsked) w_asked w_undos (.int x_undoMany) w_aside w_then w_hold (.int x_dropped) w_acts w_guarded w_train (.int x_trolleyEnd) w_feltOf w_feltBy (.int x_feltMany) w_many w_heardOf w_heardBy (.int x_heardMany) w_worth (.int x_drawn) (.int x_came) w_kept w_isKept w_keptCame), (q_read, aB cT n_read f_read)] := hD
  unfold p_X8_need at hg
  refine lv_aload_n hx hb dX8_need_0 rfl (lv_at hl 0 rfl) ?_
  refine lv_iload_n hx hb dX8_need_1 rfl (lv_at hl 1 rfl) ?_
  refine k_Vi (rest := []) (wr := []) (w2 := fun u_2 => [(h, oX8 w_now (.int x_arches) (.int x_cats) w_text (.int x_typed) w_row (.int x_rowMany) (.int x_thrown) (.ref q_read) (.int x_length) (.int x_top) (.int u_2) (.int x_wrong) w_told w_rule w_otherRule (.int x_ruleSize) (.int x_isAsked) w_asked w_undos (.int x_undoMany) w_aside w_then w_hold (.int x_dropped) w_acts w_guarded w_train (.int x_trolleyEnd) w_feltOf w_feltBy (.int x_feltMany) w_many w_heardOf w_heardBy (.int x_heardMany) w_worth (.int x_drawn) (.int x_came) w_kept w_isKept w_keptCame), (q_read, aB cT n_read f_read)]) C0 lk_X8_129 (c_X8_passes l D cT F h p1 w_now x_arches x_cats w_text x_typed w_row x_rowMany x_thrown q_read x_length x_top x_at x_wrong w_told w_rule w_otherRule x_ruleSize x_isAsked w_asked w_undos x_undoMany w_aside w_then w_hold x_dropped w_acts w_guarded w_train x_trolleyEnd w_feltOf w_feltBy x_feltMany w_many w_heardOf w_heardBy x_heardMany w_worth x_drawn x_came w_kept w_isKept w_keptCame n_read f_read _ hg) hP hD hS hA [0, 1] [] (by decide +kernel) rfl rfl (fun _ => rfl) rfl rfl ⟨Nat.le_of_ble_eq_true rfl, Nat.le_of_ble_eq_true rfl⟩ rfl hl.1 rfl (Nat.le_of_ble_eq_true rfl) dX8_need_2 ⟨Nat.le_of_ble_eq_true rfl, Nat.le_of_ble_eq_true rfl⟩ ?_
  intro r_2 u_2 H locs hg hP hD hS
  refine lv_if_ne (tgt := 16) hx hb dX8_need_5 (by decide) (fun c_5 => ?_) (fun c_5 => ?_)
  · have hg := hg.1 c_5
    exact k_vret C0 hr (u_2, x_wrong) hg hP hD hS dX8_need_16
  have hg := hg.2 c_5
  refine lv_aload_n hx hb dX8_need_8 rfl (lv_at hl 0 rfl) ?_
  refine lv_aload_n hx hb dX8_need_9 rfl (lv_at hl 0 rfl) ?_
  refine gf_X8_111 C0 hP 0 rfl rfl dX8_need_10 ?_
  refine k_Vv (rest := []) (wr := [(q_read, aB cT n_read f_read)]) (w2 := fun u_13 => [(q_read, aB cT n_read f_read), (h, oX8 w_now (.int x_arches) (.int x_cats) w_text (.int x_typed) w_row (.int x_rowMany) (.int x_thrown) (.ref q_read) (.int x_length) (.int x_top) (.int u_2) (.int u_13) w_told w_rule w_otherRule (.int x_ruleSize) (.int x_isAsked) w_asked w_undos (.int x_undoMany) w_aside w_then w_hold (.int x_dropped) w_acts w_guarded w_train (.int x_trolleyEnd) w_feltOf w_feltBy (.int x_feltMany) w_many w_heardOf w_heardBy (.int x_heardMany) w_worth (.int x_drawn) (.int x_came) w_kept w_isKept w_keptCame)]) C0 lk_X8_133 (c_X8_fault l D cT F h u_2 w_now x_arches x_cats w_text x_typed w_row x_rowMany x_thrown (.ref q_read) x_length x_top u_2 x_wrong w_told w_rule w_otherRule x_ruleSize x_isAsked w_asked w_undos x_undoMany w_aside w_then w_hold x_dropped w_acts w_guarded w_train x_trolleyEnd w_feltOf w_feltBy x_feltMany w_many w_heardOf w_heardBy x_heardMany w_worth x_drawn x_came w_kept w_isKept w_keptCame _ hg) hP hD hS hA [0] [1] (by decide +kernel) rfl rfl (fun _ => rfl) rfl rfl ⟨Nat.le_of_ble_eq_true rfl, Nat.le_of_ble_eq_true rfl⟩ rfl hl.1 rfl (Nat.le_of_ble_eq_true rfl) dX8_need_13 ⟨Nat.le_of_ble_eq_true rfl, Nat.le_of_ble_eq_true rfl⟩ ?_
  intro u_13 H locs hg hP hD hS
  exact k_vret C0 hr (u_2, u_13) hg (subP hP [1, 0] rfl) (hD.sub [1, 0] (nd2_ok _ (by decide +kernel)) rfl) hS dX8_need_16
theorem dX8_oneOf_0 : decode cX8_oneOf 0 = .ok (.aload_n 0, 1) := by decide +kernel
theorem dX8_oneOf_1 : decode cX8_oneOf 1 = .ok (.invokevirtual 121, 3) := by decide +kernel
theorem dX8_oneOf_4 : decode cX8_oneOf 4 = .ok (.ifCond .ne 5, 3) := by decide +kernel
theorem dX8_oneOf_7 : decode cX8_oneOf 7 = .ok (.iconst 0, 1) := by decide +kernel
theorem dX8_oneOf_8 : decode cX8_oneOf 8 = .ok (.ireturn, 1) := by decide +kernel
theorem dX8_oneOf_9 : decode cX8_oneOf 9 = .ok (.aload_n 0, 1) := by decide +kernel
theorem dX8_oneOf_10 : decode cX8_oneOf 10 = .ok (.invokevirtual 125, 3) := by decide +kernel
theorem dX8_oneOf_13 : decode cX8_oneOf 13 = .ok (.iload_n 1, 1) := by decide +kernel
theorem dX8_oneOf_14 : decode cX8_oneOf 14 = .ok (.iload_n 1, 1) := by decide +kernel
theorem dX8_oneOf_15 : decode cX8_oneOf 15 = .ok (.iload_n 2, 1) := by decide +kernel
theorem dX8_oneOf_16 : decode cX8_oneOf 16 = .ok (.iadd, 1) := by decide +kernel
theorem dX8_oneOf_17 : decode cX8_oneOf 17 = .ok (.iconst 1, 1) := by decide +kernel
theorem dX8_oneOf_18 : decode cX8_oneOf 18 = .ok (.isub, 1) := by decide +kernel
theorem dX8_oneOf_19 : decode cX8_oneOf 19 = .ok (.invokestatic 92, 3) := by decide +kernel
theorem dX8_oneOf_22 : decode cX8_oneOf 22 = .ok (.ifCond .ne 13, 3) := by decide +kernel
theorem dX8_oneOf_25 : decode cX8_oneOf 25 = .ok (.aload_n 0, 1) := by decide +kernel
theorem dX8_oneOf_26 : decode cX8_oneOf 26 = .ok (.aload_n 0, 1) := by decide +kernel
theorem dX8_oneOf_27 : decode cX8_oneOf 27 = .ok (.getfield 111, 3) := by decide +kernel
theorem dX8_oneOf_30 : decode cX8_oneOf 30 = .ok (.invokevirtual 133, 3) := by decide +kernel
theorem dX8_oneOf_33 : decode cX8_oneOf 33 = .ok (.iconst 0, 1) := by decide +kernel
theorem dX8_oneOf_34 : decode cX8_oneOf 34 = .ok (.ireturn, 1) := by decide +kernel
theorem dX8_oneOf_35 : decode cX8_oneOf 35 = .ok (.aload_n 0, 1) := by decide +kernel
theorem dX8_oneOf_36 : decode cX8_oneOf 36 = .ok (.dup, 1) := by decide +kernel
theorem dX8_oneOf_37 : decode cX8_oneOf 37 = .ok (.getfield 111, 3) := by decide +kernel
theorem dX8_oneOf_40 : decode cX8_oneOf 40 = .ok (.iconst 1, 1) := by decide +kernel
theorem dX8_oneOf_41 : decode cX8_oneOf 41 = .ok (.iadd, 1) := by decide +kernel
theorem dX8_oneOf_42 : decode cX8_oneOf 42 = .ok (.putfield 111, 3) := by decide +kernel
theorem dX8_oneOf_45 : decode cX8_oneOf 45 = .ok (.aload_n 0, 1) := by decide +kernel
theorem dX8_oneOf_46 : decode cX8_oneOf 46 = .ok (.getfield 102, 3) := by decide +kernel
theorem dX8_oneOf_49 : decode cX8_oneOf 49 = .ok (.aload_n 0, 1) := by decide +kernel
theorem dX8_oneOf_50 : decode cX8_oneOf 50 = .ok (.getfield 111, 3) := by decide +kernel
theorem dX8_oneOf_53 : decode cX8_oneOf 53 = .ok (.iconst 1, 1) := by decide +kernel
theorem dX8_oneOf_54 : decode cX8_oneOf 54 = .ok (.isub, 1) := by decide +kernel
theorem dX8_oneOf_55 : decode cX8_oneOf 55 = .ok (.baload, 1) := by decide +kernel
theorem dX8_oneOf_56 : decode cX8_oneOf 56 = .ok (.iload_n 1, 1) := by decide +kernel
theorem dX8_oneOf_57 : decode cX8_oneOf 57 = .ok (.isub, 1) := by decide +kernel
theorem dX8_oneOf_58 : decode cX8_oneOf 58 = .ok (.ireturn, 1) := by decide +kernel
def p_X8_oneOf (F : Nat) (p1 : Int32) (p2 : Int32) (x_length : Int32) (x_top : Int32) (x_at : Int32) (x_wrong : Int32) (n_read : Nat) (f_read : Nat → Int32) (Post : Int32 → (Int32 × Int32) → Prop) : Prop := (p_X8_fine F x_wrong (fun (r_1 : Int32) => ((¬ r_1 = 0 → (p_X8_here F x_length x_top x_at n_read f_read (fun (r_10 : Int32) => (p_X8_in F r_10 p1 ((p1 + p2) - (1 : Int32)) (fun (r_19 : Int32) => ((¬ r_19 = 0 → (vp_in ((x_at + (1 : Int32)) - (1 : Int32)) n_read ∧ (Post ((f_read ((x_at + (1 : Int32)) - (1 : Int32)).toNatClampNeg) - p1) ((x_at + (1 : Int32)), x_wrong)))) ∧ (r_19 = 0 → (p_X8_fault F x_at x_wrong (fun (u_30 : Int32) => (Post (0 : Int32) (x_at, u_30))))))))))) ∧ (r_1 = 0 → (Post (0 : Int32) (x_at, x_wrong))))))
set_option maxHeartbeats 4000000 in
set_option maxRecDepth 100000 in
theorem c_X8_oneOf (l : Launch) (D : va_G) (cT : Nat → ClassId) (F : Nat) (h : Nat) (p1 : Int32) (p2 : Int32) (w_now : Value) (x_arches : Int32) (x_cats : Int32) (w_text : Value) (x_typed : Int32) (w_row : Value) (x_rowMany : Int32) (x_thrown : Int32) (q_read : Nat) (x_length : Int32) (x_top : Int32) (x_at : Int32) (x_wrong : Int32) (w_told : Value) (w_rule : Value) (w_otherRule : Value) (x_ruleSize : Int32) (x_isAsked : Int32) (w_asked : Value) (w_undos : Value) (x_undoMany : Int32) (w_aside : Value) (w_then : Value) (w_hold : Value) (x_dropped : Int32) (w_acts : Value) (w_guarded : Value) (w_train : Value) (x_trolleyEnd : Int32) (w_feltOf : Value) (w_feltBy : Value) (x_feltMany : Int32) (w_many : Value) (w_heardOf : Value) (w_heardBy : Value) (x_heardMany : Int32) (w_worth : Value) (x_drawn : Int32) (x_came : Int32) (w_kept : Value) (w_isKept : Value) (w_keptCame : Value) (n_read : Nat) (f_read : Nat → Int32) (Post : Int32 → (Int32 × Int32) → Prop) (hg : p_X8_oneOf F p1 p2 x_length x_top x_at x_wrong n_read f_read Post) : MWi l D cT yX8_oneOf cX8_oneOf 3 (some .int) 2 41 0 0 [.ref h, .int p1, .int p2] [(h, oX8 w_now (.int x_arches) (.int x_cats) w_text (.int x_typed) w_row (.int x_rowMany) (.int x_thrown) (.ref q_read) (.int x_length) (.int x_top) (.int x_at) (.int x_wrong) w_told w_rule w_otherRule (.int x_ruleSize) (.int x_isAsked) w_asked w_undos (.int x_undoMany) w_aside w_then w_hold (.int x_dropped) w_acts w_guarded w_train (.int x_trolleyEnd) w_feltOf w_feltBy (.int x_feltMany) w_many w_heardOf w_heardBy (.int x_heardMany) w_worth (.int x_drawn) (.int x_came) w_kept w_isKept w_keptCame), (q_read, aB cT n_read f_read)] Post (fun (u : (Int32 × Int32)) => [(h, oX8 w_now (.int x_arches) (.int x_cats) w_text (.int x_typed) w_row (.int x_rowMany) (.int x_thrown) (.ref q_read) (.int x_length) (.int x_top) (.int u.1) (.int u.2) w_told w_rule w_otherRule (.int x_ruleSize) (.int x_isAsked) w_asked w_undos (.int x_undoMany) w_aside w_then w_hold (.int x_dropped) w_acts w_guarded w_train (.int x_trolleyEnd) w_feltOf w_feltBy (.int x_feltMany) w_many w_heardOf w_heardBy (.int x_heardMany) w_worth (.int x_drawn) (.int x_came) w_kept w_isKept w_keptCame), (q_read, aB cT n_read f_read)]) := by
  refine MWi.of (by decide) (Nat.le_of_ble_eq_true rfl) ?_
  intro p e s m below meth c A hA C0 hnm hr hP hD ls hl
  have hl : lv_has ls 3 [(0, .ref h), (1, .int p1), (2, .int p2)] := hl
  have hx := C0.x
  have hb := C0.b
  have hS : va_S A s.heap s.heap [] := va_S.rf
  have hP : va_P D cls9 [(h, oX8 w_now (.int x_arches) (.int x_cats) w_text (.int x_typed) w_row (.int x_rowMany) (.int x_thrown) (.ref q_read) (.int x_length) (.int x_top) (.int x_at) (.int x_wrong) w_told w_rule w_otherRule (.int x_ruleSize) (.int x_isAsked) w_asked w_undos (.int x_undoMany) w_aside w_then w_hold (.int x_dropped) w_acts w_guarded w_train (.int x_trolleyEnd) w_feltOf w_feltBy (.int x_feltMany) w_many w_heardOf w_heardBy (.int x_heardMany) w_worth (.int x_drawn) (.int x_came) w_kept w_isKept w_keptCame), (q_read, aB cT n_read f_read)] s.heap := hP
  have hD : va_D A [(h, oX8 w_now (.int x_arches) (.int x_cats) w_text (.int x_typed) w_row (.int x_rowMany) (.int x_thrown) (.ref q_read) (.int x_length) (.int x_top) (.int x_at) (.int x_wrong) w_told w_rule w_otherRule (.int x_ruleSize) (.int x_isAsked) w_asked w_undos (.int x_undoMany) w_aside w_then w_hold (.int x_dropped) w_acts w_guarded w_train (.int x_trolleyEnd) w_feltOf w_feltBy (.int x_feltMany) w_many w_heardOf w_heardBy (.int x_heardMany) w_worth (.int x_drawn) (.int x_came) w_kept w_isKept w_keptCame), (q_read, aB cT n_read f_read)] := hD
  unfold p_X8_oneOf at hg
  refine lv_aload_n hx hb dX8_oneOf_0 rfl (lv_at hl 0 rfl) ?_
  refine k_Vxi (rest := []) C0 lk_X8_121 (c_X8_fine l D cT F h w_now x_arches x_cats w_text x_typed w_row x_rowMany x_thrown (.ref q_read) x_length x_top x_at x_wrong w_told w_rule w_otherRule x_ruleSize x_isAsked w_asked w_undos x_undoMany w_aside w_then w_hold x_dropped w_acts w_guarded w_train x_trolleyEnd w_feltOf w_feltBy x_feltMany w_many w_heardOf w_heardBy x_heardMany w_worth x_drawn x_came w_kept w_isKept w_keptCame _ hg) hP hD hS hA [0] (by decide +kernel) rfl rfl rfl ⟨Nat.le_of_ble_eq_true rfl, Nat.le_of_ble_eq_true rfl⟩ rfl hl.1 rfl (Nat.le_of_ble_eq_true rfl) dX8_oneOf_1 ⟨Nat.le_of_ble_eq_true rfl, Nat.le_of_ble_eq_true rfl⟩ (fun r_1 hg => ?_)
  refine lv_if_ne (tgt := 9) hx hb dX8_oneOf_4 (by decide) (fun c_4 => ?_) (fun c_4 => ?_)
  · have hg := hg.1 c_4
    refine lv_aload_n hx hb dX8_oneOf_9 rfl (lv_at hl 0 rfl) ?_
    refine k_Vxi (rest := []) C0 lk_X8_125 (c_X8_here l D cT F h w_now x_arches x_cats w_text x_typed w_row x_rowMany x_thrown q_read x_length x_top x_at x_wrong w_told w_rule w_otherRule x_ruleSize x_isAsked w_asked w_undos x_undoMany w_aside w_then w_hold x_dropped w_acts w_guarded w_train x_trolleyEnd w_feltOf w_feltBy x_feltMany w_many w_heardOf w_heardBy x_heardMany w_worth x_drawn x_came w_kept w_isKept w_keptCame n_read f_read _ hg) hP hD hS hA [0, 1] (by decide +kernel) rfl rfl rfl ⟨Nat.le_of_ble_eq_true rfl, Nat.le_of_ble_eq_true rfl⟩ rfl hl.1 rfl (Nat.le_of_ble_eq_true rfl) dX8_oneOf_10 ⟨Nat.le_of_ble_eq_true rfl, Nat.le_of_ble_eq_true rfl⟩ (fun r_10 hg => ?_)
    refine lv_iload_n hx hb dX8_oneOf_13 rfl (lv_at hl 1 rfl) ?_
    refine lv_iload_n hx hb dX8_oneOf_14 rfl (lv_at hl 1 rfl) ?_
    refine lv_iload_n hx hb dX8_oneOf_15 rfl (lv_at hl 2 rfl) ?_
    refine lv_iadd hx hb dX8_oneOf_16 ?_
    refine lv_iconst (v := (1 : Int32)) hx hb dX8_oneOf_17 (by decide) ?_
    refine lv_isub hx hb dX8_oneOf_18 ?_
    refine k_Sxi (rest := []) C0 lk_X8_92 (c_X8_in l D cT F r_10 p1 ((p1 + p2) - (1 : Int32)) _ hg) hP hD hS hA [] (by decide +kernel) rfl ⟨Nat.le_of_ble_eq_true rfl, Nat.le_of_ble_eq_true rfl⟩ rfl hl.1 rfl (Nat.le_of_ble_eq_true rfl) dX8_oneOf_19 ⟨Nat.le_of_ble_eq_true rfl, Nat.le_of_ble_eq_true rfl⟩ (fun r_19 hg => ?_)
    refine lv_if_ne (tgt := 35) hx hb dX8_oneOf_22 (by decide) (fun c_22 => ?_) (fun c_22 => ?_)
    · have hg := hg.1 c_22
      refine lv_aload_n hx hb dX8_oneOf_35 rfl (lv_at hl 0 rfl) ?_
      refine lv_dup hx hb dX8_oneOf_36 rfl ?_
      refine gf_X8_111 C0 hP 0 rfl rfl dX8_oneOf_37 ?_
      refine lv_iconst (v := (1 : Int32)) hx hb dX8_oneOf_40 (by decide) ?_
      refine lv_iadd hx hb dX8_oneOf_41 ?_
      refine pf_X8_111 C0 hP hD hS 0 rfl (Nat.le_of_ble_eq_true rfl) (ws2 := [(h, oX8 w_now (.int x_arches) (.int x_cats) w_text (.int x_typed) w_row (.int x_rowMany) (.int x_thrown) (.ref q_read) (.int x_length) (.int x_top) (.int (x_at + (1 : Int32))) (.int x_wrong) w_told w_rule w_otherRule (.int x_ruleSize) (.int x_isAsked) w_asked w_undos (.int x_undoMany) w_aside w_then w_hold (.int x_dropped) w_acts w_guarded w_train (.int x_trolleyEnd) w_feltOf w_feltBy (.int x_feltMany) w_many w_heardOf w_heardBy (.int x_heardMany) w_worth (.int x_drawn) (.int x_came) w_kept w_isKept w_keptCame), (q_read, aB cT n_read f_read)]) rfl dX8_oneOf_42 (fun H locs hP hD hS => ?_)
      refine lv_aload_n hx hb dX8_oneOf_45 rfl (lv_at hl 0 rfl) ?_
      refine gf_X8_102 C0 hP 0 rfl rfl dX8_oneOf_46 ?_
      refine lv_aload_n hx hb dX8_oneOf_49 rfl (lv_at hl 0 rfl) ?_
      refine gf_X8_111 C0 hP 0 rfl rfl dX8_oneOf_50 ?_
      refine lv_iconst (v := (1 : Int32)) hx hb dX8_oneOf_53 (by decide) ?_
      refine lv_isub hx hb dX8_oneOf_54 ?_
      obtain ⟨g_55, hg⟩ := hg
      refine k_bald C0 hP 1 rfl g_55 dX8_oneOf_55 ?_
      refine lv_iload_n hx hb dX8_oneOf_56 rfl (lv_at hl 1 rfl) ?_
      refine lv_isub hx hb dX8_oneOf_57 ?_
      exact k_iret C0 hr ((x_at + (1 : Int32)), x_wrong) hg hP hD hS dX8_oneOf_58
    have hg := hg.2 c_22
    refine lv_aload_n hx hb dX8_oneOf_25 rfl (lv_at hl 0 rfl) ?_
    refine lv_aload_n hx hb dX8_oneOf_26 rfl (lv_at hl 0 rfl) ?_
    refine gf_X8_111 C0 hP 0 rfl rfl dX8_oneOf_27 ?_
    refine k_Vv (rest := []) (wr := [(q_read, aB cT n_read f_read)]) (w2 := fun u_30 => [(q_read, aB cT n_read f_read), (h, oX8 w_now (.int x_arches) (.int x_cats) w_text (.int x_typed) w_row (.int x_rowMany) (.int x_thrown) (.ref q_read) (.int x_length) (.int x_top) (.int x_at) (.int u_30) w_told w_rule w_otherRule (.int x_ruleSize) (.int x_isAsked) w_asked w_undos (.int x_undoMany) w_aside w_then w_hold (.int x_dropped) w_acts w_guarded w_train (.int x_trolleyEnd) w_feltOf w_feltBy (.int x_feltMany) w_many w_heardOf w_heardBy (.int x_heardMany) w_worth (.int x_drawn) (.int x_came) w_kept w_isKept w_keptCame)]) C0 lk_X8_133 (c_X8_fault l D cT F h x_at w_now x_arches x_cats w_text x_typed w_row x_rowMany x_thrown (.ref q_read) x_length x_top x_at x_wrong w_told w_rule w_otherRule x_ruleSize x_isAsked w_asked w_undos x_undoMany w_aside w_then w_hold x_dropped w_acts w_guarded w_train x_trolleyEnd w_feltOf w_feltBy x_feltMany w_many w_heardOf w_heardBy x_heardMany w_worth x_drawn x_came w_kept w_isKept w_keptCame _ hg) hP hD hS hA [0] [1] (by decide +kernel) rfl rfl (fun _ => rfl) rfl rfl ⟨Nat.le_of_ble_eq_true rfl, Nat.le_of_ble_eq_true rfl⟩ rfl hl.1 rfl (Nat.le_of_ble_eq_true rfl) dX8_oneOf_30 ⟨Nat.le_of_ble_eq_true rfl, Nat.le_of_ble_eq_true rfl⟩ ?_
    intro u_30 H locs hg hP hD hS
    refine lv_iconst (v := (0 : Int32)) hx hb dX8_oneOf_33 (by decide) ?_
    exact k_iret C0 hr (x_at, u_30) hg (subP hP [1, 0] rfl) (hD.sub [1, 0] (nd2_ok _ (by decide +kernel)) rfl) hS dX8_oneOf_34
  have hg := hg.2 c_4
  refine lv_iconst (v := (0 : Int32)) hx hb dX8_oneOf_7 (by decide) ?_
  exact k_iret C0 hr (x_at, x_wrong) hg hP hD hS dX8_oneOf_8
theorem dX8_number_0 : decode cX8_number 0 = .ok (.aload_n 0, 1) := by decide +kernel
theorem dX8_number_1 : decode cX8_number 1 = .ok (.bipush 48, 2) := by decide +kernel
theorem dX8_number_3 : decode cX8_number 3 = .ok (.bipush 10, 2) := by decide +kernel
theorem dX8_number_5 : decode cX8_number 5 = .ok (.invokevirtual 137, 3) := by decide +kernel
theorem dX8_number_8 : decode cX8_number 8 = .ok (.istore_n 2, 1) := by decide +kernel
theorem dX8_number_9 : decode cX8_number 9 = .ok (.iconst 1, 1) := by decide +kernel
theorem dX8_number_10 : decode cX8_number 10 = .ok (.istore_n 3, 1) := by decide +kernel
theorem dX8_number_11 : decode cX8_number 11 = .ok (.iload_n 3, 1) := by decide +kernel
theorem dX8_number_12 : decode cX8_number 12 = .ok (.iload_n 1, 1) := by decide +kernel
theorem dX8_number_13 : decode cX8_number 13 = .ok (.if_icmp .ge 44, 3) := by decide +kernel
theorem dX8_number_16 : decode cX8_number 16 = .ok (.aload_n 0, 1) := by decide +kernel
theorem dX8_number_17 : decode cX8_number 17 = .ok (.invokevirtual 121, 3) := by decide +kernel
theorem dX8_number_20 : decode cX8_number 20 = .ok (.ifCond .eq 37, 3) := by decide +kernel
theorem dX8_number_23 : decode cX8_number 23 = .ok (.aload_n 0, 1) := by decide +kernel
theorem dX8_number_24 : decode cX8_number 24 = .ok (.invokevirtual 125, 3) := by decide +kernel
theorem dX8_number_27 : decode cX8_number 27 = .ok (.bipush 48, 2) := by decide +kernel
theorem dX8_number_29 : decode cX8_number 29 = .ok (.bipush 57, 2) := by decide +kernel
theorem dX8_number_31 : decode cX8_number 31 = .ok (.invokestatic 92, 3) := by decide +kernel
theorem dX8_number_34 : decode cX8_number 34 = .ok (.ifCond .eq 23, 3) := by decide +kernel
theorem dX8_number_37 : decode cX8_number 37 = .ok (.bipush 10, 2) := by decide +kernel
theorem dX8_number_39 : decode cX8_number 39 = .ok (.iload_n 2, 1) := by decide +kernel
theorem dX8_number_40 : decode cX8_number 40 = .ok (.imul, 1) := by decide +kernel
theorem dX8_number_41 : decode cX8_number 41 = .ok (.aload_n 0, 1) := by decide +kernel
theorem dX8_number_42 : decode cX8_number 42 = .ok (.bipush 48, 2) := by decide +kernel
theorem dX8_number_44 : decode cX8_number 44 = .ok (.bipush 10, 2) := by decide +kernel
theorem dX8_number_46 : decode cX8_number 46 = .ok (.invokevirtual 137, 3) := by decide +kernel
theorem dX8_number_49 : decode cX8_number 49 = .ok (.iadd, 1) := by decide +kernel
theorem dX8_number_50 : decode cX8_number 50 = .ok (.istore_n 2, 1) := by decide +kernel
theorem dX8_number_51 : decode cX8_number 51 = .ok (.iinc 3 1, 3) := by decide +kernel
theorem dX8_number_54 : decode cX8_number 54 = .ok (.goto (-43), 3) := by decide +kernel
theorem dX8_number_57 : decode cX8_number 57 = .ok (.iload_n 2, 1) := by decide +kernel
theorem dX8_number_58 : decode cX8_number 58 = .ok (.ireturn, 1) := by decide +kernel
noncomputable def p_X8_number_11 (F : Nat) (p1 : Int32) (x_length : Int32) (x_top : Int32) (n_read : Nat) (f_read : Nat → Int32) (Post : Int32 → (Int32 × Int32) → Prop) (n : Nat) : Int32 → Int32 → Int32 → Int32 → Prop := Nat.rec (motive := fun _ => Int32 → Int32 → Int32 → Int32 → Prop) (fun _ _ _ _ => False) (fun _ k11 => fun (y3_11 : Int32) (y2_11 : Int32) (x_at_11 : Int32) (x_wrong_11 : Int32) => ((p1 ≤ y3_11 → (Post y2_11 (x_at_11, x_wrong_11))) ∧ (¬ p1 ≤ y3_11 → (p_X8_fine F x_wrong_11 (fun (r_17 : Int32) => ((r_17 = 0 → (Post y2_11 (x_at_11, x_wrong_11))) ∧ (¬ r_17 = 0 → (p_X8_here F x_length x_top x_at_11 n_read f_read (fun (r_24 : Int32) => (p_X8_in F r_24 (48 : Int32) (57 : Int32) (fun (r_31 : Int32) => ((r_31 = 0 → (Post y2_11 (x_at_11, x_wrong_11))) ∧ (¬ r_31 = 0 → (p_X8_oneOf F (48 : Int32) (10 : Int32) x_length x_top x_at_11 x_wrong_11 n_read f_read (fun (r_46 : Int32) (u_46 : (Int32 × Int32)) => (k11 (y3_11 + (1 : Int32)) (((10 : Int32) * y2_11) + r_46) u_46.1 u_46.2)))))))))))))))) n
theorem p_X8_number_11_s (F : Nat) (p1 : Int32) (x_length : Int32) (x_top : Int32) (n_read : Nat) (f_read : Nat → Int32) (Post : Int32 → (Int32 × Int32) → Prop) (n : Nat) (y3_11 : Int32) (y2_11 : Int32) (x_at_11 : Int32) (x_wrong_11 : Int32) : p_X8_number_11 F p1 x_length x_top n_read f_read Post (n + 1) y3_11 y2_11 x_at_11 x_wrong_11 = ((p1 ≤ y3_11 → (Post y2_11 (x_at_11, x_wrong_11))) ∧ (¬ p1 ≤ y3_11 → (p_X8_fine F x_wrong_11 (fun (r_17 : Int32) => ((r_17 = 0 → (Post y2_11 (x_at_11, x_wrong_11))) ∧ (¬ r_17 = 0 → (p_X8_here F x_length x_top x_at_11 n_read f_read (fun (r_24 : Int32) => (p_X8_in F r_24 (48 : Int32) (57 : Int32) (fun (r_31 : Int32) => ((r_31 = 0 → (Post y2_11 (x_at_11, x_wrong_11))) ∧ (¬ r_31 = 0 → (p_X8_oneOf F (48 : Int32) (10 : Int32) x_length x_top x_at_11 x_wrong_11 n_read f_read (fun (r_46 : Int32) (u_46 : (Int32 × Int32)) => ((p_X8_number_11 F p1 x_length x_top n_read f_read Post n) (y3_11 + (1 : Int32)) (((10 : Int32) * y2_11) + r_46) u_46.1 u_46.2))))))))))))))) := rfl
def p_X8_number (F : Nat) (p1 : Int32) (x_length : Int32) (x_top : Int32) (x_at : Int32) (x_wrong : Int32) (n_read : Nat) (f_read : Nat → Int32) (Post : Int32 → (Int32 × Int32) → Prop) : Prop := (p_X8_oneOf F (48 : Int32) (10 : Int32) x_length x_top x_at x_wrong n_read f_read (fun (r_5 : Int32) (u_5 : (Int32 × Int32)) => (p_X8_number_11 F p1 x_length x_top n_read f_read Post F (1 : Int32) r_5 u_5.1 u_5.2)))
set_option maxHeartbeats 4000000 in
set_option maxRecDepth 100000 in
theorem c_X8_number (l : Launch) (D : va_G) (cT : Nat → ClassId) (F : Nat) (h : Nat) (p1 : Int32) (w_now : Value) (x_arches : Int32) (x_cats : Int32) (w_text : Value) (x_typed : Int32) (w_row : Value) (x_rowMany : Int32) (x_thrown : Int32) (q_read : Nat) (x_length : Int32) (x_top : Int32) (x_at : Int32) (x_wrong : Int32) (w_told : Value) (w_rule : Value) (w_otherRule : Value) (x_ruleSize : Int32) (x_isAsked : Int32) (w_asked : Value) (w_undos : Value) (x_undoMany : Int32) (w_aside : Value) (w_then : Value) (w_hold : Value) (x_dropped : Int32) (w_acts : Value) (w_guarded : Value) (w_train : Value) (x_trolleyEnd : Int32) (w_feltOf : Value) (w_feltBy : Value) (x_feltMany : Int32) (w_many : Value) (w_heardOf : Value) (w_heardBy : Value) (x_heardMany : Int32) (w_worth : Value) (x_drawn : Int32) (x_came : Int32) (w_kept : Value) (w_isKept : Value) (w_keptCame : Value) (n_read : Nat) (f_read : Nat → Int32) (Post : Int32 → (Int32 × Int32) → Prop) (hg : p_X8_number F p1 x_length x_top x_at x_wrong n_read f_read Post) : MWi l D cT yX8_number cX8_number 4 (some .int) 3 63 0 0 [.ref h, .int p1] [(h, oX8 w_now (.int x_arches) (.int x_cats) w_text (.int x_typed) w_row (.int x_rowMany) (.int x_thrown) (.ref q_read) (.int x_length) (.int x_top) (.int x_at) (.int x_wrong) w_told w_rule w_otherRule (.int x_ruleSize) (.int x_isAsked) w_asked w_undos (.int x_undoMany) w_aside w_then w_hold (.int x_dropped) w_acts w_guarded w_train (.int x_trolleyEnd) w_feltOf w_feltBy (.int x_feltMany) w_many w_heardOf w_heardBy (.int x_heardMany) w_worth (.int x_drawn) (.int x_came) w_kept w_isKept w_keptCame), (q_read, aB cT n_read f_read)] Post (fun (u : (Int32 × Int32)) => [(h, oX8 w_now (.int x_arches) (.int x_cats) w_text (.int x_typed) w_row (.int x_rowMany) (.int x_thrown) (.ref q_read) (.int x_length) (.int x_top) (.int u.1) (.int u.2) w_told w_rule w_otherRule (.int x_ruleSize) (.int x_isAsked) w_asked w_undos (.int x_undoMany) w_aside w_then w_hold (.int x_dropped) w_acts w_guarded w_train (.int x_trolleyEnd) w_feltOf w_feltBy (.int x_feltMany) w_many w_heardOf w_heardBy (.int x_heardMany) w_worth (.int x_drawn) (.int x_came) w_kept w_isKept w_keptCame), (q_read, aB cT n_read f_read)]) := by
  refine MWi.of (by decide) (Nat.le_of_ble_eq_true rfl) ?_
  intro p e s m below meth c A hA C0 hnm hr hP hD ls hl
  have hl : lv_has ls 4 [(0, .ref h), (1, .int p1)] := hl
  have hx := C0.x
  have hb := C0.b
  have hS : va_S A s.heap s.heap [] := va_S.rf
  have hP : va_P D cls9 [(h, oX8 w_now (.int x_arches) (.int x_cats) w_text (.int x_typed) w_row (.int x_rowMany) (.int x_thrown) (.ref q_read) (.int x_length) (.int x_top) (.int x_at) (.int x_wrong) w_told w_rule w_otherRule (.int x_ruleSize) (.int x_isAsked) w_asked w_undos (.int x_undoMany) w_aside w_then w_hold (.int x_dropped) w_acts w_guarded w_train (.int x_trolleyEnd) w_feltOf w_feltBy (.int x_feltMany) w_many w_heardOf w_heardBy (.int x_heardMany) w_worth (.int x_drawn) (.int x_came) w_kept w_isKept w_keptCame), (q_read, aB cT n_read f_read)] s.heap := hP
  have hD : va_D A [(h, oX8 w_now (.int x_arches) (.int x_cats) w_text (.int x_typed) w_row (.int x_rowMany) (.int x_thrown) (.ref q_read) (.int x_length) (.int x_top) (.int x_at) (.int x_wrong) w_told w_rule w_otherRule (.int x_ruleSize) (.int x_isAsked) w_asked w_undos (.int x_undoMany) w_aside w_then w_hold (.int x_dropped) w_acts w_guarded w_train (.int x_trolleyEnd) w_feltOf w_feltBy (.int x_feltMany) w_many w_heardOf w_heardBy (.int x_heardMany) w_worth (.int x_drawn) (.int x_came) w_kept w_isKept w_keptCame), (q_read, aB cT n_read f_read)] := hD
  have L11 : ∀ (n11 : Nat) (y3_11 : Int32) (y2_11 : Int32) (x_at_11 : Int32) (x_wrong_11 : Int32) (H : Heap) (locs : List Loc) (ls : Array Slot), p_X8_number_11 F p1 x_length x_top n_read f_read Post n11 y3_11 y2_11 x_at_11 x_wrong_11 → va_P D cls9 [(h, oX8 w_now (.int x_arches) (.int x_cats) w_text (.int x_typed) w_row (.int x_rowMany) (.int x_thrown) (.ref q_read) (.int x_length) (.int x_top) (.int x_at_11) (.int x_wrong_11) w_told w_rule w_otherRule (.int x_ruleSize) (.int x_isAsked) w_asked w_undos (.int x_undoMany) w_aside w_then w_hold (.int x_dropped) w_acts w_guarded w_train (.int x_trolleyEnd) w_feltOf w_feltBy (.int x_feltMany) w_many w_heardOf w_heardBy (.int x_heardMany) w_worth (.int x_drawn) (.int x_came) w_kept w_isKept w_keptCame), (q_read, aB cT n_read f_read)] H → va_D A [(h, oX8 w_now (.int x_arches) (.int x_cats) w_text (.int x_typed) w_row (.int x_rowMany) (.int x_thrown) (.ref q_read) (.int x_length) (.int x_top) (.int x_at_11) (.int x_wrong_11) w_told w_rule w_otherRule (.int x_ruleSize) (.int x_isAsked) w_asked w_undos (.int x_undoMany) w_aside w_then w_hold (.int x_dropped) w_acts w_guarded w_train (.int x_trolleyEnd) w_feltOf w_feltBy (.int x_feltMany) w_many w_heardOf w_heardBy (.int x_heardMany) w_worth (.int x_drawn) (.int x_came) w_kept w_isKept w_keptCame), (q_read, aB cT n_read f_read)] → va_S A s.heap H locs → lv_has ls 4 [(0, .ref h), (1, .int p1), (2, .int y2_11), (3, .int y3_11)] → W p l e (rmO 3 63 0 0) s m ([.ref h, .int p1] : List Value).toArray below meth c H locs 0 0 (MQ below (va_Qi Post (cB D A (fun (u : (Int32 × Int32)) => [(h, oX8 w_now (.int x_arches) (.int x_cats) w_text (.int x_typed) w_row (.int x_rowMany) (.int x_thrown) (.ref q_read) (.int x_length) (.int x_top) (.int u.1) (.int u.2) w_told w_rule w_otherRule (.int x_ruleSize) (.int x_isAsked) w_asked w_undos (.int x_undoMany) w_aside w_then w_hold (.int x_dropped) w_acts w_guarded w_train (.int x_trolleyEnd) w_feltOf w_feltBy (.int x_feltMany) w_many w_heardOf w_heardBy (.int x_heardMany) w_worth (.int x_drawn) (.int x_came) w_kept w_isKept w_keptCame), (q_read, aB cT n_read f_read)])) A) ([.ref h, .int p1] : List Value).toArray s 0 0 A) (F0 m 11 ls []) := by
    intro n11
    induction n11 with
    | zero =>
      intro y3_11 y2_11 x_at_11 x_wrong_11 H locs ls hg hP hD hS hl
      exact False.elim hg
    | succ n11 ih11 =>
      intro y3_11 y2_11 x_at_11 x_wrong_11 H locs ls hg hP hD hS hl
      rw [p_X8_number_11_s] at hg
      refine lv_iload_n hx hb dX8_number_11 rfl (lv_at hl 3 rfl) ?_
      refine lv_iload_n hx hb dX8_number_12 rfl (lv_at hl 1 rfl) ?_
      refine lv_icmp_ge (tgt := 57) hx hb dX8_number_13 (by decide) (fun c_13 => ?_) (fun c_13 => ?_)
      · have hg := hg.1 c_13
        refine lv_iload_n hx hb dX8_number_57 rfl (lv_at hl 2 rfl) ?_
        exact k_iret C0 hr (x_at_11, x_wrong_11) hg hP hD hS dX8_number_58
      have hg := hg.2 c_13
      refine lv_aload_n hx hb dX8_number_16 rfl (lv_at hl 0 rfl) ?_
      refine k_Vxi (rest := []) C0 lk_X8_121 (c_X8_fine l D cT F h w_now x_arches x_cats w_text x_typed w_row x_rowMany x_thrown (.ref q_read) x_length x_top x_at_11 x_wrong_11 w_told w_rule w_otherRule x_ruleSize x_isAsked w_asked w_undos x_undoMany w_aside w_then w_hold x_dropped w_acts w_guarded w_train x_trolleyEnd w_feltOf w_feltBy x_feltMany w_many w_heardOf w_heardBy x_heardMany w_worth x_drawn x_came w_kept w_isKept w_keptCame _ hg) hP hD hS hA [0] (by decide +kernel) rfl rfl rfl ⟨Nat.le_of_ble_eq_true rfl, Nat.le_of_ble_eq_true rfl⟩ rfl hl.1 rfl (Nat.le_of_ble_eq_true rfl) dX8_number_17 ⟨Nat.le_of_ble_eq_true rfl, Nat.le_of_ble_eq_true rfl⟩ (fun r_17 hg => ?_)
      refine lv_if_eq (tgt := 57) hx hb dX8_number_20 (by decide) (fun c_20 => ?_) (fun c_20 => ?_)
      · have hg := hg.1 c_20
        refine lv_iload_n hx hb dX8_number_57 rfl (lv_at hl 2 rfl) ?_
        exact k_iret C0 hr (x_at_11, x_wrong_11) hg hP hD hS dX8_number_58
      have hg := hg.2 c_20
      refine lv_aload_n hx hb dX8_number_23 rfl (lv_at hl 0 rfl) ?_
      refine k_Vxi (rest := []) C0 lk_X8_125 (c_X8_here l D cT F h w_now x_arches x_cats w_text x_typed w_row x_rowMany x_thrown q_read x_length x_top x_at_11 x_wrong_11 w_told w_rule w_otherRule x_ruleSize x_isAsked w_asked w_undos x_undoMany w_aside w_then w_hold x_dropped w_acts w_guarded w_train x_trolleyEnd w_feltOf w_feltBy x_feltMany w_many w_heardOf w_heardBy x_heardMany w_worth x_drawn x_came w_kept w_isKept w_keptCame n_read f_read _ hg) hP hD hS hA [0, 1] (by decide +kernel) rfl rfl rfl ⟨Nat.le_of_ble_eq_true rfl, Nat.le_of_ble_eq_true rfl⟩ rfl hl.1 rfl (Nat.le_of_ble_eq_true rfl) dX8_number_24 ⟨Nat.le_of_ble_eq_true rfl, Nat.le_of_ble_eq_true rfl⟩ (fun r_24 hg => ?_)
      refine lv_bipush (v := (48 : Int32)) hx hb dX8_number_27 (by decide) ?_
      refine lv_bipush (v := (57 : Int32)) hx hb dX8_number_29 (by decide) ?_
      refine k_Sxi (rest := []) C0 lk_X8_92 (c_X8_in l D cT F r_24 (48 : Int32) (57 : Int32) _ hg) hP hD hS hA [] (by decide +kernel) rfl ⟨Nat.le_of_ble_eq_true rfl, Nat.le_of_ble_eq_true rfl⟩ rfl hl.1 rfl (Nat.le_of_ble_eq_true rfl) dX8_number_31 ⟨Nat.le_of_ble_eq_true rfl, Nat.le_of_ble_eq_true rfl⟩ (fun r_31 hg => ?_)
      refine lv_if_eq (tgt := 57) hx hb dX8_number_34 (by decide) (fun c_34 => ?_) (fun c_34 => ?_)
      · have hg := hg.1 c_34
        refine lv_iload_n hx hb dX8_number_57 rfl (lv_at hl 2 rfl) ?_
        exact k_iret C0 hr (x_at_11, x_wrong_11) hg hP hD hS dX8_number_58
      have hg := hg.2 c_34
      refine lv_bipush (v := (10 : Int32)) hx hb dX8_number_37 (by decide) ?_
      refine lv_iload_n hx hb dX8_number_39 rfl (lv_at hl 2 rfl) ?_
      refine lv_imul hx hb dX8_number_40 ?_
      refine lv_aload_n hx hb dX8_number_41 rfl (lv_at hl 0 rfl) ?_
      refine lv_bipush (v := (48 : Int32)) hx hb dX8_number_42 (by decide) ?_
      refine lv_bipush (v := (10 : Int32)) hx hb dX8_number_44 (by decide) ?_
      refine k_Vi (rest := [.int ((10 : Int32) * y2_11)]) (wr := []) (w2 := fun u_46 => [(h, oX8 w_now (.int x_arches) (.int x_cats) w_text (.int x_typed) w_row (.int x_rowMany) (.int x_thrown) (.ref q_read) (.int x_length) (.int x_top) (.int u_46.1) (.int u_46.2) w_told w_rule w_otherRule (.int x_ruleSize) (.int x_isAsked) w_asked w_undos (.int x_undoMany) w_aside w_then w_hold (.int x_dropped) w_acts w_guarded w_train (.int x_trolleyEnd) w_feltOf w_feltBy (.int x_feltMany) w_many w_heardOf w_heardBy (.int x_heardMany) w_worth (.int x_drawn) (.int x_came) w_kept w_isKept w_keptCame), (q_read, aB cT n_read f_read)]) C0 lk_X8_137 (c_X8_oneOf l D cT F h (48 : Int32) (10 : Int32) w_now x_arches x_cats w_text x_typed w_row x_rowMany x_thrown q_read x_length x_top x_at_11 x_wrong_11 w_told w_rule w_otherRule x_ruleSize x_isAsked w_asked w_undos x_undoMany w_aside w_then w_hold x_dropped w_acts w_guarded w_train x_trolleyEnd w_feltOf w_feltBy x_feltMany w_many w_heardOf w_heardBy x_heardMany w_worth x_drawn x_came w_kept w_isKept w_keptCame n_read f_read _ hg) hP hD hS hA [0, 1] [] (by decide +kernel) rfl rfl (fun _ => rfl) rfl rfl ⟨Nat.le_of_ble_eq_true rfl, Nat.le_of_ble_eq_true rfl⟩ rfl hl.1 rfl (Nat.le_of_ble_eq_true rfl) dX8_number_46 ⟨Nat.le_of_ble_eq_true rfl, Nat.le_of_ble_eq_true rfl⟩ ?_
      intro r_46 u_46 H locs hg hP hD hS
      refine lv_iadd hx hb dX8_number_49 ?_
      refine lv_istore_n (lv' := [(2, .int (((10 : Int32) * y2_11) + r_46)), (0, .ref h), (1, .int p1), (3, .int y3_11)]) hx hb dX8_number_50 rfl hl (by decide) rfl (fun ls hl => ?_)
      refine lv_iinc (v := (y3_11 + (1 : Int32))) (lv' := [(3, .int (y3_11 + (1 : Int32))), (2, .int (((10 : Int32) * y2_11) + r_46)), (0, .ref h), (1, .int p1)]) hx hb dX8_number_51 hl (k := 3) rfl rfl (by decide) rfl (fun ls hl => ?_)
      refine lv_goto (tgt := 11) hx hb dX8_number_54 (by decide) ?_
      exact ih11 (y3_11 + (1 : Int32)) (((10 : Int32) * y2_11) + r_46) u_46.1 u_46.2 _ _ _ hg hP hD hS (lv_sub hl [2, 3, 1, 0] rfl)
  unfold p_X8_number at hg
  refine lv_aload_n hx hb dX8_number_0 rfl (lv_at hl 0 rfl) ?_
  refine lv_bipush (v := (48 : Int32)) hx hb dX8_number_1 (by decide) ?_
  refine lv_bipush (v := (10 : Int32)) hx hb dX8_number_3 (by decide) ?_
  refine k_Vi (rest := []) (wr := []) (w2 := fun u_5 => [(h, oX8 w_now (.int x_arches) (.int x_cats) w_text (.int x_typed) w_row (.int x_rowMany) (.int x_thrown) (.ref q_read) (.int x_length) (.int x_top) (.int u_5.1) (.int u_5.2) w_told w_rule w_otherRule (.int x_ruleSize) (.int x_isAsked) w_asked w_undos (.int x_undoMany) w_aside w_then w_hold (.int x_dropped) w_acts w_guarded w_train (.int x_trolleyEnd) w_feltOf w_feltBy (.int x_feltMany) w_many w_heardOf w_heardBy (.int x_heardMany) w_worth (.int x_drawn) (.int x_came) w_kept w_isKept w_keptCame), (q_read, aB cT n_read f_read)]) C0 lk_X8_137 (c_X8_oneOf l D cT F h (48 : Int32) (10 : Int32) w_now x_arches x_cats w_text x_typed w_row x_rowMany x_thrown q_read x_length x_top x_at x_wrong w_told w_rule w_otherRule x_ruleSize x_isAsked w_asked w_undos x_undoMany w_aside w_then w_hold x_dropped w_acts w_guarded w_train x_trolleyEnd w_feltOf w_feltBy x_feltMany w_many w_heardOf w_heardBy x_heardMany w_worth x_drawn x_came w_kept w_isKept w_keptCame n_read f_read _ hg) hP hD hS hA [0, 1] [] (by decide +kernel) rfl rfl (fun _ => rfl) rfl rfl ⟨Nat.le_of_ble_eq_true rfl, Nat.le_of_ble_eq_true rfl⟩ rfl hl.1 rfl (Nat.le_of_ble_eq_true rfl) dX8_number_5 ⟨Nat.le_of_ble_eq_true rfl, Nat.le_of_ble_eq_true rfl⟩ ?_
  intro r_5 u_5 H locs hg hP hD hS
  refine lv_istore_n (lv' := [(2, .int r_5), (0, .ref h), (1, .int p1)]) hx hb dX8_number_8 rfl hl (by decide) rfl (fun ls hl => ?_)
  refine lv_iconst (v := (1 : Int32)) hx hb dX8_number_9 (by decide) ?_
  refine lv_istore_n (lv' := [(3, .int (1 : Int32)), (2, .int r_5), (0, .ref h), (1, .int p1)]) hx hb dX8_number_10 rfl hl (by decide) rfl (fun ls hl => ?_)
  exact L11 F (1 : Int32) r_5 u_5.1 u_5.2 _ _ _ hg hP hD hS (lv_sub hl [2, 3, 1, 0] rfl)
theorem dX8_wasRight_0 : decode cX8_wasRight 0 = .ok (.aload_n 0, 1) := by decide +kernel
theorem dX8_wasRight_1 : decode cX8_wasRight 1 = .ok (.getfield 111, 3) := by decide +kernel
theorem dX8_wasRight_4 : decode cX8_wasRight 4 = .ok (.aload_n 0, 1) := by decide +kernel
theorem dX8_wasRight_5 : decode cX8_wasRight 5 = .ok (.getfield 105, 3) := by decide +kernel
theorem dX8_wasRight_8 : decode cX8_wasRight 8 = .ok (.if_icmp .ge 11, 3) := by decide +kernel
theorem dX8_wasRight_11 : decode cX8_wasRight 11 = .ok (.aload_n 0, 1) := by decide +kernel
theorem dX8_wasRight_12 : decode cX8_wasRight 12 = .ok (.aload_n 0, 1) := by decide +kernel
theorem dX8_wasRight_13 : decode cX8_wasRight 13 = .ok (.getfield 111, 3) := by decide +kernel
theorem dX8_wasRight_16 : decode cX8_wasRight 16 = .ok (.invokevirtual 133, 3) := by decide +kernel
theorem dX8_wasRight_19 : decode cX8_wasRight 19 = .ok (.aload_n 0, 1) := by decide +kernel
theorem dX8_wasRight_20 : decode cX8_wasRight 20 = .ok (.invokevirtual 121, 3) := by decide +kernel
theorem dX8_wasRight_23 : decode cX8_wasRight 23 = .ok (.ireturn, 1) := by decide +kernel
def p_X8_wasRight_19 (F : Nat) (Post : Int32 → Int32 → Prop) (x_wrong_19 : Int32) : Prop := (p_X8_fine F x_wrong_19 (fun (r_20 : Int32) => ((r_20 = 0 ∨ r_20 = 1) ∧ (Post r_20 x_wrong_19))))
def p_X8_wasRight (F : Nat) (x_length : Int32) (x_at : Int32) (x_wrong : Int32) (Post : Int32 → Int32 → Prop) : Prop := ((x_length ≤ x_at → (p_X8_wasRight_19 F Post x_wrong)) ∧ (¬ x_length ≤ x_at → (p_X8_fault F x_at x_wrong (fun (u_16 : Int32) => (p_X8_wasRight_19 F Post u_16)))))
set_option maxHeartbeats 4000000 in
set_option maxRecDepth 100000 in
theorem c_X8_wasRight (l : Launch) (D : va_G) (cT : Nat → ClassId) (F : Nat) (h : Nat) (w_now : Value) (x_arches : Int32) (x_cats : Int32) (w_text : Value) (x_typed : Int32) (w_row : Value) (x_rowMany : Int32) (x_thrown : Int32) (w_read : Value) (x_length : Int32) (x_top : Int32) (x_at : Int32) (x_wrong : Int32) (w_told : Value) (w_rule : Value) (w_otherRule : Value) (x_ruleSize : Int32) (x_isAsked : Int32) (w_asked : Value) (w_undos : Value) (x_undoMany : Int32) (w_aside : Value) (w_then : Value) (w_hold : Value) (x_dropped : Int32) (w_acts : Value) (w_guarded : Value) (w_train : Value) (x_trolleyEnd : Int32) (w_feltOf : Value) (w_feltBy : Value) (x_feltMany : Int32) (w_many : Value) (w_heardOf : Value) (w_heardBy : Value) (x_heardMany : Int32) (w_worth : Value) (x_drawn : Int32) (x_came : Int32) (w_kept : Value) (w_isKept : Value) (w_keptCame : Value) (Post : Int32 → Int32 → Prop) (hg : p_X8_wasRight F x_length x_at x_wrong Post) : MWi l D cT yX8_wasRight cX8_wasRight 1 (some .boolean) 2 41 0 0 [.ref h] [(h, oX8 w_now (.int x_arches) (.int x_cats) w_text (.int x_typed) w_row (.int x_rowMany) (.int x_thrown) w_read (.int x_length) (.int x_top) (.int x_at) (.int x_wrong) w_told w_rule w_otherRule (.int x_ruleSize) (.int x_isAsked) w_asked w_undos (.int x_undoMany) w_aside w_then w_hold (.int x_dropped) w_acts w_guarded w_train (.int x_trolleyEnd) w_feltOf w_feltBy (.int x_feltMany) w_many w_heardOf w_heardBy (.int x_heardMany) w_worth (.int x_drawn) (.int x_came) w_kept w_isKept w_keptCame)] Post (fun (u : Int32) => [(h, oX8 w_now (.int x_arches) (.int x_cats) w_text (.int x_typed) w_row (.int x_rowMany) (.int x_thrown) w_read (.int x_length) (.int x_top) (.int x_at) (.int u) w_told w_rule w_otherRule (.int x_ruleSize) (.int x_isAsked) w_asked w_undos (.int x_undoMany) w_aside w_then w_hold (.int x_dropped) w_acts w_guarded w_train (.int x_trolleyEnd) w_feltOf w_feltBy (.int x_feltMany) w_many w_heardOf w_heardBy (.int x_heardMany) w_worth (.int x_drawn) (.int x_came) w_kept w_isKept w_keptCame)]) := by
  refine MWi.of (by decide) (Nat.le_of_ble_eq_true rfl) ?_
  intro p e s m below meth c A hA C0 hnm hr hP hD ls hl
  have hl : lv_has ls 1 [(0, .ref h)] := hl
  have hx := C0.x
  have hb := C0.b
  have hS : va_S A s.heap s.heap [] := va_S.rf
  have hP : va_P D cls9 [(h, oX8 w_now (.int x_arches) (.int x_cats) w_text (.int x_typed) w_row (.int x_rowMany) (.int x_thrown) w_read (.int x_length) (.int x_top) (.int x_at) (.int x_wrong) w_told w_rule w_otherRule (.int x_ruleSize) (.int x_isAsked) w_asked w_undos (.int x_undoMany) w_aside w_then w_hold (.int x_dropped) w_acts w_guarded w_train (.int x_trolleyEnd) w_feltOf w_feltBy (.int x_feltMany) w_many w_heardOf w_heardBy (.int x_heardMany) w_worth (.int x_drawn) (.int x_came) w_kept w_isKept w_keptCame)] s.heap := hP
  have hD : va_D A [(h, oX8 w_now (.int x_arches) (.int x_cats) w_text (.int x_typed) w_row (.int x_rowMany) (.int x_thrown) w_read (.int x_length) (.int x_top) (.int x_at) (.int x_wrong) w_told w_rule w_otherRule (.int x_ruleSize) (.int x_isAsked) w_asked w_undos (.int x_undoMany) w_aside w_then w_hold (.int x_dropped) w_acts w_guarded w_train (.int x_trolleyEnd) w_feltOf w_feltBy (.int x_feltMany) w_many w_heardOf w_heardBy (.int x_heardMany) w_worth (.int x_drawn) (.int x_came) w_kept w_isKept w_keptCame)] := hD
  have L19 : ∀ (x_wrong_19 : Int32) (H : Heap) (locs : List Loc) (ls : Array Slot), p_X8_wasRight_19 F Post x_wrong_19 → va_P D cls9 [(h, oX8 w_now (.int x_arches) (.int x_cats) w_text (.int x_typed) w_row (.int x_rowMany) (.int x_thrown) w_read (.int x_length) (.int x_top) (.int x_at) (.int x_wrong_19) w_told w_rule w_otherRule (.int x_ruleSize) (.int x_isAsked) w_asked w_undos (.int x_undoMany) w_aside w_then w_hold (.int x_dropped) w_acts w_guarded w_train (.int x_trolleyEnd) w_feltOf w_feltBy (.int x_feltMany) w_many w_heardOf w_heardBy (.int x_heardMany) w_worth (.int x_drawn) (.int x_came) w_kept w_isKept w_keptCame)] H → va_D A [(h, oX8 w_now (.int x_arches) (.int x_cats) w_text (.int x_typed) w_row (.int x_rowMany) (.int x_thrown) w_read (.int x_length) (.int x_top) (.int x_at) (.int x_wrong_19) w_told w_rule w_otherRule (.int x_ruleSize) (.int x_isAsked) w_asked w_undos (.int x_undoMany) w_aside w_then w_hold (.int x_dropped) w_acts w_guarded w_train (.int x_trolleyEnd) w_feltOf w_feltBy (.int x_feltMany) w_many w_heardOf w_heardBy (.int x_heardMany) w_worth (.int x_drawn) (.int x_came) w_kept w_isKept w_keptCame)] → va_S A s.heap H locs → lv_has ls 1 [(0, .ref h)] → W p l e (rmO 2 41 0 0) s m ([.ref h] : List Value).toArray below meth c H locs 0 0 (MQ below (va_Qi Post (cB D A (fun (u : Int32) => [(h, oX8 w_now (.int x_arches) (.int x_cats) w_text (.int x_typed) w_row (.int x_rowMany) (.int x_thrown) w_read (.int x_length) (.int x_top) (.int x_at) (.int u) w_told w_rule w_otherRule (.int x_ruleSize) (.int x_isAsked) w_asked w_undos (.int x_undoMany) w_aside w_then w_hold (.int x_dropped) w_acts w_guarded w_train (.int x_trolleyEnd) w_feltOf w_feltBy (.int x_feltMany) w_many w_heardOf w_heardBy (.int x_heardMany) w_worth (.int x_drawn) (.int x_came) w_kept w_isKept w_keptCame)])) A) ([.ref h] : List Value).toArray s 0 0 A) (F0 m 19 ls []) := by
    intro x_wrong_19 H locs ls hg hP hD hS hl
    unfold p_X8_wasRight_19 at hg
    refine lv_aload_n hx hb dX8_wasRight_19 rfl (lv_at hl 0 rfl) ?_
    refine k_Vxi (rest := []) C0 lk_X8_121 (c_X8_fine l D cT F h w_now x_arches x_cats w_text x_typed w_row x_rowMany x_thrown w_read x_length x_top x_at x_wrong_19 w_told w_rule w_otherRule x_ruleSize x_isAsked w_asked w_undos x_undoMany w_aside w_then w_hold x_dropped w_acts w_guarded w_train x_trolleyEnd w_feltOf w_feltBy x_feltMany w_many w_heardOf w_heardBy x_heardMany w_worth x_drawn x_came w_kept w_isKept w_keptCame _ hg) hP hD hS hA [0] (by decide +kernel) rfl rfl rfl ⟨Nat.le_of_ble_eq_true rfl, Nat.le_of_ble_eq_true rfl⟩ rfl hl.1 rfl (Nat.le_of_ble_eq_true rfl) dX8_wasRight_20 ⟨Nat.le_of_ble_eq_true rfl, Nat.le_of_ble_eq_true rfl⟩ (fun r_20 hg => ?_)
    obtain ⟨g_23, hg⟩ := hg
    exact k_zret C0 hr g_23 x_wrong_19 hg hP hD hS dX8_wasRight_23
  unfold p_X8_wasRight at hg
  refine lv_aload_n hx hb dX8_wasRight_0 rfl (lv_at hl 0 rfl) ?_
  refine gf_X8_111 C0 hP 0 rfl rfl dX8_wasRight_1 ?_
  refine lv_aload_n hx hb dX8_wasRight_4 rfl (lv_at hl 0 rfl) ?_
  refine gf_X8_105 C0 hP 0 rfl rfl dX8_wasRight_5 ?_
  refine lv_icmp_ge (tgt := 19) hx hb dX8_wasRight_8 (by decide) (fun c_8 => ?_) (fun c_8 => ?_)
  · have hg := hg.1 c_8
    exact L19 x_wrong _ _ _ hg hP hD hS hl
  have hg := hg.2 c_8
  refine lv_aload_n hx hb dX8_wasRight_11 rfl (lv_at hl 0 rfl) ?_
  refine lv_aload_n hx hb dX8_wasRight_12 rfl (lv_at hl 0 rfl) ?_
  refine gf_X8_111 C0 hP 0 rfl rfl dX8_wasRight_13 ?_
  refine k_Vv (rest := []) (wr := []) (w2 := fun u_16 => [(h, oX8 w_now (.int x_arches) (.int x_cats) w_text (.int x_typed) w_row (.int x_rowMany) (.int x_thrown) w_read (.int x_length) (.int x_top) (.int x_at) (.int u_16) w_told w_rule w_otherRule (.int x_ruleSize) (.int x_isAsked) w_asked w_undos (.int x_undoMany) w_aside w_then w_hold (.int x_dropped) w_acts w_guarded w_train (.int x_trolleyEnd) w_feltOf w_feltBy (.int x_feltMany) w_many w_heardOf w_heardBy (.int x_heardMany) w_worth (.int x_drawn) (.int x_came) w_kept w_isKept w_keptCame)]) C0 lk_X8_133 (c_X8_fault l D cT F h x_at w_now x_arches x_cats w_text x_typed w_row x_rowMany x_thrown w_read x_length x_top x_at x_wrong w_told w_rule w_otherRule x_ruleSize x_isAsked w_asked w_undos x_undoMany w_aside w_then w_hold x_dropped w_acts w_guarded w_train x_trolleyEnd w_feltOf w_feltBy x_feltMany w_many w_heardOf w_heardBy x_heardMany w_worth x_drawn x_came w_kept w_isKept w_keptCame _ hg) hP hD hS hA [0] [] (by decide +kernel) rfl rfl (fun _ => rfl) rfl rfl ⟨Nat.le_of_ble_eq_true rfl, Nat.le_of_ble_eq_true rfl⟩ rfl hl.1 rfl (Nat.le_of_ble_eq_true rfl) dX8_wasRight_16 ⟨Nat.le_of_ble_eq_true rfl, Nat.le_of_ble_eq_true rfl⟩ ?_
  intro u_16 H locs hg hP hD hS
  exact L19 u_16 _ _ _ hg hP hD hS hl
theorem dX8_toldAnew_0 : decode cX8_toldAnew 0 = .ok (.aload_n 0, 1) := by decide +kernel
theorem dX8_toldAnew_1 : decode cX8_toldAnew 1 = .ok (.iconst 0, 1) := by decide +kernel
theorem dX8_toldAnew_2 : decode cX8_toldAnew 2 = .ok (.putfield 141, 3) := by decide +kernel
theorem dX8_toldAnew_5 : decode cX8_toldAnew 5 = .ok (.aload_n 0, 1) := by decide +kernel
theorem dX8_toldAnew_6 : decode cX8_toldAnew 6 = .ok (.dup, 1) := by decide +kernel
theorem dX8_toldAnew_7 : decode cX8_toldAnew 7 = .ok (.getfield 144, 3) := by decide +kernel
theorem dX8_toldAnew_10 : decode cX8_toldAnew 10 = .ok (.iconst 1, 1) := by decide +kernel
theorem dX8_toldAnew_11 : decode cX8_toldAnew 11 = .ok (.iadd, 1) := by decide +kernel
theorem dX8_toldAnew_12 : decode cX8_toldAnew 12 = .ok (.putfield 144, 3) := by decide +kernel
theorem dX8_toldAnew_15 : decode cX8_toldAnew 15 = .ok (.return_, 1) := by decide +kernel
def p_X8_toldAnew (F : Nat) (x_came : Int32) (Post : (Int32 × Int32) → Prop) : Prop := (Post ((0 : Int32), (x_came + (1 : Int32))))
set_option maxHeartbeats 4000000 in
set_option maxRecDepth 100000 in
theorem c_X8_toldAnew (l : Launch) (D : va_G) (cT : Nat → ClassId) (F : Nat) (h : Nat) (w_now : Value) (x_arches : Int32) (x_cats : Int32) (w_text : Value) (x_typed : Int32) (w_row : Value) (x_rowMany : Int32) (x_thrown : Int32) (w_read : Value) (x_length : Int32) (x_top : Int32) (x_at : Int32) (x_wrong : Int32) (w_told : Value) (w_rule : Value) (w_otherRule : Value) (x_ruleSize : Int32) (x_isAsked : Int32) (w_asked : Value) (w_undos : Value) (x_undoMany : Int32) (w_aside : Value) (w_then : Value) (w_hold : Value) (x_dropped : Int32) (w_acts : Value) (w_guarded : Value) (w_train : Value) (x_trolleyEnd : Int32) (w_feltOf : Value) (w_feltBy : Value) (x_feltMany : Int32) (w_many : Value) (w_heardOf : Value) (w_heardBy : Value) (x_heardMany : Int32) (w_worth : Value) (x_drawn : Int32) (x_came : Int32) (w_kept : Value) (w_isKept : Value) (w_keptCame : Value) (Post : (Int32 × Int32) → Prop) (hg : p_X8_toldAnew F x_came Post) : MWv l D cT yX8_toldAnew cX8_toldAnew 1 none 0 0 0 0 [.ref h] [(h, oX8 w_now (.int x_arches) (.int x_cats) w_text (.int x_typed) w_row (.int x_rowMany) (.int x_thrown) w_read (.int x_length) (.int x_top) (.int x_at) (.int x_wrong) w_told w_rule w_otherRule (.int x_ruleSize) (.int x_isAsked) w_asked w_undos (.int x_undoMany) w_aside w_then w_hold (.int x_dropped) w_acts w_guarded w_train (.int x_trolleyEnd) w_feltOf w_feltBy (.int x_feltMany) w_many w_heardOf w_heardBy (.int x_heardMany) w_worth (.int x_drawn) (.int x_came) w_kept w_isKept w_keptCame)] Post (fun (u : (Int32 × Int32)) => [(h, oX8 w_now (.int x_arches) (.int x_cats) w_text (.int x_typed) w_row (.int x_rowMany) (.int x_thrown) w_read (.int x_length) (.int x_top) (.int x_at) (.int x_wrong) w_told w_rule w_otherRule (.int x_ruleSize) (.int x_isAsked) w_asked w_undos (.int u.1) w_aside w_then w_hold (.int x_dropped) w_acts w_guarded w_train (.int x_trolleyEnd) w_feltOf w_feltBy (.int x_feltMany) w_many w_heardOf w_heardBy (.int x_heardMany) w_worth (.int x_drawn) (.int u.2) w_kept w_isKept w_keptCame)]) := by
  refine MWv.of (by decide) (Nat.le_of_ble_eq_true rfl) ?_
  intro p e s m below meth c A hA C0 hnm hr hP hD ls hl
  have hl : lv_has ls 1 [(0, .ref h)] := hl
  have hx := C0.x
  have hb := C0.b
  have hS : va_S A s.heap s.heap [] := va_S.rf
  have hP : va_P D cls9 [(h, oX8 w_now (.int x_arches) (.int x_cats) w_text (.int x_typed) w_row (.int x_rowMany) (.int x_thrown) w_read (.int x_length) (.int x_top) (.int x_at) (.int x_wrong) w_told w_rule w_otherRule (.int x_ruleSize) (.int x_isAsked) w_asked w_undos (.int x_undoMany) w_aside w_then w_hold (.int x_dropped) w_acts w_guarded w_train (.int x_trolleyEnd) w_feltOf w_feltBy (.int x_feltMany) w_many w_heardOf w_heardBy (.int x_heardMany) w_worth (.int x_drawn) (.int x_came) w_kept w_isKept w_keptCame)] s.heap := hP
  have hD : va_D A [(h, oX8 w_now (.int x_arches) (.int x_cats) w_text (.int x_typed) w_row (.int x_rowMany) (.int x_thrown) w_read (.int x_length) (.int x_top) (.int x_at) (.int x_wrong) w_told w_rule w_otherRule (.int x_ruleSize) (.int x_isAsked) w_asked w_undos (.int x_undoMany) w_aside w_then w_hold (.int x_dropped) w_acts w_guarded w_train (.int x_trolleyEnd) w_feltOf w_feltBy (.int x_feltMany) w_many w_heardOf w_heardBy (.int x_heardMany) w_worth (.int x_drawn) (.int x_came) w_kept w_isKept w_keptCame)] := hD
  unfold p_X8_toldAnew at hg
  refine lv_aload_n hx hb dX8_toldAnew_0 rfl (lv_at hl 0 rfl) ?_
  refine lv_iconst (v := (0 : Int32)) hx hb dX8_toldAnew_1 (by decide) ?_
  refine pf_X8_141 C0 hP hD hS 0 rfl (Nat.le_of_ble_eq_true rfl) (ws2 := [(h, oX8 w_now (.int x_arches) (.int x_cats) w_text (.int x_typed) w_row (.int x_rowMany) (.int x_thrown) w_read (.int x_length) (.int x_top) (.int x_at) (.int x_wrong) w_told w_rule w_otherRule (.int x_ruleSize) (.int x_isAsked) w_asked w_undos (.int (0 : Int32)) w_aside w_then w_hold (.int x_dropped) w_acts w_guarded w_train (.int x_trolleyEnd) w_feltOf w_feltBy (.int x_feltMany) w_many w_heardOf w_heardBy (.int x_heardMany) w_worth (.int x_drawn) (.int x_came) w_kept w_isKept w_keptCame)]) rfl dX8_toldAnew_2 (fun H locs hP hD hS => ?_)
  refine lv_aload_n hx hb dX8_toldAnew_5 rfl (lv_at hl 0 rfl) ?_
  refine lv_dup hx hb dX8_toldAnew_6 rfl ?_
  refine gf_X8_144 C0 hP 0 rfl rfl dX8_toldAnew_7 ?_
  refine lv_iconst (v := (1 : Int32)) hx hb dX8_toldAnew_10 (by decide) ?_
  refine lv_iadd hx hb dX8_toldAnew_11 ?_
  refine pf_X8_144 C0 hP hD hS 0 rfl (Nat.le_of_ble_eq_true rfl) (ws2 := [(h, oX8 w_now (.int x_arches) (.int x_cats) w_text (.int x_typed) w_row (.int x_rowMany) (.int x_thrown) w_read (.int x_length) (.int x_top) (.int x_at) (.int x_wrong) w_told w_rule w_otherRule (.int x_ruleSize) (.int x_isAsked) w_asked w_undos (.int (0 : Int32)) w_aside w_then w_hold (.int x_dropped) w_acts w_guarded w_train (.int x_trolleyEnd) w_feltOf w_feltBy (.int x_feltMany) w_many w_heardOf w_heardBy (.int x_heardMany) w_worth (.int x_drawn) (.int (x_came + (1 : Int32))) w_kept w_isKept w_keptCame)]) rfl dX8_toldAnew_12 (fun H locs hP hD hS => ?_)
  exact k_vret C0 hr ((0 : Int32), (x_came + (1 : Int32))) hg hP hD hS dX8_toldAnew_15
theorem dX8_arches_0 : decode cX8_arches 0 = .ok (.aload_n 0, 1) := by decide +kernel
theorem dX8_arches_1 : decode cX8_arches 1 = .ok (.iconst 0, 1) := by decide +kernel
theorem dX8_arches_2 : decode cX8_arches 2 = .ok (.putfield 82, 3) := by decide +kernel
theorem dX8_arches_5 : decode cX8_arches 5 = .ok (.aload_n 0, 1) := by decide +kernel
theorem dX8_arches_6 : decode cX8_arches 6 = .ok (.bipush 11, 2) := by decide +kernel
theorem dX8_arches_8 : decode cX8_arches 8 = .ok (.invokevirtual 147, 3) := by decide +kernel
theorem dX8_arches_11 : decode cX8_arches 11 = .ok (.aload_n 0, 1) := by decide +kernel
theorem dX8_arches_12 : decode cX8_arches 12 = .ok (.getfield 105, 3) := by decide +kernel
theorem dX8_arches_15 : decode cX8_arches 15 = .ok (.ifCond .ne 5, 3) := by decide +kernel
theorem dX8_arches_18 : decode cX8_arches 18 = .ok (.iconst 0, 1) := by decide +kernel
theorem dX8_arches_19 : decode cX8_arches 19 = .ok (.ireturn, 1) := by decide +kernel
theorem dX8_arches_20 : decode cX8_arches 20 = .ok (.iconst 0, 1) := by decide +kernel
theorem dX8_arches_21 : decode cX8_arches 21 = .ok (.istore_n 1, 1) := by decide +kernel
theorem dX8_arches_22 : decode cX8_arches 22 = .ok (.iconst 1, 1) := by decide +kernel
theorem dX8_arches_23 : decode cX8_arches 23 = .ok (.istore_n 2, 1) := by decide +kernel
theorem dX8_arches_24 : decode cX8_arches 24 = .ok (.iload_n 2, 1) := by decide +kernel
theorem dX8_arches_25 : decode cX8_arches 25 = .ok (.ifCond .eq 59, 3) := by decide +kernel
theorem dX8_arches_28 : decode cX8_arches 28 = .ok (.aload_n 0, 1) := by decide +kernel
theorem dX8_arches_29 : decode cX8_arches 29 = .ok (.invokevirtual 121, 3) := by decide +kernel
theorem dX8_arches_32 : decode cX8_arches 32 = .ok (.ifCond .eq 52, 3) := by decide +kernel
theorem dX8_arches_35 : decode cX8_arches 35 = .ok (.aload_n 0, 1) := by decide +kernel
theorem dX8_arches_36 : decode cX8_arches 36 = .ok (.getfield 89, 3) := by decide +kernel
theorem dX8_arches_39 : decode cX8_arches 39 = .ok (.iload_n 1, 1) := by decide +kernel
theorem dX8_arches_40 : decode cX8_arches 40 = .ok (.iadd, 1) := by decide +kernel
theorem dX8_arches_41 : decode cX8_arches 41 = .ok (.bipush 6, 2) := by decide +kernel
theorem dX8_arches_43 : decode cX8_arches 43 = .ok (.if_icmp .ne 14, 3) := by decide +kernel
theorem dX8_arches_46 : decode cX8_arches 46 = .ok (.aload_n 0, 1) := by decide +kernel
theorem dX8_arches_47 : decode cX8_arches 47 = .ok (.aload_n 0, 1) := by decide +kernel
theorem dX8_arches_48 : decode cX8_arches 48 = .ok (.getfield 111, 3) := by decide +kernel
theorem dX8_arches_51 : decode cX8_arches 51 = .ok (.invokevirtual 133, 3) := by decide +kernel
theorem dX8_arches_54 : decode cX8_arches 54 = .ok (.goto 17, 3) := by decide +kernel
theorem dX8_arches_57 : decode cX8_arches 57 = .ok (.aload_n 0, 1) := by decide +kernel
theorem dX8_arches_58 : decode cX8_arches 58 = .ok (.getfield 21, 3) := by decide +kernel
theorem dX8_arches_61 : decode cX8_arches 61 = .ok (.iload_n 1, 1) := by decide +kernel
theorem dX8_arches_62 : decode cX8_arches 62 = .ok (.aload_n 0, 1) := by decide +kernel
theorem dX8_arches_63 : decode cX8_arches 63 = .ok (.bipush 48, 2) := by decide +kernel
theorem dX8_arches_65 : decode cX8_arches 65 = .ok (.bipush 10, 2) := by decide +kernel
theorem dX8_arches_67 : decode cX8_arches 67 = .ok (.invokevirtual 137, 3) := by decide +kernel
theorem dX8_arches_70 : decode cX8_arches 70 = .ok (.iastore, 1) := by decide +kernel
theorem dX8_arches_71 : decode cX8_arches 71 = .ok (.iinc 1 1, 3) := by decide +kernel
theorem dX8_arches_74 : decode cX8_arches 74 = .ok (.aload_n 0, 1) := by decide +kernel
theorem dX8_arches_75 : decode cX8_arches 75 = .ok (.bipush 59, 2) := by decide +kernel
theorem dX8_arches_77 : decode cX8_arches 77 = .ok (.invokevirtual 129, 3) := by decide +kernel
theorem dX8_arches_80 : decode cX8_arches 80 = .ok (.istore_n 2, 1) := by decide +kernel
theorem dX8_arches_81 : decode cX8_arches 81 = .ok (.goto (-57), 3) := by decide +kernel
theorem dX8_arches_84 : decode cX8_arches 84 = .ok (.aload_n 0, 1) := by decide +kernel
theorem dX8_arches_85 : decode cX8_arches 85 = .ok (.invokevirtual 150, 3) := by decide +kernel
theorem dX8_arches_88 : decode cX8_arches 88 = .ok (.ifCond .ne 10, 3) := by decide +kernel
theorem dX8_arches_91 : decode cX8_arches 91 = .ok (.iconst (-1), 1) := by decide +kernel
theorem dX8_arches_92 : decode cX8_arches 92 = .ok (.aload_n 0, 1) := by decide +kernel
theorem dX8_arches_93 : decode cX8_arches 93 = .ok (.getfield 114, 3) := by decide +kernel
theorem dX8_arches_96 : decode cX8_arches 96 = .ok (.isub, 1) := by decide +kernel
theorem dX8_arches_97 : decode cX8_arches 97 = .ok (.ireturn, 1) := by decide +kernel
theorem dX8_arches_98 : decode cX8_arches 98 = .ok (.iconst 0, 1) := by decide +kernel
theorem dX8_arches_99 : decode cX8_arches 99 = .ok (.istore_n 3, 1) := by decide +kernel
theorem dX8_arches_100 : decode cX8_arches 100 = .ok (.iload_n 3, 1) := by decide +kernel
theorem dX8_arches_101 : decode cX8_arches 101 = .ok (.iload_n 1, 1) := by decide +kernel
theorem dX8_arches_102 : decode cX8_arches 102 = .ok (.if_icmp .ge 47, 3) := by decide +kernel
theorem dX8_arches_105 : decode cX8_arches 105 = .ok (.aload_n 0, 1) := by decide +kernel
theorem dX8_arches_106 : decode cX8_arches 106 = .ok (.getfield 9, 3) := by decide +kernel
theorem dX8_arches_109 : decode cX8_arches 109 = .ok (.aload_n 0, 1) := by decide +kernel
theorem dX8_arches_110 : decode cX8_arches 110 = .ok (.getfield 89, 3) := by decide +kernel
theorem dX8_arches_113 : decode cX8_arches 113 = .ok (.aload_n 0, 1) := by decide +kernel
theorem dX8_arches_114 : decode cX8_arches 114 = .ok (.getfield 21, 3) := by decide +kernel
theorem dX8_arches_117 : decode cX8_arches 117 = .ok (.iload_n 3, 1) := by decide +kernel
theorem dX8_arches_118 : decode cX8_arches 118 = .ok (.iaload, 1) := by decide +kernel
theorem dX8_arches_119 : decode cX8_arches 119 = .ok (.iastore, 1) := by decide +kernel
theorem dX8_arches_120 : decode cX8_arches 120 = .ok (.aload_n 0, 1) := by decide +kernel
theorem dX8_arches_121 : decode cX8_arches 121 = .ok (.getfield 9, 3) := by decide +kernel
theorem dX8_arches_124 : decode cX8_arches 124 = .ok (.bipush 6, 2) := by decide +kernel
theorem dX8_arches_126 : decode cX8_arches 126 = .ok (.aload_n 0, 1) := by decide +kernel
theorem dX8_arches_127 : decode cX8_arches 127 = .ok (.getfield 89, 3) := by decide +kernel
theorem dX8_arches_130 : decode cX8_arches 130 = .ok (.iadd, 1) := by decide +kernel
theorem dX8_arches_131 : decode cX8_arches 131 = .ok (.iconst 0, 1) := by decide +kernel
theorem dX8_arches_132 : decode cX8_arches 132 = .ok (.iastore, 1) := by decide +kernel
theorem dX8_arches_133 : decode cX8_arches 133 = .ok (.aload_n 0, 1) := by decide +kernel
theorem dX8_arches_134 : decode cX8_arches 134 = .ok (.dup, 1) := by decide +kernel
theorem dX8_arches_135 : decode cX8_arches 135 = .ok (.getfield 89, 3) := by decide +kernel
theorem dX8_arches_138 : decode cX8_arches 138 = .ok (.iconst 1, 1) := by decide +kernel
theorem dX8_arches_139 : decode cX8_arches 139 = .ok (.iadd, 1) := by decide +kernel
theorem dX8_arches_140 : decode cX8_arches 140 = .ok (.putfield 89, 3) := by decide +kernel
theorem dX8_arches_143 : decode cX8_arches 143 = .ok (.iinc 3 1, 3) := by decide +kernel
theorem dX8_arches_146 : decode cX8_arches 146 = .ok (.goto (-46), 3) := by decide +kernel
theorem dX8_arches_149 : decode cX8_arches 149 = .ok (.aload_n 0, 1) := by decide +kernel
theorem dX8_arches_150 : decode cX8_arches 150 = .ok (.invokevirtual 153, 3) := by decide +kernel
theorem dX8_arches_153 : decode cX8_arches 153 = .ok (.iload_n 1, 1) := by decide +kernel
theorem dX8_arches_154 : decode cX8_arches 154 = .ok (.ireturn, 1) := by decide +kernel
noncomputable def p_X8_arches_100 (F : Nat) (x_came : Int32) (u_8 : (Int32 × Int32 × Int32 × Int32 × Int32)) (u_85 : Int32) (y1_24 : Int32) (x_at_24 : Int32) (f_told_24 : Nat → Int32) (Post : Int32 → (Int32 × Int32 × Int32 × Int32 × Int32 × Int32 × Int32 × Int32 × Int32 × (Nat → Int32) × (Nat → Int32)) → Prop) (n : Nat) : Int32 → Int32 → (Nat → Int32) → Prop := Nat.rec (motive := fun _ => Int32 → Int32 → (Nat → Int32) → Prop) (fun _ _ _ => False) (fun _ k100 => fun (y3_100 : Int32) (x_arches_100 : Int32) (f_now_100 : Nat → Int32) => ((y1_24 ≤ y3_100 → (p_X8_toldAnew F x_came (fun (u_150 : (Int32 × Int32)) => (Post y1_24 (x_arches_100, u_8.1, (0 : Int32), u_8.2.1, u_8.2.2.1, x_at_24, u_85, u_150.1, u_150.2, f_told_24, f_now_100))))) ∧ (¬ y1_24 ≤ y3_100 → (vp_in y3_100 24 ∧ (vp_in x_arches_100 47 ∧ (vp_in ((6 : Int32) + x_arches_100) 47 ∧ (k100 (y3_100 + (1 : Int32)) (x_arches_100 + (1 : Int32)) (upd (upd f_now_100 x_arches_100.toNatClampNeg (f_told_24 y3_100.toNatClampNeg)) ((6 : Int32) + x_arches_100).toNatClampNeg (0 : Int32))))))))) n
theorem p_X8_arches_100_s (F : Nat) (x_came : Int32) (u_8 : (Int32 × Int32 × Int32 × Int32 × Int32)) (u_85 : Int32) (y1_24 : Int32) (x_at_24 : Int32) (f_told_24 : Nat → Int32) (Post : Int32 → (Int32 × Int32 × Int32 × Int32 × Int32 × Int32 × Int32 × Int32 × Int32 × (Nat → Int32) × (Nat → Int32)) → Prop) (n : Nat) (y3_100 : Int32) (x_arches_100 : Int32) (f_now_100 : Nat → Int32) : p_X8_arches_100 F x_came u_8 u_85 y1_24 x_at_24 f_told_24 Post (n + 1) y3_100 x_arches_100 f_now_100 = ((y1_24 ≤ y3_100 → (p_X8_toldAnew F x_came (fun (u_150 : (Int32 × Int32)) => (Post y1_24 (x_arches_100, u_8.1, (0 : Int32), u_8.2.1, u_8.2.2.1, x_at_24, u_85, u_150.1, u_150.2, f_told_24, f_now_100))))) ∧ (¬ y1_24 ≤ y3_100 → (vp_in y3_100 24 ∧ (vp_in x_arches_100 47 ∧ (vp_in ((6 : Int32) + x_arches_100) 47 ∧ ((p_X8_arches_100 F x_came u_8 u_85 y1_24 x_at_24 f_told_24 Post n) (y3_100 + (1 : Int32)) (x_arches_100 + (1 : Int32)) (upd (upd f_now_100 x_arches_100.toNatClampNeg (f_told_24 y3_100.toNatClampNeg)) ((6 : Int32) + x_arches_100).toNatClampNeg (0 : Int32)))))))) := rfl
def p_X8_arches_84 (F : Nat) (x_arches : Int32) (x_undoMany : Int32) (x_came : Int32) (f_now : Nat → Int32) (u_8 : (Int32 × Int32 × Int32 × Int32 × Int32)) (y1_24 : Int32) (x_at_24 : Int32) (x_wrong_24 : Int32) (f_told_24 : Nat → Int32) (Post : Int32 → (Int32 × Int32 × Int32 × Int32 × Int32 × Int32 × Int32 × Int32 × Int32 × (Nat → Int32) × (Nat → Int32)) → Prop) : Prop := (p_X8_wasRight F u_8.2.1 x_at_24 x_wrong_24 (fun (r_85 : Int32) (u_85 : Int32) => ((¬ r_85 = 0 → (p_X8_arches_100 F x_came u_8 u_85 y1_24 x_at_24 f_told_24 Post F (0 : Int32) x_arches f_now)) ∧ (r_85 = 0 → (Post ((-1 : Int32) - u_85) (x_arches, u_8.1, (0 : Int32), u_8.2.1, u_8.2.2.1, x_at_24, u_85, x_undoMany, x_came, f_told_24, f_now))))))
def p_X8_arches_71 (F : Nat) (f_text : Nat → Int32) (u_8 : (Int32 × Int32 × Int32 × Int32 × Int32)) (y1_24 : Int32) (k24 : Int32 → Int32 → Int32 → Int32 → (Nat → Int32) → Prop) (Post : Int32 → (Int32 × Int32 × Int32 × Int32 × Int32 × Int32 × Int32 × Int32 × Int32 × (Nat → Int32) × (Nat → Int32)) → Prop) (x_at_71 : Int32) (x_wrong_71 : Int32) (f_told_71 : Nat → Int32) : Prop := (p_X8_passes F (59 : Int32) u_8.2.1 u_8.2.2.1 x_at_71 x_wrong_71 80 f_text (fun (r_77 : Int32) (u_77 : Int32) => (k24 r_77 (y1_24 + (1 : Int32)) u_77 x_wrong_71 f_told_71)))
noncomputable def p_X8_arches_24 (F : Nat) (x_arches : Int32) (x_undoMany : Int32) (x_came : Int32) (f_text : Nat → Int32) (f_now : Nat → Int32) (u_8 : (Int32 × Int32 × Int32 × Int32 × Int32)) (Post : Int32 → (Int32 × Int32 × Int32 × Int32 × Int32 × Int32 × Int32 × Int32 × Int32 × (Nat → Int32) × (Nat → Int32)) → Prop) (n : Nat) : Int32 → Int32 → Int32 → Int32 → (Nat → Int32) → Prop := Nat.rec (motive := fun _ => Int32 → Int32 → Int32 → Int32 → (Nat → Int32) → Prop) (fun _ _ _ _ _ => False) (fun _ k24 => fun (y2_24 : Int32) (y1_24 : Int32) (x_at_24 : Int32) (x_wrong_24 : Int32) (f_told_24 : Nat → Int32) => ((y2_24 = 0 → (p_X8_arches_84 F x_arches x_undoMany x_came f_now u_8 y1_24 x_at_24 x_wrong_24 f_told_24 Post )) ∧ (¬ y2_24 = 0 → (p_X8_fine F x_wrong_24 (fun (r_29 : Int32) => ((r_29 = 0 → (p_X8_arches_84 F x_arches x_undoMany x_came f_now u_8 y1_24 x_at_24 x_wrong_24 f_told_24 Post )) ∧ (¬ r_29 = 0 → ((¬ (x_arches + y1_24) = (6 : Int32) → (p_X8_oneOf F (48 : Int32) (10 : Int32) u_8.2.1 u_8.2.2.1 x_at_24 x_wrong_24 80 f_text (fun (r_67 : Int32) (u_67 : (Int32 × Int32)) => (vp_in y1_24 24 ∧ (p_X8_arches_71 F f_text u_8 y1_24 k24 Post u_67.1 u_67.2 (upd f_told_24 y1_24.toNatClampNeg r_67)))))) ∧ ((x_arches + y1_24) = (6 : Int32) → (p_X8_fault F x_at_24 x_wrong_24 (fun (u_51 : Int32) => (p_X8_arches_71 F f_text u_8 y1_24 k24 Post x_at_24 u_51 f_told_24)))))))))))) n
theorem p_X8_arches_24_s (F : Nat) (x_arches : Int32) (x_undoMany : Int32) (x_came : Int32) (f_text : Nat → Int32) (f_now : Nat → Int32) (u_8 : (Int32 × Int32 × Int32 × Int32 × Int32)) (Post : Int32 → (Int32 × Int32 × Int32 × Int32 × Int32 × Int32 × Int32 × Int32 × Int32 × (Nat → Int32) × (Nat → Int32)) → Prop) (n : Nat) (y2_24 : Int32) (y1_24 : Int32) (x_at_24 : Int32) (x_wrong_24 : Int32) (f_told_24 : Nat → Int32) : p_X8_arches_24 F x_arches x_undoMany x_came f_text f_now u_8 Post (n + 1) y2_24 y1_24 x_at_24 x_wrong_24 f_told_24 = ((y2_24 = 0 → (p_X8_arches_84 F x_arches x_undoMany x_came f_now u_8 y1_24 x_at_24 x_wrong_24 f_told_24 Post )) ∧ (¬ y2_24 = 0 → (p_X8_fine F x_wrong_24 (fun (r_29 : Int32) => ((r_29 = 0 → (p_X8_arches_84 F x_arches x_undoMany x_came f_now u_8 y1_24 x_at_24 x_wrong_24 f_told_24 Post )) ∧ (¬ r_29 = 0 → ((¬ (x_arches + y1_24) = (6 : Int32) → (p_X8_oneOf F (48 : Int32) (10 : Int32) u_8.2.1 u_8.2.2.1 x_at_24 x_wrong_24 80 f_text (fun (r_67 : Int32) (u_67 : (Int32 × Int32)) => (vp_in y1_24 24 ∧ (p_X8_arches_71 F f_text u_8 y1_24 (p_X8_arches_24 F x_arches x_undoMany x_came f_text f_now u_8 Post n) Post u_67.1 u_67.2 (upd f_told_24 y1_24.toNatClampNeg r_67)))))) ∧ ((x_arches + y1_24) = (6 : Int32) → (p_X8_fault F x_at_24 x_wrong_24 (fun (u_51 : Int32) => (p_X8_arches_71 F f_text u_8 y1_24 (p_X8_arches_24 F x_arches x_undoMany x_came f_text f_now u_8 Post n) Post x_at_24 u_51 f_told_24))))))))))) := rfl
def p_X8_arches (F : Nat) (x_arches : Int32) (x_typed : Int32) (x_undoMany : Int32) (x_came : Int32) (f_text : Nat → Int32) (f_told : Nat → Int32) (f_now : Nat → Int32) (Post : Int32 → (Int32 × Int32 × Int32 × Int32 × Int32 × Int32 × Int32 × Int32 × Int32 × (Nat → Int32) × (Nat → Int32)) → Prop) : Prop := (p_X8_beginText F (11 : Int32) x_typed (fun (u_8 : (Int32 × Int32 × Int32 × Int32 × Int32)) => ((¬ u_8.2.1 = 0 → (p_X8_arches_24 F x_arches x_undoMany x_came f_text f_now u_8 Post F (1 : Int32) (0 : Int32) u_8.2.2.2.1 u_8.2.2.2.2 f_told)) ∧ (u_8.2.1 = 0 → (Post (0 : Int32) (x_arches, u_8.1, (0 : Int32), u_8.2.1, u_8.2.2.1, u_8.2.2.2.1, u_8.2.2.2.2, x_undoMany, x_came, f_told, f_now))))))
set_option maxHeartbeats 4000000 in
set_option maxRecDepth 100000 in
theorem c_X8_arches (l : Launch) (D : va_G) (cT : Nat → ClassId) (F : Nat) (h : Nat) (q_now : Nat) (x_arches : Int32) (x_cats : Int32) (q_text : Nat) (x_typed : Int32) (w_row : Value) (x_rowMany : Int32) (x_thrown : Int32) (w_read : Value) (x_length : Int32) (x_top : Int32) (x_at : Int32) (x_wrong : Int32) (q_told : Nat) (w_rule : Value) (w_otherRule : Value) (x_ruleSize : Int32) (x_isAsked : Int32) (w_asked : Value) (w_undos : Value) (x_undoMany : Int32) (w_aside : Value) (w_then : Value) (w_hold : Value) (x_dropped : Int32) (w_acts : Value) (w_guarded : Value) (w_train : Value) (x_trolleyEnd : Int32) (w_feltOf : Value) (w_feltBy : Value) (x_feltMany : Int32) (w_many : Value) (w_heardOf : Value) (w_heardBy : Value) (x_heardMany : Int32) (w_worth : Value) (x_drawn : Int32) (x_came : Int32) (w_kept : Value) (w_isKept : Value) (w_keptCame : Value) (f_text : Nat → Int32) (f_told : Nat → Int32) (f_now : Nat → Int32) (Post : Int32 → (Int32 × Int32 × Int32 × Int32 × Int32 × Int32 × Int32 × Int32 × Int32 × (Nat → Int32) × (Nat → Int32)) → Prop) (hg : p_X8_arches F x_arches x_typed x_undoMany x_came f_text f_told f_now Post) : MWi l D cT yX8_arches cX8_arches 4 (some .int) 3 63 0 0 [.ref h] [(h, oX8 (.ref q_now) (.int x_arches) (.int x_cats) (.ref q_text) (.int x_typed) w_row (.int x_rowMany) (.int x_thrown) w_read (.int x_length) (.int x_top) (.int x_at) (.int x_wrong) (.ref q_told) w_rule w_otherRule (.int x_ruleSize) (.int x_isAsked) w_asked w_undos (.int x_undoMany) w_aside w_then w_hold (.int x_dropped) w_acts w_guarded w_train (.int x_trolleyEnd) w_feltOf w_feltBy (.int x_feltMany) w_many w_heardOf w_heardBy (.int x_heardMany) w_worth (.int x_drawn) (.int x_came) w_kept w_isKept w_keptCame), (q_text, aB cT 80 f_text), (q_told, aI cT 24 f_told), (q_now, aI cT 47 f_now)] Post (fun (u : (Int32 × Int32 × Int32 × Int32 × Int32 × Int32 × Int32 × Int32 × Int32 × (Nat → Int32) × (Nat → Int32))) => [(h, oX8 (.ref q_now) (.int u.1) (.int x_cats) (.ref q_text) (.int u.2.1) w_row (.int x_rowMany) (.int u.2.2.1) (.ref q_text) (.int u.2.2.2.1) (.int u.2.2.2.2.1) (.int u.2.2.2.2.2.1) (.int u.2.2.2.2.2.2.1) (.ref q_told) w_rule w_otherRule (.int x_ruleSize) (.int x_isAsked) w_asked w_undos (.int u.2.2.2.2.2.2.2.1) w_aside w_then w_hold (.int x_dropped) w_acts w_guarded w_train (.int x_trolleyEnd) w_feltOf w_feltBy (.int x_feltMany) w_many w_heardOf w_heardBy (.int x_heardMany) w_worth (.int x_drawn) (.int u.2.2.2.2.2.2.2.2.1) w_kept w_isKept w_keptCame), (q_text, aB cT 80 f_text), (q_told, aI cT 24 u.2.2.2.2.2.2.2.2.2.1), (q_now, aI cT 47 u.2.2.2.2.2.2.2.2.2.2)]) := by
  refine MWi.of (by decide) (Nat.le_of_ble_eq_true rfl) ?_
  intro p e s m below meth c A hA C0 hnm hr hP hD ls hl
  have hl : lv_has ls 4 [(0, .ref h)] := hl
  have hx := C0.x
  have hb := C0.b
  have hS : va_S A s.heap s.heap [] := va_S.rf
  have hP : va_P D cls9 [(h, oX8 (.ref q_now) (.int x_arches) (.int x_cats) (.ref q_text) (.int x_typed) w_row (.int x_rowMany) (.int x_thrown) w_read (.int x_length) (.int x_top) (.int x_at) (.int x_wrong) (.ref q_told) w_rule w_otherRule (.int x_ruleSize) (.int x_isAsked) w_asked w_undos (.int x_undoMany) w_aside w_then w_hold (.int x_dropped) w_acts w_guarded w_train (.int x_trolleyEnd) w_feltOf w_feltBy (.int x_feltMany) w_many w_heardOf w_heardBy (.int x_heardMany) w_worth (.int x_drawn) (.int x_came) w_kept w_isKept w_keptCame), (q_text, aB cT 80 f_text), (q_told, aI cT 24 f_told), (q_now, aI cT 47 f_now)] s.heap := hP
  have hD : va_D A [(h, oX8 (.ref q_now) (.int x_arches) (.int x_cats) (.ref q_text) (.int x_typed) w_row (.int x_rowMany) (.int x_thrown) w_read (.int x_length) (.int x_top) (.int x_at) (.int x_wrong) (.ref q_told) w_rule w_otherRule (.int x_ruleSize) (.int x_isAsked) w_asked w_undos (.int x_undoMany) w_aside w_then w_hold (.int x_dropped) w_acts w_guarded w_train (.int x_trolleyEnd) w_feltOf w_feltBy (.int x_feltMany) w_many w_heardOf w_heardBy (.int x_heardMany) w_worth (.int x_drawn) (.int x_came) w_kept w_isKept w_keptCame), (q_text, aB cT 80 f_text), (q_told, aI cT 24 f_told), (q_now, aI cT 47 f_now)] := hD
  have L100 : ∀ (u_8 : (Int32 × Int32 × Int32 × Int32 × Int32)) (u_85 : Int32) (y1_24 : Int32) (x_at_24 : Int32) (f_told_24 : Nat → Int32) (n100 : Nat) (y3_100 : Int32) (x_arches_100 : Int32) (f_now_100 : Nat → Int32) (H : Heap) (locs : List Loc) (ls : Array Slot), p_X8_arches_100 F x_came u_8 u_85 y1_24 x_at_24 f_told_24 Post n100 y3_100 x_arches_100 f_now_100 → va_P D cls9 [(h, oX8 (.ref q_now) (.int x_arches_100) (.int x_cats) (.ref q_text) (.int u_8.1) w_row (.int x_rowMany) (.int (0 : Int32)) (.ref q_text) (.int u_8.2.1) (.int u_8.2.2.1) (.int x_at_24) (.int u_85) (.ref q_told) w_rule w_otherRule (.int x_ruleSize) (.int x_isAsked) w_asked w_undos (.int x_undoMany) w_aside w_then w_hold (.int x_dropped) w_acts w_guarded w_train (.int x_trolleyEnd) w_feltOf w_feltBy (.int x_feltMany) w_many w_heardOf w_heardBy (.int x_heardMany) w_worth (.int x_drawn) (.int x_came) w_kept w_isKept w_keptCame), (q_text, aB cT 80 f_text), (q_told, aI cT 24 f_told_24), (q_now, aI cT 47 f_now_100)] H → va_D A [(h, oX8 (.ref q_now) (.int x_arches_100) (.int x_cats) (.ref q_text) (.int u_8.1) w_row (.int x_rowMany) (.int (0 : Int32)) (.ref q_text) (.int u_8.2.1) (.int u_8.2.2.1) (.int x_at_24) (.int u_85) (.ref q_told) w_rule w_otherRule (.int x_ruleSize) (.int x_isAsked) w_asked w_undos (.int x_undoMany) w_aside w_then w_hold (.int x_dropped) w_acts w_guarded w_train (.int x_trolleyEnd) w_feltOf w_feltBy (.int x_feltMany) w_many w_heardOf w_heardBy (.int x_heardMany) w_worth (.int x_drawn) (.int x_came) w_kept w_isKept w_keptCame), (q_text, aB cT 80 f_text), (q_told, aI cT 24 f_told_24), (q_now, aI cT 47 f_now_100)] → va_S A s.heap H locs → lv_has ls 4 [(0, .ref h), (1, .int y1_24), (3, .int y3_100)] → W p l e (rmO 3 63 0 0) s m ([.ref h] : List Value).toArray below meth c H locs 0 0 (MQ below (va_Qi Post (cB D A (fun (u : (Int32 × Int32 × Int32 × Int32 × Int32 × Int32 × Int32 × Int32 × Int32 × (Nat → Int32) × (Nat → Int32))) => [(h, oX8 (.ref q_now) (.int u.1) (.int x_cats) (.ref q_text) (.int u.2.1) w_row (.int x_rowMany) (.int u.2.2.1) (.ref q_text) (.int u.2.2.2.1) (.int u.2.2.2.2.1) (.int u.2.2.2.2.2.1) (.int u.2.2.2.2.2.2.1) (.ref q_told) w_rule w_otherRule (.int x_ruleSize) (.int x_isAsked) w_asked w_undos (.int u.2.2.2.2.2.2.2.1) w_aside w_then w_hold (.int x_dropped) w_acts w_guarded w_train (.int x_trolleyEnd) w_feltOf w_feltBy (.int x_feltMany) w_many w_heardOf w_heardBy (.int x_heardMany) w_worth (.int x_drawn) (.int u.2.2.2.2.2.2.2.2.1) w_kept w_isKept w_keptCame), (q_text, aB cT 80 f_text), (q_told, aI cT 24 u.2.2.2.2.2.2.2.2.2.1), (q_now, aI cT 47 u.2.2.2.2.2.2.2.2.2.2)])) A) ([.ref h] : List Value).toArray s 0 0 A) (F0 m 100 ls []) := by
    intro u_8 u_85 y1_24 x_at_24 f_told_24 n100
    induction n100 with
    | zero =>
      intro y3_100 x_arches_100 f_now_100 H locs ls hg hP hD hS hl
      exact False.elim hg
    | succ n100 ih100 =>
      intro y3_100 x_arches_100 f_now_100 H locs ls hg hP hD hS hl
      rw [p_X8_arches_100_s] at hg
      refine lv_iload_n hx hb dX8_arches_100 rfl (lv_at hl 2 rfl) ?_
      refine lv_iload_n hx hb dX8_arches_101 rfl (lv_at hl 1 rfl) ?_
      refine lv_icmp_ge (tgt := 149) hx hb dX8_arches_102 (by decide) (fun c_102 => ?_) (fun c_102 => ?_)
      · have hg := hg.1 c_102
        refine lv_aload_n hx hb dX8_arches_149 rfl (lv_at hl 0 rfl) ?_
        refine k_Vv (rest := []) (wr := [(q_text, aB cT 80 f_text), (q_told, aI cT 24 f_told_24), (q_now, aI cT 47 f_now_100)]) (w2 := fun u_150 => [(q_text, aB cT 80 f_text), (q_told, aI cT 24 f_told_24), (q_now, aI cT 47 f_now_100), (h, oX8 (.ref q_now) (.int x_arches_100) (.int x_cats) (.ref q_text) (.int u_8.1) w_row (.int x_rowMany) (.int (0 : Int32)) (.ref q_text) (.int u_8.2.1) (.int u_8.2.2.1) (.int x_at_24) (.int u_85) (.ref q_told) w_rule w_otherRule (.int x_ruleSize) (.int x_isAsked) w_asked w_undos (.int u_150.1) w_aside w_then w_hold (.int x_dropped) w_acts w_guarded w_train (.int x_trolleyEnd) w_feltOf w_feltBy (.int x_feltMany) w_many w_heardOf w_heardBy (.int x_heardMany) w_worth (.int x_drawn) (.int u_150.2) w_kept w_isKept w_keptCame)]) C0 lk_X8_153 (c_X8_toldAnew l D cT F h (.ref q_now) x_arches_100 x_cats (.ref q_text) u_8.1 w_row x_rowMany (0 : Int32) (.ref q_text) u_8.2.1 u_8.2.2.1 x_at_24 u_85 (.ref q_told) w_rule w_otherRule x_ruleSize x_isAsked w_asked w_undos x_undoMany w_aside w_then w_hold x_dropped w_acts w_guarded w_train x_trolleyEnd w_feltOf w_feltBy x_feltMany w_many w_heardOf w_heardBy x_heardMany w_worth x_drawn x_came w_kept w_isKept w_keptCame _ hg) hP hD hS hA [0] [1, 2, 3] (by decide +kernel) rfl rfl (fun _ => rfl) rfl rfl ⟨Nat.le_of_ble_eq_true rfl, Nat.le_of_ble_eq_true rfl⟩ rfl hl.1 rfl (Nat.le_of_ble_eq_true rfl) dX8_arches_150 ⟨Nat.le_of_ble_eq_true rfl, Nat.le_of_ble_eq_true rfl⟩ ?_
        intro u_150 H locs hg hP hD hS
        refine lv_iload_n hx hb dX8_arches_153 rfl (lv_at hl 1 rfl) ?_
        exact k_iret C0 hr (x_arches_100, u_8.1, (0 : Int32), u_8.2.1, u_8.2.2.1, x_at_24, u_85, u_150.1, u_150.2, f_told_24, f_now_100) hg (subP hP [3, 0, 1, 2] rfl) (hD.sub [3, 0, 1, 2] (nd2_ok _ (by decide +kernel)) rfl) hS dX8_arches_154
      have hg := hg.2 c_102
      refine lv_aload_n hx hb dX8_arches_105 rfl (lv_at hl 0 rfl) ?_
      refine gf_X8_9 C0 hP 0 rfl rfl dX8_arches_106 ?_
      refine lv_aload_n hx hb dX8_arches_109 rfl (lv_at hl 0 rfl) ?_
      refine gf_X8_89 C0 hP 0 rfl rfl dX8_arches_110 ?_
      refine lv_aload_n hx hb dX8_arches_113 rfl (lv_at hl 0 rfl) ?_
      refine gf_X8_21 C0 hP 0 rfl rfl dX8_arches_114 ?_
      refine lv_iload_n hx hb dX8_arches_117 rfl (lv_at hl 2 rfl) ?_
      obtain ⟨g_118, hg⟩ := hg
      refine k_iald C0 hP 2 rfl g_118 dX8_arches_118 ?_
      obtain ⟨g_119, hg⟩ := hg
      refine k_iast C0 hP hD hS 3 rfl g_119 (ws' := [(h, oX8 (.ref q_now) (.int x_arches_100) (.int x_cats) (.ref q_text) (.int u_8.1) w_row (.int x_rowMany) (.int (0 : Int32)) (.ref q_text) (.int u_8.2.1) (.int u_8.2.2.1) (.int x_at_24) (.int u_85) (.ref q_told) w_rule w_otherRule (.int x_ruleSize) (.int x_isAsked) w_asked w_undos (.int x_undoMany) w_aside w_then w_hold (.int x_dropped) w_acts w_guarded w_train (.int x_trolleyEnd) w_feltOf w_feltBy (.int x_feltMany) w_many w_heardOf w_heardBy (.int x_heardMany) w_worth (.int x_drawn) (.int x_came) w_kept w_isKept w_keptCame), (q_text, aB cT 80 f_text), (q_told, aI cT 24 f_told_24), (q_now, aI cT 47 (upd f_now_100 x_arches_100.toNatClampNeg (f_told_24 y3_100.toNatClampNeg)))]) rfl dX8_arches_119 (fun H locs hP hD hS => ?_)
      refine lv_aload_n hx hb dX8_arches_120 rfl (lv_at hl 0 rfl) ?_
      refine gf_X8_9 C0 hP 0 rfl rfl dX8_arches_121 ?_
      refine lv_bipush (v := (6 : Int32)) hx hb dX8_arches_124 (by decide) ?_
      refine lv_aload_n hx hb dX8_arches_126 rfl (lv_at hl 0 rfl) ?_
      refine gf_X8_89 C0 hP 0 rfl rfl dX8_arches_127 ?_
      refine lv_iadd hx hb dX8_arches_130 ?_
      refine lv_iconst (v := (0 : Int32)) hx hb dX8_arches_131 (by decide) ?_
      obtain ⟨g_132, hg⟩ := hg
      refine k_iast C0 hP hD hS 3 rfl g_132 (ws' := [(h, oX8 (.ref q_now) (.int x_arches_100) (.int x_cats) (.ref q_text) (.int u_8.1) w_row (.int x_rowMany) (.int (0 : Int32)) (.ref q_text) (.int u_8.2.1) (.int u_8.2.2.1) (.int x_at_24) (.int u_85) (.ref q_told) w_rule w_otherRule (.int x_ruleSize) (.int x_isAsked) w_asked w_undos (.int x_undoMany) w_aside w_then w_hold (.int x_dropped) w_acts w_guarded w_train (.int x_trolleyEnd) w_feltOf w_feltBy (.int x_feltMany) w_many w_heardOf w_heardBy (.int x_heardMany) w_worth (.int x_drawn) (.int x_came) w_kept w_isKept w_keptCame), (q_text, aB cT 80 f_text), (q_told, aI cT 24 f_told_24), (q_now, aI cT 47 (upd (upd f_now_100 x_arches_100.toNatClampNeg (f_told_24 y3_100.toNatClampNeg)) ((6 : Int32) + x_arches_100).toNatClampNeg (0 : Int32)))]) rfl dX8_arches_132 (fun H locs hP hD hS => ?_)
      refine lv_aload_n hx hb dX8_arches_133 rfl (lv_at hl 0 rfl) ?_
      refine lv_dup hx hb dX8_arches_134 rfl ?_
      refine gf_X8_89 C0 hP 0 rfl rfl dX8_arches_135 ?_
      refine lv_iconst (v := (1 : Int32)) hx hb dX8_arches_138 (by decide) ?_
      refine lv_iadd hx hb dX8_arches_139 ?_
      refine pf_X8_89 C0 hP hD hS 0 rfl (Nat.le_of_ble_eq_true rfl) (ws2 := [(h, oX8 (.ref q_now) (.int (x_arches_100 + (1 : Int32))) (.int x_cats) (.ref q_text) (.int u_8.1) w_row (.int x_rowMany) (.int (0 : Int32)) (.ref q_text) (.int u_8.2.1) (.int u_8.2.2.1) (.int x_at_24) (.int u_85) (.ref q_told) w_rule w_otherRule (.int x_ruleSize) (.int x_isAsked) w_asked w_undos (.int x_undoMany) w_aside w_then w_hold (.int x_dropped) w_acts w_guarded w_train (.int x_trolleyEnd) w_feltOf w_feltBy (.int x_feltMany) w_many w_heardOf w_heardBy (.int x_heardMany) w_worth (.int x_drawn) (.int x_came) w_kept w_isKept w_keptCame), (q_text, aB cT 80 f_text), (q_told, aI cT 24 f_told_24), (q_now, aI cT 47 (upd (upd f_now_100 x_arches_100.toNatClampNeg (f_told_24 y3_100.toNatClampNeg)) ((6 : Int32) + x_arches_100).toNatClampNeg (0 : Int32)))]) rfl dX8_arches_140 (fun H locs hP hD hS => ?_)
      refine lv_iinc (v := (y3_100 + (1 : Int32))) (lv' := [(3, .int (y3_100 + (1 : Int32))), (0, .ref h), (1, .int y1_24)]) hx hb dX8_arches_143 hl (k := 2) rfl rfl (by decide) rfl (fun ls hl => ?_)
      refine lv_goto (tgt := 100) hx hb dX8_arches_146 (by decide) ?_
      exact ih100 (y3_100 + (1 : Int32)) (x_arches_100 + (1 : Int32)) (upd (upd f_now_100 x_arches_100.toNatClampNeg (f_told_24 y3_100.toNatClampNeg)) ((6 : Int32) + x_arches_100).toNatClampNeg (0 : Int32)) _ _ _ hg hP hD hS (lv_sub hl [1, 2, 0] rfl)
  have L84 : ∀ (u_8 : (Int32 × Int32 × Int32 × Int32 × Int32)) (y1_24 : Int32) (x_at_24 : Int32) (x_wrong_24 : Int32) (f_told_24 : Nat → Int32) (H : Heap) (locs : List Loc) (ls : Array Slot), p_X8_arches_84 F x_arches x_undoMany x_came f_now u_8 y1_24 x_at_24 x_wrong_24 f_told_24 Post → va_P D cls9 [(h, oX8 (.ref q_now) (.int x_arches) (.int x_cats) (.ref q_text) (.int u_8.1) w_row (.int x_rowMany) (.int (0 : Int32)) (.ref q_text) (.int u_8.2.1) (.int u_8.2.2.1) (.int x_at_24) (.int x_wrong_24) (.ref q_told) w_rule w_otherRule (.int x_ruleSize) (.int x_isAsked) w_asked w_undos (.int x_undoMany) w_aside w_then w_hold (.int x_dropped) w_acts w_guarded w_train (.int x_trolleyEnd) w_feltOf w_feltBy (.int x_feltMany) w_many w_heardOf w_heardBy (.int x_heardMany) w_worth (.int x_drawn) (.int x_came) w_kept w_isKept w_keptCame), (q_text, aB cT 80 f_text), (q_told, aI cT 24 f_told_24), (q_now, aI cT 47 f_now)] H → va_D A [(h, oX8 (.ref q_now) (.int x_arches) (.int x_cats) (.ref q_text) (.int u_8.1) w_row (.int x_rowMany) (.int (0 : Int32)) (.ref q_text) (.int u_8.2.1) (.int u_8.2.2.1) (.int x_at_24) (.int x_wrong_24) (.ref q_told) w_rule w_otherRule (.int x_ruleSize) (.int x_isAsked) w_asked w_undos (.int x_undoMany) w_aside w_then w_hold (.int x_dropped) w_acts w_guarded w_train (.int x_trolleyEnd) w_feltOf w_feltBy (.int x_feltMany) w_many w_heardOf w_heardBy (.int x_heardMany) w_worth (.int x_drawn) (.int x_came) w_kept w_isKept w_keptCame), (q_text, aB cT 80 f_text), (q_told, aI cT 24 f_told_24), (q_now, aI cT 47 f_now)] → va_S A s.heap H locs → lv_has ls 4 [(0, .ref h), (1, .int y1_24)] → W p l e (rmO 3 63 0 0) s m ([.ref h] : List Value).toArray below meth c H locs 0 0 (MQ below (va_Qi Post (cB D A (fun (u : (Int32 × Int32 × Int32 × Int32 × Int32 × Int32 × Int32 × Int32 × Int32 × (Nat → Int32) × (Nat → Int32))) => [(h, oX8 (.ref q_now) (.int u.1) (.int x_cats) (.ref q_text) (.int u.2.1) w_row (.int x_rowMany) (.int u.2.2.1) (.ref q_text) (.int u.2.2.2.1) (.int u.2.2.2.2.1) (.int u.2.2.2.2.2.1) (.int u.2.2.2.2.2.2.1) (.ref q_told) w_rule w_otherRule (.int x_ruleSize) (.int x_isAsked) w_asked w_undos (.int u.2.2.2.2.2.2.2.1) w_aside w_then w_hold (.int x_dropped) w_acts w_guarded w_train (.int x_trolleyEnd) w_feltOf w_feltBy (.int x_feltMany) w_many w_heardOf w_heardBy (.int x_heardMany) w_worth (.int x_drawn) (.int u.2.2.2.2.2.2.2.2.1) w_kept w_isKept w_keptCame), (q_text, aB cT 80 f_text), (q_told, aI cT 24 u.2.2.2.2.2.2.2.2.2.1), (q_now, aI cT 47 u.2.2.2.2.2.2.2.2.2.2)])) A) ([.ref h] : List Value).toArray s 0 0 A) (F0 m 84 ls []) := by
    intro u_8 y1_24 x_at_24 x_wrong_24 f_told_24 H locs ls hg hP hD hS hl
    unfold p_X8_arches_84 at hg
    refine lv_aload_n hx hb dX8_arches_84 rfl (lv_at hl 0 rfl) ?_
    refine k_Vi (rest := []) (wr := [(q_text, aB cT 80 f_text), (q_told, aI cT 24 f_told_24), (q_now, aI cT 47 f_now)]) (w2 := fun u_85 => [(q_text, aB cT 80 f_text), (q_told, aI cT 24 f_told_24), (q_now, aI cT 47 f_now), (h, oX8 (.ref q_now) (.int x_arches) (.int x_cats) (.ref q_text) (.int u_8.1) w_row (.int x_rowMany) (.int (0 : Int32)) (.ref q_text) (.int u_8.2.1) (.int u_8.2.2.1) (.int x_at_24) (.int u_85) (.ref q_told) w_rule w_otherRule (.int x_ruleSize) (.int x_isAsked) w_asked w_undos (.int x_undoMany) w_aside w_then w_hold (.int x_dropped) w_acts w_guarded w_train (.int x_trolleyEnd) w_feltOf w_feltBy (.int x_feltMany) w_many w_heardOf w_heardBy (.int x_heardMany) w_worth (.int x_drawn) (.int x_came) w_kept w_isKept w_keptCame)]) C0 lk_X8_150 (c_X8_wasRight l D cT F h (.ref q_now) x_arches x_cats (.ref q_text) u_8.1 w_row x_rowMany (0 : Int32) (.ref q_text) u_8.2.1 u_8.2.2.1 x_at_24 x_wrong_24 (.ref q_told) w_rule w_otherRule x_ruleSize x_isAsked w_asked w_undos x_undoMany w_aside w_then w_hold x_dropped w_acts w_guarded w_train x_trolleyEnd w_feltOf w_feltBy x_feltMany w_many w_heardOf w_heardBy x_heardMany w_worth x_drawn x_came w_kept w_isKept w_keptCame _ hg) hP hD hS hA [0] [1, 2, 3] (by decide +kernel) rfl rfl (fun _ => rfl) rfl rfl ⟨Nat.le_of_ble_eq_true rfl, Nat.le_of_ble_eq_true rfl⟩ rfl hl.1 rfl (Nat.le_of_ble_eq_true rfl) dX8_arches_85 ⟨Nat.le_of_ble_eq_true rfl, Nat.le_of_ble_eq_true rfl⟩ ?_
    intro r_85 u_85 H locs hg hP hD hS
    refine lv_if_ne (tgt := 98) hx hb dX8_arches_88 (by decide) (fun c_88 => ?_) (fun c_88 => ?_)
    · have hg := hg.1 c_88
      refine lv_iconst (v := (0 : Int32)) hx hb dX8_arches_98 (by decide) ?_
      refine lv_istore_n (lv' := [(3, .int (0 : Int32)), (0, .ref h), (1, .int y1_24)]) hx hb dX8_arches_99 rfl hl (by decide) rfl (fun ls hl => ?_)
      exact L100 u_8 u_85 y1_24 x_at_24 f_told_24 F (0 : Int32) x_arches f_now _ _ _ hg (subP hP [3, 0, 1, 2] rfl) (hD.sub [3, 0, 1, 2] (nd2_ok _ (by decide +kernel)) rfl) hS (lv_sub hl [1, 2, 0] rfl)
    have hg := hg.2 c_88
    refine lv_iconst (v := (-1 : Int32)) hx hb dX8_arches_91 (by decide) ?_
    refine lv_aload_n hx hb dX8_arches_92 rfl (lv_at hl 0 rfl) ?_
    refine gf_X8_114 C0 hP 3 rfl rfl dX8_arches_93 ?_
    refine lv_isub hx hb dX8_arches_96 ?_
    exact k_iret C0 hr (x_arches, u_8.1, (0 : Int32), u_8.2.1, u_8.2.2.1, x_at_24, u_85, x_undoMany, x_came, f_told_24, f_now) hg (subP hP [3, 0, 1, 2] rfl) (hD.sub [3, 0, 1, 2] (nd2_ok _ (by decide +kernel)) rfl) hS dX8_arches_97
  have L24 : ∀ (u_8 : (Int32 × Int32 × Int32 × Int32 × Int32)) (n24 : Nat) (y2_24 : Int32) (y1_24 : Int32) (x_at_24 : Int32) (x_wrong_24 : Int32) (f_told_24 : Nat → Int32) (H : Heap) (locs : List Loc) (ls : Array Slot), p_X8_arches_24 F x_arches x_undoMany x_came f_text f_now u_8 Post n24 y2_24 y1_24 x_at_24 x_wrong_24 f_told_24 → va_P D cls9 [(h, oX8 (.ref q_now) (.int x_arches) (.int x_cats) (.ref q_text) (.int u_8.1) w_row (.int x_rowMany) (.int (0 : Int32)) (.ref q_text) (.int u_8.2.1) (.int u_8.2.2.1) (.int x_at_24) (.int x_wrong_24) (.ref q_told) w_rule w_otherRule (.int x_ruleSize) (.int x_isAsked) w_asked w_undos (.int x_undoMany) w_aside w_then w_hold (.int x_dropped) w_acts w_guarded w_train (.int x_trolleyEnd) w_feltOf w_feltBy (.int x_feltMany) w_many w_heardOf w_heardBy (.int x_heardMany) w_worth (.int x_drawn) (.int x_came) w_kept w_isKept w_keptCame), (q_text, aB cT 80 f_text), (q_told, aI cT 24 f_told_24), (q_now, aI cT 47 f_now)] H → va_D A [(h, oX8 (.ref q_now) (.int x_arches) (.int x_cats) (.ref q_text) (.int u_8.1) w_row (.int x_rowMany) (.int (0 : Int32)) (.ref q_text) (.int u_8.2.1) (.int u_8.2.2.1) (.int x_at_24) (.int x_wrong_24) (.ref q_told) w_rule w_otherRule (.int x_ruleSize) (.int x_isAsked) w_asked w_undos (.int x_undoMany) w_aside w_then w_hold (.int x_dropped) w_acts w_guarded w_train (.int x_trolleyEnd) w_feltOf w_feltBy (.int x_feltMany) w_many w_heardOf w_heardBy (.int x_heardMany) w_worth (.int x_drawn) (.int x_came) w_kept w_isKept w_keptCame), (q_text, aB cT 80 f_text), (q_told, aI cT 24 f_told_24), (q_now, aI cT 47 f_now)] → va_S A s.heap H locs → lv_has ls 4 [(0, .ref h), (1, .int y1_24), (2, .int y2_24)] → W p l e (rmO 3 63 0 0) s m ([.ref h] : List Value).toArray below meth c H locs 0 0 (MQ below (va_Qi Post (cB D A (fun (u : (Int32 × Int32 × Int32 × Int32 × Int32 × Int32 × Int32 × Int32 × Int32 × (Nat → Int32) × (Nat → Int32))) => [(h, oX8 (.ref q_now) (.int u.1) (.int x_cats) (.ref q_text) (.int u.2.1) w_row (.int x_rowMany) (.int u.2.2.1) (.ref q_text) (.int u.2.2.2.1) (.int u.2.2.2.2.1) (.int u.2.2.2.2.2.1) (.int u.2.2.2.2.2.2.1) (.ref q_told) w_rule w_otherRule (.int x_ruleSize) (.int x_isAsked) w_asked w_undos (.int u.2.2.2.2.2.2.2.1) w_aside w_then w_hold (.int x_dropped) w_acts w_guarded w_train (.int x_trolleyEnd) w_feltOf w_feltBy (.int x_feltMany) w_many w_heardOf w_heardBy (.int x_heardMany) w_worth (.int x_drawn) (.int u.2.2.2.2.2.2.2.2.1) w_kept w_isKept w_keptCame), (q_text, aB cT 80 f_text), (q_told, aI cT 24 u.2.2.2.2.2.2.2.2.2.1), (q_now, aI cT 47 u.2.2.2.2.2.2.2.2.2.2)])) A) ([.ref h] : List Value).toArray s 0 0 A) (F0 m 24 ls []) := by
    intro u_8 n24
    induction n24 with
    | zero =>
      intro y2_24 y1_24 x_at_24 x_wrong_24 f_told_24 H locs ls hg hP hD hS hl
      exact False.elim hg
    | succ n24 ih24 =>
      have L71 : ∀ (y1_24 : Int32) (x_at_71 : Int32) (x_wrong_71 : Int32) (f_told_71 : Nat → Int32) (H : Heap) (locs : List Loc) (ls : Array Slot), p_X8_arches_71 F f_text u_8 y1_24 (p_X8_arches_24 F x_arches x_undoMany x_came f_text f_now u_8 Post n24) Post x_at_71 x_wrong_71 f_told_71 → va_P D cls9 [(h, oX8 (.ref q_now) (.int x_arches) (.int x_cats) (.ref q_text) (.int u_8.1) w_row (.int x_rowMany) (.int (0 : Int32)) (.ref q_text) (.int u_8.2.1) (.int u_8.2.2.1) (.int x_at_71) (.int x_wrong_71) (.ref q_told) w_rule w_otherRule (.int x_ruleSize) (.int x_isAsked) w_asked w_undos (.int x_undoMany) w_aside w_then w_hold (.int x_dropped) w_acts w_guarded w_train (.int x_trolleyEnd) w_feltOf w_feltBy (.int x_feltMany) w_many w_heardOf w_heardBy (.int x_heardMany) w_worth (.int x_drawn) (.int x_came) w_kept w_isKept w_keptCame), (q_text, aB cT 80 f_text), (q_told, aI cT 24 f_told_71), (q_now, aI cT 47 f_now)] H → va_D A [(h, oX8 (.ref q_now) (.int x_arches) (.int x_cats) (.ref q_text) (.int u_8.1) w_row (.int x_rowMany) (.int (0 : Int32)) (.ref q_text) (.int u_8.2.1) (.int u_8.2.2.1) (.int x_at_71) (.int x_wrong_71) (.ref q_told) w_rule w_otherRule (.int x_ruleSize) (.int x_isAsked) w_asked w_undos (.int x_undoMany) w_aside w_then w_hold (.int x_dropped) w_acts w_guarded w_train (.int x_trolleyEnd) w_feltOf w_feltBy (.int x_feltMany) w_many w_heardOf w_heardBy (.int x_heardMany) w_worth (.int x_drawn) (.int x_came) w_kept w_isKept w_keptCame), (q_text, aB cT 80 f_text), (q_told, aI cT 24 f_told_71), (q_now, aI cT 47 f_now)] → va_S A s.heap H locs → lv_has ls 4 [(0, .ref h), (1, .int y1_24)] → W p l e (rmO 3 63 0 0) s m ([.ref h] : List Value).toArray below meth c H locs 0 0 (MQ below (va_Qi Post (cB D A (fun (u : (Int32 × Int32 × Int32 × Int32 × Int32 × Int32 × Int32 × Int32 × Int32 × (Nat → Int32) × (Nat → Int32))) => [(h, oX8 (.ref q_now) (.int u.1) (.int x_cats) (.ref q_text) (.int u.2.1) w_row (.int x_rowMany) (.int u.2.2.1) (.ref q_text) (.int u.2.2.2.1) (.int u.2.2.2.2.1) (.int u.2.2.2.2.2.1) (.int u.2.2.2.2.2.2.1) (.ref q_told) w_rule w_otherRule (.int x_ruleSize) (.int x_isAsked) w_asked w_undos (.int u.2.2.2.2.2.2.2.1) w_aside w_then w_hold (.int x_dropped) w_acts w_guarded w_train (.int x_trolleyEnd) w_feltOf w_feltBy (.int x_feltMany) w_many w_heardOf w_heardBy (.int x_heardMany) w_worth (.int x_drawn) (.int u.2.2.2.2.2.2.2.2.1) w_kept w_isKept w_keptCame), (q_text, aB cT 80 f_text), (q_told, aI cT 24 u.2.2.2.2.2.2.2.2.2.1), (q_now, aI cT 47 u.2.2.2.2.2.2.2.2.2.2)])) A) ([.ref h] : List Value).toArray s 0 0 A) (F0 m 71 ls []) := by
        intro y1_24 x_at_71 x_wrong_71 f_told_71 H locs ls hg hP hD hS hl
        unfold p_X8_arches_71 at hg
        refine lv_iinc (v := (y1_24 + (1 : Int32))) (lv' := [(1, .int (y1_24 + (1 : Int32))), (0, .ref h)]) hx hb dX8_arches_71 hl (k := 1) rfl rfl (by decide) rfl (fun ls hl => ?_)
        refine lv_aload_n hx hb dX8_arches_74 rfl (lv_at hl 1 rfl) ?_
        refine lv_bipush (v := (59 : Int32)) hx hb dX8_arches_75 (by decide) ?_
        refine k_Vi (rest := []) (wr := [(q_told, aI cT 24 f_told_71), (q_now, aI cT 47 f_now)]) (w2 := fun u_77 => [(q_told, aI cT 24 f_told_71), (q_now, aI cT 47 f_now), (h, oX8 (.ref q_now) (.int x_arches) (.int x_cats) (.ref q_text) (.int u_8.1) w_row (.int x_rowMany) (.int (0 : Int32)) (.ref q_text) (.int u_8.2.1) (.int u_8.2.2.1) (.int u_77) (.int x_wrong_71) (.ref q_told) w_rule w_otherRule (.int x_ruleSize) (.int x_isAsked) w_asked w_undos (.int x_undoMany) w_aside w_then w_hold (.int x_dropped) w_acts w_guarded w_train (.int x_trolleyEnd) w_feltOf w_feltBy (.int x_feltMany) w_many w_heardOf w_heardBy (.int x_heardMany) w_worth (.int x_drawn) (.int x_came) w_kept w_isKept w_keptCame), (q_text, aB cT 80 f_text)]) C0 lk_X8_129 (c_X8_passes l D cT F h (59 : Int32) (.ref q_now) x_arches x_cats (.ref q_text) u_8.1 w_row x_rowMany (0 : Int32) q_text u_8.2.1 u_8.2.2.1 x_at_71 x_wrong_71 (.ref q_told) w_rule w_otherRule x_ruleSize x_isAsked w_asked w_undos x_undoMany w_aside w_then w_hold x_dropped w_acts w_guarded w_train x_trolleyEnd w_feltOf w_feltBy x_feltMany w_many w_heardOf w_heardBy x_heardMany w_worth x_drawn x_came w_kept w_isKept w_keptCame 80 f_text _ hg) hP hD hS hA [0, 1] [2, 3] (by decide +kernel) rfl rfl (fun _ => rfl) rfl rfl ⟨Nat.le_of_ble_eq_true rfl, Nat.le_of_ble_eq_true rfl⟩ rfl hl.1 rfl (Nat.le_of_ble_eq_true rfl) dX8_arches_77 ⟨Nat.le_of_ble_eq_true rfl, Nat.le_of_ble_eq_true rfl⟩ ?_
        intro r_77 u_77 H locs hg hP hD hS
        refine lv_istore_n (lv' := [(2, .int r_77), (1, .int (y1_24 + (1 : Int32))), (0, .ref h)]) hx hb dX8_arches_80 rfl hl (by decide) rfl (fun ls hl => ?_)
        refine lv_goto (tgt := 24) hx hb dX8_arches_81 (by decide) ?_
        exact ih24 r_77 (y1_24 + (1 : Int32)) u_77 x_wrong_71 f_told_71 _ _ _ hg (subP hP [2, 3, 0, 1] rfl) (hD.sub [2, 3, 0, 1] (nd2_ok _ (by decide +kernel)) rfl) hS (lv_sub hl [2, 1, 0] rfl)
      intro y2_24 y1_24 x_at_24 x_wrong_24 f_told_24 H locs ls hg hP hD hS hl
      rw [p_X8_arches_24_s] at hg
      refine lv_iload_n hx hb dX8_arches_24 rfl (lv_at hl 2 rfl) ?_
      refine lv_if_eq (tgt := 84) hx hb dX8_arches_25 (by decide) (fun c_25 => ?_) (fun c_25 => ?_)
      · have hg := hg.1 c_25
        exact L84 u_8 y1_24 x_at_24 x_wrong_24 f_told_24 _ _ _ hg hP hD hS (lv_sub hl [0, 1] rfl)
      have hg := hg.2 c_25
      refine lv_aload_n hx hb dX8_arches_28 rfl (lv_at hl 0 rfl) ?_
      refine k_Vxi (rest := []) C0 lk_X8_121 (c_X8_fine l D cT F h (.ref q_now) x_arches x_cats (.ref q_text) u_8.1 w_row x_rowMany (0 : Int32) (.ref q_text) u_8.2.1 u_8.2.2.1 x_at_24 x_wrong_24 (.ref q_told) w_rule w_otherRule x_ruleSize x_isAsked w_asked w_undos x_undoMany w_aside w_then w_hold x_dropped w_acts w_guarded w_train x_trolleyEnd w_feltOf w_feltBy x_feltMany w_many w_heardOf w_heardBy x_heardMany w_worth x_drawn x_came w_kept w_isKept w_keptCame _ hg) hP hD hS hA [0] (by decide +kernel) rfl rfl rfl ⟨Nat.le_of_ble_eq_true rfl, Nat.le_of_ble_eq_true rfl⟩ rfl hl.1 rfl (Nat.le_of_ble_eq_true rfl) dX8_arches_29 ⟨Nat.le_of_ble_eq_true rfl, Nat.le_of_ble_eq_true rfl⟩ (fun r_29 hg => ?_)
      refine lv_if_eq (tgt := 84) hx hb dX8_arches_32 (by decide) (fun c_32 => ?_) (fun c_32 => ?_)
      · have hg := hg.1 c_32
        exact L84 u_8 y1_24 x_at_24 x_wrong_24 f_told_24 _ _ _ hg hP hD hS (lv_sub hl [0, 1] rfl)
      have hg := hg.2 c_32
      refine lv_aload_n hx hb dX8_arches_35 rfl (lv_at hl 0 rfl) ?_
      refine gf_X8_89 C0 hP 0 rfl rfl dX8_arches_36 ?_
      refine lv_iload_n hx hb dX8_arches_39 rfl (lv_at hl 1 rfl) ?_
      refine lv_iadd hx hb dX8_arches_40 ?_
      refine lv_bipush (v := (6 : Int32)) hx hb dX8_arches_41 (by decide) ?_
      refine lv_icmp_ne (tgt := 57) hx hb dX8_arches_43 (by decide) (fun c_43 => ?_) (fun c_43 => ?_)
      · have hg := hg.1 c_43
        refine lv_aload_n hx hb dX8_arches_57 rfl (lv_at hl 0 rfl) ?_
        refine gf_X8_21 C0 hP 0 rfl rfl dX8_arches_58 ?_
        refine lv_iload_n hx hb dX8_arches_61 rfl (lv_at hl 1 rfl) ?_
        refine lv_aload_n hx hb dX8_arches_62 rfl (lv_at hl 0 rfl) ?_
        refine lv_bipush (v := (48 : Int32)) hx hb dX8_arches_63 (by decide) ?_
        refine lv_bipush (v := (10 : Int32)) hx hb dX8_arches_65 (by decide) ?_
        refine k_Vi (rest := [.int y1_24, .ref q_told]) (wr := [(q_told, aI cT 24 f_told_24), (q_now, aI cT 47 f_now)]) (w2 := fun u_67 => [(q_told, aI cT 24 f_told_24), (q_now, aI cT 47 f_now), (h, oX8 (.ref q_now) (.int x_arches) (.int x_cats) (.ref q_text) (.int u_8.1) w_row (.int x_rowMany) (.int (0 : Int32)) (.ref q_text) (.int u_8.2.1) (.int u_8.2.2.1) (.int u_67.1) (.int u_67.2) (.ref q_told) w_rule w_otherRule (.int x_ruleSize) (.int x_isAsked) w_asked w_undos (.int x_undoMany) w_aside w_then w_hold (.int x_dropped) w_acts w_guarded w_train (.int x_trolleyEnd) w_feltOf w_feltBy (.int x_feltMany) w_many w_heardOf w_heardBy (.int x_heardMany) w_worth (.int x_drawn) (.int x_came) w_kept w_isKept w_keptCame), (q_text, aB cT 80 f_text)]) C0 lk_X8_137 (c_X8_oneOf l D cT F h (48 : Int32) (10 : Int32) (.ref q_now) x_arches x_cats (.ref q_text) u_8.1 w_row x_rowMany (0 : Int32) q_text u_8.2.1 u_8.2.2.1 x_at_24 x_wrong_24 (.ref q_told) w_rule w_otherRule x_ruleSize x_isAsked w_asked w_undos x_undoMany w_aside w_then w_hold x_dropped w_acts w_guarded w_train x_trolleyEnd w_feltOf w_feltBy x_feltMany w_many w_heardOf w_heardBy x_heardMany w_worth x_drawn x_came w_kept w_isKept w_keptCame 80 f_text _ hg) hP hD hS hA [0, 1] [2, 3] (by decide +kernel) rfl rfl (fun _ => rfl) rfl rfl ⟨Nat.le_of_ble_eq_true rfl, Nat.le_of_ble_eq_true rfl⟩ rfl hl.1 rfl (Nat.le_of_ble_eq_true rfl) dX8_arches_67 ⟨Nat.le_of_ble_eq_true rfl, Nat.le_of_ble_eq_true rfl⟩ ?_
        intro r_67 u_67 H locs hg hP hD hS
        obtain ⟨g_70, hg⟩ := hg
        refine k_iast C0 hP hD hS 0 rfl g_70 (ws' := [(q_told, aI cT 24 (upd f_told_24 y1_24.toNatClampNeg r_67)), (q_now, aI cT 47 f_now), (h, oX8 (.ref q_now) (.int x_arches) (.int x_cats) (.ref q_text) (.int u_8.1) w_row (.int x_rowMany) (.int (0 : Int32)) (.ref q_text) (.int u_8.2.1) (.int u_8.2.2.1) (.int u_67.1) (.int u_67.2) (.ref q_told) w_rule w_otherRule (.int x_ruleSize) (.int x_isAsked) w_asked w_undos (.int x_undoMany) w_aside w_then w_hold (.int x_dropped) w_acts w_guarded w_train (.int x_trolleyEnd) w_feltOf w_feltBy (.int x_feltMany) w_many w_heardOf w_heardBy (.int x_heardMany) w_worth (.int x_drawn) (.int x_came) w_kept w_isKept w_keptCame), (q_text, aB cT 80 f_text)]) rfl dX8_arches_70 (fun H locs hP hD hS => ?_)
        exact L71 y1_24 u_67.1 u_67.2 (upd f_told_24 y1_24.toNatClampNeg r_67) _ _ _ hg (subP hP [2, 3, 0, 1] rfl) (hD.sub [2, 3, 0, 1] (nd2_ok _ (by decide +kernel)) rfl) hS (lv_sub hl [0, 1] rfl)
      have hg := hg.2 c_43
      refine lv_aload_n hx hb dX8_arches_46 rfl (lv_at hl 0 rfl) ?_
      refine lv_aload_n hx hb dX8_arches_47 rfl (lv_at hl 0 rfl) ?_
      refine gf_X8_111 C0 hP 0 rfl rfl dX8_arches_48 ?_
      refine k_Vv (rest := []) (wr := [(q_text, aB cT 80 f_text), (q_told, aI cT 24 f_told_24), (q_now, aI cT 47 f_now)]) (w2 := fun u_51 => [(q_text, aB cT 80 f_text), (q_told, aI cT 24 f_told_24), (q_now, aI cT 47 f_now), (h, oX8 (.ref q_now) (.int x_arches) (.int x_cats) (.ref q_text) (.int u_8.1) w_row (.int x_rowMany) (.int (0 : Int32)) (.ref q_text) (.int u_8.2.1) (.int u_8.2.2.1) (.int x_at_24) (.int u_51) (.ref q_told) w_rule w_otherRule (.int x_ruleSize) (.int x_isAsked) w_asked w_undos (.int x_undoMany) w_aside w_then w_hold (.int x_dropped) w_acts w_guarded w_train (.int x_trolleyEnd) w_feltOf w_feltBy (.int x_feltMany) w_many w_heardOf w_heardBy (.int x_heardMany) w_worth (.int x_drawn) (.int x_came) w_kept w_isKept w_keptCame)]) C0 lk_X8_133 (c_X8_fault l D cT F h x_at_24 (.ref q_now) x_arches x_cats (.ref q_text) u_8.1 w_row x_rowMany (0 : Int32) (.ref q_text) u_8.2.1 u_8.2.2.1 x_at_24 x_wrong_24 (.ref q_told) w_rule w_otherRule x_ruleSize x_isAsked w_asked w_undos x_undoMany w_aside w_then w_hold x_dropped w_acts w_guarded w_train x_trolleyEnd w_feltOf w_feltBy x_feltMany w_many w_heardOf w_heardBy x_heardMany w_worth x_drawn x_came w_kept w_isKept w_keptCame _ hg) hP hD hS hA [0] [1, 2, 3] (by decide +kernel) rfl rfl (fun _ => rfl) rfl rfl ⟨Nat.le_of_ble_eq_true rfl, Nat.le_of_ble_eq_true rfl⟩ rfl hl.1 rfl (Nat.le_of_ble_eq_true rfl) dX8_arches_51 ⟨Nat.le_of_ble_eq_true rfl, Nat.le_of_ble_eq_true rfl⟩ ?_
      intro u_51 H locs hg hP hD hS
      refine lv_goto (tgt := 71) hx hb dX8_arches_54 (by decide) ?_
      exact L71 y1_24 x_at_24 u_51 f_told_24 _ _ _ hg (subP hP [3, 0, 1, 2] rfl) (hD.sub [3, 0, 1, 2] (nd2_ok _ (by decide +kernel)) rfl) hS (lv_sub hl [0, 1] rfl)
  unfold p_X8_arches at hg
  refine lv_aload_n hx hb dX8_arches_0 rfl (lv_at hl 0 rfl) ?_
  refine lv_iconst (v := (0 : Int32)) hx hb dX8_arches_1 (by decide) ?_
  refine pf_X8_82 C0 hP hD hS 0 rfl (Nat.le_of_ble_eq_true rfl) (ws2 := [(h, oX8 (.ref q_now) (.int x_arches) (.int x_cats) (.ref q_text) (.int x_typed) w_row (.int x_rowMany) (.int (0 : Int32)) w_read (.int x_length) (.int x_top) (.int x_at) (.int x_wrong) (.ref q_told) w_rule w_otherRule (.int x_ruleSize) (.int x_isAsked) w_asked w_undos (.int x_undoMany) w_aside w_then w_hold (.int x_dropped) w_acts w_guarded w_train (.int x_trolleyEnd) w_feltOf w_feltBy (.int x_feltMany) w_many w_heardOf w_heardBy (.int x_heardMany) w_worth (.int x_drawn) (.int x_came) w_kept w_isKept w_keptCame), (q_text, aB cT 80 f_text), (q_told, aI cT 24 f_told), (q_now, aI cT 47 f_now)]) rfl dX8_arches_2 (fun H locs hP hD hS => ?_)
  refine lv_aload_n hx hb dX8_arches_5 rfl (lv_at hl 0 rfl) ?_
  refine lv_bipush (v := (11 : Int32)) hx hb dX8_arches_6 (by decide) ?_
  refine k_Vv (rest := []) (wr := [(q_text, aB cT 80 f_text), (q_told, aI cT 24 f_told), (q_now, aI cT 47 f_now)]) (w2 := fun u_8 => [(q_text, aB cT 80 f_text), (q_told, aI cT 24 f_told), (q_now, aI cT 47 f_now), (h, oX8 (.ref q_now) (.int x_arches) (.int x_cats) (.ref q_text) (.int u_8.1) w_row (.int x_rowMany) (.int (0 : Int32)) (.ref q_text) (.int u_8.2.1) (.int u_8.2.2.1) (.int u_8.2.2.2.1) (.int u_8.2.2.2.2) (.ref q_told) w_rule w_otherRule (.int x_ruleSize) (.int x_isAsked) w_asked w_undos (.int x_undoMany) w_aside w_then w_hold (.int x_dropped) w_acts w_guarded w_train (.int x_trolleyEnd) w_feltOf w_feltBy (.int x_feltMany) w_many w_heardOf w_heardBy (.int x_heardMany) w_worth (.int x_drawn) (.int x_came) w_kept w_isKept w_keptCame)]) C0 lk_X8_147 (c_X8_beginText l D cT F h (11 : Int32) (.ref q_now) x_arches x_cats q_text x_typed w_row x_rowMany (0 : Int32) w_read x_length x_top x_at x_wrong (.ref q_told) w_rule w_otherRule x_ruleSize x_isAsked w_asked w_undos x_undoMany w_aside w_then w_hold x_dropped w_acts w_guarded w_train x_trolleyEnd w_feltOf w_feltBy x_feltMany w_many w_heardOf w_heardBy x_heardMany w_worth x_drawn x_came w_kept w_isKept w_keptCame _ hg) hP hD hS hA [0] [1, 2, 3] (by decide +kernel) rfl rfl (fun _ => rfl) rfl rfl ⟨Nat.le_of_ble_eq_true rfl, Nat.le_of_ble_eq_true rfl⟩ rfl hl.1 rfl (Nat.le_of_ble_eq_true rfl) dX8_arches_8 ⟨Nat.le_of_ble_eq_true rfl, Nat.le_of_ble_eq_true rfl⟩ ?_
  intro u_8 H locs hg hP hD hS
  refine lv_aload_n hx hb dX8_arches_11 rfl (lv_at hl 0 rfl) ?_
  refine gf_X8_105 C0 hP 3 rfl rfl dX8_arches_12 ?_
  refine lv_if_ne (tgt := 20) hx hb dX8_arches_15 (by decide) (fun c_15 => ?_) (fun c_15 => ?_)
  · have hg := hg.1 c_15
    refine lv_iconst (v := (0 : Int32)) hx hb dX8_arches_20 (by decide) ?_
    refine lv_istore_n (lv' := [(1, .int (0 : Int32)), (0, .ref h)]) hx hb dX8_arches_21 rfl hl (by decide) rfl (fun ls hl => ?_)
    refine lv_iconst (v := (1 : Int32)) hx hb dX8_arches_22 (by decide) ?_
    refine lv_istore_n (lv' := [(2, .int (1 : Int32)), (1, .int (0 : Int32)), (0, .ref h)]) hx hb dX8_arches_23 rfl hl (by decide) rfl (fun ls hl => ?_)
    exact L24 u_8 F (1 : Int32) (0 : Int32) u_8.2.2.2.1 u_8.2.2.2.2 f_told _ _ _ hg (subP hP [3, 0, 1, 2] rfl) (hD.sub [3, 0, 1, 2] (nd2_ok _ (by decide +kernel)) rfl) hS (lv_sub hl [2, 1, 0] rfl)
  have hg := hg.2 c_15
  refine lv_iconst (v := (0 : Int32)) hx hb dX8_arches_18 (by decide) ?_
  exact k_iret C0 hr (x_arches, u_8.1, (0 : Int32), u_8.2.1, u_8.2.2.1, u_8.2.2.2.1, u_8.2.2.2.2, x_undoMany, x_came, f_told, f_now) hg (subP hP [3, 0, 1, 2] rfl) (hD.sub [3, 0, 1, 2] (nd2_ok _ (by decide +kernel)) rfl) hS dX8_arches_19
