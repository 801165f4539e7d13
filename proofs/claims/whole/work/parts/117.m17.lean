theorem dX8_gets_0 : decode cX8_gets 0 = .ok (.iconst 3, 1) := by decide +kernel
theorem dX8_gets_1 : decode cX8_gets 1 = .ok (.iload_n 0, 1) := by decide +kernel
theorem dX8_gets_2 : decode cX8_gets 2 = .ok (.imul, 1) := by decide +kernel
theorem dX8_gets_3 : decode cX8_gets 3 = .ok (.iload_n 0, 1) := by decide +kernel
theorem dX8_gets_4 : decode cX8_gets 4 = .ok (.iload_n 1, 1) := by decide +kernel
theorem dX8_gets_5 : decode cX8_gets 5 = .ok (.iadd, 1) := by decide +kernel
theorem dX8_gets_6 : decode cX8_gets 6 = .ok (.iload_n 2, 1) := by decide +kernel
theorem dX8_gets_7 : decode cX8_gets 7 = .ok (.if_icmp .gt 8, 3) := by decide +kernel
theorem dX8_gets_10 : decode cX8_gets 10 = .ok (.bipush 20, 2) := by decide +kernel
theorem dX8_gets_12 : decode cX8_gets 12 = .ok (.goto 4, 3) := by decide +kernel
theorem dX8_gets_15 : decode cX8_gets 15 = .ok (.iconst 0, 1) := by decide +kernel
theorem dX8_gets_16 : decode cX8_gets 16 = .ok (.iadd, 1) := by decide +kernel
theorem dX8_gets_17 : decode cX8_gets 17 = .ok (.iload_n 0, 1) := by decide +kernel
theorem dX8_gets_18 : decode cX8_gets 18 = .ok (.iload_n 1, 1) := by decide +kernel
theorem dX8_gets_19 : decode cX8_gets 19 = .ok (.if_icmp .le 7, 3) := by decide +kernel
theorem dX8_gets_22 : decode cX8_gets 22 = .ok (.iconst 4, 1) := by decide +kernel
theorem dX8_gets_23 : decode cX8_gets 23 = .ok (.goto 4, 3) := by decide +kernel
theorem dX8_gets_26 : decode cX8_gets 26 = .ok (.iconst 0, 1) := by decide +kernel
theorem dX8_gets_27 : decode cX8_gets 27 = .ok (.isub, 1) := by decide +kernel
theorem dX8_gets_28 : decode cX8_gets 28 = .ok (.ireturn, 1) := by decide +kernel
def p_X8_gets_16 (F : Nat) (p0 : Int32) (p1 : Int32) (Post : Int32 → Prop) (s1_16 : Int32) : Prop := ((p0 ≤ p1 → (Post ((((3 : Int32) * p0) + s1_16) - (0 : Int32)))) ∧ (¬ p0 ≤ p1 → (Post ((((3 : Int32) * p0) + s1_16) - (4 : Int32)))))
def p_X8_gets (F : Nat) (p0 : Int32) (p1 : Int32) (p2 : Int32) (Post : Int32 → Prop) : Prop := ((p2 < (p0 + p1) → (p_X8_gets_16 F p0 p1 Post (0 : Int32))) ∧ (¬ p2 < (p0 + p1) → (p_X8_gets_16 F p0 p1 Post (20 : Int32))))
set_option maxHeartbeats 4000000 in
set_option maxRecDepth 100000 in
theorem c_X8_gets (l : Launch) (D : va_G) (cT : Nat → ClassId) (F : Nat) (p0 : Int32) (p1 : Int32) (p2 : Int32) (Post : Int32 → Prop) (hg : p_X8_gets F p0 p1 p2 Post) : MRi l D cT yX8_gets cX8_gets 3 (some .int) 0 0 [.int p0, .int p1, .int p2] [] Post := by
  refine MRi.of (by decide) (Nat.le_of_ble_eq_true rfl) ?_
  intro p e s m below meth c hA C0 hr hP hD hS ls hl
  have hl : lv_has ls 3 [(0, .int p0), (1, .int p1), (2, .int p2)] := hl
  have hx := C0.x
  have hb := C0.b
  have hP : va_P D cls9 [] s.heap := hP
  have hD : va_D (fun q => cT 6 ≤ q) [] := hD
  have L16 : ∀ (s1_16 : Int32) (ls : Array Slot), p_X8_gets_16 F p0 p1 Post s1_16 → lv_has ls 3 [(0, .int p0), (1, .int p1)] → W p l e (rmO 0 0 0 0) s m ([.int p0, .int p1, .int p2] : List Value).toArray below meth c s.heap [] 0 0 (MQ below (vp_Si Post) ([.int p0, .int p1, .int p2] : List Value).toArray s 0 0 (fun _ => False)) (F0 m 16 ls [.int s1_16, .int ((3 : Int32) * p0)]) := by
    intro s1_16 ls hg hl
    unfold p_X8_gets_16 at hg
    refine lv_iadd hx hb dX8_gets_16 ?_
    refine lv_iload_n hx hb dX8_gets_17 rfl (lv_at hl 0 rfl) ?_
    refine lv_iload_n hx hb dX8_gets_18 rfl (lv_at hl 1 rfl) ?_
    refine lv_icmp_le (tgt := 26) hx hb dX8_gets_19 (by decide) (fun c_19 => ?_) (fun c_19 => ?_)
    · have hg := hg.1 c_19
      refine lv_iconst (v := (0 : Int32)) hx hb dX8_gets_26 (by decide) ?_
      refine lv_isub hx hb dX8_gets_27 ?_
      exact k_xiret C0 hr hg dX8_gets_28
    have hg := hg.2 c_19
    refine lv_iconst (v := (4 : Int32)) hx hb dX8_gets_22 (by decide) ?_
    refine lv_goto (tgt := 27) hx hb dX8_gets_23 (by decide) ?_
    refine lv_isub hx hb dX8_gets_27 ?_
    exact k_xiret C0 hr hg dX8_gets_28
  unfold p_X8_gets at hg
  refine lv_iconst (v := (3 : Int32)) hx hb dX8_gets_0 (by decide) ?_
  refine lv_iload_n hx hb dX8_gets_1 rfl (lv_at hl 0 rfl) ?_
  refine lv_imul hx hb dX8_gets_2 ?_
  refine lv_iload_n hx hb dX8_gets_3 rfl (lv_at hl 0 rfl) ?_
  refine lv_iload_n hx hb dX8_gets_4 rfl (lv_at hl 1 rfl) ?_
  refine lv_iadd hx hb dX8_gets_5 ?_
  refine lv_iload_n hx hb dX8_gets_6 rfl (lv_at hl 2 rfl) ?_
  refine lv_icmp_gt (tgt := 15) hx hb dX8_gets_7 (by decide) (fun c_7 => ?_) (fun c_7 => ?_)
  · have hg := hg.1 c_7
    refine lv_iconst (v := (0 : Int32)) hx hb dX8_gets_15 (by decide) ?_
    exact L16 (0 : Int32) _ hg (lv_sub hl [0, 1] rfl)
  have hg := hg.2 c_7
  refine lv_bipush (v := (20 : Int32)) hx hb dX8_gets_10 (by decide) ?_
  refine lv_goto (tgt := 16) hx hb dX8_gets_12 (by decide) ?_
  exact L16 (20 : Int32) _ hg (lv_sub hl [0, 1] rfl)
theorem dX8_isBest_0 : decode cX8_isBest 0 = .ok (.iconst 0, 1) := by decide +kernel
theorem dX8_isBest_1 : decode cX8_isBest 1 = .ok (.istore_n 3, 1) := by decide +kernel
theorem dX8_isBest_2 : decode cX8_isBest 2 = .ok (.iload_n 3, 1) := by decide +kernel
theorem dX8_isBest_3 : decode cX8_isBest 3 = .ok (.bipush 9, 2) := by decide +kernel
theorem dX8_isBest_5 : decode cX8_isBest 5 = .ok (.if_icmp .gt 26, 3) := by decide +kernel
theorem dX8_isBest_8 : decode cX8_isBest 8 = .ok (.iload_n 3, 1) := by decide +kernel
theorem dX8_isBest_9 : decode cX8_isBest 9 = .ok (.iload_n 1, 1) := by decide +kernel
theorem dX8_isBest_10 : decode cX8_isBest 10 = .ok (.iload_n 2, 1) := by decide +kernel
theorem dX8_isBest_11 : decode cX8_isBest 11 = .ok (.invokestatic 376, 3) := by decide +kernel
theorem dX8_isBest_14 : decode cX8_isBest 14 = .ok (.iload_n 0, 1) := by decide +kernel
theorem dX8_isBest_15 : decode cX8_isBest 15 = .ok (.iload_n 1, 1) := by decide +kernel
theorem dX8_isBest_16 : decode cX8_isBest 16 = .ok (.iload_n 2, 1) := by decide +kernel
theorem dX8_isBest_17 : decode cX8_isBest 17 = .ok (.invokestatic 376, 3) := by decide +kernel
theorem dX8_isBest_20 : decode cX8_isBest 20 = .ok (.if_icmp .le 5, 3) := by decide +kernel
theorem dX8_isBest_23 : decode cX8_isBest 23 = .ok (.iconst 0, 1) := by decide +kernel
theorem dX8_isBest_24 : decode cX8_isBest 24 = .ok (.ireturn, 1) := by decide +kernel
theorem dX8_isBest_25 : decode cX8_isBest 25 = .ok (.iinc 3 1, 3) := by decide +kernel
theorem dX8_isBest_28 : decode cX8_isBest 28 = .ok (.goto (-26), 3) := by decide +kernel
theorem dX8_isBest_31 : decode cX8_isBest 31 = .ok (.iconst 1, 1) := by decide +kernel
theorem dX8_isBest_32 : decode cX8_isBest 32 = .ok (.ireturn, 1) := by decide +kernel
noncomputable def p_X8_isBest_2 (F : Nat) (p0 : Int32) (p1 : Int32) (p2 : Int32) (Post : Int32 → Prop) (n : Nat) : Int32 → Prop := Nat.rec (motive := fun _ => Int32 → Prop) (fun _ => False) (fun _ k2 => fun (y3_2 : Int32) => (((9 : Int32) < y3_2 → (Post (1 : Int32))) ∧ (¬ (9 : Int32) < y3_2 → (p_X8_gets F y3_2 p1 p2 (fun (r_11 : Int32) => (p_X8_gets F p0 p1 p2 (fun (r_17 : Int32) => ((r_11 ≤ r_17 → (k2 (y3_2 + (1 : Int32)))) ∧ (¬ r_11 ≤ r_17 → (Post (0 : Int32))))))))))) n
theorem p_X8_isBest_2_s (F : Nat) (p0 : Int32) (p1 : Int32) (p2 : Int32) (Post : Int32 → Prop) (n : Nat) (y3_2 : Int32) : p_X8_isBest_2 F p0 p1 p2 Post (n + 1) y3_2 = (((9 : Int32) < y3_2 → (Post (1 : Int32))) ∧ (¬ (9 : Int32) < y3_2 → (p_X8_gets F y3_2 p1 p2 (fun (r_11 : Int32) => (p_X8_gets F p0 p1 p2 (fun (r_17 : Int32) => ((r_11 ≤ r_17 → ((p_X8_isBest_2 F p0 p1 p2 Post n) (y3_2 + (1 : Int32)))) ∧ (¬ r_11 ≤ r_17 → (Post (0 : Int32)))))))))) := rfl
def p_X8_isBest (F : Nat) (p0 : Int32) (p1 : Int32) (p2 : Int32) (Post : Int32 → Prop) : Prop := (p_X8_isBest_2 F p0 p1 p2 Post F (0 : Int32))
set_option maxHeartbeats 4000000 in
set_option maxRecDepth 100000 in
theorem c_X8_isBest (l : Launch) (D : va_G) (cT : Nat → ClassId) (F : Nat) (p0 : Int32) (p1 : Int32) (p2 : Int32) (Post : Int32 → Prop) (hg : p_X8_isBest F p0 p1 p2 Post) : MRi l D cT yX8_isBest cX8_isBest 4 (some .boolean) 1 22 [.int p0, .int p1, .int p2] [] Post := by
  refine MRi.of (by decide) (Nat.le_of_ble_eq_true rfl) ?_
  intro p e s m below meth c hA C0 hr hP hD hS ls hl
  have hl : lv_has ls 4 [(0, .int p0), (1, .int p1), (2, .int p2)] := hl
  have hx := C0.x
  have hb := C0.b
  have hP : va_P D cls9 [] s.heap := hP
  have hD : va_D (fun q => cT 6 ≤ q) [] := hD
  have L2 : ∀ (n2 : Nat) (y3_2 : Int32) (ls : Array Slot), p_X8_isBest_2 F p0 p1 p2 Post n2 y3_2 → lv_has ls 4 [(0, .int p0), (1, .int p1), (2, .int p2), (3, .int y3_2)] → W p l e (rmO 1 22 0 0) s m ([.int p0, .int p1, .int p2] : List Value).toArray below meth c s.heap [] 0 0 (MQ below (vp_Si Post) ([.int p0, .int p1, .int p2] : List Value).toArray s 0 0 (fun _ => False)) (F0 m 2 ls []) := by
    intro n2
    induction n2 with
    | zero =>
      intro y3_2 ls hg hl
      exact False.elim hg
    | succ n2 ih2 =>
      intro y3_2 ls hg hl
      rw [p_X8_isBest_2_s] at hg
      refine lv_iload_n hx hb dX8_isBest_2 rfl (lv_at hl 3 rfl) ?_
      refine lv_bipush (v := (9 : Int32)) hx hb dX8_isBest_3 (by decide) ?_
      refine lv_icmp_gt (tgt := 31) hx hb dX8_isBest_5 (by decide) (fun c_5 => ?_) (fun c_5 => ?_)
      · have hg := hg.1 c_5
        refine lv_iconst (v := (1 : Int32)) hx hb dX8_isBest_31 (by decide) ?_
        exact k_xzret C0 hr (Or.inr rfl) hg dX8_isBest_32
      have hg := hg.2 c_5
      refine lv_iload_n hx hb dX8_isBest_8 rfl (lv_at hl 3 rfl) ?_
      refine lv_iload_n hx hb dX8_isBest_9 rfl (lv_at hl 1 rfl) ?_
      refine lv_iload_n hx hb dX8_isBest_10 rfl (lv_at hl 2 rfl) ?_
      refine k_Sxi (rest := []) C0 lk_X8_376 (c_X8_gets l D cT F y3_2 p1 p2 _ hg) hP hD hS hA [] (by decide +kernel) rfl ⟨Nat.le_of_ble_eq_true rfl, Nat.le_of_ble_eq_true rfl⟩ rfl hl.1 rfl (Nat.le_of_ble_eq_true rfl) dX8_isBest_11 ⟨Nat.le_of_ble_eq_true rfl, Nat.le_of_ble_eq_true rfl⟩ (fun r_11 hg => ?_)
      refine lv_iload_n hx hb dX8_isBest_14 rfl (lv_at hl 0 rfl) ?_
      refine lv_iload_n hx hb dX8_isBest_15 rfl (lv_at hl 1 rfl) ?_
      refine lv_iload_n hx hb dX8_isBest_16 rfl (lv_at hl 2 rfl) ?_
      refine k_Sxi (rest := [.int r_11]) C0 lk_X8_376 (c_X8_gets l D cT F p0 p1 p2 _ hg) hP hD hS hA [] (by decide +kernel) rfl ⟨Nat.le_of_ble_eq_true rfl, Nat.le_of_ble_eq_true rfl⟩ rfl hl.1 rfl (Nat.le_of_ble_eq_true rfl) dX8_isBest_17 ⟨Nat.le_of_ble_eq_true rfl, Nat.le_of_ble_eq_true rfl⟩ (fun r_17 hg => ?_)
      refine lv_icmp_le (tgt := 25) hx hb dX8_isBest_20 (by decide) (fun c_20 => ?_) (fun c_20 => ?_)
      · have hg := hg.1 c_20
        refine lv_iinc (v := (y3_2 + (1 : Int32))) (lv' := [(3, .int (y3_2 + (1 : Int32))), (0, .int p0), (1, .int p1), (2, .int p2)]) hx hb dX8_isBest_25 hl (k := 3) rfl rfl (by decide) rfl (fun ls hl => ?_)
        refine lv_goto (tgt := 2) hx hb dX8_isBest_28 (by decide) ?_
        exact ih2 (y3_2 + (1 : Int32)) _ hg (lv_sub hl [1, 2, 3, 0] rfl)
      have hg := hg.2 c_20
      refine lv_iconst (v := (0 : Int32)) hx hb dX8_isBest_23 (by decide) ?_
      exact k_xzret C0 hr (Or.inl rfl) hg dX8_isBest_24
  unfold p_X8_isBest at hg
  refine lv_iconst (v := (0 : Int32)) hx hb dX8_isBest_0 (by decide) ?_
  refine lv_istore_n (lv' := [(3, .int (0 : Int32)), (0, .int p0), (1, .int p1), (2, .int p2)]) hx hb dX8_isBest_1 rfl hl (by decide) rfl (fun ls hl => ?_)
  exact L2 F (0 : Int32) _ hg (lv_sub hl [1, 2, 3, 0] rfl)
theorem dX8_rests_0 : decode cX8_rests 0 = .ok (.aload_n 0, 1) := by decide +kernel
theorem dX8_rests_1 : decode cX8_rests 1 = .ok (.iconst 0, 1) := by decide +kernel
theorem dX8_rests_2 : decode cX8_rests 2 = .ok (.putfield 82, 3) := by decide +kernel
theorem dX8_rests_5 : decode cX8_rests 5 = .ok (.iload_n 1, 1) := by decide +kernel
theorem dX8_rests_6 : decode cX8_rests 6 = .ok (.iconst 0, 1) := by decide +kernel
theorem dX8_rests_7 : decode cX8_rests 7 = .ok (.bipush 18, 2) := by decide +kernel
theorem dX8_rests_9 : decode cX8_rests 9 = .ok (.invokestatic 92, 3) := by decide +kernel
theorem dX8_rests_12 : decode cX8_rests 12 = .ok (.ifCond .ne 5, 3) := by decide +kernel
theorem dX8_rests_15 : decode cX8_rests 15 = .ok (.iconst (-1), 1) := by decide +kernel
theorem dX8_rests_16 : decode cX8_rests 16 = .ok (.ireturn, 1) := by decide +kernel
theorem dX8_rests_17 : decode cX8_rests 17 = .ok (.iconst 0, 1) := by decide +kernel
theorem dX8_rests_18 : decode cX8_rests 18 = .ok (.istore_n 2, 1) := by decide +kernel
theorem dX8_rests_19 : decode cX8_rests 19 = .ok (.aload_n 0, 1) := by decide +kernel
theorem dX8_rests_20 : decode cX8_rests 20 = .ok (.iconst 0, 1) := by decide +kernel
theorem dX8_rests_21 : decode cX8_rests 21 = .ok (.putfield 86, 3) := by decide +kernel
theorem dX8_rests_24 : decode cX8_rests 24 = .ok (.iconst 0, 1) := by decide +kernel
theorem dX8_rests_25 : decode cX8_rests 25 = .ok (.istore_n 3, 1) := by decide +kernel
theorem dX8_rests_26 : decode cX8_rests 26 = .ok (.iload_n 3, 1) := by decide +kernel
theorem dX8_rests_27 : decode cX8_rests 27 = .ok (.bipush 9, 2) := by decide +kernel
theorem dX8_rests_29 : decode cX8_rests 29 = .ok (.if_icmp .gt 68, 3) := by decide +kernel
theorem dX8_rests_32 : decode cX8_rests 32 = .ok (.iconst 0, 1) := by decide +kernel
theorem dX8_rests_33 : decode cX8_rests 33 = .ok (.istore 4, 2) := by decide +kernel
theorem dX8_rests_35 : decode cX8_rests 35 = .ok (.iload 4, 2) := by decide +kernel
theorem dX8_rests_37 : decode cX8_rests 37 = .ok (.bipush 9, 2) := by decide +kernel
theorem dX8_rests_39 : decode cX8_rests 39 = .ok (.if_icmp .gt 52, 3) := by decide +kernel
theorem dX8_rests_42 : decode cX8_rests 42 = .ok (.iload_n 3, 1) := by decide +kernel
theorem dX8_rests_43 : decode cX8_rests 43 = .ok (.iload 4, 2) := by decide +kernel
theorem dX8_rests_45 : decode cX8_rests 45 = .ok (.iload_n 1, 1) := by decide +kernel
theorem dX8_rests_46 : decode cX8_rests 46 = .ok (.invokestatic 380, 3) := by decide +kernel
theorem dX8_rests_49 : decode cX8_rests 49 = .ok (.ifCond .eq 36, 3) := by decide +kernel
theorem dX8_rests_52 : decode cX8_rests 52 = .ok (.iload 4, 2) := by decide +kernel
theorem dX8_rests_54 : decode cX8_rests 54 = .ok (.iload_n 3, 1) := by decide +kernel
theorem dX8_rests_55 : decode cX8_rests 55 = .ok (.iload_n 1, 1) := by decide +kernel
theorem dX8_rests_56 : decode cX8_rests 56 = .ok (.invokestatic 380, 3) := by decide +kernel
theorem dX8_rests_59 : decode cX8_rests 59 = .ok (.ifCond .ne 6, 3) := by decide +kernel
theorem dX8_rests_62 : decode cX8_rests 62 = .ok (.goto 23, 3) := by decide +kernel
theorem dX8_rests_65 : decode cX8_rests 65 = .ok (.iload_n 2, 1) := by decide +kernel
theorem dX8_rests_66 : decode cX8_rests 66 = .ok (.ifCond .ne 16, 3) := by decide +kernel
theorem dX8_rests_69 : decode cX8_rests 69 = .ok (.aload_n 0, 1) := by decide +kernel
theorem dX8_rests_70 : decode cX8_rests 70 = .ok (.iload_n 3, 1) := by decide +kernel
theorem dX8_rests_71 : decode cX8_rests 71 = .ok (.i2l, 1) := by decide +kernel
theorem dX8_rests_72 : decode cX8_rests 72 = .ok (.invokevirtual 249, 3) := by decide +kernel
theorem dX8_rests_75 : decode cX8_rests 75 = .ok (.aload_n 0, 1) := by decide +kernel
theorem dX8_rests_76 : decode cX8_rests 76 = .ok (.iload 4, 2) := by decide +kernel
theorem dX8_rests_78 : decode cX8_rests 78 = .ok (.i2l, 1) := by decide +kernel
theorem dX8_rests_79 : decode cX8_rests 79 = .ok (.invokevirtual 249, 3) := by decide +kernel
theorem dX8_rests_82 : decode cX8_rests 82 = .ok (.iinc 2 1, 3) := by decide +kernel
theorem dX8_rests_85 : decode cX8_rests 85 = .ok (.iinc 4 1, 3) := by decide +kernel
theorem dX8_rests_88 : decode cX8_rests 88 = .ok (.goto (-53), 3) := by decide +kernel
theorem dX8_rests_91 : decode cX8_rests 91 = .ok (.iinc 3 1, 3) := by decide +kernel
theorem dX8_rests_94 : decode cX8_rests 94 = .ok (.goto (-68), 3) := by decide +kernel
theorem dX8_rests_97 : decode cX8_rests 97 = .ok (.iload_n 2, 1) := by decide +kernel
theorem dX8_rests_98 : decode cX8_rests 98 = .ok (.ireturn, 1) := by decide +kernel
def p_X8_rests_85 (F : Nat) (y4_35 : Int32) (k26 : Int32 → Int32 → Int32 → (Nat → Int64) → Prop) (k35 : Int32 → Int32 → Int32 → (Nat → Int64) → Prop) (Post : Int32 → (Int32 × Int32 × (Nat → Int64)) → Prop) (y2_85 : Int32) (x_rowMany_85 : Int32) (f_row_85 : Nat → Int64) : Prop := (k35 (y4_35 + (1 : Int32)) y2_85 x_rowMany_85 f_row_85)
def p_X8_rests_82 (F : Nat) (y4_35 : Int32) (y2_35 : Int32) (k26 : Int32 → Int32 → Int32 → (Nat → Int64) → Prop) (k35 : Int32 → Int32 → Int32 → (Nat → Int64) → Prop) (Post : Int32 → (Int32 × Int32 × (Nat → Int64)) → Prop) (x_rowMany_82 : Int32) (f_row_82 : Nat → Int64) : Prop := (p_X8_rests_85 F y4_35 k26 k35 Post (y2_35 + (1 : Int32)) x_rowMany_82 f_row_82)
noncomputable def p_X8_rests_35 (F : Nat) (p1 : Int32) (y3_26 : Int32) (k26 : Int32 → Int32 → Int32 → (Nat → Int64) → Prop) (Post : Int32 → (Int32 × Int32 × (Nat → Int64)) → Prop) (n : Nat) : Int32 → Int32 → Int32 → (Nat → Int64) → Prop := Nat.rec (motive := fun _ => Int32 → Int32 → Int32 → (Nat → Int64) → Prop) (fun _ _ _ _ => False) (fun _ k35 => fun (y4_35 : Int32) (y2_35 : Int32) (x_rowMany_35 : Int32) (f_row_35 : Nat → Int64) => (((9 : Int32) < y4_35 → (k26 (y3_26 + (1 : Int32)) y2_35 x_rowMany_35 f_row_35)) ∧ (¬ (9 : Int32) < y4_35 → (p_X8_isBest F y3_26 y4_35 p1 (fun (r_46 : Int32) => ((r_46 = 0 → (p_X8_rests_85 F y4_35 k26 k35 Post y2_35 x_rowMany_35 f_row_35)) ∧ (¬ r_46 = 0 → (p_X8_isBest F y4_35 y3_26 p1 (fun (r_56 : Int32) => ((¬ r_56 = 0 → ((¬ y2_35 = 0 → (p_X8_rests_82 F y4_35 y2_35 k26 k35 Post x_rowMany_35 f_row_35)) ∧ (y2_35 = 0 → (p_X8_tell F (y3_26.toInt64) x_rowMany_35 f_row_35 (fun (u_72 : (Int32 × (Nat → Int64))) => (p_X8_tell F (y4_35.toInt64) u_72.1 u_72.2 (fun (u_79 : (Int32 × (Nat → Int64))) => (p_X8_rests_82 F y4_35 y2_35 k26 k35 Post u_79.1 u_79.2)))))))) ∧ (r_56 = 0 → (p_X8_rests_85 F y4_35 k26 k35 Post y2_35 x_rowMany_35 f_row_35)))))))))))) n
theorem p_X8_rests_35_s (F : Nat) (p1 : Int32) (y3_26 : Int32) (k26 : Int32 → Int32 → Int32 → (Nat → Int64) → Prop) (Post : Int32 → (Int32 × Int32 × (Nat → Int64)) → Prop) (n : Nat) (y4_35 : Int32) (y2_35 : Int32) (x_rowMany_35 : Int32) (f_row_35 : Nat → Int64) : p_X8_rests_35 F p1 y3_26 k26 Post (n + 1) y4_35 y2_35 x_rowMany_35 f_row_35 = (((9 : Int32) < y4_35 → (k26 (y3_26 + (1 : Int32)) y2_35 x_rowMany_35 f_row_35)) ∧ (¬ (9 : Int32) < y4_35 → (p_X8_isBest F y3_26 y4_35 p1 (fun (r_46 : Int32) => ((r_46 = 0 → (p_X8_rests_85 F y4_35 k26 (p_X8_rests_35 F p1 y3_26 k26 Post n) Post y2_35 x_rowMany_35 f_row_35)) ∧ (¬ r_46 = 0 → (p_X8_isBest F y4_35 y3_26 p1 (fun (r_56 : Int32) => ((¬ r_56 = 0 → ((¬ y2_35 = 0 → (p_X8_rests_82 F y4_35 y2_35 k26 (p_X8_rests_35 F p1 y3_26 k26 Post n) Post x_rowMany_35 f_row_35)) ∧ (y2_35 = 0 → (p_X8_tell F (y3_26.toInt64) x_rowMany_35 f_row_35 (fun (u_72 : (Int32 × (Nat → Int64))) => (p_X8_tell F (y4_35.toInt64) u_72.1 u_72.2 (fun (u_79 : (Int32 × (Nat → Int64))) => (p_X8_rests_82 F y4_35 y2_35 k26 (p_X8_rests_35 F p1 y3_26 k26 Post n) Post u_79.1 u_79.2)))))))) ∧ (r_56 = 0 → (p_X8_rests_85 F y4_35 k26 (p_X8_rests_35 F p1 y3_26 k26 Post n) Post y2_35 x_rowMany_35 f_row_35))))))))))) := rfl
noncomputable def p_X8_rests_26 (F : Nat) (p1 : Int32) (Post : Int32 → (Int32 × Int32 × (Nat → Int64)) → Prop) (n : Nat) : Int32 → Int32 → Int32 → (Nat → Int64) → Prop := Nat.rec (motive := fun _ => Int32 → Int32 → Int32 → (Nat → Int64) → Prop) (fun _ _ _ _ => False) (fun _ k26 => fun (y3_26 : Int32) (y2_26 : Int32) (x_rowMany_26 : Int32) (f_row_26 : Nat → Int64) => (((9 : Int32) < y3_26 → (Post y2_26 (x_rowMany_26, (0 : Int32), f_row_26))) ∧ (¬ (9 : Int32) < y3_26 → (p_X8_rests_35 F p1 y3_26 k26 Post F (0 : Int32) y2_26 x_rowMany_26 f_row_26)))) n
theorem p_X8_rests_26_s (F : Nat) (p1 : Int32) (Post : Int32 → (Int32 × Int32 × (Nat → Int64)) → Prop) (n : Nat) (y3_26 : Int32) (y2_26 : Int32) (x_rowMany_26 : Int32) (f_row_26 : Nat → Int64) : p_X8_rests_26 F p1 Post (n + 1) y3_26 y2_26 x_rowMany_26 f_row_26 = (((9 : Int32) < y3_26 → (Post y2_26 (x_rowMany_26, (0 : Int32), f_row_26))) ∧ (¬ (9 : Int32) < y3_26 → (p_X8_rests_35 F p1 y3_26 (p_X8_rests_26 F p1 Post n) Post F (0 : Int32) y2_26 x_rowMany_26 f_row_26))) := rfl
def p_X8_rests (F : Nat) (p1 : Int32) (x_rowMany : Int32) (f_row : Nat → Int64) (Post : Int32 → (Int32 × Int32 × (Nat → Int64)) → Prop) : Prop := (p_X8_in F p1 (0 : Int32) (18 : Int32) (fun (r_9 : Int32) => ((¬ r_9 = 0 → (p_X8_rests_26 F p1 Post F (0 : Int32) (0 : Int32) (0 : Int32) f_row)) ∧ (r_9 = 0 → (Post (-1 : Int32) (x_rowMany, (0 : Int32), f_row))))))
set_option maxHeartbeats 4000000 in
set_option maxRecDepth 100000 in
theorem c_X8_rests (l : Launch) (D : va_G) (cT : Nat → ClassId) (F : Nat) (h : Nat) (p1 : Int32) (w_now : Value) (x_arches : Int32) (x_cats : Int32) (w_text : Value) (x_typed : Int32) (q_row : Nat) (x_rowMany : Int32) (x_thrown : Int32) (w_read : Value) (x_length : Int32) (x_top : Int32) (x_at : Int32) (x_wrong : Int32) (w_told : Value) (w_rule : Value) (w_otherRule : Value) (x_ruleSize : Int32) (x_isAsked : Int32) (w_asked : Value) (w_undos : Value) (x_undoMany : Int32) (w_aside : Value) (w_then : Value) (w_hold : Value) (x_dropped : Int32) (w_acts : Value) (w_guarded : Value) (w_train : Value) (x_trolleyEnd : Int32) (w_feltOf : Value) (w_feltBy : Value) (x_feltMany : Int32) (w_many : Value) (w_heardOf : Value) (w_heardBy : Value) (x_heardMany : Int32) (w_worth : Value) (x_drawn : Int32) (x_came : Int32) (w_kept : Value) (w_isKept : Value) (w_keptCame : Value) (f_row : Nat → Int64) (Post : Int32 → (Int32 × Int32 × (Nat → Int64)) → Prop) (hg : p_X8_rests F p1 x_rowMany f_row Post) : MWi l D cT yX8_rests cX8_rests 5 (some .int) 2 45 0 0 [.ref h, .int p1] [(h, oX8 w_now (.int x_arches) (.int x_cats) w_text (.int x_typed) (.ref q_row) (.int x_rowMany) (.int x_thrown) w_read (.int x_length) (.int x_top) (.int x_at) (.int x_wrong) w_told w_rule w_otherRule (.int x_ruleSize) (.int x_isAsked) w_asked w_undos (.int x_undoMany) w_aside w_then w_hold (.int x_dropped) w_acts w_guarded w_train (.int x_trolleyEnd) w_feltOf w_feltBy (.int x_feltMany) w_many w_heardOf w_heardBy (.int x_heardMany) w_worth (.int x_drawn) (.int x_came) w_kept w_isKept w_keptCame), (q_row, aJ cT 16 f_row)] Post (fun (u : (Int32 × Int32 × (Nat → Int64))) => [(h, oX8 w_now (.int x_arches) (.int x_cats) w_text (.int x_typed) (.ref q_row) (.int u.1) (.int u.2.1) w_read (.int x_length) (.int x_top) (.int x_at) (.int x_wrong) w_told w_rule w_otherRule (.int x_ruleSize) (.int x_isAsked) w_asked w_undos (.int x_undoMany) w_aside w_then w_hold (.int x_dropped) w_acts w_guarded w_train (.int x_trolleyEnd) w_feltOf w_feltBy (.int x_feltMany) w_many w_heardOf w_heardBy (.int x_heardMany) w_worth (.int x_drawn) (.int x_came) w_kept w_isKept w_keptCame), (q_row, aJ cT 16 u.2.2)]) := by
  refine MWi.of (by decide) (Nat.le_of_ble_eq_true rfl) ?_
  intro p e s m below meth c A hA C0 hnm hr hP hD ls hl
  have hl : lv_has ls 5 [(0, .ref h), (1, .int p1)] := hl
  have hx := C0.x
  have hb := C0.b
  have hS : va_S A s.heap s.heap [] := va_S.rf
  have hP : va_P D cls9 [(h, oX8 w_now (.int x_arches) (.int x_cats) w_text (.int x_typed) (.ref q_row) (.int x_rowMany) (.int x_thrown) w_read (.int x_length) (.int x_top) (.int x_at) (.int x_wrong) w_told w_rule w_otherRule (.int x_ruleSize) (.int x_isAsked) w_asked w_undos (.int x_undoMany) w_aside w_then w_hold (.int x_dropped) w_acts w_guarded w_train (.int x_trolleyEnd) w_feltOf w_feltBy (.int x_feltMany) w_many w_heardOf w_heardBy (.int x_heardMany) w_worth (.int x_drawn) (.int x_came) w_kept w_isKept w_keptCame), (q_row, aJ cT 16 f_row)] s.heap := hP
  have hD : va_D A [(h, oX8 w_now (.int x_arches) (.int x_cats) w_text (.int x_typed) (.ref q_row) (.int x_rowMany) (.int x_thrown) w_read (.int x_length) (.int x_top) (.int x_at) (.int x_wrong) w_told w_rule w_otherRule (.int x_ruleSize) (.int x_isAsked) w_asked w_undos (.int x_undoMany) w_aside w_then w_hold (.int x_dropped) w_acts w_guarded w_train (.int x_trolleyEnd) w_feltOf w_feltBy (.int x_feltMany) w_many w_heardOf w_heardBy (.int x_heardMany) w_worth (.int x_drawn) (.int x_came) w_kept w_isKept w_keptCame), (q_row, aJ cT 16 f_row)] := hD
  have L26 : ∀ (n26 : Nat) (y3_26 : Int32) (y2_26 : Int32) (x_rowMany_26 : Int32) (f_row_26 : Nat → Int64) (H : Heap) (locs : List Loc) (ls : Array Slot), p_X8_rests_26 F p1 Post n26 y3_26 y2_26 x_rowMany_26 f_row_26 → va_P D cls9 [(h, oX8 w_now (.int x_arches) (.int x_cats) w_text (.int x_typed) (.ref q_row) (.int x_rowMany_26) (.int (0 : Int32)) w_read (.int x_length) (.int x_top) (.int x_at) (.int x_wrong) w_told w_rule w_otherRule (.int x_ruleSize) (.int x_isAsked) w_asked w_undos (.int x_undoMany) w_aside w_then w_hold (.int x_dropped) w_acts w_guarded w_train (.int x_trolleyEnd) w_feltOf w_feltBy (.int x_feltMany) w_many w_heardOf w_heardBy (.int x_heardMany) w_worth (.int x_drawn) (.int x_came) w_kept w_isKept w_keptCame), (q_row, aJ cT 16 f_row_26)] H → va_D A [(h, oX8 w_now (.int x_arches) (.int x_cats) w_text (.int x_typed) (.ref q_row) (.int x_rowMany_26) (.int (0 : Int32)) w_read (.int x_length) (.int x_top) (.int x_at) (.int x_wrong) w_told w_rule w_otherRule (.int x_ruleSize) (.int x_isAsked) w_asked w_undos (.int x_undoMany) w_aside w_then w_hold (.int x_dropped) w_acts w_guarded w_train (.int x_trolleyEnd) w_feltOf w_feltBy (.int x_feltMany) w_many w_heardOf w_heardBy (.int x_heardMany) w_worth (.int x_drawn) (.int x_came) w_kept w_isKept w_keptCame), (q_row, aJ cT 16 f_row_26)] → va_S A s.heap H locs → lv_has ls 5 [(0, .ref h), (1, .int p1), (2, .int y2_26), (3, .int y3_26)] → W p l e (rmO 2 45 0 0) s m ([.ref h, .int p1] : List Value).toArray below meth c H locs 0 0 (MQ below (va_Qi Post (cB D A (fun (u : (Int32 × Int32 × (Nat → Int64))) => [(h, oX8 w_now (.int x_arches) (.int x_cats) w_text (.int x_typed) (.ref q_row) (.int u.1) (.int u.2.1) w_read (.int x_length) (.int x_top) (.int x_at) (.int x_wrong) w_told w_rule w_otherRule (.int x_ruleSize) (.int x_isAsked) w_asked w_undos (.int x_undoMany) w_aside w_then w_hold (.int x_dropped) w_acts w_guarded w_train (.int x_trolleyEnd) w_feltOf w_feltBy (.int x_feltMany) w_many w_heardOf w_heardBy (.int x_heardMany) w_worth (.int x_drawn) (.int x_came) w_kept w_isKept w_keptCame), (q_row, aJ cT 16 u.2.2)])) A) ([.ref h, .int p1] : List Value).toArray s 0 0 A) (F0 m 26 ls []) := by
    intro n26
    induction n26 with
    | zero =>
      intro y3_26 y2_26 x_rowMany_26 f_row_26 H locs ls hg hP hD hS hl
      exact False.elim hg
    | succ n26 ih26 =>
      have L35 : ∀ (y3_26 : Int32) (n35 : Nat) (y4_35 : Int32) (y2_35 : Int32) (x_rowMany_35 : Int32) (f_row_35 : Nat → Int64) (H : Heap) (locs : List Loc) (ls : Array Slot), p_X8_rests_35 F p1 y3_26 (p_X8_rests_26 F p1 Post n26) Post n35 y4_35 y2_35 x_rowMany_35 f_row_35 → va_P D cls9 [(h, oX8 w_now (.int x_arches) (.int x_cats) w_text (.int x_typed) (.ref q_row) (.int x_rowMany_35) (.int (0 : Int32)) w_read (.int x_length) (.int x_top) (.int x_at) (.int x_wrong) w_told w_rule w_otherRule (.int x_ruleSize) (.int x_isAsked) w_asked w_undos (.int x_undoMany) w_aside w_then w_hold (.int x_dropped) w_acts w_guarded w_train (.int x_trolleyEnd) w_feltOf w_feltBy (.int x_feltMany) w_many w_heardOf w_heardBy (.int x_heardMany) w_worth (.int x_drawn) (.int x_came) w_kept w_isKept w_keptCame), (q_row, aJ cT 16 f_row_35)] H → va_D A [(h, oX8 w_now (.int x_arches) (.int x_cats) w_text (.int x_typed) (.ref q_row) (.int x_rowMany_35) (.int (0 : Int32)) w_read (.int x_length) (.int x_top) (.int x_at) (.int x_wrong) w_told w_rule w_otherRule (.int x_ruleSize) (.int x_isAsked) w_asked w_undos (.int x_undoMany) w_aside w_then w_hold (.int x_dropped) w_acts w_guarded w_train (.int x_trolleyEnd) w_feltOf w_feltBy (.int x_feltMany) w_many w_heardOf w_heardBy (.int x_heardMany) w_worth (.int x_drawn) (.int x_came) w_kept w_isKept w_keptCame), (q_row, aJ cT 16 f_row_35)] → va_S A s.heap H locs → lv_has ls 5 [(0, .ref h), (1, .int p1), (2, .int y2_35), (3, .int y3_26), (4, .int y4_35)] → W p l e (rmO 2 45 0 0) s m ([.ref h, .int p1] : List Value).toArray below meth c H locs 0 0 (MQ below (va_Qi Post (cB D A (fun (u : (Int32 × Int32 × (Nat → Int64))) => [(h, oX8 w_now (.int x_arches) (.int x_cats) w_text (.int x_typed) (.ref q_row) (.int u.1) (.int u.2.1) w_read (.int x_length) (.int x_top) (.int x_at) (.int x_wrong) w_told w_rule w_otherRule (.int x_ruleSize) (.int x_isAsked) w_asked w_undos (.int x_undoMany) w_aside w_then w_hold (.int x_dropped) w_acts w_guarded w_train (.int x_trolleyEnd) w_feltOf w_feltBy (.int x_feltMany) w_many w_heardOf w_heardBy (.int x_heardMany) w_worth (.int x_drawn) (.int x_came) w_kept w_isKept w_keptCame), (q_row, aJ cT 16 u.2.2)])) A) ([.ref h, .int p1] : List Value).toArray s 0 0 A) (F0 m 35 ls []) := by
        intro y3_26 n35
        induction n35 with
        | zero =>
          intro y4_35 y2_35 x_rowMany_35 f_row_35 H locs ls hg hP hD hS hl
          exact False.elim hg
        | succ n35 ih35 =>
          have L85 : ∀ (y4_35 : Int32) (y2_85 : Int32) (x_rowMany_85 : Int32) (f_row_85 : Nat → Int64) (H : Heap) (locs : List Loc) (ls : Array Slot), p_X8_rests_85 F y4_35 (p_X8_rests_26 F p1 Post n26) (p_X8_rests_35 F p1 y3_26 (p_X8_rests_26 F p1 Post n26) Post n35) Post y2_85 x_rowMany_85 f_row_85 → va_P D cls9 [(h, oX8 w_now (.int x_arches) (.int x_cats) w_text (.int x_typed) (.ref q_row) (.int x_rowMany_85) (.int (0 : Int32)) w_read (.int x_length) (.int x_top) (.int x_at) (.int x_wrong) w_told w_rule w_otherRule (.int x_ruleSize) (.int x_isAsked) w_asked w_undos (.int x_undoMany) w_aside w_then w_hold (.int x_dropped) w_acts w_guarded w_train (.int x_trolleyEnd) w_feltOf w_feltBy (.int x_feltMany) w_many w_heardOf w_heardBy (.int x_heardMany) w_worth (.int x_drawn) (.int x_came) w_kept w_isKept w_keptCame), (q_row, aJ cT 16 f_row_85)] H → va_D A [(h, oX8 w_now (.int x_arches) (.int x_cats) w_text (.int x_typed) (.ref q_row) (.int x_rowMany_85) (.int (0 : Int32)) w_read (.int x_length) (.int x_top) (.int x_at) (.int x_wrong) w_told w_rule w_otherRule (.int x_ruleSize) (.int x_isAsked) w_asked w_undos (.int x_undoMany) w_aside w_then w_hold (.int x_dropped) w_acts w_guarded w_train (.int x_trolleyEnd) w_feltOf w_feltBy (.int x_feltMany) w_many w_heardOf w_heardBy (.int x_heardMany) w_worth (.int x_drawn) (.int x_came) w_kept w_isKept w_keptCame), (q_row, aJ cT 16 f_row_85)] → va_S A s.heap H locs → lv_has ls 5 [(0, .ref h), (1, .int p1), (2, .int y2_85), (3, .int y3_26), (4, .int y4_35)] → W p l e (rmO 2 45 0 0) s m ([.ref h, .int p1] : List Value).toArray below meth c H locs 0 0 (MQ below (va_Qi Post (cB D A (fun (u : (Int32 × Int32 × (Nat → Int64))) => [(h, oX8 w_now (.int x_arches) (.int x_cats) w_text (.int x_typed) (.ref q_row) (.int u.1) (.int u.2.1) w_read (.int x_length) (.int x_top) (.int x_at) (.int x_wrong) w_told w_rule w_otherRule (.int x_ruleSize) (.int x_isAsked) w_asked w_undos (.int x_undoMany) w_aside w_then w_hold (.int x_dropped) w_acts w_guarded w_train (.int x_trolleyEnd) w_feltOf w_feltBy (.int x_feltMany) w_many w_heardOf w_heardBy (.int x_heardMany) w_worth (.int x_drawn) (.int x_came) w_kept w_isKept w_keptCame), (q_row, aJ cT 16 u.2.2)])) A) ([.ref h, .int p1] : List Value).toArray s 0 0 A) (F0 m 85 ls []) := by
            intro y4_35 y2_85 x_rowMany_85 f_row_85 H locs ls hg hP hD hS hl
            unfold p_X8_rests_85 at hg
            refine lv_iinc (v := (y4_35 + (1 : Int32))) (lv' := [(4, .int (y4_35 + (1 : Int32))), (0, .ref h), (1, .int p1), (2, .int y2_85), (3, .int y3_26)]) hx hb dX8_rests_85 hl (k := 4) rfl rfl (by decide) rfl (fun ls hl => ?_)
            refine lv_goto (tgt := 35) hx hb dX8_rests_88 (by decide) ?_
            exact ih35 (y4_35 + (1 : Int32)) y2_85 x_rowMany_85 f_row_85 _ _ _ hg hP hD hS (lv_sub hl [1, 2, 3, 4, 0] rfl)
          have L82 : ∀ (y4_35 : Int32) (y2_35 : Int32) (x_rowMany_82 : Int32) (f_row_82 : Nat → Int64) (H : Heap) (locs : List Loc) (ls : Array Slot), p_X8_rests_82 F y4_35 y2_35 (p_X8_rests_26 F p1 Post n26) (p_X8_rests_35 F p1 y3_26 (p_X8_rests_26 F p1 Post n26) Post n35) Post x_rowMany_82 f_row_82 → va_P D cls9 [(h, oX8 w_now (.int x_arches) (.int x_cats) w_text (.int x_typed) (.ref q_row) (.int x_rowMany_82) (.int (0 : Int32)) w_read (.int x_length) (.int x_top) (.int x_at) (.int x_wrong) w_told w_rule w_otherRule (.int x_ruleSize) (.int x_isAsked) w_asked w_undos (.int x_undoMany) w_aside w_then w_hold (.int x_dropped) w_acts w_guarded w_train (.int x_trolleyEnd) w_feltOf w_feltBy (.int x_feltMany) w_many w_heardOf w_heardBy (.int x_heardMany) w_worth (.int x_drawn) (.int x_came) w_kept w_isKept w_keptCame), (q_row, aJ cT 16 f_row_82)] H → va_D A [(h, oX8 w_now (.int x_arches) (.int x_cats) w_text (.int x_typed) (.ref q_row) (.int x_rowMany_82) (.int (0 : Int32)) w_read (.int x_length) (.int x_top) (.int x_at) (.int x_wrong) w_told w_rule w_otherRule (.int x_ruleSize) (.int x_isAsked) w_asked w_undos (.int x_undoMany) w_aside w_then w_hold (.int x_dropped) w_acts w_guarded w_train (.int x_trolleyEnd) w_feltOf w_feltBy (.int x_feltMany) w_many w_heardOf w_heardBy (.int x_heardMany) w_worth (.int x_drawn) (.int x_came) w_kept w_isKept w_keptCame), (q_row, aJ cT 16 f_row_82)] → va_S A s.heap H locs → lv_has ls 5 [(0, .ref h), (1, .int p1), (2, .int y2_35), (3, .int y3_26), (4, .int y4_35)] → W p l e (rmO 2 45 0 0) s m ([.ref h, .int p1] : List Value).toArray below meth c H locs 0 0 (MQ below (va_Qi Post (cB D A (fun (u : (Int32 × Int32 × (Nat → Int64))) => [(h, oX8 w_now (.int x_arches) (.int x_cats) w_text (.int x_typed) (.ref q_row) (.int u.1) (.int u.2.1) w_read (.int x_length) (.int x_top) (.int x_at) (.int x_wrong) w_told w_rule w_otherRule (.int x_ruleSize) (.int x_isAsked) w_asked w_undos (.int x_undoMany) w_aside w_then w_hold (.int x_dropped) w_acts w_guarded w_train (.int x_trolleyEnd) w_feltOf w_feltBy (.int x_feltMany) w_many w_heardOf w_heardBy (.int x_heardMany) w_worth (.int x_drawn) (.int x_came) w_kept w_isKept w_keptCame), (q_row, aJ cT 16 u.2.2)])) A) ([.ref h, .int p1] : List Value).toArray s 0 0 A) (F0 m 82 ls []) := by
            intro y4_35 y2_35 x_rowMany_82 f_row_82 H locs ls hg hP hD hS hl
            unfold p_X8_rests_82 at hg
            refine lv_iinc (v := (y2_35 + (1 : Int32))) (lv' := [(2, .int (y2_35 + (1 : Int32))), (0, .ref h), (1, .int p1), (3, .int y3_26), (4, .int y4_35)]) hx hb dX8_rests_82 hl (k := 2) rfl rfl (by decide) rfl (fun ls hl => ?_)
            exact L85 y4_35 (y2_35 + (1 : Int32)) x_rowMany_82 f_row_82 _ _ _ hg hP hD hS (lv_sub hl [1, 2, 0, 3, 4] rfl)
          intro y4_35 y2_35 x_rowMany_35 f_row_35 H locs ls hg hP hD hS hl
          rw [p_X8_rests_35_s] at hg
          refine lv_iload hx hb dX8_rests_35 (lv_at hl 4 rfl) ?_
          refine lv_bipush (v := (9 : Int32)) hx hb dX8_rests_37 (by decide) ?_
          refine lv_icmp_gt (tgt := 91) hx hb dX8_rests_39 (by decide) (fun c_39 => ?_) (fun c_39 => ?_)
          · have hg := hg.1 c_39
            refine lv_iinc (v := (y3_26 + (1 : Int32))) (lv' := [(3, .int (y3_26 + (1 : Int32))), (0, .ref h), (1, .int p1), (2, .int y2_35), (4, .int y4_35)]) hx hb dX8_rests_91 hl (k := 3) rfl rfl (by decide) rfl (fun ls hl => ?_)
            refine lv_goto (tgt := 26) hx hb dX8_rests_94 (by decide) ?_
            exact ih26 (y3_26 + (1 : Int32)) y2_35 x_rowMany_35 f_row_35 _ _ _ hg hP hD hS (lv_sub hl [1, 2, 3, 0] rfl)
          have hg := hg.2 c_39
          refine lv_iload_n hx hb dX8_rests_42 rfl (lv_at hl 3 rfl) ?_
          refine lv_iload hx hb dX8_rests_43 (lv_at hl 4 rfl) ?_
          refine lv_iload_n hx hb dX8_rests_45 rfl (lv_at hl 1 rfl) ?_
          refine k_Sxi (rest := []) C0 lk_X8_380 (c_X8_isBest l D cT F y3_26 y4_35 p1 _ hg) hP hD hS hA [] (by decide +kernel) rfl ⟨Nat.le_of_ble_eq_true rfl, Nat.le_of_ble_eq_true rfl⟩ rfl hl.1 rfl (Nat.le_of_ble_eq_true rfl) dX8_rests_46 ⟨Nat.le_of_ble_eq_true rfl, Nat.le_of_ble_eq_true rfl⟩ (fun r_46 hg => ?_)
          refine lv_if_eq (tgt := 85) hx hb dX8_rests_49 (by decide) (fun c_49 => ?_) (fun c_49 => ?_)
          · have hg := hg.1 c_49
            exact L85 y4_35 y2_35 x_rowMany_35 f_row_35 _ _ _ hg hP hD hS hl
          have hg := hg.2 c_49
          refine lv_iload hx hb dX8_rests_52 (lv_at hl 4 rfl) ?_
          refine lv_iload_n hx hb dX8_rests_54 rfl (lv_at hl 3 rfl) ?_
          refine lv_iload_n hx hb dX8_rests_55 rfl (lv_at hl 1 rfl) ?_
          refine k_Sxi (rest := []) C0 lk_X8_380 (c_X8_isBest l D cT F y4_35 y3_26 p1 _ hg) hP hD hS hA [] (by decide +kernel) rfl ⟨Nat.le_of_ble_eq_true rfl, Nat.le_of_ble_eq_true rfl⟩ rfl hl.1 rfl (Nat.le_of_ble_eq_true rfl) dX8_rests_56 ⟨Nat.le_of_ble_eq_true rfl, Nat.le_of_ble_eq_true rfl⟩ (fun r_56 hg => ?_)
          refine lv_if_ne (tgt := 65) hx hb dX8_rests_59 (by decide) (fun c_59 => ?_) (fun c_59 => ?_)
          · have hg := hg.1 c_59
            refine lv_iload_n hx hb dX8_rests_65 rfl (lv_at hl 2 rfl) ?_
            refine lv_if_ne (tgt := 82) hx hb dX8_rests_66 (by decide) (fun c_66 => ?_) (fun c_66 => ?_)
            · have hg := hg.1 c_66
              exact L82 y4_35 y2_35 x_rowMany_35 f_row_35 _ _ _ hg hP hD hS hl
            have hg := hg.2 c_66
            refine lv_aload_n hx hb dX8_rests_69 rfl (lv_at hl 0 rfl) ?_
            refine lv_iload_n hx hb dX8_rests_70 rfl (lv_at hl 3 rfl) ?_
            refine lv_i2l (v := (y3_26.toInt64)) hx hb dX8_rests_71 rfl ?_
            refine k_Vv (rest := []) (wr := []) (w2 := fun u_72 => [(h, oX8 w_now (.int x_arches) (.int x_cats) w_text (.int x_typed) (.ref q_row) (.int u_72.1) (.int (0 : Int32)) w_read (.int x_length) (.int x_top) (.int x_at) (.int x_wrong) w_told w_rule w_otherRule (.int x_ruleSize) (.int x_isAsked) w_asked w_undos (.int x_undoMany) w_aside w_then w_hold (.int x_dropped) w_acts w_guarded w_train (.int x_trolleyEnd) w_feltOf w_feltBy (.int x_feltMany) w_many w_heardOf w_heardBy (.int x_heardMany) w_worth (.int x_drawn) (.int x_came) w_kept w_isKept w_keptCame), (q_row, aJ cT 16 u_72.2)]) C0 lk_X8_249 (c_X8_tell l D cT F h (y3_26.toInt64) w_now x_arches x_cats w_text x_typed q_row x_rowMany_35 (0 : Int32) w_read x_length x_top x_at x_wrong w_told w_rule w_otherRule x_ruleSize x_isAsked w_asked w_undos x_undoMany w_aside w_then w_hold x_dropped w_acts w_guarded w_train x_trolleyEnd w_feltOf w_feltBy x_feltMany w_many w_heardOf w_heardBy x_heardMany w_worth x_drawn x_came w_kept w_isKept w_keptCame f_row_35 _ hg) hP hD hS hA [0, 1] [] (by decide +kernel) rfl rfl (fun _ => rfl) rfl rfl ⟨Nat.le_of_ble_eq_true rfl, Nat.le_of_ble_eq_true rfl⟩ rfl hl.1 rfl (Nat.le_of_ble_eq_true rfl) dX8_rests_72 ⟨Nat.le_of_ble_eq_true rfl, Nat.le_of_ble_eq_true rfl⟩ ?_
            intro u_72 H locs hg hP hD hS
            refine lv_aload_n hx hb dX8_rests_75 rfl (lv_at hl 0 rfl) ?_
            refine lv_iload hx hb dX8_rests_76 (lv_at hl 4 rfl) ?_
            refine lv_i2l (v := (y4_35.toInt64)) hx hb dX8_rests_78 rfl ?_
            refine k_Vv (rest := []) (wr := []) (w2 := fun u_79 => [(h, oX8 w_now (.int x_arches) (.int x_cats) w_text (.int x_typed) (.ref q_row) (.int u_79.1) (.int (0 : Int32)) w_read (.int x_length) (.int x_top) (.int x_at) (.int x_wrong) w_told w_rule w_otherRule (.int x_ruleSize) (.int x_isAsked) w_asked w_undos (.int x_undoMany) w_aside w_then w_hold (.int x_dropped) w_acts w_guarded w_train (.int x_trolleyEnd) w_feltOf w_feltBy (.int x_feltMany) w_many w_heardOf w_heardBy (.int x_heardMany) w_worth (.int x_drawn) (.int x_came) w_kept w_isKept w_keptCame), (q_row, aJ cT 16 u_79.2)]) C0 lk_X8_249 (c_X8_tell l D cT F h (y4_35.toInt64) w_now x_arches x_cats w_text x_typed q_row u_72.1 (0 : Int32) w_read x_length x_top x_at x_wrong w_told w_rule w_otherRule x_ruleSize x_isAsked w_asked w_undos x_undoMany w_aside w_then w_hold x_dropped w_acts w_guarded w_train x_trolleyEnd w_feltOf w_feltBy x_feltMany w_many w_heardOf w_heardBy x_heardMany w_worth x_drawn x_came w_kept w_isKept w_keptCame u_72.2 _ hg) hP hD hS hA [0, 1] [] (by decide +kernel) rfl rfl (fun _ => rfl) rfl rfl ⟨Nat.le_of_ble_eq_true rfl, Nat.le_of_ble_eq_true rfl⟩ rfl hl.1 rfl (Nat.le_of_ble_eq_true rfl) dX8_rests_79 ⟨Nat.le_of_ble_eq_true rfl, Nat.le_of_ble_eq_true rfl⟩ ?_
            intro u_79 H locs hg hP hD hS
            exact L82 y4_35 y2_35 u_79.1 u_79.2 _ _ _ hg hP hD hS hl
          have hg := hg.2 c_59
          refine lv_goto (tgt := 85) hx hb dX8_rests_62 (by decide) ?_
          exact L85 y4_35 y2_35 x_rowMany_35 f_row_35 _ _ _ hg hP hD hS hl
      intro y3_26 y2_26 x_rowMany_26 f_row_26 H locs ls hg hP hD hS hl
      rw [p_X8_rests_26_s] at hg
      refine lv_iload_n hx hb dX8_rests_26 rfl (lv_at hl 3 rfl) ?_
      refine lv_bipush (v := (9 : Int32)) hx hb dX8_rests_27 (by decide) ?_
      refine lv_icmp_gt (tgt := 97) hx hb dX8_rests_29 (by decide) (fun c_29 => ?_) (fun c_29 => ?_)
      · have hg := hg.1 c_29
        refine lv_iload_n hx hb dX8_rests_97 rfl (lv_at hl 2 rfl) ?_
        exact k_iret C0 hr (x_rowMany_26, (0 : Int32), f_row_26) hg hP hD hS dX8_rests_98
      have hg := hg.2 c_29
      refine lv_iconst (v := (0 : Int32)) hx hb dX8_rests_32 (by decide) ?_
      refine lv_istore (lv' := [(4, .int (0 : Int32)), (0, .ref h), (1, .int p1), (2, .int y2_26), (3, .int y3_26)]) hx hb dX8_rests_33 hl (by decide) rfl (fun ls hl => ?_)
      exact L35 y3_26 F (0 : Int32) y2_26 x_rowMany_26 f_row_26 _ _ _ hg hP hD hS (lv_sub hl [1, 2, 3, 4, 0] rfl)
  unfold p_X8_rests at hg
  refine lv_aload_n hx hb dX8_rests_0 rfl (lv_at hl 0 rfl) ?_
  refine lv_iconst (v := (0 : Int32)) hx hb dX8_rests_1 (by decide) ?_
  refine pf_X8_82 C0 hP hD hS 0 rfl (Nat.le_of_ble_eq_true rfl) (ws2 := [(h, oX8 w_now (.int x_arches) (.int x_cats) w_text (.int x_typed) (.ref q_row) (.int x_rowMany) (.int (0 : Int32)) w_read (.int x_length) (.int x_top) (.int x_at) (.int x_wrong) w_told w_rule w_otherRule (.int x_ruleSize) (.int x_isAsked) w_asked w_undos (.int x_undoMany) w_aside w_then w_hold (.int x_dropped) w_acts w_guarded w_train (.int x_trolleyEnd) w_feltOf w_feltBy (.int x_feltMany) w_many w_heardOf w_heardBy (.int x_heardMany) w_worth (.int x_drawn) (.int x_came) w_kept w_isKept w_keptCame), (q_row, aJ cT 16 f_row)]) rfl dX8_rests_2 (fun H locs hP hD hS => ?_)
  refine lv_iload_n hx hb dX8_rests_5 rfl (lv_at hl 1 rfl) ?_
  refine lv_iconst (v := (0 : Int32)) hx hb dX8_rests_6 (by decide) ?_
  refine lv_bipush (v := (18 : Int32)) hx hb dX8_rests_7 (by decide) ?_
  refine k_Sxi (rest := []) C0 lk_X8_92 (c_X8_in l D cT F p1 (0 : Int32) (18 : Int32) _ hg) hP hD hS hA [] (by decide +kernel) rfl ⟨Nat.le_of_ble_eq_true rfl, Nat.le_of_ble_eq_true rfl⟩ rfl hl.1 rfl (Nat.le_of_ble_eq_true rfl) dX8_rests_9 ⟨Nat.le_of_ble_eq_true rfl, Nat.le_of_ble_eq_true rfl⟩ (fun r_9 hg => ?_)
  refine lv_if_ne (tgt := 17) hx hb dX8_rests_12 (by decide) (fun c_12 => ?_) (fun c_12 => ?_)
  · have hg := hg.1 c_12
    refine lv_iconst (v := (0 : Int32)) hx hb dX8_rests_17 (by decide) ?_
    refine lv_istore_n (lv' := [(2, .int (0 : Int32)), (0, .ref h), (1, .int p1)]) hx hb dX8_rests_18 rfl hl (by decide) rfl (fun ls hl => ?_)
    refine lv_aload_n hx hb dX8_rests_19 rfl (lv_at hl 1 rfl) ?_
    refine lv_iconst (v := (0 : Int32)) hx hb dX8_rests_20 (by decide) ?_
    refine pf_X8_86 C0 hP hD hS 0 rfl (Nat.le_of_ble_eq_true rfl) (ws2 := [(h, oX8 w_now (.int x_arches) (.int x_cats) w_text (.int x_typed) (.ref q_row) (.int (0 : Int32)) (.int (0 : Int32)) w_read (.int x_length) (.int x_top) (.int x_at) (.int x_wrong) w_told w_rule w_otherRule (.int x_ruleSize) (.int x_isAsked) w_asked w_undos (.int x_undoMany) w_aside w_then w_hold (.int x_dropped) w_acts w_guarded w_train (.int x_trolleyEnd) w_feltOf w_feltBy (.int x_feltMany) w_many w_heardOf w_heardBy (.int x_heardMany) w_worth (.int x_drawn) (.int x_came) w_kept w_isKept w_keptCame), (q_row, aJ cT 16 f_row)]) rfl dX8_rests_21 (fun H locs hP hD hS => ?_)
    refine lv_iconst (v := (0 : Int32)) hx hb dX8_rests_24 (by decide) ?_
    refine lv_istore_n (lv' := [(3, .int (0 : Int32)), (2, .int (0 : Int32)), (0, .ref h), (1, .int p1)]) hx hb dX8_rests_25 rfl hl (by decide) rfl (fun ls hl => ?_)
    exact L26 F (0 : Int32) (0 : Int32) (0 : Int32) f_row _ _ _ hg hP hD hS (lv_sub hl [2, 3, 1, 0] rfl)
  have hg := hg.2 c_12
  refine lv_iconst (v := (-1 : Int32)) hx hb dX8_rests_15 (by decide) ?_
  exact k_iret C0 hr (x_rowMany, (0 : Int32), f_row) hg hP hD hS dX8_rests_16
theorem dX8_law_0 : decode cX8_law 0 = .ok (.aload_n 0, 1) := by decide +kernel
theorem dX8_law_1 : decode cX8_law 1 = .ok (.iconst 0, 1) := by decide +kernel
theorem dX8_law_2 : decode cX8_law 2 = .ok (.putfield 82, 3) := by decide +kernel
theorem dX8_law_5 : decode cX8_law 5 = .ok (.aload_n 0, 1) := by decide +kernel
theorem dX8_law_6 : decode cX8_law 6 = .ok (.getfield 99, 3) := by decide +kernel
theorem dX8_law_9 : decode cX8_law 9 = .ok (.istore_n 1, 1) := by decide +kernel
theorem dX8_law_10 : decode cX8_law 10 = .ok (.aload_n 0, 1) := by decide +kernel
theorem dX8_law_11 : decode cX8_law 11 = .ok (.invokevirtual 183, 3) := by decide +kernel
theorem dX8_law_14 : decode cX8_law 14 = .ok (.ifCond .ne 12, 3) := by decide +kernel
theorem dX8_law_17 : decode cX8_law 17 = .ok (.sipush (-10000), 3) := by decide +kernel
theorem dX8_law_20 : decode cX8_law 20 = .ok (.aload_n 0, 1) := by decide +kernel
theorem dX8_law_21 : decode cX8_law 21 = .ok (.getfield 114, 3) := by decide +kernel
theorem dX8_law_24 : decode cX8_law 24 = .ok (.isub, 1) := by decide +kernel
theorem dX8_law_25 : decode cX8_law 25 = .ok (.ireturn, 1) := by decide +kernel
theorem dX8_law_26 : decode cX8_law 26 = .ok (.aload_n 0, 1) := by decide +kernel
theorem dX8_law_27 : decode cX8_law 27 = .ok (.bipush 10, 2) := by decide +kernel
theorem dX8_law_29 : decode cX8_law 29 = .ok (.invokevirtual 295, 3) := by decide +kernel
theorem dX8_law_32 : decode cX8_law 32 = .ok (.aload_n 0, 1) := by decide +kernel
theorem dX8_law_33 : decode cX8_law 33 = .ok (.aload_n 0, 1) := by decide +kernel
theorem dX8_law_34 : decode cX8_law 34 = .ok (.getfield 39, 3) := by decide +kernel
theorem dX8_law_37 : decode cX8_law 37 = .ok (.invokevirtual 253, 3) := by decide +kernel
theorem dX8_law_40 : decode cX8_law 40 = .ok (.istore_n 2, 1) := by decide +kernel
theorem dX8_law_41 : decode cX8_law 41 = .ok (.aload_n 0, 1) := by decide +kernel
theorem dX8_law_42 : decode cX8_law 42 = .ok (.getfield 24, 3) := by decide +kernel
theorem dX8_law_45 : decode cX8_law 45 = .ok (.astore_n 3, 1) := by decide +kernel
theorem dX8_law_46 : decode cX8_law 46 = .ok (.aload_n 0, 1) := by decide +kernel
theorem dX8_law_47 : decode cX8_law 47 = .ok (.getfield 186, 3) := by decide +kernel
theorem dX8_law_50 : decode cX8_law 50 = .ok (.istore 4, 2) := by decide +kernel
theorem dX8_law_52 : decode cX8_law 52 = .ok (.aload_n 0, 1) := by decide +kernel
theorem dX8_law_53 : decode cX8_law 53 = .ok (.aload_n 0, 1) := by decide +kernel
theorem dX8_law_54 : decode cX8_law 54 = .ok (.getfield 27, 3) := by decide +kernel
theorem dX8_law_57 : decode cX8_law 57 = .ok (.putfield 24, 3) := by decide +kernel
theorem dX8_law_60 : decode cX8_law 60 = .ok (.aload_n 0, 1) := by decide +kernel
theorem dX8_law_61 : decode cX8_law 61 = .ok (.iload_n 1, 1) := by decide +kernel
theorem dX8_law_62 : decode cX8_law 62 = .ok (.putfield 186, 3) := by decide +kernel
theorem dX8_law_65 : decode cX8_law 65 = .ok (.iconst 0, 1) := by decide +kernel
theorem dX8_law_66 : decode cX8_law 66 = .ok (.istore 5, 2) := by decide +kernel
theorem dX8_law_68 : decode cX8_law 68 = .ok (.iload 5, 2) := by decide +kernel
theorem dX8_law_70 : decode cX8_law 70 = .ok (.iload_n 1, 1) := by decide +kernel
theorem dX8_law_71 : decode cX8_law 71 = .ok (.if_icmp .ge 23, 3) := by decide +kernel
theorem dX8_law_74 : decode cX8_law 74 = .ok (.aload_n 0, 1) := by decide +kernel
theorem dX8_law_75 : decode cX8_law 75 = .ok (.getfield 24, 3) := by decide +kernel
theorem dX8_law_78 : decode cX8_law 78 = .ok (.iload 5, 2) := by decide +kernel
theorem dX8_law_80 : decode cX8_law 80 = .ok (.aload_n 0, 1) := by decide +kernel
theorem dX8_law_81 : decode cX8_law 81 = .ok (.getfield 13, 3) := by decide +kernel
theorem dX8_law_84 : decode cX8_law 84 = .ok (.iload 5, 2) := by decide +kernel
theorem dX8_law_86 : decode cX8_law 86 = .ok (.baload, 1) := by decide +kernel
theorem dX8_law_87 : decode cX8_law 87 = .ok (.bastore, 1) := by decide +kernel
theorem dX8_law_88 : decode cX8_law 88 = .ok (.iinc 5 1, 3) := by decide +kernel
theorem dX8_law_91 : decode cX8_law 91 = .ok (.goto (-23), 3) := by decide +kernel
theorem dX8_law_94 : decode cX8_law 94 = .ok (.aload_n 0, 1) := by decide +kernel
theorem dX8_law_95 : decode cX8_law 95 = .ok (.bipush 10, 2) := by decide +kernel
theorem dX8_law_97 : decode cX8_law 97 = .ok (.invokevirtual 295, 3) := by decide +kernel
theorem dX8_law_100 : decode cX8_law 100 = .ok (.aload_n 0, 1) := by decide +kernel
theorem dX8_law_101 : decode cX8_law 101 = .ok (.aload_n 0, 1) := by decide +kernel
theorem dX8_law_102 : decode cX8_law 102 = .ok (.getfield 39, 3) := by decide +kernel
theorem dX8_law_105 : decode cX8_law 105 = .ok (.invokevirtual 253, 3) := by decide +kernel
theorem dX8_law_108 : decode cX8_law 108 = .ok (.istore 5, 2) := by decide +kernel
theorem dX8_law_110 : decode cX8_law 110 = .ok (.aload_n 0, 1) := by decide +kernel
theorem dX8_law_111 : decode cX8_law 111 = .ok (.iconst 0, 1) := by decide +kernel
theorem dX8_law_112 : decode cX8_law 112 = .ok (.putfield 86, 3) := by decide +kernel
theorem dX8_law_115 : decode cX8_law 115 = .ok (.aload_n 0, 1) := by decide +kernel
theorem dX8_law_116 : decode cX8_law 116 = .ok (.iload 5, 2) := by decide +kernel
theorem dX8_law_118 : decode cX8_law 118 = .ok (.i2l, 1) := by decide +kernel
theorem dX8_law_119 : decode cX8_law 119 = .ok (.invokevirtual 249, 3) := by decide +kernel
theorem dX8_law_122 : decode cX8_law 122 = .ok (.aload_n 0, 1) := by decide +kernel
theorem dX8_law_123 : decode cX8_law 123 = .ok (.iload_n 2, 1) := by decide +kernel
theorem dX8_law_124 : decode cX8_law 124 = .ok (.i2l, 1) := by decide +kernel
theorem dX8_law_125 : decode cX8_law 125 = .ok (.invokevirtual 249, 3) := by decide +kernel
theorem dX8_law_128 : decode cX8_law 128 = .ok (.iconst 0, 1) := by decide +kernel
theorem dX8_law_129 : decode cX8_law 129 = .ok (.istore 6, 2) := by decide +kernel
theorem dX8_law_131 : decode cX8_law 131 = .ok (.iload 6, 2) := by decide +kernel
theorem dX8_law_133 : decode cX8_law 133 = .ok (.aload_n 0, 1) := by decide +kernel
theorem dX8_law_134 : decode cX8_law 134 = .ok (.getfield 89, 3) := by decide +kernel
theorem dX8_law_137 : decode cX8_law 137 = .ok (.if_icmp .ge 24, 3) := by decide +kernel
theorem dX8_law_140 : decode cX8_law 140 = .ok (.aload_n 0, 1) := by decide +kernel
theorem dX8_law_141 : decode cX8_law 141 = .ok (.aload_n 0, 1) := by decide +kernel
theorem dX8_law_142 : decode cX8_law 142 = .ok (.aload_n 0, 1) := by decide +kernel
theorem dX8_law_143 : decode cX8_law 143 = .ok (.getfield 9, 3) := by decide +kernel
theorem dX8_law_146 : decode cX8_law 146 = .ok (.iload 6, 2) := by decide +kernel
theorem dX8_law_148 : decode cX8_law 148 = .ok (.invokevirtual 221, 3) := by decide +kernel
theorem dX8_law_151 : decode cX8_law 151 = .ok (.i2l, 1) := by decide +kernel
theorem dX8_law_152 : decode cX8_law 152 = .ok (.invokevirtual 249, 3) := by decide +kernel
theorem dX8_law_155 : decode cX8_law 155 = .ok (.iinc 6 1, 3) := by decide +kernel
theorem dX8_law_158 : decode cX8_law 158 = .ok (.goto (-27), 3) := by decide +kernel
theorem dX8_law_161 : decode cX8_law 161 = .ok (.aload_n 0, 1) := by decide +kernel
theorem dX8_law_162 : decode cX8_law 162 = .ok (.aload_n 3, 1) := by decide +kernel
theorem dX8_law_163 : decode cX8_law 163 = .ok (.putfield 24, 3) := by decide +kernel
theorem dX8_law_166 : decode cX8_law 166 = .ok (.aload_n 0, 1) := by decide +kernel
theorem dX8_law_167 : decode cX8_law 167 = .ok (.iload 4, 2) := by decide +kernel
theorem dX8_law_169 : decode cX8_law 169 = .ok (.putfield 186, 3) := by decide +kernel
theorem dX8_law_172 : decode cX8_law 172 = .ok (.iload 5, 2) := by decide +kernel
theorem dX8_law_174 : decode cX8_law 174 = .ok (.iload_n 2, 1) := by decide +kernel
theorem dX8_law_175 : decode cX8_law 175 = .ok (.isub, 1) := by decide +kernel
theorem dX8_law_176 : decode cX8_law 176 = .ok (.ireturn, 1) := by decide +kernel
noncomputable def p_X8_law_131 (F : Nat) (x_arches : Int32) (x_cats : Int32) (x_typed : Int32) (q_otherRule : Nat) (f_now : Nat → Int32) (u_11 : (Int32 × Int32 × Int32 × Int32 × Int32 × Int32)) (r_37 : Int32) (u_97 : (Value × Int32 × Int32 × Int32 × Int32 × Int32 × Int32 × (Nat → Int32) × (Nat → Int32) × (Nat → Int32))) (r_105 : Int32) (f_otherRule_68 : Nat → Int32) (Post : Int32 → (Int32 × Int32 × Int32 × Value × Int32 × Int32 × Int32 × Int32 × Int32 × Int32 × (Nat → Int32) × (Nat → Int32) × (Nat → Int32) × (Nat → Int32) × (Nat → Int64)) → Prop) (n : Nat) : Int32 → Int32 → Value → Int32 → Int32 → Int32 → Int32 → Int32 → (Nat → Int32) → (Nat → Int64) → Prop := Nat.rec (motive := fun _ => Int32 → Int32 → Value → Int32 → Int32 → Int32 → Int32 → Int32 → (Nat → Int32) → (Nat → Int64) → Prop) (fun _ _ _ _ _ _ _ _ _ _ => False) (fun _ k131 => fun (y6_131 : Int32) (x_rowMany_131 : Int32) (x_read_131 : Value) (x_length_131 : Int32) (x_top_131 : Int32) (x_at_131 : Int32) (x_wrong_131 : Int32) (x_isAsked_131 : Int32) (f_asked_131 : Nat → Int32) (f_row_131 : Nat → Int64) => ((x_arches ≤ y6_131 → (Post (r_105 - r_37) (u_11.1, x_rowMany_131, (0 : Int32), x_read_131, x_length_131, x_top_131, x_at_131, x_wrong_131, x_isAsked_131, u_97.2.2.2.2.2.2.1, f_asked_131, u_97.2.2.2.2.2.2.2.1, u_97.2.2.2.2.2.2.2.2.2, f_otherRule_68, f_row_131))) ∧ (¬ x_arches ≤ y6_131 → (p_X8_holdOf F y6_131 x_cats x_read_131 x_length_131 x_top_131 x_at_131 x_wrong_131 q_otherRule x_typed x_isAsked_131 47 f_now f_asked_131 f_otherRule_68 (fun (r_148 : Int32) (u_148 : (Value × Int32 × Int32 × Int32 × Int32 × Int32 × (Nat → Int32))) => (p_X8_tell F (r_148.toInt64) x_rowMany_131 f_row_131 (fun (u_152 : (Int32 × (Nat → Int64))) => (k131 (y6_131 + (1 : Int32)) u_152.1 u_148.1 u_148.2.1 u_148.2.2.1 u_148.2.2.2.1 u_148.2.2.2.2.1 u_148.2.2.2.2.2.1 u_148.2.2.2.2.2.2 u_152.2)))))))) n
theorem p_X8_law_131_s (F : Nat) (x_arches : Int32) (x_cats : Int32) (x_typed : Int32) (q_otherRule : Nat) (f_now : Nat → Int32) (u_11 : (Int32 × Int32 × Int32 × Int32 × Int32 × Int32)) (r_37 : Int32) (u_97 : (Value × Int32 × Int32 × Int32 × Int32 × Int32 × Int32 × (Nat → Int32) × (Nat → Int32) × (Nat → Int32))) (r_105 : Int32) (f_otherRule_68 : Nat → Int32) (Post : Int32 → (Int32 × Int32 × Int32 × Value × Int32 × Int32 × Int32 × Int32 × Int32 × Int32 × (Nat → Int32) × (Nat → Int32) × (Nat → Int32) × (Nat → Int32) × (Nat → Int64)) → Prop) (n : Nat) (y6_131 : Int32) (x_rowMany_131 : Int32) (x_read_131 : Value) (x_length_131 : Int32) (x_top_131 : Int32) (x_at_131 : Int32) (x_wrong_131 : Int32) (x_isAsked_131 : Int32) (f_asked_131 : Nat → Int32) (f_row_131 : Nat → Int64) : p_X8_law_131 F x_arches x_cats x_typed q_otherRule f_now u_11 r_37 u_97 r_105 f_otherRule_68 Post (n + 1) y6_131 x_rowMany_131 x_read_131 x_length_131 x_top_131 x_at_131 x_wrong_131 x_isAsked_131 f_asked_131 f_row_131 = ((x_arches ≤ y6_131 → (Post (r_105 - r_37) (u_11.1, x_rowMany_131, (0 : Int32), x_read_131, x_length_131, x_top_131, x_at_131, x_wrong_131, x_isAsked_131, u_97.2.2.2.2.2.2.1, f_asked_131, u_97.2.2.2.2.2.2.2.1, u_97.2.2.2.2.2.2.2.2.2, f_otherRule_68, f_row_131))) ∧ (¬ x_arches ≤ y6_131 → (p_X8_holdOf F y6_131 x_cats x_read_131 x_length_131 x_top_131 x_at_131 x_wrong_131 q_otherRule x_typed x_isAsked_131 47 f_now f_asked_131 f_otherRule_68 (fun (r_148 : Int32) (u_148 : (Value × Int32 × Int32 × Int32 × Int32 × Int32 × (Nat → Int32))) => (p_X8_tell F (r_148.toInt64) x_rowMany_131 f_row_131 (fun (u_152 : (Int32 × (Nat → Int64))) => ((p_X8_law_131 F x_arches x_cats x_typed q_otherRule f_now u_11 r_37 u_97 r_105 f_otherRule_68 Post n) (y6_131 + (1 : Int32)) u_152.1 u_148.1 u_148.2.1 u_148.2.2.1 u_148.2.2.2.1 u_148.2.2.2.2.1 u_148.2.2.2.2.2.1 u_148.2.2.2.2.2.2 u_152.2))))))) := rfl
noncomputable def p_X8_law_68 (F : Nat) (x_arches : Int32) (x_cats : Int32) (x_typed : Int32) (q_otherRule : Nat) (f_text : Nat → Int32) (f_now : Nat → Int32) (f_row : Nat → Int64) (u_11 : (Int32 × Int32 × Int32 × Int32 × Int32 × Int32)) (u_29 : (Value × Int32 × Int32 × Int32 × Int32 × Int32 × Int32 × (Nat → Int32) × (Nat → Int32) × (Nat → Int32))) (r_37 : Int32) (Post : Int32 → (Int32 × Int32 × Int32 × Value × Int32 × Int32 × Int32 × Int32 × Int32 × Int32 × (Nat → Int32) × (Nat → Int32) × (Nat → Int32) × (Nat → Int32) × (Nat → Int64)) → Prop) (n : Nat) : Int32 → (Nat → Int32) → Prop := Nat.rec (motive := fun _ => Int32 → (Nat → Int32) → Prop) (fun _ _ => False) (fun _ k68 => fun (y5_68 : Int32) (f_otherRule_68 : Nat → Int32) => ((x_typed ≤ y5_68 → (p_X8_goThen F (10 : Int32) x_arches x_cats u_29.1 u_29.2.1 u_29.2.2.1 u_29.2.2.2.1 u_29.2.2.2.2.1 q_otherRule x_typed u_29.2.2.2.2.2.1 f_now u_29.2.2.2.2.2.2.2.1 u_29.2.2.2.2.2.2.2.2.1 f_otherRule_68 u_29.2.2.2.2.2.2.2.2.2 (fun (u_97 : (Value × Int32 × Int32 × Int32 × Int32 × Int32 × Int32 × (Nat → Int32) × (Nat → Int32) × (Nat → Int32))) => (p_X8_sags F x_arches 47 u_97.2.2.2.2.2.2.2.1 (fun (r_105 : Int32) => (p_X8_tell F (r_105.toInt64) (0 : Int32) f_row (fun (u_119 : (Int32 × (Nat → Int64))) => (p_X8_tell F (r_37.toInt64) u_119.1 u_119.2 (fun (u_125 : (Int32 × (Nat → Int64))) => (p_X8_law_131 F x_arches x_cats x_typed q_otherRule f_now u_11 r_37 u_97 r_105 f_otherRule_68 Post F (0 : Int32) u_125.1 u_97.1 u_97.2.1 u_97.2.2.1 u_97.2.2.2.1 u_97.2.2.2.2.1 u_97.2.2.2.2.2.1 u_97.2.2.2.2.2.2.2.2.1 u_125.2)))))))))) ∧ (¬ x_typed ≤ y5_68 → (vp_in y5_68 80 ∧ (vp_in y5_68 40 ∧ (k68 (y5_68 + (1 : Int32)) (upd f_otherRule_68 y5_68.toNatClampNeg (vp_nar .byte (f_text y5_68.toNatClampNeg))))))))) n
theorem p_X8_law_68_s (F : Nat) (x_arches : Int32) (x_cats : Int32) (x_typed : Int32) (q_otherRule : Nat) (f_text : Nat → Int32) (f_now : Nat → Int32) (f_row : Nat → Int64) (u_11 : (Int32 × Int32 × Int32 × Int32 × Int32 × Int32)) (u_29 : (Value × Int32 × Int32 × Int32 × Int32 × Int32 × Int32 × (Nat → Int32) × (Nat → Int32) × (Nat → Int32))) (r_37 : Int32) (Post : Int32 → (Int32 × Int32 × Int32 × Value × Int32 × Int32 × Int32 × Int32 × Int32 × Int32 × (Nat → Int32) × (Nat → Int32) × (Nat → Int32) × (Nat → Int32) × (Nat → Int64)) → Prop) (n : Nat) (y5_68 : Int32) (f_otherRule_68 : Nat → Int32) : p_X8_law_68 F x_arches x_cats x_typed q_otherRule f_text f_now f_row u_11 u_29 r_37 Post (n + 1) y5_68 f_otherRule_68 = ((x_typed ≤ y5_68 → (p_X8_goThen F (10 : Int32) x_arches x_cats u_29.1 u_29.2.1 u_29.2.2.1 u_29.2.2.2.1 u_29.2.2.2.2.1 q_otherRule x_typed u_29.2.2.2.2.2.1 f_now u_29.2.2.2.2.2.2.2.1 u_29.2.2.2.2.2.2.2.2.1 f_otherRule_68 u_29.2.2.2.2.2.2.2.2.2 (fun (u_97 : (Value × Int32 × Int32 × Int32 × Int32 × Int32 × Int32 × (Nat → Int32) × (Nat → Int32) × (Nat → Int32))) => (p_X8_sags F x_arches 47 u_97.2.2.2.2.2.2.2.1 (fun (r_105 : Int32) => (p_X8_tell F (r_105.toInt64) (0 : Int32) f_row (fun (u_119 : (Int32 × (Nat → Int64))) => (p_X8_tell F (r_37.toInt64) u_119.1 u_119.2 (fun (u_125 : (Int32 × (Nat → Int64))) => (p_X8_law_131 F x_arches x_cats x_typed q_otherRule f_now u_11 r_37 u_97 r_105 f_otherRule_68 Post F (0 : Int32) u_125.1 u_97.1 u_97.2.1 u_97.2.2.1 u_97.2.2.2.1 u_97.2.2.2.2.1 u_97.2.2.2.2.2.1 u_97.2.2.2.2.2.2.2.2.1 u_125.2)))))))))) ∧ (¬ x_typed ≤ y5_68 → (vp_in y5_68 80 ∧ (vp_in y5_68 40 ∧ ((p_X8_law_68 F x_arches x_cats x_typed q_otherRule f_text f_now f_row u_11 u_29 r_37 Post n) (y5_68 + (1 : Int32)) (upd f_otherRule_68 y5_68.toNatClampNeg (vp_nar .byte (f_text y5_68.toNatClampNeg)))))))) := rfl
def p_X8_law (F : Nat) (x_arches : Int32) (x_cats : Int32) (q_text : Nat) (x_typed : Int32) (x_rowMany : Int32) (q_rule : Nat) (q_otherRule : Nat) (x_ruleSize : Int32) (x_dropped : Int32) (f_text : Nat → Int32) (f_asked : Nat → Int32) (f_now : Nat → Int32) (f_then : Nat → Int32) (f_rule : Nat → Int32) (f_hold : Nat → Int32) (f_otherRule : Nat → Int32) (f_row : Nat → Int64) (Post : Int32 → (Int32 × Int32 × Int32 × Value × Int32 × Int32 × Int32 × Int32 × Int32 × Int32 × (Nat → Int32) × (Nat → Int32) × (Nat → Int32) × (Nat → Int32) × (Nat → Int64)) → Prop) : Prop := (p_X8_readRule F x_typed f_text f_asked (fun (r_11 : Int32) (u_11 : (Int32 × Int32 × Int32 × Int32 × Int32 × Int32)) => ((¬ r_11 = 0 → (p_X8_goThen F (10 : Int32) x_arches x_cats (.ref q_text) u_11.2.1 u_11.2.2.1 u_11.2.2.2.1 u_11.2.2.2.2.1 q_rule x_ruleSize u_11.2.2.2.2.2 f_now f_then f_asked f_rule f_hold (fun (u_29 : (Value × Int32 × Int32 × Int32 × Int32 × Int32 × Int32 × (Nat → Int32) × (Nat → Int32) × (Nat → Int32))) => (p_X8_sags F x_arches 47 u_29.2.2.2.2.2.2.2.1 (fun (r_37 : Int32) => (p_X8_law_68 F x_arches x_cats x_typed q_otherRule f_text f_now f_row u_11 u_29 r_37 Post F (0 : Int32) f_otherRule)))))) ∧ (r_11 = 0 → (Post ((-10000 : Int32) - u_11.2.2.2.2.1) (u_11.1, x_rowMany, (0 : Int32), .ref q_text, u_11.2.1, u_11.2.2.1, u_11.2.2.2.1, u_11.2.2.2.2.1, u_11.2.2.2.2.2, x_dropped, f_asked, f_then, f_hold, f_otherRule, f_row))))))
set_option maxHeartbeats 4000000 in
set_option maxRecDepth 100000 in
theorem c_X8_law (l : Launch) (D : va_G) (cT : Nat → ClassId) (F : Nat) (h : Nat) (q_now : Nat) (x_arches : Int32) (x_cats : Int32) (q_text : Nat) (x_typed : Int32) (q_row : Nat) (x_rowMany : Int32) (x_thrown : Int32) (w_read : Value) (x_length : Int32) (x_top : Int32) (x_at : Int32) (x_wrong : Int32) (w_told : Value) (q_rule : Nat) (q_otherRule : Nat) (x_ruleSize : Int32) (x_isAsked : Int32) (q_asked : Nat) (w_undos : Value) (x_undoMany : Int32) (w_aside : Value) (q_then : Nat) (q_hold : Nat) (x_dropped : Int32) (w_acts : Value) (w_guarded : Value) (w_train : Value) (x_trolleyEnd : Int32) (w_feltOf : Value) (w_feltBy : Value) (x_feltMany : Int32) (w_many : Value) (w_heardOf : Value) (w_heardBy : Value) (x_heardMany : Int32) (w_worth : Value) (x_drawn : Int32) (x_came : Int32) (w_kept : Value) (w_isKept : Value) (w_keptCame : Value) (f_text : Nat → Int32) (f_asked : Nat → Int32) (f_now : Nat → Int32) (f_then : Nat → Int32) (f_rule : Nat → Int32) (f_hold : Nat → Int32) (f_otherRule : Nat → Int32) (f_row : Nat → Int64) (Post : Int32 → (Int32 × Int32 × Int32 × Value × Int32 × Int32 × Int32 × Int32 × Int32 × Int32 × (Nat → Int32) × (Nat → Int32) × (Nat → Int32) × (Nat → Int32) × (Nat → Int64)) → Prop) (hg : p_X8_law F x_arches x_cats q_text x_typed x_rowMany q_rule q_otherRule x_ruleSize x_dropped f_text f_asked f_now f_then f_rule f_hold f_otherRule f_row Post) : MWi l D cT yX8_law cX8_law 7 (some .int) 328 10240 0 0 [.ref h] [(h, oX8 (.ref q_now) (.int x_arches) (.int x_cats) (.ref q_text) (.int x_typed) (.ref q_row) (.int x_rowMany) (.int x_thrown) w_read (.int x_length) (.int x_top) (.int x_at) (.int x_wrong) w_told (.ref q_rule) (.ref q_otherRule) (.int x_ruleSize) (.int x_isAsked) (.ref q_asked) w_undos (.int x_undoMany) w_aside (.ref q_then) (.ref q_hold) (.int x_dropped) w_acts w_guarded w_train (.int x_trolleyEnd) w_feltOf w_feltBy (.int x_feltMany) w_many w_heardOf w_heardBy (.int x_heardMany) w_worth (.int x_drawn) (.int x_came) w_kept w_isKept w_keptCame), (q_text, aB cT 80 f_text), (q_asked, aI cT 7 f_asked), (q_now, aI cT 47 f_now), (q_then, aI cT 47 f_then), (q_rule, aB cT 40 f_rule), (q_hold, aI cT 6 f_hold), (q_otherRule, aB cT 40 f_otherRule), (q_row, aJ cT 16 f_row)] Post (fun (u : (Int32 × Int32 × Int32 × Value × Int32 × Int32 × Int32 × Int32 × Int32 × Int32 × (Nat → Int32) × (Nat → Int32) × (Nat → Int32) × (Nat → Int32) × (Nat → Int64))) => [(h, oX8 (.ref q_now) (.int x_arches) (.int x_cats) (.ref q_text) (.int u.1) (.ref q_row) (.int u.2.1) (.int u.2.2.1) u.2.2.2.1 (.int u.2.2.2.2.1) (.int u.2.2.2.2.2.1) (.int u.2.2.2.2.2.2.1) (.int u.2.2.2.2.2.2.2.1) w_told (.ref q_rule) (.ref q_otherRule) (.int x_ruleSize) (.int u.2.2.2.2.2.2.2.2.1) (.ref q_asked) w_undos (.int x_undoMany) w_aside (.ref q_then) (.ref q_hold) (.int u.2.2.2.2.2.2.2.2.2.1) w_acts w_guarded w_train (.int x_trolleyEnd) w_feltOf w_feltBy (.int x_feltMany) w_many w_heardOf w_heardBy (.int x_heardMany) w_worth (.int x_drawn) (.int x_came) w_kept w_isKept w_keptCame), (q_text, aB cT 80 f_text), (q_asked, aI cT 7 u.2.2.2.2.2.2.2.2.2.2.1), (q_now, aI cT 47 f_now), (q_then, aI cT 47 u.2.2.2.2.2.2.2.2.2.2.2.1), (q_rule, aB cT 40 f_rule), (q_hold, aI cT 6 u.2.2.2.2.2.2.2.2.2.2.2.2.1), (q_otherRule, aB cT 40 u.2.2.2.2.2.2.2.2.2.2.2.2.2.1), (q_row, aJ cT 16 u.2.2.2.2.2.2.2.2.2.2.2.2.2.2)]) := by
  refine MWi.of (by decide) (Nat.le_of_ble_eq_true rfl) ?_
  intro p e s m below meth c A hA C0 hnm hr hP hD ls hl
  have hl : lv_has ls 7 [(0, .ref h)] := hl
  have hx := C0.x
  have hb := C0.b
  have hS : va_S A s.heap s.heap [] := va_S.rf
  have hP : va_P D cls9 [(h, oX8 (.ref q_now) (.int x_arches) (.int x_cats) (.ref q_text) (.int x_typed) (.ref q_row) (.int x_rowMany) (.int x_thrown) w_read (.int x_length) (.int x_top) (.int x_at) (.int x_wrong) w_told (.ref q_rule) (.ref q_otherRule) (.int x_ruleSize) (.int x_isAsked) (.ref q_asked) w_undos (.int x_undoMany) w_aside (.ref q_then) (.ref q_hold) (.int x_dropped) w_acts w_guarded w_train (.int x_trolleyEnd) w_feltOf w_feltBy (.int x_feltMany) w_many w_heardOf w_heardBy (.int x_heardMany) w_worth (.int x_drawn) (.int x_came) w_kept w_isKept w_keptCame), (q_text, aB cT 80 f_text), (q_asked, aI cT 7 f_asked), (q_now, aI cT 47 f_now), (q_then, aI cT 47 f_then), (q_rule, aB cT 40 f_rule), (q_hold, aI cT 6 f_hold), (q_otherRule, aB cT 40 f_otherRule), (q_row, aJ cT 16 f_row)] s.heap := hP
  have hD : va_D A [(h, oX8 (.ref q_now) (.int x_arches) (.int x_cats) (.ref q_text) (.int x_typed) (.ref q_row) (.int x_rowMany) (.int x_thrown) w_read (.int x_length) (.int x_top) (.int x_at) (.int x_wrong) w_told (.ref q_rule) (.ref q_otherRule) (.int x_ruleSize) (.int x_isAsked) (.ref q_asked) w_undos (.int x_undoMany) w_aside (.ref q_then) (.ref q_hold) (.int x_dropped) w_acts w_guarded w_train (.int x_trolleyEnd) w_feltOf w_feltBy (.int x_feltMany) w_many w_heardOf w_heardBy (.int x_heardMany) w_worth (.int x_drawn) (.int x_came) w_kept w_isKept w_keptCame), (q_text, aB cT 80 f_text), (q_asked, aI cT 7 f_asked), (q_now, aI cT 47 f_now), (q_then, aI cT 47 f_then), (q_rule, aB cT 40 f_rule), (q_hold, aI cT 6 f_hold), (q_otherRule, aB cT 40 f_otherRule), (q_row, aJ cT 16 f_row)] := hD
  have L131 : ∀ (u_11 : (Int32 × Int32 × Int32 × Int32 × Int32 × Int32)) (r_37 : Int32) (u_97 : (Value × Int32 × Int32 × Int32 × Int32 × Int32 × Int32 × (Nat → Int32) × (Nat → Int32) × (Nat → Int32))) (r_105 : Int32) (f_otherRule_68 : Nat → Int32) (n131 : Nat) (y6_131 : Int32) (x_rowMany_131 : Int32) (x_read_131 : Value) (x_length_131 : Int32) (x_top_131 : Int32) (x_at_131 : Int32) (x_wrong_131 : Int32) (x_isAsked_131 : Int32) (f_asked_131 : Nat → Int32) (f_row_131 : Nat → Int64) (H : Heap) (locs : List Loc) (ls : Array Slot), p_X8_law_131 F x_arches x_cats x_typed q_otherRule f_now u_11 r_37 u_97 r_105 f_otherRule_68 Post n131 y6_131 x_rowMany_131 x_read_131 x_length_131 x_top_131 x_at_131 x_wrong_131 x_isAsked_131 f_asked_131 f_row_131 → va_P D cls9 [(h, oX8 (.ref q_now) (.int x_arches) (.int x_cats) (.ref q_text) (.int u_11.1) (.ref q_row) (.int x_rowMany_131) (.int (0 : Int32)) x_read_131 (.int x_length_131) (.int x_top_131) (.int x_at_131) (.int x_wrong_131) w_told (.ref q_otherRule) (.ref q_otherRule) (.int x_typed) (.int x_isAsked_131) (.ref q_asked) w_undos (.int x_undoMany) w_aside (.ref q_then) (.ref q_hold) (.int u_97.2.2.2.2.2.2.1) w_acts w_guarded w_train (.int x_trolleyEnd) w_feltOf w_feltBy (.int x_feltMany) w_many w_heardOf w_heardBy (.int x_heardMany) w_worth (.int x_drawn) (.int x_came) w_kept w_isKept w_keptCame), (q_text, aB cT 80 f_text), (q_asked, aI cT 7 f_asked_131), (q_now, aI cT 47 f_now), (q_then, aI cT 47 u_97.2.2.2.2.2.2.2.1), (q_rule, aB cT 40 f_rule), (q_hold, aI cT 6 u_97.2.2.2.2.2.2.2.2.2), (q_otherRule, aB cT 40 f_otherRule_68), (q_row, aJ cT 16 f_row_131)] H → va_D A [(h, oX8 (.ref q_now) (.int x_arches) (.int x_cats) (.ref q_text) (.int u_11.1) (.ref q_row) (.int x_rowMany_131) (.int (0 : Int32)) x_read_131 (.int x_length_131) (.int x_top_131) (.int x_at_131) (.int x_wrong_131) w_told (.ref q_otherRule) (.ref q_otherRule) (.int x_typed) (.int x_isAsked_131) (.ref q_asked) w_undos (.int x_undoMany) w_aside (.ref q_then) (.ref q_hold) (.int u_97.2.2.2.2.2.2.1) w_acts w_guarded w_train (.int x_trolleyEnd) w_feltOf w_feltBy (.int x_feltMany) w_many w_heardOf w_heardBy (.int x_heardMany) w_worth (.int x_drawn) (.int x_came) w_kept w_isKept w_keptCame), (q_text, aB cT 80 f_text), (q_asked, aI cT 7 f_asked_131), (q_now, aI cT 47 f_now), (q_then, aI cT 47 u_97.2.2.2.2.2.2.2.1), (q_rule, aB cT 40 f_rule), (q_hold, aI cT 6 u_97.2.2.2.2.2.2.2.2.2), (q_otherRule, aB cT 40 f_otherRule_68), (q_row, aJ cT 16 f_row_131)] → va_S A s.heap H locs → lv_has ls 7 [(0, .ref h), (2, .int r_37), (3, .ref q_rule), (4, .int x_ruleSize), (5, .int r_105), (6, .int y6_131)] → W p l e (rmO 328 10240 0 0) s m ([.ref h] : List Value).toArray below meth c H locs 0 0 (MQ below (va_Qi Post (cB D A (fun (u : (Int32 × Int32 × Int32 × Value × Int32 × Int32 × Int32 × Int32 × Int32 × Int32 × (Nat → Int32) × (Nat → Int32) × (Nat → Int32) × (Nat → Int32) × (Nat → Int64))) => [(h, oX8 (.ref q_now) (.int x_arches) (.int x_cats) (.ref q_text) (.int u.1) (.ref q_row) (.int u.2.1) (.int u.2.2.1) u.2.2.2.1 (.int u.2.2.2.2.1) (.int u.2.2.2.2.2.1) (.int u.2.2.2.2.2.2.1) (.int u.2.2.2.2.2.2.2.1) w_told (.ref q_rule) (.ref q_otherRule) (.int x_ruleSize) (.int u.2.2.2.2.2.2.2.2.1) (.ref q_asked) w_undos (.int x_undoMany) w_aside (.ref q_then) (.ref q_hold) (.int u.2.2.2.2.2.2.2.2.2.1) w_acts w_guarded w_train (.int x_trolleyEnd) w_feltOf w_feltBy (.int x_feltMany) w_many w_heardOf w_heardBy (.int x_heardMany) w_worth (.int x_drawn) (.int x_came) w_kept w_isKept w_keptCame), (q_text, aB cT 80 f_text), (q_asked, aI cT 7 u.2.2.2.2.2.2.2.2.2.2.1), (q_now, aI cT 47 f_now), (q_then, aI cT 47 u.2.2.2.2.2.2.2.2.2.2.2.1), (q_rule, aB cT 40 f_rule), (q_hold, aI cT 6 u.2.2.2.2.2.2.2.2.2.2.2.2.1), (q_otherRule, aB cT 40 u.2.2.2.2.2.2.2.2.2.2.2.2.2.1), (q_row, aJ cT 16 u.2.2.2.2.2.2.2.2.2.2.2.2.2.2)])) A) ([.ref h] : List Value).toArray s 0 0 A) (F0 m 131 ls []) := by
    intro u_11 r_37 u_97 r_105 f_otherRule_68 n131
    induction n131 with
    | zero =>
      intro y6_131 x_rowMany_131 x_read_131 x_length_131 x_top_131 x_at_131 x_wrong_131 x_isAsked_131 f_asked_131 f_row_131 H locs ls hg hP hD hS hl
      exact False.elim hg
    | succ n131 ih131 =>
      intro y6_131 x_rowMany_131 x_read_131 x_length_131 x_top_131 x_at_131 x_wrong_131 x_isAsked_131 f_asked_131 f_row_131 H locs ls hg hP hD hS hl
      rw [p_X8_law_131_s] at hg
      refine lv_iload hx hb dX8_law_131 (lv_at hl 5 rfl) ?_
      refine lv_aload_n hx hb dX8_law_133 rfl (lv_at hl 0 rfl) ?_
      refine gf_X8_89 C0 hP 0 rfl rfl dX8_law_134 ?_
      refine lv_icmp_ge (tgt := 161) hx hb dX8_law_137 (by decide) (fun c_137 => ?_) (fun c_137 => ?_)
      · have hg := hg.1 c_137
        refine lv_aload_n hx hb dX8_law_161 rfl (lv_at hl 0 rfl) ?_
        refine lv_aload_n hx hb dX8_law_162 rfl (lv_at hl 2 rfl) ?_
        refine pf_X8_24 C0 hP hD hS 0 rfl (Nat.le_of_ble_eq_true rfl) (ws2 := [(h, oX8 (.ref q_now) (.int x_arches) (.int x_cats) (.ref q_text) (.int u_11.1) (.ref q_row) (.int x_rowMany_131) (.int (0 : Int32)) x_read_131 (.int x_length_131) (.int x_top_131) (.int x_at_131) (.int x_wrong_131) w_told (.ref q_rule) (.ref q_otherRule) (.int x_typed) (.int x_isAsked_131) (.ref q_asked) w_undos (.int x_undoMany) w_aside (.ref q_then) (.ref q_hold) (.int u_97.2.2.2.2.2.2.1) w_acts w_guarded w_train (.int x_trolleyEnd) w_feltOf w_feltBy (.int x_feltMany) w_many w_heardOf w_heardBy (.int x_heardMany) w_worth (.int x_drawn) (.int x_came) w_kept w_isKept w_keptCame), (q_text, aB cT 80 f_text), (q_asked, aI cT 7 f_asked_131), (q_now, aI cT 47 f_now), (q_then, aI cT 47 u_97.2.2.2.2.2.2.2.1), (q_rule, aB cT 40 f_rule), (q_hold, aI cT 6 u_97.2.2.2.2.2.2.2.2.2), (q_otherRule, aB cT 40 f_otherRule_68), (q_row, aJ cT 16 f_row_131)]) rfl dX8_law_163 (fun H locs hP hD hS => ?_)
        refine lv_aload_n hx hb dX8_law_166 rfl (lv_at hl 0 rfl) ?_
        refine lv_iload hx hb dX8_law_167 (lv_at hl 3 rfl) ?_
        refine pf_X8_186 C0 hP hD hS 0 rfl (Nat.le_of_ble_eq_true rfl) (ws2 := [(h, oX8 (.ref q_now) (.int x_arches) (.int x_cats) (.ref q_text) (.int u_11.1) (.ref q_row) (.int x_rowMany_131) (.int (0 : Int32)) x_read_131 (.int x_length_131) (.int x_top_131) (.int x_at_131) (.int x_wrong_131) w_told (.ref q_rule) (.ref q_otherRule) (.int x_ruleSize) (.int x_isAsked_131) (.ref q_asked) w_undos (.int x_undoMany) w_aside (.ref q_then) (.ref q_hold) (.int u_97.2.2.2.2.2.2.1) w_acts w_guarded w_train (.int x_trolleyEnd) w_feltOf w_feltBy (.int x_feltMany) w_many w_heardOf w_heardBy (.int x_heardMany) w_worth (.int x_drawn) (.int x_came) w_kept w_isKept w_keptCame), (q_text, aB cT 80 f_text), (q_asked, aI cT 7 f_asked_131), (q_now, aI cT 47 f_now), (q_then, aI cT 47 u_97.2.2.2.2.2.2.2.1), (q_rule, aB cT 40 f_rule), (q_hold, aI cT 6 u_97.2.2.2.2.2.2.2.2.2), (q_otherRule, aB cT 40 f_otherRule_68), (q_row, aJ cT 16 f_row_131)]) rfl dX8_law_169 (fun H locs hP hD hS => ?_)
        refine lv_iload hx hb dX8_law_172 (lv_at hl 4 rfl) ?_
        refine lv_iload_n hx hb dX8_law_174 rfl (lv_at hl 1 rfl) ?_
        refine lv_isub hx hb dX8_law_175 ?_
        exact k_iret C0 hr (u_11.1, x_rowMany_131, (0 : Int32), x_read_131, x_length_131, x_top_131, x_at_131, x_wrong_131, x_isAsked_131, u_97.2.2.2.2.2.2.1, f_asked_131, u_97.2.2.2.2.2.2.2.1, u_97.2.2.2.2.2.2.2.2.2, f_otherRule_68, f_row_131) hg hP hD hS dX8_law_176
      have hg := hg.2 c_137
      refine lv_aload_n hx hb dX8_law_140 rfl (lv_at hl 0 rfl) ?_
      refine lv_aload_n hx hb dX8_law_141 rfl (lv_at hl 0 rfl) ?_
      refine lv_aload_n hx hb dX8_law_142 rfl (lv_at hl 0 rfl) ?_
      refine gf_X8_9 C0 hP 0 rfl rfl dX8_law_143 ?_
      refine lv_iload hx hb dX8_law_146 (lv_at hl 5 rfl) ?_
      refine k_Vi (rest := [.ref h]) (wr := [(q_text, aB cT 80 f_text), (q_then, aI cT 47 u_97.2.2.2.2.2.2.2.1), (q_rule, aB cT 40 f_rule), (q_hold, aI cT 6 u_97.2.2.2.2.2.2.2.2.2), (q_row, aJ cT 16 f_row_131)]) (w2 := fun u_148 => [(q_text, aB cT 80 f_text), (q_then, aI cT 47 u_97.2.2.2.2.2.2.2.1), (q_rule, aB cT 40 f_rule), (q_hold, aI cT 6 u_97.2.2.2.2.2.2.2.2.2), (q_row, aJ cT 16 f_row_131), (h, oX8 (.ref q_now) (.int x_arches) (.int x_cats) (.ref q_text) (.int u_11.1) (.ref q_row) (.int x_rowMany_131) (.int (0 : Int32)) u_148.1 (.int u_148.2.1) (.int u_148.2.2.1) (.int u_148.2.2.2.1) (.int u_148.2.2.2.2.1) w_told (.ref q_otherRule) (.ref q_otherRule) (.int x_typed) (.int u_148.2.2.2.2.2.1) (.ref q_asked) w_undos (.int x_undoMany) w_aside (.ref q_then) (.ref q_hold) (.int u_97.2.2.2.2.2.2.1) w_acts w_guarded w_train (.int x_trolleyEnd) w_feltOf w_feltBy (.int x_feltMany) w_many w_heardOf w_heardBy (.int x_heardMany) w_worth (.int x_drawn) (.int x_came) w_kept w_isKept w_keptCame), (q_now, aI cT 47 f_now), (q_asked, aI cT 7 u_148.2.2.2.2.2.2), (q_otherRule, aB cT 40 f_otherRule_68)]) C0 lk_X8_221 (c_X8_holdOf l D cT F h q_now y6_131 (.ref q_now) x_arches x_cats (.ref q_text) u_11.1 (.ref q_row) x_rowMany_131 (0 : Int32) x_read_131 x_length_131 x_top_131 x_at_131 x_wrong_131 w_told q_otherRule (.ref q_otherRule) x_typed x_isAsked_131 q_asked w_undos x_undoMany w_aside (.ref q_then) (.ref q_hold) u_97.2.2.2.2.2.2.1 w_acts w_guarded w_train x_trolleyEnd w_feltOf w_feltBy x_feltMany w_many w_heardOf w_heardBy x_heardMany w_worth x_drawn x_came w_kept w_isKept w_keptCame 47 f_now f_asked_131 f_otherRule_68 _ hg) hP hD hS hA [0, 3, 2, 7] [1, 4, 5, 6, 8] (by decide +kernel) rfl rfl (fun _ => rfl) rfl rfl ⟨Nat.le_of_ble_eq_true rfl, Nat.le_of_ble_eq_true rfl⟩ rfl hl.1 rfl (Nat.le_of_ble_eq_true rfl) dX8_law_148 ⟨Nat.le_of_ble_eq_true rfl, Nat.le_of_ble_eq_true rfl⟩ ?_
      intro r_148 u_148 H locs hg hP hD hS
      refine lv_i2l (v := (r_148.toInt64)) hx hb dX8_law_151 rfl ?_
      refine k_Vv (rest := []) (wr := [(q_text, aB cT 80 f_text), (q_then, aI cT 47 u_97.2.2.2.2.2.2.2.1), (q_rule, aB cT 40 f_rule), (q_hold, aI cT 6 u_97.2.2.2.2.2.2.2.2.2), (q_now, aI cT 47 f_now), (q_asked, aI cT 7 u_148.2.2.2.2.2.2), (q_otherRule, aB cT 40 f_otherRule_68)]) (w2 := fun u_152 => [(q_text, aB cT 80 f_text), (q_then, aI cT 47 u_97.2.2.2.2.2.2.2.1), (q_rule, aB cT 40 f_rule), (q_hold, aI cT 6 u_97.2.2.2.2.2.2.2.2.2), (q_now, aI cT 47 f_now), (q_asked, aI cT 7 u_148.2.2.2.2.2.2), (q_otherRule, aB cT 40 f_otherRule_68), (h, oX8 (.ref q_now) (.int x_arches) (.int x_cats) (.ref q_text) (.int u_11.1) (.ref q_row) (.int u_152.1) (.int (0 : Int32)) u_148.1 (.int u_148.2.1) (.int u_148.2.2.1) (.int u_148.2.2.2.1) (.int u_148.2.2.2.2.1) w_told (.ref q_otherRule) (.ref q_otherRule) (.int x_typed) (.int u_148.2.2.2.2.2.1) (.ref q_asked) w_undos (.int x_undoMany) w_aside (.ref q_then) (.ref q_hold) (.int u_97.2.2.2.2.2.2.1) w_acts w_guarded w_train (.int x_trolleyEnd) w_feltOf w_feltBy (.int x_feltMany) w_many w_heardOf w_heardBy (.int x_heardMany) w_worth (.int x_drawn) (.int x_came) w_kept w_isKept w_keptCame), (q_row, aJ cT 16 u_152.2)]) C0 lk_X8_249 (c_X8_tell l D cT F h (r_148.toInt64) (.ref q_now) x_arches x_cats (.ref q_text) u_11.1 q_row x_rowMany_131 (0 : Int32) u_148.1 u_148.2.1 u_148.2.2.1 u_148.2.2.2.1 u_148.2.2.2.2.1 w_told (.ref q_otherRule) (.ref q_otherRule) x_typed u_148.2.2.2.2.2.1 (.ref q_asked) w_undos x_undoMany w_aside (.ref q_then) (.ref q_hold) u_97.2.2.2.2.2.2.1 w_acts w_guarded w_train x_trolleyEnd w_feltOf w_feltBy x_feltMany w_many w_heardOf w_heardBy x_heardMany w_worth x_drawn x_came w_kept w_isKept w_keptCame f_row_131 _ hg) hP hD hS hA [5, 4] [0, 1, 2, 3, 6, 7, 8] (by decide +kernel) rfl rfl (fun _ => rfl) rfl rfl ⟨Nat.le_of_ble_eq_true rfl, Nat.le_of_ble_eq_true rfl⟩ rfl hl.1 rfl (Nat.le_of_ble_eq_true rfl) dX8_law_152 ⟨Nat.le_of_ble_eq_true rfl, Nat.le_of_ble_eq_true rfl⟩ ?_
      intro u_152 H locs hg hP hD hS
      refine lv_iinc (v := (y6_131 + (1 : Int32))) (lv' := [(6, .int (y6_131 + (1 : Int32))), (0, .ref h), (2, .int r_37), (3, .ref q_rule), (4, .int x_ruleSize), (5, .int r_105)]) hx hb dX8_law_155 hl (k := 5) rfl rfl (by decide) rfl (fun ls hl => ?_)
      refine lv_goto (tgt := 131) hx hb dX8_law_158 (by decide) ?_
      exact ih131 (y6_131 + (1 : Int32)) u_152.1 u_148.1 u_148.2.1 u_148.2.2.1 u_148.2.2.2.1 u_148.2.2.2.2.1 u_148.2.2.2.2.2.1 u_148.2.2.2.2.2.2 u_152.2 _ _ _ hg (subP hP [7, 0, 5, 4, 1, 2, 3, 6, 8] rfl) (hD.sub [7, 0, 5, 4, 1, 2, 3, 6, 8] (nd2_ok _ (by decide +kernel)) rfl) hS (lv_sub hl [1, 2, 3, 4, 5, 0] rfl)
  have L68 : ∀ (u_11 : (Int32 × Int32 × Int32 × Int32 × Int32 × Int32)) (u_29 : (Value × Int32 × Int32 × Int32 × Int32 × Int32 × Int32 × (Nat → Int32) × (Nat → Int32) × (Nat → Int32))) (r_37 : Int32) (n68 : Nat) (y5_68 : Int32) (f_otherRule_68 : Nat → Int32) (H : Heap) (locs : List Loc) (ls : Array Slot), p_X8_law_68 F x_arches x_cats x_typed q_otherRule f_text f_now f_row u_11 u_29 r_37 Post n68 y5_68 f_otherRule_68 → va_P D cls9 [(h, oX8 (.ref q_now) (.int x_arches) (.int x_cats) (.ref q_text) (.int u_11.1) (.ref q_row) (.int x_rowMany) (.int (0 : Int32)) u_29.1 (.int u_29.2.1) (.int u_29.2.2.1) (.int u_29.2.2.2.1) (.int u_29.2.2.2.2.1) w_told (.ref q_otherRule) (.ref q_otherRule) (.int x_typed) (.int u_29.2.2.2.2.2.1) (.ref q_asked) w_undos (.int x_undoMany) w_aside (.ref q_then) (.ref q_hold) (.int u_29.2.2.2.2.2.2.1) w_acts w_guarded w_train (.int x_trolleyEnd) w_feltOf w_feltBy (.int x_feltMany) w_many w_heardOf w_heardBy (.int x_heardMany) w_worth (.int x_drawn) (.int x_came) w_kept w_isKept w_keptCame), (q_text, aB cT 80 f_text), (q_asked, aI cT 7 u_29.2.2.2.2.2.2.2.2.1), (q_now, aI cT 47 f_now), (q_then, aI cT 47 u_29.2.2.2.2.2.2.2.1), (q_rule, aB cT 40 f_rule), (q_hold, aI cT 6 u_29.2.2.2.2.2.2.2.2.2), (q_otherRule, aB cT 40 f_otherRule_68), (q_row, aJ cT 16 f_row)] H → va_D A [(h, oX8 (.ref q_now) (.int x_arches) (.int x_cats) (.ref q_text) (.int u_11.1) (.ref q_row) (.int x_rowMany) (.int (0 : Int32)) u_29.1 (.int u_29.2.1) (.int u_29.2.2.1) (.int u_29.2.2.2.1) (.int u_29.2.2.2.2.1) w_told (.ref q_otherRule) (.ref q_otherRule) (.int x_typed) (.int u_29.2.2.2.2.2.1) (.ref q_asked) w_undos (.int x_undoMany) w_aside (.ref q_then) (.ref q_hold) (.int u_29.2.2.2.2.2.2.1) w_acts w_guarded w_train (.int x_trolleyEnd) w_feltOf w_feltBy (.int x_feltMany) w_many w_heardOf w_heardBy (.int x_heardMany) w_worth (.int x_drawn) (.int x_came) w_kept w_isKept w_keptCame), (q_text, aB cT 80 f_text), (q_asked, aI cT 7 u_29.2.2.2.2.2.2.2.2.1), (q_now, aI cT 47 f_now), (q_then, aI cT 47 u_29.2.2.2.2.2.2.2.1), (q_rule, aB cT 40 f_rule), (q_hold, aI cT 6 u_29.2.2.2.2.2.2.2.2.2), (q_otherRule, aB cT 40 f_otherRule_68), (q_row, aJ cT 16 f_row)] → va_S A s.heap H locs → lv_has ls 7 [(0, .ref h), (1, .int x_typed), (2, .int r_37), (3, .ref q_rule), (4, .int x_ruleSize), (5, .int y5_68)] → W p l e (rmO 328 10240 0 0) s m ([.ref h] : List Value).toArray below meth c H locs 0 0 (MQ below (va_Qi Post (cB D A (fun (u : (Int32 × Int32 × Int32 × Value × Int32 × Int32 × Int32 × Int32 × Int32 × Int32 × (Nat → Int32) × (Nat → Int32) × (Nat → Int32) × (Nat → Int32) × (Nat → Int64))) => [(h, oX8 (.ref q_now) (.int x_arches) (.int x_cats) (.ref q_text) (.int u.1) (.ref q_row) (.int u.2.1) (.int u.2.2.1) u.2.2.2.1 (.int u.2.2.2.2.1) (.int u.2.2.2.2.2.1) (.int u.2.2.2.2.2.2.1) (.int u.2.2.2.2.2.2.2.1) w_told (.ref q_rule) (.ref q_otherRule) (.int x_ruleSize) (.int u.2.2.2.2.2.2.2.2.1) (.ref q_asked) w_undos (.int x_undoMany) w_aside (.ref q_then) (.ref q_hold) (.int u.2.2.2.2.2.2.2.2.2.1) w_acts w_guarded w_train (.int x_trolleyEnd) w_feltOf w_feltBy (.int x_feltMany) w_many w_heardOf w_heardBy (.int x_heardMany) w_worth (.int x_drawn) (.int x_came) w_kept w_isKept w_keptCame), (q_text, aB cT 80 f_text), (q_asked, aI cT 7 u.2.2.2.2.2.2.2.2.2.2.1), (q_now, aI cT 47 f_now), (q_then, aI cT 47 u.2.2.2.2.2.2.2.2.2.2.2.1), (q_rule, aB cT 40 f_rule), (q_hold, aI cT 6 u.2.2.2.2.2.2.2.2.2.2.2.2.1), (q_otherRule, aB cT 40 u.2.2.2.2.2.2.2.2.2.2.2.2.2.1), (q_row, aJ cT 16 u.2.2.2.2.2.2.2.2.2.2.2.2.2.2)])) A) ([.ref h] : List Value).toArray s 0 0 A) (F0 m 68 ls []) := by
    intro u_11 u_29 r_37 n68
    induction n68 with
    | zero =>
      intro y5_68 f_otherRule_68 H locs ls hg hP hD hS hl
      exact False.elim hg
    | succ n68 ih68 =>
      intro y5_68 f_otherRule_68 H locs ls hg hP hD hS hl
      rw [p_X8_law_68_s] at hg
      refine lv_iload hx hb dX8_law_68 (lv_at hl 5 rfl) ?_
      refine lv_iload_n hx hb dX8_law_70 rfl (lv_at hl 1 rfl) ?_
      refine lv_icmp_ge (tgt := 94) hx hb dX8_law_71 (by decide) (fun c_71 => ?_) (fun c_71 => ?_)
      · have hg := hg.1 c_71
        refine lv_aload_n hx hb dX8_law_94 rfl (lv_at hl 0 rfl) ?_
        refine lv_bipush (v := (10 : Int32)) hx hb dX8_law_95 (by decide) ?_
        refine k_Vv (rest := []) (wr := [(q_text, aB cT 80 f_text), (q_rule, aB cT 40 f_rule), (q_row, aJ cT 16 f_row)]) (w2 := fun u_97 => [(q_text, aB cT 80 f_text), (q_rule, aB cT 40 f_rule), (q_row, aJ cT 16 f_row), (h, oX8 (.ref q_now) (.int x_arches) (.int x_cats) (.ref q_text) (.int u_11.1) (.ref q_row) (.int x_rowMany) (.int (0 : Int32)) u_97.1 (.int u_97.2.1) (.int u_97.2.2.1) (.int u_97.2.2.2.1) (.int u_97.2.2.2.2.1) w_told (.ref q_otherRule) (.ref q_otherRule) (.int x_typed) (.int u_97.2.2.2.2.2.1) (.ref q_asked) w_undos (.int x_undoMany) w_aside (.ref q_then) (.ref q_hold) (.int u_97.2.2.2.2.2.2.1) w_acts w_guarded w_train (.int x_trolleyEnd) w_feltOf w_feltBy (.int x_feltMany) w_many w_heardOf w_heardBy (.int x_heardMany) w_worth (.int x_drawn) (.int x_came) w_kept w_isKept w_keptCame), (q_now, aI cT 47 f_now), (q_then, aI cT 47 u_97.2.2.2.2.2.2.2.1), (q_asked, aI cT 7 u_97.2.2.2.2.2.2.2.2.1), (q_otherRule, aB cT 40 f_otherRule_68), (q_hold, aI cT 6 u_97.2.2.2.2.2.2.2.2.2)]) C0 lk_X8_295 (c_X8_goThen l D cT F h (10 : Int32) q_now x_arches x_cats (.ref q_text) u_11.1 (.ref q_row) x_rowMany (0 : Int32) u_29.1 u_29.2.1 u_29.2.2.1 u_29.2.2.2.1 u_29.2.2.2.2.1 w_told q_otherRule (.ref q_otherRule) x_typed u_29.2.2.2.2.2.1 q_asked w_undos x_undoMany w_aside q_then q_hold u_29.2.2.2.2.2.2.1 w_acts w_guarded w_train x_trolleyEnd w_feltOf w_feltBy x_feltMany w_many w_heardOf w_heardBy x_heardMany w_worth x_drawn x_came w_kept w_isKept w_keptCame f_now u_29.2.2.2.2.2.2.2.1 u_29.2.2.2.2.2.2.2.2.1 f_otherRule_68 u_29.2.2.2.2.2.2.2.2.2 _ hg) hP hD hS hA [0, 3, 4, 2, 7, 6] [1, 5, 8] (by decide +kernel) rfl rfl (fun _ => rfl) rfl rfl ⟨Nat.le_of_ble_eq_true rfl, Nat.le_of_ble_eq_true rfl⟩ rfl hl.1 rfl (Nat.le_of_ble_eq_true rfl) dX8_law_97 ⟨Nat.le_of_ble_eq_true rfl, Nat.le_of_ble_eq_true rfl⟩ ?_
        intro u_97 H locs hg hP hD hS
        refine lv_aload_n hx hb dX8_law_100 rfl (lv_at hl 0 rfl) ?_
        refine lv_aload_n hx hb dX8_law_101 rfl (lv_at hl 0 rfl) ?_
        refine gf_X8_39 C0 hP 3 rfl rfl dX8_law_102 ?_
        refine k_Vxi (rest := []) C0 lk_X8_253 (c_X8_sags l D cT F h q_then (.ref q_now) x_arches x_cats (.ref q_text) u_11.1 (.ref q_row) x_rowMany (0 : Int32) u_97.1 u_97.2.1 u_97.2.2.1 u_97.2.2.2.1 u_97.2.2.2.2.1 w_told (.ref q_otherRule) (.ref q_otherRule) x_typed u_97.2.2.2.2.2.1 (.ref q_asked) w_undos x_undoMany w_aside (.ref q_then) (.ref q_hold) u_97.2.2.2.2.2.2.1 w_acts w_guarded w_train x_trolleyEnd w_feltOf w_feltBy x_feltMany w_many w_heardOf w_heardBy x_heardMany w_worth x_drawn x_came w_kept w_isKept w_keptCame 47 u_97.2.2.2.2.2.2.2.1 _ hg) hP hD hS hA [3, 5] (by decide +kernel) rfl rfl rfl ⟨Nat.le_of_ble_eq_true rfl, Nat.le_of_ble_eq_true rfl⟩ rfl hl.1 rfl (Nat.le_of_ble_eq_true rfl) dX8_law_105 ⟨Nat.le_of_ble_eq_true rfl, Nat.le_of_ble_eq_true rfl⟩ (fun r_105 hg => ?_)
        refine lv_istore (lv' := [(5, .int r_105), (0, .ref h), (1, .int x_typed), (2, .int r_37), (3, .ref q_rule), (4, .int x_ruleSize)]) hx hb dX8_law_108 hl (by decide) rfl (fun ls hl => ?_)
        refine lv_aload_n hx hb dX8_law_110 rfl (lv_at hl 1 rfl) ?_
        refine lv_iconst (v := (0 : Int32)) hx hb dX8_law_111 (by decide) ?_
        refine pf_X8_86 C0 hP hD hS 3 rfl (Nat.le_of_ble_eq_true rfl) (ws2 := [(q_text, aB cT 80 f_text), (q_rule, aB cT 40 f_rule), (q_row, aJ cT 16 f_row), (h, oX8 (.ref q_now) (.int x_arches) (.int x_cats) (.ref q_text) (.int u_11.1) (.ref q_row) (.int (0 : Int32)) (.int (0 : Int32)) u_97.1 (.int u_97.2.1) (.int u_97.2.2.1) (.int u_97.2.2.2.1) (.int u_97.2.2.2.2.1) w_told (.ref q_otherRule) (.ref q_otherRule) (.int x_typed) (.int u_97.2.2.2.2.2.1) (.ref q_asked) w_undos (.int x_undoMany) w_aside (.ref q_then) (.ref q_hold) (.int u_97.2.2.2.2.2.2.1) w_acts w_guarded w_train (.int x_trolleyEnd) w_feltOf w_feltBy (.int x_feltMany) w_many w_heardOf w_heardBy (.int x_heardMany) w_worth (.int x_drawn) (.int x_came) w_kept w_isKept w_keptCame), (q_now, aI cT 47 f_now), (q_then, aI cT 47 u_97.2.2.2.2.2.2.2.1), (q_asked, aI cT 7 u_97.2.2.2.2.2.2.2.2.1), (q_otherRule, aB cT 40 f_otherRule_68), (q_hold, aI cT 6 u_97.2.2.2.2.2.2.2.2.2)]) rfl dX8_law_112 (fun H locs hP hD hS => ?_)
        refine lv_aload_n hx hb dX8_law_115 rfl (lv_at hl 1 rfl) ?_
        refine lv_iload hx hb dX8_law_116 (lv_at hl 0 rfl) ?_
        refine lv_i2l (v := (r_105.toInt64)) hx hb dX8_law_118 rfl ?_
        refine k_Vv (rest := []) (wr := [(q_text, aB cT 80 f_text), (q_rule, aB cT 40 f_rule), (q_now, aI cT 47 f_now), (q_then, aI cT 47 u_97.2.2.2.2.2.2.2.1), (q_asked, aI cT 7 u_97.2.2.2.2.2.2.2.2.1), (q_otherRule, aB cT 40 f_otherRule_68), (q_hold, aI cT 6 u_97.2.2.2.2.2.2.2.2.2)]) (w2 := fun u_119 => [(q_text, aB cT 80 f_text), (q_rule, aB cT 40 f_rule), (q_now, aI cT 47 f_now), (q_then, aI cT 47 u_97.2.2.2.2.2.2.2.1), (q_asked, aI cT 7 u_97.2.2.2.2.2.2.2.2.1), (q_otherRule, aB cT 40 f_otherRule_68), (q_hold, aI cT 6 u_97.2.2.2.2.2.2.2.2.2), (h, oX8 (.ref q_now) (.int x_arches) (.int x_cats) (.ref q_text) (.int u_11.1) (.ref q_row) (.int u_119.1) (.int (0 : Int32)) u_97.1 (.int u_97.2.1) (.int u_97.2.2.1) (.int u_97.2.2.2.1) (.int u_97.2.2.2.2.1) w_told (.ref q_otherRule) (.ref q_otherRule) (.int x_typed) (.int u_97.2.2.2.2.2.1) (.ref q_asked) w_undos (.int x_undoMany) w_aside (.ref q_then) (.ref q_hold) (.int u_97.2.2.2.2.2.2.1) w_acts w_guarded w_train (.int x_trolleyEnd) w_feltOf w_feltBy (.int x_feltMany) w_many w_heardOf w_heardBy (.int x_heardMany) w_worth (.int x_drawn) (.int x_came) w_kept w_isKept w_keptCame), (q_row, aJ cT 16 u_119.2)]) C0 lk_X8_249 (c_X8_tell l D cT F h (r_105.toInt64) (.ref q_now) x_arches x_cats (.ref q_text) u_11.1 q_row (0 : Int32) (0 : Int32) u_97.1 u_97.2.1 u_97.2.2.1 u_97.2.2.2.1 u_97.2.2.2.2.1 w_told (.ref q_otherRule) (.ref q_otherRule) x_typed u_97.2.2.2.2.2.1 (.ref q_asked) w_undos x_undoMany w_aside (.ref q_then) (.ref q_hold) u_97.2.2.2.2.2.2.1 w_acts w_guarded w_train x_trolleyEnd w_feltOf w_feltBy x_feltMany w_many w_heardOf w_heardBy x_heardMany w_worth x_drawn x_came w_kept w_isKept w_keptCame f_row _ hg) hP hD hS hA [3, 2] [0, 1, 4, 5, 6, 7, 8] (by decide +kernel) rfl rfl (fun _ => rfl) rfl rfl ⟨Nat.le_of_ble_eq_true rfl, Nat.le_of_ble_eq_true rfl⟩ rfl hl.1 rfl (Nat.le_of_ble_eq_true rfl) dX8_law_119 ⟨Nat.le_of_ble_eq_true rfl, Nat.le_of_ble_eq_true rfl⟩ ?_
        intro u_119 H locs hg hP hD hS
        refine lv_aload_n hx hb dX8_law_122 rfl (lv_at hl 1 rfl) ?_
        refine lv_iload_n hx hb dX8_law_123 rfl (lv_at hl 3 rfl) ?_
        refine lv_i2l (v := (r_37.toInt64)) hx hb dX8_law_124 rfl ?_
        refine k_Vv (rest := []) (wr := [(q_text, aB cT 80 f_text), (q_rule, aB cT 40 f_rule), (q_now, aI cT 47 f_now), (q_then, aI cT 47 u_97.2.2.2.2.2.2.2.1), (q_asked, aI cT 7 u_97.2.2.2.2.2.2.2.2.1), (q_otherRule, aB cT 40 f_otherRule_68), (q_hold, aI cT 6 u_97.2.2.2.2.2.2.2.2.2)]) (w2 := fun u_125 => [(q_text, aB cT 80 f_text), (q_rule, aB cT 40 f_rule), (q_now, aI cT 47 f_now), (q_then, aI cT 47 u_97.2.2.2.2.2.2.2.1), (q_asked, aI cT 7 u_97.2.2.2.2.2.2.2.2.1), (q_otherRule, aB cT 40 f_otherRule_68), (q_hold, aI cT 6 u_97.2.2.2.2.2.2.2.2.2), (h, oX8 (.ref q_now) (.int x_arches) (.int x_cats) (.ref q_text) (.int u_11.1) (.ref q_row) (.int u_125.1) (.int (0 : Int32)) u_97.1 (.int u_97.2.1) (.int u_97.2.2.1) (.int u_97.2.2.2.1) (.int u_97.2.2.2.2.1) w_told (.ref q_otherRule) (.ref q_otherRule) (.int x_typed) (.int u_97.2.2.2.2.2.1) (.ref q_asked) w_undos (.int x_undoMany) w_aside (.ref q_then) (.ref q_hold) (.int u_97.2.2.2.2.2.2.1) w_acts w_guarded w_train (.int x_trolleyEnd) w_feltOf w_feltBy (.int x_feltMany) w_many w_heardOf w_heardBy (.int x_heardMany) w_worth (.int x_drawn) (.int x_came) w_kept w_isKept w_keptCame), (q_row, aJ cT 16 u_125.2)]) C0 lk_X8_249 (c_X8_tell l D cT F h (r_37.toInt64) (.ref q_now) x_arches x_cats (.ref q_text) u_11.1 q_row u_119.1 (0 : Int32) u_97.1 u_97.2.1 u_97.2.2.1 u_97.2.2.2.1 u_97.2.2.2.2.1 w_told (.ref q_otherRule) (.ref q_otherRule) x_typed u_97.2.2.2.2.2.1 (.ref q_asked) w_undos x_undoMany w_aside (.ref q_then) (.ref q_hold) u_97.2.2.2.2.2.2.1 w_acts w_guarded w_train x_trolleyEnd w_feltOf w_feltBy x_feltMany w_many w_heardOf w_heardBy x_heardMany w_worth x_drawn x_came w_kept w_isKept w_keptCame u_119.2 _ hg) hP hD hS hA [7, 8] [0, 1, 2, 3, 4, 5, 6] (by decide +kernel) rfl rfl (fun _ => rfl) rfl rfl ⟨Nat.le_of_ble_eq_true rfl, Nat.le_of_ble_eq_true rfl⟩ rfl hl.1 rfl (Nat.le_of_ble_eq_true rfl) dX8_law_125 ⟨Nat.le_of_ble_eq_true rfl, Nat.le_of_ble_eq_true rfl⟩ ?_
        intro u_125 H locs hg hP hD hS
        refine lv_iconst (v := (0 : Int32)) hx hb dX8_law_128 (by decide) ?_
        refine lv_istore (lv' := [(6, .int (0 : Int32)), (5, .int r_105), (0, .ref h), (1, .int x_typed), (2, .int r_37), (3, .ref q_rule), (4, .int x_ruleSize)]) hx hb dX8_law_129 hl (by decide) rfl (fun ls hl => ?_)
        exact L131 u_11 r_37 u_97 r_105 f_otherRule_68 F (0 : Int32) u_125.1 u_97.1 u_97.2.1 u_97.2.2.1 u_97.2.2.2.1 u_97.2.2.2.2.1 u_97.2.2.2.2.2.1 u_97.2.2.2.2.2.2.2.2.1 u_125.2 _ _ _ hg (subP hP [7, 0, 4, 2, 3, 1, 6, 5, 8] rfl) (hD.sub [7, 0, 4, 2, 3, 1, 6, 5, 8] (nd2_ok _ (by decide +kernel)) rfl) hS (lv_sub hl [2, 4, 5, 6, 1, 0] rfl)
      have hg := hg.2 c_71
      refine lv_aload_n hx hb dX8_law_74 rfl (lv_at hl 0 rfl) ?_
      refine gf_X8_24 C0 hP 0 rfl rfl dX8_law_75 ?_
      refine lv_iload hx hb dX8_law_78 (lv_at hl 5 rfl) ?_
      refine lv_aload_n hx hb dX8_law_80 rfl (lv_at hl 0 rfl) ?_
      refine gf_X8_13 C0 hP 0 rfl rfl dX8_law_81 ?_
      refine lv_iload hx hb dX8_law_84 (lv_at hl 5 rfl) ?_
      obtain ⟨g_86, hg⟩ := hg
      refine k_bald C0 hP 1 rfl g_86 dX8_law_86 ?_
      obtain ⟨g_87, hg⟩ := hg
      refine k_bast C0 hP hD hS 7 rfl g_87 (ws' := [(h, oX8 (.ref q_now) (.int x_arches) (.int x_cats) (.ref q_text) (.int u_11.1) (.ref q_row) (.int x_rowMany) (.int (0 : Int32)) u_29.1 (.int u_29.2.1) (.int u_29.2.2.1) (.int u_29.2.2.2.1) (.int u_29.2.2.2.2.1) w_told (.ref q_otherRule) (.ref q_otherRule) (.int x_typed) (.int u_29.2.2.2.2.2.1) (.ref q_asked) w_undos (.int x_undoMany) w_aside (.ref q_then) (.ref q_hold) (.int u_29.2.2.2.2.2.2.1) w_acts w_guarded w_train (.int x_trolleyEnd) w_feltOf w_feltBy (.int x_feltMany) w_many w_heardOf w_heardBy (.int x_heardMany) w_worth (.int x_drawn) (.int x_came) w_kept w_isKept w_keptCame), (q_text, aB cT 80 f_text), (q_asked, aI cT 7 u_29.2.2.2.2.2.2.2.2.1), (q_now, aI cT 47 f_now), (q_then, aI cT 47 u_29.2.2.2.2.2.2.2.1), (q_rule, aB cT 40 f_rule), (q_hold, aI cT 6 u_29.2.2.2.2.2.2.2.2.2), (q_otherRule, aB cT 40 (upd f_otherRule_68 y5_68.toNatClampNeg (vp_nar .byte (f_text y5_68.toNatClampNeg)))), (q_row, aJ cT 16 f_row)]) rfl dX8_law_87 (fun H locs hP hD hS => ?_)
      refine lv_iinc (v := (y5_68 + (1 : Int32))) (lv' := [(5, .int (y5_68 + (1 : Int32))), (0, .ref h), (1, .int x_typed), (2, .int r_37), (3, .ref q_rule), (4, .int x_ruleSize)]) hx hb dX8_law_88 hl (k := 5) rfl rfl (by decide) rfl (fun ls hl => ?_)
      refine lv_goto (tgt := 68) hx hb dX8_law_91 (by decide) ?_
      exact ih68 (y5_68 + (1 : Int32)) (upd f_otherRule_68 y5_68.toNatClampNeg (vp_nar .byte (f_text y5_68.toNatClampNeg))) _ _ _ hg hP hD hS (lv_sub hl [1, 2, 3, 4, 5, 0] rfl)
  unfold p_X8_law at hg
  refine lv_aload_n hx hb dX8_law_0 rfl (lv_at hl 0 rfl) ?_
  refine lv_iconst (v := (0 : Int32)) hx hb dX8_law_1 (by decide) ?_
  refine pf_X8_82 C0 hP hD hS 0 rfl (Nat.le_of_ble_eq_true rfl) (ws2 := [(h, oX8 (.ref q_now) (.int x_arches) (.int x_cats) (.ref q_text) (.int x_typed) (.ref q_row) (.int x_rowMany) (.int (0 : Int32)) w_read (.int x_length) (.int x_top) (.int x_at) (.int x_wrong) w_told (.ref q_rule) (.ref q_otherRule) (.int x_ruleSize) (.int x_isAsked) (.ref q_asked) w_undos (.int x_undoMany) w_aside (.ref q_then) (.ref q_hold) (.int x_dropped) w_acts w_guarded w_train (.int x_trolleyEnd) w_feltOf w_feltBy (.int x_feltMany) w_many w_heardOf w_heardBy (.int x_heardMany) w_worth (.int x_drawn) (.int x_came) w_kept w_isKept w_keptCame), (q_text, aB cT 80 f_text), (q_asked, aI cT 7 f_asked), (q_now, aI cT 47 f_now), (q_then, aI cT 47 f_then), (q_rule, aB cT 40 f_rule), (q_hold, aI cT 6 f_hold), (q_otherRule, aB cT 40 f_otherRule), (q_row, aJ cT 16 f_row)]) rfl dX8_law_2 (fun H locs hP hD hS => ?_)
  refine lv_aload_n hx hb dX8_law_5 rfl (lv_at hl 0 rfl) ?_
  refine gf_X8_99 C0 hP 0 rfl rfl dX8_law_6 ?_
  refine lv_istore_n (lv' := [(1, .int x_typed), (0, .ref h)]) hx hb dX8_law_9 rfl hl (by decide) rfl (fun ls hl => ?_)
  refine lv_aload_n hx hb dX8_law_10 rfl (lv_at hl 1 rfl) ?_
  refine k_Vi (rest := []) (wr := [(q_now, aI cT 47 f_now), (q_then, aI cT 47 f_then), (q_rule, aB cT 40 f_rule), (q_hold, aI cT 6 f_hold), (q_otherRule, aB cT 40 f_otherRule), (q_row, aJ cT 16 f_row)]) (w2 := fun u_11 => [(q_now, aI cT 47 f_now), (q_then, aI cT 47 f_then), (q_rule, aB cT 40 f_rule), (q_hold, aI cT 6 f_hold), (q_otherRule, aB cT 40 f_otherRule), (q_row, aJ cT 16 f_row), (h, oX8 (.ref q_now) (.int x_arches) (.int x_cats) (.ref q_text) (.int u_11.1) (.ref q_row) (.int x_rowMany) (.int (0 : Int32)) (.ref q_text) (.int u_11.2.1) (.int u_11.2.2.1) (.int u_11.2.2.2.1) (.int u_11.2.2.2.2.1) w_told (.ref q_rule) (.ref q_otherRule) (.int x_ruleSize) (.int u_11.2.2.2.2.2) (.ref q_asked) w_undos (.int x_undoMany) w_aside (.ref q_then) (.ref q_hold) (.int x_dropped) w_acts w_guarded w_train (.int x_trolleyEnd) w_feltOf w_feltBy (.int x_feltMany) w_many w_heardOf w_heardBy (.int x_heardMany) w_worth (.int x_drawn) (.int x_came) w_kept w_isKept w_keptCame), (q_text, aB cT 80 f_text), (q_asked, aI cT 7 f_asked)]) C0 lk_X8_183 (c_X8_readRule l D cT F h (.ref q_now) x_arches x_cats q_text x_typed (.ref q_row) x_rowMany (0 : Int32) w_read x_length x_top x_at x_wrong w_told (.ref q_rule) (.ref q_otherRule) x_ruleSize x_isAsked q_asked w_undos x_undoMany w_aside (.ref q_then) (.ref q_hold) x_dropped w_acts w_guarded w_train x_trolleyEnd w_feltOf w_feltBy x_feltMany w_many w_heardOf w_heardBy x_heardMany w_worth x_drawn x_came w_kept w_isKept w_keptCame f_text f_asked _ hg) hP hD hS hA [0, 1, 2] [3, 4, 5, 6, 7, 8] (by decide +kernel) rfl rfl (fun _ => rfl) rfl rfl ⟨Nat.le_of_ble_eq_true rfl, Nat.le_of_ble_eq_true rfl⟩ rfl hl.1 rfl (Nat.le_of_ble_eq_true rfl) dX8_law_11 ⟨Nat.le_of_ble_eq_true rfl, Nat.le_of_ble_eq_true rfl⟩ ?_
  intro r_11 u_11 H locs hg hP hD hS
  refine lv_if_ne (tgt := 26) hx hb dX8_law_14 (by decide) (fun c_14 => ?_) (fun c_14 => ?_)
  · have hg := hg.1 c_14
    refine lv_aload_n hx hb dX8_law_26 rfl (lv_at hl 1 rfl) ?_
    refine lv_bipush (v := (10 : Int32)) hx hb dX8_law_27 (by decide) ?_
    refine k_Vv (rest := []) (wr := [(q_otherRule, aB cT 40 f_otherRule), (q_row, aJ cT 16 f_row), (q_text, aB cT 80 f_text)]) (w2 := fun u_29 => [(q_otherRule, aB cT 40 f_otherRule), (q_row, aJ cT 16 f_row), (q_text, aB cT 80 f_text), (h, oX8 (.ref q_now) (.int x_arches) (.int x_cats) (.ref q_text) (.int u_11.1) (.ref q_row) (.int x_rowMany) (.int (0 : Int32)) u_29.1 (.int u_29.2.1) (.int u_29.2.2.1) (.int u_29.2.2.2.1) (.int u_29.2.2.2.2.1) w_told (.ref q_rule) (.ref q_otherRule) (.int x_ruleSize) (.int u_29.2.2.2.2.2.1) (.ref q_asked) w_undos (.int x_undoMany) w_aside (.ref q_then) (.ref q_hold) (.int u_29.2.2.2.2.2.2.1) w_acts w_guarded w_train (.int x_trolleyEnd) w_feltOf w_feltBy (.int x_feltMany) w_many w_heardOf w_heardBy (.int x_heardMany) w_worth (.int x_drawn) (.int x_came) w_kept w_isKept w_keptCame), (q_now, aI cT 47 f_now), (q_then, aI cT 47 u_29.2.2.2.2.2.2.2.1), (q_asked, aI cT 7 u_29.2.2.2.2.2.2.2.2.1), (q_rule, aB cT 40 f_rule), (q_hold, aI cT 6 u_29.2.2.2.2.2.2.2.2.2)]) C0 lk_X8_295 (c_X8_goThen l D cT F h (10 : Int32) q_now x_arches x_cats (.ref q_text) u_11.1 (.ref q_row) x_rowMany (0 : Int32) (.ref q_text) u_11.2.1 u_11.2.2.1 u_11.2.2.2.1 u_11.2.2.2.2.1 w_told q_rule (.ref q_otherRule) x_ruleSize u_11.2.2.2.2.2 q_asked w_undos x_undoMany w_aside q_then q_hold x_dropped w_acts w_guarded w_train x_trolleyEnd w_feltOf w_feltBy x_feltMany w_many w_heardOf w_heardBy x_heardMany w_worth x_drawn x_came w_kept w_isKept w_keptCame f_now f_then f_asked f_rule f_hold _ hg) hP hD hS hA [6, 0, 1, 8, 2, 3] [4, 5, 7] (by decide +kernel) rfl rfl (fun _ => rfl) rfl rfl ⟨Nat.le_of_ble_eq_true rfl, Nat.le_of_ble_eq_true rfl⟩ rfl hl.1 rfl (Nat.le_of_ble_eq_true rfl) dX8_law_29 ⟨Nat.le_of_ble_eq_true rfl, Nat.le_of_ble_eq_true rfl⟩ ?_
    intro u_29 H locs hg hP hD hS
    refine lv_aload_n hx hb dX8_law_32 rfl (lv_at hl 1 rfl) ?_
    refine lv_aload_n hx hb dX8_law_33 rfl (lv_at hl 1 rfl) ?_
    refine gf_X8_39 C0 hP 3 rfl rfl dX8_law_34 ?_
    refine k_Vxi (rest := []) C0 lk_X8_253 (c_X8_sags l D cT F h q_then (.ref q_now) x_arches x_cats (.ref q_text) u_11.1 (.ref q_row) x_rowMany (0 : Int32) u_29.1 u_29.2.1 u_29.2.2.1 u_29.2.2.2.1 u_29.2.2.2.2.1 w_told (.ref q_rule) (.ref q_otherRule) x_ruleSize u_29.2.2.2.2.2.1 (.ref q_asked) w_undos x_undoMany w_aside (.ref q_then) (.ref q_hold) u_29.2.2.2.2.2.2.1 w_acts w_guarded w_train x_trolleyEnd w_feltOf w_feltBy x_feltMany w_many w_heardOf w_heardBy x_heardMany w_worth x_drawn x_came w_kept w_isKept w_keptCame 47 u_29.2.2.2.2.2.2.2.1 _ hg) hP hD hS hA [3, 5] (by decide +kernel) rfl rfl rfl ⟨Nat.le_of_ble_eq_true rfl, Nat.le_of_ble_eq_true rfl⟩ rfl hl.1 rfl (Nat.le_of_ble_eq_true rfl) dX8_law_37 ⟨Nat.le_of_ble_eq_true rfl, Nat.le_of_ble_eq_true rfl⟩ (fun r_37 hg => ?_)
    refine lv_istore_n (lv' := [(2, .int r_37), (1, .int x_typed), (0, .ref h)]) hx hb dX8_law_40 rfl hl (by decide) rfl (fun ls hl => ?_)
    refine lv_aload_n hx hb dX8_law_41 rfl (lv_at hl 2 rfl) ?_
    refine gf_X8_24 C0 hP 3 rfl rfl dX8_law_42 ?_
    refine lv_astore_n (lv' := [(3, .ref q_rule), (2, .int r_37), (1, .int x_typed), (0, .ref h)]) hx hb dX8_law_45 rfl hl (by decide) rfl (fun ls hl => ?_)
    refine lv_aload_n hx hb dX8_law_46 rfl (lv_at hl 3 rfl) ?_
    refine gf_X8_186 C0 hP 3 rfl rfl dX8_law_47 ?_
    refine lv_istore (lv' := [(4, .int x_ruleSize), (3, .ref q_rule), (2, .int r_37), (1, .int x_typed), (0, .ref h)]) hx hb dX8_law_50 hl (by decide) rfl (fun ls hl => ?_)
    refine lv_aload_n hx hb dX8_law_52 rfl (lv_at hl 4 rfl) ?_
    refine lv_aload_n hx hb dX8_law_53 rfl (lv_at hl 4 rfl) ?_
    refine gf_X8_27 C0 hP 3 rfl rfl dX8_law_54 ?_
    refine pf_X8_24 C0 hP hD hS 3 rfl (Nat.le_of_ble_eq_true rfl) (ws2 := [(q_otherRule, aB cT 40 f_otherRule), (q_row, aJ cT 16 f_row), (q_text, aB cT 80 f_text), (h, oX8 (.ref q_now) (.int x_arches) (.int x_cats) (.ref q_text) (.int u_11.1) (.ref q_row) (.int x_rowMany) (.int (0 : Int32)) u_29.1 (.int u_29.2.1) (.int u_29.2.2.1) (.int u_29.2.2.2.1) (.int u_29.2.2.2.2.1) w_told (.ref q_otherRule) (.ref q_otherRule) (.int x_ruleSize) (.int u_29.2.2.2.2.2.1) (.ref q_asked) w_undos (.int x_undoMany) w_aside (.ref q_then) (.ref q_hold) (.int u_29.2.2.2.2.2.2.1) w_acts w_guarded w_train (.int x_trolleyEnd) w_feltOf w_feltBy (.int x_feltMany) w_many w_heardOf w_heardBy (.int x_heardMany) w_worth (.int x_drawn) (.int x_came) w_kept w_isKept w_keptCame), (q_now, aI cT 47 f_now), (q_then, aI cT 47 u_29.2.2.2.2.2.2.2.1), (q_asked, aI cT 7 u_29.2.2.2.2.2.2.2.2.1), (q_rule, aB cT 40 f_rule), (q_hold, aI cT 6 u_29.2.2.2.2.2.2.2.2.2)]) rfl dX8_law_57 (fun H locs hP hD hS => ?_)
    refine lv_aload_n hx hb dX8_law_60 rfl (lv_at hl 4 rfl) ?_
    refine lv_iload_n hx hb dX8_law_61 rfl (lv_at hl 3 rfl) ?_
    refine pf_X8_186 C0 hP hD hS 3 rfl (Nat.le_of_ble_eq_true rfl) (ws2 := [(q_otherRule, aB cT 40 f_otherRule), (q_row, aJ cT 16 f_row), (q_text, aB cT 80 f_text), (h, oX8 (.ref q_now) (.int x_arches) (.int x_cats) (.ref q_text) (.int u_11.1) (.ref q_row) (.int x_rowMany) (.int (0 : Int32)) u_29.1 (.int u_29.2.1) (.int u_29.2.2.1) (.int u_29.2.2.2.1) (.int u_29.2.2.2.2.1) w_told (.ref q_otherRule) (.ref q_otherRule) (.int x_typed) (.int u_29.2.2.2.2.2.1) (.ref q_asked) w_undos (.int x_undoMany) w_aside (.ref q_then) (.ref q_hold) (.int u_29.2.2.2.2.2.2.1) w_acts w_guarded w_train (.int x_trolleyEnd) w_feltOf w_feltBy (.int x_feltMany) w_many w_heardOf w_heardBy (.int x_heardMany) w_worth (.int x_drawn) (.int x_came) w_kept w_isKept w_keptCame), (q_now, aI cT 47 f_now), (q_then, aI cT 47 u_29.2.2.2.2.2.2.2.1), (q_asked, aI cT 7 u_29.2.2.2.2.2.2.2.2.1), (q_rule, aB cT 40 f_rule), (q_hold, aI cT 6 u_29.2.2.2.2.2.2.2.2.2)]) rfl dX8_law_62 (fun H locs hP hD hS => ?_)
    refine lv_iconst (v := (0 : Int32)) hx hb dX8_law_65 (by decide) ?_
    refine lv_istore (lv' := [(5, .int (0 : Int32)), (4, .int x_ruleSize), (3, .ref q_rule), (2, .int r_37), (1, .int x_typed), (0, .ref h)]) hx hb dX8_law_66 hl (by decide) rfl (fun ls hl => ?_)
    exact L68 u_11 u_29 r_37 F (0 : Int32) f_otherRule _ _ _ hg (subP hP [3, 2, 6, 4, 5, 7, 8, 0, 1] rfl) (hD.sub [3, 2, 6, 4, 5, 7, 8, 0, 1] (nd2_ok _ (by decide +kernel)) rfl) hS (lv_sub hl [5, 4, 3, 2, 1, 0] rfl)
  have hg := hg.2 c_14
  refine lv_sipush (v := (-10000 : Int32)) hx hb dX8_law_17 (by decide) ?_
  refine lv_aload_n hx hb dX8_law_20 rfl (lv_at hl 1 rfl) ?_
  refine gf_X8_114 C0 hP 6 rfl rfl dX8_law_21 ?_
  refine lv_isub hx hb dX8_law_24 ?_
  exact k_iret C0 hr (u_11.1, x_rowMany, (0 : Int32), .ref q_text, u_11.2.1, u_11.2.2.1, u_11.2.2.2.1, u_11.2.2.2.2.1, u_11.2.2.2.2.2, x_dropped, f_asked, f_then, f_hold, f_otherRule, f_row) hg (subP hP [6, 7, 8, 0, 1, 2, 3, 4, 5] rfl) (hD.sub [6, 7, 8, 0, 1, 2, 3, 4, 5] (nd2_ok _ (by decide +kernel)) rfl) hS dX8_law_25
theorem dX8_draw_0 : decode cX8_draw 0 = .ok (.aload_n 0, 1) := by decide +kernel
theorem dX8_draw_1 : decode cX8_draw 1 = .ok (.aload_n 0, 1) := by decide +kernel
theorem dX8_draw_2 : decode cX8_draw 2 = .ok (.getfield 383, 3) := by decide +kernel
theorem dX8_draw_5 : decode cX8_draw 5 = .ok (.ldc_w 386, 3) := by decide +kernel
theorem dX8_draw_8 : decode cX8_draw 8 = .ok (.imul, 1) := by decide +kernel
theorem dX8_draw_9 : decode cX8_draw 9 = .ok (.sipush 12345, 3) := by decide +kernel
theorem dX8_draw_12 : decode cX8_draw 12 = .ok (.iadd, 1) := by decide +kernel
theorem dX8_draw_13 : decode cX8_draw 13 = .ok (.putfield 383, 3) := by decide +kernel
theorem dX8_draw_16 : decode cX8_draw 16 = .ok (.aload_n 0, 1) := by decide +kernel
theorem dX8_draw_17 : decode cX8_draw 17 = .ok (.getfield 383, 3) := by decide +kernel
theorem dX8_draw_20 : decode cX8_draw 20 = .ok (.bipush 16, 2) := by decide +kernel
theorem dX8_draw_22 : decode cX8_draw 22 = .ok (.iushr, 1) := by decide +kernel
theorem dX8_draw_23 : decode cX8_draw 23 = .ok (.iload_n 1, 1) := by decide +kernel
theorem dX8_draw_24 : decode cX8_draw 24 = .ok (.irem, 1) := by decide +kernel
theorem dX8_draw_25 : decode cX8_draw 25 = .ok (.ireturn, 1) := by decide +kernel
def p_X8_draw (F : Nat) (p1 : Int32) (x_drawn : Int32) (Post : Int32 → Int32 → Prop) : Prop := (¬ p1 = 0 ∧ (Post (((((x_drawn * (1103515245 : Int32)) + (12345 : Int32)).toUInt32 >>> ((16 : Int32).toUInt32 &&& Int32.toUInt32 31)).toInt32) - ((((x_drawn * (1103515245 : Int32)) + (12345 : Int32)).toUInt32 >>> ((16 : Int32).toUInt32 &&& Int32.toUInt32 31)).toInt32) / p1 * p1) ((x_drawn * (1103515245 : Int32)) + (12345 : Int32))))
set_option maxHeartbeats 4000000 in
set_option maxRecDepth 100000 in
theorem c_X8_draw (l : Launch) (D : va_G) (cT : Nat → ClassId) (F : Nat) (h : Nat) (p1 : Int32) (w_now : Value) (x_arches : Int32) (x_cats : Int32) (w_text : Value) (x_typed : Int32) (w_row : Value) (x_rowMany : Int32) (x_thrown : Int32) (w_read : Value) (x_length : Int32) (x_top : Int32) (x_at : Int32) (x_wrong : Int32) (w_told : Value) (w_rule : Value) (w_otherRule : Value) (x_ruleSize : Int32) (x_isAsked : Int32) (w_asked : Value) (w_undos : Value) (x_undoMany : Int32) (w_aside : Value) (w_then : Value) (w_hold : Value) (x_dropped : Int32) (w_acts : Value) (w_guarded : Value) (w_train : Value) (x_trolleyEnd : Int32) (w_feltOf : Value) (w_feltBy : Value) (x_feltMany : Int32) (w_many : Value) (w_heardOf : Value) (w_heardBy : Value) (x_heardMany : Int32) (w_worth : Value) (x_drawn : Int32) (x_came : Int32) (w_kept : Value) (w_isKept : Value) (w_keptCame : Value) (Post : Int32 → Int32 → Prop) (hg : p_X8_draw F p1 x_drawn Post) : MWi l D cT yX8_draw cX8_draw 2 (some .int) 0 0 0 0 [.ref h, .int p1] [(h, oX8 w_now (.int x_arches) (.int x_cats) w_text (.int x_typed) w_row (.int x_rowMany) (.int x_thrown) w_read (.int x_length) (.int x_top) (.int x_at) (.int x_wrong) w_told w_rule w_otherRule (.int x_ruleSize) (.int x_isAsked) w_asked w_undos (.int x_undoMany) w_aside w_then w_hold (.int x_dropped) w_acts w_guarded w_train (.int x_trolleyEnd) w_feltOf w_feltBy (.int x_feltMany) w_many w_heardOf w_heardBy (.int x_heardMany) w_worth (.int x_drawn) (.int x_came) w_kept w_isKept w_keptCame)] Post (fun (u : Int32) => [(h, oX8 w_now (.int x_arches) (.int x_cats) w_text (.int x_typed) w_row (.int x_rowMany) (.int x_thrown) w_read (.int x_length) (.int x_top) (.int x_at) (.int x_wrong) w_told w_rule w_otherRule (.int x_ruleSize) (.int x_isAsked) w_asked w_undos (.int x_undoMany) w_aside w_then w_hold (.int x_dropped) w_acts w_guarded w_train (.int x_trolleyEnd) w_feltOf w_feltBy (.int x_feltMany) w_many w_heardOf w_heardBy (.int x_heardMany) w_worth (.int u) (.int x_came) w_kept w_isKept w_keptCame)]) := by
  refine MWi.of (by decide) (Nat.le_of_ble_eq_true rfl) ?_
  intro p e s m below meth c A hA C0 hnm hr hP hD ls hl
  have hl : lv_has ls 2 [(0, .ref h), (1, .int p1)] := hl
  have hx := C0.x
  have hb := C0.b
  have hS : va_S A s.heap s.heap [] := va_S.rf
  have hP : va_P D cls9 [(h, oX8 w_now (.int x_arches) (.int x_cats) w_text (.int x_typed) w_row (.int x_rowMany) (.int x_thrown) w_read (.int x_length) (.int x_top) (.int x_at) (.int x_wrong) w_told w_rule w_otherRule (.int x_ruleSize) (.int x_isAsked) w_asked w_undos (.int x_undoMany) w_aside w_then w_hold (.int x_dropped) w_acts w_guarded w_train (.int x_trolleyEnd) w_feltOf w_feltBy (.int x_feltMany) w_many w_heardOf w_heardBy (.int x_heardMany) w_worth (.int x_drawn) (.int x_came) w_kept w_isKept w_keptCame)] s.heap := hP
  have hD : va_D A [(h, oX8 w_now (.int x_arches) (.int x_cats) w_text (.int x_typed) w_row (.int x_rowMany) (.int x_thrown) w_read (.int x_length) (.int x_top) (.int x_at) (.int x_wrong) w_told w_rule w_otherRule (.int x_ruleSize) (.int x_isAsked) w_asked w_undos (.int x_undoMany) w_aside w_then w_hold (.int x_dropped) w_acts w_guarded w_train (.int x_trolleyEnd) w_feltOf w_feltBy (.int x_feltMany) w_many w_heardOf w_heardBy (.int x_heardMany) w_worth (.int x_drawn) (.int x_came) w_kept w_isKept w_keptCame)] := hD
  unfold p_X8_draw at hg
  refine lv_aload_n hx hb dX8_draw_0 rfl (lv_at hl 0 rfl) ?_
  refine lv_aload_n hx hb dX8_draw_1 rfl (lv_at hl 0 rfl) ?_
  refine gf_X8_383 C0 hP 0 rfl rfl dX8_draw_2 ?_
  refine lv_ldcw (v := (1103515245 : Int32)) hx hb C0.ow (C0.t w7_32) dX8_draw_5 ?_
  refine lv_imul hx hb dX8_draw_8 ?_
  refine lv_sipush (v := (12345 : Int32)) hx hb dX8_draw_9 (by decide) ?_
  refine lv_iadd hx hb dX8_draw_12 ?_
  refine pf_X8_383 C0 hP hD hS 0 rfl (Nat.le_of_ble_eq_true rfl) (ws2 := [(h, oX8 w_now (.int x_arches) (.int x_cats) w_text (.int x_typed) w_row (.int x_rowMany) (.int x_thrown) w_read (.int x_length) (.int x_top) (.int x_at) (.int x_wrong) w_told w_rule w_otherRule (.int x_ruleSize) (.int x_isAsked) w_asked w_undos (.int x_undoMany) w_aside w_then w_hold (.int x_dropped) w_acts w_guarded w_train (.int x_trolleyEnd) w_feltOf w_feltBy (.int x_feltMany) w_many w_heardOf w_heardBy (.int x_heardMany) w_worth (.int ((x_drawn * (1103515245 : Int32)) + (12345 : Int32))) (.int x_came) w_kept w_isKept w_keptCame)]) rfl dX8_draw_13 (fun H locs hP hD hS => ?_)
  refine lv_aload_n hx hb dX8_draw_16 rfl (lv_at hl 0 rfl) ?_
  refine gf_X8_383 C0 hP 0 rfl rfl dX8_draw_17 ?_
  refine lv_bipush (v := (16 : Int32)) hx hb dX8_draw_20 (by decide) ?_
  refine lv_iushr (v := (((x_drawn * (1103515245 : Int32)) + (12345 : Int32)).toUInt32 >>> ((16 : Int32).toUInt32 &&& Int32.toUInt32 31)).toInt32) hx hb dX8_draw_22 rfl ?_
  refine lv_iload_n hx hb dX8_draw_23 rfl (lv_at hl 1 rfl) ?_
  obtain ⟨g_24, hg⟩ := hg
  refine lv_irem hx hb dX8_draw_24 g_24 ?_
  exact k_iret C0 hr ((x_drawn * (1103515245 : Int32)) + (12345 : Int32)) hg hP hD hS dX8_draw_25
theorem dX8_years_0 : decode cX8_years 0 = .ok (.aload_n 0, 1) := by decide +kernel
theorem dX8_years_1 : decode cX8_years 1 = .ok (.iconst 0, 1) := by decide +kernel
theorem dX8_years_2 : decode cX8_years 2 = .ok (.putfield 82, 3) := by decide +kernel
theorem dX8_years_5 : decode cX8_years 5 = .ok (.iload_n 2, 1) := by decide +kernel
theorem dX8_years_6 : decode cX8_years 6 = .ok (.iconst 1, 1) := by decide +kernel
theorem dX8_years_7 : decode cX8_years 7 = .ok (.bipush 60, 2) := by decide +kernel
theorem dX8_years_9 : decode cX8_years 9 = .ok (.invokestatic 92, 3) := by decide +kernel
theorem dX8_years_12 : decode cX8_years 12 = .ok (.ifCond .ne 5, 3) := by decide +kernel
theorem dX8_years_15 : decode cX8_years 15 = .ok (.iconst (-1), 1) := by decide +kernel
theorem dX8_years_16 : decode cX8_years 16 = .ok (.ireturn, 1) := by decide +kernel
theorem dX8_years_17 : decode cX8_years 17 = .ok (.aload_n 0, 1) := by decide +kernel
theorem dX8_years_18 : decode cX8_years 18 = .ok (.iload_n 1, 1) := by decide +kernel
theorem dX8_years_19 : decode cX8_years 19 = .ok (.putfield 383, 3) := by decide +kernel
theorem dX8_years_22 : decode cX8_years 22 = .ok (.aload_n 0, 1) := by decide +kernel
theorem dX8_years_23 : decode cX8_years 23 = .ok (.getfield 9, 3) := by decide +kernel
theorem dX8_years_26 : decode cX8_years 26 = .ok (.aload_n 0, 1) := by decide +kernel
theorem dX8_years_27 : decode cX8_years 27 = .ok (.getfield 39, 3) := by decide +kernel
theorem dX8_years_30 : decode cX8_years 30 = .ok (.iconst 0, 1) := by decide +kernel
theorem dX8_years_31 : decode cX8_years 31 = .ok (.invokestatic 231, 3) := by decide +kernel
theorem dX8_years_34 : decode cX8_years 34 = .ok (.aload_n 0, 1) := by decide +kernel
theorem dX8_years_35 : decode cX8_years 35 = .ok (.iconst 0, 1) := by decide +kernel
theorem dX8_years_36 : decode cX8_years 36 = .ok (.putfield 235, 3) := by decide +kernel
theorem dX8_years_39 : decode cX8_years 39 = .ok (.iconst 0, 1) := by decide +kernel
theorem dX8_years_40 : decode cX8_years 40 = .ok (.istore_n 3, 1) := by decide +kernel
theorem dX8_years_41 : decode cX8_years 41 = .ok (.iload_n 3, 1) := by decide +kernel
theorem dX8_years_42 : decode cX8_years 42 = .ok (.iload_n 2, 1) := by decide +kernel
theorem dX8_years_43 : decode cX8_years 43 = .ok (.if_icmp .ge 121, 3) := by decide +kernel
theorem dX8_years_46 : decode cX8_years 46 = .ok (.aload_n 0, 1) := by decide +kernel
theorem dX8_years_47 : decode cX8_years 47 = .ok (.iconst 4, 1) := by decide +kernel
theorem dX8_years_48 : decode cX8_years 48 = .ok (.invokevirtual 387, 3) := by decide +kernel
theorem dX8_years_51 : decode cX8_years 51 = .ok (.istore 4, 2) := by decide +kernel
theorem dX8_years_53 : decode cX8_years 53 = .ok (.iload 4, 2) := by decide +kernel
theorem dX8_years_55 : decode cX8_years 55 = .ok (.iconst 2, 1) := by decide +kernel
theorem dX8_years_56 : decode cX8_years 56 = .ok (.if_icmp .ge 11, 3) := by decide +kernel
theorem dX8_years_59 : decode cX8_years 59 = .ok (.aload_n 0, 1) := by decide +kernel
theorem dX8_years_60 : decode cX8_years 60 = .ok (.aload_n 0, 1) := by decide +kernel
theorem dX8_years_61 : decode cX8_years 61 = .ok (.getfield 39, 3) := by decide +kernel
theorem dX8_years_64 : decode cX8_years 64 = .ok (.invokevirtual 238, 3) := by decide +kernel
theorem dX8_years_67 : decode cX8_years 67 = .ok (.iload 4, 2) := by decide +kernel
theorem dX8_years_69 : decode cX8_years 69 = .ok (.iconst 2, 1) := by decide +kernel
theorem dX8_years_70 : decode cX8_years 70 = .ok (.if_icmp .lt 88, 3) := by decide +kernel
theorem dX8_years_73 : decode cX8_years 73 = .ok (.aload_n 0, 1) := by decide +kernel
theorem dX8_years_74 : decode cX8_years 74 = .ok (.getfield 96, 3) := by decide +kernel
theorem dX8_years_77 : decode cX8_years 77 = .ok (.ifCond .ne 6, 3) := by decide +kernel
theorem dX8_years_80 : decode cX8_years 80 = .ok (.goto 78, 3) := by decide +kernel
theorem dX8_years_83 : decode cX8_years 83 = .ok (.aload_n 0, 1) := by decide +kernel
theorem dX8_years_84 : decode cX8_years 84 = .ok (.aload_n 0, 1) := by decide +kernel
theorem dX8_years_85 : decode cX8_years 85 = .ok (.getfield 96, 3) := by decide +kernel
theorem dX8_years_88 : decode cX8_years 88 = .ok (.invokevirtual 387, 3) := by decide +kernel
theorem dX8_years_91 : decode cX8_years 91 = .ok (.istore 5, 2) := by decide +kernel
theorem dX8_years_93 : decode cX8_years 93 = .ok (.iconst 1, 1) := by decide +kernel
theorem dX8_years_94 : decode cX8_years 94 = .ok (.aload_n 0, 1) := by decide +kernel
theorem dX8_years_95 : decode cX8_years 95 = .ok (.iload 4, 2) := by decide +kernel
theorem dX8_years_97 : decode cX8_years 97 = .ok (.iconst 2, 1) := by decide +kernel
theorem dX8_years_98 : decode cX8_years 98 = .ok (.if_icmp .ne 7, 3) := by decide +kernel
theorem dX8_years_101 : decode cX8_years 101 = .ok (.iconst 3, 1) := by decide +kernel
theorem dX8_years_102 : decode cX8_years 102 = .ok (.goto 4, 3) := by decide +kernel
theorem dX8_years_105 : decode cX8_years 105 = .ok (.iconst 5, 1) := by decide +kernel
theorem dX8_years_106 : decode cX8_years 106 = .ok (.invokevirtual 387, 3) := by decide +kernel
theorem dX8_years_109 : decode cX8_years 109 = .ok (.iadd, 1) := by decide +kernel
theorem dX8_years_110 : decode cX8_years 110 = .ok (.istore 6, 2) := by decide +kernel
theorem dX8_years_112 : decode cX8_years 112 = .ok (.iload 4, 2) := by decide +kernel
theorem dX8_years_114 : decode cX8_years 114 = .ok (.iconst 3, 1) := by decide +kernel
theorem dX8_years_115 : decode cX8_years 115 = .ok (.if_icmp .ne 17, 3) := by decide +kernel
theorem dX8_years_118 : decode cX8_years 118 = .ok (.aload_n 0, 1) := by decide +kernel
theorem dX8_years_119 : decode cX8_years 119 = .ok (.getfield 39, 3) := by decide +kernel
theorem dX8_years_122 : decode cX8_years 122 = .ok (.iload 5, 2) := by decide +kernel
theorem dX8_years_124 : decode cX8_years 124 = .ok (.iload 6, 2) := by decide +kernel
theorem dX8_years_126 : decode cX8_years 126 = .ok (.invokestatic 271, 3) := by decide +kernel
theorem dX8_years_129 : decode cX8_years 129 = .ok (.goto 29, 3) := by decide +kernel
theorem dX8_years_132 : decode cX8_years 132 = .ok (.aload_n 0, 1) := by decide +kernel
theorem dX8_years_133 : decode cX8_years 133 = .ok (.aload_n 0, 1) := by decide +kernel
theorem dX8_years_134 : decode cX8_years 134 = .ok (.getfield 39, 3) := by decide +kernel
theorem dX8_years_137 : decode cX8_years 137 = .ok (.iload 5, 2) := by decide +kernel
theorem dX8_years_139 : decode cX8_years 139 = .ok (.iload 6, 2) := by decide +kernel
theorem dX8_years_141 : decode cX8_years 141 = .ok (.invokevirtual 257, 3) := by decide +kernel
theorem dX8_years_144 : decode cX8_years 144 = .ok (.ifCond .ne 14, 3) := by decide +kernel
theorem dX8_years_147 : decode cX8_years 147 = .ok (.aload_n 0, 1) := by decide +kernel
theorem dX8_years_148 : decode cX8_years 148 = .ok (.getfield 39, 3) := by decide +kernel
theorem dX8_years_151 : decode cX8_years 151 = .ok (.iload 5, 2) := by decide +kernel
theorem dX8_years_153 : decode cX8_years 153 = .ok (.iload 6, 2) := by decide +kernel
theorem dX8_years_155 : decode cX8_years 155 = .ok (.invokestatic 260, 3) := by decide +kernel
theorem dX8_years_158 : decode cX8_years 158 = .ok (.iinc 3 1, 3) := by decide +kernel
theorem dX8_years_161 : decode cX8_years 161 = .ok (.goto (-120), 3) := by decide +kernel
theorem dX8_years_164 : decode cX8_years 164 = .ok (.aload_n 0, 1) := by decide +kernel
theorem dX8_years_165 : decode cX8_years 165 = .ok (.iconst 0, 1) := by decide +kernel
theorem dX8_years_166 : decode cX8_years 166 = .ok (.putfield 86, 3) := by decide +kernel
theorem dX8_years_169 : decode cX8_years 169 = .ok (.aload_n 0, 1) := by decide +kernel
theorem dX8_years_170 : decode cX8_years 170 = .ok (.aload_n 0, 1) := by decide +kernel
theorem dX8_years_171 : decode cX8_years 171 = .ok (.getfield 235, 3) := by decide +kernel
theorem dX8_years_174 : decode cX8_years 174 = .ok (.i2l, 1) := by decide +kernel
theorem dX8_years_175 : decode cX8_years 175 = .ok (.invokevirtual 249, 3) := by decide +kernel
theorem dX8_years_178 : decode cX8_years 178 = .ok (.aload_n 0, 1) := by decide +kernel
theorem dX8_years_179 : decode cX8_years 179 = .ok (.aload_n 0, 1) := by decide +kernel
theorem dX8_years_180 : decode cX8_years 180 = .ok (.getfield 39, 3) := by decide +kernel
theorem dX8_years_183 : decode cX8_years 183 = .ok (.bipush 44, 2) := by decide +kernel
theorem dX8_years_185 : decode cX8_years 185 = .ok (.iaload, 1) := by decide +kernel
theorem dX8_years_186 : decode cX8_years 186 = .ok (.i2l, 1) := by decide +kernel
theorem dX8_years_187 : decode cX8_years 187 = .ok (.invokevirtual 249, 3) := by decide +kernel
theorem dX8_years_190 : decode cX8_years 190 = .ok (.aload_n 0, 1) := by decide +kernel
theorem dX8_years_191 : decode cX8_years 191 = .ok (.aload_n 0, 1) := by decide +kernel
theorem dX8_years_192 : decode cX8_years 192 = .ok (.getfield 39, 3) := by decide +kernel
theorem dX8_years_195 : decode cX8_years 195 = .ok (.invokevirtual 253, 3) := by decide +kernel
theorem dX8_years_198 : decode cX8_years 198 = .ok (.ireturn, 1) := by decide +kernel
def p_X8_years_158 (F : Nat) (x_read_67 : Value) (x_length_67 : Int32) (x_top_67 : Int32) (x_at_67 : Int32) (x_wrong_67 : Int32) (x_isAsked_67 : Int32) (x_dropped_67 : Int32) (f_asked_67 : Nat → Int32) (f_hold_67 : Nat → Int32) (y3_41 : Int32) (k41 : Int32 → Value → Int32 → Int32 → Int32 → Int32 → Int32 → Int32 → Int32 → (Nat → Int32) → (Nat → Int32) → (Nat → Int32) → Prop) (Post : Int32 → (Int32 × Int32 × Value × Int32 × Int32 × Int32 × Int32 × Int32 × Int32 × Int32 × (Nat → Int32) × (Nat → Int32) × (Nat → Int32) × (Nat → Int64)) → Prop) (x_drawn_158 : Int32) (f_then_158 : Nat → Int32) : Prop := (k41 (y3_41 + (1 : Int32)) x_read_67 x_length_67 x_top_67 x_at_67 x_wrong_67 x_isAsked_67 x_dropped_67 x_drawn_158 f_then_158 f_asked_67 f_hold_67)
def p_X8_years_106 (F : Nat) (x_cats : Int32) (r_48 : Int32) (x_read_67 : Value) (x_length_67 : Int32) (x_top_67 : Int32) (x_at_67 : Int32) (x_wrong_67 : Int32) (x_isAsked_67 : Int32) (x_dropped_67 : Int32) (f_then_67 : Nat → Int32) (f_asked_67 : Nat → Int32) (f_hold_67 : Nat → Int32) (r_88 : Int32) (u_88 : Int32) (y3_41 : Int32) (k41 : Int32 → Value → Int32 → Int32 → Int32 → Int32 → Int32 → Int32 → Int32 → (Nat → Int32) → (Nat → Int32) → (Nat → Int32) → Prop) (Post : Int32 → (Int32 × Int32 × Value × Int32 × Int32 × Int32 × Int32 × Int32 × Int32 × Int32 × (Nat → Int32) × (Nat → Int32) × (Nat → Int32) × (Nat → Int64)) → Prop) (s2_106 : Int32) : Prop := (p_X8_draw F s2_106 u_88 (fun (r_106 : Int32) (u_106 : Int32) => ((¬ r_48 = (3 : Int32) → (p_X8_refusesFeed F r_88 ((1 : Int32) + r_106) x_cats 47 f_then_67 (fun (r_141 : Int32) => ((¬ r_141 = 0 → (p_X8_years_158 F x_read_67 x_length_67 x_top_67 x_at_67 x_wrong_67 x_isAsked_67 x_dropped_67 f_asked_67 f_hold_67 y3_41 k41 Post u_106 f_then_67)) ∧ (r_141 = 0 → (p_X8_goFeed F r_88 ((1 : Int32) + r_106) 47 f_then_67 (fun (u_155 : (Nat → Int32)) => (p_X8_years_158 F x_read_67 x_length_67 x_top_67 x_at_67 x_wrong_67 x_isAsked_67 x_dropped_67 f_asked_67 f_hold_67 y3_41 k41 Post u_106 u_155)))))))) ∧ (r_48 = (3 : Int32) → (p_X8_goGrieve F r_88 ((1 : Int32) + r_106) 47 f_then_67 (fun (u_126 : (Nat → Int32)) => (p_X8_years_158 F x_read_67 x_length_67 x_top_67 x_at_67 x_wrong_67 x_isAsked_67 x_dropped_67 f_asked_67 f_hold_67 y3_41 k41 Post u_106 u_126)))))))
def p_X8_years_67 (F : Nat) (x_cats : Int32) (r_48 : Int32) (u_48 : Int32) (y3_41 : Int32) (k41 : Int32 → Value → Int32 → Int32 → Int32 → Int32 → Int32 → Int32 → Int32 → (Nat → Int32) → (Nat → Int32) → (Nat → Int32) → Prop) (Post : Int32 → (Int32 × Int32 × Value × Int32 × Int32 × Int32 × Int32 × Int32 × Int32 × Int32 × (Nat → Int32) × (Nat → Int32) × (Nat → Int32) × (Nat → Int64)) → Prop) (x_read_67 : Value) (x_length_67 : Int32) (x_top_67 : Int32) (x_at_67 : Int32) (x_wrong_67 : Int32) (x_isAsked_67 : Int32) (x_dropped_67 : Int32) (f_then_67 : Nat → Int32) (f_asked_67 : Nat → Int32) (f_hold_67 : Nat → Int32) : Prop := ((r_48 < (2 : Int32) → (p_X8_years_158 F x_read_67 x_length_67 x_top_67 x_at_67 x_wrong_67 x_isAsked_67 x_dropped_67 f_asked_67 f_hold_67 y3_41 k41 Post u_48 f_then_67)) ∧ (¬ r_48 < (2 : Int32) → ((¬ x_cats = 0 → (p_X8_draw F x_cats u_48 (fun (r_88 : Int32) (u_88 : Int32) => ((¬ r_48 = (2 : Int32) → (p_X8_years_106 F x_cats r_48 x_read_67 x_length_67 x_top_67 x_at_67 x_wrong_67 x_isAsked_67 x_dropped_67 f_then_67 f_asked_67 f_hold_67 r_88 u_88 y3_41 k41 Post (5 : Int32))) ∧ (r_48 = (2 : Int32) → (p_X8_years_106 F x_cats r_48 x_read_67 x_length_67 x_top_67 x_at_67 x_wrong_67 x_isAsked_67 x_dropped_67 f_then_67 f_asked_67 f_hold_67 r_88 u_88 y3_41 k41 Post (3 : Int32))))))) ∧ (x_cats = 0 → (p_X8_years_158 F x_read_67 x_length_67 x_top_67 x_at_67 x_wrong_67 x_isAsked_67 x_dropped_67 f_asked_67 f_hold_67 y3_41 k41 Post u_48 f_then_67)))))
noncomputable def p_X8_years_41 (F : Nat) (p2 : Int32) (x_arches : Int32) (x_cats : Int32) (q_rule : Nat) (x_ruleSize : Int32) (f_rule : Nat → Int32) (f_row : Nat → Int64) (Post : Int32 → (Int32 × Int32 × Value × Int32 × Int32 × Int32 × Int32 × Int32 × Int32 × Int32 × (Nat → Int32) × (Nat → Int32) × (Nat → Int32) × (Nat → Int64)) → Prop) (n : Nat) : Int32 → Value → Int32 → Int32 → Int32 → Int32 → Int32 → Int32 → Int32 → (Nat → Int32) → (Nat → Int32) → (Nat → Int32) → Prop := Nat.rec (motive := fun _ => Int32 → Value → Int32 → Int32 → Int32 → Int32 → Int32 → Int32 → Int32 → (Nat → Int32) → (Nat → Int32) → (Nat → Int32) → Prop) (fun _ _ _ _ _ _ _ _ _ _ _ _ => False) (fun _ k41 => fun (y3_41 : Int32) (x_read_41 : Value) (x_length_41 : Int32) (x_top_41 : Int32) (x_at_41 : Int32) (x_wrong_41 : Int32) (x_isAsked_41 : Int32) (x_dropped_41 : Int32) (x_drawn_41 : Int32) (f_then_41 : Nat → Int32) (f_asked_41 : Nat → Int32) (f_hold_41 : Nat → Int32) => ((p2 ≤ y3_41 → (p_X8_tell F (x_dropped_41.toInt64) (0 : Int32) f_row (fun (u_175 : (Int32 × (Nat → Int64))) => (vp_in (44 : Int32) 47 ∧ (p_X8_tell F ((f_then_41 (44 : Int32).toNatClampNeg).toInt64) u_175.1 u_175.2 (fun (u_187 : (Int32 × (Nat → Int64))) => (p_X8_sags F x_arches 47 f_then_41 (fun (r_195 : Int32) => (Post r_195 (u_187.1, (0 : Int32), x_read_41, x_length_41, x_top_41, x_at_41, x_wrong_41, x_isAsked_41, x_dropped_41, x_drawn_41, f_then_41, f_asked_41, f_hold_41, u_187.2)))))))))) ∧ (¬ p2 ≤ y3_41 → (p_X8_draw F (4 : Int32) x_drawn_41 (fun (r_48 : Int32) (u_48 : Int32) => (((2 : Int32) ≤ r_48 → (p_X8_years_67 F x_cats r_48 u_48 y3_41 k41 Post x_read_41 x_length_41 x_top_41 x_at_41 x_wrong_41 x_isAsked_41 x_dropped_41 f_then_41 f_asked_41 f_hold_41)) ∧ (¬ (2 : Int32) ≤ r_48 → (p_X8_goHour F x_arches x_cats x_read_41 x_length_41 x_top_41 x_at_41 x_wrong_41 q_rule x_ruleSize x_isAsked_41 x_dropped_41 47 f_then_41 f_asked_41 f_rule f_hold_41 (fun (u_64 : (Value × Int32 × Int32 × Int32 × Int32 × Int32 × Int32 × (Nat → Int32) × (Nat → Int32) × (Nat → Int32))) => (p_X8_years_67 F x_cats r_48 u_48 y3_41 k41 Post u_64.1 u_64.2.1 u_64.2.2.1 u_64.2.2.2.1 u_64.2.2.2.2.1 u_64.2.2.2.2.2.1 u_64.2.2.2.2.2.2.1 u_64.2.2.2.2.2.2.2.1 u_64.2.2.2.2.2.2.2.2.1 u_64.2.2.2.2.2.2.2.2.2)))))))))) n
theorem p_X8_years_41_s (F : Nat) (p2 : Int32) (x_arches : Int32) (x_cats : Int32) (q_rule : Nat) (x_ruleSize : Int32) (f_rule : Nat → Int32) (f_row : Nat → Int64) (Post : Int32 → (Int32 × Int32 × Value × Int32 × Int32 × Int32 × Int32 × Int32 × Int32 × Int32 × (Nat → Int32) × (Nat → Int32) × (Nat → Int32) × (Nat → Int64)) → Prop) (n : Nat) (y3_41 : Int32) (x_read_41 : Value) (x_length_41 : Int32) (x_top_41 : Int32) (x_at_41 : Int32) (x_wrong_41 : Int32) (x_isAsked_41 : Int32) (x_dropped_41 : Int32) (x_drawn_41 : Int32) (f_then_41 : Nat → Int32) (f_asked_41 : Nat → Int32) (f_hold_41 : Nat → Int32) : p_X8_years_41 F p2 x_arches x_cats q_rule x_ruleSize f_rule f_row Post (n + 1) y3_41 x_read_41 x_length_41 x_top_41 x_at_41 x_wrong_41 x_isAsked_41 x_dropped_41 x_drawn_41 f_then_41 f_asked_41 f_hold_41 = ((p2 ≤ y3_41 → (p_X8_tell F (x_dropped_41.toInt64) (0 : Int32) f_row (fun (u_175 : (Int32 × (Nat → Int64))) => (vp_in (44 : Int32) 47 ∧ (p_X8_tell F ((f_then_41 (44 : Int32).toNatClampNeg).toInt64) u_175.1 u_175.2 (fun (u_187 : (Int32 × (Nat → Int64))) => (p_X8_sags F x_arches 47 f_then_41 (fun (r_195 : Int32) => (Post r_195 (u_187.1, (0 : Int32), x_read_41, x_length_41, x_top_41, x_at_41, x_wrong_41, x_isAsked_41, x_dropped_41, x_drawn_41, f_then_41, f_asked_41, f_hold_41, u_187.2)))))))))) ∧ (¬ p2 ≤ y3_41 → (p_X8_draw F (4 : Int32) x_drawn_41 (fun (r_48 : Int32) (u_48 : Int32) => (((2 : Int32) ≤ r_48 → (p_X8_years_67 F x_cats r_48 u_48 y3_41 (p_X8_years_41 F p2 x_arches x_cats q_rule x_ruleSize f_rule f_row Post n) Post x_read_41 x_length_41 x_top_41 x_at_41 x_wrong_41 x_isAsked_41 x_dropped_41 f_then_41 f_asked_41 f_hold_41)) ∧ (¬ (2 : Int32) ≤ r_48 → (p_X8_goHour F x_arches x_cats x_read_41 x_length_41 x_top_41 x_at_41 x_wrong_41 q_rule x_ruleSize x_isAsked_41 x_dropped_41 47 f_then_41 f_asked_41 f_rule f_hold_41 (fun (u_64 : (Value × Int32 × Int32 × Int32 × Int32 × Int32 × Int32 × (Nat → Int32) × (Nat → Int32) × (Nat → Int32))) => (p_X8_years_67 F x_cats r_48 u_48 y3_41 (p_X8_years_41 F p2 x_arches x_cats q_rule x_ruleSize f_rule f_row Post n) Post u_64.1 u_64.2.1 u_64.2.2.1 u_64.2.2.2.1 u_64.2.2.2.2.1 u_64.2.2.2.2.2.1 u_64.2.2.2.2.2.2.1 u_64.2.2.2.2.2.2.2.1 u_64.2.2.2.2.2.2.2.2.1 u_64.2.2.2.2.2.2.2.2.2))))))))) := rfl
def p_X8_years (F : Nat) (p1 : Int32) (p2 : Int32) (x_arches : Int32) (x_cats : Int32) (x_rowMany : Int32) (w_read : Value) (x_length : Int32) (x_top : Int32) (x_at : Int32) (x_wrong : Int32) (q_rule : Nat) (x_ruleSize : Int32) (x_isAsked : Int32) (x_dropped : Int32) (x_drawn : Int32) (f_now : Nat → Int32) (f_then : Nat → Int32) (f_asked : Nat → Int32) (f_rule : Nat → Int32) (f_hold : Nat → Int32) (f_row : Nat → Int64) (Post : Int32 → (Int32 × Int32 × Value × Int32 × Int32 × Int32 × Int32 × Int32 × Int32 × Int32 × (Nat → Int32) × (Nat → Int32) × (Nat → Int32) × (Nat → Int64)) → Prop) : Prop := (p_X8_in F p2 (1 : Int32) (60 : Int32) (fun (r_9 : Int32) => ((¬ r_9 = 0 → (p_X8_lay F (0 : Int32) 47 f_now 47 f_then (fun (u_31 : (Nat → Int32)) => (p_X8_years_41 F p2 x_arches x_cats q_rule x_ruleSize f_rule f_row Post F (0 : Int32) w_read x_length x_top x_at x_wrong x_isAsked (0 : Int32) p1 u_31 f_asked f_hold)))) ∧ (r_9 = 0 → (Post (-1 : Int32) (x_rowMany, (0 : Int32), w_read, x_length, x_top, x_at, x_wrong, x_isAsked, x_dropped, x_drawn, f_then, f_asked, f_hold, f_row))))))
set_option maxHeartbeats 4000000 in
set_option maxRecDepth 100000 in
theorem c_X8_years (l : Launch) (D : va_G) (cT : Nat → ClassId) (F : Nat) (h : Nat) (p1 : Int32) (p2 : Int32) (q_now : Nat) (x_arches : Int32) (x_cats : Int32) (w_text : Value) (x_typed : Int32) (q_row : Nat) (x_rowMany : Int32) (x_thrown : Int32) (w_read : Value) (x_length : Int32) (x_top : Int32) (x_at : Int32) (x_wrong : Int32) (w_told : Value) (q_rule : Nat) (w_otherRule : Value) (x_ruleSize : Int32) (x_isAsked : Int32) (q_asked : Nat) (w_undos : Value) (x_undoMany : Int32) (w_aside : Value) (q_then : Nat) (q_hold : Nat) (x_dropped : Int32) (w_acts : Value) (w_guarded : Value) (w_train : Value) (x_trolleyEnd : Int32) (w_feltOf : Value) (w_feltBy : Value) (x_feltMany : Int32) (w_many : Value) (w_heardOf : Value) (w_heardBy : Value) (x_heardMany : Int32) (w_worth : Value) (x_drawn : Int32) (x_came : Int32) (w_kept : Value) (w_isKept : Value) (w_keptCame : Value) (f_now : Nat → Int32) (f_then : Nat → Int32) (f_asked : Nat → Int32) (f_rule : Nat → Int32) (f_hold : Nat → Int32) (f_row : Nat → Int64) (Post : Int32 → (Int32 × Int32 × Value × Int32 × Int32 × Int32 × Int32 × Int32 × Int32 × Int32 × (Nat → Int32) × (Nat → Int32) × (Nat → Int32) × (Nat → Int64)) → Prop) (hg : p_X8_years F p1 p2 x_arches x_cats x_rowMany w_read x_length x_top x_at x_wrong q_rule x_ruleSize x_isAsked x_dropped x_drawn f_now f_then f_asked f_rule f_hold f_row Post) : MWi l D cT yX8_years cX8_years 7 (some .int) 326 10196 0 0 [.ref h, .int p1, .int p2] [(h, oX8 (.ref q_now) (.int x_arches) (.int x_cats) w_text (.int x_typed) (.ref q_row) (.int x_rowMany) (.int x_thrown) w_read (.int x_length) (.int x_top) (.int x_at) (.int x_wrong) w_told (.ref q_rule) w_otherRule (.int x_ruleSize) (.int x_isAsked) (.ref q_asked) w_undos (.int x_undoMany) w_aside (.ref q_then) (.ref q_hold) (.int x_dropped) w_acts w_guarded w_train (.int x_trolleyEnd) w_feltOf w_feltBy (.int x_feltMany) w_many w_heardOf w_heardBy (.int x_heardMany) w_worth (.int x_drawn) (.int x_came) w_kept w_isKept w_keptCame), (q_now, aI cT 47 f_now), (q_then, aI cT 47 f_then), (q_asked, aI cT 7 f_asked), (q_rule, aB cT 40 f_rule), (q_hold, aI cT 6 f_hold), (q_row, aJ cT 16 f_row)] Post (fun (u : (Int32 × Int32 × Value × Int32 × Int32 × Int32 × Int32 × Int32 × Int32 × Int32 × (Nat → Int32) × (Nat → Int32) × (Nat → Int32) × (Nat → Int64))) => [(h, oX8 (.ref q_now) (.int x_arches) (.int x_cats) w_text (.int x_typed) (.ref q_row) (.int u.1) (.int u.2.1) u.2.2.1 (.int u.2.2.2.1) (.int u.2.2.2.2.1) (.int u.2.2.2.2.2.1) (.int u.2.2.2.2.2.2.1) w_told (.ref q_rule) w_otherRule (.int x_ruleSize) (.int u.2.2.2.2.2.2.2.1) (.ref q_asked) w_undos (.int x_undoMany) w_aside (.ref q_then) (.ref q_hold) (.int u.2.2.2.2.2.2.2.2.1) w_acts w_guarded w_train (.int x_trolleyEnd) w_feltOf w_feltBy (.int x_feltMany) w_many w_heardOf w_heardBy (.int x_heardMany) w_worth (.int u.2.2.2.2.2.2.2.2.2.1) (.int x_came) w_kept w_isKept w_keptCame), (q_now, aI cT 47 f_now), (q_then, aI cT 47 u.2.2.2.2.2.2.2.2.2.2.1), (q_asked, aI cT 7 u.2.2.2.2.2.2.2.2.2.2.2.1), (q_rule, aB cT 40 f_rule), (q_hold, aI cT 6 u.2.2.2.2.2.2.2.2.2.2.2.2.1), (q_row, aJ cT 16 u.2.2.2.2.2.2.2.2.2.2.2.2.2)]) := by
  refine MWi.of (by decide) (Nat.le_of_ble_eq_true rfl) ?_
  intro p e s m below meth c A hA C0 hnm hr hP hD ls hl
  have hl : lv_has ls 7 [(0, .ref h), (1, .int p1), (2, .int p2)] := hl
  have hx := C0.x
  have hb := C0.b
  have hS : va_S A s.heap s.heap [] := va_S.rf
  have hP : va_P D cls9 [(h, oX8 (.ref q_now) (.int x_arches) (.int x_cats) w_text (.int x_typed) (.ref q_row) (.int x_rowMany) (.int x_thrown) w_read (.int x_length) (.int x_top) (.int x_at) (.int x_wrong) w_told (.ref q_rule) w_otherRule (.int x_ruleSize) (.int x_isAsked) (.ref q_asked) w_undos (.int x_undoMany) w_aside (.ref q_then) (.ref q_hold) (.int x_dropped) w_acts w_guarded w_train (.int x_trolleyEnd) w_feltOf w_feltBy (.int x_feltMany) w_many w_heardOf w_heardBy (.int x_heardMany) w_worth (.int x_drawn) (.int x_came) w_kept w_isKept w_keptCame), (q_now, aI cT 47 f_now), (q_then, aI cT 47 f_then), (q_asked, aI cT 7 f_asked), (q_rule, aB cT 40 f_rule), (q_hold, aI cT 6 f_hold), (q_row, aJ cT 16 f_row)] s.heap := hP
  have hD : va_D A [(h, oX8 (.ref q_now) (.int x_arches) (.int x_cats) w_text (.int x_typed) (.ref q_row) (.int x_rowMany) (.int x_thrown) w_read (.int x_length) (.int x_top) (.int x_at) (.int x_wrong) w_told (.ref q_rule) w_otherRule (.int x_ruleSize) (.int x_isAsked) (.ref q_asked) w_undos (.int x_undoMany) w_aside (.ref q_then) (.ref q_hold) (.int x_dropped) w_acts w_guarded w_train (.int x_trolleyEnd) w_feltOf w_feltBy (.int x_feltMany) w_many w_heardOf w_heardBy (.int x_heardMany) w_worth (.int x_drawn) (.int x_came) w_kept w_isKept w_keptCame), (q_now, aI cT 47 f_now), (q_then, aI cT 47 f_then), (q_asked, aI cT 7 f_asked), (q_rule, aB cT 40 f_rule), (q_hold, aI cT 6 f_hold), (q_row, aJ cT 16 f_row)] := hD
  have L41 : ∀ (n41 : Nat) (y3_41 : Int32) (x_read_41 : Value) (x_length_41 : Int32) (x_top_41 : Int32) (x_at_41 : Int32) (x_wrong_41 : Int32) (x_isAsked_41 : Int32) (x_dropped_41 : Int32) (x_drawn_41 : Int32) (f_then_41 : Nat → Int32) (f_asked_41 : Nat → Int32) (f_hold_41 : Nat → Int32) (H : Heap) (locs : List Loc) (ls : Array Slot), p_X8_years_41 F p2 x_arches x_cats q_rule x_ruleSize f_rule f_row Post n41 y3_41 x_read_41 x_length_41 x_top_41 x_at_41 x_wrong_41 x_isAsked_41 x_dropped_41 x_drawn_41 f_then_41 f_asked_41 f_hold_41 → va_P D cls9 [(h, oX8 (.ref q_now) (.int x_arches) (.int x_cats) w_text (.int x_typed) (.ref q_row) (.int x_rowMany) (.int (0 : Int32)) x_read_41 (.int x_length_41) (.int x_top_41) (.int x_at_41) (.int x_wrong_41) w_told (.ref q_rule) w_otherRule (.int x_ruleSize) (.int x_isAsked_41) (.ref q_asked) w_undos (.int x_undoMany) w_aside (.ref q_then) (.ref q_hold) (.int x_dropped_41) w_acts w_guarded w_train (.int x_trolleyEnd) w_feltOf w_feltBy (.int x_feltMany) w_many w_heardOf w_heardBy (.int x_heardMany) w_worth (.int x_drawn_41) (.int x_came) w_kept w_isKept w_keptCame), (q_now, aI cT 47 f_now), (q_then, aI cT 47 f_then_41), (q_asked, aI cT 7 f_asked_41), (q_rule, aB cT 40 f_rule), (q_hold, aI cT 6 f_hold_41), (q_row, aJ cT 16 f_row)] H → va_D A [(h, oX8 (.ref q_now) (.int x_arches) (.int x_cats) w_text (.int x_typed) (.ref q_row) (.int x_rowMany) (.int (0 : Int32)) x_read_41 (.int x_length_41) (.int x_top_41) (.int x_at_41) (.int x_wrong_41) w_told (.ref q_rule) w_otherRule (.int x_ruleSize) (.int x_isAsked_41) (.ref q_asked) w_undos (.int x_undoMany) w_aside (.ref q_then) (.ref q_hold) (.int x_dropped_41) w_acts w_guarded w_train (.int x_trolleyEnd) w_feltOf w_feltBy (.int x_feltMany) w_many w_heardOf w_heardBy (.int x_heardMany) w_worth (.int x_drawn_41) (.int x_came) w_kept w_isKept w_keptCame), (q_now, aI cT 47 f_now), (q_then, aI cT 47 f_then_41), (q_asked, aI cT 7 f_asked_41), (q_rule, aB cT 40 f_rule), (q_hold, aI cT 6 f_hold_41), (q_row, aJ cT 16 f_row)] → va_S A s.heap H locs → lv_has ls 7 [(0, .ref h), (2, .int p2), (3, .int y3_41)] → W p l e (rmO 326 10196 0 0) s m ([.ref h, .int p1, .int p2] : List Value).toArray below meth c H locs 0 0 (MQ below (va_Qi Post (cB D A (fun (u : (Int32 × Int32 × Value × Int32 × Int32 × Int32 × Int32 × Int32 × Int32 × Int32 × (Nat → Int32) × (Nat → Int32) × (Nat → Int32) × (Nat → Int64))) => [(h, oX8 (.ref q_now) (.int x_arches) (.int x_cats) w_text (.int x_typed) (.ref q_row) (.int u.1) (.int u.2.1) u.2.2.1 (.int u.2.2.2.1) (.int u.2.2.2.2.1) (.int u.2.2.2.2.2.1) (.int u.2.2.2.2.2.2.1) w_told (.ref q_rule) w_otherRule (.int x_ruleSize) (.int u.2.2.2.2.2.2.2.1) (.ref q_asked) w_undos (.int x_undoMany) w_aside (.ref q_then) (.ref q_hold) (.int u.2.2.2.2.2.2.2.2.1) w_acts w_guarded w_train (.int x_trolleyEnd) w_feltOf w_feltBy (.int x_feltMany) w_many w_heardOf w_heardBy (.int x_heardMany) w_worth (.int u.2.2.2.2.2.2.2.2.2.1) (.int x_came) w_kept w_isKept w_keptCame), (q_now, aI cT 47 f_now), (q_then, aI cT 47 u.2.2.2.2.2.2.2.2.2.2.1), (q_asked, aI cT 7 u.2.2.2.2.2.2.2.2.2.2.2.1), (q_rule, aB cT 40 f_rule), (q_hold, aI cT 6 u.2.2.2.2.2.2.2.2.2.2.2.2.1), (q_row, aJ cT 16 u.2.2.2.2.2.2.2.2.2.2.2.2.2)])) A) ([.ref h, .int p1, .int p2] : List Value).toArray s 0 0 A) (F0 m 41 ls []) := by
    intro n41
    induction n41 with
    | zero =>
      intro y3_41 x_read_41 x_length_41 x_top_41 x_at_41 x_wrong_41 x_isAsked_41 x_dropped_41 x_drawn_41 f_then_41 f_asked_41 f_hold_41 H locs ls hg hP hD hS hl
      exact False.elim hg
    | succ n41 ih41 =>
      have L158 : ∀ (x_read_67 : Value) (x_length_67 : Int32) (x_top_67 : Int32) (x_at_67 : Int32) (x_wrong_67 : Int32) (x_isAsked_67 : Int32) (x_dropped_67 : Int32) (f_asked_67 : Nat → Int32) (f_hold_67 : Nat → Int32) (y3_41 : Int32) (x_drawn_158 : Int32) (f_then_158 : Nat → Int32) (H : Heap) (locs : List Loc) (ls : Array Slot), p_X8_years_158 F x_read_67 x_length_67 x_top_67 x_at_67 x_wrong_67 x_isAsked_67 x_dropped_67 f_asked_67 f_hold_67 y3_41 (p_X8_years_41 F p2 x_arches x_cats q_rule x_ruleSize f_rule f_row Post n41) Post x_drawn_158 f_then_158 → va_P D cls9 [(h, oX8 (.ref q_now) (.int x_arches) (.int x_cats) w_text (.int x_typed) (.ref q_row) (.int x_rowMany) (.int (0 : Int32)) x_read_67 (.int x_length_67) (.int x_top_67) (.int x_at_67) (.int x_wrong_67) w_told (.ref q_rule) w_otherRule (.int x_ruleSize) (.int x_isAsked_67) (.ref q_asked) w_undos (.int x_undoMany) w_aside (.ref q_then) (.ref q_hold) (.int x_dropped_67) w_acts w_guarded w_train (.int x_trolleyEnd) w_feltOf w_feltBy (.int x_feltMany) w_many w_heardOf w_heardBy (.int x_heardMany) w_worth (.int x_drawn_158) (.int x_came) w_kept w_isKept w_keptCame), (q_now, aI cT 47 f_now), (q_then, aI cT 47 f_then_158), (q_asked, aI cT 7 f_asked_67), (q_rule, aB cT 40 f_rule), (q_hold, aI cT 6 f_hold_67), (q_row, aJ cT 16 f_row)] H → va_D A [(h, oX8 (.ref q_now) (.int x_arches) (.int x_cats) w_text (.int x_typed) (.ref q_row) (.int x_rowMany) (.int (0 : Int32)) x_read_67 (.int x_length_67) (.int x_top_67) (.int x_at_67) (.int x_wrong_67) w_told (.ref q_rule) w_otherRule (.int x_ruleSize) (.int x_isAsked_67) (.ref q_asked) w_undos (.int x_undoMany) w_aside (.ref q_then) (.ref q_hold) (.int x_dropped_67) w_acts w_guarded w_train (.int x_trolleyEnd) w_feltOf w_feltBy (.int x_feltMany) w_many w_heardOf w_heardBy (.int x_heardMany) w_worth (.int x_drawn_158) (.int x_came) w_kept w_isKept w_keptCame), (q_now, aI cT 47 f_now), (q_then, aI cT 47 f_then_158), (q_asked, aI cT 7 f_asked_67), (q_rule, aB cT 40 f_rule), (q_hold, aI cT 6 f_hold_67), (q_row, aJ cT 16 f_row)] → va_S A s.heap H locs → lv_has ls 7 [(0, .ref h), (2, .int p2), (3, .int y3_41)] → W p l e (rmO 326 10196 0 0) s m ([.ref h, .int p1, .int p2] : List Value).toArray below meth c H locs 0 0 (MQ below (va_Qi Post (cB D A (fun (u : (Int32 × Int32 × Value × Int32 × Int32 × Int32 × Int32 × Int32 × Int32 × Int32 × (Nat → Int32) × (Nat → Int32) × (Nat → Int32) × (Nat → Int64))) => [(h, oX8 (.ref q_now) (.int x_arches) (.int x_cats) w_text (.int x_typed) (.ref q_row) (.int u.1) (.int u.2.1) u.2.2.1 (.int u.2.2.2.1) (.int u.2.2.2.2.1) (.int u.2.2.2.2.2.1) (.int u.2.2.2.2.2.2.1) w_told (.ref q_rule) w_otherRule (.int x_ruleSize) (.int u.2.2.2.2.2.2.2.1) (.ref q_asked) w_undos (.int x_undoMany) w_aside (.ref q_then) (.ref q_hold) (.int u.2.2.2.2.2.2.2.2.1) w_acts w_guarded w_train (.int x_trolleyEnd) w_feltOf w_feltBy (.int x_feltMany) w_many w_heardOf w_heardBy (.int x_heardMany) w_worth (.int u.2.2.2.2.2.2.2.2.2.1) (.int x_came) w_kept w_isKept w_keptCame), (q_now, aI cT 47 f_now), (q_then, aI cT 47 u.2.2.2.2.2.2.2.2.2.2.1), (q_asked, aI cT 7 u.2.2.2.2.2.2.2.2.2.2.2.1), (q_rule, aB cT 40 f_rule), (q_hold, aI cT 6 u.2.2.2.2.2.2.2.2.2.2.2.2.1), (q_row, aJ cT 16 u.2.2.2.2.2.2.2.2.2.2.2.2.2)])) A) ([.ref h, .int p1, .int p2] : List Value).toArray s 0 0 A) (F0 m 158 ls []) := by
        intro x_read_67 x_length_67 x_top_67 x_at_67 x_wrong_67 x_isAsked_67 x_dropped_67 f_asked_67 f_hold_67 y3_41 x_drawn_158 f_then_158 H locs ls hg hP hD hS hl
        unfold p_X8_years_158 at hg
        refine lv_iinc (v := (y3_41 + (1 : Int32))) (lv' := [(3, .int (y3_41 + (1 : Int32))), (0, .ref h), (2, .int p2)]) hx hb dX8_years_158 hl (k := 2) rfl rfl (by decide) rfl (fun ls hl => ?_)
        refine lv_goto (tgt := 41) hx hb dX8_years_161 (by decide) ?_
        exact ih41 (y3_41 + (1 : Int32)) x_read_67 x_length_67 x_top_67 x_at_67 x_wrong_67 x_isAsked_67 x_dropped_67 x_drawn_158 f_then_158 f_asked_67 f_hold_67 _ _ _ hg hP hD hS (lv_sub hl [1, 2, 0] rfl)
      have L106 : ∀ (r_48 : Int32) (x_read_67 : Value) (x_length_67 : Int32) (x_top_67 : Int32) (x_at_67 : Int32) (x_wrong_67 : Int32) (x_isAsked_67 : Int32) (x_dropped_67 : Int32) (f_then_67 : Nat → Int32) (f_asked_67 : Nat → Int32) (f_hold_67 : Nat → Int32) (r_88 : Int32) (u_88 : Int32) (y3_41 : Int32) (s2_106 : Int32) (H : Heap) (locs : List Loc) (ls : Array Slot), p_X8_years_106 F x_cats r_48 x_read_67 x_length_67 x_top_67 x_at_67 x_wrong_67 x_isAsked_67 x_dropped_67 f_then_67 f_asked_67 f_hold_67 r_88 u_88 y3_41 (p_X8_years_41 F p2 x_arches x_cats q_rule x_ruleSize f_rule f_row Post n41) Post s2_106 → va_P D cls9 [(h, oX8 (.ref q_now) (.int x_arches) (.int x_cats) w_text (.int x_typed) (.ref q_row) (.int x_rowMany) (.int (0 : Int32)) x_read_67 (.int x_length_67) (.int x_top_67) (.int x_at_67) (.int x_wrong_67) w_told (.ref q_rule) w_otherRule (.int x_ruleSize) (.int x_isAsked_67) (.ref q_asked) w_undos (.int x_undoMany) w_aside (.ref q_then) (.ref q_hold) (.int x_dropped_67) w_acts w_guarded w_train (.int x_trolleyEnd) w_feltOf w_feltBy (.int x_feltMany) w_many w_heardOf w_heardBy (.int x_heardMany) w_worth (.int u_88) (.int x_came) w_kept w_isKept w_keptCame), (q_now, aI cT 47 f_now), (q_then, aI cT 47 f_then_67), (q_asked, aI cT 7 f_asked_67), (q_rule, aB cT 40 f_rule), (q_hold, aI cT 6 f_hold_67), (q_row, aJ cT 16 f_row)] H → va_D A [(h, oX8 (.ref q_now) (.int x_arches) (.int x_cats) w_text (.int x_typed) (.ref q_row) (.int x_rowMany) (.int (0 : Int32)) x_read_67 (.int x_length_67) (.int x_top_67) (.int x_at_67) (.int x_wrong_67) w_told (.ref q_rule) w_otherRule (.int x_ruleSize) (.int x_isAsked_67) (.ref q_asked) w_undos (.int x_undoMany) w_aside (.ref q_then) (.ref q_hold) (.int x_dropped_67) w_acts w_guarded w_train (.int x_trolleyEnd) w_feltOf w_feltBy (.int x_feltMany) w_many w_heardOf w_heardBy (.int x_heardMany) w_worth (.int u_88) (.int x_came) w_kept w_isKept w_keptCame), (q_now, aI cT 47 f_now), (q_then, aI cT 47 f_then_67), (q_asked, aI cT 7 f_asked_67), (q_rule, aB cT 40 f_rule), (q_hold, aI cT 6 f_hold_67), (q_row, aJ cT 16 f_row)] → va_S A s.heap H locs → lv_has ls 7 [(0, .ref h), (2, .int p2), (3, .int y3_41), (4, .int r_48), (5, .int r_88)] → W p l e (rmO 326 10196 0 0) s m ([.ref h, .int p1, .int p2] : List Value).toArray below meth c H locs 0 0 (MQ below (va_Qi Post (cB D A (fun (u : (Int32 × Int32 × Value × Int32 × Int32 × Int32 × Int32 × Int32 × Int32 × Int32 × (Nat → Int32) × (Nat → Int32) × (Nat → Int32) × (Nat → Int64))) => [(h, oX8 (.ref q_now) (.int x_arches) (.int x_cats) w_text (.int x_typed) (.ref q_row) (.int u.1) (.int u.2.1) u.2.2.1 (.int u.2.2.2.1) (.int u.2.2.2.2.1) (.int u.2.2.2.2.2.1) (.int u.2.2.2.2.2.2.1) w_told (.ref q_rule) w_otherRule (.int x_ruleSize) (.int u.2.2.2.2.2.2.2.1) (.ref q_asked) w_undos (.int x_undoMany) w_aside (.ref q_then) (.ref q_hold) (.int u.2.2.2.2.2.2.2.2.1) w_acts w_guarded w_train (.int x_trolleyEnd) w_feltOf w_feltBy (.int x_feltMany) w_many w_heardOf w_heardBy (.int x_heardMany) w_worth (.int u.2.2.2.2.2.2.2.2.2.1) (.int x_came) w_kept w_isKept w_keptCame), (q_now, aI cT 47 f_now), (q_then, aI cT 47 u.2.2.2.2.2.2.2.2.2.2.1), (q_asked, aI cT 7 u.2.2.2.2.2.2.2.2.2.2.2.1), (q_rule, aB cT 40 f_rule), (q_hold, aI cT 6 u.2.2.2.2.2.2.2.2.2.2.2.2.1), (q_row, aJ cT 16 u.2.2.2.2.2.2.2.2.2.2.2.2.2)])) A) ([.ref h, .int p1, .int p2] : List Value).toArray s 0 0 A) (F0 m 106 ls [.int s2_106, .ref h, .int (1 : Int32)]) := by
        intro r_48 x_read_67 x_length_67 x_top_67 x_at_67 x_wrong_67 x_isAsked_67 x_dropped_67 f_then_67 f_asked_67 f_hold_67 r_88 u_88 y3_41 s2_106 H locs ls hg hP hD hS hl
        unfold p_X8_years_106 at hg
        refine k_Vi (rest := [.int (1 : Int32)]) (wr := [(q_now, aI cT 47 f_now), (q_then, aI cT 47 f_then_67), (q_asked, aI cT 7 f_asked_67), (q_rule, aB cT 40 f_rule), (q_hold, aI cT 6 f_hold_67), (q_row, aJ cT 16 f_row)]) (w2 := fun u_106 => [(q_now, aI cT 47 f_now), (q_then, aI cT 47 f_then_67), (q_asked, aI cT 7 f_asked_67), (q_rule, aB cT 40 f_rule), (q_hold, aI cT 6 f_hold_67), (q_row, aJ cT 16 f_row), (h, oX8 (.ref q_now) (.int x_arches) (.int x_cats) w_text (.int x_typed) (.ref q_row) (.int x_rowMany) (.int (0 : Int32)) x_read_67 (.int x_length_67) (.int x_top_67) (.int x_at_67) (.int x_wrong_67) w_told (.ref q_rule) w_otherRule (.int x_ruleSize) (.int x_isAsked_67) (.ref q_asked) w_undos (.int x_undoMany) w_aside (.ref q_then) (.ref q_hold) (.int x_dropped_67) w_acts w_guarded w_train (.int x_trolleyEnd) w_feltOf w_feltBy (.int x_feltMany) w_many w_heardOf w_heardBy (.int x_heardMany) w_worth (.int u_106) (.int x_came) w_kept w_isKept w_keptCame)]) C0 lk_X8_387 (c_X8_draw l D cT F h s2_106 (.ref q_now) x_arches x_cats w_text x_typed (.ref q_row) x_rowMany (0 : Int32) x_read_67 x_length_67 x_top_67 x_at_67 x_wrong_67 w_told (.ref q_rule) w_otherRule x_ruleSize x_isAsked_67 (.ref q_asked) w_undos x_undoMany w_aside (.ref q_then) (.ref q_hold) x_dropped_67 w_acts w_guarded w_train x_trolleyEnd w_feltOf w_feltBy x_feltMany w_many w_heardOf w_heardBy x_heardMany w_worth u_88 x_came w_kept w_isKept w_keptCame _ hg) hP hD hS hA [0] [1, 2, 3, 4, 5, 6] (by decide +kernel) rfl rfl (fun _ => rfl) rfl rfl ⟨Nat.le_of_ble_eq_true rfl, Nat.le_of_ble_eq_true rfl⟩ rfl hl.1 rfl (Nat.le_of_ble_eq_true rfl) dX8_years_106 ⟨Nat.le_of_ble_eq_true rfl, Nat.le_of_ble_eq_true rfl⟩ ?_
        intro r_106 u_106 H locs hg hP hD hS
        refine lv_iadd hx hb dX8_years_109 ?_
        refine lv_istore (lv' := [(6, .int ((1 : Int32) + r_106)), (0, .ref h), (2, .int p2), (3, .int y3_41), (4, .int r_48), (5, .int r_88)]) hx hb dX8_years_110 hl (by decide) rfl (fun ls hl => ?_)
        refine lv_iload hx hb dX8_years_112 (lv_at hl 4 rfl) ?_
        refine lv_iconst (v := (3 : Int32)) hx hb dX8_years_114 (by decide) ?_
        refine lv_icmp_ne (tgt := 132) hx hb dX8_years_115 (by decide) (fun c_115 => ?_) (fun c_115 => ?_)
        · have hg := hg.1 c_115
          refine lv_aload_n hx hb dX8_years_132 rfl (lv_at hl 1 rfl) ?_
          refine lv_aload_n hx hb dX8_years_133 rfl (lv_at hl 1 rfl) ?_
          refine gf_X8_39 C0 hP 6 rfl rfl dX8_years_134 ?_
          refine lv_iload hx hb dX8_years_137 (lv_at hl 5 rfl) ?_
          refine lv_iload hx hb dX8_years_139 (lv_at hl 0 rfl) ?_
          refine k_Vxi (rest := []) C0 lk_X8_257 (c_X8_refusesFeed l D cT F h q_then r_88 ((1 : Int32) + r_106) (.ref q_now) x_arches x_cats w_text x_typed (.ref q_row) x_rowMany (0 : Int32) x_read_67 x_length_67 x_top_67 x_at_67 x_wrong_67 w_told (.ref q_rule) w_otherRule x_ruleSize x_isAsked_67 (.ref q_asked) w_undos x_undoMany w_aside (.ref q_then) (.ref q_hold) x_dropped_67 w_acts w_guarded w_train x_trolleyEnd w_feltOf w_feltBy x_feltMany w_many w_heardOf w_heardBy x_heardMany w_worth u_106 x_came w_kept w_isKept w_keptCame 47 f_then_67 _ hg) hP hD hS hA [6, 1] (by decide +kernel) rfl rfl rfl ⟨Nat.le_of_ble_eq_true rfl, Nat.le_of_ble_eq_true rfl⟩ rfl hl.1 rfl (Nat.le_of_ble_eq_true rfl) dX8_years_141 ⟨Nat.le_of_ble_eq_true rfl, Nat.le_of_ble_eq_true rfl⟩ (fun r_141 hg => ?_)
          refine lv_if_ne (tgt := 158) hx hb dX8_years_144 (by decide) (fun c_144 => ?_) (fun c_144 => ?_)
          · have hg := hg.1 c_144
            exact L158 x_read_67 x_length_67 x_top_67 x_at_67 x_wrong_67 x_isAsked_67 x_dropped_67 f_asked_67 f_hold_67 y3_41 u_106 f_then_67 _ _ _ hg (subP hP [6, 0, 1, 2, 3, 4, 5] rfl) (hD.sub [6, 0, 1, 2, 3, 4, 5] (nd2_ok _ (by decide +kernel)) rfl) hS (lv_sub hl [1, 2, 3] rfl)
          have hg := hg.2 c_144
          refine lv_aload_n hx hb dX8_years_147 rfl (lv_at hl 1 rfl) ?_
          refine gf_X8_39 C0 hP 6 rfl rfl dX8_years_148 ?_
          refine lv_iload hx hb dX8_years_151 (lv_at hl 5 rfl) ?_
          refine lv_iload hx hb dX8_years_153 (lv_at hl 0 rfl) ?_
          refine k_Sv (rest := []) (wr := [(q_now, aI cT 47 f_now), (q_asked, aI cT 7 f_asked_67), (q_rule, aB cT 40 f_rule), (q_hold, aI cT 6 f_hold_67), (q_row, aJ cT 16 f_row), (h, oX8 (.ref q_now) (.int x_arches) (.int x_cats) w_text (.int x_typed) (.ref q_row) (.int x_rowMany) (.int (0 : Int32)) x_read_67 (.int x_length_67) (.int x_top_67) (.int x_at_67) (.int x_wrong_67) w_told (.ref q_rule) w_otherRule (.int x_ruleSize) (.int x_isAsked_67) (.ref q_asked) w_undos (.int x_undoMany) w_aside (.ref q_then) (.ref q_hold) (.int x_dropped_67) w_acts w_guarded w_train (.int x_trolleyEnd) w_feltOf w_feltBy (.int x_feltMany) w_many w_heardOf w_heardBy (.int x_heardMany) w_worth (.int u_106) (.int x_came) w_kept w_isKept w_keptCame)]) (w2 := fun u_155 => [(q_now, aI cT 47 f_now), (q_asked, aI cT 7 f_asked_67), (q_rule, aB cT 40 f_rule), (q_hold, aI cT 6 f_hold_67), (q_row, aJ cT 16 f_row), (h, oX8 (.ref q_now) (.int x_arches) (.int x_cats) w_text (.int x_typed) (.ref q_row) (.int x_rowMany) (.int (0 : Int32)) x_read_67 (.int x_length_67) (.int x_top_67) (.int x_at_67) (.int x_wrong_67) w_told (.ref q_rule) w_otherRule (.int x_ruleSize) (.int x_isAsked_67) (.ref q_asked) w_undos (.int x_undoMany) w_aside (.ref q_then) (.ref q_hold) (.int x_dropped_67) w_acts w_guarded w_train (.int x_trolleyEnd) w_feltOf w_feltBy (.int x_feltMany) w_many w_heardOf w_heardBy (.int x_heardMany) w_worth (.int u_106) (.int x_came) w_kept w_isKept w_keptCame), (q_then, aI cT 47 u_155)]) C0 lk_X8_260 (c_X8_goFeed l D cT F q_then r_88 ((1 : Int32) + r_106) 47 f_then_67 _ hg) hP hD hS hA [1] [0, 2, 3, 4, 5, 6] (by decide +kernel) rfl rfl (fun _ => rfl) ⟨Nat.le_of_ble_eq_true rfl, Nat.le_of_ble_eq_true rfl⟩ rfl hl.1 rfl (Nat.le_of_ble_eq_true rfl) dX8_years_155 ⟨Nat.le_of_ble_eq_true rfl, Nat.le_of_ble_eq_true rfl⟩ ?_
          intro u_155 H locs hg hP hD hS
          exact L158 x_read_67 x_length_67 x_top_67 x_at_67 x_wrong_67 x_isAsked_67 x_dropped_67 f_asked_67 f_hold_67 y3_41 u_106 u_155 _ _ _ hg (subP hP [5, 0, 6, 1, 2, 3, 4] rfl) (hD.sub [5, 0, 6, 1, 2, 3, 4] (nd2_ok _ (by decide +kernel)) rfl) hS (lv_sub hl [1, 2, 3] rfl)
        have hg := hg.2 c_115
        refine lv_aload_n hx hb dX8_years_118 rfl (lv_at hl 1 rfl) ?_
        refine gf_X8_39 C0 hP 6 rfl rfl dX8_years_119 ?_
        refine lv_iload hx hb dX8_years_122 (lv_at hl 5 rfl) ?_
        refine lv_iload hx hb dX8_years_124 (lv_at hl 0 rfl) ?_
        refine k_Sv (rest := []) (wr := [(q_now, aI cT 47 f_now), (q_asked, aI cT 7 f_asked_67), (q_rule, aB cT 40 f_rule), (q_hold, aI cT 6 f_hold_67), (q_row, aJ cT 16 f_row), (h, oX8 (.ref q_now) (.int x_arches) (.int x_cats) w_text (.int x_typed) (.ref q_row) (.int x_rowMany) (.int (0 : Int32)) x_read_67 (.int x_length_67) (.int x_top_67) (.int x_at_67) (.int x_wrong_67) w_told (.ref q_rule) w_otherRule (.int x_ruleSize) (.int x_isAsked_67) (.ref q_asked) w_undos (.int x_undoMany) w_aside (.ref q_then) (.ref q_hold) (.int x_dropped_67) w_acts w_guarded w_train (.int x_trolleyEnd) w_feltOf w_feltBy (.int x_feltMany) w_many w_heardOf w_heardBy (.int x_heardMany) w_worth (.int u_106) (.int x_came) w_kept w_isKept w_keptCame)]) (w2 := fun u_126 => [(q_now, aI cT 47 f_now), (q_asked, aI cT 7 f_asked_67), (q_rule, aB cT 40 f_rule), (q_hold, aI cT 6 f_hold_67), (q_row, aJ cT 16 f_row), (h, oX8 (.ref q_now) (.int x_arches) (.int x_cats) w_text (.int x_typed) (.ref q_row) (.int x_rowMany) (.int (0 : Int32)) x_read_67 (.int x_length_67) (.int x_top_67) (.int x_at_67) (.int x_wrong_67) w_told (.ref q_rule) w_otherRule (.int x_ruleSize) (.int x_isAsked_67) (.ref q_asked) w_undos (.int x_undoMany) w_aside (.ref q_then) (.ref q_hold) (.int x_dropped_67) w_acts w_guarded w_train (.int x_trolleyEnd) w_feltOf w_feltBy (.int x_feltMany) w_many w_heardOf w_heardBy (.int x_heardMany) w_worth (.int u_106) (.int x_came) w_kept w_isKept w_keptCame), (q_then, aI cT 47 u_126)]) C0 lk_X8_271 (c_X8_goGrieve l D cT F q_then r_88 ((1 : Int32) + r_106) 47 f_then_67 _ hg) hP hD hS hA [1] [0, 2, 3, 4, 5, 6] (by decide +kernel) rfl rfl (fun _ => rfl) ⟨Nat.le_of_ble_eq_true rfl, Nat.le_of_ble_eq_true rfl⟩ rfl hl.1 rfl (Nat.le_of_ble_eq_true rfl) dX8_years_126 ⟨Nat.le_of_ble_eq_true rfl, Nat.le_of_ble_eq_true rfl⟩ ?_
        intro u_126 H locs hg hP hD hS
        refine lv_goto (tgt := 158) hx hb dX8_years_129 (by decide) ?_
        exact L158 x_read_67 x_length_67 x_top_67 x_at_67 x_wrong_67 x_isAsked_67 x_dropped_67 f_asked_67 f_hold_67 y3_41 u_106 u_126 _ _ _ hg (subP hP [5, 0, 6, 1, 2, 3, 4] rfl) (hD.sub [5, 0, 6, 1, 2, 3, 4] (nd2_ok _ (by decide +kernel)) rfl) hS (lv_sub hl [1, 2, 3] rfl)
      have L67 : ∀ (r_48 : Int32) (u_48 : Int32) (y3_41 : Int32) (x_read_67 : Value) (x_length_67 : Int32) (x_top_67 : Int32) (x_at_67 : Int32) (x_wrong_67 : Int32) (x_isAsked_67 : Int32) (x_dropped_67 : Int32) (f_then_67 : Nat → Int32) (f_asked_67 : Nat → Int32) (f_hold_67 : Nat → Int32) (H : Heap) (locs : List Loc) (ls : Array Slot), p_X8_years_67 F x_cats r_48 u_48 y3_41 (p_X8_years_41 F p2 x_arches x_cats q_rule x_ruleSize f_rule f_row Post n41) Post x_read_67 x_length_67 x_top_67 x_at_67 x_wrong_67 x_isAsked_67 x_dropped_67 f_then_67 f_asked_67 f_hold_67 → va_P D cls9 [(h, oX8 (.ref q_now) (.int x_arches) (.int x_cats) w_text (.int x_typed) (.ref q_row) (.int x_rowMany) (.int (0 : Int32)) x_read_67 (.int x_length_67) (.int x_top_67) (.int x_at_67) (.int x_wrong_67) w_told (.ref q_rule) w_otherRule (.int x_ruleSize) (.int x_isAsked_67) (.ref q_asked) w_undos (.int x_undoMany) w_aside (.ref q_then) (.ref q_hold) (.int x_dropped_67) w_acts w_guarded w_train (.int x_trolleyEnd) w_feltOf w_feltBy (.int x_feltMany) w_many w_heardOf w_heardBy (.int x_heardMany) w_worth (.int u_48) (.int x_came) w_kept w_isKept w_keptCame), (q_now, aI cT 47 f_now), (q_then, aI cT 47 f_then_67), (q_asked, aI cT 7 f_asked_67), (q_rule, aB cT 40 f_rule), (q_hold, aI cT 6 f_hold_67), (q_row, aJ cT 16 f_row)] H → va_D A [(h, oX8 (.ref q_now) (.int x_arches) (.int x_cats) w_text (.int x_typed) (.ref q_row) (.int x_rowMany) (.int (0 : Int32)) x_read_67 (.int x_length_67) (.int x_top_67) (.int x_at_67) (.int x_wrong_67) w_told (.ref q_rule) w_otherRule (.int x_ruleSize) (.int x_isAsked_67) (.ref q_asked) w_undos (.int x_undoMany) w_aside (.ref q_then) (.ref q_hold) (.int x_dropped_67) w_acts w_guarded w_train (.int x_trolleyEnd) w_feltOf w_feltBy (.int x_feltMany) w_many w_heardOf w_heardBy (.int x_heardMany) w_worth (.int u_48) (.int x_came) w_kept w_isKept w_keptCame), (q_now, aI cT 47 f_now), (q_then, aI cT 47 f_then_67), (q_asked, aI cT 7 f_asked_67), (q_rule, aB cT 40 f_rule), (q_hold, aI cT 6 f_hold_67), (q_row, aJ cT 16 f_row)] → va_S A s.heap H locs → lv_has ls 7 [(0, .ref h), (2, .int p2), (3, .int y3_41), (4, .int r_48)] → W p l e (rmO 326 10196 0 0) s m ([.ref h, .int p1, .int p2] : List Value).toArray below meth c H locs 0 0 (MQ below (va_Qi Post (cB D A (fun (u : (Int32 × Int32 × Value × Int32 × Int32 × Int32 × Int32 × Int32 × Int32 × Int32 × (Nat → Int32) × (Nat → Int32) × (Nat → Int32) × (Nat → Int64))) => [(h, oX8 (.ref q_now) (.int x_arches) (.int x_cats) w_text (.int x_typed) (.ref q_row) (.int u.1) (.int u.2.1) u.2.2.1 (.int u.2.2.2.1) (.int u.2.2.2.2.1) (.int u.2.2.2.2.2.1) (.int u.2.2.2.2.2.2.1) w_told (.ref q_rule) w_otherRule (.int x_ruleSize) (.int u.2.2.2.2.2.2.2.1) (.ref q_asked) w_undos (.int x_undoMany) w_aside (.ref q_then) (.ref q_hold) (.int u.2.2.2.2.2.2.2.2.1) w_acts w_guarded w_train (.int x_trolleyEnd) w_feltOf w_feltBy (.int x_feltMany) w_many w_heardOf w_heardBy (.int x_heardMany) w_worth (.int u.2.2.2.2.2.2.2.2.2.1) (.int x_came) w_kept w_isKept w_keptCame), (q_now, aI cT 47 f_now), (q_then, aI cT 47 u.2.2.2.2.2.2.2.2.2.2.1), (q_asked, aI cT 7 u.2.2.2.2.2.2.2.2.2.2.2.1), (q_rule, aB cT 40 f_rule), (q_hold, aI cT 6 u.2.2.2.2.2.2.2.2.2.2.2.2.1), (q_row, aJ cT 16 u.2.2.2.2.2.2.2.2.2.2.2.2.2)])) A) ([.ref h, .int p1, .int p2] : List Value).toArray s 0 0 A) (F0 m 67 ls []) := by
        intro r_48 u_48 y3_41 x_read_67 x_length_67 x_top_67 x_at_67 x_wrong_67 x_isAsked_67 x_dropped_67 f_then_67 f_asked_67 f_hold_67 H locs ls hg hP hD hS hl
        unfold p_X8_years_67 at hg
        refine lv_iload hx hb dX8_years_67 (lv_at hl 3 rfl) ?_
        refine lv_iconst (v := (2 : Int32)) hx hb dX8_years_69 (by decide) ?_
        refine lv_icmp_lt (tgt := 158) hx hb dX8_years_70 (by decide) (fun c_70 => ?_) (fun c_70 => ?_)
        · have hg := hg.1 c_70
          exact L158 x_read_67 x_length_67 x_top_67 x_at_67 x_wrong_67 x_isAsked_67 x_dropped_67 f_asked_67 f_hold_67 y3_41 u_48 f_then_67 _ _ _ hg hP hD hS (lv_sub hl [0, 1, 2] rfl)
        have hg := hg.2 c_70
        refine lv_aload_n hx hb dX8_years_73 rfl (lv_at hl 0 rfl) ?_
        refine gf_X8_96 C0 hP 0 rfl rfl dX8_years_74 ?_
        refine lv_if_ne (tgt := 83) hx hb dX8_years_77 (by decide) (fun c_77 => ?_) (fun c_77 => ?_)
        · have hg := hg.1 c_77
          refine lv_aload_n hx hb dX8_years_83 rfl (lv_at hl 0 rfl) ?_
          refine lv_aload_n hx hb dX8_years_84 rfl (lv_at hl 0 rfl) ?_
          refine gf_X8_96 C0 hP 0 rfl rfl dX8_years_85 ?_
          refine k_Vi (rest := []) (wr := [(q_now, aI cT 47 f_now), (q_then, aI cT 47 f_then_67), (q_asked, aI cT 7 f_asked_67), (q_rule, aB cT 40 f_rule), (q_hold, aI cT 6 f_hold_67), (q_row, aJ cT 16 f_row)]) (w2 := fun u_88 => [(q_now, aI cT 47 f_now), (q_then, aI cT 47 f_then_67), (q_asked, aI cT 7 f_asked_67), (q_rule, aB cT 40 f_rule), (q_hold, aI cT 6 f_hold_67), (q_row, aJ cT 16 f_row), (h, oX8 (.ref q_now) (.int x_arches) (.int x_cats) w_text (.int x_typed) (.ref q_row) (.int x_rowMany) (.int (0 : Int32)) x_read_67 (.int x_length_67) (.int x_top_67) (.int x_at_67) (.int x_wrong_67) w_told (.ref q_rule) w_otherRule (.int x_ruleSize) (.int x_isAsked_67) (.ref q_asked) w_undos (.int x_undoMany) w_aside (.ref q_then) (.ref q_hold) (.int x_dropped_67) w_acts w_guarded w_train (.int x_trolleyEnd) w_feltOf w_feltBy (.int x_feltMany) w_many w_heardOf w_heardBy (.int x_heardMany) w_worth (.int u_88) (.int x_came) w_kept w_isKept w_keptCame)]) C0 lk_X8_387 (c_X8_draw l D cT F h x_cats (.ref q_now) x_arches x_cats w_text x_typed (.ref q_row) x_rowMany (0 : Int32) x_read_67 x_length_67 x_top_67 x_at_67 x_wrong_67 w_told (.ref q_rule) w_otherRule x_ruleSize x_isAsked_67 (.ref q_asked) w_undos x_undoMany w_aside (.ref q_then) (.ref q_hold) x_dropped_67 w_acts w_guarded w_train x_trolleyEnd w_feltOf w_feltBy x_feltMany w_many w_heardOf w_heardBy x_heardMany w_worth u_48 x_came w_kept w_isKept w_keptCame _ hg) hP hD hS hA [0] [1, 2, 3, 4, 5, 6] (by decide +kernel) rfl rfl (fun _ => rfl) rfl rfl ⟨Nat.le_of_ble_eq_true rfl, Nat.le_of_ble_eq_true rfl⟩ rfl hl.1 rfl (Nat.le_of_ble_eq_true rfl) dX8_years_88 ⟨Nat.le_of_ble_eq_true rfl, Nat.le_of_ble_eq_true rfl⟩ ?_
          intro r_88 u_88 H locs hg hP hD hS
          refine lv_istore (lv' := [(5, .int r_88), (0, .ref h), (2, .int p2), (3, .int y3_41), (4, .int r_48)]) hx hb dX8_years_91 hl (by decide) rfl (fun ls hl => ?_)
          refine lv_iconst (v := (1 : Int32)) hx hb dX8_years_93 (by decide) ?_
          refine lv_aload_n hx hb dX8_years_94 rfl (lv_at hl 1 rfl) ?_
          refine lv_iload hx hb dX8_years_95 (lv_at hl 4 rfl) ?_
          refine lv_iconst (v := (2 : Int32)) hx hb dX8_years_97 (by decide) ?_
          refine lv_icmp_ne (tgt := 105) hx hb dX8_years_98 (by decide) (fun c_98 => ?_) (fun c_98 => ?_)
          · have hg := hg.1 c_98
            refine lv_iconst (v := (5 : Int32)) hx hb dX8_years_105 (by decide) ?_
            exact L106 r_48 x_read_67 x_length_67 x_top_67 x_at_67 x_wrong_67 x_isAsked_67 x_dropped_67 f_then_67 f_asked_67 f_hold_67 r_88 u_88 y3_41 (5 : Int32) _ _ _ hg (subP hP [6, 0, 1, 2, 3, 4, 5] rfl) (hD.sub [6, 0, 1, 2, 3, 4, 5] (nd2_ok _ (by decide +kernel)) rfl) hS (lv_sub hl [1, 2, 3, 4, 0] rfl)
          have hg := hg.2 c_98
          refine lv_iconst (v := (3 : Int32)) hx hb dX8_years_101 (by decide) ?_
          refine lv_goto (tgt := 106) hx hb dX8_years_102 (by decide) ?_
          exact L106 r_48 x_read_67 x_length_67 x_top_67 x_at_67 x_wrong_67 x_isAsked_67 x_dropped_67 f_then_67 f_asked_67 f_hold_67 r_88 u_88 y3_41 (3 : Int32) _ _ _ hg (subP hP [6, 0, 1, 2, 3, 4, 5] rfl) (hD.sub [6, 0, 1, 2, 3, 4, 5] (nd2_ok _ (by decide +kernel)) rfl) hS (lv_sub hl [1, 2, 3, 4, 0] rfl)
        have hg := hg.2 c_77
        refine lv_goto (tgt := 158) hx hb dX8_years_80 (by decide) ?_
        exact L158 x_read_67 x_length_67 x_top_67 x_at_67 x_wrong_67 x_isAsked_67 x_dropped_67 f_asked_67 f_hold_67 y3_41 u_48 f_then_67 _ _ _ hg hP hD hS (lv_sub hl [0, 1, 2] rfl)
      intro y3_41 x_read_41 x_length_41 x_top_41 x_at_41 x_wrong_41 x_isAsked_41 x_dropped_41 x_drawn_41 f_then_41 f_asked_41 f_hold_41 H locs ls hg hP hD hS hl
      rw [p_X8_years_41_s] at hg
      refine lv_iload_n hx hb dX8_years_41 rfl (lv_at hl 2 rfl) ?_
      refine lv_iload_n hx hb dX8_years_42 rfl (lv_at hl 1 rfl) ?_
      refine lv_icmp_ge (tgt := 164) hx hb dX8_years_43 (by decide) (fun c_43 => ?_) (fun c_43 => ?_)
      · have hg := hg.1 c_43
        refine lv_aload_n hx hb dX8_years_164 rfl (lv_at hl 0 rfl) ?_
        refine lv_iconst (v := (0 : Int32)) hx hb dX8_years_165 (by decide) ?_
        refine pf_X8_86 C0 hP hD hS 0 rfl (Nat.le_of_ble_eq_true rfl) (ws2 := [(h, oX8 (.ref q_now) (.int x_arches) (.int x_cats) w_text (.int x_typed) (.ref q_row) (.int (0 : Int32)) (.int (0 : Int32)) x_read_41 (.int x_length_41) (.int x_top_41) (.int x_at_41) (.int x_wrong_41) w_told (.ref q_rule) w_otherRule (.int x_ruleSize) (.int x_isAsked_41) (.ref q_asked) w_undos (.int x_undoMany) w_aside (.ref q_then) (.ref q_hold) (.int x_dropped_41) w_acts w_guarded w_train (.int x_trolleyEnd) w_feltOf w_feltBy (.int x_feltMany) w_many w_heardOf w_heardBy (.int x_heardMany) w_worth (.int x_drawn_41) (.int x_came) w_kept w_isKept w_keptCame), (q_now, aI cT 47 f_now), (q_then, aI cT 47 f_then_41), (q_asked, aI cT 7 f_asked_41), (q_rule, aB cT 40 f_rule), (q_hold, aI cT 6 f_hold_41), (q_row, aJ cT 16 f_row)]) rfl dX8_years_166 (fun H locs hP hD hS => ?_)
        refine lv_aload_n hx hb dX8_years_169 rfl (lv_at hl 0 rfl) ?_
        refine lv_aload_n hx hb dX8_years_170 rfl (lv_at hl 0 rfl) ?_
        refine gf_X8_235 C0 hP 0 rfl rfl dX8_years_171 ?_
        refine lv_i2l (v := (x_dropped_41.toInt64)) hx hb dX8_years_174 rfl ?_
        refine k_Vv (rest := []) (wr := [(q_now, aI cT 47 f_now), (q_then, aI cT 47 f_then_41), (q_asked, aI cT 7 f_asked_41), (q_rule, aB cT 40 f_rule), (q_hold, aI cT 6 f_hold_41)]) (w2 := fun u_175 => [(q_now, aI cT 47 f_now), (q_then, aI cT 47 f_then_41), (q_asked, aI cT 7 f_asked_41), (q_rule, aB cT 40 f_rule), (q_hold, aI cT 6 f_hold_41), (h, oX8 (.ref q_now) (.int x_arches) (.int x_cats) w_text (.int x_typed) (.ref q_row) (.int u_175.1) (.int (0 : Int32)) x_read_41 (.int x_length_41) (.int x_top_41) (.int x_at_41) (.int x_wrong_41) w_told (.ref q_rule) w_otherRule (.int x_ruleSize) (.int x_isAsked_41) (.ref q_asked) w_undos (.int x_undoMany) w_aside (.ref q_then) (.ref q_hold) (.int x_dropped_41) w_acts w_guarded w_train (.int x_trolleyEnd) w_feltOf w_feltBy (.int x_feltMany) w_many w_heardOf w_heardBy (.int x_heardMany) w_worth (.int x_drawn_41) (.int x_came) w_kept w_isKept w_keptCame), (q_row, aJ cT 16 u_175.2)]) C0 lk_X8_249 (c_X8_tell l D cT F h (x_dropped_41.toInt64) (.ref q_now) x_arches x_cats w_text x_typed q_row (0 : Int32) (0 : Int32) x_read_41 x_length_41 x_top_41 x_at_41 x_wrong_41 w_told (.ref q_rule) w_otherRule x_ruleSize x_isAsked_41 (.ref q_asked) w_undos x_undoMany w_aside (.ref q_then) (.ref q_hold) x_dropped_41 w_acts w_guarded w_train x_trolleyEnd w_feltOf w_feltBy x_feltMany w_many w_heardOf w_heardBy x_heardMany w_worth x_drawn_41 x_came w_kept w_isKept w_keptCame f_row _ hg) hP hD hS hA [0, 6] [1, 2, 3, 4, 5] (by decide +kernel) rfl rfl (fun _ => rfl) rfl rfl ⟨Nat.le_of_ble_eq_true rfl, Nat.le_of_ble_eq_true rfl⟩ rfl hl.1 rfl (Nat.le_of_ble_eq_true rfl) dX8_years_175 ⟨Nat.le_of_ble_eq_true rfl, Nat.le_of_ble_eq_true rfl⟩ ?_
        intro u_175 H locs hg hP hD hS
        refine lv_aload_n hx hb dX8_years_178 rfl (lv_at hl 0 rfl) ?_
        refine lv_aload_n hx hb dX8_years_179 rfl (lv_at hl 0 rfl) ?_
        refine gf_X8_39 C0 hP 5 rfl rfl dX8_years_180 ?_
        refine lv_bipush (v := (44 : Int32)) hx hb dX8_years_183 (by decide) ?_
        obtain ⟨g_185, hg⟩ := hg
        refine k_iald C0 hP 1 rfl g_185 dX8_years_185 ?_
        refine lv_i2l (v := ((f_then_41 (44 : Int32).toNatClampNeg).toInt64)) hx hb dX8_years_186 rfl ?_
        refine k_Vv (rest := []) (wr := [(q_now, aI cT 47 f_now), (q_then, aI cT 47 f_then_41), (q_asked, aI cT 7 f_asked_41), (q_rule, aB cT 40 f_rule), (q_hold, aI cT 6 f_hold_41)]) (w2 := fun u_187 => [(q_now, aI cT 47 f_now), (q_then, aI cT 47 f_then_41), (q_asked, aI cT 7 f_asked_41), (q_rule, aB cT 40 f_rule), (q_hold, aI cT 6 f_hold_41), (h, oX8 (.ref q_now) (.int x_arches) (.int x_cats) w_text (.int x_typed) (.ref q_row) (.int u_187.1) (.int (0 : Int32)) x_read_41 (.int x_length_41) (.int x_top_41) (.int x_at_41) (.int x_wrong_41) w_told (.ref q_rule) w_otherRule (.int x_ruleSize) (.int x_isAsked_41) (.ref q_asked) w_undos (.int x_undoMany) w_aside (.ref q_then) (.ref q_hold) (.int x_dropped_41) w_acts w_guarded w_train (.int x_trolleyEnd) w_feltOf w_feltBy (.int x_feltMany) w_many w_heardOf w_heardBy (.int x_heardMany) w_worth (.int x_drawn_41) (.int x_came) w_kept w_isKept w_keptCame), (q_row, aJ cT 16 u_187.2)]) C0 lk_X8_249 (c_X8_tell l D cT F h ((f_then_41 (44 : Int32).toNatClampNeg).toInt64) (.ref q_now) x_arches x_cats w_text x_typed q_row u_175.1 (0 : Int32) x_read_41 x_length_41 x_top_41 x_at_41 x_wrong_41 w_told (.ref q_rule) w_otherRule x_ruleSize x_isAsked_41 (.ref q_asked) w_undos x_undoMany w_aside (.ref q_then) (.ref q_hold) x_dropped_41 w_acts w_guarded w_train x_trolleyEnd w_feltOf w_feltBy x_feltMany w_many w_heardOf w_heardBy x_heardMany w_worth x_drawn_41 x_came w_kept w_isKept w_keptCame u_175.2 _ hg) hP hD hS hA [5, 6] [0, 1, 2, 3, 4] (by decide +kernel) rfl rfl (fun _ => rfl) rfl rfl ⟨Nat.le_of_ble_eq_true rfl, Nat.le_of_ble_eq_true rfl⟩ rfl hl.1 rfl (Nat.le_of_ble_eq_true rfl) dX8_years_187 ⟨Nat.le_of_ble_eq_true rfl, Nat.le_of_ble_eq_true rfl⟩ ?_
        intro u_187 H locs hg hP hD hS
        refine lv_aload_n hx hb dX8_years_190 rfl (lv_at hl 0 rfl) ?_
        refine lv_aload_n hx hb dX8_years_191 rfl (lv_at hl 0 rfl) ?_
        refine gf_X8_39 C0 hP 5 rfl rfl dX8_years_192 ?_
        refine k_Vxi (rest := []) C0 lk_X8_253 (c_X8_sags l D cT F h q_then (.ref q_now) x_arches x_cats w_text x_typed (.ref q_row) u_187.1 (0 : Int32) x_read_41 x_length_41 x_top_41 x_at_41 x_wrong_41 w_told (.ref q_rule) w_otherRule x_ruleSize x_isAsked_41 (.ref q_asked) w_undos x_undoMany w_aside (.ref q_then) (.ref q_hold) x_dropped_41 w_acts w_guarded w_train x_trolleyEnd w_feltOf w_feltBy x_feltMany w_many w_heardOf w_heardBy x_heardMany w_worth x_drawn_41 x_came w_kept w_isKept w_keptCame 47 f_then_41 _ hg) hP hD hS hA [5, 1] (by decide +kernel) rfl rfl rfl ⟨Nat.le_of_ble_eq_true rfl, Nat.le_of_ble_eq_true rfl⟩ rfl hl.1 rfl (Nat.le_of_ble_eq_true rfl) dX8_years_195 ⟨Nat.le_of_ble_eq_true rfl, Nat.le_of_ble_eq_true rfl⟩ (fun r_195 hg => ?_)
        exact k_iret C0 hr (u_187.1, (0 : Int32), x_read_41, x_length_41, x_top_41, x_at_41, x_wrong_41, x_isAsked_41, x_dropped_41, x_drawn_41, f_then_41, f_asked_41, f_hold_41, u_187.2) hg (subP hP [5, 0, 1, 2, 3, 4, 6] rfl) (hD.sub [5, 0, 1, 2, 3, 4, 6] (nd2_ok _ (by decide +kernel)) rfl) hS dX8_years_198
      have hg := hg.2 c_43
      refine lv_aload_n hx hb dX8_years_46 rfl (lv_at hl 0 rfl) ?_
      refine lv_iconst (v := (4 : Int32)) hx hb dX8_years_47 (by decide) ?_
      refine k_Vi (rest := []) (wr := [(q_now, aI cT 47 f_now), (q_then, aI cT 47 f_then_41), (q_asked, aI cT 7 f_asked_41), (q_rule, aB cT 40 f_rule), (q_hold, aI cT 6 f_hold_41), (q_row, aJ cT 16 f_row)]) (w2 := fun u_48 => [(q_now, aI cT 47 f_now), (q_then, aI cT 47 f_then_41), (q_asked, aI cT 7 f_asked_41), (q_rule, aB cT 40 f_rule), (q_hold, aI cT 6 f_hold_41), (q_row, aJ cT 16 f_row), (h, oX8 (.ref q_now) (.int x_arches) (.int x_cats) w_text (.int x_typed) (.ref q_row) (.int x_rowMany) (.int (0 : Int32)) x_read_41 (.int x_length_41) (.int x_top_41) (.int x_at_41) (.int x_wrong_41) w_told (.ref q_rule) w_otherRule (.int x_ruleSize) (.int x_isAsked_41) (.ref q_asked) w_undos (.int x_undoMany) w_aside (.ref q_then) (.ref q_hold) (.int x_dropped_41) w_acts w_guarded w_train (.int x_trolleyEnd) w_feltOf w_feltBy (.int x_feltMany) w_many w_heardOf w_heardBy (.int x_heardMany) w_worth (.int u_48) (.int x_came) w_kept w_isKept w_keptCame)]) C0 lk_X8_387 (c_X8_draw l D cT F h (4 : Int32) (.ref q_now) x_arches x_cats w_text x_typed (.ref q_row) x_rowMany (0 : Int32) x_read_41 x_length_41 x_top_41 x_at_41 x_wrong_41 w_told (.ref q_rule) w_otherRule x_ruleSize x_isAsked_41 (.ref q_asked) w_undos x_undoMany w_aside (.ref q_then) (.ref q_hold) x_dropped_41 w_acts w_guarded w_train x_trolleyEnd w_feltOf w_feltBy x_feltMany w_many w_heardOf w_heardBy x_heardMany w_worth x_drawn_41 x_came w_kept w_isKept w_keptCame _ hg) hP hD hS hA [0] [1, 2, 3, 4, 5, 6] (by decide +kernel) rfl rfl (fun _ => rfl) rfl rfl ⟨Nat.le_of_ble_eq_true rfl, Nat.le_of_ble_eq_true rfl⟩ rfl hl.1 rfl (Nat.le_of_ble_eq_true rfl) dX8_years_48 ⟨Nat.le_of_ble_eq_true rfl, Nat.le_of_ble_eq_true rfl⟩ ?_
      intro r_48 u_48 H locs hg hP hD hS
      refine lv_istore (lv' := [(4, .int r_48), (0, .ref h), (2, .int p2), (3, .int y3_41)]) hx hb dX8_years_51 hl (by decide) rfl (fun ls hl => ?_)
      refine lv_iload hx hb dX8_years_53 (lv_at hl 0 rfl) ?_
      refine lv_iconst (v := (2 : Int32)) hx hb dX8_years_55 (by decide) ?_
      refine lv_icmp_ge (tgt := 67) hx hb dX8_years_56 (by decide) (fun c_56 => ?_) (fun c_56 => ?_)
      · have hg := hg.1 c_56
        exact L67 r_48 u_48 y3_41 x_read_41 x_length_41 x_top_41 x_at_41 x_wrong_41 x_isAsked_41 x_dropped_41 f_then_41 f_asked_41 f_hold_41 _ _ _ hg (subP hP [6, 0, 1, 2, 3, 4, 5] rfl) (hD.sub [6, 0, 1, 2, 3, 4, 5] (nd2_ok _ (by decide +kernel)) rfl) hS (lv_sub hl [1, 2, 3, 0] rfl)
      have hg := hg.2 c_56
      refine lv_aload_n hx hb dX8_years_59 rfl (lv_at hl 1 rfl) ?_
      refine lv_aload_n hx hb dX8_years_60 rfl (lv_at hl 1 rfl) ?_
      refine gf_X8_39 C0 hP 6 rfl rfl dX8_years_61 ?_
      refine k_Vv (rest := []) (wr := [(q_now, aI cT 47 f_now), (q_row, aJ cT 16 f_row)]) (w2 := fun u_64 => [(q_now, aI cT 47 f_now), (q_row, aJ cT 16 f_row), (h, oX8 (.ref q_now) (.int x_arches) (.int x_cats) w_text (.int x_typed) (.ref q_row) (.int x_rowMany) (.int (0 : Int32)) u_64.1 (.int u_64.2.1) (.int u_64.2.2.1) (.int u_64.2.2.2.1) (.int u_64.2.2.2.2.1) w_told (.ref q_rule) w_otherRule (.int x_ruleSize) (.int u_64.2.2.2.2.2.1) (.ref q_asked) w_undos (.int x_undoMany) w_aside (.ref q_then) (.ref q_hold) (.int u_64.2.2.2.2.2.2.1) w_acts w_guarded w_train (.int x_trolleyEnd) w_feltOf w_feltBy (.int x_feltMany) w_many w_heardOf w_heardBy (.int x_heardMany) w_worth (.int u_48) (.int x_came) w_kept w_isKept w_keptCame), (q_then, aI cT 47 u_64.2.2.2.2.2.2.2.1), (q_asked, aI cT 7 u_64.2.2.2.2.2.2.2.2.1), (q_rule, aB cT 40 f_rule), (q_hold, aI cT 6 u_64.2.2.2.2.2.2.2.2.2)]) C0 lk_X8_238 (c_X8_goHour l D cT F h q_then (.ref q_now) x_arches x_cats w_text x_typed (.ref q_row) x_rowMany (0 : Int32) x_read_41 x_length_41 x_top_41 x_at_41 x_wrong_41 w_told q_rule w_otherRule x_ruleSize x_isAsked_41 q_asked w_undos x_undoMany w_aside (.ref q_then) q_hold x_dropped_41 w_acts w_guarded w_train x_trolleyEnd w_feltOf w_feltBy x_feltMany w_many w_heardOf w_heardBy x_heardMany w_worth u_48 x_came w_kept w_isKept w_keptCame 47 f_then_41 f_asked_41 f_rule f_hold_41 _ hg) hP hD hS hA [6, 1, 2, 3, 4] [0, 5] (by decide +kernel) rfl rfl (fun _ => rfl) rfl rfl ⟨Nat.le_of_ble_eq_true rfl, Nat.le_of_ble_eq_true rfl⟩ rfl hl.1 rfl (Nat.le_of_ble_eq_true rfl) dX8_years_64 ⟨Nat.le_of_ble_eq_true rfl, Nat.le_of_ble_eq_true rfl⟩ ?_
      intro u_64 H locs hg hP hD hS
      exact L67 r_48 u_48 y3_41 u_64.1 u_64.2.1 u_64.2.2.1 u_64.2.2.2.1 u_64.2.2.2.2.1 u_64.2.2.2.2.2.1 u_64.2.2.2.2.2.2.1 u_64.2.2.2.2.2.2.2.1 u_64.2.2.2.2.2.2.2.2.1 u_64.2.2.2.2.2.2.2.2.2 _ _ _ hg (subP hP [2, 0, 3, 4, 5, 6, 1] rfl) (hD.sub [2, 0, 3, 4, 5, 6, 1] (nd2_ok _ (by decide +kernel)) rfl) hS (lv_sub hl [1, 2, 3, 0] rfl)
  unfold p_X8_years at hg
  refine lv_aload_n hx hb dX8_years_0 rfl (lv_at hl 0 rfl) ?_
  refine lv_iconst (v := (0 : Int32)) hx hb dX8_years_1 (by decide) ?_
  refine pf_X8_82 C0 hP hD hS 0 rfl (Nat.le_of_ble_eq_true rfl) (ws2 := [(h, oX8 (.ref q_now) (.int x_arches) (.int x_cats) w_text (.int x_typed) (.ref q_row) (.int x_rowMany) (.int (0 : Int32)) w_read (.int x_length) (.int x_top) (.int x_at) (.int x_wrong) w_told (.ref q_rule) w_otherRule (.int x_ruleSize) (.int x_isAsked) (.ref q_asked) w_undos (.int x_undoMany) w_aside (.ref q_then) (.ref q_hold) (.int x_dropped) w_acts w_guarded w_train (.int x_trolleyEnd) w_feltOf w_feltBy (.int x_feltMany) w_many w_heardOf w_heardBy (.int x_heardMany) w_worth (.int x_drawn) (.int x_came) w_kept w_isKept w_keptCame), (q_now, aI cT 47 f_now), (q_then, aI cT 47 f_then), (q_asked, aI cT 7 f_asked), (q_rule, aB cT 40 f_rule), (q_hold, aI cT 6 f_hold), (q_row, aJ cT 16 f_row)]) rfl dX8_years_2 (fun H locs hP hD hS => ?_)
  refine lv_iload_n hx hb dX8_years_5 rfl (lv_at hl 2 rfl) ?_
  refine lv_iconst (v := (1 : Int32)) hx hb dX8_years_6 (by decide) ?_
  refine lv_bipush (v := (60 : Int32)) hx hb dX8_years_7 (by decide) ?_
  refine k_Sxi (rest := []) C0 lk_X8_92 (c_X8_in l D cT F p2 (1 : Int32) (60 : Int32) _ hg) hP hD hS hA [] (by decide +kernel) rfl ⟨Nat.le_of_ble_eq_true rfl, Nat.le_of_ble_eq_true rfl⟩ rfl hl.1 rfl (Nat.le_of_ble_eq_true rfl) dX8_years_9 ⟨Nat.le_of_ble_eq_true rfl, Nat.le_of_ble_eq_true rfl⟩ (fun r_9 hg => ?_)
  refine lv_if_ne (tgt := 17) hx hb dX8_years_12 (by decide) (fun c_12 => ?_) (fun c_12 => ?_)
  · have hg := hg.1 c_12
    refine lv_aload_n hx hb dX8_years_17 rfl (lv_at hl 0 rfl) ?_
    refine lv_iload_n hx hb dX8_years_18 rfl (lv_at hl 1 rfl) ?_
    refine pf_X8_383 C0 hP hD hS 0 rfl (Nat.le_of_ble_eq_true rfl) (ws2 := [(h, oX8 (.ref q_now) (.int x_arches) (.int x_cats) w_text (.int x_typed) (.ref q_row) (.int x_rowMany) (.int (0 : Int32)) w_read (.int x_length) (.int x_top) (.int x_at) (.int x_wrong) w_told (.ref q_rule) w_otherRule (.int x_ruleSize) (.int x_isAsked) (.ref q_asked) w_undos (.int x_undoMany) w_aside (.ref q_then) (.ref q_hold) (.int x_dropped) w_acts w_guarded w_train (.int x_trolleyEnd) w_feltOf w_feltBy (.int x_feltMany) w_many w_heardOf w_heardBy (.int x_heardMany) w_worth (.int p1) (.int x_came) w_kept w_isKept w_keptCame), (q_now, aI cT 47 f_now), (q_then, aI cT 47 f_then), (q_asked, aI cT 7 f_asked), (q_rule, aB cT 40 f_rule), (q_hold, aI cT 6 f_hold), (q_row, aJ cT 16 f_row)]) rfl dX8_years_19 (fun H locs hP hD hS => ?_)
    refine lv_aload_n hx hb dX8_years_22 rfl (lv_at hl 0 rfl) ?_
    refine gf_X8_9 C0 hP 0 rfl rfl dX8_years_23 ?_
    refine lv_aload_n hx hb dX8_years_26 rfl (lv_at hl 0 rfl) ?_
    refine gf_X8_39 C0 hP 0 rfl rfl dX8_years_27 ?_
    refine lv_iconst (v := (0 : Int32)) hx hb dX8_years_30 (by decide) ?_
    refine k_Sv (rest := []) (wr := [(h, oX8 (.ref q_now) (.int x_arches) (.int x_cats) w_text (.int x_typed) (.ref q_row) (.int x_rowMany) (.int (0 : Int32)) w_read (.int x_length) (.int x_top) (.int x_at) (.int x_wrong) w_told (.ref q_rule) w_otherRule (.int x_ruleSize) (.int x_isAsked) (.ref q_asked) w_undos (.int x_undoMany) w_aside (.ref q_then) (.ref q_hold) (.int x_dropped) w_acts w_guarded w_train (.int x_trolleyEnd) w_feltOf w_feltBy (.int x_feltMany) w_many w_heardOf w_heardBy (.int x_heardMany) w_worth (.int p1) (.int x_came) w_kept w_isKept w_keptCame), (q_asked, aI cT 7 f_asked), (q_rule, aB cT 40 f_rule), (q_hold, aI cT 6 f_hold), (q_row, aJ cT 16 f_row)]) (w2 := fun u_31 => [(h, oX8 (.ref q_now) (.int x_arches) (.int x_cats) w_text (.int x_typed) (.ref q_row) (.int x_rowMany) (.int (0 : Int32)) w_read (.int x_length) (.int x_top) (.int x_at) (.int x_wrong) w_told (.ref q_rule) w_otherRule (.int x_ruleSize) (.int x_isAsked) (.ref q_asked) w_undos (.int x_undoMany) w_aside (.ref q_then) (.ref q_hold) (.int x_dropped) w_acts w_guarded w_train (.int x_trolleyEnd) w_feltOf w_feltBy (.int x_feltMany) w_many w_heardOf w_heardBy (.int x_heardMany) w_worth (.int p1) (.int x_came) w_kept w_isKept w_keptCame), (q_asked, aI cT 7 f_asked), (q_rule, aB cT 40 f_rule), (q_hold, aI cT 6 f_hold), (q_row, aJ cT 16 f_row), (q_now, aI cT 47 f_now), (q_then, aI cT 47 u_31)]) C0 lk_X8_231 (c_X8_lay l D cT F q_now q_then (0 : Int32) 47 f_now 47 f_then _ hg) hP hD hS hA [1, 2] [0, 3, 4, 5, 6] (by decide +kernel) rfl rfl (fun _ => rfl) ⟨Nat.le_of_ble_eq_true rfl, Nat.le_of_ble_eq_true rfl⟩ rfl hl.1 rfl (Nat.le_of_ble_eq_true rfl) dX8_years_31 ⟨Nat.le_of_ble_eq_true rfl, Nat.le_of_ble_eq_true rfl⟩ ?_
    intro u_31 H locs hg hP hD hS
    refine lv_aload_n hx hb dX8_years_34 rfl (lv_at hl 0 rfl) ?_
    refine lv_iconst (v := (0 : Int32)) hx hb dX8_years_35 (by decide) ?_
    refine pf_X8_235 C0 hP hD hS 0 rfl (Nat.le_of_ble_eq_true rfl) (ws2 := [(h, oX8 (.ref q_now) (.int x_arches) (.int x_cats) w_text (.int x_typed) (.ref q_row) (.int x_rowMany) (.int (0 : Int32)) w_read (.int x_length) (.int x_top) (.int x_at) (.int x_wrong) w_told (.ref q_rule) w_otherRule (.int x_ruleSize) (.int x_isAsked) (.ref q_asked) w_undos (.int x_undoMany) w_aside (.ref q_then) (.ref q_hold) (.int (0 : Int32)) w_acts w_guarded w_train (.int x_trolleyEnd) w_feltOf w_feltBy (.int x_feltMany) w_many w_heardOf w_heardBy (.int x_heardMany) w_worth (.int p1) (.int x_came) w_kept w_isKept w_keptCame), (q_asked, aI cT 7 f_asked), (q_rule, aB cT 40 f_rule), (q_hold, aI cT 6 f_hold), (q_row, aJ cT 16 f_row), (q_now, aI cT 47 f_now), (q_then, aI cT 47 u_31)]) rfl dX8_years_36 (fun H locs hP hD hS => ?_)
    refine lv_iconst (v := (0 : Int32)) hx hb dX8_years_39 (by decide) ?_
    refine lv_istore_n (lv' := [(3, .int (0 : Int32)), (0, .ref h), (1, .int p1), (2, .int p2)]) hx hb dX8_years_40 rfl hl (by decide) rfl (fun ls hl => ?_)
    exact L41 F (0 : Int32) w_read x_length x_top x_at x_wrong x_isAsked (0 : Int32) p1 u_31 f_asked f_hold _ _ _ hg (subP hP [0, 5, 6, 1, 2, 3, 4] rfl) (hD.sub [0, 5, 6, 1, 2, 3, 4] (nd2_ok _ (by decide +kernel)) rfl) hS (lv_sub hl [1, 3, 0] rfl)
  have hg := hg.2 c_12
  refine lv_iconst (v := (-1 : Int32)) hx hb dX8_years_15 (by decide) ?_
  exact k_iret C0 hr (x_rowMany, (0 : Int32), w_read, x_length, x_top, x_at, x_wrong, x_isAsked, x_dropped, x_drawn, f_then, f_asked, f_hold, f_row) hg hP hD hS dX8_years_16
theorem dX8_keep_0 : decode cX8_keep 0 = .ok (.aload_n 0, 1) := by decide +kernel
theorem dX8_keep_1 : decode cX8_keep 1 = .ok (.iconst 0, 1) := by decide +kernel
theorem dX8_keep_2 : decode cX8_keep 2 = .ok (.putfield 82, 3) := by decide +kernel
theorem dX8_keep_5 : decode cX8_keep 5 = .ok (.iload_n 1, 1) := by decide +kernel
theorem dX8_keep_6 : decode cX8_keep 6 = .ok (.iconst 0, 1) := by decide +kernel
theorem dX8_keep_7 : decode cX8_keep 7 = .ok (.iconst 1, 1) := by decide +kernel
theorem dX8_keep_8 : decode cX8_keep 8 = .ok (.invokestatic 92, 3) := by decide +kernel
theorem dX8_keep_11 : decode cX8_keep 11 = .ok (.ifCond .ne 5, 3) := by decide +kernel
theorem dX8_keep_14 : decode cX8_keep 14 = .ok (.iconst 0, 1) := by decide +kernel
theorem dX8_keep_15 : decode cX8_keep 15 = .ok (.ireturn, 1) := by decide +kernel
theorem dX8_keep_16 : decode cX8_keep 16 = .ok (.aload_n 0, 1) := by decide +kernel
theorem dX8_keep_17 : decode cX8_keep 17 = .ok (.getfield 75, 3) := by decide +kernel
theorem dX8_keep_20 : decode cX8_keep 20 = .ok (.iload_n 1, 1) := by decide +kernel
theorem dX8_keep_21 : decode cX8_keep 21 = .ok (.iconst 1, 1) := by decide +kernel
theorem dX8_keep_22 : decode cX8_keep 22 = .ok (.bastore, 1) := by decide +kernel
theorem dX8_keep_23 : decode cX8_keep 23 = .ok (.aload_n 0, 1) := by decide +kernel
theorem dX8_keep_24 : decode cX8_keep 24 = .ok (.getfield 79, 3) := by decide +kernel
theorem dX8_keep_27 : decode cX8_keep 27 = .ok (.iload_n 1, 1) := by decide +kernel
theorem dX8_keep_28 : decode cX8_keep 28 = .ok (.aload_n 0, 1) := by decide +kernel
theorem dX8_keep_29 : decode cX8_keep 29 = .ok (.getfield 144, 3) := by decide +kernel
theorem dX8_keep_32 : decode cX8_keep 32 = .ok (.iastore, 1) := by decide +kernel
theorem dX8_keep_33 : decode cX8_keep 33 = .ok (.aload_n 0, 1) := by decide +kernel
theorem dX8_keep_34 : decode cX8_keep 34 = .ok (.getfield 9, 3) := by decide +kernel
theorem dX8_keep_37 : decode cX8_keep 37 = .ok (.aload_n 0, 1) := by decide +kernel
theorem dX8_keep_38 : decode cX8_keep 38 = .ok (.getfield 72, 3) := by decide +kernel
theorem dX8_keep_41 : decode cX8_keep 41 = .ok (.bipush 47, 2) := by decide +kernel
theorem dX8_keep_43 : decode cX8_keep 43 = .ok (.iload_n 1, 1) := by decide +kernel
theorem dX8_keep_44 : decode cX8_keep 44 = .ok (.imul, 1) := by decide +kernel
theorem dX8_keep_45 : decode cX8_keep 45 = .ok (.invokestatic 231, 3) := by decide +kernel
theorem dX8_keep_48 : decode cX8_keep 48 = .ok (.iconst 1, 1) := by decide +kernel
theorem dX8_keep_49 : decode cX8_keep 49 = .ok (.ireturn, 1) := by decide +kernel
def p_X8_keep (F : Nat) (p1 : Int32) (x_came : Int32) (f_isKept : Nat → Int32) (f_keptCame : Nat → Int32) (f_now : Nat → Int32) (f_kept : Nat → Int32) (Post : Int32 → (Int32 × (Nat → Int32) × (Nat → Int32) × (Nat → Int32)) → Prop) : Prop := (p_X8_in F p1 (0 : Int32) (1 : Int32) (fun (r_8 : Int32) => ((¬ r_8 = 0 → (vp_in p1 2 ∧ (vp_in p1 2 ∧ (p_X8_lay F ((47 : Int32) * p1) 47 f_now 94 f_kept (fun (u_45 : (Nat → Int32)) => (Post (1 : Int32) ((0 : Int32), (upd f_isKept p1.toNatClampNeg (vp_nar .boolean (1 : Int32))), (upd f_keptCame p1.toNatClampNeg x_came), u_45))))))) ∧ (r_8 = 0 → (Post (0 : Int32) ((0 : Int32), f_isKept, f_keptCame, f_kept))))))
set_option maxHeartbeats 4000000 in
set_option maxRecDepth 100000 in
theorem c_X8_keep (l : Launch) (D : va_G) (cT : Nat → ClassId) (F : Nat) (h : Nat) (p1 : Int32) (q_now : Nat) (x_arches : Int32) (x_cats : Int32) (w_text : Value) (x_typed : Int32) (w_row : Value) (x_rowMany : Int32) (x_thrown : Int32) (w_read : Value) (x_length : Int32) (x_top : Int32) (x_at : Int32) (x_wrong : Int32) (w_told : Value) (w_rule : Value) (w_otherRule : Value) (x_ruleSize : Int32) (x_isAsked : Int32) (w_asked : Value) (w_undos : Value) (x_undoMany : Int32) (w_aside : Value) (w_then : Value) (w_hold : Value) (x_dropped : Int32) (w_acts : Value) (w_guarded : Value) (w_train : Value) (x_trolleyEnd : Int32) (w_feltOf : Value) (w_feltBy : Value) (x_feltMany : Int32) (w_many : Value) (w_heardOf : Value) (w_heardBy : Value) (x_heardMany : Int32) (w_worth : Value) (x_drawn : Int32) (x_came : Int32) (q_kept : Nat) (q_isKept : Nat) (q_keptCame : Nat) (f_isKept : Nat → Int32) (f_keptCame : Nat → Int32) (f_now : Nat → Int32) (f_kept : Nat → Int32) (Post : Int32 → (Int32 × (Nat → Int32) × (Nat → Int32) × (Nat → Int32)) → Prop) (hg : p_X8_keep F p1 x_came f_isKept f_keptCame f_now f_kept Post) : MWi l D cT yX8_keep cX8_keep 2 (some .boolean) 1 23 0 0 [.ref h, .int p1] [(h, oX8 (.ref q_now) (.int x_arches) (.int x_cats) w_text (.int x_typed) w_row (.int x_rowMany) (.int x_thrown) w_read (.int x_length) (.int x_top) (.int x_at) (.int x_wrong) w_told w_rule w_otherRule (.int x_ruleSize) (.int x_isAsked) w_asked w_undos (.int x_undoMany) w_aside w_then w_hold (.int x_dropped) w_acts w_guarded w_train (.int x_trolleyEnd) w_feltOf w_feltBy (.int x_feltMany) w_many w_heardOf w_heardBy (.int x_heardMany) w_worth (.int x_drawn) (.int x_came) (.ref q_kept) (.ref q_isKept) (.ref q_keptCame)), (q_isKept, aZ cT 2 f_isKept), (q_keptCame, aI cT 2 f_keptCame), (q_now, aI cT 47 f_now), (q_kept, aI cT 94 f_kept)] Post (fun (u : (Int32 × (Nat → Int32) × (Nat → Int32) × (Nat → Int32))) => [(h, oX8 (.ref q_now) (.int x_arches) (.int x_cats) w_text (.int x_typed) w_row (.int x_rowMany) (.int u.1) w_read (.int x_length) (.int x_top) (.int x_at) (.int x_wrong) w_told w_rule w_otherRule (.int x_ruleSize) (.int x_isAsked) w_asked w_undos (.int x_undoMany) w_aside w_then w_hold (.int x_dropped) w_acts w_guarded w_train (.int x_trolleyEnd) w_feltOf w_feltBy (.int x_feltMany) w_many w_heardOf w_heardBy (.int x_heardMany) w_worth (.int x_drawn) (.int x_came) (.ref q_kept) (.ref q_isKept) (.ref q_keptCame)), (q_isKept, aZ cT 2 u.2.1), (q_keptCame, aI cT 2 u.2.2.1), (q_now, aI cT 47 f_now), (q_kept, aI cT 94 u.2.2.2)]) := by
  refine MWi.of (by decide) (Nat.le_of_ble_eq_true rfl) ?_
  intro p e s m below meth c A hA C0 hnm hr hP hD ls hl
  have hl : lv_has ls 2 [(0, .ref h), (1, .int p1)] := hl
  have hx := C0.x
  have hb := C0.b
  have hS : va_S A s.heap s.heap [] := va_S.rf
  have hP : va_P D cls9 [(h, oX8 (.ref q_now) (.int x_arches) (.int x_cats) w_text (.int x_typed) w_row (.int x_rowMany) (.int x_thrown) w_read (.int x_length) (.int x_top) (.int x_at) (.int x_wrong) w_told w_rule w_otherRule (.int x_ruleSize) (.int x_isAsked) w_asked w_undos (.int x_undoMany) w_aside w_then w_hold (.int x_dropped) w_acts w_guarded w_train (.int x_trolleyEnd) w_feltOf w_feltBy (.int x_feltMany) w_many w_heardOf w_heardBy (.int x_heardMany) w_worth (.int x_drawn) (.int x_came) (.ref q_kept) (.ref q_isKept) (.ref q_keptCame)), (q_isKept, aZ cT 2 f_isKept), (q_keptCame, aI cT 2 f_keptCame), (q_now, aI cT 47 f_now), (q_kept, aI cT 94 f_kept)] s.heap := hP
  have hD : va_D A [(h, oX8 (.ref q_now) (.int x_arches) (.int x_cats) w_text (.int x_typed) w_row (.int x_rowMany) (.int x_thrown) w_read (.int x_length) (.int x_top) (.int x_at) (.int x_wrong) w_told w_rule w_otherRule (.int x_ruleSize) (.int x_isAsked) w_asked w_undos (.int x_undoMany) w_aside w_then w_hold (.int x_dropped) w_acts w_guarded w_train (.int x_trolleyEnd) w_feltOf w_feltBy (.int x_feltMany) w_many w_heardOf w_heardBy (.int x_heardMany) w_worth (.int x_drawn) (.int x_came) (.ref q_kept) (.ref q_isKept) (.ref q_keptCame)), (q_isKept, aZ cT 2 f_isKept), (q_keptCame, aI cT 2 f_keptCame), (q_now, aI cT 47 f_now), (q_kept, aI cT 94 f_kept)] := hD
  unfold p_X8_keep at hg
  refine lv_aload_n hx hb dX8_keep_0 rfl (lv_at hl 0 rfl) ?_
  refine lv_iconst (v := (0 : Int32)) hx hb dX8_keep_1 (by decide) ?_
  refine pf_X8_82 C0 hP hD hS 0 rfl (Nat.le_of_ble_eq_true rfl) (ws2 := [(h, oX8 (.ref q_now) (.int x_arches) (.int x_cats) w_text (.int x_typed) w_row (.int x_rowMany) (.int (0 : Int32)) w_read (.int x_length) (.int x_top) (.int x_at) (.int x_wrong) w_told w_rule w_otherRule (.int x_ruleSize) (.int x_isAsked) w_asked w_undos (.int x_undoMany) w_aside w_then w_hold (.int x_dropped) w_acts w_guarded w_train (.int x_trolleyEnd) w_feltOf w_feltBy (.int x_feltMany) w_many w_heardOf w_heardBy (.int x_heardMany) w_worth (.int x_drawn) (.int x_came) (.ref q_kept) (.ref q_isKept) (.ref q_keptCame)), (q_isKept, aZ cT 2 f_isKept), (q_keptCame, aI cT 2 f_keptCame), (q_now, aI cT 47 f_now), (q_kept, aI cT 94 f_kept)]) rfl dX8_keep_2 (fun H locs hP hD hS => ?_)
  refine lv_iload_n hx hb dX8_keep_5 rfl (lv_at hl 1 rfl) ?_
  refine lv_iconst (v := (0 : Int32)) hx hb dX8_keep_6 (by decide) ?_
  refine lv_iconst (v := (1 : Int32)) hx hb dX8_keep_7 (by decide) ?_
  refine k_Sxi (rest := []) C0 lk_X8_92 (c_X8_in l D cT F p1 (0 : Int32) (1 : Int32) _ hg) hP hD hS hA [] (by decide +kernel) rfl ⟨Nat.le_of_ble_eq_true rfl, Nat.le_of_ble_eq_true rfl⟩ rfl hl.1 rfl (Nat.le_of_ble_eq_true rfl) dX8_keep_8 ⟨Nat.le_of_ble_eq_true rfl, Nat.le_of_ble_eq_true rfl⟩ (fun r_8 hg => ?_)
  refine lv_if_ne (tgt := 16) hx hb dX8_keep_11 (by decide) (fun c_11 => ?_) (fun c_11 => ?_)
  · have hg := hg.1 c_11
    refine lv_aload_n hx hb dX8_keep_16 rfl (lv_at hl 0 rfl) ?_
    refine gf_X8_75 C0 hP 0 rfl rfl dX8_keep_17 ?_
    refine lv_iload_n hx hb dX8_keep_20 rfl (lv_at hl 1 rfl) ?_
    refine lv_iconst (v := (1 : Int32)) hx hb dX8_keep_21 (by decide) ?_
    obtain ⟨g_22, hg⟩ := hg
    refine k_zast C0 hP hD hS 1 rfl g_22 (ws' := [(h, oX8 (.ref q_now) (.int x_arches) (.int x_cats) w_text (.int x_typed) w_row (.int x_rowMany) (.int (0 : Int32)) w_read (.int x_length) (.int x_top) (.int x_at) (.int x_wrong) w_told w_rule w_otherRule (.int x_ruleSize) (.int x_isAsked) w_asked w_undos (.int x_undoMany) w_aside w_then w_hold (.int x_dropped) w_acts w_guarded w_train (.int x_trolleyEnd) w_feltOf w_feltBy (.int x_feltMany) w_many w_heardOf w_heardBy (.int x_heardMany) w_worth (.int x_drawn) (.int x_came) (.ref q_kept) (.ref q_isKept) (.ref q_keptCame)), (q_isKept, aZ cT 2 (upd f_isKept p1.toNatClampNeg (vp_nar .boolean (1 : Int32)))), (q_keptCame, aI cT 2 f_keptCame), (q_now, aI cT 47 f_now), (q_kept, aI cT 94 f_kept)]) rfl dX8_keep_22 (fun H locs hP hD hS => ?_)
    refine lv_aload_n hx hb dX8_keep_23 rfl (lv_at hl 0 rfl) ?_
    refine gf_X8_79 C0 hP 0 rfl rfl dX8_keep_24 ?_
    refine lv_iload_n hx hb dX8_keep_27 rfl (lv_at hl 1 rfl) ?_
    refine lv_aload_n hx hb dX8_keep_28 rfl (lv_at hl 0 rfl) ?_
    refine gf_X8_144 C0 hP 0 rfl rfl dX8_keep_29 ?_
    obtain ⟨g_32, hg⟩ := hg
    refine k_iast C0 hP hD hS 2 rfl g_32 (ws' := [(h, oX8 (.ref q_now) (.int x_arches) (.int x_cats) w_text (.int x_typed) w_row (.int x_rowMany) (.int (0 : Int32)) w_read (.int x_length) (.int x_top) (.int x_at) (.int x_wrong) w_told w_rule w_otherRule (.int x_ruleSize) (.int x_isAsked) w_asked w_undos (.int x_undoMany) w_aside w_then w_hold (.int x_dropped) w_acts w_guarded w_train (.int x_trolleyEnd) w_feltOf w_feltBy (.int x_feltMany) w_many w_heardOf w_heardBy (.int x_heardMany) w_worth (.int x_drawn) (.int x_came) (.ref q_kept) (.ref q_isKept) (.ref q_keptCame)), (q_isKept, aZ cT 2 (upd f_isKept p1.toNatClampNeg (vp_nar .boolean (1 : Int32)))), (q_keptCame, aI cT 2 (upd f_keptCame p1.toNatClampNeg x_came)), (q_now, aI cT 47 f_now), (q_kept, aI cT 94 f_kept)]) rfl dX8_keep_32 (fun H locs hP hD hS => ?_)
    refine lv_aload_n hx hb dX8_keep_33 rfl (lv_at hl 0 rfl) ?_
    refine gf_X8_9 C0 hP 0 rfl rfl dX8_keep_34 ?_
    refine lv_aload_n hx hb dX8_keep_37 rfl (lv_at hl 0 rfl) ?_
    refine gf_X8_72 C0 hP 0 rfl rfl dX8_keep_38 ?_
    refine lv_bipush (v := (47 : Int32)) hx hb dX8_keep_41 (by decide) ?_
    refine lv_iload_n hx hb dX8_keep_43 rfl (lv_at hl 1 rfl) ?_
    refine lv_imul hx hb dX8_keep_44 ?_
    refine k_Sv (rest := []) (wr := [(h, oX8 (.ref q_now) (.int x_arches) (.int x_cats) w_text (.int x_typed) w_row (.int x_rowMany) (.int (0 : Int32)) w_read (.int x_length) (.int x_top) (.int x_at) (.int x_wrong) w_told w_rule w_otherRule (.int x_ruleSize) (.int x_isAsked) w_asked w_undos (.int x_undoMany) w_aside w_then w_hold (.int x_dropped) w_acts w_guarded w_train (.int x_trolleyEnd) w_feltOf w_feltBy (.int x_feltMany) w_many w_heardOf w_heardBy (.int x_heardMany) w_worth (.int x_drawn) (.int x_came) (.ref q_kept) (.ref q_isKept) (.ref q_keptCame)), (q_isKept, aZ cT 2 (upd f_isKept p1.toNatClampNeg (vp_nar .boolean (1 : Int32)))), (q_keptCame, aI cT 2 (upd f_keptCame p1.toNatClampNeg x_came))]) (w2 := fun u_45 => [(h, oX8 (.ref q_now) (.int x_arches) (.int x_cats) w_text (.int x_typed) w_row (.int x_rowMany) (.int (0 : Int32)) w_read (.int x_length) (.int x_top) (.int x_at) (.int x_wrong) w_told w_rule w_otherRule (.int x_ruleSize) (.int x_isAsked) w_asked w_undos (.int x_undoMany) w_aside w_then w_hold (.int x_dropped) w_acts w_guarded w_train (.int x_trolleyEnd) w_feltOf w_feltBy (.int x_feltMany) w_many w_heardOf w_heardBy (.int x_heardMany) w_worth (.int x_drawn) (.int x_came) (.ref q_kept) (.ref q_isKept) (.ref q_keptCame)), (q_isKept, aZ cT 2 (upd f_isKept p1.toNatClampNeg (vp_nar .boolean (1 : Int32)))), (q_keptCame, aI cT 2 (upd f_keptCame p1.toNatClampNeg x_came)), (q_now, aI cT 47 f_now), (q_kept, aI cT 94 u_45)]) C0 lk_X8_231 (c_X8_lay l D cT F q_now q_kept ((47 : Int32) * p1) 47 f_now 94 f_kept _ hg) hP hD hS hA [3, 4] [0, 1, 2] (by decide +kernel) rfl rfl (fun _ => rfl) ⟨Nat.le_of_ble_eq_true rfl, Nat.le_of_ble_eq_true rfl⟩ rfl hl.1 rfl (Nat.le_of_ble_eq_true rfl) dX8_keep_45 ⟨Nat.le_of_ble_eq_true rfl, Nat.le_of_ble_eq_true rfl⟩ ?_
    intro u_45 H locs hg hP hD hS
    refine lv_iconst (v := (1 : Int32)) hx hb dX8_keep_48 (by decide) ?_
    exact k_zret C0 hr (Or.inr rfl) ((0 : Int32), (upd f_isKept p1.toNatClampNeg (vp_nar .boolean (1 : Int32))), (upd f_keptCame p1.toNatClampNeg x_came), u_45) hg hP hD hS dX8_keep_49
  have hg := hg.2 c_11
  refine lv_iconst (v := (0 : Int32)) hx hb dX8_keep_14 (by decide) ?_
  exact k_zret C0 hr (Or.inl rfl) ((0 : Int32), f_isKept, f_keptCame, f_kept) hg hP hD hS dX8_keep_15
theorem dX8_again_0 : decode cX8_again 0 = .ok (.aload_n 0, 1) := by decide +kernel
theorem dX8_again_1 : decode cX8_again 1 = .ok (.iconst 0, 1) := by decide +kernel
theorem dX8_again_2 : decode cX8_again 2 = .ok (.putfield 82, 3) := by decide +kernel
theorem dX8_again_5 : decode cX8_again 5 = .ok (.iload_n 1, 1) := by decide +kernel
theorem dX8_again_6 : decode cX8_again 6 = .ok (.iconst 0, 1) := by decide +kernel
theorem dX8_again_7 : decode cX8_again 7 = .ok (.iconst 1, 1) := by decide +kernel
theorem dX8_again_8 : decode cX8_again 8 = .ok (.invokestatic 92, 3) := by decide +kernel
theorem dX8_again_11 : decode cX8_again 11 = .ok (.ifCond .eq 25, 3) := by decide +kernel
theorem dX8_again_14 : decode cX8_again 14 = .ok (.aload_n 0, 1) := by decide +kernel
theorem dX8_again_15 : decode cX8_again 15 = .ok (.getfield 75, 3) := by decide +kernel
theorem dX8_again_18 : decode cX8_again 18 = .ok (.iload_n 1, 1) := by decide +kernel
theorem dX8_again_19 : decode cX8_again 19 = .ok (.baload, 1) := by decide +kernel
theorem dX8_again_20 : decode cX8_again 20 = .ok (.ifCond .eq 16, 3) := by decide +kernel
theorem dX8_again_23 : decode cX8_again 23 = .ok (.aload_n 0, 1) := by decide +kernel
theorem dX8_again_24 : decode cX8_again 24 = .ok (.getfield 79, 3) := by decide +kernel
theorem dX8_again_27 : decode cX8_again 27 = .ok (.iload_n 1, 1) := by decide +kernel
theorem dX8_again_28 : decode cX8_again 28 = .ok (.iaload, 1) := by decide +kernel
theorem dX8_again_29 : decode cX8_again 29 = .ok (.aload_n 0, 1) := by decide +kernel
theorem dX8_again_30 : decode cX8_again 30 = .ok (.getfield 144, 3) := by decide +kernel
theorem dX8_again_33 : decode cX8_again 33 = .ok (.if_icmp .eq 5, 3) := by decide +kernel
theorem dX8_again_36 : decode cX8_again 36 = .ok (.iconst 0, 1) := by decide +kernel
theorem dX8_again_37 : decode cX8_again 37 = .ok (.ireturn, 1) := by decide +kernel
theorem dX8_again_38 : decode cX8_again 38 = .ok (.iconst 0, 1) := by decide +kernel
theorem dX8_again_39 : decode cX8_again 39 = .ok (.istore_n 2, 1) := by decide +kernel
theorem dX8_again_40 : decode cX8_again 40 = .ok (.iload_n 2, 1) := by decide +kernel
theorem dX8_again_41 : decode cX8_again 41 = .ok (.bipush 47, 2) := by decide +kernel
theorem dX8_again_43 : decode cX8_again 43 = .ok (.if_icmp .ge 26, 3) := by decide +kernel
theorem dX8_again_46 : decode cX8_again 46 = .ok (.aload_n 0, 1) := by decide +kernel
theorem dX8_again_47 : decode cX8_again 47 = .ok (.getfield 9, 3) := by decide +kernel
theorem dX8_again_50 : decode cX8_again 50 = .ok (.iload_n 2, 1) := by decide +kernel
theorem dX8_again_51 : decode cX8_again 51 = .ok (.aload_n 0, 1) := by decide +kernel
theorem dX8_again_52 : decode cX8_again 52 = .ok (.getfield 72, 3) := by decide +kernel
theorem dX8_again_55 : decode cX8_again 55 = .ok (.bipush 47, 2) := by decide +kernel
theorem dX8_again_57 : decode cX8_again 57 = .ok (.iload_n 1, 1) := by decide +kernel
theorem dX8_again_58 : decode cX8_again 58 = .ok (.imul, 1) := by decide +kernel
theorem dX8_again_59 : decode cX8_again 59 = .ok (.iload_n 2, 1) := by decide +kernel
theorem dX8_again_60 : decode cX8_again 60 = .ok (.iadd, 1) := by decide +kernel
theorem dX8_again_61 : decode cX8_again 61 = .ok (.iaload, 1) := by decide +kernel
theorem dX8_again_62 : decode cX8_again 62 = .ok (.iastore, 1) := by decide +kernel
theorem dX8_again_63 : decode cX8_again 63 = .ok (.iinc 2 1, 3) := by decide +kernel
theorem dX8_again_66 : decode cX8_again 66 = .ok (.goto (-26), 3) := by decide +kernel
theorem dX8_again_69 : decode cX8_again 69 = .ok (.aload_n 0, 1) := by decide +kernel
theorem dX8_again_70 : decode cX8_again 70 = .ok (.iconst 0, 1) := by decide +kernel
theorem dX8_again_71 : decode cX8_again 71 = .ok (.putfield 141, 3) := by decide +kernel
theorem dX8_again_74 : decode cX8_again 74 = .ok (.iconst 1, 1) := by decide +kernel
theorem dX8_again_75 : decode cX8_again 75 = .ok (.ireturn, 1) := by decide +kernel
noncomputable def p_X8_again_40 (F : Nat) (p1 : Int32) (f_kept : Nat → Int32) (Post : Int32 → (Int32 × Int32 × (Nat → Int32)) → Prop) (n : Nat) : Int32 → (Nat → Int32) → Prop := Nat.rec (motive := fun _ => Int32 → (Nat → Int32) → Prop) (fun _ _ => False) (fun _ k40 => fun (y2_40 : Int32) (f_now_40 : Nat → Int32) => (((47 : Int32) ≤ y2_40 → (Post (1 : Int32) ((0 : Int32), (0 : Int32), f_now_40))) ∧ (¬ (47 : Int32) ≤ y2_40 → (vp_in (((47 : Int32) * p1) + y2_40) 94 ∧ (vp_in y2_40 47 ∧ (k40 (y2_40 + (1 : Int32)) (upd f_now_40 y2_40.toNatClampNeg (f_kept (((47 : Int32) * p1) + y2_40).toNatClampNeg)))))))) n
theorem p_X8_again_40_s (F : Nat) (p1 : Int32) (f_kept : Nat → Int32) (Post : Int32 → (Int32 × Int32 × (Nat → Int32)) → Prop) (n : Nat) (y2_40 : Int32) (f_now_40 : Nat → Int32) : p_X8_again_40 F p1 f_kept Post (n + 1) y2_40 f_now_40 = (((47 : Int32) ≤ y2_40 → (Post (1 : Int32) ((0 : Int32), (0 : Int32), f_now_40))) ∧ (¬ (47 : Int32) ≤ y2_40 → (vp_in (((47 : Int32) * p1) + y2_40) 94 ∧ (vp_in y2_40 47 ∧ ((p_X8_again_40 F p1 f_kept Post n) (y2_40 + (1 : Int32)) (upd f_now_40 y2_40.toNatClampNeg (f_kept (((47 : Int32) * p1) + y2_40).toNatClampNeg))))))) := rfl
def p_X8_again (F : Nat) (p1 : Int32) (x_undoMany : Int32) (x_came : Int32) (f_isKept : Nat → Int32) (f_keptCame : Nat → Int32) (f_kept : Nat → Int32) (f_now : Nat → Int32) (Post : Int32 → (Int32 × Int32 × (Nat → Int32)) → Prop) : Prop := (p_X8_in F p1 (0 : Int32) (1 : Int32) (fun (r_8 : Int32) => ((r_8 = 0 → (Post (0 : Int32) ((0 : Int32), x_undoMany, f_now))) ∧ (¬ r_8 = 0 → (vp_in p1 2 ∧ (((f_isKept p1.toNatClampNeg) = 0 → (Post (0 : Int32) ((0 : Int32), x_undoMany, f_now))) ∧ (¬ (f_isKept p1.toNatClampNeg) = 0 → (vp_in p1 2 ∧ (((f_keptCame p1.toNatClampNeg) = x_came → (p_X8_again_40 F p1 f_kept Post F (0 : Int32) f_now)) ∧ (¬ (f_keptCame p1.toNatClampNeg) = x_came → (Post (0 : Int32) ((0 : Int32), x_undoMany, f_now))))))))))))
set_option maxHeartbeats 4000000 in
set_option maxRecDepth 100000 in
theorem c_X8_again (l : Launch) (D : va_G) (cT : Nat → ClassId) (F : Nat) (h : Nat) (p1 : Int32) (q_now : Nat) (x_arches : Int32) (x_cats : Int32) (w_text : Value) (x_typed : Int32) (w_row : Value) (x_rowMany : Int32) (x_thrown : Int32) (w_read : Value) (x_length : Int32) (x_top : Int32) (x_at : Int32) (x_wrong : Int32) (w_told : Value) (w_rule : Value) (w_otherRule : Value) (x_ruleSize : Int32) (x_isAsked : Int32) (w_asked : Value) (w_undos : Value) (x_undoMany : Int32) (w_aside : Value) (w_then : Value) (w_hold : Value) (x_dropped : Int32) (w_acts : Value) (w_guarded : Value) (w_train : Value) (x_trolleyEnd : Int32) (w_feltOf : Value) (w_feltBy : Value) (x_feltMany : Int32) (w_many : Value) (w_heardOf : Value) (w_heardBy : Value) (x_heardMany : Int32) (w_worth : Value) (x_drawn : Int32) (x_came : Int32) (q_kept : Nat) (q_isKept : Nat) (q_keptCame : Nat) (f_isKept : Nat → Int32) (f_keptCame : Nat → Int32) (f_kept : Nat → Int32) (f_now : Nat → Int32) (Post : Int32 → (Int32 × Int32 × (Nat → Int32)) → Prop) (hg : p_X8_again F p1 x_undoMany x_came f_isKept f_keptCame f_kept f_now Post) : MWi l D cT yX8_again cX8_again 3 (some .boolean) 1 22 0 0 [.ref h, .int p1] [(h, oX8 (.ref q_now) (.int x_arches) (.int x_cats) w_text (.int x_typed) w_row (.int x_rowMany) (.int x_thrown) w_read (.int x_length) (.int x_top) (.int x_at) (.int x_wrong) w_told w_rule w_otherRule (.int x_ruleSize) (.int x_isAsked) w_asked w_undos (.int x_undoMany) w_aside w_then w_hold (.int x_dropped) w_acts w_guarded w_train (.int x_trolleyEnd) w_feltOf w_feltBy (.int x_feltMany) w_many w_heardOf w_heardBy (.int x_heardMany) w_worth (.int x_drawn) (.int x_came) (.ref q_kept) (.ref q_isKept) (.ref q_keptCame)), (q_isKept, aZ cT 2 f_isKept), (q_keptCame, aI cT 2 f_keptCame), (q_kept, aI cT 94 f_kept), (q_now, aI cT 47 f_now)] Post (fun (u : (Int32 × Int32 × (Nat → Int32))) => [(h, oX8 (.ref q_now) (.int x_arches) (.int x_cats) w_text (.int x_typed) w_row (.int x_rowMany) (.int u.1) w_read (.int x_length) (.int x_top) (.int x_at) (.int x_wrong) w_told w_rule w_otherRule (.int x_ruleSize) (.int x_isAsked) w_asked w_undos (.int u.2.1) w_aside w_then w_hold (.int x_dropped) w_acts w_guarded w_train (.int x_trolleyEnd) w_feltOf w_feltBy (.int x_feltMany) w_many w_heardOf w_heardBy (.int x_heardMany) w_worth (.int x_drawn) (.int x_came) (.ref q_kept) (.ref q_isKept) (.ref q_keptCame)), (q_isKept, aZ cT 2 f_isKept), (q_keptCame, aI cT 2 f_keptCame), (q_kept, aI cT 94 f_kept), (q_now, aI cT 47 u.2.2)]) := by
  refine MWi.of (by decide) (Nat.le_of_ble_eq_true rfl) ?_
  intro p e s m below meth c A hA C0 hnm hr hP hD ls hl
  have hl : lv_has ls 3 [(0, .ref h), (1, .int p1)] := hl
  have hx := C0.x
  have hb := C0.b
  have hS : va_S A s.heap s.heap [] := va_S.rf
  have hP : va_P D cls9 [(h, oX8 (.ref q_now) (.int x_arches) (.int x_cats) w_text (.int x_typed) w_row (.int x_rowMany) (.int x_thrown) w_read (.int x_length) (.int x_top) (.int x_at) (.int x_wrong) w_told w_rule w_otherRule (.int x_ruleSize) (.int x_isAsked) w_asked w_undos (.int x_undoMany) w_aside w_then w_hold (.int x_dropped) w_acts w_guarded w_train (.int x_trolleyEnd) w_feltOf w_feltBy (.int x_feltMany) w_many w_heardOf w_heardBy (.int x_heardMany) w_worth (.int x_drawn) (.int x_came) (.ref q_kept) (.ref q_isKept) (.ref q_keptCame)), (q_isKept, aZ cT 2 f_isKept), (q_keptCame, aI cT 2 f_keptCame), (q_kept, aI cT 94 f_kept), (q_now, aI cT 47 f_now)] s.heap := hP
  have hD : va_D A [(h, oX8 (.ref q_now) (.int x_arches) (.int x_cats) w_text (.int x_typed) w_row (.int x_rowMany) (.int x_thrown) w_read (.int x_length) (.int x_top) (.int x_at) (.int x_wrong) w_told w_rule w_otherRule (.int x_ruleSize) (.int x_isAsked) w_asked w_undos (.int x_undoMany) w_aside w_then w_hold (.int x_dropped) w_acts w_guarded w_train (.int x_trolleyEnd) w_feltOf w_feltBy (.int x_feltMany) w_many w_heardOf w_heardBy (.int x_heardMany) w_worth (.int x_drawn) (.int x_came) (.ref q_kept) (.ref q_isKept) (.ref q_keptCame)), (q_isKept, aZ cT 2 f_isKept), (q_keptCame, aI cT 2 f_keptCame), (q_kept, aI cT 94 f_kept), (q_now, aI cT 47 f_now)] := hD
  have L40 : ∀ (n40 : Nat) (y2_40 : Int32) (f_now_40 : Nat → Int32) (H : Heap) (locs : List Loc) (ls : Array Slot), p_X8_again_40 F p1 f_kept Post n40 y2_40 f_now_40 → va_P D cls9 [(h, oX8 (.ref q_now) (.int x_arches) (.int x_cats) w_text (.int x_typed) w_row (.int x_rowMany) (.int (0 : Int32)) w_read (.int x_length) (.int x_top) (.int x_at) (.int x_wrong) w_told w_rule w_otherRule (.int x_ruleSize) (.int x_isAsked) w_asked w_undos (.int x_undoMany) w_aside w_then w_hold (.int x_dropped) w_acts w_guarded w_train (.int x_trolleyEnd) w_feltOf w_feltBy (.int x_feltMany) w_many w_heardOf w_heardBy (.int x_heardMany) w_worth (.int x_drawn) (.int x_came) (.ref q_kept) (.ref q_isKept) (.ref q_keptCame)), (q_isKept, aZ cT 2 f_isKept), (q_keptCame, aI cT 2 f_keptCame), (q_kept, aI cT 94 f_kept), (q_now, aI cT 47 f_now_40)] H → va_D A [(h, oX8 (.ref q_now) (.int x_arches) (.int x_cats) w_text (.int x_typed) w_row (.int x_rowMany) (.int (0 : Int32)) w_read (.int x_length) (.int x_top) (.int x_at) (.int x_wrong) w_told w_rule w_otherRule (.int x_ruleSize) (.int x_isAsked) w_asked w_undos (.int x_undoMany) w_aside w_then w_hold (.int x_dropped) w_acts w_guarded w_train (.int x_trolleyEnd) w_feltOf w_feltBy (.int x_feltMany) w_many w_heardOf w_heardBy (.int x_heardMany) w_worth (.int x_drawn) (.int x_came) (.ref q_kept) (.ref q_isKept) (.ref q_keptCame)), (q_isKept, aZ cT 2 f_isKept), (q_keptCame, aI cT 2 f_keptCame), (q_kept, aI cT 94 f_kept), (q_now, aI cT 47 f_now_40)] → va_S A s.heap H locs → lv_has ls 3 [(0, .ref h), (1, .int p1), (2, .int y2_40)] → W p l e (rmO 1 22 0 0) s m ([.ref h, .int p1] : List Value).toArray below meth c H locs 0 0 (MQ below (va_Qi Post (cB D A (fun (u : (Int32 × Int32 × (Nat → Int32))) => [(h, oX8 (.ref q_now) (.int x_arches) (.int x_cats) w_text (.int x_typed) w_row (.int x_rowMany) (.int u.1) w_read (.int x_length) (.int x_top) (.int x_at) (.int x_wrong) w_told w_rule w_otherRule (.int x_ruleSize) (.int x_isAsked) w_asked w_undos (.int u.2.1) w_aside w_then w_hold (.int x_dropped) w_acts w_guarded w_train (.int x_trolleyEnd) w_feltOf w_feltBy (.int x_feltMany) w_many w_heardOf w_heardBy (.int x_heardMany) w_worth (.int x_drawn) (.int x_came) (.ref q_kept) (.ref q_isKept) (.ref q_keptCame)), (q_isKept, aZ cT 2 f_isKept), (q_keptCame, aI cT 2 f_keptCame), (q_kept, aI cT 94 f_kept), (q_now, aI cT 47 u.2.2)])) A) ([.ref h, .int p1] : List Value).toArray s 0 0 A) (F0 m 40 ls []) := by
    intro n40
    induction n40 with
    | zero =>
      intro y2_40 f_now_40 H locs ls hg hP hD hS hl
      exact False.elim hg
    | succ n40 ih40 =>
      intro y2_40 f_now_40 H locs ls hg hP hD hS hl
      rw [p_X8_again_40_s] at hg
      refine lv_iload_n hx hb dX8_again_40 rfl (lv_at hl 2 rfl) ?_
      refine lv_bipush (v := (47 : Int32)) hx hb dX8_again_41 (by decide) ?_
      refine lv_icmp_ge (tgt := 69) hx hb dX8_again_43 (by decide) (fun c_43 => ?_) (fun c_43 => ?_)
      · have hg := hg.1 c_43
        refine lv_aload_n hx hb dX8_again_69 rfl (lv_at hl 0 rfl) ?_
        refine lv_iconst (v := (0 : Int32)) hx hb dX8_again_70 (by decide) ?_
        refine pf_X8_141 C0 hP hD hS 0 rfl (Nat.le_of_ble_eq_true rfl) (ws2 := [(h, oX8 (.ref q_now) (.int x_arches) (.int x_cats) w_text (.int x_typed) w_row (.int x_rowMany) (.int (0 : Int32)) w_read (.int x_length) (.int x_top) (.int x_at) (.int x_wrong) w_told w_rule w_otherRule (.int x_ruleSize) (.int x_isAsked) w_asked w_undos (.int (0 : Int32)) w_aside w_then w_hold (.int x_dropped) w_acts w_guarded w_train (.int x_trolleyEnd) w_feltOf w_feltBy (.int x_feltMany) w_many w_heardOf w_heardBy (.int x_heardMany) w_worth (.int x_drawn) (.int x_came) (.ref q_kept) (.ref q_isKept) (.ref q_keptCame)), (q_isKept, aZ cT 2 f_isKept), (q_keptCame, aI cT 2 f_keptCame), (q_kept, aI cT 94 f_kept), (q_now, aI cT 47 f_now_40)]) rfl dX8_again_71 (fun H locs hP hD hS => ?_)
        refine lv_iconst (v := (1 : Int32)) hx hb dX8_again_74 (by decide) ?_
        exact k_zret C0 hr (Or.inr rfl) ((0 : Int32), (0 : Int32), f_now_40) hg hP hD hS dX8_again_75
      have hg := hg.2 c_43
      refine lv_aload_n hx hb dX8_again_46 rfl (lv_at hl 0 rfl) ?_
      refine gf_X8_9 C0 hP 0 rfl rfl dX8_again_47 ?_
      refine lv_iload_n hx hb dX8_again_50 rfl (lv_at hl 2 rfl) ?_
      refine lv_aload_n hx hb dX8_again_51 rfl (lv_at hl 0 rfl) ?_
      refine gf_X8_72 C0 hP 0 rfl rfl dX8_again_52 ?_
      refine lv_bipush (v := (47 : Int32)) hx hb dX8_again_55 (by decide) ?_
      refine lv_iload_n hx hb dX8_again_57 rfl (lv_at hl 1 rfl) ?_
      refine lv_imul hx hb dX8_again_58 ?_
      refine lv_iload_n hx hb dX8_again_59 rfl (lv_at hl 2 rfl) ?_
      refine lv_iadd hx hb dX8_again_60 ?_
      obtain ⟨g_61, hg⟩ := hg
      refine k_iald C0 hP 3 rfl g_61 dX8_again_61 ?_
      obtain ⟨g_62, hg⟩ := hg
      refine k_iast C0 hP hD hS 4 rfl g_62 (ws' := [(h, oX8 (.ref q_now) (.int x_arches) (.int x_cats) w_text (.int x_typed) w_row (.int x_rowMany) (.int (0 : Int32)) w_read (.int x_length) (.int x_top) (.int x_at) (.int x_wrong) w_told w_rule w_otherRule (.int x_ruleSize) (.int x_isAsked) w_asked w_undos (.int x_undoMany) w_aside w_then w_hold (.int x_dropped) w_acts w_guarded w_train (.int x_trolleyEnd) w_feltOf w_feltBy (.int x_feltMany) w_many w_heardOf w_heardBy (.int x_heardMany) w_worth (.int x_drawn) (.int x_came) (.ref q_kept) (.ref q_isKept) (.ref q_keptCame)), (q_isKept, aZ cT 2 f_isKept), (q_keptCame, aI cT 2 f_keptCame), (q_kept, aI cT 94 f_kept), (q_now, aI cT 47 (upd f_now_40 y2_40.toNatClampNeg (f_kept (((47 : Int32) * p1) + y2_40).toNatClampNeg)))]) rfl dX8_again_62 (fun H locs hP hD hS => ?_)
      refine lv_iinc (v := (y2_40 + (1 : Int32))) (lv' := [(2, .int (y2_40 + (1 : Int32))), (0, .ref h), (1, .int p1)]) hx hb dX8_again_63 hl (k := 2) rfl rfl (by decide) rfl (fun ls hl => ?_)
      refine lv_goto (tgt := 40) hx hb dX8_again_66 (by decide) ?_
      exact ih40 (y2_40 + (1 : Int32)) (upd f_now_40 y2_40.toNatClampNeg (f_kept (((47 : Int32) * p1) + y2_40).toNatClampNeg)) _ _ _ hg hP hD hS (lv_sub hl [1, 2, 0] rfl)
  unfold p_X8_again at hg
  refine lv_aload_n hx hb dX8_again_0 rfl (lv_at hl 0 rfl) ?_
  refine lv_iconst (v := (0 : Int32)) hx hb dX8_again_1 (by decide) ?_
  refine pf_X8_82 C0 hP hD hS 0 rfl (Nat.le_of_ble_eq_true rfl) (ws2 := [(h, oX8 (.ref q_now) (.int x_arches) (.int x_cats) w_text (.int x_typed) w_row (.int x_rowMany) (.int (0 : Int32)) w_read (.int x_length) (.int x_top) (.int x_at) (.int x_wrong) w_told w_rule w_otherRule (.int x_ruleSize) (.int x_isAsked) w_asked w_undos (.int x_undoMany) w_aside w_then w_hold (.int x_dropped) w_acts w_guarded w_train (.int x_trolleyEnd) w_feltOf w_feltBy (.int x_feltMany) w_many w_heardOf w_heardBy (.int x_heardMany) w_worth (.int x_drawn) (.int x_came) (.ref q_kept) (.ref q_isKept) (.ref q_keptCame)), (q_isKept, aZ cT 2 f_isKept), (q_keptCame, aI cT 2 f_keptCame), (q_kept, aI cT 94 f_kept), (q_now, aI cT 47 f_now)]) rfl dX8_again_2 (fun H locs hP hD hS => ?_)
  refine lv_iload_n hx hb dX8_again_5 rfl (lv_at hl 1 rfl) ?_
  refine lv_iconst (v := (0 : Int32)) hx hb dX8_again_6 (by decide) ?_
  refine lv_iconst (v := (1 : Int32)) hx hb dX8_again_7 (by decide) ?_
  refine k_Sxi (rest := []) C0 lk_X8_92 (c_X8_in l D cT F p1 (0 : Int32) (1 : Int32) _ hg) hP hD hS hA [] (by decide +kernel) rfl ⟨Nat.le_of_ble_eq_true rfl, Nat.le_of_ble_eq_true rfl⟩ rfl hl.1 rfl (Nat.le_of_ble_eq_true rfl) dX8_again_8 ⟨Nat.le_of_ble_eq_true rfl, Nat.le_of_ble_eq_true rfl⟩ (fun r_8 hg => ?_)
  refine lv_if_eq (tgt := 36) hx hb dX8_again_11 (by decide) (fun c_11 => ?_) (fun c_11 => ?_)
  · have hg := hg.1 c_11
    refine lv_iconst (v := (0 : Int32)) hx hb dX8_again_36 (by decide) ?_
    exact k_zret C0 hr (Or.inl rfl) ((0 : Int32), x_undoMany, f_now) hg hP hD hS dX8_again_37
  have hg := hg.2 c_11
  refine lv_aload_n hx hb dX8_again_14 rfl (lv_at hl 0 rfl) ?_
  refine gf_X8_75 C0 hP 0 rfl rfl dX8_again_15 ?_
  refine lv_iload_n hx hb dX8_again_18 rfl (lv_at hl 1 rfl) ?_
  obtain ⟨g_19, hg⟩ := hg
  refine k_zald C0 hP 1 rfl g_19 dX8_again_19 ?_
  refine lv_if_eq (tgt := 36) hx hb dX8_again_20 (by decide) (fun c_20 => ?_) (fun c_20 => ?_)
  · have hg := hg.1 c_20
    refine lv_iconst (v := (0 : Int32)) hx hb dX8_again_36 (by decide) ?_
    exact k_zret C0 hr (Or.inl rfl) ((0 : Int32), x_undoMany, f_now) hg hP hD hS dX8_again_37
  have hg := hg.2 c_20
  refine lv_aload_n hx hb dX8_again_23 rfl (lv_at hl 0 rfl) ?_
  refine gf_X8_79 C0 hP 0 rfl rfl dX8_again_24 ?_
  refine lv_iload_n hx hb dX8_again_27 rfl (lv_at hl 1 rfl) ?_
  obtain ⟨g_28, hg⟩ := hg
  refine k_iald C0 hP 2 rfl g_28 dX8_again_28 ?_
  refine lv_aload_n hx hb dX8_again_29 rfl (lv_at hl 0 rfl) ?_
  refine gf_X8_144 C0 hP 0 rfl rfl dX8_again_30 ?_
  refine lv_icmp_eq (tgt := 38) hx hb dX8_again_33 (by decide) (fun c_33 => ?_) (fun c_33 => ?_)
  · have hg := hg.1 c_33
    refine lv_iconst (v := (0 : Int32)) hx hb dX8_again_38 (by decide) ?_
    refine lv_istore_n (lv' := [(2, .int (0 : Int32)), (0, .ref h), (1, .int p1)]) hx hb dX8_again_39 rfl hl (by decide) rfl (fun ls hl => ?_)
    exact L40 F (0 : Int32) f_now _ _ _ hg hP hD hS (lv_sub hl [1, 2, 0] rfl)
  have hg := hg.2 c_33
  refine lv_iconst (v := (0 : Int32)) hx hb dX8_again_36 (by decide) ?_
  exact k_zret C0 hr (Or.inl rfl) ((0 : Int32), x_undoMany, f_now) hg hP hD hS dX8_again_37
theorem dX8_count_0 : decode cX8_count 0 = .ok (.aload_n 0, 1) := by decide +kernel
theorem dX8_count_1 : decode cX8_count 1 = .ok (.iconst 0, 1) := by decide +kernel
theorem dX8_count_2 : decode cX8_count 2 = .ok (.putfield 82, 3) := by decide +kernel
theorem dX8_count_5 : decode cX8_count 5 = .ok (.iload_n 1, 1) := by decide +kernel
theorem dX8_count_6 : decode cX8_count 6 = .ok (.tableswitch 174 0 13 #[70, 75, 80, 88, 96, 104, 113, 126, 140, 149, 154, 159, 164, 169], 70) := by decide +kernel
theorem dX8_count_76 : decode cX8_count 76 = .ok (.aload_n 0, 1) := by decide +kernel
theorem dX8_count_77 : decode cX8_count 77 = .ok (.getfield 89, 3) := by decide +kernel
theorem dX8_count_80 : decode cX8_count 80 = .ok (.ireturn, 1) := by decide +kernel
theorem dX8_count_81 : decode cX8_count 81 = .ok (.aload_n 0, 1) := by decide +kernel
theorem dX8_count_82 : decode cX8_count 82 = .ok (.getfield 96, 3) := by decide +kernel
theorem dX8_count_85 : decode cX8_count 85 = .ok (.ireturn, 1) := by decide +kernel
theorem dX8_count_86 : decode cX8_count 86 = .ok (.aload_n 0, 1) := by decide +kernel
theorem dX8_count_87 : decode cX8_count 87 = .ok (.getfield 9, 3) := by decide +kernel
theorem dX8_count_90 : decode cX8_count 90 = .ok (.bipush 45, 2) := by decide +kernel
theorem dX8_count_92 : decode cX8_count 92 = .ok (.iaload, 1) := by decide +kernel
theorem dX8_count_93 : decode cX8_count 93 = .ok (.ireturn, 1) := by decide +kernel
theorem dX8_count_94 : decode cX8_count 94 = .ok (.aload_n 0, 1) := by decide +kernel
theorem dX8_count_95 : decode cX8_count 95 = .ok (.getfield 9, 3) := by decide +kernel
theorem dX8_count_98 : decode cX8_count 98 = .ok (.bipush 44, 2) := by decide +kernel
theorem dX8_count_100 : decode cX8_count 100 = .ok (.iaload, 1) := by decide +kernel
theorem dX8_count_101 : decode cX8_count 101 = .ok (.ireturn, 1) := by decide +kernel
theorem dX8_count_102 : decode cX8_count 102 = .ok (.aload_n 0, 1) := by decide +kernel
theorem dX8_count_103 : decode cX8_count 103 = .ok (.getfield 9, 3) := by decide +kernel
theorem dX8_count_106 : decode cX8_count 106 = .ok (.bipush 46, 2) := by decide +kernel
theorem dX8_count_108 : decode cX8_count 108 = .ok (.iaload, 1) := by decide +kernel
theorem dX8_count_109 : decode cX8_count 109 = .ok (.ireturn, 1) := by decide +kernel
theorem dX8_count_110 : decode cX8_count 110 = .ok (.aload_n 0, 1) := by decide +kernel
theorem dX8_count_111 : decode cX8_count 111 = .ok (.aload_n 0, 1) := by decide +kernel
theorem dX8_count_112 : decode cX8_count 112 = .ok (.getfield 9, 3) := by decide +kernel
theorem dX8_count_115 : decode cX8_count 115 = .ok (.invokevirtual 253, 3) := by decide +kernel
theorem dX8_count_118 : decode cX8_count 118 = .ok (.ireturn, 1) := by decide +kernel
theorem dX8_count_119 : decode cX8_count 119 = .ok (.aload_n 0, 1) := by decide +kernel
theorem dX8_count_120 : decode cX8_count 120 = .ok (.getfield 9, 3) := by decide +kernel
theorem dX8_count_123 : decode cX8_count 123 = .ok (.iconst 0, 1) := by decide +kernel
theorem dX8_count_124 : decode cX8_count 124 = .ok (.aload_n 0, 1) := by decide +kernel
theorem dX8_count_125 : decode cX8_count 125 = .ok (.getfield 89, 3) := by decide +kernel
theorem dX8_count_128 : decode cX8_count 128 = .ok (.invokestatic 227, 3) := by decide +kernel
theorem dX8_count_131 : decode cX8_count 131 = .ok (.ireturn, 1) := by decide +kernel
theorem dX8_count_132 : decode cX8_count 132 = .ok (.aload_n 0, 1) := by decide +kernel
theorem dX8_count_133 : decode cX8_count 133 = .ok (.getfield 9, 3) := by decide +kernel
theorem dX8_count_136 : decode cX8_count 136 = .ok (.bipush 12, 2) := by decide +kernel
theorem dX8_count_138 : decode cX8_count 138 = .ok (.aload_n 0, 1) := by decide +kernel
theorem dX8_count_139 : decode cX8_count 139 = .ok (.getfield 96, 3) := by decide +kernel
theorem dX8_count_142 : decode cX8_count 142 = .ok (.invokestatic 227, 3) := by decide +kernel
theorem dX8_count_145 : decode cX8_count 145 = .ok (.ireturn, 1) := by decide +kernel
theorem dX8_count_146 : decode cX8_count 146 = .ok (.aload_n 0, 1) := by decide +kernel
theorem dX8_count_147 : decode cX8_count 147 = .ok (.aload_n 0, 1) := by decide +kernel
theorem dX8_count_148 : decode cX8_count 148 = .ok (.getfield 9, 3) := by decide +kernel
theorem dX8_count_151 : decode cX8_count 151 = .ok (.invokevirtual 302, 3) := by decide +kernel
theorem dX8_count_154 : decode cX8_count 154 = .ok (.ireturn, 1) := by decide +kernel
theorem dX8_count_155 : decode cX8_count 155 = .ok (.aload_n 0, 1) := by decide +kernel
theorem dX8_count_156 : decode cX8_count 156 = .ok (.getfield 326, 3) := by decide +kernel
theorem dX8_count_159 : decode cX8_count 159 = .ok (.ireturn, 1) := by decide +kernel
theorem dX8_count_160 : decode cX8_count 160 = .ok (.aload_n 0, 1) := by decide +kernel
theorem dX8_count_161 : decode cX8_count 161 = .ok (.getfield 341, 3) := by decide +kernel
theorem dX8_count_164 : decode cX8_count 164 = .ok (.ireturn, 1) := by decide +kernel
theorem dX8_count_165 : decode cX8_count 165 = .ok (.aload_n 0, 1) := by decide +kernel
theorem dX8_count_166 : decode cX8_count 166 = .ok (.getfield 141, 3) := by decide +kernel
theorem dX8_count_169 : decode cX8_count 169 = .ok (.ireturn, 1) := by decide +kernel
theorem dX8_count_170 : decode cX8_count 170 = .ok (.aload_n 0, 1) := by decide +kernel
theorem dX8_count_171 : decode cX8_count 171 = .ok (.getfield 86, 3) := by decide +kernel
theorem dX8_count_174 : decode cX8_count 174 = .ok (.ireturn, 1) := by decide +kernel
theorem dX8_count_175 : decode cX8_count 175 = .ok (.aload_n 0, 1) := by decide +kernel
theorem dX8_count_176 : decode cX8_count 176 = .ok (.getfield 99, 3) := by decide +kernel
theorem dX8_count_179 : decode cX8_count 179 = .ok (.ireturn, 1) := by decide +kernel
theorem dX8_count_180 : decode cX8_count 180 = .ok (.iconst (-1), 1) := by decide +kernel
theorem dX8_count_181 : decode cX8_count 181 = .ok (.ireturn, 1) := by decide +kernel
def p_X8_count (F : Nat) (p1 : Int32) (x_arches : Int32) (x_cats : Int32) (x_typed : Int32) (x_rowMany : Int32) (w_read : Value) (x_length : Int32) (x_top : Int32) (x_at : Int32) (x_wrong : Int32) (q_rule : Nat) (x_ruleSize : Int32) (x_isAsked : Int32) (x_undoMany : Int32) (x_feltMany : Int32) (x_heardMany : Int32) (f_now : Nat → Int32) (f_asked : Nat → Int32) (f_rule : Nat → Int32) (Post : Int32 → (Int32 × Value × Int32 × Int32 × Int32 × Int32 × Int32 × (Nat → Int32)) → Prop) : Prop := ((p1 = (0 : Int32) → (Post x_arches ((0 : Int32), w_read, x_length, x_top, x_at, x_wrong, x_isAsked, f_asked))) ∧ (¬ p1 = (0 : Int32) → ((p1 = (1 : Int32) → (Post x_cats ((0 : Int32), w_read, x_length, x_top, x_at, x_wrong, x_isAsked, f_asked))) ∧ (¬ p1 = (1 : Int32) → ((p1 = (2 : Int32) → (vp_in (45 : Int32) 47 ∧ (Post (f_now (45 : Int32).toNatClampNeg) ((0 : Int32), w_read, x_length, x_top, x_at, x_wrong, x_isAsked, f_asked)))) ∧ (¬ p1 = (2 : Int32) → ((p1 = (3 : Int32) → (vp_in (44 : Int32) 47 ∧ (Post (f_now (44 : Int32).toNatClampNeg) ((0 : Int32), w_read, x_length, x_top, x_at, x_wrong, x_isAsked, f_asked)))) ∧ (¬ p1 = (3 : Int32) → ((p1 = (4 : Int32) → (vp_in (46 : Int32) 47 ∧ (Post (f_now (46 : Int32).toNatClampNeg) ((0 : Int32), w_read, x_length, x_top, x_at, x_wrong, x_isAsked, f_asked)))) ∧ (¬ p1 = (4 : Int32) → ((p1 = (5 : Int32) → (p_X8_sags F x_arches 47 f_now (fun (r_115 : Int32) => (Post r_115 ((0 : Int32), w_read, x_length, x_top, x_at, x_wrong, x_isAsked, f_asked))))) ∧ (¬ p1 = (5 : Int32) → ((p1 = (6 : Int32) → (p_X8_sumOf F (0 : Int32) x_arches 47 f_now (fun (r_128 : Int32) => (Post r_128 ((0 : Int32), w_read, x_length, x_top, x_at, x_wrong, x_isAsked, f_asked))))) ∧ (¬ p1 = (6 : Int32) → ((p1 = (7 : Int32) → (p_X8_sumOf F (12 : Int32) x_cats 47 f_now (fun (r_142 : Int32) => (Post r_142 ((0 : Int32), w_read, x_length, x_top, x_at, x_wrong, x_isAsked, f_asked))))) ∧ (¬ p1 = (7 : Int32) → ((p1 = (8 : Int32) → (p_X8_allHold F x_arches x_cats w_read x_length x_top x_at x_wrong q_rule x_ruleSize x_isAsked 47 f_now f_asked f_rule (fun (r_151 : Int32) (u_151 : (Value × Int32 × Int32 × Int32 × Int32 × Int32 × (Nat → Int32))) => (Post r_151 ((0 : Int32), u_151.1, u_151.2.1, u_151.2.2.1, u_151.2.2.2.1, u_151.2.2.2.2.1, u_151.2.2.2.2.2.1, u_151.2.2.2.2.2.2))))) ∧ (¬ p1 = (8 : Int32) → ((p1 = (9 : Int32) → (Post x_feltMany ((0 : Int32), w_read, x_length, x_top, x_at, x_wrong, x_isAsked, f_asked))) ∧ (¬ p1 = (9 : Int32) → ((p1 = (10 : Int32) → (Post x_heardMany ((0 : Int32), w_read, x_length, x_top, x_at, x_wrong, x_isAsked, f_asked))) ∧ (¬ p1 = (10 : Int32) → ((p1 = (11 : Int32) → (Post x_undoMany ((0 : Int32), w_read, x_length, x_top, x_at, x_wrong, x_isAsked, f_asked))) ∧ (¬ p1 = (11 : Int32) → ((p1 = (12 : Int32) → (Post x_rowMany ((0 : Int32), w_read, x_length, x_top, x_at, x_wrong, x_isAsked, f_asked))) ∧ (¬ p1 = (12 : Int32) → ((p1 = (13 : Int32) → (Post x_typed ((0 : Int32), w_read, x_length, x_top, x_at, x_wrong, x_isAsked, f_asked))) ∧ (¬ p1 = (13 : Int32) → (Post (-1 : Int32) ((0 : Int32), w_read, x_length, x_top, x_at, x_wrong, x_isAsked, f_asked))))))))))))))))))))))))))))))
set_option maxHeartbeats 4000000 in
set_option maxRecDepth 100000 in
theorem c_X8_count (l : Launch) (D : va_G) (cT : Nat → ClassId) (F : Nat) (h : Nat) (p1 : Int32) (q_now : Nat) (x_arches : Int32) (x_cats : Int32) (w_text : Value) (x_typed : Int32) (w_row : Value) (x_rowMany : Int32) (x_thrown : Int32) (w_read : Value) (x_length : Int32) (x_top : Int32) (x_at : Int32) (x_wrong : Int32) (w_told : Value) (q_rule : Nat) (w_otherRule : Value) (x_ruleSize : Int32) (x_isAsked : Int32) (q_asked : Nat) (w_undos : Value) (x_undoMany : Int32) (w_aside : Value) (w_then : Value) (w_hold : Value) (x_dropped : Int32) (w_acts : Value) (w_guarded : Value) (w_train : Value) (x_trolleyEnd : Int32) (w_feltOf : Value) (w_feltBy : Value) (x_feltMany : Int32) (w_many : Value) (w_heardOf : Value) (w_heardBy : Value) (x_heardMany : Int32) (w_worth : Value) (x_drawn : Int32) (x_came : Int32) (w_kept : Value) (w_isKept : Value) (w_keptCame : Value) (f_now : Nat → Int32) (f_asked : Nat → Int32) (f_rule : Nat → Int32) (Post : Int32 → (Int32 × Value × Int32 × Int32 × Int32 × Int32 × Int32 × (Nat → Int32)) → Prop) (hg : p_X8_count F p1 x_arches x_cats x_typed x_rowMany w_read x_length x_top x_at x_wrong q_rule x_ruleSize x_isAsked x_undoMany x_feltMany x_heardMany f_now f_asked f_rule Post) : MWi l D cT yX8_count cX8_count 2 (some .int) 326 10197 0 0 [.ref h, .int p1] [(h, oX8 (.ref q_now) (.int x_arches) (.int x_cats) w_text (.int x_typed) w_row (.int x_rowMany) (.int x_thrown) w_read (.int x_length) (.int x_top) (.int x_at) (.int x_wrong) w_told (.ref q_rule) w_otherRule (.int x_ruleSize) (.int x_isAsked) (.ref q_asked) w_undos (.int x_undoMany) w_aside w_then w_hold (.int x_dropped) w_acts w_guarded w_train (.int x_trolleyEnd) w_feltOf w_feltBy (.int x_feltMany) w_many w_heardOf w_heardBy (.int x_heardMany) w_worth (.int x_drawn) (.int x_came) w_kept w_isKept w_keptCame), (q_now, aI cT 47 f_now), (q_asked, aI cT 7 f_asked), (q_rule, aB cT 40 f_rule)] Post (fun (u : (Int32 × Value × Int32 × Int32 × Int32 × Int32 × Int32 × (Nat → Int32))) => [(h, oX8 (.ref q_now) (.int x_arches) (.int x_cats) w_text (.int x_typed) w_row (.int x_rowMany) (.int u.1) u.2.1 (.int u.2.2.1) (.int u.2.2.2.1) (.int u.2.2.2.2.1) (.int u.2.2.2.2.2.1) w_told (.ref q_rule) w_otherRule (.int x_ruleSize) (.int u.2.2.2.2.2.2.1) (.ref q_asked) w_undos (.int x_undoMany) w_aside w_then w_hold (.int x_dropped) w_acts w_guarded w_train (.int x_trolleyEnd) w_feltOf w_feltBy (.int x_feltMany) w_many w_heardOf w_heardBy (.int x_heardMany) w_worth (.int x_drawn) (.int x_came) w_kept w_isKept w_keptCame), (q_now, aI cT 47 f_now), (q_asked, aI cT 7 u.2.2.2.2.2.2.2), (q_rule, aB cT 40 f_rule)]) := by
  refine MWi.of (by decide) (Nat.le_of_ble_eq_true rfl) ?_
  intro p e s m below meth c A hA C0 hnm hr hP hD ls hl
  have hl : lv_has ls 2 [(0, .ref h), (1, .int p1)] := hl
  have hx := C0.x
  have hb := C0.b
  have hS : va_S A s.heap s.heap [] := va_S.rf
  have hP : va_P D cls9 [(h, oX8 (.ref q_now) (.int x_arches) (.int x_cats) w_text (.int x_typed) w_row (.int x_rowMany) (.int x_thrown) w_read (.int x_length) (.int x_top) (.int x_at) (.int x_wrong) w_told (.ref q_rule) w_otherRule (.int x_ruleSize) (.int x_isAsked) (.ref q_asked) w_undos (.int x_undoMany) w_aside w_then w_hold (.int x_dropped) w_acts w_guarded w_train (.int x_trolleyEnd) w_feltOf w_feltBy (.int x_feltMany) w_many w_heardOf w_heardBy (.int x_heardMany) w_worth (.int x_drawn) (.int x_came) w_kept w_isKept w_keptCame), (q_now, aI cT 47 f_now), (q_asked, aI cT 7 f_asked), (q_rule, aB cT 40 f_rule)] s.heap := hP
  have hD : va_D A [(h, oX8 (.ref q_now) (.int x_arches) (.int x_cats) w_text (.int x_typed) w_row (.int x_rowMany) (.int x_thrown) w_read (.int x_length) (.int x_top) (.int x_at) (.int x_wrong) w_told (.ref q_rule) w_otherRule (.int x_ruleSize) (.int x_isAsked) (.ref q_asked) w_undos (.int x_undoMany) w_aside w_then w_hold (.int x_dropped) w_acts w_guarded w_train (.int x_trolleyEnd) w_feltOf w_feltBy (.int x_feltMany) w_many w_heardOf w_heardBy (.int x_heardMany) w_worth (.int x_drawn) (.int x_came) w_kept w_isKept w_keptCame), (q_now, aI cT 47 f_now), (q_asked, aI cT 7 f_asked), (q_rule, aB cT 40 f_rule)] := hD
  unfold p_X8_count at hg
  refine lv_aload_n hx hb dX8_count_0 rfl (lv_at hl 0 rfl) ?_
  refine lv_iconst (v := (0 : Int32)) hx hb dX8_count_1 (by decide) ?_
  refine pf_X8_82 C0 hP hD hS 0 rfl (Nat.le_of_ble_eq_true rfl) (ws2 := [(h, oX8 (.ref q_now) (.int x_arches) (.int x_cats) w_text (.int x_typed) w_row (.int x_rowMany) (.int (0 : Int32)) w_read (.int x_length) (.int x_top) (.int x_at) (.int x_wrong) w_told (.ref q_rule) w_otherRule (.int x_ruleSize) (.int x_isAsked) (.ref q_asked) w_undos (.int x_undoMany) w_aside w_then w_hold (.int x_dropped) w_acts w_guarded w_train (.int x_trolleyEnd) w_feltOf w_feltBy (.int x_feltMany) w_many w_heardOf w_heardBy (.int x_heardMany) w_worth (.int x_drawn) (.int x_came) w_kept w_isKept w_keptCame), (q_now, aI cT 47 f_now), (q_asked, aI cT 7 f_asked), (q_rule, aB cT 40 f_rule)]) rfl dX8_count_2 (fun H locs hP hD hS => ?_)
  refine lv_iload_n hx hb dX8_count_5 rfl (lv_at hl 1 rfl) ?_
  rcases Classical.em (p1 = (0 : Int32)) with c_6_0 | c_6_0
  · have hg := hg.1 c_6_0
    refine lv_tableIn (tgt := 76) hx hb dX8_count_6 (by rw [c_6_0]; decide) (by rw [c_6_0]; decide) (by rw [c_6_0]; rfl) (by decide) ?_
    refine lv_aload_n hx hb dX8_count_76 rfl (lv_at hl 0 rfl) ?_
    refine gf_X8_89 C0 hP 0 rfl rfl dX8_count_77 ?_
    exact k_iret C0 hr ((0 : Int32), w_read, x_length, x_top, x_at, x_wrong, x_isAsked, f_asked) hg hP hD hS dX8_count_80
  have hg := hg.2 c_6_0
  rcases Classical.em (p1 = (1 : Int32)) with c_6_1 | c_6_1
  · have hg := hg.1 c_6_1
    refine lv_tableIn (tgt := 81) hx hb dX8_count_6 (by rw [c_6_1]; decide) (by rw [c_6_1]; decide) (by rw [c_6_1]; rfl) (by decide) ?_
    refine lv_aload_n hx hb dX8_count_81 rfl (lv_at hl 0 rfl) ?_
    refine gf_X8_96 C0 hP 0 rfl rfl dX8_count_82 ?_
    exact k_iret C0 hr ((0 : Int32), w_read, x_length, x_top, x_at, x_wrong, x_isAsked, f_asked) hg hP hD hS dX8_count_85
  have hg := hg.2 c_6_1
  rcases Classical.em (p1 = (2 : Int32)) with c_6_2 | c_6_2
  · have hg := hg.1 c_6_2
    refine lv_tableIn (tgt := 86) hx hb dX8_count_6 (by rw [c_6_2]; decide) (by rw [c_6_2]; decide) (by rw [c_6_2]; rfl) (by decide) ?_
    refine lv_aload_n hx hb dX8_count_86 rfl (lv_at hl 0 rfl) ?_
    refine gf_X8_9 C0 hP 0 rfl rfl dX8_count_87 ?_
    refine lv_bipush (v := (45 : Int32)) hx hb dX8_count_90 (by decide) ?_
    obtain ⟨g_92, hg⟩ := hg
    refine k_iald C0 hP 1 rfl g_92 dX8_count_92 ?_
    exact k_iret C0 hr ((0 : Int32), w_read, x_length, x_top, x_at, x_wrong, x_isAsked, f_asked) hg hP hD hS dX8_count_93
  have hg := hg.2 c_6_2
  rcases Classical.em (p1 = (3 : Int32)) with c_6_3 | c_6_3
  · have hg := hg.1 c_6_3
    refine lv_tableIn (tgt := 94) hx hb dX8_count_6 (by rw [c_6_3]; decide) (by rw [c_6_3]; decide) (by rw [c_6_3]; rfl) (by decide) ?_
    refine lv_aload_n hx hb dX8_count_94 rfl (lv_at hl 0 rfl) ?_
    refine gf_X8_9 C0 hP 0 rfl rfl dX8_count_95 ?_
    refine lv_bipush (v := (44 : Int32)) hx hb dX8_count_98 (by decide) ?_
    obtain ⟨g_100, hg⟩ := hg
    refine k_iald C0 hP 1 rfl g_100 dX8_count_100 ?_
    exact k_iret C0 hr ((0 : Int32), w_read, x_length, x_top, x_at, x_wrong, x_isAsked, f_asked) hg hP hD hS dX8_count_101
  have hg := hg.2 c_6_3
  rcases Classical.em (p1 = (4 : Int32)) with c_6_4 | c_6_4
  · have hg := hg.1 c_6_4
    refine lv_tableIn (tgt := 102) hx hb dX8_count_6 (by rw [c_6_4]; decide) (by rw [c_6_4]; decide) (by rw [c_6_4]; rfl) (by decide) ?_
    refine lv_aload_n hx hb dX8_count_102 rfl (lv_at hl 0 rfl) ?_
    refine gf_X8_9 C0 hP 0 rfl rfl dX8_count_103 ?_
    refine lv_bipush (v := (46 : Int32)) hx hb dX8_count_106 (by decide) ?_
    obtain ⟨g_108, hg⟩ := hg
    refine k_iald C0 hP 1 rfl g_108 dX8_count_108 ?_
    exact k_iret C0 hr ((0 : Int32), w_read, x_length, x_top, x_at, x_wrong, x_isAsked, f_asked) hg hP hD hS dX8_count_109
  have hg := hg.2 c_6_4
  rcases Classical.em (p1 = (5 : Int32)) with c_6_5 | c_6_5
  · have hg := hg.1 c_6_5
    refine lv_tableIn (tgt := 110) hx hb dX8_count_6 (by rw [c_6_5]; decide) (by rw [c_6_5]; decide) (by rw [c_6_5]; rfl) (by decide) ?_
    refine lv_aload_n hx hb dX8_count_110 rfl (lv_at hl 0 rfl) ?_
    refine lv_aload_n hx hb dX8_count_111 rfl (lv_at hl 0 rfl) ?_
    refine gf_X8_9 C0 hP 0 rfl rfl dX8_count_112 ?_
    refine k_Vxi (rest := []) C0 lk_X8_253 (c_X8_sags l D cT F h q_now (.ref q_now) x_arches x_cats w_text x_typed w_row x_rowMany (0 : Int32) w_read x_length x_top x_at x_wrong w_told (.ref q_rule) w_otherRule x_ruleSize x_isAsked (.ref q_asked) w_undos x_undoMany w_aside w_then w_hold x_dropped w_acts w_guarded w_train x_trolleyEnd w_feltOf w_feltBy x_feltMany w_many w_heardOf w_heardBy x_heardMany w_worth x_drawn x_came w_kept w_isKept w_keptCame 47 f_now _ hg) hP hD hS hA [0, 1] (by decide +kernel) rfl rfl rfl ⟨Nat.le_of_ble_eq_true rfl, Nat.le_of_ble_eq_true rfl⟩ rfl hl.1 rfl (Nat.le_of_ble_eq_true rfl) dX8_count_115 ⟨Nat.le_of_ble_eq_true rfl, Nat.le_of_ble_eq_true rfl⟩ (fun r_115 hg => ?_)
    exact k_iret C0 hr ((0 : Int32), w_read, x_length, x_top, x_at, x_wrong, x_isAsked, f_asked) hg hP hD hS dX8_count_118
  have hg := hg.2 c_6_5
  rcases Classical.em (p1 = (6 : Int32)) with c_6_6 | c_6_6
  · have hg := hg.1 c_6_6
    refine lv_tableIn (tgt := 119) hx hb dX8_count_6 (by rw [c_6_6]; decide) (by rw [c_6_6]; decide) (by rw [c_6_6]; rfl) (by decide) ?_
    refine lv_aload_n hx hb dX8_count_119 rfl (lv_at hl 0 rfl) ?_
    refine gf_X8_9 C0 hP 0 rfl rfl dX8_count_120 ?_
    refine lv_iconst (v := (0 : Int32)) hx hb dX8_count_123 (by decide) ?_
    refine lv_aload_n hx hb dX8_count_124 rfl (lv_at hl 0 rfl) ?_
    refine gf_X8_89 C0 hP 0 rfl rfl dX8_count_125 ?_
    refine k_Sxi (rest := []) C0 lk_X8_227 (c_X8_sumOf l D cT F q_now (0 : Int32) x_arches 47 f_now _ hg) hP hD hS hA [1] (by decide +kernel) rfl ⟨Nat.le_of_ble_eq_true rfl, Nat.le_of_ble_eq_true rfl⟩ rfl hl.1 rfl (Nat.le_of_ble_eq_true rfl) dX8_count_128 ⟨Nat.le_of_ble_eq_true rfl, Nat.le_of_ble_eq_true rfl⟩ (fun r_128 hg => ?_)
    exact k_iret C0 hr ((0 : Int32), w_read, x_length, x_top, x_at, x_wrong, x_isAsked, f_asked) hg hP hD hS dX8_count_131
  have hg := hg.2 c_6_6
  rcases Classical.em (p1 = (7 : Int32)) with c_6_7 | c_6_7
  · have hg := hg.1 c_6_7
    refine lv_tableIn (tgt := 132) hx hb dX8_count_6 (by rw [c_6_7]; decide) (by rw [c_6_7]; decide) (by rw [c_6_7]; rfl) (by decide) ?_
    refine lv_aload_n hx hb dX8_count_132 rfl (lv_at hl 0 rfl) ?_
    refine gf_X8_9 C0 hP 0 rfl rfl dX8_count_133 ?_
    refine lv_bipush (v := (12 : Int32)) hx hb dX8_count_136 (by decide) ?_
    refine lv_aload_n hx hb dX8_count_138 rfl (lv_at hl 0 rfl) ?_
    refine gf_X8_96 C0 hP 0 rfl rfl dX8_count_139 ?_
    refine k_Sxi (rest := []) C0 lk_X8_227 (c_X8_sumOf l D cT F q_now (12 : Int32) x_cats 47 f_now _ hg) hP hD hS hA [1] (by decide +kernel) rfl ⟨Nat.le_of_ble_eq_true rfl, Nat.le_of_ble_eq_true rfl⟩ rfl hl.1 rfl (Nat.le_of_ble_eq_true rfl) dX8_count_142 ⟨Nat.le_of_ble_eq_true rfl, Nat.le_of_ble_eq_true rfl⟩ (fun r_142 hg => ?_)
    exact k_iret C0 hr ((0 : Int32), w_read, x_length, x_top, x_at, x_wrong, x_isAsked, f_asked) hg hP hD hS dX8_count_145
  have hg := hg.2 c_6_7
  rcases Classical.em (p1 = (8 : Int32)) with c_6_8 | c_6_8
  · have hg := hg.1 c_6_8
    refine lv_tableIn (tgt := 146) hx hb dX8_count_6 (by rw [c_6_8]; decide) (by rw [c_6_8]; decide) (by rw [c_6_8]; rfl) (by decide) ?_
    refine lv_aload_n hx hb dX8_count_146 rfl (lv_at hl 0 rfl) ?_
    refine lv_aload_n hx hb dX8_count_147 rfl (lv_at hl 0 rfl) ?_
    refine gf_X8_9 C0 hP 0 rfl rfl dX8_count_148 ?_
    refine k_Vi (rest := []) (wr := []) (w2 := fun u_151 => [(h, oX8 (.ref q_now) (.int x_arches) (.int x_cats) w_text (.int x_typed) w_row (.int x_rowMany) (.int (0 : Int32)) u_151.1 (.int u_151.2.1) (.int u_151.2.2.1) (.int u_151.2.2.2.1) (.int u_151.2.2.2.2.1) w_told (.ref q_rule) w_otherRule (.int x_ruleSize) (.int u_151.2.2.2.2.2.1) (.ref q_asked) w_undos (.int x_undoMany) w_aside w_then w_hold (.int x_dropped) w_acts w_guarded w_train (.int x_trolleyEnd) w_feltOf w_feltBy (.int x_feltMany) w_many w_heardOf w_heardBy (.int x_heardMany) w_worth (.int x_drawn) (.int x_came) w_kept w_isKept w_keptCame), (q_now, aI cT 47 f_now), (q_asked, aI cT 7 u_151.2.2.2.2.2.2), (q_rule, aB cT 40 f_rule)]) C0 lk_X8_302 (c_X8_allHold l D cT F h q_now (.ref q_now) x_arches x_cats w_text x_typed w_row x_rowMany (0 : Int32) w_read x_length x_top x_at x_wrong w_told q_rule w_otherRule x_ruleSize x_isAsked q_asked w_undos x_undoMany w_aside w_then w_hold x_dropped w_acts w_guarded w_train x_trolleyEnd w_feltOf w_feltBy x_feltMany w_many w_heardOf w_heardBy x_heardMany w_worth x_drawn x_came w_kept w_isKept w_keptCame 47 f_now f_asked f_rule _ hg) hP hD hS hA [0, 1, 2, 3] [] (by decide +kernel) rfl rfl (fun _ => rfl) rfl rfl ⟨Nat.le_of_ble_eq_true rfl, Nat.le_of_ble_eq_true rfl⟩ rfl hl.1 rfl (Nat.le_of_ble_eq_true rfl) dX8_count_151 ⟨Nat.le_of_ble_eq_true rfl, Nat.le_of_ble_eq_true rfl⟩ ?_
    intro r_151 u_151 H locs hg hP hD hS
    exact k_iret C0 hr ((0 : Int32), u_151.1, u_151.2.1, u_151.2.2.1, u_151.2.2.2.1, u_151.2.2.2.2.1, u_151.2.2.2.2.2.1, u_151.2.2.2.2.2.2) hg hP hD hS dX8_count_154
  have hg := hg.2 c_6_8
  rcases Classical.em (p1 = (9 : Int32)) with c_6_9 | c_6_9
  · have hg := hg.1 c_6_9
    refine lv_tableIn (tgt := 155) hx hb dX8_count_6 (by rw [c_6_9]; decide) (by rw [c_6_9]; decide) (by rw [c_6_9]; rfl) (by decide) ?_
    refine lv_aload_n hx hb dX8_count_155 rfl (lv_at hl 0 rfl) ?_
    refine gf_X8_326 C0 hP 0 rfl rfl dX8_count_156 ?_
    exact k_iret C0 hr ((0 : Int32), w_read, x_length, x_top, x_at, x_wrong, x_isAsked, f_asked) hg hP hD hS dX8_count_159
  have hg := hg.2 c_6_9
  rcases Classical.em (p1 = (10 : Int32)) with c_6_10 | c_6_10
  · have hg := hg.1 c_6_10
    refine lv_tableIn (tgt := 160) hx hb dX8_count_6 (by rw [c_6_10]; decide) (by rw [c_6_10]; decide) (by rw [c_6_10]; rfl) (by decide) ?_
    refine lv_aload_n hx hb dX8_count_160 rfl (lv_at hl 0 rfl) ?_
    refine gf_X8_341 C0 hP 0 rfl rfl dX8_count_161 ?_
    exact k_iret C0 hr ((0 : Int32), w_read, x_length, x_top, x_at, x_wrong, x_isAsked, f_asked) hg hP hD hS dX8_count_164
  have hg := hg.2 c_6_10
  rcases Classical.em (p1 = (11 : Int32)) with c_6_11 | c_6_11
  · have hg := hg.1 c_6_11
    refine lv_tableIn (tgt := 165) hx hb dX8_count_6 (by rw [c_6_11]; decide) (by rw [c_6_11]; decide) (by rw [c_6_11]; rfl) (by decide) ?_
    refine lv_aload_n hx hb dX8_count_165 rfl (lv_at hl 0 rfl) ?_
    refine gf_X8_141 C0 hP 0 rfl rfl dX8_count_166 ?_
    exact k_iret C0 hr ((0 : Int32), w_read, x_length, x_top, x_at, x_wrong, x_isAsked, f_asked) hg hP hD hS dX8_count_169
  have hg := hg.2 c_6_11
  rcases Classical.em (p1 = (12 : Int32)) with c_6_12 | c_6_12
  · have hg := hg.1 c_6_12
    refine lv_tableIn (tgt := 170) hx hb dX8_count_6 (by rw [c_6_12]; decide) (by rw [c_6_12]; decide) (by rw [c_6_12]; rfl) (by decide) ?_
    refine lv_aload_n hx hb dX8_count_170 rfl (lv_at hl 0 rfl) ?_
    refine gf_X8_86 C0 hP 0 rfl rfl dX8_count_171 ?_
    exact k_iret C0 hr ((0 : Int32), w_read, x_length, x_top, x_at, x_wrong, x_isAsked, f_asked) hg hP hD hS dX8_count_174
  have hg := hg.2 c_6_12
  rcases Classical.em (p1 = (13 : Int32)) with c_6_13 | c_6_13
  · have hg := hg.1 c_6_13
    refine lv_tableIn (tgt := 175) hx hb dX8_count_6 (by rw [c_6_13]; decide) (by rw [c_6_13]; decide) (by rw [c_6_13]; rfl) (by decide) ?_
    refine lv_aload_n hx hb dX8_count_175 rfl (lv_at hl 0 rfl) ?_
    refine gf_X8_99 C0 hP 0 rfl rfl dX8_count_176 ?_
    exact k_iret C0 hr ((0 : Int32), w_read, x_length, x_top, x_at, x_wrong, x_isAsked, f_asked) hg hP hD hS dX8_count_179
  have hg := hg.2 c_6_13
  refine sw_def (x := p1) (lo := 0) (dflt := 174) (tgt := 180) hx hb dX8_count_6 (by decide) (by decide) ?_ ?_
  · intro k hk hx2
    have n_6_0 := ne_toInt (k := 0) (by decide) c_6_0
    have n_6_1 := ne_toInt (k := 1) (by decide) c_6_1
    have n_6_2 := ne_toInt (k := 2) (by decide) c_6_2
    have n_6_3 := ne_toInt (k := 3) (by decide) c_6_3
    have n_6_4 := ne_toInt (k := 4) (by decide) c_6_4
    have n_6_5 := ne_toInt (k := 5) (by decide) c_6_5
    have n_6_6 := ne_toInt (k := 6) (by decide) c_6_6
    have n_6_7 := ne_toInt (k := 7) (by decide) c_6_7
    have n_6_8 := ne_toInt (k := 8) (by decide) c_6_8
    have n_6_9 := ne_toInt (k := 9) (by decide) c_6_9
    have n_6_10 := ne_toInt (k := 10) (by decide) c_6_10
    have n_6_11 := ne_toInt (k := 11) (by decide) c_6_11
    have n_6_12 := ne_toInt (k := 12) (by decide) c_6_12
    have n_6_13 := ne_toInt (k := 13) (by decide) c_6_13
    have hk3 : k < 14 := hk
    match k, hk3 with
    | 0, _ => exact absurd hx2 (by omega)
    | 1, _ => exact absurd hx2 (by omega)
    | 2, _ => exact absurd hx2 (by omega)
    | 3, _ => exact absurd hx2 (by omega)
    | 4, _ => exact absurd hx2 (by omega)
    | 5, _ => exact absurd hx2 (by omega)
    | 6, _ => exact absurd hx2 (by omega)
    | 7, _ => exact absurd hx2 (by omega)
    | 8, _ => exact absurd hx2 (by omega)
    | 9, _ => exact absurd hx2 (by omega)
    | 10, _ => exact absurd hx2 (by omega)
    | 11, _ => exact absurd hx2 (by omega)
    | 12, _ => exact absurd hx2 (by omega)
    | 13, _ => exact absurd hx2 (by omega)
    | k + 14, h => exact absurd h (by omega)
  refine lv_iconst (v := (-1 : Int32)) hx hb dX8_count_180 (by decide) ?_
  exact k_iret C0 hr ((0 : Int32), w_read, x_length, x_top, x_at, x_wrong, x_isAsked, f_asked) hg hP hD hS dX8_count_181
theorem dX8_row_0 : decode cX8_row 0 = .ok (.aload_n 0, 1) := by decide +kernel
theorem dX8_row_1 : decode cX8_row 1 = .ok (.iconst 0, 1) := by decide +kernel
theorem dX8_row_2 : decode cX8_row 2 = .ok (.putfield 82, 3) := by decide +kernel
theorem dX8_row_5 : decode cX8_row 5 = .ok (.iload_n 1, 1) := by decide +kernel
theorem dX8_row_6 : decode cX8_row 6 = .ok (.iconst 0, 1) := by decide +kernel
theorem dX8_row_7 : decode cX8_row 7 = .ok (.aload_n 0, 1) := by decide +kernel
theorem dX8_row_8 : decode cX8_row 8 = .ok (.getfield 86, 3) := by decide +kernel
theorem dX8_row_11 : decode cX8_row 11 = .ok (.iconst 1, 1) := by decide +kernel
theorem dX8_row_12 : decode cX8_row 12 = .ok (.isub, 1) := by decide +kernel
theorem dX8_row_13 : decode cX8_row 13 = .ok (.invokestatic 92, 3) := by decide +kernel
theorem dX8_row_16 : decode cX8_row 16 = .ok (.ifCond .eq 12, 3) := by decide +kernel
theorem dX8_row_19 : decode cX8_row 19 = .ok (.aload_n 0, 1) := by decide +kernel
theorem dX8_row_20 : decode cX8_row 20 = .ok (.getfield 17, 3) := by decide +kernel
theorem dX8_row_23 : decode cX8_row 23 = .ok (.iload_n 1, 1) := by decide +kernel
theorem dX8_row_24 : decode cX8_row 24 = .ok (.laload, 1) := by decide +kernel
theorem dX8_row_25 : decode cX8_row 25 = .ok (.goto 8, 3) := by decide +kernel
theorem dX8_row_28 : decode cX8_row 28 = .ok (.aload_n 0, 1) := by decide +kernel
theorem dX8_row_29 : decode cX8_row 29 = .ok (.invokevirtual 218, 3) := by decide +kernel
theorem dX8_row_32 : decode cX8_row 32 = .ok (.i2l, 1) := by decide +kernel
theorem dX8_row_33 : decode cX8_row 33 = .ok (.lreturn, 1) := by decide +kernel
def p_X8_row (F : Nat) (p1 : Int32) (x_rowMany : Int32) (f_row : Nat → Int64) (Post : Int64 → Int32 → Prop) : Prop := (p_X8_in F p1 (0 : Int32) (x_rowMany - (1 : Int32)) (fun (r_13 : Int32) => ((r_13 = 0 → (p_X8_lost F (fun (r_29 : Int32) (u_29 : Int32) => (Post (r_29.toInt64) u_29)))) ∧ (¬ r_13 = 0 → (vp_in p1 16 ∧ (Post (f_row p1.toNatClampNeg) (0 : Int32)))))))
set_option maxHeartbeats 4000000 in
set_option maxRecDepth 100000 in
theorem c_X8_row (l : Launch) (D : va_G) (cT : Nat → ClassId) (F : Nat) (h : Nat) (p1 : Int32) (w_now : Value) (x_arches : Int32) (x_cats : Int32) (w_text : Value) (x_typed : Int32) (q_row : Nat) (x_rowMany : Int32) (x_thrown : Int32) (w_read : Value) (x_length : Int32) (x_top : Int32) (x_at : Int32) (x_wrong : Int32) (w_told : Value) (w_rule : Value) (w_otherRule : Value) (x_ruleSize : Int32) (x_isAsked : Int32) (w_asked : Value) (w_undos : Value) (x_undoMany : Int32) (w_aside : Value) (w_then : Value) (w_hold : Value) (x_dropped : Int32) (w_acts : Value) (w_guarded : Value) (w_train : Value) (x_trolleyEnd : Int32) (w_feltOf : Value) (w_feltBy : Value) (x_feltMany : Int32) (w_many : Value) (w_heardOf : Value) (w_heardBy : Value) (x_heardMany : Int32) (w_worth : Value) (x_drawn : Int32) (x_came : Int32) (w_kept : Value) (w_isKept : Value) (w_keptCame : Value) (f_row : Nat → Int64) (Post : Int64 → Int32 → Prop) (hg : p_X8_row F p1 x_rowMany f_row Post) : MWl l D cT yX8_row cX8_row 2 (some .long) 1 22 0 0 [.ref h, .int p1] [(h, oX8 w_now (.int x_arches) (.int x_cats) w_text (.int x_typed) (.ref q_row) (.int x_rowMany) (.int x_thrown) w_read (.int x_length) (.int x_top) (.int x_at) (.int x_wrong) w_told w_rule w_otherRule (.int x_ruleSize) (.int x_isAsked) w_asked w_undos (.int x_undoMany) w_aside w_then w_hold (.int x_dropped) w_acts w_guarded w_train (.int x_trolleyEnd) w_feltOf w_feltBy (.int x_feltMany) w_many w_heardOf w_heardBy (.int x_heardMany) w_worth (.int x_drawn) (.int x_came) w_kept w_isKept w_keptCame), (q_row, aJ cT 16 f_row)] Post (fun (u : Int32) => [(h, oX8 w_now (.int x_arches) (.int x_cats) w_text (.int x_typed) (.ref q_row) (.int x_rowMany) (.int u) w_read (.int x_length) (.int x_top) (.int x_at) (.int x_wrong) w_told w_rule w_otherRule (.int x_ruleSize) (.int x_isAsked) w_asked w_undos (.int x_undoMany) w_aside w_then w_hold (.int x_dropped) w_acts w_guarded w_train (.int x_trolleyEnd) w_feltOf w_feltBy (.int x_feltMany) w_many w_heardOf w_heardBy (.int x_heardMany) w_worth (.int x_drawn) (.int x_came) w_kept w_isKept w_keptCame), (q_row, aJ cT 16 f_row)]) := by
  refine MWl.of (by decide) (Nat.le_of_ble_eq_true rfl) ?_
  intro p e s m below meth c A hA C0 hnm hr hP hD ls hl
  have hl : lv_has ls 2 [(0, .ref h), (1, .int p1)] := hl
  have hx := C0.x
  have hb := C0.b
  have hS : va_S A s.heap s.heap [] := va_S.rf
  have hP : va_P D cls9 [(h, oX8 w_now (.int x_arches) (.int x_cats) w_text (.int x_typed) (.ref q_row) (.int x_rowMany) (.int x_thrown) w_read (.int x_length) (.int x_top) (.int x_at) (.int x_wrong) w_told w_rule w_otherRule (.int x_ruleSize) (.int x_isAsked) w_asked w_undos (.int x_undoMany) w_aside w_then w_hold (.int x_dropped) w_acts w_guarded w_train (.int x_trolleyEnd) w_feltOf w_feltBy (.int x_feltMany) w_many w_heardOf w_heardBy (.int x_heardMany) w_worth (.int x_drawn) (.int x_came) w_kept w_isKept w_keptCame), (q_row, aJ cT 16 f_row)] s.heap := hP
  have hD : va_D A [(h, oX8 w_now (.int x_arches) (.int x_cats) w_text (.int x_typed) (.ref q_row) (.int x_rowMany) (.int x_thrown) w_read (.int x_length) (.int x_top) (.int x_at) (.int x_wrong) w_told w_rule w_otherRule (.int x_ruleSize) (.int x_isAsked) w_asked w_undos (.int x_undoMany) w_aside w_then w_hold (.int x_dropped) w_acts w_guarded w_train (.int x_trolleyEnd) w_feltOf w_feltBy (.int x_feltMany) w_many w_heardOf w_heardBy (.int x_heardMany) w_worth (.int x_drawn) (.int x_came) w_kept w_isKept w_keptCame), (q_row, aJ cT 16 f_row)] := hD
  unfold p_X8_row at hg
  refine lv_aload_n hx hb dX8_row_0 rfl (lv_at hl 0 rfl) ?_
  refine lv_iconst (v := (0 : Int32)) hx hb dX8_row_1 (by decide) ?_
  refine pf_X8_82 C0 hP hD hS 0 rfl (Nat.le_of_ble_eq_true rfl) (ws2 := [(h, oX8 w_now (.int x_arches) (.int x_cats) w_text (.int x_typed) (.ref q_row) (.int x_rowMany) (.int (0 : Int32)) w_read (.int x_length) (.int x_top) (.int x_at) (.int x_wrong) w_told w_rule w_otherRule (.int x_ruleSize) (.int x_isAsked) w_asked w_undos (.int x_undoMany) w_aside w_then w_hold (.int x_dropped) w_acts w_guarded w_train (.int x_trolleyEnd) w_feltOf w_feltBy (.int x_feltMany) w_many w_heardOf w_heardBy (.int x_heardMany) w_worth (.int x_drawn) (.int x_came) w_kept w_isKept w_keptCame), (q_row, aJ cT 16 f_row)]) rfl dX8_row_2 (fun H locs hP hD hS => ?_)
  refine lv_iload_n hx hb dX8_row_5 rfl (lv_at hl 1 rfl) ?_
  refine lv_iconst (v := (0 : Int32)) hx hb dX8_row_6 (by decide) ?_
  refine lv_aload_n hx hb dX8_row_7 rfl (lv_at hl 0 rfl) ?_
  refine gf_X8_86 C0 hP 0 rfl rfl dX8_row_8 ?_
  refine lv_iconst (v := (1 : Int32)) hx hb dX8_row_11 (by decide) ?_
  refine lv_isub hx hb dX8_row_12 ?_
  refine k_Sxi (rest := []) C0 lk_X8_92 (c_X8_in l D cT F p1 (0 : Int32) (x_rowMany - (1 : Int32)) _ hg) hP hD hS hA [] (by decide +kernel) rfl ⟨Nat.le_of_ble_eq_true rfl, Nat.le_of_ble_eq_true rfl⟩ rfl hl.1 rfl (Nat.le_of_ble_eq_true rfl) dX8_row_13 ⟨Nat.le_of_ble_eq_true rfl, Nat.le_of_ble_eq_true rfl⟩ (fun r_13 hg => ?_)
  refine lv_if_eq (tgt := 28) hx hb dX8_row_16 (by decide) (fun c_16 => ?_) (fun c_16 => ?_)
  · have hg := hg.1 c_16
    refine lv_aload_n hx hb dX8_row_28 rfl (lv_at hl 0 rfl) ?_
    refine k_Vi (rest := []) (wr := [(q_row, aJ cT 16 f_row)]) (w2 := fun u_29 => [(q_row, aJ cT 16 f_row), (h, oX8 w_now (.int x_arches) (.int x_cats) w_text (.int x_typed) (.ref q_row) (.int x_rowMany) (.int u_29) w_read (.int x_length) (.int x_top) (.int x_at) (.int x_wrong) w_told w_rule w_otherRule (.int x_ruleSize) (.int x_isAsked) w_asked w_undos (.int x_undoMany) w_aside w_then w_hold (.int x_dropped) w_acts w_guarded w_train (.int x_trolleyEnd) w_feltOf w_feltBy (.int x_feltMany) w_many w_heardOf w_heardBy (.int x_heardMany) w_worth (.int x_drawn) (.int x_came) w_kept w_isKept w_keptCame)]) C0 lk_X8_218 (c_X8_lost l D cT F h w_now x_arches x_cats w_text x_typed (.ref q_row) x_rowMany (0 : Int32) w_read x_length x_top x_at x_wrong w_told w_rule w_otherRule x_ruleSize x_isAsked w_asked w_undos x_undoMany w_aside w_then w_hold x_dropped w_acts w_guarded w_train x_trolleyEnd w_feltOf w_feltBy x_feltMany w_many w_heardOf w_heardBy x_heardMany w_worth x_drawn x_came w_kept w_isKept w_keptCame _ hg) hP hD hS hA [0] [1] (by decide +kernel) rfl rfl (fun _ => rfl) rfl rfl ⟨Nat.le_of_ble_eq_true rfl, Nat.le_of_ble_eq_true rfl⟩ rfl hl.1 rfl (Nat.le_of_ble_eq_true rfl) dX8_row_29 ⟨Nat.le_of_ble_eq_true rfl, Nat.le_of_ble_eq_true rfl⟩ ?_
    intro r_29 u_29 H locs hg hP hD hS
    refine lv_i2l (v := (r_29.toInt64)) hx hb dX8_row_32 rfl ?_
    exact k_lret C0 hr u_29 hg (subP hP [1, 0] rfl) (hD.sub [1, 0] (nd2_ok _ (by decide +kernel)) rfl) hS dX8_row_33
  have hg := hg.2 c_16
  refine lv_aload_n hx hb dX8_row_19 rfl (lv_at hl 0 rfl) ?_
  refine gf_X8_17 C0 hP 0 rfl rfl dX8_row_20 ?_
  refine lv_iload_n hx hb dX8_row_23 rfl (lv_at hl 1 rfl) ?_
  obtain ⟨g_24, hg⟩ := hg
  refine k_lald C0 hP 1 rfl g_24 dX8_row_24 ?_
  refine lv_goto (tgt := 33) hx hb dX8_row_25 (by decide) ?_
  exact k_lret C0 hr (0 : Int32) hg hP hD hS dX8_row_33
