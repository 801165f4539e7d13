/-! ===== what is known at the law's entry ===== -/
theorem arr_known {args : Array Value} {s : State} {ty : FieldType} (h : (Cond.arrayClass ty).before args s = true) (hR : ∀ cA, s.vm.findClass ("[" ++ ty.toString) = some cA → va_RA s cA ty) : ∃ cA : ClassId, ArrOfT s cA ty ∧ va_RA s cA ty := by
  obtain ⟨cA, kA, comp, h1, h2, h3⟩ := Cond.arrayClass_spec h
  exact ⟨cA, fun n z => ⟨fun k h => (by cases h), kA, h2, comp, h3⟩, hR cA h1⟩
theorem arr_knownO {args : Array Value} {s : State} {C : String} (h : (Cond.arrayOver (.object C)).before args s = true) : ∃ cA : ClassId, ArrOfT s cA (.object C) ∧ va_RA s cA (.object C) := by
  obtain ⟨comp, cA, kA, h1, h2, h3, h4, h5⟩ := Cond.arrayOver_spec h
  exact ⟨cA, fun n z => ⟨fun k h => (by cases h), kA, h3, comp, h4⟩, kA, comp, h3, h4, h1, h5⟩
theorem nest_in : ∀ q ∈ nestL, Cond.methodLinkNest q.1 q.2.1 q.2.2.1 q.2.2.2 ∈ lw_tbl := by decide +kernel
theorem x_in : ∀ w ∈ xB, w ∈ lw_tbl := by decide +kernel
theorem ao_in : Cond.arrayOver (.object RX6) ∈ lw_tbl := by decide +kernel
theorem st_in1 : Cond.laysStatic RX7 "SETS_WITHOUT" "[J" ∈ lw_tbl := by decide +kernel
theorem st_in2 : Cond.laysStatic Bundle.tN "UNASSIGNED_STACK" Bundle.steD ∈ lw_tbl := by decide +kernel
theorem st_in3 : Cond.laysStatic Bundle.tN "SUPPRESSED_SENTINEL" Bundle.listD ∈ lw_tbl := by decide +kernel
section CXS
variable {p : Program} {s : State} {m : MethodId} {meth : Method} {c : Code} {b L : Nat} {xs : Nat → Int32}
theorem gs_start {args : Array Value} (hts : ∀ w ∈ lw_tbl, w.before args s = true) (hgv : (Jvm.Cond.and given_1 narrow_1).before args s = true) : ∃ t0 : Nat, ∀ cT : Nat → ClassId, cT 6 = s.heap.size → cT 7 = t0 → GS cT s s.heap := by
  have htg : ∀ w ∈ gw, w.before args s = true := fun w hw => hts w (List.mem_filter.mp hw).1
  have hs := flat_of_before _ hgv
  have hno : ∀ a : Nat, a < s.heap.size → ¬ s.heap.size ≤ a := fun a h => Nat.not_le.mpr h
  have hel : ∀ j : Nat, j < 6 → (Term.elem (.static RX7 "SETS_WITHOUT" "[J") (.int (Int32.ofNat j))).eval args s none [] s = some (.long (setsW j)) := by
    intro j hj
    match j, hj with
    | 0, _ => exact va_eqtl (hs (Cond.eq (Term.elem (Term.static RX7 "SETS_WITHOUT" "[J") (Term.int 0)) (Term.long 6148914691236517205)) (by decide +kernel))
    | 1, _ => exact va_eqtl (hs (Cond.eq (Term.elem (Term.static RX7 "SETS_WITHOUT" "[J") (Term.int 1)) (Term.long 3689348814741910323)) (by decide +kernel))
    | 2, _ => exact va_eqtl (hs (Cond.eq (Term.elem (Term.static RX7 "SETS_WITHOUT" "[J") (Term.int 2)) (Term.long 1085102592571150095)) (by decide +kernel))
    | 3, _ => exact va_eqtl (hs (Cond.eq (Term.elem (Term.static RX7 "SETS_WITHOUT" "[J") (Term.int 3)) (Term.long 71777214294589695)) (by decide +kernel))
    | 4, _ => exact va_eqtl (hs (Cond.eq (Term.elem (Term.static RX7 "SETS_WITHOUT" "[J") (Term.int 4)) (Term.long 281470681808895)) (by decide +kernel))
    | 5, _ => exact va_eqtl (hs (Cond.eq (Term.elem (Term.static RX7 "SETS_WITHOUT" "[J") (Term.int 5)) (Term.long 4294967295)) (by decide +kernel))
    | j + 6, h => exact absurd h (by omega)
  obtain ⟨t0, e0, T0⟩ := va_Tof (tm := Term.static RX7 "SETS_WITHOUT" "[J") (ty := .long) (N := 6) (f := fun j => .long (setsW j)) (A := fun q => s.heap.size ≤ q) (by decide) (hs (Cond.arrayOf (Term.static RX7 "SETS_WITHOUT" "[J") .long) (by decide +kernel)) (va_eqt (hs (Cond.eq (Term.length (Term.static RX7 "SETS_WITHOUT" "[J")) (Term.int 6)) (by decide +kernel))) hel hno
  refine ⟨t0, fun cT h6 h7 => ?_⟩
  unfold GS
  rw [h6, h7]
  exact ⟨va_Zof (hts _ st_in1) (htg _ w1_1) e0 hno, T0, vx_Zqof (hts _ st_in2) (htg _ w1_13) (hs (Cond.isRef (Term.static Bundle.tN "UNASSIGNED_STACK" Bundle.steD)) (by decide +kernel)) hno, vx_Zqof (hts _ st_in3) (htg _ w1_13) (hs (Cond.isRef (Term.static Bundle.tN "SUPPRESSED_SENTINEL" Bundle.listD)) (by decide +kernel)) hno⟩
theorem cx_start (C0 : lw_At p s m meth c b L xs) : ∃ (D : va_G) (cT : Nat → ClassId), Cx p s m #[Value.ref b] meth c D cT cL_law 8 RL ∧ EX s ∧ cT 6 = s.heap.size := by
  obtain ⟨hx, hb, hr, hml, hown, hts, hX, hbl, hlocks, hgv⟩ := id C0
  have htg : ∀ w ∈ gw, w.before #[Value.ref b] s = true := fun w hw => hts w (List.mem_filter.mp hw).1
  obtain ⟨c0, i0, k0⟩ := u_known (C := RX0) (T := TX0) (N := 1) (n := 1) htg inX0 (htg _ w1_153)
  obtain ⟨c1, i1, k1⟩ := u_known (C := RX1) (T := TX1) (N := 4) (n := 4) htg inX1 (htg _ w1_131)
  obtain ⟨c2, i2, k2⟩ := u_known (C := RX2) (T := TX2) (N := 3) (n := 3) htg inX2 (htg _ w1_112)
  obtain ⟨c3, i3, k3⟩ := u_known (C := RX3) (T := TX3) (N := 2) (n := 2) htg inX3 (htg _ w1_44)
  obtain ⟨c4, i4, k4⟩ := u_known (C := RX4) (T := TX4) (N := 8) (n := 8) htg inX4 (htg _ w1_164)
  obtain ⟨c5, i5, k5⟩ := u_known (C := RX5) (T := TX5) (N := 2) (n := 2) htg inX5 (htg _ w1_28)
  obtain ⟨c6, i6, k6⟩ := u_known (C := RX6) (T := TX6) (N := 11) (n := 11) htg inX6 (htg _ w1_60)
  obtain ⟨c7, i7, k7⟩ := u_known (C := RX7) (T := TX7) (N := 16) (n := 16) htg inX7 (htg _ w1_20)
  obtain ⟨c8, i8, k8⟩ := u_known (C := RX8) (T := TX8) (N := 42) (n := 42) htg inX8 (htg _ w4_167)
  obtain ⟨a0, r0⟩ := arr_known (ty := .int) (htg _ w1_110) (fun _ h => h)
  obtain ⟨a1, r1⟩ := arr_known (ty := .byte) (htg _ w5_59) (fun _ h => h)
  obtain ⟨a2, r2⟩ := arr_known (ty := .char) (htg _ w1_42) (fun _ h => h)
  obtain ⟨a3, r3⟩ := arr_known (ty := .long) (htg _ w1_58) (fun _ h => h)
  obtain ⟨a4, r4⟩ := arr_known (ty := .boolean) (htg _ w5_60) (fun _ h => h)
  obtain ⟨a5, r5⟩ := arr_knownO (C := RX6) (hts _ ao_in)
  obtain ⟨t0, hG⟩ := gs_start hts hgv
  refine ⟨(fun k => match k with
    | 0 => c0
    | 1 => c1
    | 2 => c2
    | 3 => c3
    | 4 => c4
    | 5 => c5
    | 6 => c6
    | 7 => c7
    | _ => c8, fun k => match k with
    | 0 => i0
    | 1 => i1
    | 2 => i2
    | 3 => i3
    | 4 => i4
    | 5 => i5
    | 6 => i6
    | 7 => i7
    | _ => i8), fun k => match k with
    | 0 => a0
    | 1 => a1
    | 2 => a2
    | 3 => a3
    | 4 => a4
    | 5 => a5
    | 6 => s.heap.size
    | _ => t0, ⟨⟨hx, hb, hml, hown, htg⟩, ⟨⟨fun k q hq => ?_, fun k q hq => ?_⟩, fun q hq => va_Nw.of rfl (hts _ (nest_in q hq)), va_AO.of (hts _ ao_in)⟩, hlocks, Nat.le_refl _, hG _ rfl rfl⟩, ⟨va_Nw.of rfl (hts _ (x_in _ (List.mem_cons_self))), va_Nw.of rfl (hts _ (x_in _ (List.mem_of_getElem? (i := 1) rfl))), va_Nw.of rfl (hts _ (x_in _ (List.mem_of_getElem? (i := 2) rfl))), va_Nw.of rfl (hts _ (x_in _ (List.mem_of_getElem? (i := 3) rfl)))⟩, rfl⟩
  · match k, hq with
    | 0, hq => cases hq; exact k0
    | 1, hq => cases hq; exact k1
    | 2, hq => cases hq; exact k2
    | 3, hq => cases hq; exact k3
    | 4, hq => cases hq; exact k4
    | 5, hq => cases hq; exact k5
    | 6, hq => cases hq; exact k6
    | 7, hq => cases hq; exact k7
    | 8, hq => cases hq; exact k8
    | k + 9, hq => simp at hq
  · match k, hq with
    | 0, hq => cases hq; exact r0
    | 1, hq => cases hq; exact r1
    | 2, hq => cases hq; exact r2
    | 3, hq => cases hq; exact r3
    | 4, hq => cases hq; exact r4
    | 5, hq => cases hq; exact r5
    | k + 6, hq => simp at hq
end CXS
