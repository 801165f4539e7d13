set_option maxHeartbeats 1000000 in
theorem lc_arch {p : Program} {l : Launch} {e : Env} {s : State} {m : MethodId} {args : Array Value} {below : List Frame} {meth : Method} {c : Code} {H : Heap} {locs : List Loc} {cells slots : Nat} {Q : State → Prop} {ls : Array Slot} {D : va_G} {cT : Nat → ClassId} {A : Nat → Prop} {F : Nat} {a : XA} {x : XS} {am : MA} {mm : MS} {qo : Nat} {fo : Nat → Int64} {b L : Nat} {xs : Nat → Int32} {i : Int32} {Rl : XS → MS → Prop} (C0 : Cx p s m args meth c D cT cL_law 8 RL) (hE : EX s) (hfl : l.stackTraces = false) (hX : va_X b L xs s s.heap) (hbl : b < s.heap.size) (hbA : ¬ A b) (hS : va_S A s.heap H locs) (hA : AO cT s A) (hl : lv_has ls 8 [(4, .int i), (0, .ref b), (1, .ref a.h), (2, .ref am.h), (3, .ref qo)]) (hi1 : vp_in (i + 1) L) (hi2 : vp_in (i + 2) L) (hi3 : vp_in (i + 3) L) (hi4 : vp_in (i + 4) L) (hP : va_P D cls9 (wL cT a x am mm qo fo) H) (hD : va_D A (wL cT a x am mm qo fo)) (hf : cells + 24 ≤ room_1.cells ∧ slots + 192 ≤ room_1.slots) (hob : p7_arch F (xs (i + (1 : Int32)).toNatClampNeg) (xs (i + (2 : Int32)).toNatClampNeg) x fo (fun r x' fo' => p8_arch F (xs (i + (1 : Int32)).toNatClampNeg) (xs (i + (2 : Int32)).toNatClampNeg) am mm (fun r' m' => p8_thrown F m' (fun t m'' => t = r ∧ (r = 0 → fo' (0 : Int32).toNatClampNeg = r'.toInt64) ∧ Rl x' m''))))
    (kk : ∀ (a' : XA) (x' : XS) (mm' : MS) (fo' : Nat → Int64) (H1 : Heap) (locs1 : List Loc) (ls' : Array Slot), a'.h = a.h → Rl x' mm' → va_P D cls9 (wL cT a' x' am mm' qo fo') H1 → va_D A (wL cT a' x' am mm' qo fo') → va_S A s.heap H1 locs1 → lv_has ls' 8 [(4, .int i), (0, .ref b), (1, .ref a.h), (2, .ref am.h), (3, .ref qo)] → W p l e room_1 s m args below meth c H1 locs1 (cells + 24) (slots + 192) Q (F0 m 1570 ls' [])) : W p l e room_1 s m args below meth c H locs cells slots Q (F0 m 341 ls []) := by
  have hx := C0.x
  have hb := C0.b
  have hf1 := hf.1
  have hf2 := hf.2
  refine lv_aload_n hx hb dL_law_341 rfl (lv_at hl 2 rfl) ?_
  refine lv_aload_n hx hb dL_law_342 rfl (lv_at hl 1 rfl) ?_
  refine lv_iload hx hb dL_law_343 (lv_at hl 0 rfl) ?_
  refine lv_iconst (v := (1 : Int32)) hx hb dL_law_345 (by decide) ?_
  refine lv_iadd hx hb dL_law_346 ?_
  refine va_sld hx hb hX hbl hbA hS hi1 dL_law_347 ?_
  refine lv_aload_n hx hb dL_law_348 rfl (lv_at hl 1 rfl) ?_
  refine lv_iload hx hb dL_law_349 (lv_at hl 0 rfl) ?_
  refine lv_iconst (v := (2 : Int32)) hx hb dL_law_351 (by decide) ?_
  refine lv_iadd hx hb dL_law_352 ?_
  refine va_sld hx hb hX hbl hbA hS hi2 dL_law_353 ?_
  refine lv_aload_n hx hb dL_law_354 rfl (lv_at hl 4 rfl) ?_
  refine s7_arch (rest := []) C0 hS hA hl.1 (Nat.le_of_ble_eq_true rfl) hE hfl hP hD dL_law_355 ⟨by omega, by omega⟩ hob (fun r x' fo' H locs hg hP hD hS => ?_)
  refine lv_istore (lv' := [(5, .int r), (4, .int i), (0, .ref b), (1, .ref a.h), (2, .ref am.h), (3, .ref qo)]) hx hb dL_law_358 hl (by decide) rfl (fun ls hl => ?_)
  refine lv_aload_n hx hb dL_law_360 rfl (lv_at hl 4 rfl) ?_
  refine lv_aload_n hx hb dL_law_361 rfl (lv_at hl 2 rfl) ?_
  refine lv_iload hx hb dL_law_362 (lv_at hl 1 rfl) ?_
  refine lv_iconst (v := (1 : Int32)) hx hb dL_law_364 (by decide) ?_
  refine lv_iadd hx hb dL_law_365 ?_
  refine va_sld hx hb hX hbl hbA hS hi1 dL_law_366 ?_
  refine lv_aload_n hx hb dL_law_367 rfl (lv_at hl 2 rfl) ?_
  refine lv_iload hx hb dL_law_368 (lv_at hl 1 rfl) ?_
  refine lv_iconst (v := (2 : Int32)) hx hb dL_law_370 (by decide) ?_
  refine lv_iadd hx hb dL_law_371 ?_
  refine va_sld hx hb hX hbl hbA hS hi2 dL_law_372 ?_
  refine s8_arch (rest := []) C0 hS hA hl.1 (Nat.le_of_ble_eq_true rfl) (permP hP pmX) (permD hD pmX) dL_law_373 ⟨by omega, by omega⟩ hg (fun r' m' H locs hg hP hD hS => ?_)
  refine lv_istore (lv' := [(6, .int r'), (5, .int r), (4, .int i), (0, .ref b), (1, .ref a.h), (2, .ref am.h), (3, .ref qo)]) hx hb dL_law_376 hl (by decide) rfl (fun ls hl => ?_)
  refine lv_aload_n hx hb dL_law_378 rfl (lv_at hl 5 rfl) ?_
  refine s8_thrown (rest := []) C0 hS hA hl.1 (Nat.le_of_ble_eq_true rfl) hP hD dL_law_379 ⟨by omega, by omega⟩ hg (fun t m'' H locs hg hP hD hS => ?_)
  obtain ⟨ht, h0, hrel⟩ := hg
  refine lv_iload hx hb dL_law_382 (lv_at hl 1 rfl) ?_
  refine lv_icmp_eq (tgt := 389) hx hb dL_law_384 (by decide) (fun _ => ?_) (fun hne => absurd ht hne)
  have fin : W p l e room_1 s m args below meth c H locs (cells + 8 + 8 + 8) (slots + 64 + 64 + 64) Q (F0 m 406 ls []) := lv_goto (tgt := 1570) hx hb dL_law_406 (by decide) (W.widen (by omega) (by omega) (kk a x' m'' fo' H locs ls rfl hrel (permP hP pmX.symm) (permD hD pmX.symm) hS (lv_sub hl [2, 3, 4, 5, 6] rfl)))
  refine lv_iload hx hb dL_law_389 (lv_at hl 1 rfl) ?_
  refine lv_if_ne (tgt := 406) hx hb dL_law_391 (by decide) (fun _ => fin) (fun hr0 => ?_)
  have e0 := h0 hr0
  refine lv_aload_n hx hb dL_law_394 rfl (lv_at hl 6 rfl) ?_
  refine lv_iconst (v := (0 : Int32)) hx hb dL_law_395 (by decide) ?_
  refine k_lald C0 hP 24 rfl (by unfold vp_in; decide) dL_law_396 ?_
  refine lv_iload hx hb dL_law_397 (lv_at hl 0 rfl) ?_
  refine lv_i2l (v := r'.toInt64) hx hb dL_law_399 rfl ?_
  refine W.lcmp hx hb dL_law_400 ?_
  exact lv_if_eq (tgt := 406) hx hb dL_law_401 (by decide) (fun _ => fin) (fun hne => absurd (by rw [e0]; simp [lg_cmp]) hne)
set_option maxHeartbeats 1000000 in
theorem lc_cat {p : Program} {l : Launch} {e : Env} {s : State} {m : MethodId} {args : Array Value} {below : List Frame} {meth : Method} {c : Code} {H : Heap} {locs : List Loc} {cells slots : Nat} {Q : State → Prop} {ls : Array Slot} {D : va_G} {cT : Nat → ClassId} {A : Nat → Prop} {F : Nat} {a : XA} {x : XS} {am : MA} {mm : MS} {qo : Nat} {fo : Nat → Int64} {b L : Nat} {xs : Nat → Int32} {i : Int32} {Rl : XS → MS → Prop} (C0 : Cx p s m args meth c D cT cL_law 8 RL) (hE : EX s) (hfl : l.stackTraces = false) (hX : va_X b L xs s s.heap) (hbl : b < s.heap.size) (hbA : ¬ A b) (hS : va_S A s.heap H locs) (hA : AO cT s A) (hl : lv_has ls 8 [(4, .int i), (0, .ref b), (1, .ref a.h), (2, .ref am.h), (3, .ref qo)]) (hi1 : vp_in (i + 1) L) (hi2 : vp_in (i + 2) L) (hi3 : vp_in (i + 3) L) (hi4 : vp_in (i + 4) L) (hP : va_P D cls9 (wL cT a x am mm qo fo) H) (hD : va_D A (wL cT a x am mm qo fo)) (hf : cells + 24 ≤ room_1.cells ∧ slots + 192 ≤ room_1.slots) (hob : p7_cat F (xs (i + (1 : Int32)).toNatClampNeg) (xs (i + (2 : Int32)).toNatClampNeg) x fo (fun r x' fo' => p8_cat F (xs (i + (1 : Int32)).toNatClampNeg) (xs (i + (2 : Int32)).toNatClampNeg) am mm (fun r' m' => p8_thrown F m' (fun t m'' => t = r ∧ (r = 0 → fo' (0 : Int32).toNatClampNeg = r'.toInt64) ∧ Rl x' m''))))
    (kk : ∀ (a' : XA) (x' : XS) (mm' : MS) (fo' : Nat → Int64) (H1 : Heap) (locs1 : List Loc) (ls' : Array Slot), a'.h = a.h → Rl x' mm' → va_P D cls9 (wL cT a' x' am mm' qo fo') H1 → va_D A (wL cT a' x' am mm' qo fo') → va_S A s.heap H1 locs1 → lv_has ls' 8 [(4, .int i), (0, .ref b), (1, .ref a.h), (2, .ref am.h), (3, .ref qo)] → W p l e room_1 s m args below meth c H1 locs1 (cells + 24) (slots + 192) Q (F0 m 1570 ls' [])) : W p l e room_1 s m args below meth c H locs cells slots Q (F0 m 409 ls []) := by
  have hx := C0.x
  have hb := C0.b
  have hf1 := hf.1
  have hf2 := hf.2
  refine lv_aload_n hx hb dL_law_409 rfl (lv_at hl 2 rfl) ?_
  refine lv_aload_n hx hb dL_law_410 rfl (lv_at hl 1 rfl) ?_
  refine lv_iload hx hb dL_law_411 (lv_at hl 0 rfl) ?_
  refine lv_iconst (v := (1 : Int32)) hx hb dL_law_413 (by decide) ?_
  refine lv_iadd hx hb dL_law_414 ?_
  refine va_sld hx hb hX hbl hbA hS hi1 dL_law_415 ?_
  refine lv_aload_n hx hb dL_law_416 rfl (lv_at hl 1 rfl) ?_
  refine lv_iload hx hb dL_law_417 (lv_at hl 0 rfl) ?_
  refine lv_iconst (v := (2 : Int32)) hx hb dL_law_419 (by decide) ?_
  refine lv_iadd hx hb dL_law_420 ?_
  refine va_sld hx hb hX hbl hbA hS hi2 dL_law_421 ?_
  refine lv_aload_n hx hb dL_law_422 rfl (lv_at hl 4 rfl) ?_
  refine s7_cat (rest := []) C0 hS hA hl.1 (Nat.le_of_ble_eq_true rfl) hE hfl hP hD dL_law_423 ⟨by omega, by omega⟩ hob (fun r x' fo' H locs hg hP hD hS => ?_)
  refine lv_istore (lv' := [(5, .int r), (4, .int i), (0, .ref b), (1, .ref a.h), (2, .ref am.h), (3, .ref qo)]) hx hb dL_law_426 hl (by decide) rfl (fun ls hl => ?_)
  refine lv_aload_n hx hb dL_law_428 rfl (lv_at hl 4 rfl) ?_
  refine lv_aload_n hx hb dL_law_429 rfl (lv_at hl 2 rfl) ?_
  refine lv_iload hx hb dL_law_430 (lv_at hl 1 rfl) ?_
  refine lv_iconst (v := (1 : Int32)) hx hb dL_law_432 (by decide) ?_
  refine lv_iadd hx hb dL_law_433 ?_
  refine va_sld hx hb hX hbl hbA hS hi1 dL_law_434 ?_
  refine lv_aload_n hx hb dL_law_435 rfl (lv_at hl 2 rfl) ?_
  refine lv_iload hx hb dL_law_436 (lv_at hl 1 rfl) ?_
  refine lv_iconst (v := (2 : Int32)) hx hb dL_law_438 (by decide) ?_
  refine lv_iadd hx hb dL_law_439 ?_
  refine va_sld hx hb hX hbl hbA hS hi2 dL_law_440 ?_
  refine s8_cat (rest := []) C0 hS hA hl.1 (Nat.le_of_ble_eq_true rfl) (permP hP pmX) (permD hD pmX) dL_law_441 ⟨by omega, by omega⟩ hg (fun r' m' H locs hg hP hD hS => ?_)
  refine lv_istore (lv' := [(6, .int r'), (5, .int r), (4, .int i), (0, .ref b), (1, .ref a.h), (2, .ref am.h), (3, .ref qo)]) hx hb dL_law_444 hl (by decide) rfl (fun ls hl => ?_)
  refine lv_aload_n hx hb dL_law_446 rfl (lv_at hl 5 rfl) ?_
  refine s8_thrown (rest := []) C0 hS hA hl.1 (Nat.le_of_ble_eq_true rfl) hP hD dL_law_447 ⟨by omega, by omega⟩ hg (fun t m'' H locs hg hP hD hS => ?_)
  obtain ⟨ht, h0, hrel⟩ := hg
  refine lv_iload hx hb dL_law_450 (lv_at hl 1 rfl) ?_
  refine lv_icmp_eq (tgt := 457) hx hb dL_law_452 (by decide) (fun _ => ?_) (fun hne => absurd ht hne)
  have fin : W p l e room_1 s m args below meth c H locs (cells + 8 + 8 + 8) (slots + 64 + 64 + 64) Q (F0 m 474 ls []) := lv_goto (tgt := 1570) hx hb dL_law_474 (by decide) (W.widen (by omega) (by omega) (kk a x' m'' fo' H locs ls rfl hrel (permP hP pmX.symm) (permD hD pmX.symm) hS (lv_sub hl [2, 3, 4, 5, 6] rfl)))
  refine lv_iload hx hb dL_law_457 (lv_at hl 1 rfl) ?_
  refine lv_if_ne (tgt := 474) hx hb dL_law_459 (by decide) (fun _ => fin) (fun hr0 => ?_)
  have e0 := h0 hr0
  refine lv_aload_n hx hb dL_law_462 rfl (lv_at hl 6 rfl) ?_
  refine lv_iconst (v := (0 : Int32)) hx hb dL_law_463 (by decide) ?_
  refine k_lald C0 hP 24 rfl (by unfold vp_in; decide) dL_law_464 ?_
  refine lv_iload hx hb dL_law_465 (lv_at hl 0 rfl) ?_
  refine lv_i2l (v := r'.toInt64) hx hb dL_law_467 rfl ?_
  refine W.lcmp hx hb dL_law_468 ?_
  exact lv_if_eq (tgt := 474) hx hb dL_law_469 (by decide) (fun _ => fin) (fun hne => absurd (by rw [e0]; simp [lg_cmp]) hne)
set_option maxHeartbeats 1000000 in
theorem lc_row {p : Program} {l : Launch} {e : Env} {s : State} {m : MethodId} {args : Array Value} {below : List Frame} {meth : Method} {c : Code} {H : Heap} {locs : List Loc} {cells slots : Nat} {Q : State → Prop} {ls : Array Slot} {D : va_G} {cT : Nat → ClassId} {A : Nat → Prop} {F : Nat} {a : XA} {x : XS} {am : MA} {mm : MS} {qo : Nat} {fo : Nat → Int64} {b L : Nat} {xs : Nat → Int32} {i : Int32} {Rl : XS → MS → Prop} (C0 : Cx p s m args meth c D cT cL_law 8 RL) (hE : EX s) (hfl : l.stackTraces = false) (hX : va_X b L xs s s.heap) (hbl : b < s.heap.size) (hbA : ¬ A b) (hS : va_S A s.heap H locs) (hA : AO cT s A) (hl : lv_has ls 8 [(4, .int i), (0, .ref b), (1, .ref a.h), (2, .ref am.h), (3, .ref qo)]) (hi1 : vp_in (i + 1) L) (hi2 : vp_in (i + 2) L) (hi3 : vp_in (i + 3) L) (hi4 : vp_in (i + 4) L) (hP : va_P D cls9 (wL cT a x am mm qo fo) H) (hD : va_D A (wL cT a x am mm qo fo)) (hf : cells + 24 ≤ room_1.cells ∧ slots + 192 ≤ room_1.slots) (hob : p7_row F (xs (i + (1 : Int32)).toNatClampNeg) x fo (fun r x' fo' => p8_row F (xs (i + (1 : Int32)).toNatClampNeg) mm (fun r' m' => p8_thrown F m' (fun t m'' => t = r ∧ (r = 0 → fo' (0 : Int32).toNatClampNeg = r') ∧ Rl x' m''))))
    (kk : ∀ (a' : XA) (x' : XS) (mm' : MS) (fo' : Nat → Int64) (H1 : Heap) (locs1 : List Loc) (ls' : Array Slot), a'.h = a.h → Rl x' mm' → va_P D cls9 (wL cT a' x' am mm' qo fo') H1 → va_D A (wL cT a' x' am mm' qo fo') → va_S A s.heap H1 locs1 → lv_has ls' 8 [(4, .int i), (0, .ref b), (1, .ref a.h), (2, .ref am.h), (3, .ref qo)] → W p l e room_1 s m args below meth c H1 locs1 (cells + 24) (slots + 192) Q (F0 m 1570 ls' [])) : W p l e room_1 s m args below meth c H locs cells slots Q (F0 m 1515 ls []) := by
  have hx := C0.x
  have hb := C0.b
  have hf1 := hf.1
  have hf2 := hf.2
  refine lv_aload_n hx hb dL_law_1515 rfl (lv_at hl 2 rfl) ?_
  refine lv_aload_n hx hb dL_law_1516 rfl (lv_at hl 1 rfl) ?_
  refine lv_iload hx hb dL_law_1517 (lv_at hl 0 rfl) ?_
  refine lv_iconst (v := (1 : Int32)) hx hb dL_law_1519 (by decide) ?_
  refine lv_iadd hx hb dL_law_1520 ?_
  refine va_sld hx hb hX hbl hbA hS hi1 dL_law_1521 ?_
  refine lv_aload_n hx hb dL_law_1522 rfl (lv_at hl 4 rfl) ?_
  refine s7_row (rest := []) C0 hS hA hl.1 (Nat.le_of_ble_eq_true rfl) hE hfl hP hD dL_law_1523 ⟨by omega, by omega⟩ hob (fun r x' fo' H locs hg hP hD hS => ?_)
  refine lv_istore (lv' := [(5, .int r), (4, .int i), (0, .ref b), (1, .ref a.h), (2, .ref am.h), (3, .ref qo)]) hx hb dL_law_1526 hl (by decide) rfl (fun ls hl => ?_)
  refine lv_aload_n hx hb dL_law_1528 rfl (lv_at hl 4 rfl) ?_
  refine lv_aload_n hx hb dL_law_1529 rfl (lv_at hl 2 rfl) ?_
  refine lv_iload hx hb dL_law_1530 (lv_at hl 1 rfl) ?_
  refine lv_iconst (v := (1 : Int32)) hx hb dL_law_1532 (by decide) ?_
  refine lv_iadd hx hb dL_law_1533 ?_
  refine va_sld hx hb hX hbl hbA hS hi1 dL_law_1534 ?_
  refine s8_row (rest := []) C0 hS hA hl.1 (Nat.le_of_ble_eq_true rfl) (permP hP pmX) (permD hD pmX) dL_law_1535 ⟨by omega, by omega⟩ hg (fun r' m' H locs hg hP hD hS => ?_)
  refine lv_lstore (lv' := [(6, .long r'), (5, .int r), (4, .int i), (0, .ref b), (1, .ref a.h), (2, .ref am.h), (3, .ref qo)]) hx hb dL_law_1538 hl (by decide) rfl (fun ls hl => ?_)
  refine lv_aload_n hx hb dL_law_1540 rfl (lv_at hl 5 rfl) ?_
  refine s8_thrown (rest := []) C0 hS hA hl.1 (Nat.le_of_ble_eq_true rfl) hP hD dL_law_1541 ⟨by omega, by omega⟩ hg (fun t m'' H locs hg hP hD hS => ?_)
  obtain ⟨ht, h0, hrel⟩ := hg
  refine lv_iload hx hb dL_law_1544 (lv_at hl 1 rfl) ?_
  refine lv_icmp_eq (tgt := 1551) hx hb dL_law_1546 (by decide) (fun _ => ?_) (fun hne => absurd ht hne)
  have fin : W p l e room_1 s m args below meth c H locs (cells + 8 + 8 + 8) (slots + 64 + 64 + 64) Q (F0 m 1567 ls []) := lv_goto (tgt := 1570) hx hb dL_law_1567 (by decide) (W.widen (by omega) (by omega) (kk a x' m'' fo' H locs ls rfl hrel (permP hP pmX.symm) (permD hD pmX.symm) hS (lv_sub hl [2, 3, 4, 5, 6] rfl)))
  refine lv_iload hx hb dL_law_1551 (lv_at hl 1 rfl) ?_
  refine lv_if_ne (tgt := 1567) hx hb dL_law_1553 (by decide) (fun _ => fin) (fun hr0 => ?_)
  have e0 := h0 hr0
  refine lv_aload_n hx hb dL_law_1556 rfl (lv_at hl 6 rfl) ?_
  refine lv_iconst (v := (0 : Int32)) hx hb dL_law_1557 (by decide) ?_
  refine k_lald C0 hP 24 rfl (by unfold vp_in; decide) dL_law_1558 ?_
  refine lv_lload hx hb dL_law_1559 (lv_at hl 0 rfl) ?_
  refine W.lcmp hx hb dL_law_1561 ?_
  exact lv_if_eq (tgt := 1567) hx hb dL_law_1562 (by decide) (fun _ => fin) (fun hne => absurd (by rw [e0]; simp [lg_cmp]) hne)
