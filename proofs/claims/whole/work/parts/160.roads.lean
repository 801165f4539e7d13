def wL (cT : Nat → ClassId) (a : XA) (x : XS) (am : MA) (mm : MS) (qo : Nat) (fo : Nat → Int64) : va_W := wX cT a x ++ (((qo, aJ cT 1 fo) :: wM cT am mm) ++ wPl cT x)
theorem pmX {X M P : va_W} {o : Nat × va_E} : (X ++ ((o :: M) ++ P)).Perm (M ++ (o :: (X ++ P))) := by
  refine (List.perm_middle (a := o) (l₁ := X) (l₂ := M ++ P)).trans ?_
  refine List.Perm.trans ?_ (List.perm_middle (a := o) (l₁ := M) (l₂ := X ++ P)).symm
  refine List.Perm.cons o ?_
  rw [← List.append_assoc, ← List.append_assoc]
  exact List.perm_append_comm.append_right P
set_option maxHeartbeats 1000000 in
theorem lc_sign {p : Program} {l : Launch} {e : Env} {s : State} {m : MethodId} {args : Array Value} {below : List Frame} {meth : Method} {c : Code} {H : Heap} {locs : List Loc} {cells slots : Nat} {Q : State → Prop} {ls : Array Slot} {D : va_G} {cT : Nat → ClassId} {A : Nat → Prop} {F : Nat} {a : XA} {x : XS} {am : MA} {mm : MS} {qo : Nat} {fo : Nat → Int64} {b L : Nat} {xs : Nat → Int32} {i : Int32} {Rl : XS → MS → Prop} (C0 : Cx p s m args meth c D cT cL_law 8 RL) (hE : EX s) (hfl : l.stackTraces = false) (hX : va_X b L xs s s.heap) (hbl : b < s.heap.size) (hbA : ¬ A b) (hS : va_S A s.heap H locs) (hA : AO cT s A) (hl : lv_has ls 8 [(4, .int i), (0, .ref b), (1, .ref a.h), (2, .ref am.h), (3, .ref qo)]) (hi1 : vp_in (i + 1) L) (hi2 : vp_in (i + 2) L) (hi3 : vp_in (i + 3) L) (hi4 : vp_in (i + 4) L) (hP : va_P D cls9 (wL cT a x am mm qo fo) H) (hD : va_D A (wL cT a x am mm qo fo)) (hf : cells + 24 ≤ room_1.cells ∧ slots + 192 ≤ room_1.slots) (hob : p7_sign F (xs (i + (1 : Int32)).toNatClampNeg) x (fun r x' => p8_sign F (xs (i + (1 : Int32)).toNatClampNeg) mm (fun r' m' => r = r' ∧ Rl x' m')))
    (kk : ∀ (a' : XA) (x' : XS) (mm' : MS) (fo' : Nat → Int64) (H1 : Heap) (locs1 : List Loc) (ls' : Array Slot), a'.h = a.h → Rl x' mm' → va_P D cls9 (wL cT a' x' am mm' qo fo') H1 → va_D A (wL cT a' x' am mm' qo fo') → va_S A s.heap H1 locs1 → lv_has ls' 8 [(4, .int i), (0, .ref b), (1, .ref a.h), (2, .ref am.h), (3, .ref qo)] → W p l e room_1 s m args below meth c H1 locs1 (cells + 24) (slots + 192) Q (F0 m 1570 ls' [])) : W p l e room_1 s m args below meth c H locs cells slots Q (F0 m 252 ls []) := by
  have hx := C0.x
  have hb := C0.b
  have hf1 := hf.1
  have hf2 := hf.2
  refine lv_aload_n hx hb dL_law_252 rfl (lv_at hl 2 rfl) ?_
  refine lv_aload_n hx hb dL_law_253 rfl (lv_at hl 1 rfl) ?_
  refine lv_iload hx hb dL_law_254 (lv_at hl 0 rfl) ?_
  refine lv_iconst (v := (1 : Int32)) hx hb dL_law_256 (by decide) ?_
  refine lv_iadd hx hb dL_law_257 ?_
  refine va_sld hx hb hX hbl hbA hS hi1 dL_law_258 ?_
  refine s7_sign (rest := []) C0 hS hA hl.1 (Nat.le_of_ble_eq_true rfl) hP hD dL_law_259 ⟨by omega, by omega⟩ hob (fun r x' H locs hg hP hD hS => ?_)
  refine lv_aload_n hx hb dL_law_262 rfl (lv_at hl 3 rfl) ?_
  refine lv_aload_n hx hb dL_law_263 rfl (lv_at hl 1 rfl) ?_
  refine lv_iload hx hb dL_law_264 (lv_at hl 0 rfl) ?_
  refine lv_iconst (v := (1 : Int32)) hx hb dL_law_266 (by decide) ?_
  refine lv_iadd hx hb dL_law_267 ?_
  refine va_sld hx hb hX hbl hbA hS hi1 dL_law_268 ?_
  refine s8_sign (rest := [.int r]) C0 hS hA hl.1 (Nat.le_of_ble_eq_true rfl) (permP hP pmX) (permD hD pmX) dL_law_269 ⟨by omega, by omega⟩ hg (fun r' m' H locs hg hP hD hS => ?_)
  obtain ⟨heq, hrel⟩ := hg
  refine lv_icmp_eq (tgt := 1570) hx hb dL_law_272 (by decide) (fun _ => ?_) (fun hne => absurd heq hne)
  exact W.widen (by omega) (by omega) (kk a x' m' fo H locs ls rfl hrel (permP hP pmX.symm) (permD hD pmX.symm) hS hl)
set_option maxHeartbeats 1000000 in
theorem lc_end {p : Program} {l : Launch} {e : Env} {s : State} {m : MethodId} {args : Array Value} {below : List Frame} {meth : Method} {c : Code} {H : Heap} {locs : List Loc} {cells slots : Nat} {Q : State → Prop} {ls : Array Slot} {D : va_G} {cT : Nat → ClassId} {A : Nat → Prop} {F : Nat} {a : XA} {x : XS} {am : MA} {mm : MS} {qo : Nat} {fo : Nat → Int64} {b L : Nat} {xs : Nat → Int32} {i : Int32} {Rl : XS → MS → Prop} (C0 : Cx p s m args meth c D cT cL_law 8 RL) (hE : EX s) (hfl : l.stackTraces = false) (hX : va_X b L xs s s.heap) (hbl : b < s.heap.size) (hbA : ¬ A b) (hS : va_S A s.heap H locs) (hA : AO cT s A) (hl : lv_has ls 8 [(4, .int i), (0, .ref b), (1, .ref a.h), (2, .ref am.h), (3, .ref qo)]) (hi1 : vp_in (i + 1) L) (hi2 : vp_in (i + 2) L) (hi3 : vp_in (i + 3) L) (hi4 : vp_in (i + 4) L) (hP : va_P D cls9 (wL cT a x am mm qo fo) H) (hD : va_D A (wL cT a x am mm qo fo)) (hf : cells + 24 ≤ room_1.cells ∧ slots + 192 ≤ room_1.slots) (hob : p7_end F (xs (i + (1 : Int32)).toNatClampNeg) x (fun r x' => p8_end F (xs (i + (1 : Int32)).toNatClampNeg) mm (fun r' m' => r = r' ∧ Rl x' m')))
    (kk : ∀ (a' : XA) (x' : XS) (mm' : MS) (fo' : Nat → Int64) (H1 : Heap) (locs1 : List Loc) (ls' : Array Slot), a'.h = a.h → Rl x' mm' → va_P D cls9 (wL cT a' x' am mm' qo fo') H1 → va_D A (wL cT a' x' am mm' qo fo') → va_S A s.heap H1 locs1 → lv_has ls' 8 [(4, .int i), (0, .ref b), (1, .ref a.h), (2, .ref am.h), (3, .ref qo)] → W p l e room_1 s m args below meth c H1 locs1 (cells + 24) (slots + 192) Q (F0 m 1570 ls' [])) : W p l e room_1 s m args below meth c H locs cells slots Q (F0 m 277 ls []) := by
  have hx := C0.x
  have hb := C0.b
  have hf1 := hf.1
  have hf2 := hf.2
  refine lv_aload_n hx hb dL_law_277 rfl (lv_at hl 2 rfl) ?_
  refine lv_aload_n hx hb dL_law_278 rfl (lv_at hl 1 rfl) ?_
  refine lv_iload hx hb dL_law_279 (lv_at hl 0 rfl) ?_
  refine lv_iconst (v := (1 : Int32)) hx hb dL_law_281 (by decide) ?_
  refine lv_iadd hx hb dL_law_282 ?_
  refine va_sld hx hb hX hbl hbA hS hi1 dL_law_283 ?_
  refine s7_end (rest := []) C0 hS hA hl.1 (Nat.le_of_ble_eq_true rfl) hP hD dL_law_284 ⟨by omega, by omega⟩ hob (fun r x' H locs hg hP hD hS => ?_)
  refine lv_aload_n hx hb dL_law_287 rfl (lv_at hl 3 rfl) ?_
  refine lv_aload_n hx hb dL_law_288 rfl (lv_at hl 1 rfl) ?_
  refine lv_iload hx hb dL_law_289 (lv_at hl 0 rfl) ?_
  refine lv_iconst (v := (1 : Int32)) hx hb dL_law_291 (by decide) ?_
  refine lv_iadd hx hb dL_law_292 ?_
  refine va_sld hx hb hX hbl hbA hS hi1 dL_law_293 ?_
  refine s8_end (rest := [.int r]) C0 hS hA hl.1 (Nat.le_of_ble_eq_true rfl) (permP hP pmX) (permD hD pmX) dL_law_294 ⟨by omega, by omega⟩ hg (fun r' m' H locs hg hP hD hS => ?_)
  obtain ⟨heq, hrel⟩ := hg
  refine lv_icmp_eq (tgt := 1570) hx hb dL_law_297 (by decide) (fun _ => ?_) (fun hne => absurd heq hne)
  exact W.widen (by omega) (by omega) (kk a x' m' fo H locs ls rfl hrel (permP hP pmX.symm) (permD hD pmX.symm) hS hl)
set_option maxHeartbeats 1000000 in
theorem lc_arches {p : Program} {l : Launch} {e : Env} {s : State} {m : MethodId} {args : Array Value} {below : List Frame} {meth : Method} {c : Code} {H : Heap} {locs : List Loc} {cells slots : Nat} {Q : State → Prop} {ls : Array Slot} {D : va_G} {cT : Nat → ClassId} {A : Nat → Prop} {F : Nat} {a : XA} {x : XS} {am : MA} {mm : MS} {qo : Nat} {fo : Nat → Int64} {b L : Nat} {xs : Nat → Int32} {i : Int32} {Rl : XS → MS → Prop} (C0 : Cx p s m args meth c D cT cL_law 8 RL) (hE : EX s) (hfl : l.stackTraces = false) (hX : va_X b L xs s s.heap) (hbl : b < s.heap.size) (hbA : ¬ A b) (hS : va_S A s.heap H locs) (hA : AO cT s A) (hl : lv_has ls 8 [(4, .int i), (0, .ref b), (1, .ref a.h), (2, .ref am.h), (3, .ref qo)]) (hi1 : vp_in (i + 1) L) (hi2 : vp_in (i + 2) L) (hi3 : vp_in (i + 3) L) (hi4 : vp_in (i + 4) L) (hP : va_P D cls9 (wL cT a x am mm qo fo) H) (hD : va_D A (wL cT a x am mm qo fo)) (hf : cells + 24 ≤ room_1.cells ∧ slots + 192 ≤ room_1.slots) (hob : p7_arches F x (fun r x' => p8_arches F am mm (fun r' m' => r = r' ∧ Rl x' m')))
    (kk : ∀ (a' : XA) (x' : XS) (mm' : MS) (fo' : Nat → Int64) (H1 : Heap) (locs1 : List Loc) (ls' : Array Slot), a'.h = a.h → Rl x' mm' → va_P D cls9 (wL cT a' x' am mm' qo fo') H1 → va_D A (wL cT a' x' am mm' qo fo') → va_S A s.heap H1 locs1 → lv_has ls' 8 [(4, .int i), (0, .ref b), (1, .ref a.h), (2, .ref am.h), (3, .ref qo)] → W p l e room_1 s m args below meth c H1 locs1 (cells + 24) (slots + 192) Q (F0 m 1570 ls' [])) : W p l e room_1 s m args below meth c H locs cells slots Q (F0 m 302 ls []) := by
  have hx := C0.x
  have hb := C0.b
  have hf1 := hf.1
  have hf2 := hf.2
  refine lv_aload_n hx hb dL_law_302 rfl (lv_at hl 2 rfl) ?_
  refine s7_arches (rest := []) C0 hS hA hl.1 (Nat.le_of_ble_eq_true rfl) hP hD dL_law_303 ⟨by omega, by omega⟩ hob (fun r x' H locs hg hP hD hS => ?_)
  refine lv_aload_n hx hb dL_law_306 rfl (lv_at hl 3 rfl) ?_
  refine s8_arches (rest := [.int r]) C0 hS hA hl.1 (Nat.le_of_ble_eq_true rfl) (permP hP pmX) (permD hD pmX) dL_law_307 ⟨by omega, by omega⟩ hg (fun r' m' H locs hg hP hD hS => ?_)
  obtain ⟨heq, hrel⟩ := hg
  refine lv_icmp_eq (tgt := 1570) hx hb dL_law_310 (by decide) (fun _ => ?_) (fun hne => absurd heq hne)
  exact W.widen (by omega) (by omega) (kk a x' m' fo H locs ls rfl hrel (permP hP pmX.symm) (permD hD pmX.symm) hS hl)
set_option maxHeartbeats 1000000 in
theorem lc_cats {p : Program} {l : Launch} {e : Env} {s : State} {m : MethodId} {args : Array Value} {below : List Frame} {meth : Method} {c : Code} {H : Heap} {locs : List Loc} {cells slots : Nat} {Q : State → Prop} {ls : Array Slot} {D : va_G} {cT : Nat → ClassId} {A : Nat → Prop} {F : Nat} {a : XA} {x : XS} {am : MA} {mm : MS} {qo : Nat} {fo : Nat → Int64} {b L : Nat} {xs : Nat → Int32} {i : Int32} {Rl : XS → MS → Prop} (C0 : Cx p s m args meth c D cT cL_law 8 RL) (hE : EX s) (hfl : l.stackTraces = false) (hX : va_X b L xs s s.heap) (hbl : b < s.heap.size) (hbA : ¬ A b) (hS : va_S A s.heap H locs) (hA : AO cT s A) (hl : lv_has ls 8 [(4, .int i), (0, .ref b), (1, .ref a.h), (2, .ref am.h), (3, .ref qo)]) (hi1 : vp_in (i + 1) L) (hi2 : vp_in (i + 2) L) (hi3 : vp_in (i + 3) L) (hi4 : vp_in (i + 4) L) (hP : va_P D cls9 (wL cT a x am mm qo fo) H) (hD : va_D A (wL cT a x am mm qo fo)) (hf : cells + 24 ≤ room_1.cells ∧ slots + 192 ≤ room_1.slots) (hob : p7_cats F x (fun r x' => p8_cats F am mm (fun r' m' => r = r' ∧ Rl x' m')))
    (kk : ∀ (a' : XA) (x' : XS) (mm' : MS) (fo' : Nat → Int64) (H1 : Heap) (locs1 : List Loc) (ls' : Array Slot), a'.h = a.h → Rl x' mm' → va_P D cls9 (wL cT a' x' am mm' qo fo') H1 → va_D A (wL cT a' x' am mm' qo fo') → va_S A s.heap H1 locs1 → lv_has ls' 8 [(4, .int i), (0, .ref b), (1, .ref a.h), (2, .ref am.h), (3, .ref qo)] → W p l e room_1 s m args below meth c H1 locs1 (cells + 24) (slots + 192) Q (F0 m 1570 ls' [])) : W p l e room_1 s m args below meth c H locs cells slots Q (F0 m 315 ls []) := by
  have hx := C0.x
  have hb := C0.b
  have hf1 := hf.1
  have hf2 := hf.2
  refine lv_aload_n hx hb dL_law_315 rfl (lv_at hl 2 rfl) ?_
  refine s7_cats (rest := []) C0 hS hA hl.1 (Nat.le_of_ble_eq_true rfl) hP hD dL_law_316 ⟨by omega, by omega⟩ hob (fun r x' H locs hg hP hD hS => ?_)
  refine lv_aload_n hx hb dL_law_319 rfl (lv_at hl 3 rfl) ?_
  refine s8_cats (rest := [.int r]) C0 hS hA hl.1 (Nat.le_of_ble_eq_true rfl) (permP hP pmX) (permD hD pmX) dL_law_320 ⟨by omega, by omega⟩ hg (fun r' m' H locs hg hP hD hS => ?_)
  obtain ⟨heq, hrel⟩ := hg
  refine lv_icmp_eq (tgt := 1570) hx hb dL_law_323 (by decide) (fun _ => ?_) (fun hne => absurd heq hne)
  exact W.widen (by omega) (by omega) (kk a x' m' fo H locs ls rfl hrel (permP hP pmX.symm) (permD hD pmX.symm) hS hl)
set_option maxHeartbeats 1000000 in
theorem lc_rule {p : Program} {l : Launch} {e : Env} {s : State} {m : MethodId} {args : Array Value} {below : List Frame} {meth : Method} {c : Code} {H : Heap} {locs : List Loc} {cells slots : Nat} {Q : State → Prop} {ls : Array Slot} {D : va_G} {cT : Nat → ClassId} {A : Nat → Prop} {F : Nat} {a : XA} {x : XS} {am : MA} {mm : MS} {qo : Nat} {fo : Nat → Int64} {b L : Nat} {xs : Nat → Int32} {i : Int32} {Rl : XS → MS → Prop} (C0 : Cx p s m args meth c D cT cL_law 8 RL) (hE : EX s) (hfl : l.stackTraces = false) (hX : va_X b L xs s s.heap) (hbl : b < s.heap.size) (hbA : ¬ A b) (hS : va_S A s.heap H locs) (hA : AO cT s A) (hl : lv_has ls 8 [(4, .int i), (0, .ref b), (1, .ref a.h), (2, .ref am.h), (3, .ref qo)]) (hi1 : vp_in (i + 1) L) (hi2 : vp_in (i + 2) L) (hi3 : vp_in (i + 3) L) (hi4 : vp_in (i + 4) L) (hP : va_P D cls9 (wL cT a x am mm qo fo) H) (hD : va_D A (wL cT a x am mm qo fo)) (hf : cells + 24 ≤ room_1.cells ∧ slots + 192 ≤ room_1.slots) (hob : p7_rule F x (fun r x' => p8_rule F am mm (fun r' m' => r = r' ∧ Rl x' m')))
    (kk : ∀ (a' : XA) (x' : XS) (mm' : MS) (fo' : Nat → Int64) (H1 : Heap) (locs1 : List Loc) (ls' : Array Slot), a'.h = a.h → Rl x' mm' → va_P D cls9 (wL cT a' x' am mm' qo fo') H1 → va_D A (wL cT a' x' am mm' qo fo') → va_S A s.heap H1 locs1 → lv_has ls' 8 [(4, .int i), (0, .ref b), (1, .ref a.h), (2, .ref am.h), (3, .ref qo)] → W p l e room_1 s m args below meth c H1 locs1 (cells + 24) (slots + 192) Q (F0 m 1570 ls' [])) : W p l e room_1 s m args below meth c H locs cells slots Q (F0 m 328 ls []) := by
  have hx := C0.x
  have hb := C0.b
  have hf1 := hf.1
  have hf2 := hf.2
  refine lv_aload_n hx hb dL_law_328 rfl (lv_at hl 2 rfl) ?_
  refine s7_rule (rest := []) C0 hS hA hl.1 (Nat.le_of_ble_eq_true rfl) hP hD dL_law_329 ⟨by omega, by omega⟩ hob (fun r a' x' H locs ha hg hP hD hS => ?_)
  refine lv_aload_n hx hb dL_law_332 rfl (lv_at hl 3 rfl) ?_
  refine s8_rule (rest := [.int r]) C0 hS hA hl.1 (Nat.le_of_ble_eq_true rfl) (permP hP pmX) (permD hD pmX) dL_law_333 ⟨by omega, by omega⟩ hg (fun r' m' H locs hg hP hD hS => ?_)
  obtain ⟨heq, hrel⟩ := hg
  refine lv_icmp_eq (tgt := 1570) hx hb dL_law_336 (by decide) (fun _ => ?_) (fun hne => absurd heq hne)
  exact W.widen (by omega) (by omega) (kk a' x' m' fo H locs ls ha hrel (permP hP pmX.symm) (permD hD pmX.symm) hS hl)
set_option maxHeartbeats 1000000 in
theorem lc_sheet {p : Program} {l : Launch} {e : Env} {s : State} {m : MethodId} {args : Array Value} {below : List Frame} {meth : Method} {c : Code} {H : Heap} {locs : List Loc} {cells slots : Nat} {Q : State → Prop} {ls : Array Slot} {D : va_G} {cT : Nat → ClassId} {A : Nat → Prop} {F : Nat} {a : XA} {x : XS} {am : MA} {mm : MS} {qo : Nat} {fo : Nat → Int64} {b L : Nat} {xs : Nat → Int32} {i : Int32} {Rl : XS → MS → Prop} (C0 : Cx p s m args meth c D cT cL_law 8 RL) (hE : EX s) (hfl : l.stackTraces = false) (hX : va_X b L xs s s.heap) (hbl : b < s.heap.size) (hbA : ¬ A b) (hS : va_S A s.heap H locs) (hA : AO cT s A) (hl : lv_has ls 8 [(4, .int i), (0, .ref b), (1, .ref a.h), (2, .ref am.h), (3, .ref qo)]) (hi1 : vp_in (i + 1) L) (hi2 : vp_in (i + 2) L) (hi3 : vp_in (i + 3) L) (hi4 : vp_in (i + 4) L) (hP : va_P D cls9 (wL cT a x am mm qo fo) H) (hD : va_D A (wL cT a x am mm qo fo)) (hf : cells + 24 ≤ room_1.cells ∧ slots + 192 ≤ room_1.slots) (hob : p7_sheet F (xs (i + (1 : Int32)).toNatClampNeg) (xs (i + (2 : Int32)).toNatClampNeg) (xs (i + (3 : Int32)).toNatClampNeg) (xs (i + (4 : Int32)).toNatClampNeg) x (fun r x' => p8_sheet F (xs (i + (1 : Int32)).toNatClampNeg) (xs (i + (2 : Int32)).toNatClampNeg) (xs (i + (3 : Int32)).toNatClampNeg) (xs (i + (4 : Int32)).toNatClampNeg) mm (fun r' m' => r = r' ∧ Rl x' m')))
    (kk : ∀ (a' : XA) (x' : XS) (mm' : MS) (fo' : Nat → Int64) (H1 : Heap) (locs1 : List Loc) (ls' : Array Slot), a'.h = a.h → Rl x' mm' → va_P D cls9 (wL cT a' x' am mm' qo fo') H1 → va_D A (wL cT a' x' am mm' qo fo') → va_S A s.heap H1 locs1 → lv_has ls' 8 [(4, .int i), (0, .ref b), (1, .ref a.h), (2, .ref am.h), (3, .ref qo)] → W p l e room_1 s m args below meth c H1 locs1 (cells + 24) (slots + 192) Q (F0 m 1570 ls' [])) : W p l e room_1 s m args below meth c H locs cells slots Q (F0 m 477 ls []) := by
  have hx := C0.x
  have hb := C0.b
  have hf1 := hf.1
  have hf2 := hf.2
  refine lv_aload_n hx hb dL_law_477 rfl (lv_at hl 2 rfl) ?_
  refine lv_aload_n hx hb dL_law_478 rfl (lv_at hl 1 rfl) ?_
  refine lv_iload hx hb dL_law_479 (lv_at hl 0 rfl) ?_
  refine lv_iconst (v := (1 : Int32)) hx hb dL_law_481 (by decide) ?_
  refine lv_iadd hx hb dL_law_482 ?_
  refine va_sld hx hb hX hbl hbA hS hi1 dL_law_483 ?_
  refine lv_aload_n hx hb dL_law_484 rfl (lv_at hl 1 rfl) ?_
  refine lv_iload hx hb dL_law_485 (lv_at hl 0 rfl) ?_
  refine lv_iconst (v := (2 : Int32)) hx hb dL_law_487 (by decide) ?_
  refine lv_iadd hx hb dL_law_488 ?_
  refine va_sld hx hb hX hbl hbA hS hi2 dL_law_489 ?_
  refine lv_aload_n hx hb dL_law_490 rfl (lv_at hl 1 rfl) ?_
  refine lv_iload hx hb dL_law_491 (lv_at hl 0 rfl) ?_
  refine lv_iconst (v := (3 : Int32)) hx hb dL_law_493 (by decide) ?_
  refine lv_iadd hx hb dL_law_494 ?_
  refine va_sld hx hb hX hbl hbA hS hi3 dL_law_495 ?_
  refine lv_aload_n hx hb dL_law_496 rfl (lv_at hl 1 rfl) ?_
  refine lv_iload hx hb dL_law_497 (lv_at hl 0 rfl) ?_
  refine lv_iconst (v := (4 : Int32)) hx hb dL_law_499 (by decide) ?_
  refine lv_iadd hx hb dL_law_500 ?_
  refine va_sld hx hb hX hbl hbA hS hi4 dL_law_501 ?_
  refine s7_sheet (rest := []) C0 hS hA hl.1 (Nat.le_of_ble_eq_true rfl) hP hD dL_law_502 ⟨by omega, by omega⟩ hob (fun r x' H locs hg hP hD hS => ?_)
  refine lv_aload_n hx hb dL_law_505 rfl (lv_at hl 3 rfl) ?_
  refine lv_aload_n hx hb dL_law_506 rfl (lv_at hl 1 rfl) ?_
  refine lv_iload hx hb dL_law_507 (lv_at hl 0 rfl) ?_
  refine lv_iconst (v := (1 : Int32)) hx hb dL_law_509 (by decide) ?_
  refine lv_iadd hx hb dL_law_510 ?_
  refine va_sld hx hb hX hbl hbA hS hi1 dL_law_511 ?_
  refine lv_aload_n hx hb dL_law_512 rfl (lv_at hl 1 rfl) ?_
  refine lv_iload hx hb dL_law_513 (lv_at hl 0 rfl) ?_
  refine lv_iconst (v := (2 : Int32)) hx hb dL_law_515 (by decide) ?_
  refine lv_iadd hx hb dL_law_516 ?_
  refine va_sld hx hb hX hbl hbA hS hi2 dL_law_517 ?_
  refine lv_aload_n hx hb dL_law_518 rfl (lv_at hl 1 rfl) ?_
  refine lv_iload hx hb dL_law_519 (lv_at hl 0 rfl) ?_
  refine lv_iconst (v := (3 : Int32)) hx hb dL_law_521 (by decide) ?_
  refine lv_iadd hx hb dL_law_522 ?_
  refine va_sld hx hb hX hbl hbA hS hi3 dL_law_523 ?_
  refine lv_aload_n hx hb dL_law_524 rfl (lv_at hl 1 rfl) ?_
  refine lv_iload hx hb dL_law_525 (lv_at hl 0 rfl) ?_
  refine lv_iconst (v := (4 : Int32)) hx hb dL_law_527 (by decide) ?_
  refine lv_iadd hx hb dL_law_528 ?_
  refine va_sld hx hb hX hbl hbA hS hi4 dL_law_529 ?_
  refine s8_sheet (rest := [.int r]) C0 hS hA hl.1 (Nat.le_of_ble_eq_true rfl) (permP hP pmX) (permD hD pmX) dL_law_530 ⟨by omega, by omega⟩ hg (fun r' m' H locs hg hP hD hS => ?_)
  obtain ⟨heq, hrel⟩ := hg
  refine lv_icmp_eq (tgt := 1570) hx hb dL_law_533 (by decide) (fun _ => ?_) (fun hne => absurd heq hne)
  exact W.widen (by omega) (by omega) (kk a x' m' fo H locs ls rfl hrel (permP hP pmX.symm) (permD hD pmX.symm) hS hl)
set_option maxHeartbeats 1000000 in
theorem lc_hours {p : Program} {l : Launch} {e : Env} {s : State} {m : MethodId} {args : Array Value} {below : List Frame} {meth : Method} {c : Code} {H : Heap} {locs : List Loc} {cells slots : Nat} {Q : State → Prop} {ls : Array Slot} {D : va_G} {cT : Nat → ClassId} {A : Nat → Prop} {F : Nat} {a : XA} {x : XS} {am : MA} {mm : MS} {qo : Nat} {fo : Nat → Int64} {b L : Nat} {xs : Nat → Int32} {i : Int32} {Rl : XS → MS → Prop} (C0 : Cx p s m args meth c D cT cL_law 8 RL) (hE : EX s) (hfl : l.stackTraces = false) (hX : va_X b L xs s s.heap) (hbl : b < s.heap.size) (hbA : ¬ A b) (hS : va_S A s.heap H locs) (hA : AO cT s A) (hl : lv_has ls 8 [(4, .int i), (0, .ref b), (1, .ref a.h), (2, .ref am.h), (3, .ref qo)]) (hi1 : vp_in (i + 1) L) (hi2 : vp_in (i + 2) L) (hi3 : vp_in (i + 3) L) (hi4 : vp_in (i + 4) L) (hP : va_P D cls9 (wL cT a x am mm qo fo) H) (hD : va_D A (wL cT a x am mm qo fo)) (hf : cells + 24 ≤ room_1.cells ∧ slots + 192 ≤ room_1.slots) (hob : p7_hours F (xs (i + (1 : Int32)).toNatClampNeg) x (fun r x' => p8_hours F (xs (i + (1 : Int32)).toNatClampNeg) am mm (fun r' m' => r = r' ∧ Rl x' m')))
    (kk : ∀ (a' : XA) (x' : XS) (mm' : MS) (fo' : Nat → Int64) (H1 : Heap) (locs1 : List Loc) (ls' : Array Slot), a'.h = a.h → Rl x' mm' → va_P D cls9 (wL cT a' x' am mm' qo fo') H1 → va_D A (wL cT a' x' am mm' qo fo') → va_S A s.heap H1 locs1 → lv_has ls' 8 [(4, .int i), (0, .ref b), (1, .ref a.h), (2, .ref am.h), (3, .ref qo)] → W p l e room_1 s m args below meth c H1 locs1 (cells + 24) (slots + 192) Q (F0 m 1570 ls' [])) : W p l e room_1 s m args below meth c H locs cells slots Q (F0 m 538 ls []) := by
  have hx := C0.x
  have hb := C0.b
  have hf1 := hf.1
  have hf2 := hf.2
  refine lv_aload_n hx hb dL_law_538 rfl (lv_at hl 2 rfl) ?_
  refine lv_aload_n hx hb dL_law_539 rfl (lv_at hl 1 rfl) ?_
  refine lv_iload hx hb dL_law_540 (lv_at hl 0 rfl) ?_
  refine lv_iconst (v := (1 : Int32)) hx hb dL_law_542 (by decide) ?_
  refine lv_iadd hx hb dL_law_543 ?_
  refine va_sld hx hb hX hbl hbA hS hi1 dL_law_544 ?_
  refine s7_hours (rest := []) C0 hS hA hl.1 (Nat.le_of_ble_eq_true rfl) hP hD dL_law_545 ⟨by omega, by omega⟩ hob (fun r x' H locs hg hP hD hS => ?_)
  refine lv_aload_n hx hb dL_law_548 rfl (lv_at hl 3 rfl) ?_
  refine lv_aload_n hx hb dL_law_549 rfl (lv_at hl 1 rfl) ?_
  refine lv_iload hx hb dL_law_550 (lv_at hl 0 rfl) ?_
  refine lv_iconst (v := (1 : Int32)) hx hb dL_law_552 (by decide) ?_
  refine lv_iadd hx hb dL_law_553 ?_
  refine va_sld hx hb hX hbl hbA hS hi1 dL_law_554 ?_
  refine s8_hours (rest := [.int r]) C0 hS hA hl.1 (Nat.le_of_ble_eq_true rfl) (permP hP pmX) (permD hD pmX) dL_law_555 ⟨by omega, by omega⟩ hg (fun r' m' H locs hg hP hD hS => ?_)
  obtain ⟨heq, hrel⟩ := hg
  refine lv_icmp_eq (tgt := 1570) hx hb dL_law_558 (by decide) (fun _ => ?_) (fun hne => absurd heq hne)
  exact W.widen (by omega) (by omega) (kk a x' m' fo H locs ls rfl hrel (permP hP pmX.symm) (permD hD pmX.symm) hS hl)
set_option maxHeartbeats 1000000 in
theorem lc_feeds {p : Program} {l : Launch} {e : Env} {s : State} {m : MethodId} {args : Array Value} {below : List Frame} {meth : Method} {c : Code} {H : Heap} {locs : List Loc} {cells slots : Nat} {Q : State → Prop} {ls : Array Slot} {D : va_G} {cT : Nat → ClassId} {A : Nat → Prop} {F : Nat} {a : XA} {x : XS} {am : MA} {mm : MS} {qo : Nat} {fo : Nat → Int64} {b L : Nat} {xs : Nat → Int32} {i : Int32} {Rl : XS → MS → Prop} (C0 : Cx p s m args meth c D cT cL_law 8 RL) (hE : EX s) (hfl : l.stackTraces = false) (hX : va_X b L xs s s.heap) (hbl : b < s.heap.size) (hbA : ¬ A b) (hS : va_S A s.heap H locs) (hA : AO cT s A) (hl : lv_has ls 8 [(4, .int i), (0, .ref b), (1, .ref a.h), (2, .ref am.h), (3, .ref qo)]) (hi1 : vp_in (i + 1) L) (hi2 : vp_in (i + 2) L) (hi3 : vp_in (i + 3) L) (hi4 : vp_in (i + 4) L) (hP : va_P D cls9 (wL cT a x am mm qo fo) H) (hD : va_D A (wL cT a x am mm qo fo)) (hf : cells + 24 ≤ room_1.cells ∧ slots + 192 ≤ room_1.slots) (hob : p7_feeds F (xs (i + (1 : Int32)).toNatClampNeg) (xs (i + (2 : Int32)).toNatClampNeg) x (fun r x' => p8_feeds F (xs (i + (1 : Int32)).toNatClampNeg) (xs (i + (2 : Int32)).toNatClampNeg) mm (fun r' m' => r = r' ∧ Rl x' m')))
    (kk : ∀ (a' : XA) (x' : XS) (mm' : MS) (fo' : Nat → Int64) (H1 : Heap) (locs1 : List Loc) (ls' : Array Slot), a'.h = a.h → Rl x' mm' → va_P D cls9 (wL cT a' x' am mm' qo fo') H1 → va_D A (wL cT a' x' am mm' qo fo') → va_S A s.heap H1 locs1 → lv_has ls' 8 [(4, .int i), (0, .ref b), (1, .ref a.h), (2, .ref am.h), (3, .ref qo)] → W p l e room_1 s m args below meth c H1 locs1 (cells + 24) (slots + 192) Q (F0 m 1570 ls' [])) : W p l e room_1 s m args below meth c H locs cells slots Q (F0 m 563 ls []) := by
  have hx := C0.x
  have hb := C0.b
  have hf1 := hf.1
  have hf2 := hf.2
  refine lv_aload_n hx hb dL_law_563 rfl (lv_at hl 2 rfl) ?_
  refine lv_aload_n hx hb dL_law_564 rfl (lv_at hl 1 rfl) ?_
  refine lv_iload hx hb dL_law_565 (lv_at hl 0 rfl) ?_
  refine lv_iconst (v := (1 : Int32)) hx hb dL_law_567 (by decide) ?_
  refine lv_iadd hx hb dL_law_568 ?_
  refine va_sld hx hb hX hbl hbA hS hi1 dL_law_569 ?_
  refine lv_aload_n hx hb dL_law_570 rfl (lv_at hl 1 rfl) ?_
  refine lv_iload hx hb dL_law_571 (lv_at hl 0 rfl) ?_
  refine lv_iconst (v := (2 : Int32)) hx hb dL_law_573 (by decide) ?_
  refine lv_iadd hx hb dL_law_574 ?_
  refine va_sld hx hb hX hbl hbA hS hi2 dL_law_575 ?_
  refine s7_feeds (rest := []) C0 hS hA hl.1 (Nat.le_of_ble_eq_true rfl) hP hD dL_law_576 ⟨by omega, by omega⟩ hob (fun r x' H locs hg hP hD hS => ?_)
  refine lv_aload_n hx hb dL_law_579 rfl (lv_at hl 3 rfl) ?_
  refine lv_aload_n hx hb dL_law_580 rfl (lv_at hl 1 rfl) ?_
  refine lv_iload hx hb dL_law_581 (lv_at hl 0 rfl) ?_
  refine lv_iconst (v := (1 : Int32)) hx hb dL_law_583 (by decide) ?_
  refine lv_iadd hx hb dL_law_584 ?_
  refine va_sld hx hb hX hbl hbA hS hi1 dL_law_585 ?_
  refine lv_aload_n hx hb dL_law_586 rfl (lv_at hl 1 rfl) ?_
  refine lv_iload hx hb dL_law_587 (lv_at hl 0 rfl) ?_
  refine lv_iconst (v := (2 : Int32)) hx hb dL_law_589 (by decide) ?_
  refine lv_iadd hx hb dL_law_590 ?_
  refine va_sld hx hb hX hbl hbA hS hi2 dL_law_591 ?_
  refine s8_feeds (rest := [.int r]) C0 hS hA hl.1 (Nat.le_of_ble_eq_true rfl) (permP hP pmX) (permD hD pmX) dL_law_592 ⟨by omega, by omega⟩ hg (fun r' m' H locs hg hP hD hS => ?_)
  obtain ⟨heq, hrel⟩ := hg
  refine lv_icmp_eq (tgt := 1570) hx hb dL_law_595 (by decide) (fun _ => ?_) (fun hne => absurd heq hne)
  exact W.widen (by omega) (by omega) (kk a x' m' fo H locs ls rfl hrel (permP hP pmX.symm) (permD hD pmX.symm) hS hl)
set_option maxHeartbeats 1000000 in
theorem lc_pets {p : Program} {l : Launch} {e : Env} {s : State} {m : MethodId} {args : Array Value} {below : List Frame} {meth : Method} {c : Code} {H : Heap} {locs : List Loc} {cells slots : Nat} {Q : State → Prop} {ls : Array Slot} {D : va_G} {cT : Nat → ClassId} {A : Nat → Prop} {F : Nat} {a : XA} {x : XS} {am : MA} {mm : MS} {qo : Nat} {fo : Nat → Int64} {b L : Nat} {xs : Nat → Int32} {i : Int32} {Rl : XS → MS → Prop} (C0 : Cx p s m args meth c D cT cL_law 8 RL) (hE : EX s) (hfl : l.stackTraces = false) (hX : va_X b L xs s s.heap) (hbl : b < s.heap.size) (hbA : ¬ A b) (hS : va_S A s.heap H locs) (hA : AO cT s A) (hl : lv_has ls 8 [(4, .int i), (0, .ref b), (1, .ref a.h), (2, .ref am.h), (3, .ref qo)]) (hi1 : vp_in (i + 1) L) (hi2 : vp_in (i + 2) L) (hi3 : vp_in (i + 3) L) (hi4 : vp_in (i + 4) L) (hP : va_P D cls9 (wL cT a x am mm qo fo) H) (hD : va_D A (wL cT a x am mm qo fo)) (hf : cells + 24 ≤ room_1.cells ∧ slots + 192 ≤ room_1.slots) (hob : p7_pets F (xs (i + (1 : Int32)).toNatClampNeg) x (fun r x' => p8_pets F (xs (i + (1 : Int32)).toNatClampNeg) mm (fun r' m' => r = r' ∧ Rl x' m')))
    (kk : ∀ (a' : XA) (x' : XS) (mm' : MS) (fo' : Nat → Int64) (H1 : Heap) (locs1 : List Loc) (ls' : Array Slot), a'.h = a.h → Rl x' mm' → va_P D cls9 (wL cT a' x' am mm' qo fo') H1 → va_D A (wL cT a' x' am mm' qo fo') → va_S A s.heap H1 locs1 → lv_has ls' 8 [(4, .int i), (0, .ref b), (1, .ref a.h), (2, .ref am.h), (3, .ref qo)] → W p l e room_1 s m args below meth c H1 locs1 (cells + 24) (slots + 192) Q (F0 m 1570 ls' [])) : W p l e room_1 s m args below meth c H locs cells slots Q (F0 m 600 ls []) := by
  have hx := C0.x
  have hb := C0.b
  have hf1 := hf.1
  have hf2 := hf.2
  refine lv_aload_n hx hb dL_law_600 rfl (lv_at hl 2 rfl) ?_
  refine lv_aload_n hx hb dL_law_601 rfl (lv_at hl 1 rfl) ?_
  refine lv_iload hx hb dL_law_602 (lv_at hl 0 rfl) ?_
  refine lv_iconst (v := (1 : Int32)) hx hb dL_law_604 (by decide) ?_
  refine lv_iadd hx hb dL_law_605 ?_
  refine va_sld hx hb hX hbl hbA hS hi1 dL_law_606 ?_
  refine s7_pets (rest := []) C0 hS hA hl.1 (Nat.le_of_ble_eq_true rfl) hP hD dL_law_607 ⟨by omega, by omega⟩ hob (fun r x' H locs hg hP hD hS => ?_)
  refine lv_aload_n hx hb dL_law_610 rfl (lv_at hl 3 rfl) ?_
  refine lv_aload_n hx hb dL_law_611 rfl (lv_at hl 1 rfl) ?_
  refine lv_iload hx hb dL_law_612 (lv_at hl 0 rfl) ?_
  refine lv_iconst (v := (1 : Int32)) hx hb dL_law_614 (by decide) ?_
  refine lv_iadd hx hb dL_law_615 ?_
  refine va_sld hx hb hX hbl hbA hS hi1 dL_law_616 ?_
  refine s8_pets (rest := [.int r]) C0 hS hA hl.1 (Nat.le_of_ble_eq_true rfl) (permP hP pmX) (permD hD pmX) dL_law_617 ⟨by omega, by omega⟩ hg (fun r' m' H locs hg hP hD hS => ?_)
  obtain ⟨heq, hrel⟩ := hg
  refine lv_icmp_eq (tgt := 1570) hx hb dL_law_620 (by decide) (fun _ => ?_) (fun hne => absurd heq hne)
  exact W.widen (by omega) (by omega) (kk a x' m' fo H locs ls rfl hrel (permP hP pmX.symm) (permD hD pmX.symm) hS hl)
set_option maxHeartbeats 1000000 in
theorem lc_grieves {p : Program} {l : Launch} {e : Env} {s : State} {m : MethodId} {args : Array Value} {below : List Frame} {meth : Method} {c : Code} {H : Heap} {locs : List Loc} {cells slots : Nat} {Q : State → Prop} {ls : Array Slot} {D : va_G} {cT : Nat → ClassId} {A : Nat → Prop} {F : Nat} {a : XA} {x : XS} {am : MA} {mm : MS} {qo : Nat} {fo : Nat → Int64} {b L : Nat} {xs : Nat → Int32} {i : Int32} {Rl : XS → MS → Prop} (C0 : Cx p s m args meth c D cT cL_law 8 RL) (hE : EX s) (hfl : l.stackTraces = false) (hX : va_X b L xs s s.heap) (hbl : b < s.heap.size) (hbA : ¬ A b) (hS : va_S A s.heap H locs) (hA : AO cT s A) (hl : lv_has ls 8 [(4, .int i), (0, .ref b), (1, .ref a.h), (2, .ref am.h), (3, .ref qo)]) (hi1 : vp_in (i + 1) L) (hi2 : vp_in (i + 2) L) (hi3 : vp_in (i + 3) L) (hi4 : vp_in (i + 4) L) (hP : va_P D cls9 (wL cT a x am mm qo fo) H) (hD : va_D A (wL cT a x am mm qo fo)) (hf : cells + 24 ≤ room_1.cells ∧ slots + 192 ≤ room_1.slots) (hob : p7_grieves F (xs (i + (1 : Int32)).toNatClampNeg) (xs (i + (2 : Int32)).toNatClampNeg) x (fun r x' => p8_grieves F (xs (i + (1 : Int32)).toNatClampNeg) (xs (i + (2 : Int32)).toNatClampNeg) mm (fun r' m' => r = r' ∧ Rl x' m')))
    (kk : ∀ (a' : XA) (x' : XS) (mm' : MS) (fo' : Nat → Int64) (H1 : Heap) (locs1 : List Loc) (ls' : Array Slot), a'.h = a.h → Rl x' mm' → va_P D cls9 (wL cT a' x' am mm' qo fo') H1 → va_D A (wL cT a' x' am mm' qo fo') → va_S A s.heap H1 locs1 → lv_has ls' 8 [(4, .int i), (0, .ref b), (1, .ref a.h), (2, .ref am.h), (3, .ref qo)] → W p l e room_1 s m args below meth c H1 locs1 (cells + 24) (slots + 192) Q (F0 m 1570 ls' [])) : W p l e room_1 s m args below meth c H locs cells slots Q (F0 m 625 ls []) := by
  have hx := C0.x
  have hb := C0.b
  have hf1 := hf.1
  have hf2 := hf.2
  refine lv_aload_n hx hb dL_law_625 rfl (lv_at hl 2 rfl) ?_
  refine lv_aload_n hx hb dL_law_626 rfl (lv_at hl 1 rfl) ?_
  refine lv_iload hx hb dL_law_627 (lv_at hl 0 rfl) ?_
  refine lv_iconst (v := (1 : Int32)) hx hb dL_law_629 (by decide) ?_
  refine lv_iadd hx hb dL_law_630 ?_
  refine va_sld hx hb hX hbl hbA hS hi1 dL_law_631 ?_
  refine lv_aload_n hx hb dL_law_632 rfl (lv_at hl 1 rfl) ?_
  refine lv_iload hx hb dL_law_633 (lv_at hl 0 rfl) ?_
  refine lv_iconst (v := (2 : Int32)) hx hb dL_law_635 (by decide) ?_
  refine lv_iadd hx hb dL_law_636 ?_
  refine va_sld hx hb hX hbl hbA hS hi2 dL_law_637 ?_
  refine s7_grieves (rest := []) C0 hS hA hl.1 (Nat.le_of_ble_eq_true rfl) hP hD dL_law_638 ⟨by omega, by omega⟩ hob (fun r x' H locs hg hP hD hS => ?_)
  refine lv_aload_n hx hb dL_law_641 rfl (lv_at hl 3 rfl) ?_
  refine lv_aload_n hx hb dL_law_642 rfl (lv_at hl 1 rfl) ?_
  refine lv_iload hx hb dL_law_643 (lv_at hl 0 rfl) ?_
  refine lv_iconst (v := (1 : Int32)) hx hb dL_law_645 (by decide) ?_
  refine lv_iadd hx hb dL_law_646 ?_
  refine va_sld hx hb hX hbl hbA hS hi1 dL_law_647 ?_
  refine lv_aload_n hx hb dL_law_648 rfl (lv_at hl 1 rfl) ?_
  refine lv_iload hx hb dL_law_649 (lv_at hl 0 rfl) ?_
  refine lv_iconst (v := (2 : Int32)) hx hb dL_law_651 (by decide) ?_
  refine lv_iadd hx hb dL_law_652 ?_
  refine va_sld hx hb hX hbl hbA hS hi2 dL_law_653 ?_
  refine s8_grieves (rest := [.int r]) C0 hS hA hl.1 (Nat.le_of_ble_eq_true rfl) (permP hP pmX) (permD hD pmX) dL_law_654 ⟨by omega, by omega⟩ hg (fun r' m' H locs hg hP hD hS => ?_)
  obtain ⟨heq, hrel⟩ := hg
  refine lv_icmp_eq (tgt := 1570) hx hb dL_law_657 (by decide) (fun _ => ?_) (fun hne => absurd heq hne)
  exact W.widen (by omega) (by omega) (kk a x' m' fo H locs ls rfl hrel (permP hP pmX.symm) (permD hD pmX.symm) hS hl)
set_option maxHeartbeats 1000000 in
theorem lc_sets {p : Program} {l : Launch} {e : Env} {s : State} {m : MethodId} {args : Array Value} {below : List Frame} {meth : Method} {c : Code} {H : Heap} {locs : List Loc} {cells slots : Nat} {Q : State → Prop} {ls : Array Slot} {D : va_G} {cT : Nat → ClassId} {A : Nat → Prop} {F : Nat} {a : XA} {x : XS} {am : MA} {mm : MS} {qo : Nat} {fo : Nat → Int64} {b L : Nat} {xs : Nat → Int32} {i : Int32} {Rl : XS → MS → Prop} (C0 : Cx p s m args meth c D cT cL_law 8 RL) (hE : EX s) (hfl : l.stackTraces = false) (hX : va_X b L xs s s.heap) (hbl : b < s.heap.size) (hbA : ¬ A b) (hS : va_S A s.heap H locs) (hA : AO cT s A) (hl : lv_has ls 8 [(4, .int i), (0, .ref b), (1, .ref a.h), (2, .ref am.h), (3, .ref qo)]) (hi1 : vp_in (i + 1) L) (hi2 : vp_in (i + 2) L) (hi3 : vp_in (i + 3) L) (hi4 : vp_in (i + 4) L) (hP : va_P D cls9 (wL cT a x am mm qo fo) H) (hD : va_D A (wL cT a x am mm qo fo)) (hf : cells + 24 ≤ room_1.cells ∧ slots + 192 ≤ room_1.slots) (hob : p7_sets F (xs (i + (1 : Int32)).toNatClampNeg) (xs (i + (2 : Int32)).toNatClampNeg) x (fun r x' => p8_sets F (xs (i + (1 : Int32)).toNatClampNeg) (xs (i + (2 : Int32)).toNatClampNeg) mm (fun r' m' => r = r' ∧ Rl x' m')))
    (kk : ∀ (a' : XA) (x' : XS) (mm' : MS) (fo' : Nat → Int64) (H1 : Heap) (locs1 : List Loc) (ls' : Array Slot), a'.h = a.h → Rl x' mm' → va_P D cls9 (wL cT a' x' am mm' qo fo') H1 → va_D A (wL cT a' x' am mm' qo fo') → va_S A s.heap H1 locs1 → lv_has ls' 8 [(4, .int i), (0, .ref b), (1, .ref a.h), (2, .ref am.h), (3, .ref qo)] → W p l e room_1 s m args below meth c H1 locs1 (cells + 24) (slots + 192) Q (F0 m 1570 ls' [])) : W p l e room_1 s m args below meth c H locs cells slots Q (F0 m 662 ls []) := by
  have hx := C0.x
  have hb := C0.b
  have hf1 := hf.1
  have hf2 := hf.2
  refine lv_aload_n hx hb dL_law_662 rfl (lv_at hl 2 rfl) ?_
  refine lv_aload_n hx hb dL_law_663 rfl (lv_at hl 1 rfl) ?_
  refine lv_iload hx hb dL_law_664 (lv_at hl 0 rfl) ?_
  refine lv_iconst (v := (1 : Int32)) hx hb dL_law_666 (by decide) ?_
  refine lv_iadd hx hb dL_law_667 ?_
  refine va_sld hx hb hX hbl hbA hS hi1 dL_law_668 ?_
  refine lv_aload_n hx hb dL_law_669 rfl (lv_at hl 1 rfl) ?_
  refine lv_iload hx hb dL_law_670 (lv_at hl 0 rfl) ?_
  refine lv_iconst (v := (2 : Int32)) hx hb dL_law_672 (by decide) ?_
  refine lv_iadd hx hb dL_law_673 ?_
  refine va_sld hx hb hX hbl hbA hS hi2 dL_law_674 ?_
  refine s7_sets (rest := []) C0 hS hA hl.1 (Nat.le_of_ble_eq_true rfl) hP hD dL_law_675 ⟨by omega, by omega⟩ hob (fun r x' H locs hg hP hD hS => ?_)
  refine lv_aload_n hx hb dL_law_678 rfl (lv_at hl 3 rfl) ?_
  refine lv_aload_n hx hb dL_law_679 rfl (lv_at hl 1 rfl) ?_
  refine lv_iload hx hb dL_law_680 (lv_at hl 0 rfl) ?_
  refine lv_iconst (v := (1 : Int32)) hx hb dL_law_682 (by decide) ?_
  refine lv_iadd hx hb dL_law_683 ?_
  refine va_sld hx hb hX hbl hbA hS hi1 dL_law_684 ?_
  refine lv_aload_n hx hb dL_law_685 rfl (lv_at hl 1 rfl) ?_
  refine lv_iload hx hb dL_law_686 (lv_at hl 0 rfl) ?_
  refine lv_iconst (v := (2 : Int32)) hx hb dL_law_688 (by decide) ?_
  refine lv_iadd hx hb dL_law_689 ?_
  refine va_sld hx hb hX hbl hbA hS hi2 dL_law_690 ?_
  refine s8_sets (rest := [.int r]) C0 hS hA hl.1 (Nat.le_of_ble_eq_true rfl) (permP hP pmX) (permD hD pmX) dL_law_691 ⟨by omega, by omega⟩ hg (fun r' m' H locs hg hP hD hS => ?_)
  obtain ⟨heq, hrel⟩ := hg
  refine lv_icmp_eq (tgt := 1570) hx hb dL_law_694 (by decide) (fun _ => ?_) (fun hne => absurd heq hne)
  exact W.widen (by omega) (by omega) (kk a x' m' fo H locs ls rfl hrel (permP hP pmX.symm) (permD hD pmX.symm) hS hl)
set_option maxHeartbeats 1000000 in
theorem lc_loads {p : Program} {l : Launch} {e : Env} {s : State} {m : MethodId} {args : Array Value} {below : List Frame} {meth : Method} {c : Code} {H : Heap} {locs : List Loc} {cells slots : Nat} {Q : State → Prop} {ls : Array Slot} {D : va_G} {cT : Nat → ClassId} {A : Nat → Prop} {F : Nat} {a : XA} {x : XS} {am : MA} {mm : MS} {qo : Nat} {fo : Nat → Int64} {b L : Nat} {xs : Nat → Int32} {i : Int32} {Rl : XS → MS → Prop} (C0 : Cx p s m args meth c D cT cL_law 8 RL) (hE : EX s) (hfl : l.stackTraces = false) (hX : va_X b L xs s s.heap) (hbl : b < s.heap.size) (hbA : ¬ A b) (hS : va_S A s.heap H locs) (hA : AO cT s A) (hl : lv_has ls 8 [(4, .int i), (0, .ref b), (1, .ref a.h), (2, .ref am.h), (3, .ref qo)]) (hi1 : vp_in (i + 1) L) (hi2 : vp_in (i + 2) L) (hi3 : vp_in (i + 3) L) (hi4 : vp_in (i + 4) L) (hP : va_P D cls9 (wL cT a x am mm qo fo) H) (hD : va_D A (wL cT a x am mm qo fo)) (hf : cells + 24 ≤ room_1.cells ∧ slots + 192 ≤ room_1.slots) (hob : p7_loads F (xs (i + (1 : Int32)).toNatClampNeg) (xs (i + (2 : Int32)).toNatClampNeg) x (fun r x' => p8_loads F (xs (i + (1 : Int32)).toNatClampNeg) (xs (i + (2 : Int32)).toNatClampNeg) mm (fun r' m' => r = r' ∧ Rl x' m')))
    (kk : ∀ (a' : XA) (x' : XS) (mm' : MS) (fo' : Nat → Int64) (H1 : Heap) (locs1 : List Loc) (ls' : Array Slot), a'.h = a.h → Rl x' mm' → va_P D cls9 (wL cT a' x' am mm' qo fo') H1 → va_D A (wL cT a' x' am mm' qo fo') → va_S A s.heap H1 locs1 → lv_has ls' 8 [(4, .int i), (0, .ref b), (1, .ref a.h), (2, .ref am.h), (3, .ref qo)] → W p l e room_1 s m args below meth c H1 locs1 (cells + 24) (slots + 192) Q (F0 m 1570 ls' [])) : W p l e room_1 s m args below meth c H locs cells slots Q (F0 m 699 ls []) := by
  have hx := C0.x
  have hb := C0.b
  have hf1 := hf.1
  have hf2 := hf.2
  refine lv_aload_n hx hb dL_law_699 rfl (lv_at hl 2 rfl) ?_
  refine lv_aload_n hx hb dL_law_700 rfl (lv_at hl 1 rfl) ?_
  refine lv_iload hx hb dL_law_701 (lv_at hl 0 rfl) ?_
  refine lv_iconst (v := (1 : Int32)) hx hb dL_law_703 (by decide) ?_
  refine lv_iadd hx hb dL_law_704 ?_
  refine va_sld hx hb hX hbl hbA hS hi1 dL_law_705 ?_
  refine lv_aload_n hx hb dL_law_706 rfl (lv_at hl 1 rfl) ?_
  refine lv_iload hx hb dL_law_707 (lv_at hl 0 rfl) ?_
  refine lv_iconst (v := (2 : Int32)) hx hb dL_law_709 (by decide) ?_
  refine lv_iadd hx hb dL_law_710 ?_
  refine va_sld hx hb hX hbl hbA hS hi2 dL_law_711 ?_
  refine s7_loads (rest := []) C0 hS hA hl.1 (Nat.le_of_ble_eq_true rfl) hP hD dL_law_712 ⟨by omega, by omega⟩ hob (fun r x' H locs hg hP hD hS => ?_)
  refine lv_aload_n hx hb dL_law_715 rfl (lv_at hl 3 rfl) ?_
  refine lv_aload_n hx hb dL_law_716 rfl (lv_at hl 1 rfl) ?_
  refine lv_iload hx hb dL_law_717 (lv_at hl 0 rfl) ?_
  refine lv_iconst (v := (1 : Int32)) hx hb dL_law_719 (by decide) ?_
  refine lv_iadd hx hb dL_law_720 ?_
  refine va_sld hx hb hX hbl hbA hS hi1 dL_law_721 ?_
  refine lv_aload_n hx hb dL_law_722 rfl (lv_at hl 1 rfl) ?_
  refine lv_iload hx hb dL_law_723 (lv_at hl 0 rfl) ?_
  refine lv_iconst (v := (2 : Int32)) hx hb dL_law_725 (by decide) ?_
  refine lv_iadd hx hb dL_law_726 ?_
  refine va_sld hx hb hX hbl hbA hS hi2 dL_law_727 ?_
  refine s8_loads (rest := [.int r]) C0 hS hA hl.1 (Nat.le_of_ble_eq_true rfl) (permP hP pmX) (permD hD pmX) dL_law_728 ⟨by omega, by omega⟩ hg (fun r' m' H locs hg hP hD hS => ?_)
  obtain ⟨heq, hrel⟩ := hg
  refine lv_icmp_eq (tgt := 1570) hx hb dL_law_731 (by decide) (fun _ => ?_) (fun hne => absurd heq hne)
  exact W.widen (by omega) (by omega) (kk a x' m' fo H locs ls rfl hrel (permP hP pmX.symm) (permD hD pmX.symm) hS hl)
set_option maxHeartbeats 1000000 in
theorem lc_night {p : Program} {l : Launch} {e : Env} {s : State} {m : MethodId} {args : Array Value} {below : List Frame} {meth : Method} {c : Code} {H : Heap} {locs : List Loc} {cells slots : Nat} {Q : State → Prop} {ls : Array Slot} {D : va_G} {cT : Nat → ClassId} {A : Nat → Prop} {F : Nat} {a : XA} {x : XS} {am : MA} {mm : MS} {qo : Nat} {fo : Nat → Int64} {b L : Nat} {xs : Nat → Int32} {i : Int32} {Rl : XS → MS → Prop} (C0 : Cx p s m args meth c D cT cL_law 8 RL) (hE : EX s) (hfl : l.stackTraces = false) (hX : va_X b L xs s s.heap) (hbl : b < s.heap.size) (hbA : ¬ A b) (hS : va_S A s.heap H locs) (hA : AO cT s A) (hl : lv_has ls 8 [(4, .int i), (0, .ref b), (1, .ref a.h), (2, .ref am.h), (3, .ref qo)]) (hi1 : vp_in (i + 1) L) (hi2 : vp_in (i + 2) L) (hi3 : vp_in (i + 3) L) (hi4 : vp_in (i + 4) L) (hP : va_P D cls9 (wL cT a x am mm qo fo) H) (hD : va_D A (wL cT a x am mm qo fo)) (hf : cells + 24 ≤ room_1.cells ∧ slots + 192 ≤ room_1.slots) (hob : p7_night F x (fun r x' => p8_night F am mm (fun r' m' => r = r' ∧ Rl x' m')))
    (kk : ∀ (a' : XA) (x' : XS) (mm' : MS) (fo' : Nat → Int64) (H1 : Heap) (locs1 : List Loc) (ls' : Array Slot), a'.h = a.h → Rl x' mm' → va_P D cls9 (wL cT a' x' am mm' qo fo') H1 → va_D A (wL cT a' x' am mm' qo fo') → va_S A s.heap H1 locs1 → lv_has ls' 8 [(4, .int i), (0, .ref b), (1, .ref a.h), (2, .ref am.h), (3, .ref qo)] → W p l e room_1 s m args below meth c H1 locs1 (cells + 24) (slots + 192) Q (F0 m 1570 ls' [])) : W p l e room_1 s m args below meth c H locs cells slots Q (F0 m 736 ls []) := by
  have hx := C0.x
  have hb := C0.b
  have hf1 := hf.1
  have hf2 := hf.2
  refine lv_aload_n hx hb dL_law_736 rfl (lv_at hl 2 rfl) ?_
  refine s7_night (rest := []) C0 hS hA hl.1 (Nat.le_of_ble_eq_true rfl) hP hD dL_law_737 ⟨by omega, by omega⟩ hob (fun r x' H locs hg hP hD hS => ?_)
  refine lv_aload_n hx hb dL_law_740 rfl (lv_at hl 3 rfl) ?_
  refine s8_night (rest := [.int r]) C0 hS hA hl.1 (Nat.le_of_ble_eq_true rfl) (permP hP pmX) (permD hD pmX) dL_law_741 ⟨by omega, by omega⟩ hg (fun r' m' H locs hg hP hD hS => ?_)
  obtain ⟨heq, hrel⟩ := hg
  refine lv_icmp_eq (tgt := 1570) hx hb dL_law_744 (by decide) (fun _ => ?_) (fun hne => absurd heq hne)
  exact W.widen (by omega) (by omega) (kk a x' m' fo H locs ls rfl hrel (permP hP pmX.symm) (permD hD pmX.symm) hS hl)
set_option maxHeartbeats 1000000 in
theorem lc_undo {p : Program} {l : Launch} {e : Env} {s : State} {m : MethodId} {args : Array Value} {below : List Frame} {meth : Method} {c : Code} {H : Heap} {locs : List Loc} {cells slots : Nat} {Q : State → Prop} {ls : Array Slot} {D : va_G} {cT : Nat → ClassId} {A : Nat → Prop} {F : Nat} {a : XA} {x : XS} {am : MA} {mm : MS} {qo : Nat} {fo : Nat → Int64} {b L : Nat} {xs : Nat → Int32} {i : Int32} {Rl : XS → MS → Prop} (C0 : Cx p s m args meth c D cT cL_law 8 RL) (hE : EX s) (hfl : l.stackTraces = false) (hX : va_X b L xs s s.heap) (hbl : b < s.heap.size) (hbA : ¬ A b) (hS : va_S A s.heap H locs) (hA : AO cT s A) (hl : lv_has ls 8 [(4, .int i), (0, .ref b), (1, .ref a.h), (2, .ref am.h), (3, .ref qo)]) (hi1 : vp_in (i + 1) L) (hi2 : vp_in (i + 2) L) (hi3 : vp_in (i + 3) L) (hi4 : vp_in (i + 4) L) (hP : va_P D cls9 (wL cT a x am mm qo fo) H) (hD : va_D A (wL cT a x am mm qo fo)) (hf : cells + 24 ≤ room_1.cells ∧ slots + 192 ≤ room_1.slots) (hob : p7_undo F x (fun r x' => p8_undo F mm (fun r' m' => r = r' ∧ Rl x' m')))
    (kk : ∀ (a' : XA) (x' : XS) (mm' : MS) (fo' : Nat → Int64) (H1 : Heap) (locs1 : List Loc) (ls' : Array Slot), a'.h = a.h → Rl x' mm' → va_P D cls9 (wL cT a' x' am mm' qo fo') H1 → va_D A (wL cT a' x' am mm' qo fo') → va_S A s.heap H1 locs1 → lv_has ls' 8 [(4, .int i), (0, .ref b), (1, .ref a.h), (2, .ref am.h), (3, .ref qo)] → W p l e room_1 s m args below meth c H1 locs1 (cells + 24) (slots + 192) Q (F0 m 1570 ls' [])) : W p l e room_1 s m args below meth c H locs cells slots Q (F0 m 749 ls []) := by
  have hx := C0.x
  have hb := C0.b
  have hf1 := hf.1
  have hf2 := hf.2
  refine lv_aload_n hx hb dL_law_749 rfl (lv_at hl 2 rfl) ?_
  refine s7_undo (rest := []) C0 hS hA hl.1 (Nat.le_of_ble_eq_true rfl) hP hD dL_law_750 ⟨by omega, by omega⟩ hob (fun r x' H locs hg hP hD hS => ?_)
  refine lv_aload_n hx hb dL_law_753 rfl (lv_at hl 3 rfl) ?_
  refine s8_undo (rest := [.int r]) C0 hS hA hl.1 (Nat.le_of_ble_eq_true rfl) (permP hP pmX) (permD hD pmX) dL_law_754 ⟨by omega, by omega⟩ hg (fun r' m' H locs hg hP hD hS => ?_)
  obtain ⟨heq, hrel⟩ := hg
  refine lv_icmp_eq (tgt := 1570) hx hb dL_law_757 (by decide) (fun _ => ?_) (fun hne => absurd heq hne)
  exact W.widen (by omega) (by omega) (kk a x' m' fo H locs ls rfl hrel (permP hP pmX.symm) (permD hD pmX.symm) hS hl)
set_option maxHeartbeats 1000000 in
theorem lc_holds {p : Program} {l : Launch} {e : Env} {s : State} {m : MethodId} {args : Array Value} {below : List Frame} {meth : Method} {c : Code} {H : Heap} {locs : List Loc} {cells slots : Nat} {Q : State → Prop} {ls : Array Slot} {D : va_G} {cT : Nat → ClassId} {A : Nat → Prop} {F : Nat} {a : XA} {x : XS} {am : MA} {mm : MS} {qo : Nat} {fo : Nat → Int64} {b L : Nat} {xs : Nat → Int32} {i : Int32} {Rl : XS → MS → Prop} (C0 : Cx p s m args meth c D cT cL_law 8 RL) (hE : EX s) (hfl : l.stackTraces = false) (hX : va_X b L xs s s.heap) (hbl : b < s.heap.size) (hbA : ¬ A b) (hS : va_S A s.heap H locs) (hA : AO cT s A) (hl : lv_has ls 8 [(4, .int i), (0, .ref b), (1, .ref a.h), (2, .ref am.h), (3, .ref qo)]) (hi1 : vp_in (i + 1) L) (hi2 : vp_in (i + 2) L) (hi3 : vp_in (i + 3) L) (hi4 : vp_in (i + 4) L) (hP : va_P D cls9 (wL cT a x am mm qo fo) H) (hD : va_D A (wL cT a x am mm qo fo)) (hf : cells + 24 ≤ room_1.cells ∧ slots + 192 ≤ room_1.slots) (hob : p7_holds F x (fun r x' => p8_holds F am mm (fun r' m' => r = r' ∧ Rl x' m')))
    (kk : ∀ (a' : XA) (x' : XS) (mm' : MS) (fo' : Nat → Int64) (H1 : Heap) (locs1 : List Loc) (ls' : Array Slot), a'.h = a.h → Rl x' mm' → va_P D cls9 (wL cT a' x' am mm' qo fo') H1 → va_D A (wL cT a' x' am mm' qo fo') → va_S A s.heap H1 locs1 → lv_has ls' 8 [(4, .int i), (0, .ref b), (1, .ref a.h), (2, .ref am.h), (3, .ref qo)] → W p l e room_1 s m args below meth c H1 locs1 (cells + 24) (slots + 192) Q (F0 m 1570 ls' [])) : W p l e room_1 s m args below meth c H locs cells slots Q (F0 m 762 ls []) := by
  have hx := C0.x
  have hb := C0.b
  have hf1 := hf.1
  have hf2 := hf.2
  refine lv_aload_n hx hb dL_law_762 rfl (lv_at hl 2 rfl) ?_
  refine s7_holds (rest := []) C0 hS hA hl.1 (Nat.le_of_ble_eq_true rfl) hP hD dL_law_763 ⟨by omega, by omega⟩ hob (fun r x' H locs hg hP hD hS => ?_)
  refine lv_aload_n hx hb dL_law_766 rfl (lv_at hl 3 rfl) ?_
  refine s8_holds (rest := [.int r]) C0 hS hA hl.1 (Nat.le_of_ble_eq_true rfl) (permP hP pmX) (permD hD pmX) dL_law_767 ⟨by omega, by omega⟩ hg (fun r' m' H locs hg hP hD hS => ?_)
  obtain ⟨heq, hrel⟩ := hg
  refine lv_icmp_eq (tgt := 1570) hx hb dL_law_770 (by decide) (fun _ => ?_) (fun hne => absurd heq hne)
  exact W.widen (by omega) (by omega) (kk a x' m' fo H locs ls rfl hrel (permP hP pmX.symm) (permD hD pmX.symm) hS hl)
set_option maxHeartbeats 1000000 in
theorem lc_later {p : Program} {l : Launch} {e : Env} {s : State} {m : MethodId} {args : Array Value} {below : List Frame} {meth : Method} {c : Code} {H : Heap} {locs : List Loc} {cells slots : Nat} {Q : State → Prop} {ls : Array Slot} {D : va_G} {cT : Nat → ClassId} {A : Nat → Prop} {F : Nat} {a : XA} {x : XS} {am : MA} {mm : MS} {qo : Nat} {fo : Nat → Int64} {b L : Nat} {xs : Nat → Int32} {i : Int32} {Rl : XS → MS → Prop} (C0 : Cx p s m args meth c D cT cL_law 8 RL) (hE : EX s) (hfl : l.stackTraces = false) (hX : va_X b L xs s s.heap) (hbl : b < s.heap.size) (hbA : ¬ A b) (hS : va_S A s.heap H locs) (hA : AO cT s A) (hl : lv_has ls 8 [(4, .int i), (0, .ref b), (1, .ref a.h), (2, .ref am.h), (3, .ref qo)]) (hi1 : vp_in (i + 1) L) (hi2 : vp_in (i + 2) L) (hi3 : vp_in (i + 3) L) (hi4 : vp_in (i + 4) L) (hP : va_P D cls9 (wL cT a x am mm qo fo) H) (hD : va_D A (wL cT a x am mm qo fo)) (hf : cells + 24 ≤ room_1.cells ∧ slots + 192 ≤ room_1.slots) (hob : p7_later F (xs (i + (1 : Int32)).toNatClampNeg) (xs (i + (2 : Int32)).toNatClampNeg) x (fun r x' => p8_later F (xs (i + (1 : Int32)).toNatClampNeg) (xs (i + (2 : Int32)).toNatClampNeg) am mm (fun r' m' => r = r' ∧ Rl x' m')))
    (kk : ∀ (a' : XA) (x' : XS) (mm' : MS) (fo' : Nat → Int64) (H1 : Heap) (locs1 : List Loc) (ls' : Array Slot), a'.h = a.h → Rl x' mm' → va_P D cls9 (wL cT a' x' am mm' qo fo') H1 → va_D A (wL cT a' x' am mm' qo fo') → va_S A s.heap H1 locs1 → lv_has ls' 8 [(4, .int i), (0, .ref b), (1, .ref a.h), (2, .ref am.h), (3, .ref qo)] → W p l e room_1 s m args below meth c H1 locs1 (cells + 24) (slots + 192) Q (F0 m 1570 ls' [])) : W p l e room_1 s m args below meth c H locs cells slots Q (F0 m 775 ls []) := by
  have hx := C0.x
  have hb := C0.b
  have hf1 := hf.1
  have hf2 := hf.2
  refine lv_aload_n hx hb dL_law_775 rfl (lv_at hl 2 rfl) ?_
  refine lv_aload_n hx hb dL_law_776 rfl (lv_at hl 1 rfl) ?_
  refine lv_iload hx hb dL_law_777 (lv_at hl 0 rfl) ?_
  refine lv_iconst (v := (1 : Int32)) hx hb dL_law_779 (by decide) ?_
  refine lv_iadd hx hb dL_law_780 ?_
  refine va_sld hx hb hX hbl hbA hS hi1 dL_law_781 ?_
  refine lv_aload_n hx hb dL_law_782 rfl (lv_at hl 1 rfl) ?_
  refine lv_iload hx hb dL_law_783 (lv_at hl 0 rfl) ?_
  refine lv_iconst (v := (2 : Int32)) hx hb dL_law_785 (by decide) ?_
  refine lv_iadd hx hb dL_law_786 ?_
  refine va_sld hx hb hX hbl hbA hS hi2 dL_law_787 ?_
  refine s7_later (rest := []) C0 hS hA hl.1 (Nat.le_of_ble_eq_true rfl) hP hD dL_law_788 ⟨by omega, by omega⟩ hob (fun r x' H locs hg hP hD hS => ?_)
  refine lv_aload_n hx hb dL_law_791 rfl (lv_at hl 3 rfl) ?_
  refine lv_aload_n hx hb dL_law_792 rfl (lv_at hl 1 rfl) ?_
  refine lv_iload hx hb dL_law_793 (lv_at hl 0 rfl) ?_
  refine lv_iconst (v := (1 : Int32)) hx hb dL_law_795 (by decide) ?_
  refine lv_iadd hx hb dL_law_796 ?_
  refine va_sld hx hb hX hbl hbA hS hi1 dL_law_797 ?_
  refine lv_aload_n hx hb dL_law_798 rfl (lv_at hl 1 rfl) ?_
  refine lv_iload hx hb dL_law_799 (lv_at hl 0 rfl) ?_
  refine lv_iconst (v := (2 : Int32)) hx hb dL_law_801 (by decide) ?_
  refine lv_iadd hx hb dL_law_802 ?_
  refine va_sld hx hb hX hbl hbA hS hi2 dL_law_803 ?_
  refine s8_later (rest := [.int r]) C0 hS hA hl.1 (Nat.le_of_ble_eq_true rfl) (permP hP pmX) (permD hD pmX) dL_law_804 ⟨by omega, by omega⟩ hg (fun r' m' H locs hg hP hD hS => ?_)
  obtain ⟨heq, hrel⟩ := hg
  refine lv_icmp_eq (tgt := 1570) hx hb dL_law_807 (by decide) (fun _ => ?_) (fun hne => absurd heq hne)
  exact W.widen (by omega) (by omega) (kk a x' m' fo H locs ls rfl hrel (permP hP pmX.symm) (permD hD pmX.symm) hS hl)
set_option maxHeartbeats 1000000 in
theorem lc_when {p : Program} {l : Launch} {e : Env} {s : State} {m : MethodId} {args : Array Value} {below : List Frame} {meth : Method} {c : Code} {H : Heap} {locs : List Loc} {cells slots : Nat} {Q : State → Prop} {ls : Array Slot} {D : va_G} {cT : Nat → ClassId} {A : Nat → Prop} {F : Nat} {a : XA} {x : XS} {am : MA} {mm : MS} {qo : Nat} {fo : Nat → Int64} {b L : Nat} {xs : Nat → Int32} {i : Int32} {Rl : XS → MS → Prop} (C0 : Cx p s m args meth c D cT cL_law 8 RL) (hE : EX s) (hfl : l.stackTraces = false) (hX : va_X b L xs s s.heap) (hbl : b < s.heap.size) (hbA : ¬ A b) (hS : va_S A s.heap H locs) (hA : AO cT s A) (hl : lv_has ls 8 [(4, .int i), (0, .ref b), (1, .ref a.h), (2, .ref am.h), (3, .ref qo)]) (hi1 : vp_in (i + 1) L) (hi2 : vp_in (i + 2) L) (hi3 : vp_in (i + 3) L) (hi4 : vp_in (i + 4) L) (hP : va_P D cls9 (wL cT a x am mm qo fo) H) (hD : va_D A (wL cT a x am mm qo fo)) (hf : cells + 24 ≤ room_1.cells ∧ slots + 192 ≤ room_1.slots) (hob : p7_when F (xs (i + (1 : Int32)).toNatClampNeg) (xs (i + (2 : Int32)).toNatClampNeg) x (fun r x' => p8_when F (xs (i + (1 : Int32)).toNatClampNeg) (xs (i + (2 : Int32)).toNatClampNeg) am mm (fun r' m' => r = r' ∧ Rl x' m')))
    (kk : ∀ (a' : XA) (x' : XS) (mm' : MS) (fo' : Nat → Int64) (H1 : Heap) (locs1 : List Loc) (ls' : Array Slot), a'.h = a.h → Rl x' mm' → va_P D cls9 (wL cT a' x' am mm' qo fo') H1 → va_D A (wL cT a' x' am mm' qo fo') → va_S A s.heap H1 locs1 → lv_has ls' 8 [(4, .int i), (0, .ref b), (1, .ref a.h), (2, .ref am.h), (3, .ref qo)] → W p l e room_1 s m args below meth c H1 locs1 (cells + 24) (slots + 192) Q (F0 m 1570 ls' [])) : W p l e room_1 s m args below meth c H locs cells slots Q (F0 m 812 ls []) := by
  have hx := C0.x
  have hb := C0.b
  have hf1 := hf.1
  have hf2 := hf.2
  refine lv_aload_n hx hb dL_law_812 rfl (lv_at hl 2 rfl) ?_
  refine lv_aload_n hx hb dL_law_813 rfl (lv_at hl 1 rfl) ?_
  refine lv_iload hx hb dL_law_814 (lv_at hl 0 rfl) ?_
  refine lv_iconst (v := (1 : Int32)) hx hb dL_law_816 (by decide) ?_
  refine lv_iadd hx hb dL_law_817 ?_
  refine va_sld hx hb hX hbl hbA hS hi1 dL_law_818 ?_
  refine lv_aload_n hx hb dL_law_819 rfl (lv_at hl 1 rfl) ?_
  refine lv_iload hx hb dL_law_820 (lv_at hl 0 rfl) ?_
  refine lv_iconst (v := (2 : Int32)) hx hb dL_law_822 (by decide) ?_
  refine lv_iadd hx hb dL_law_823 ?_
  refine va_sld hx hb hX hbl hbA hS hi2 dL_law_824 ?_
  refine s7_when (rest := []) C0 hS hA hl.1 (Nat.le_of_ble_eq_true rfl) hP hD dL_law_825 ⟨by omega, by omega⟩ hob (fun r x' H locs hg hP hD hS => ?_)
  refine lv_aload_n hx hb dL_law_828 rfl (lv_at hl 3 rfl) ?_
  refine lv_aload_n hx hb dL_law_829 rfl (lv_at hl 1 rfl) ?_
  refine lv_iload hx hb dL_law_830 (lv_at hl 0 rfl) ?_
  refine lv_iconst (v := (1 : Int32)) hx hb dL_law_832 (by decide) ?_
  refine lv_iadd hx hb dL_law_833 ?_
  refine va_sld hx hb hX hbl hbA hS hi1 dL_law_834 ?_
  refine lv_aload_n hx hb dL_law_835 rfl (lv_at hl 1 rfl) ?_
  refine lv_iload hx hb dL_law_836 (lv_at hl 0 rfl) ?_
  refine lv_iconst (v := (2 : Int32)) hx hb dL_law_838 (by decide) ?_
  refine lv_iadd hx hb dL_law_839 ?_
  refine va_sld hx hb hX hbl hbA hS hi2 dL_law_840 ?_
  refine s8_when (rest := [.int r]) C0 hS hA hl.1 (Nat.le_of_ble_eq_true rfl) (permP hP pmX) (permD hD pmX) dL_law_841 ⟨by omega, by omega⟩ hg (fun r' m' H locs hg hP hD hS => ?_)
  obtain ⟨heq, hrel⟩ := hg
  refine lv_icmp_eq (tgt := 1570) hx hb dL_law_844 (by decide) (fun _ => ?_) (fun hne => absurd heq hne)
  exact W.widen (by omega) (by omega) (kk a x' m' fo H locs ls rfl hrel (permP hP pmX.symm) (permD hD pmX.symm) hS hl)
set_option maxHeartbeats 1000000 in
theorem lc_down {p : Program} {l : Launch} {e : Env} {s : State} {m : MethodId} {args : Array Value} {below : List Frame} {meth : Method} {c : Code} {H : Heap} {locs : List Loc} {cells slots : Nat} {Q : State → Prop} {ls : Array Slot} {D : va_G} {cT : Nat → ClassId} {A : Nat → Prop} {F : Nat} {a : XA} {x : XS} {am : MA} {mm : MS} {qo : Nat} {fo : Nat → Int64} {b L : Nat} {xs : Nat → Int32} {i : Int32} {Rl : XS → MS → Prop} (C0 : Cx p s m args meth c D cT cL_law 8 RL) (hE : EX s) (hfl : l.stackTraces = false) (hX : va_X b L xs s s.heap) (hbl : b < s.heap.size) (hbA : ¬ A b) (hS : va_S A s.heap H locs) (hA : AO cT s A) (hl : lv_has ls 8 [(4, .int i), (0, .ref b), (1, .ref a.h), (2, .ref am.h), (3, .ref qo)]) (hi1 : vp_in (i + 1) L) (hi2 : vp_in (i + 2) L) (hi3 : vp_in (i + 3) L) (hi4 : vp_in (i + 4) L) (hP : va_P D cls9 (wL cT a x am mm qo fo) H) (hD : va_D A (wL cT a x am mm qo fo)) (hf : cells + 24 ≤ room_1.cells ∧ slots + 192 ≤ room_1.slots) (hob : p7_down F x (fun r x' => p8_down F am mm (fun r' m' => r = r' ∧ Rl x' m')))
    (kk : ∀ (a' : XA) (x' : XS) (mm' : MS) (fo' : Nat → Int64) (H1 : Heap) (locs1 : List Loc) (ls' : Array Slot), a'.h = a.h → Rl x' mm' → va_P D cls9 (wL cT a' x' am mm' qo fo') H1 → va_D A (wL cT a' x' am mm' qo fo') → va_S A s.heap H1 locs1 → lv_has ls' 8 [(4, .int i), (0, .ref b), (1, .ref a.h), (2, .ref am.h), (3, .ref qo)] → W p l e room_1 s m args below meth c H1 locs1 (cells + 24) (slots + 192) Q (F0 m 1570 ls' [])) : W p l e room_1 s m args below meth c H locs cells slots Q (F0 m 849 ls []) := by
  have hx := C0.x
  have hb := C0.b
  have hf1 := hf.1
  have hf2 := hf.2
  refine lv_aload_n hx hb dL_law_849 rfl (lv_at hl 2 rfl) ?_
  refine s7_down (rest := []) C0 hS hA hl.1 (Nat.le_of_ble_eq_true rfl) hP hD dL_law_850 ⟨by omega, by omega⟩ hob (fun r x' H locs hg hP hD hS => ?_)
  refine lv_aload_n hx hb dL_law_853 rfl (lv_at hl 3 rfl) ?_
  refine s8_down (rest := [.int r]) C0 hS hA hl.1 (Nat.le_of_ble_eq_true rfl) (permP hP pmX) (permD hD pmX) dL_law_854 ⟨by omega, by omega⟩ hg (fun r' m' H locs hg hP hD hS => ?_)
  obtain ⟨heq, hrel⟩ := hg
  refine lv_icmp_eq (tgt := 1570) hx hb dL_law_857 (by decide) (fun _ => ?_) (fun hne => absurd heq hne)
  exact W.widen (by omega) (by omega) (kk a x' m' fo H locs ls rfl hrel (permP hP pmX.symm) (permD hD pmX.symm) hS hl)
set_option maxHeartbeats 1000000 in
theorem lc_safe {p : Program} {l : Launch} {e : Env} {s : State} {m : MethodId} {args : Array Value} {below : List Frame} {meth : Method} {c : Code} {H : Heap} {locs : List Loc} {cells slots : Nat} {Q : State → Prop} {ls : Array Slot} {D : va_G} {cT : Nat → ClassId} {A : Nat → Prop} {F : Nat} {a : XA} {x : XS} {am : MA} {mm : MS} {qo : Nat} {fo : Nat → Int64} {b L : Nat} {xs : Nat → Int32} {i : Int32} {Rl : XS → MS → Prop} (C0 : Cx p s m args meth c D cT cL_law 8 RL) (hE : EX s) (hfl : l.stackTraces = false) (hX : va_X b L xs s s.heap) (hbl : b < s.heap.size) (hbA : ¬ A b) (hS : va_S A s.heap H locs) (hA : AO cT s A) (hl : lv_has ls 8 [(4, .int i), (0, .ref b), (1, .ref a.h), (2, .ref am.h), (3, .ref qo)]) (hi1 : vp_in (i + 1) L) (hi2 : vp_in (i + 2) L) (hi3 : vp_in (i + 3) L) (hi4 : vp_in (i + 4) L) (hP : va_P D cls9 (wL cT a x am mm qo fo) H) (hD : va_D A (wL cT a x am mm qo fo)) (hf : cells + 24 ≤ room_1.cells ∧ slots + 192 ≤ room_1.slots) (hob : p7_safe F x (fun r x' => p8_safe F am mm (fun r' m' => r = r' ∧ Rl x' m')))
    (kk : ∀ (a' : XA) (x' : XS) (mm' : MS) (fo' : Nat → Int64) (H1 : Heap) (locs1 : List Loc) (ls' : Array Slot), a'.h = a.h → Rl x' mm' → va_P D cls9 (wL cT a' x' am mm' qo fo') H1 → va_D A (wL cT a' x' am mm' qo fo') → va_S A s.heap H1 locs1 → lv_has ls' 8 [(4, .int i), (0, .ref b), (1, .ref a.h), (2, .ref am.h), (3, .ref qo)] → W p l e room_1 s m args below meth c H1 locs1 (cells + 24) (slots + 192) Q (F0 m 1570 ls' [])) : W p l e room_1 s m args below meth c H locs cells slots Q (F0 m 862 ls []) := by
  have hx := C0.x
  have hb := C0.b
  have hf1 := hf.1
  have hf2 := hf.2
  refine lv_aload_n hx hb dL_law_862 rfl (lv_at hl 2 rfl) ?_
  refine s7_safe (rest := []) C0 hS hA hl.1 (Nat.le_of_ble_eq_true rfl) hP hD dL_law_863 ⟨by omega, by omega⟩ hob (fun r x' H locs hg hP hD hS => ?_)
  refine lv_aload_n hx hb dL_law_866 rfl (lv_at hl 3 rfl) ?_
  refine s8_safe (rest := [.int r]) C0 hS hA hl.1 (Nat.le_of_ble_eq_true rfl) (permP hP pmX) (permD hD pmX) dL_law_867 ⟨by omega, by omega⟩ hg (fun r' m' H locs hg hP hD hS => ?_)
  obtain ⟨heq, hrel⟩ := hg
  refine lv_icmp_eq (tgt := 1570) hx hb dL_law_870 (by decide) (fun _ => ?_) (fun hne => absurd heq hne)
  exact W.widen (by omega) (by omega) (kk a x' m' fo H locs ls rfl hrel (permP hP pmX.symm) (permD hD pmX.symm) hS hl)
set_option maxHeartbeats 1000000 in
theorem lc_loudest {p : Program} {l : Launch} {e : Env} {s : State} {m : MethodId} {args : Array Value} {below : List Frame} {meth : Method} {c : Code} {H : Heap} {locs : List Loc} {cells slots : Nat} {Q : State → Prop} {ls : Array Slot} {D : va_G} {cT : Nat → ClassId} {A : Nat → Prop} {F : Nat} {a : XA} {x : XS} {am : MA} {mm : MS} {qo : Nat} {fo : Nat → Int64} {b L : Nat} {xs : Nat → Int32} {i : Int32} {Rl : XS → MS → Prop} (C0 : Cx p s m args meth c D cT cL_law 8 RL) (hE : EX s) (hfl : l.stackTraces = false) (hX : va_X b L xs s s.heap) (hbl : b < s.heap.size) (hbA : ¬ A b) (hS : va_S A s.heap H locs) (hA : AO cT s A) (hl : lv_has ls 8 [(4, .int i), (0, .ref b), (1, .ref a.h), (2, .ref am.h), (3, .ref qo)]) (hi1 : vp_in (i + 1) L) (hi2 : vp_in (i + 2) L) (hi3 : vp_in (i + 3) L) (hi4 : vp_in (i + 4) L) (hP : va_P D cls9 (wL cT a x am mm qo fo) H) (hD : va_D A (wL cT a x am mm qo fo)) (hf : cells + 24 ≤ room_1.cells ∧ slots + 192 ≤ room_1.slots) (hob : p7_loudest F (xs (i + (1 : Int32)).toNatClampNeg) x (fun r x' => p8_loudest F (xs (i + (1 : Int32)).toNatClampNeg) am mm (fun r' m' => r = r' ∧ Rl x' m')))
    (kk : ∀ (a' : XA) (x' : XS) (mm' : MS) (fo' : Nat → Int64) (H1 : Heap) (locs1 : List Loc) (ls' : Array Slot), a'.h = a.h → Rl x' mm' → va_P D cls9 (wL cT a' x' am mm' qo fo') H1 → va_D A (wL cT a' x' am mm' qo fo') → va_S A s.heap H1 locs1 → lv_has ls' 8 [(4, .int i), (0, .ref b), (1, .ref a.h), (2, .ref am.h), (3, .ref qo)] → W p l e room_1 s m args below meth c H1 locs1 (cells + 24) (slots + 192) Q (F0 m 1570 ls' [])) : W p l e room_1 s m args below meth c H locs cells slots Q (F0 m 875 ls []) := by
  have hx := C0.x
  have hb := C0.b
  have hf1 := hf.1
  have hf2 := hf.2
  refine lv_aload_n hx hb dL_law_875 rfl (lv_at hl 2 rfl) ?_
  refine lv_aload_n hx hb dL_law_876 rfl (lv_at hl 1 rfl) ?_
  refine lv_iload hx hb dL_law_877 (lv_at hl 0 rfl) ?_
  refine lv_iconst (v := (1 : Int32)) hx hb dL_law_879 (by decide) ?_
  refine lv_iadd hx hb dL_law_880 ?_
  refine va_sld hx hb hX hbl hbA hS hi1 dL_law_881 ?_
  refine s7_loudest (rest := []) C0 hS hA hl.1 (Nat.le_of_ble_eq_true rfl) hP hD dL_law_882 ⟨by omega, by omega⟩ hob (fun r x' H locs hg hP hD hS => ?_)
  refine lv_aload_n hx hb dL_law_885 rfl (lv_at hl 3 rfl) ?_
  refine lv_aload_n hx hb dL_law_886 rfl (lv_at hl 1 rfl) ?_
  refine lv_iload hx hb dL_law_887 (lv_at hl 0 rfl) ?_
  refine lv_iconst (v := (1 : Int32)) hx hb dL_law_889 (by decide) ?_
  refine lv_iadd hx hb dL_law_890 ?_
  refine va_sld hx hb hX hbl hbA hS hi1 dL_law_891 ?_
  refine s8_loudest (rest := [.int r]) C0 hS hA hl.1 (Nat.le_of_ble_eq_true rfl) (permP hP pmX) (permD hD pmX) dL_law_892 ⟨by omega, by omega⟩ hg (fun r' m' H locs hg hP hD hS => ?_)
  obtain ⟨heq, hrel⟩ := hg
  refine lv_icmp_eq (tgt := 1570) hx hb dL_law_895 (by decide) (fun _ => ?_) (fun hne => absurd heq hne)
  exact W.widen (by omega) (by omega) (kk a x' m' fo H locs ls rfl hrel (permP hP pmX.symm) (permD hD pmX.symm) hS hl)
set_option maxHeartbeats 1000000 in
theorem lc_weakest {p : Program} {l : Launch} {e : Env} {s : State} {m : MethodId} {args : Array Value} {below : List Frame} {meth : Method} {c : Code} {H : Heap} {locs : List Loc} {cells slots : Nat} {Q : State → Prop} {ls : Array Slot} {D : va_G} {cT : Nat → ClassId} {A : Nat → Prop} {F : Nat} {a : XA} {x : XS} {am : MA} {mm : MS} {qo : Nat} {fo : Nat → Int64} {b L : Nat} {xs : Nat → Int32} {i : Int32} {Rl : XS → MS → Prop} (C0 : Cx p s m args meth c D cT cL_law 8 RL) (hE : EX s) (hfl : l.stackTraces = false) (hX : va_X b L xs s s.heap) (hbl : b < s.heap.size) (hbA : ¬ A b) (hS : va_S A s.heap H locs) (hA : AO cT s A) (hl : lv_has ls 8 [(4, .int i), (0, .ref b), (1, .ref a.h), (2, .ref am.h), (3, .ref qo)]) (hi1 : vp_in (i + 1) L) (hi2 : vp_in (i + 2) L) (hi3 : vp_in (i + 3) L) (hi4 : vp_in (i + 4) L) (hP : va_P D cls9 (wL cT a x am mm qo fo) H) (hD : va_D A (wL cT a x am mm qo fo)) (hf : cells + 24 ≤ room_1.cells ∧ slots + 192 ≤ room_1.slots) (hob : p7_weakest F x (fun r x' => p8_weakest F am mm (fun r' m' => r = r' ∧ Rl x' m')))
    (kk : ∀ (a' : XA) (x' : XS) (mm' : MS) (fo' : Nat → Int64) (H1 : Heap) (locs1 : List Loc) (ls' : Array Slot), a'.h = a.h → Rl x' mm' → va_P D cls9 (wL cT a' x' am mm' qo fo') H1 → va_D A (wL cT a' x' am mm' qo fo') → va_S A s.heap H1 locs1 → lv_has ls' 8 [(4, .int i), (0, .ref b), (1, .ref a.h), (2, .ref am.h), (3, .ref qo)] → W p l e room_1 s m args below meth c H1 locs1 (cells + 24) (slots + 192) Q (F0 m 1570 ls' [])) : W p l e room_1 s m args below meth c H locs cells slots Q (F0 m 900 ls []) := by
  have hx := C0.x
  have hb := C0.b
  have hf1 := hf.1
  have hf2 := hf.2
  refine lv_aload_n hx hb dL_law_900 rfl (lv_at hl 2 rfl) ?_
  refine s7_weakest (rest := []) C0 hS hA hl.1 (Nat.le_of_ble_eq_true rfl) hP hD dL_law_901 ⟨by omega, by omega⟩ hob (fun r x' H locs hg hP hD hS => ?_)
  refine lv_aload_n hx hb dL_law_904 rfl (lv_at hl 3 rfl) ?_
  refine s8_weakest (rest := [.int r]) C0 hS hA hl.1 (Nat.le_of_ble_eq_true rfl) (permP hP pmX) (permD hD pmX) dL_law_905 ⟨by omega, by omega⟩ hg (fun r' m' H locs hg hP hD hS => ?_)
  obtain ⟨heq, hrel⟩ := hg
  refine lv_icmp_eq (tgt := 1570) hx hb dL_law_908 (by decide) (fun _ => ?_) (fun hne => absurd heq hne)
  exact W.widen (by omega) (by omega) (kk a x' m' fo H locs ls rfl hrel (permP hP pmX.symm) (permD hD pmX.symm) hS hl)
set_option maxHeartbeats 1000000 in
theorem lc_trades {p : Program} {l : Launch} {e : Env} {s : State} {m : MethodId} {args : Array Value} {below : List Frame} {meth : Method} {c : Code} {H : Heap} {locs : List Loc} {cells slots : Nat} {Q : State → Prop} {ls : Array Slot} {D : va_G} {cT : Nat → ClassId} {A : Nat → Prop} {F : Nat} {a : XA} {x : XS} {am : MA} {mm : MS} {qo : Nat} {fo : Nat → Int64} {b L : Nat} {xs : Nat → Int32} {i : Int32} {Rl : XS → MS → Prop} (C0 : Cx p s m args meth c D cT cL_law 8 RL) (hE : EX s) (hfl : l.stackTraces = false) (hX : va_X b L xs s s.heap) (hbl : b < s.heap.size) (hbA : ¬ A b) (hS : va_S A s.heap H locs) (hA : AO cT s A) (hl : lv_has ls 8 [(4, .int i), (0, .ref b), (1, .ref a.h), (2, .ref am.h), (3, .ref qo)]) (hi1 : vp_in (i + 1) L) (hi2 : vp_in (i + 2) L) (hi3 : vp_in (i + 3) L) (hi4 : vp_in (i + 4) L) (hP : va_P D cls9 (wL cT a x am mm qo fo) H) (hD : va_D A (wL cT a x am mm qo fo)) (hf : cells + 24 ≤ room_1.cells ∧ slots + 192 ≤ room_1.slots) (hob : p7_trades F x (fun r x' => p8_trades F am mm (fun r' m' => r = r' ∧ Rl x' m')))
    (kk : ∀ (a' : XA) (x' : XS) (mm' : MS) (fo' : Nat → Int64) (H1 : Heap) (locs1 : List Loc) (ls' : Array Slot), a'.h = a.h → Rl x' mm' → va_P D cls9 (wL cT a' x' am mm' qo fo') H1 → va_D A (wL cT a' x' am mm' qo fo') → va_S A s.heap H1 locs1 → lv_has ls' 8 [(4, .int i), (0, .ref b), (1, .ref a.h), (2, .ref am.h), (3, .ref qo)] → W p l e room_1 s m args below meth c H1 locs1 (cells + 24) (slots + 192) Q (F0 m 1570 ls' [])) : W p l e room_1 s m args below meth c H locs cells slots Q (F0 m 913 ls []) := by
  have hx := C0.x
  have hb := C0.b
  have hf1 := hf.1
  have hf2 := hf.2
  refine lv_aload_n hx hb dL_law_913 rfl (lv_at hl 2 rfl) ?_
  refine s7_trades (rest := []) C0 hS hA hl.1 (Nat.le_of_ble_eq_true rfl) hP hD dL_law_914 ⟨by omega, by omega⟩ hob (fun r x' H locs hg hP hD hS => ?_)
  refine lv_aload_n hx hb dL_law_917 rfl (lv_at hl 3 rfl) ?_
  refine s8_trades (rest := [.int r]) C0 hS hA hl.1 (Nat.le_of_ble_eq_true rfl) (permP hP pmX) (permD hD pmX) dL_law_918 ⟨by omega, by omega⟩ hg (fun r' m' H locs hg hP hD hS => ?_)
  obtain ⟨heq, hrel⟩ := hg
  refine lv_icmp_eq (tgt := 1570) hx hb dL_law_921 (by decide) (fun _ => ?_) (fun hne => absurd heq hne)
  exact W.widen (by omega) (by omega) (kk a x' m' fo H locs ls rfl hrel (permP hP pmX.symm) (permD hD pmX.symm) hS hl)
set_option maxHeartbeats 1000000 in
theorem lc_needs {p : Program} {l : Launch} {e : Env} {s : State} {m : MethodId} {args : Array Value} {below : List Frame} {meth : Method} {c : Code} {H : Heap} {locs : List Loc} {cells slots : Nat} {Q : State → Prop} {ls : Array Slot} {D : va_G} {cT : Nat → ClassId} {A : Nat → Prop} {F : Nat} {a : XA} {x : XS} {am : MA} {mm : MS} {qo : Nat} {fo : Nat → Int64} {b L : Nat} {xs : Nat → Int32} {i : Int32} {Rl : XS → MS → Prop} (C0 : Cx p s m args meth c D cT cL_law 8 RL) (hE : EX s) (hfl : l.stackTraces = false) (hX : va_X b L xs s s.heap) (hbl : b < s.heap.size) (hbA : ¬ A b) (hS : va_S A s.heap H locs) (hA : AO cT s A) (hl : lv_has ls 8 [(4, .int i), (0, .ref b), (1, .ref a.h), (2, .ref am.h), (3, .ref qo)]) (hi1 : vp_in (i + 1) L) (hi2 : vp_in (i + 2) L) (hi3 : vp_in (i + 3) L) (hi4 : vp_in (i + 4) L) (hP : va_P D cls9 (wL cT a x am mm qo fo) H) (hD : va_D A (wL cT a x am mm qo fo)) (hf : cells + 24 ≤ room_1.cells ∧ slots + 192 ≤ room_1.slots) (hob : p7_needs F (xs (i + (1 : Int32)).toNatClampNeg) x (fun r x' => p8_needs F (xs (i + (1 : Int32)).toNatClampNeg) am mm (fun r' m' => r = r' ∧ Rl x' m')))
    (kk : ∀ (a' : XA) (x' : XS) (mm' : MS) (fo' : Nat → Int64) (H1 : Heap) (locs1 : List Loc) (ls' : Array Slot), a'.h = a.h → Rl x' mm' → va_P D cls9 (wL cT a' x' am mm' qo fo') H1 → va_D A (wL cT a' x' am mm' qo fo') → va_S A s.heap H1 locs1 → lv_has ls' 8 [(4, .int i), (0, .ref b), (1, .ref a.h), (2, .ref am.h), (3, .ref qo)] → W p l e room_1 s m args below meth c H1 locs1 (cells + 24) (slots + 192) Q (F0 m 1570 ls' [])) : W p l e room_1 s m args below meth c H locs cells slots Q (F0 m 926 ls []) := by
  have hx := C0.x
  have hb := C0.b
  have hf1 := hf.1
  have hf2 := hf.2
  refine lv_aload_n hx hb dL_law_926 rfl (lv_at hl 2 rfl) ?_
  refine lv_aload_n hx hb dL_law_927 rfl (lv_at hl 1 rfl) ?_
  refine lv_iload hx hb dL_law_928 (lv_at hl 0 rfl) ?_
  refine lv_iconst (v := (1 : Int32)) hx hb dL_law_930 (by decide) ?_
  refine lv_iadd hx hb dL_law_931 ?_
  refine va_sld hx hb hX hbl hbA hS hi1 dL_law_932 ?_
  refine s7_needs (rest := []) C0 hS hA hl.1 (Nat.le_of_ble_eq_true rfl) hP hD dL_law_933 ⟨by omega, by omega⟩ hob (fun r x' H locs hg hP hD hS => ?_)
  refine lv_aload_n hx hb dL_law_936 rfl (lv_at hl 3 rfl) ?_
  refine lv_aload_n hx hb dL_law_937 rfl (lv_at hl 1 rfl) ?_
  refine lv_iload hx hb dL_law_938 (lv_at hl 0 rfl) ?_
  refine lv_iconst (v := (1 : Int32)) hx hb dL_law_940 (by decide) ?_
  refine lv_iadd hx hb dL_law_941 ?_
  refine va_sld hx hb hX hbl hbA hS hi1 dL_law_942 ?_
  refine s8_needs (rest := [.int r]) C0 hS hA hl.1 (Nat.le_of_ble_eq_true rfl) (permP hP pmX) (permD hD pmX) dL_law_943 ⟨by omega, by omega⟩ hg (fun r' m' H locs hg hP hD hS => ?_)
  obtain ⟨heq, hrel⟩ := hg
  refine lv_icmp_eq (tgt := 1570) hx hb dL_law_946 (by decide) (fun _ => ?_) (fun hne => absurd heq hne)
  exact W.widen (by omega) (by omega) (kk a x' m' fo H locs ls rfl hrel (permP hP pmX.symm) (permD hD pmX.symm) hS hl)
set_option maxHeartbeats 1000000 in
theorem lc_guards {p : Program} {l : Launch} {e : Env} {s : State} {m : MethodId} {args : Array Value} {below : List Frame} {meth : Method} {c : Code} {H : Heap} {locs : List Loc} {cells slots : Nat} {Q : State → Prop} {ls : Array Slot} {D : va_G} {cT : Nat → ClassId} {A : Nat → Prop} {F : Nat} {a : XA} {x : XS} {am : MA} {mm : MS} {qo : Nat} {fo : Nat → Int64} {b L : Nat} {xs : Nat → Int32} {i : Int32} {Rl : XS → MS → Prop} (C0 : Cx p s m args meth c D cT cL_law 8 RL) (hE : EX s) (hfl : l.stackTraces = false) (hX : va_X b L xs s s.heap) (hbl : b < s.heap.size) (hbA : ¬ A b) (hS : va_S A s.heap H locs) (hA : AO cT s A) (hl : lv_has ls 8 [(4, .int i), (0, .ref b), (1, .ref a.h), (2, .ref am.h), (3, .ref qo)]) (hi1 : vp_in (i + 1) L) (hi2 : vp_in (i + 2) L) (hi3 : vp_in (i + 3) L) (hi4 : vp_in (i + 4) L) (hP : va_P D cls9 (wL cT a x am mm qo fo) H) (hD : va_D A (wL cT a x am mm qo fo)) (hf : cells + 24 ≤ room_1.cells ∧ slots + 192 ≤ room_1.slots) (hob : p7_guards F x (fun r x' => p8_guards F am mm (fun r' m' => r = r' ∧ Rl x' m')))
    (kk : ∀ (a' : XA) (x' : XS) (mm' : MS) (fo' : Nat → Int64) (H1 : Heap) (locs1 : List Loc) (ls' : Array Slot), a'.h = a.h → Rl x' mm' → va_P D cls9 (wL cT a' x' am mm' qo fo') H1 → va_D A (wL cT a' x' am mm' qo fo') → va_S A s.heap H1 locs1 → lv_has ls' 8 [(4, .int i), (0, .ref b), (1, .ref a.h), (2, .ref am.h), (3, .ref qo)] → W p l e room_1 s m args below meth c H1 locs1 (cells + 24) (slots + 192) Q (F0 m 1570 ls' [])) : W p l e room_1 s m args below meth c H locs cells slots Q (F0 m 951 ls []) := by
  have hx := C0.x
  have hb := C0.b
  have hf1 := hf.1
  have hf2 := hf.2
  refine lv_aload_n hx hb dL_law_951 rfl (lv_at hl 2 rfl) ?_
  refine s7_guards (rest := []) C0 hS hA hl.1 (Nat.le_of_ble_eq_true rfl) hP hD dL_law_952 ⟨by omega, by omega⟩ hob (fun r x' H locs hg hP hD hS => ?_)
  refine lv_aload_n hx hb dL_law_955 rfl (lv_at hl 3 rfl) ?_
  refine s8_guards (rest := [.int r]) C0 hS hA hl.1 (Nat.le_of_ble_eq_true rfl) (permP hP pmX) (permD hD pmX) dL_law_956 ⟨by omega, by omega⟩ hg (fun r' m' H locs hg hP hD hS => ?_)
  obtain ⟨heq, hrel⟩ := hg
  refine lv_icmp_eq (tgt := 1570) hx hb dL_law_959 (by decide) (fun _ => ?_) (fun hne => absurd heq hne)
  exact W.widen (by omega) (by omega) (kk a x' m' fo H locs ls rfl hrel (permP hP pmX.symm) (permD hD pmX.symm) hS hl)
set_option maxHeartbeats 1000000 in
theorem lc_best {p : Program} {l : Launch} {e : Env} {s : State} {m : MethodId} {args : Array Value} {below : List Frame} {meth : Method} {c : Code} {H : Heap} {locs : List Loc} {cells slots : Nat} {Q : State → Prop} {ls : Array Slot} {D : va_G} {cT : Nat → ClassId} {A : Nat → Prop} {F : Nat} {a : XA} {x : XS} {am : MA} {mm : MS} {qo : Nat} {fo : Nat → Int64} {b L : Nat} {xs : Nat → Int32} {i : Int32} {Rl : XS → MS → Prop} (C0 : Cx p s m args meth c D cT cL_law 8 RL) (hE : EX s) (hfl : l.stackTraces = false) (hX : va_X b L xs s s.heap) (hbl : b < s.heap.size) (hbA : ¬ A b) (hS : va_S A s.heap H locs) (hA : AO cT s A) (hl : lv_has ls 8 [(4, .int i), (0, .ref b), (1, .ref a.h), (2, .ref am.h), (3, .ref qo)]) (hi1 : vp_in (i + 1) L) (hi2 : vp_in (i + 2) L) (hi3 : vp_in (i + 3) L) (hi4 : vp_in (i + 4) L) (hP : va_P D cls9 (wL cT a x am mm qo fo) H) (hD : va_D A (wL cT a x am mm qo fo)) (hf : cells + 24 ≤ room_1.cells ∧ slots + 192 ≤ room_1.slots) (hob : p7_best F (xs (i + (1 : Int32)).toNatClampNeg) (xs (i + (2 : Int32)).toNatClampNeg) x (fun r x' => p8_best F (xs (i + (1 : Int32)).toNatClampNeg) (xs (i + (2 : Int32)).toNatClampNeg) am mm (fun r' m' => r = r' ∧ Rl x' m')))
    (kk : ∀ (a' : XA) (x' : XS) (mm' : MS) (fo' : Nat → Int64) (H1 : Heap) (locs1 : List Loc) (ls' : Array Slot), a'.h = a.h → Rl x' mm' → va_P D cls9 (wL cT a' x' am mm' qo fo') H1 → va_D A (wL cT a' x' am mm' qo fo') → va_S A s.heap H1 locs1 → lv_has ls' 8 [(4, .int i), (0, .ref b), (1, .ref a.h), (2, .ref am.h), (3, .ref qo)] → W p l e room_1 s m args below meth c H1 locs1 (cells + 24) (slots + 192) Q (F0 m 1570 ls' [])) : W p l e room_1 s m args below meth c H locs cells slots Q (F0 m 964 ls []) := by
  have hx := C0.x
  have hb := C0.b
  have hf1 := hf.1
  have hf2 := hf.2
  refine lv_aload_n hx hb dL_law_964 rfl (lv_at hl 2 rfl) ?_
  refine lv_aload_n hx hb dL_law_965 rfl (lv_at hl 1 rfl) ?_
  refine lv_iload hx hb dL_law_966 (lv_at hl 0 rfl) ?_
  refine lv_iconst (v := (1 : Int32)) hx hb dL_law_968 (by decide) ?_
  refine lv_iadd hx hb dL_law_969 ?_
  refine va_sld hx hb hX hbl hbA hS hi1 dL_law_970 ?_
  refine lv_aload_n hx hb dL_law_971 rfl (lv_at hl 1 rfl) ?_
  refine lv_iload hx hb dL_law_972 (lv_at hl 0 rfl) ?_
  refine lv_iconst (v := (2 : Int32)) hx hb dL_law_974 (by decide) ?_
  refine lv_iadd hx hb dL_law_975 ?_
  refine va_sld hx hb hX hbl hbA hS hi2 dL_law_976 ?_
  refine s7_best (rest := []) C0 hS hA hl.1 (Nat.le_of_ble_eq_true rfl) hP hD dL_law_977 ⟨by omega, by omega⟩ hob (fun r x' H locs hg hP hD hS => ?_)
  refine lv_aload_n hx hb dL_law_980 rfl (lv_at hl 3 rfl) ?_
  refine lv_aload_n hx hb dL_law_981 rfl (lv_at hl 1 rfl) ?_
  refine lv_iload hx hb dL_law_982 (lv_at hl 0 rfl) ?_
  refine lv_iconst (v := (1 : Int32)) hx hb dL_law_984 (by decide) ?_
  refine lv_iadd hx hb dL_law_985 ?_
  refine va_sld hx hb hX hbl hbA hS hi1 dL_law_986 ?_
  refine lv_aload_n hx hb dL_law_987 rfl (lv_at hl 1 rfl) ?_
  refine lv_iload hx hb dL_law_988 (lv_at hl 0 rfl) ?_
  refine lv_iconst (v := (2 : Int32)) hx hb dL_law_990 (by decide) ?_
  refine lv_iadd hx hb dL_law_991 ?_
  refine va_sld hx hb hX hbl hbA hS hi2 dL_law_992 ?_
  refine s8_best (rest := [.int r]) C0 hS hA hl.1 (Nat.le_of_ble_eq_true rfl) (permP hP pmX) (permD hD pmX) dL_law_993 ⟨by omega, by omega⟩ hg (fun r' m' H locs hg hP hD hS => ?_)
  obtain ⟨heq, hrel⟩ := hg
  refine lv_icmp_eq (tgt := 1570) hx hb dL_law_996 (by decide) (fun _ => ?_) (fun hne => absurd heq hne)
  exact W.widen (by omega) (by omega) (kk a x' m' fo H locs ls rfl hrel (permP hP pmX.symm) (permD hD pmX.symm) hS hl)
set_option maxHeartbeats 1000000 in
theorem lc_cheers {p : Program} {l : Launch} {e : Env} {s : State} {m : MethodId} {args : Array Value} {below : List Frame} {meth : Method} {c : Code} {H : Heap} {locs : List Loc} {cells slots : Nat} {Q : State → Prop} {ls : Array Slot} {D : va_G} {cT : Nat → ClassId} {A : Nat → Prop} {F : Nat} {a : XA} {x : XS} {am : MA} {mm : MS} {qo : Nat} {fo : Nat → Int64} {b L : Nat} {xs : Nat → Int32} {i : Int32} {Rl : XS → MS → Prop} (C0 : Cx p s m args meth c D cT cL_law 8 RL) (hE : EX s) (hfl : l.stackTraces = false) (hX : va_X b L xs s s.heap) (hbl : b < s.heap.size) (hbA : ¬ A b) (hS : va_S A s.heap H locs) (hA : AO cT s A) (hl : lv_has ls 8 [(4, .int i), (0, .ref b), (1, .ref a.h), (2, .ref am.h), (3, .ref qo)]) (hi1 : vp_in (i + 1) L) (hi2 : vp_in (i + 2) L) (hi3 : vp_in (i + 3) L) (hi4 : vp_in (i + 4) L) (hP : va_P D cls9 (wL cT a x am mm qo fo) H) (hD : va_D A (wL cT a x am mm qo fo)) (hf : cells + 24 ≤ room_1.cells ∧ slots + 192 ≤ room_1.slots) (hob : p7_cheers F (xs (i + (1 : Int32)).toNatClampNeg) x (fun r x' => p8_cheers F (xs (i + (1 : Int32)).toNatClampNeg) am mm (fun r' m' => r = r' ∧ Rl x' m')))
    (kk : ∀ (a' : XA) (x' : XS) (mm' : MS) (fo' : Nat → Int64) (H1 : Heap) (locs1 : List Loc) (ls' : Array Slot), a'.h = a.h → Rl x' mm' → va_P D cls9 (wL cT a' x' am mm' qo fo') H1 → va_D A (wL cT a' x' am mm' qo fo') → va_S A s.heap H1 locs1 → lv_has ls' 8 [(4, .int i), (0, .ref b), (1, .ref a.h), (2, .ref am.h), (3, .ref qo)] → W p l e room_1 s m args below meth c H1 locs1 (cells + 24) (slots + 192) Q (F0 m 1570 ls' [])) : W p l e room_1 s m args below meth c H locs cells slots Q (F0 m 1001 ls []) := by
  have hx := C0.x
  have hb := C0.b
  have hf1 := hf.1
  have hf2 := hf.2
  refine lv_aload_n hx hb dL_law_1001 rfl (lv_at hl 2 rfl) ?_
  refine lv_aload_n hx hb dL_law_1002 rfl (lv_at hl 1 rfl) ?_
  refine lv_iload hx hb dL_law_1003 (lv_at hl 0 rfl) ?_
  refine lv_iconst (v := (1 : Int32)) hx hb dL_law_1005 (by decide) ?_
  refine lv_iadd hx hb dL_law_1006 ?_
  refine va_sld hx hb hX hbl hbA hS hi1 dL_law_1007 ?_
  refine s7_cheers (rest := []) C0 hS hA hl.1 (Nat.le_of_ble_eq_true rfl) hP hD dL_law_1008 ⟨by omega, by omega⟩ hob (fun r x' H locs hg hP hD hS => ?_)
  refine lv_aload_n hx hb dL_law_1011 rfl (lv_at hl 3 rfl) ?_
  refine lv_aload_n hx hb dL_law_1012 rfl (lv_at hl 1 rfl) ?_
  refine lv_iload hx hb dL_law_1013 (lv_at hl 0 rfl) ?_
  refine lv_iconst (v := (1 : Int32)) hx hb dL_law_1015 (by decide) ?_
  refine lv_iadd hx hb dL_law_1016 ?_
  refine va_sld hx hb hX hbl hbA hS hi1 dL_law_1017 ?_
  refine s8_cheers (rest := [.int r]) C0 hS hA hl.1 (Nat.le_of_ble_eq_true rfl) (permP hP pmX) (permD hD pmX) dL_law_1018 ⟨by omega, by omega⟩ hg (fun r' m' H locs hg hP hD hS => ?_)
  obtain ⟨heq, hrel⟩ := hg
  refine lv_icmp_eq (tgt := 1570) hx hb dL_law_1021 (by decide) (fun _ => ?_) (fun hne => absurd heq hne)
  exact W.widen (by omega) (by omega) (kk a x' m' fo H locs ls rfl hrel (permP hP pmX.symm) (permD hD pmX.symm) hS hl)
set_option maxHeartbeats 1000000 in
theorem lc_bears {p : Program} {l : Launch} {e : Env} {s : State} {m : MethodId} {args : Array Value} {below : List Frame} {meth : Method} {c : Code} {H : Heap} {locs : List Loc} {cells slots : Nat} {Q : State → Prop} {ls : Array Slot} {D : va_G} {cT : Nat → ClassId} {A : Nat → Prop} {F : Nat} {a : XA} {x : XS} {am : MA} {mm : MS} {qo : Nat} {fo : Nat → Int64} {b L : Nat} {xs : Nat → Int32} {i : Int32} {Rl : XS → MS → Prop} (C0 : Cx p s m args meth c D cT cL_law 8 RL) (hE : EX s) (hfl : l.stackTraces = false) (hX : va_X b L xs s s.heap) (hbl : b < s.heap.size) (hbA : ¬ A b) (hS : va_S A s.heap H locs) (hA : AO cT s A) (hl : lv_has ls 8 [(4, .int i), (0, .ref b), (1, .ref a.h), (2, .ref am.h), (3, .ref qo)]) (hi1 : vp_in (i + 1) L) (hi2 : vp_in (i + 2) L) (hi3 : vp_in (i + 3) L) (hi4 : vp_in (i + 4) L) (hP : va_P D cls9 (wL cT a x am mm qo fo) H) (hD : va_D A (wL cT a x am mm qo fo)) (hf : cells + 24 ≤ room_1.cells ∧ slots + 192 ≤ room_1.slots) (hob : p7_bears F (xs (i + (1 : Int32)).toNatClampNeg) x (fun r x' => p8_bears F (xs (i + (1 : Int32)).toNatClampNeg) am mm (fun r' m' => r = r' ∧ Rl x' m')))
    (kk : ∀ (a' : XA) (x' : XS) (mm' : MS) (fo' : Nat → Int64) (H1 : Heap) (locs1 : List Loc) (ls' : Array Slot), a'.h = a.h → Rl x' mm' → va_P D cls9 (wL cT a' x' am mm' qo fo') H1 → va_D A (wL cT a' x' am mm' qo fo') → va_S A s.heap H1 locs1 → lv_has ls' 8 [(4, .int i), (0, .ref b), (1, .ref a.h), (2, .ref am.h), (3, .ref qo)] → W p l e room_1 s m args below meth c H1 locs1 (cells + 24) (slots + 192) Q (F0 m 1570 ls' [])) : W p l e room_1 s m args below meth c H locs cells slots Q (F0 m 1026 ls []) := by
  have hx := C0.x
  have hb := C0.b
  have hf1 := hf.1
  have hf2 := hf.2
  refine lv_aload_n hx hb dL_law_1026 rfl (lv_at hl 2 rfl) ?_
  refine lv_aload_n hx hb dL_law_1027 rfl (lv_at hl 1 rfl) ?_
  refine lv_iload hx hb dL_law_1028 (lv_at hl 0 rfl) ?_
  refine lv_iconst (v := (1 : Int32)) hx hb dL_law_1030 (by decide) ?_
  refine lv_iadd hx hb dL_law_1031 ?_
  refine va_sld hx hb hX hbl hbA hS hi1 dL_law_1032 ?_
  refine s7_bears (rest := []) C0 hS hA hl.1 (Nat.le_of_ble_eq_true rfl) hP hD dL_law_1033 ⟨by omega, by omega⟩ hob (fun r x' H locs hg hP hD hS => ?_)
  refine lv_aload_n hx hb dL_law_1036 rfl (lv_at hl 3 rfl) ?_
  refine lv_aload_n hx hb dL_law_1037 rfl (lv_at hl 1 rfl) ?_
  refine lv_iload hx hb dL_law_1038 (lv_at hl 0 rfl) ?_
  refine lv_iconst (v := (1 : Int32)) hx hb dL_law_1040 (by decide) ?_
  refine lv_iadd hx hb dL_law_1041 ?_
  refine va_sld hx hb hX hbl hbA hS hi1 dL_law_1042 ?_
  refine s8_bears (rest := [.int r]) C0 hS hA hl.1 (Nat.le_of_ble_eq_true rfl) (permP hP pmX) (permD hD pmX) dL_law_1043 ⟨by omega, by omega⟩ hg (fun r' m' H locs hg hP hD hS => ?_)
  obtain ⟨heq, hrel⟩ := hg
  refine lv_icmp_eq (tgt := 1570) hx hb dL_law_1046 (by decide) (fun _ => ?_) (fun hne => absurd heq hne)
  exact W.widen (by omega) (by omega) (kk a x' m' fo H locs ls rfl hrel (permP hP pmX.symm) (permD hD pmX.symm) hS hl)
set_option maxHeartbeats 1000000 in
theorem lc_trolley {p : Program} {l : Launch} {e : Env} {s : State} {m : MethodId} {args : Array Value} {below : List Frame} {meth : Method} {c : Code} {H : Heap} {locs : List Loc} {cells slots : Nat} {Q : State → Prop} {ls : Array Slot} {D : va_G} {cT : Nat → ClassId} {A : Nat → Prop} {F : Nat} {a : XA} {x : XS} {am : MA} {mm : MS} {qo : Nat} {fo : Nat → Int64} {b L : Nat} {xs : Nat → Int32} {i : Int32} {Rl : XS → MS → Prop} (C0 : Cx p s m args meth c D cT cL_law 8 RL) (hE : EX s) (hfl : l.stackTraces = false) (hX : va_X b L xs s s.heap) (hbl : b < s.heap.size) (hbA : ¬ A b) (hS : va_S A s.heap H locs) (hA : AO cT s A) (hl : lv_has ls 8 [(4, .int i), (0, .ref b), (1, .ref a.h), (2, .ref am.h), (3, .ref qo)]) (hi1 : vp_in (i + 1) L) (hi2 : vp_in (i + 2) L) (hi3 : vp_in (i + 3) L) (hi4 : vp_in (i + 4) L) (hP : va_P D cls9 (wL cT a x am mm qo fo) H) (hD : va_D A (wL cT a x am mm qo fo)) (hf : cells + 24 ≤ room_1.cells ∧ slots + 192 ≤ room_1.slots) (hob : p7_trolley F (xs (i + (1 : Int32)).toNatClampNeg) x (fun r x' => p8_trolley F (xs (i + (1 : Int32)).toNatClampNeg) mm (fun r' m' => r = r' ∧ Rl x' m')))
    (kk : ∀ (a' : XA) (x' : XS) (mm' : MS) (fo' : Nat → Int64) (H1 : Heap) (locs1 : List Loc) (ls' : Array Slot), a'.h = a.h → Rl x' mm' → va_P D cls9 (wL cT a' x' am mm' qo fo') H1 → va_D A (wL cT a' x' am mm' qo fo') → va_S A s.heap H1 locs1 → lv_has ls' 8 [(4, .int i), (0, .ref b), (1, .ref a.h), (2, .ref am.h), (3, .ref qo)] → W p l e room_1 s m args below meth c H1 locs1 (cells + 24) (slots + 192) Q (F0 m 1570 ls' [])) : W p l e room_1 s m args below meth c H locs cells slots Q (F0 m 1051 ls []) := by
  have hx := C0.x
  have hb := C0.b
  have hf1 := hf.1
  have hf2 := hf.2
  refine lv_aload_n hx hb dL_law_1051 rfl (lv_at hl 2 rfl) ?_
  refine lv_aload_n hx hb dL_law_1052 rfl (lv_at hl 1 rfl) ?_
  refine lv_iload hx hb dL_law_1053 (lv_at hl 0 rfl) ?_
  refine lv_iconst (v := (1 : Int32)) hx hb dL_law_1055 (by decide) ?_
  refine lv_iadd hx hb dL_law_1056 ?_
  refine va_sld hx hb hX hbl hbA hS hi1 dL_law_1057 ?_
  refine s7_trolley (rest := []) C0 hS hA hl.1 (Nat.le_of_ble_eq_true rfl) hP hD dL_law_1058 ⟨by omega, by omega⟩ hob (fun r x' H locs hg hP hD hS => ?_)
  refine lv_aload_n hx hb dL_law_1061 rfl (lv_at hl 3 rfl) ?_
  refine lv_aload_n hx hb dL_law_1062 rfl (lv_at hl 1 rfl) ?_
  refine lv_iload hx hb dL_law_1063 (lv_at hl 0 rfl) ?_
  refine lv_iconst (v := (1 : Int32)) hx hb dL_law_1065 (by decide) ?_
  refine lv_iadd hx hb dL_law_1066 ?_
  refine va_sld hx hb hX hbl hbA hS hi1 dL_law_1067 ?_
  refine s8_trolley (rest := [.int r]) C0 hS hA hl.1 (Nat.le_of_ble_eq_true rfl) (permP hP pmX) (permD hD pmX) dL_law_1068 ⟨by omega, by omega⟩ hg (fun r' m' H locs hg hP hD hS => ?_)
  obtain ⟨heq, hrel⟩ := hg
  refine lv_icmp_eq (tgt := 1570) hx hb dL_law_1071 (by decide) (fun _ => ?_) (fun hne => absurd heq hne)
  exact W.widen (by omega) (by omega) (kk a x' m' fo H locs ls rfl hrel (permP hP pmX.symm) (permD hD pmX.symm) hS hl)
set_option maxHeartbeats 1000000 in
theorem lc_depot {p : Program} {l : Launch} {e : Env} {s : State} {m : MethodId} {args : Array Value} {below : List Frame} {meth : Method} {c : Code} {H : Heap} {locs : List Loc} {cells slots : Nat} {Q : State → Prop} {ls : Array Slot} {D : va_G} {cT : Nat → ClassId} {A : Nat → Prop} {F : Nat} {a : XA} {x : XS} {am : MA} {mm : MS} {qo : Nat} {fo : Nat → Int64} {b L : Nat} {xs : Nat → Int32} {i : Int32} {Rl : XS → MS → Prop} (C0 : Cx p s m args meth c D cT cL_law 8 RL) (hE : EX s) (hfl : l.stackTraces = false) (hX : va_X b L xs s s.heap) (hbl : b < s.heap.size) (hbA : ¬ A b) (hS : va_S A s.heap H locs) (hA : AO cT s A) (hl : lv_has ls 8 [(4, .int i), (0, .ref b), (1, .ref a.h), (2, .ref am.h), (3, .ref qo)]) (hi1 : vp_in (i + 1) L) (hi2 : vp_in (i + 2) L) (hi3 : vp_in (i + 3) L) (hi4 : vp_in (i + 4) L) (hP : va_P D cls9 (wL cT a x am mm qo fo) H) (hD : va_D A (wL cT a x am mm qo fo)) (hf : cells + 24 ≤ room_1.cells ∧ slots + 192 ≤ room_1.slots) (hob : p7_depot F x (fun r x' => p8_depot F mm (fun r' m' => r = r' ∧ Rl x' m')))
    (kk : ∀ (a' : XA) (x' : XS) (mm' : MS) (fo' : Nat → Int64) (H1 : Heap) (locs1 : List Loc) (ls' : Array Slot), a'.h = a.h → Rl x' mm' → va_P D cls9 (wL cT a' x' am mm' qo fo') H1 → va_D A (wL cT a' x' am mm' qo fo') → va_S A s.heap H1 locs1 → lv_has ls' 8 [(4, .int i), (0, .ref b), (1, .ref a.h), (2, .ref am.h), (3, .ref qo)] → W p l e room_1 s m args below meth c H1 locs1 (cells + 24) (slots + 192) Q (F0 m 1570 ls' [])) : W p l e room_1 s m args below meth c H locs cells slots Q (F0 m 1076 ls []) := by
  have hx := C0.x
  have hb := C0.b
  have hf1 := hf.1
  have hf2 := hf.2
  refine lv_aload_n hx hb dL_law_1076 rfl (lv_at hl 2 rfl) ?_
  refine s7_depot (rest := []) C0 hS hA hl.1 (Nat.le_of_ble_eq_true rfl) hP hD dL_law_1077 ⟨by omega, by omega⟩ hob (fun r x' H locs hg hP hD hS => ?_)
  refine lv_aload_n hx hb dL_law_1080 rfl (lv_at hl 3 rfl) ?_
  refine s8_depot (rest := [.int r]) C0 hS hA hl.1 (Nat.le_of_ble_eq_true rfl) (permP hP pmX) (permD hD pmX) dL_law_1081 ⟨by omega, by omega⟩ hg (fun r' m' H locs hg hP hD hS => ?_)
  obtain ⟨heq, hrel⟩ := hg
  refine lv_icmp_eq (tgt := 1570) hx hb dL_law_1084 (by decide) (fun _ => ?_) (fun hne => absurd heq hne)
  exact W.widen (by omega) (by omega) (kk a x' m' fo H locs ls rfl hrel (permP hP pmX.symm) (permD hD pmX.symm) hS hl)
set_option maxHeartbeats 1000000 in
theorem lc_felt {p : Program} {l : Launch} {e : Env} {s : State} {m : MethodId} {args : Array Value} {below : List Frame} {meth : Method} {c : Code} {H : Heap} {locs : List Loc} {cells slots : Nat} {Q : State → Prop} {ls : Array Slot} {D : va_G} {cT : Nat → ClassId} {A : Nat → Prop} {F : Nat} {a : XA} {x : XS} {am : MA} {mm : MS} {qo : Nat} {fo : Nat → Int64} {b L : Nat} {xs : Nat → Int32} {i : Int32} {Rl : XS → MS → Prop} (C0 : Cx p s m args meth c D cT cL_law 8 RL) (hE : EX s) (hfl : l.stackTraces = false) (hX : va_X b L xs s s.heap) (hbl : b < s.heap.size) (hbA : ¬ A b) (hS : va_S A s.heap H locs) (hA : AO cT s A) (hl : lv_has ls 8 [(4, .int i), (0, .ref b), (1, .ref a.h), (2, .ref am.h), (3, .ref qo)]) (hi1 : vp_in (i + 1) L) (hi2 : vp_in (i + 2) L) (hi3 : vp_in (i + 3) L) (hi4 : vp_in (i + 4) L) (hP : va_P D cls9 (wL cT a x am mm qo fo) H) (hD : va_D A (wL cT a x am mm qo fo)) (hf : cells + 24 ≤ room_1.cells ∧ slots + 192 ≤ room_1.slots) (hob : p7_felt F (xs (i + (1 : Int32)).toNatClampNeg) (xs (i + (2 : Int32)).toNatClampNeg) x (fun r x' => p8_felt F (xs (i + (1 : Int32)).toNatClampNeg) (xs (i + (2 : Int32)).toNatClampNeg) mm (fun r' m' => r = r' ∧ Rl x' m')))
    (kk : ∀ (a' : XA) (x' : XS) (mm' : MS) (fo' : Nat → Int64) (H1 : Heap) (locs1 : List Loc) (ls' : Array Slot), a'.h = a.h → Rl x' mm' → va_P D cls9 (wL cT a' x' am mm' qo fo') H1 → va_D A (wL cT a' x' am mm' qo fo') → va_S A s.heap H1 locs1 → lv_has ls' 8 [(4, .int i), (0, .ref b), (1, .ref a.h), (2, .ref am.h), (3, .ref qo)] → W p l e room_1 s m args below meth c H1 locs1 (cells + 24) (slots + 192) Q (F0 m 1570 ls' [])) : W p l e room_1 s m args below meth c H locs cells slots Q (F0 m 1089 ls []) := by
  have hx := C0.x
  have hb := C0.b
  have hf1 := hf.1
  have hf2 := hf.2
  refine lv_aload_n hx hb dL_law_1089 rfl (lv_at hl 2 rfl) ?_
  refine lv_aload_n hx hb dL_law_1090 rfl (lv_at hl 1 rfl) ?_
  refine lv_iload hx hb dL_law_1091 (lv_at hl 0 rfl) ?_
  refine lv_iconst (v := (1 : Int32)) hx hb dL_law_1093 (by decide) ?_
  refine lv_iadd hx hb dL_law_1094 ?_
  refine va_sld hx hb hX hbl hbA hS hi1 dL_law_1095 ?_
  refine lv_aload_n hx hb dL_law_1096 rfl (lv_at hl 1 rfl) ?_
  refine lv_iload hx hb dL_law_1097 (lv_at hl 0 rfl) ?_
  refine lv_iconst (v := (2 : Int32)) hx hb dL_law_1099 (by decide) ?_
  refine lv_iadd hx hb dL_law_1100 ?_
  refine va_sld hx hb hX hbl hbA hS hi2 dL_law_1101 ?_
  refine s7_felt (rest := []) C0 hS hA hl.1 (Nat.le_of_ble_eq_true rfl) hP hD dL_law_1102 ⟨by omega, by omega⟩ hob (fun r x' H locs hg hP hD hS => ?_)
  refine lv_aload_n hx hb dL_law_1105 rfl (lv_at hl 3 rfl) ?_
  refine lv_aload_n hx hb dL_law_1106 rfl (lv_at hl 1 rfl) ?_
  refine lv_iload hx hb dL_law_1107 (lv_at hl 0 rfl) ?_
  refine lv_iconst (v := (1 : Int32)) hx hb dL_law_1109 (by decide) ?_
  refine lv_iadd hx hb dL_law_1110 ?_
  refine va_sld hx hb hX hbl hbA hS hi1 dL_law_1111 ?_
  refine lv_aload_n hx hb dL_law_1112 rfl (lv_at hl 1 rfl) ?_
  refine lv_iload hx hb dL_law_1113 (lv_at hl 0 rfl) ?_
  refine lv_iconst (v := (2 : Int32)) hx hb dL_law_1115 (by decide) ?_
  refine lv_iadd hx hb dL_law_1116 ?_
  refine va_sld hx hb hX hbl hbA hS hi2 dL_law_1117 ?_
  refine s8_felt (rest := [.int r]) C0 hS hA hl.1 (Nat.le_of_ble_eq_true rfl) (permP hP pmX) (permD hD pmX) dL_law_1118 ⟨by omega, by omega⟩ hg (fun r' m' H locs hg hP hD hS => ?_)
  obtain ⟨heq, hrel⟩ := hg
  refine lv_icmp_eq (tgt := 1570) hx hb dL_law_1121 (by decide) (fun _ => ?_) (fun hne => absurd heq hne)
  exact W.widen (by omega) (by omega) (kk a x' m' fo H locs ls rfl hrel (permP hP pmX.symm) (permD hD pmX.symm) hS hl)
set_option maxHeartbeats 1000000 in
theorem lc_forget {p : Program} {l : Launch} {e : Env} {s : State} {m : MethodId} {args : Array Value} {below : List Frame} {meth : Method} {c : Code} {H : Heap} {locs : List Loc} {cells slots : Nat} {Q : State → Prop} {ls : Array Slot} {D : va_G} {cT : Nat → ClassId} {A : Nat → Prop} {F : Nat} {a : XA} {x : XS} {am : MA} {mm : MS} {qo : Nat} {fo : Nat → Int64} {b L : Nat} {xs : Nat → Int32} {i : Int32} {Rl : XS → MS → Prop} (C0 : Cx p s m args meth c D cT cL_law 8 RL) (hE : EX s) (hfl : l.stackTraces = false) (hX : va_X b L xs s s.heap) (hbl : b < s.heap.size) (hbA : ¬ A b) (hS : va_S A s.heap H locs) (hA : AO cT s A) (hl : lv_has ls 8 [(4, .int i), (0, .ref b), (1, .ref a.h), (2, .ref am.h), (3, .ref qo)]) (hi1 : vp_in (i + 1) L) (hi2 : vp_in (i + 2) L) (hi3 : vp_in (i + 3) L) (hi4 : vp_in (i + 4) L) (hP : va_P D cls9 (wL cT a x am mm qo fo) H) (hD : va_D A (wL cT a x am mm qo fo)) (hf : cells + 24 ≤ room_1.cells ∧ slots + 192 ≤ room_1.slots) (hob : p7_forget F x (fun r x' => p8_forget F mm (fun r' m' => r = r' ∧ Rl x' m')))
    (kk : ∀ (a' : XA) (x' : XS) (mm' : MS) (fo' : Nat → Int64) (H1 : Heap) (locs1 : List Loc) (ls' : Array Slot), a'.h = a.h → Rl x' mm' → va_P D cls9 (wL cT a' x' am mm' qo fo') H1 → va_D A (wL cT a' x' am mm' qo fo') → va_S A s.heap H1 locs1 → lv_has ls' 8 [(4, .int i), (0, .ref b), (1, .ref a.h), (2, .ref am.h), (3, .ref qo)] → W p l e room_1 s m args below meth c H1 locs1 (cells + 24) (slots + 192) Q (F0 m 1570 ls' [])) : W p l e room_1 s m args below meth c H locs cells slots Q (F0 m 1126 ls []) := by
  have hx := C0.x
  have hb := C0.b
  have hf1 := hf.1
  have hf2 := hf.2
  refine lv_aload_n hx hb dL_law_1126 rfl (lv_at hl 2 rfl) ?_
  refine s7_forget (rest := []) C0 hS hA hl.1 (Nat.le_of_ble_eq_true rfl) hP hD dL_law_1127 ⟨by omega, by omega⟩ hob (fun r x' H locs hg hP hD hS => ?_)
  refine lv_aload_n hx hb dL_law_1130 rfl (lv_at hl 3 rfl) ?_
  refine s8_forget (rest := [.int r]) C0 hS hA hl.1 (Nat.le_of_ble_eq_true rfl) (permP hP pmX) (permD hD pmX) dL_law_1131 ⟨by omega, by omega⟩ hg (fun r' m' H locs hg hP hD hS => ?_)
  obtain ⟨heq, hrel⟩ := hg
  refine lv_icmp_eq (tgt := 1570) hx hb dL_law_1134 (by decide) (fun _ => ?_) (fun hne => absurd heq hne)
  exact W.widen (by omega) (by omega) (kk a x' m' fo H locs ls rfl hrel (permP hP pmX.symm) (permD hD pmX.symm) hS hl)
set_option maxHeartbeats 1000000 in
theorem lc_fits {p : Program} {l : Launch} {e : Env} {s : State} {m : MethodId} {args : Array Value} {below : List Frame} {meth : Method} {c : Code} {H : Heap} {locs : List Loc} {cells slots : Nat} {Q : State → Prop} {ls : Array Slot} {D : va_G} {cT : Nat → ClassId} {A : Nat → Prop} {F : Nat} {a : XA} {x : XS} {am : MA} {mm : MS} {qo : Nat} {fo : Nat → Int64} {b L : Nat} {xs : Nat → Int32} {i : Int32} {Rl : XS → MS → Prop} (C0 : Cx p s m args meth c D cT cL_law 8 RL) (hE : EX s) (hfl : l.stackTraces = false) (hX : va_X b L xs s s.heap) (hbl : b < s.heap.size) (hbA : ¬ A b) (hS : va_S A s.heap H locs) (hA : AO cT s A) (hl : lv_has ls 8 [(4, .int i), (0, .ref b), (1, .ref a.h), (2, .ref am.h), (3, .ref qo)]) (hi1 : vp_in (i + 1) L) (hi2 : vp_in (i + 2) L) (hi3 : vp_in (i + 3) L) (hi4 : vp_in (i + 4) L) (hP : va_P D cls9 (wL cT a x am mm qo fo) H) (hD : va_D A (wL cT a x am mm qo fo)) (hf : cells + 24 ≤ room_1.cells ∧ slots + 192 ≤ room_1.slots) (hob : p7_fits F x (fun r x' => p8_fits F am mm (fun r' m' => r = r' ∧ Rl x' m')))
    (kk : ∀ (a' : XA) (x' : XS) (mm' : MS) (fo' : Nat → Int64) (H1 : Heap) (locs1 : List Loc) (ls' : Array Slot), a'.h = a.h → Rl x' mm' → va_P D cls9 (wL cT a' x' am mm' qo fo') H1 → va_D A (wL cT a' x' am mm' qo fo') → va_S A s.heap H1 locs1 → lv_has ls' 8 [(4, .int i), (0, .ref b), (1, .ref a.h), (2, .ref am.h), (3, .ref qo)] → W p l e room_1 s m args below meth c H1 locs1 (cells + 24) (slots + 192) Q (F0 m 1570 ls' [])) : W p l e room_1 s m args below meth c H locs cells slots Q (F0 m 1139 ls []) := by
  have hx := C0.x
  have hb := C0.b
  have hf1 := hf.1
  have hf2 := hf.2
  refine lv_aload_n hx hb dL_law_1139 rfl (lv_at hl 2 rfl) ?_
  refine s7_fits (rest := []) C0 hS hA hl.1 (Nat.le_of_ble_eq_true rfl) hP hD dL_law_1140 ⟨by omega, by omega⟩ hob (fun r x' H locs hg hP hD hS => ?_)
  refine lv_aload_n hx hb dL_law_1143 rfl (lv_at hl 3 rfl) ?_
  refine s8_fits (rest := [.int r]) C0 hS hA hl.1 (Nat.le_of_ble_eq_true rfl) (permP hP pmX) (permD hD pmX) dL_law_1144 ⟨by omega, by omega⟩ hg (fun r' m' H locs hg hP hD hS => ?_)
  obtain ⟨heq, hrel⟩ := hg
  refine lv_icmp_eq (tgt := 1570) hx hb dL_law_1147 (by decide) (fun _ => ?_) (fun hne => absurd heq hne)
  exact W.widen (by omega) (by omega) (kk a x' m' fo H locs ls rfl hrel (permP hP pmX.symm) (permD hD pmX.symm) hS hl)
set_option maxHeartbeats 1000000 in
theorem lc_feels {p : Program} {l : Launch} {e : Env} {s : State} {m : MethodId} {args : Array Value} {below : List Frame} {meth : Method} {c : Code} {H : Heap} {locs : List Loc} {cells slots : Nat} {Q : State → Prop} {ls : Array Slot} {D : va_G} {cT : Nat → ClassId} {A : Nat → Prop} {F : Nat} {a : XA} {x : XS} {am : MA} {mm : MS} {qo : Nat} {fo : Nat → Int64} {b L : Nat} {xs : Nat → Int32} {i : Int32} {Rl : XS → MS → Prop} (C0 : Cx p s m args meth c D cT cL_law 8 RL) (hE : EX s) (hfl : l.stackTraces = false) (hX : va_X b L xs s s.heap) (hbl : b < s.heap.size) (hbA : ¬ A b) (hS : va_S A s.heap H locs) (hA : AO cT s A) (hl : lv_has ls 8 [(4, .int i), (0, .ref b), (1, .ref a.h), (2, .ref am.h), (3, .ref qo)]) (hi1 : vp_in (i + 1) L) (hi2 : vp_in (i + 2) L) (hi3 : vp_in (i + 3) L) (hi4 : vp_in (i + 4) L) (hP : va_P D cls9 (wL cT a x am mm qo fo) H) (hD : va_D A (wL cT a x am mm qo fo)) (hf : cells + 24 ≤ room_1.cells ∧ slots + 192 ≤ room_1.slots) (hob : p7_feels F x (fun r x' => p8_feels F am mm (fun r' m' => r = r' ∧ Rl x' m')))
    (kk : ∀ (a' : XA) (x' : XS) (mm' : MS) (fo' : Nat → Int64) (H1 : Heap) (locs1 : List Loc) (ls' : Array Slot), a'.h = a.h → Rl x' mm' → va_P D cls9 (wL cT a' x' am mm' qo fo') H1 → va_D A (wL cT a' x' am mm' qo fo') → va_S A s.heap H1 locs1 → lv_has ls' 8 [(4, .int i), (0, .ref b), (1, .ref a.h), (2, .ref am.h), (3, .ref qo)] → W p l e room_1 s m args below meth c H1 locs1 (cells + 24) (slots + 192) Q (F0 m 1570 ls' [])) : W p l e room_1 s m args below meth c H locs cells slots Q (F0 m 1152 ls []) := by
  have hx := C0.x
  have hb := C0.b
  have hf1 := hf.1
  have hf2 := hf.2
  refine lv_aload_n hx hb dL_law_1152 rfl (lv_at hl 2 rfl) ?_
  refine s7_feels (rest := []) C0 hS hA hl.1 (Nat.le_of_ble_eq_true rfl) hP hD dL_law_1153 ⟨by omega, by omega⟩ hob (fun r x' H locs hg hP hD hS => ?_)
  refine lv_aload_n hx hb dL_law_1156 rfl (lv_at hl 3 rfl) ?_
  refine s8_feels (rest := [.int r]) C0 hS hA hl.1 (Nat.le_of_ble_eq_true rfl) (permP hP pmX) (permD hD pmX) dL_law_1157 ⟨by omega, by omega⟩ hg (fun r' m' H locs hg hP hD hS => ?_)
  obtain ⟨heq, hrel⟩ := hg
  refine lv_icmp_eq (tgt := 1570) hx hb dL_law_1160 (by decide) (fun _ => ?_) (fun hne => absurd heq hne)
  exact W.widen (by omega) (by omega) (kk a x' m' fo H locs ls rfl hrel (permP hP pmX.symm) (permD hD pmX.symm) hS hl)
set_option maxHeartbeats 1000000 in
theorem lc_spreads {p : Program} {l : Launch} {e : Env} {s : State} {m : MethodId} {args : Array Value} {below : List Frame} {meth : Method} {c : Code} {H : Heap} {locs : List Loc} {cells slots : Nat} {Q : State → Prop} {ls : Array Slot} {D : va_G} {cT : Nat → ClassId} {A : Nat → Prop} {F : Nat} {a : XA} {x : XS} {am : MA} {mm : MS} {qo : Nat} {fo : Nat → Int64} {b L : Nat} {xs : Nat → Int32} {i : Int32} {Rl : XS → MS → Prop} (C0 : Cx p s m args meth c D cT cL_law 8 RL) (hE : EX s) (hfl : l.stackTraces = false) (hX : va_X b L xs s s.heap) (hbl : b < s.heap.size) (hbA : ¬ A b) (hS : va_S A s.heap H locs) (hA : AO cT s A) (hl : lv_has ls 8 [(4, .int i), (0, .ref b), (1, .ref a.h), (2, .ref am.h), (3, .ref qo)]) (hi1 : vp_in (i + 1) L) (hi2 : vp_in (i + 2) L) (hi3 : vp_in (i + 3) L) (hi4 : vp_in (i + 4) L) (hP : va_P D cls9 (wL cT a x am mm qo fo) H) (hD : va_D A (wL cT a x am mm qo fo)) (hf : cells + 24 ≤ room_1.cells ∧ slots + 192 ≤ room_1.slots) (hob : p7_spreads F (xs (i + (1 : Int32)).toNatClampNeg) (xs (i + (2 : Int32)).toNatClampNeg) x (fun r x' => p8_spreads F (xs (i + (1 : Int32)).toNatClampNeg) (xs (i + (2 : Int32)).toNatClampNeg) mm (fun r' m' => r = r' ∧ Rl x' m')))
    (kk : ∀ (a' : XA) (x' : XS) (mm' : MS) (fo' : Nat → Int64) (H1 : Heap) (locs1 : List Loc) (ls' : Array Slot), a'.h = a.h → Rl x' mm' → va_P D cls9 (wL cT a' x' am mm' qo fo') H1 → va_D A (wL cT a' x' am mm' qo fo') → va_S A s.heap H1 locs1 → lv_has ls' 8 [(4, .int i), (0, .ref b), (1, .ref a.h), (2, .ref am.h), (3, .ref qo)] → W p l e room_1 s m args below meth c H1 locs1 (cells + 24) (slots + 192) Q (F0 m 1570 ls' [])) : W p l e room_1 s m args below meth c H locs cells slots Q (F0 m 1165 ls []) := by
  have hx := C0.x
  have hb := C0.b
  have hf1 := hf.1
  have hf2 := hf.2
  refine lv_aload_n hx hb dL_law_1165 rfl (lv_at hl 2 rfl) ?_
  refine lv_aload_n hx hb dL_law_1166 rfl (lv_at hl 1 rfl) ?_
  refine lv_iload hx hb dL_law_1167 (lv_at hl 0 rfl) ?_
  refine lv_iconst (v := (1 : Int32)) hx hb dL_law_1169 (by decide) ?_
  refine lv_iadd hx hb dL_law_1170 ?_
  refine va_sld hx hb hX hbl hbA hS hi1 dL_law_1171 ?_
  refine lv_aload_n hx hb dL_law_1172 rfl (lv_at hl 1 rfl) ?_
  refine lv_iload hx hb dL_law_1173 (lv_at hl 0 rfl) ?_
  refine lv_iconst (v := (2 : Int32)) hx hb dL_law_1175 (by decide) ?_
  refine lv_iadd hx hb dL_law_1176 ?_
  refine va_sld hx hb hX hbl hbA hS hi2 dL_law_1177 ?_
  refine s7_spreads (rest := []) C0 hS hA hl.1 (Nat.le_of_ble_eq_true rfl) hP hD dL_law_1178 ⟨by omega, by omega⟩ hob (fun r x' H locs hg hP hD hS => ?_)
  refine lv_aload_n hx hb dL_law_1181 rfl (lv_at hl 3 rfl) ?_
  refine lv_aload_n hx hb dL_law_1182 rfl (lv_at hl 1 rfl) ?_
  refine lv_iload hx hb dL_law_1183 (lv_at hl 0 rfl) ?_
  refine lv_iconst (v := (1 : Int32)) hx hb dL_law_1185 (by decide) ?_
  refine lv_iadd hx hb dL_law_1186 ?_
  refine va_sld hx hb hX hbl hbA hS hi1 dL_law_1187 ?_
  refine lv_aload_n hx hb dL_law_1188 rfl (lv_at hl 1 rfl) ?_
  refine lv_iload hx hb dL_law_1189 (lv_at hl 0 rfl) ?_
  refine lv_iconst (v := (2 : Int32)) hx hb dL_law_1191 (by decide) ?_
  refine lv_iadd hx hb dL_law_1192 ?_
  refine va_sld hx hb hX hbl hbA hS hi2 dL_law_1193 ?_
  refine s8_spreads (rest := [.int r]) C0 hS hA hl.1 (Nat.le_of_ble_eq_true rfl) (permP hP pmX) (permD hD pmX) dL_law_1194 ⟨by omega, by omega⟩ hg (fun r' m' H locs hg hP hD hS => ?_)
  obtain ⟨heq, hrel⟩ := hg
  refine lv_icmp_eq (tgt := 1570) hx hb dL_law_1197 (by decide) (fun _ => ?_) (fun hne => absurd heq hne)
  exact W.widen (by omega) (by omega) (kk a x' m' fo H locs ls rfl hrel (permP hP pmX.symm) (permD hD pmX.symm) hS hl)
set_option maxHeartbeats 1000000 in
theorem lc_heard {p : Program} {l : Launch} {e : Env} {s : State} {m : MethodId} {args : Array Value} {below : List Frame} {meth : Method} {c : Code} {H : Heap} {locs : List Loc} {cells slots : Nat} {Q : State → Prop} {ls : Array Slot} {D : va_G} {cT : Nat → ClassId} {A : Nat → Prop} {F : Nat} {a : XA} {x : XS} {am : MA} {mm : MS} {qo : Nat} {fo : Nat → Int64} {b L : Nat} {xs : Nat → Int32} {i : Int32} {Rl : XS → MS → Prop} (C0 : Cx p s m args meth c D cT cL_law 8 RL) (hE : EX s) (hfl : l.stackTraces = false) (hX : va_X b L xs s s.heap) (hbl : b < s.heap.size) (hbA : ¬ A b) (hS : va_S A s.heap H locs) (hA : AO cT s A) (hl : lv_has ls 8 [(4, .int i), (0, .ref b), (1, .ref a.h), (2, .ref am.h), (3, .ref qo)]) (hi1 : vp_in (i + 1) L) (hi2 : vp_in (i + 2) L) (hi3 : vp_in (i + 3) L) (hi4 : vp_in (i + 4) L) (hP : va_P D cls9 (wL cT a x am mm qo fo) H) (hD : va_D A (wL cT a x am mm qo fo)) (hf : cells + 24 ≤ room_1.cells ∧ slots + 192 ≤ room_1.slots) (hob : p7_heard F (xs (i + (1 : Int32)).toNatClampNeg) (xs (i + (2 : Int32)).toNatClampNeg) x (fun r x' => p8_heard F (xs (i + (1 : Int32)).toNatClampNeg) (xs (i + (2 : Int32)).toNatClampNeg) mm (fun r' m' => r = r' ∧ Rl x' m')))
    (kk : ∀ (a' : XA) (x' : XS) (mm' : MS) (fo' : Nat → Int64) (H1 : Heap) (locs1 : List Loc) (ls' : Array Slot), a'.h = a.h → Rl x' mm' → va_P D cls9 (wL cT a' x' am mm' qo fo') H1 → va_D A (wL cT a' x' am mm' qo fo') → va_S A s.heap H1 locs1 → lv_has ls' 8 [(4, .int i), (0, .ref b), (1, .ref a.h), (2, .ref am.h), (3, .ref qo)] → W p l e room_1 s m args below meth c H1 locs1 (cells + 24) (slots + 192) Q (F0 m 1570 ls' [])) : W p l e room_1 s m args below meth c H locs cells slots Q (F0 m 1202 ls []) := by
  have hx := C0.x
  have hb := C0.b
  have hf1 := hf.1
  have hf2 := hf.2
  refine lv_aload_n hx hb dL_law_1202 rfl (lv_at hl 2 rfl) ?_
  refine lv_aload_n hx hb dL_law_1203 rfl (lv_at hl 1 rfl) ?_
  refine lv_iload hx hb dL_law_1204 (lv_at hl 0 rfl) ?_
  refine lv_iconst (v := (1 : Int32)) hx hb dL_law_1206 (by decide) ?_
  refine lv_iadd hx hb dL_law_1207 ?_
  refine va_sld hx hb hX hbl hbA hS hi1 dL_law_1208 ?_
  refine lv_aload_n hx hb dL_law_1209 rfl (lv_at hl 1 rfl) ?_
  refine lv_iload hx hb dL_law_1210 (lv_at hl 0 rfl) ?_
  refine lv_iconst (v := (2 : Int32)) hx hb dL_law_1212 (by decide) ?_
  refine lv_iadd hx hb dL_law_1213 ?_
  refine va_sld hx hb hX hbl hbA hS hi2 dL_law_1214 ?_
  refine s7_heard (rest := []) C0 hS hA hl.1 (Nat.le_of_ble_eq_true rfl) hP hD dL_law_1215 ⟨by omega, by omega⟩ hob (fun r x' H locs hg hP hD hS => ?_)
  refine lv_aload_n hx hb dL_law_1218 rfl (lv_at hl 3 rfl) ?_
  refine lv_aload_n hx hb dL_law_1219 rfl (lv_at hl 1 rfl) ?_
  refine lv_iload hx hb dL_law_1220 (lv_at hl 0 rfl) ?_
  refine lv_iconst (v := (1 : Int32)) hx hb dL_law_1222 (by decide) ?_
  refine lv_iadd hx hb dL_law_1223 ?_
  refine va_sld hx hb hX hbl hbA hS hi1 dL_law_1224 ?_
  refine lv_aload_n hx hb dL_law_1225 rfl (lv_at hl 1 rfl) ?_
  refine lv_iload hx hb dL_law_1226 (lv_at hl 0 rfl) ?_
  refine lv_iconst (v := (2 : Int32)) hx hb dL_law_1228 (by decide) ?_
  refine lv_iadd hx hb dL_law_1229 ?_
  refine va_sld hx hb hX hbl hbA hS hi2 dL_law_1230 ?_
  refine s8_heard (rest := [.int r]) C0 hS hA hl.1 (Nat.le_of_ble_eq_true rfl) (permP hP pmX) (permD hD pmX) dL_law_1231 ⟨by omega, by omega⟩ hg (fun r' m' H locs hg hP hD hS => ?_)
  obtain ⟨heq, hrel⟩ := hg
  refine lv_icmp_eq (tgt := 1570) hx hb dL_law_1234 (by decide) (fun _ => ?_) (fun hne => absurd heq hne)
  exact W.widen (by omega) (by omega) (kk a x' m' fo H locs ls rfl hrel (permP hP pmX.symm) (permD hD pmX.symm) hS hl)
set_option maxHeartbeats 1000000 in
theorem lc_denies {p : Program} {l : Launch} {e : Env} {s : State} {m : MethodId} {args : Array Value} {below : List Frame} {meth : Method} {c : Code} {H : Heap} {locs : List Loc} {cells slots : Nat} {Q : State → Prop} {ls : Array Slot} {D : va_G} {cT : Nat → ClassId} {A : Nat → Prop} {F : Nat} {a : XA} {x : XS} {am : MA} {mm : MS} {qo : Nat} {fo : Nat → Int64} {b L : Nat} {xs : Nat → Int32} {i : Int32} {Rl : XS → MS → Prop} (C0 : Cx p s m args meth c D cT cL_law 8 RL) (hE : EX s) (hfl : l.stackTraces = false) (hX : va_X b L xs s s.heap) (hbl : b < s.heap.size) (hbA : ¬ A b) (hS : va_S A s.heap H locs) (hA : AO cT s A) (hl : lv_has ls 8 [(4, .int i), (0, .ref b), (1, .ref a.h), (2, .ref am.h), (3, .ref qo)]) (hi1 : vp_in (i + 1) L) (hi2 : vp_in (i + 2) L) (hi3 : vp_in (i + 3) L) (hi4 : vp_in (i + 4) L) (hP : va_P D cls9 (wL cT a x am mm qo fo) H) (hD : va_D A (wL cT a x am mm qo fo)) (hf : cells + 24 ≤ room_1.cells ∧ slots + 192 ≤ room_1.slots) (hob : p7_denies F x (fun r x' => p8_denies F mm (fun r' m' => r = r' ∧ Rl x' m')))
    (kk : ∀ (a' : XA) (x' : XS) (mm' : MS) (fo' : Nat → Int64) (H1 : Heap) (locs1 : List Loc) (ls' : Array Slot), a'.h = a.h → Rl x' mm' → va_P D cls9 (wL cT a' x' am mm' qo fo') H1 → va_D A (wL cT a' x' am mm' qo fo') → va_S A s.heap H1 locs1 → lv_has ls' 8 [(4, .int i), (0, .ref b), (1, .ref a.h), (2, .ref am.h), (3, .ref qo)] → W p l e room_1 s m args below meth c H1 locs1 (cells + 24) (slots + 192) Q (F0 m 1570 ls' [])) : W p l e room_1 s m args below meth c H locs cells slots Q (F0 m 1239 ls []) := by
  have hx := C0.x
  have hb := C0.b
  have hf1 := hf.1
  have hf2 := hf.2
  refine lv_aload_n hx hb dL_law_1239 rfl (lv_at hl 2 rfl) ?_
  refine s7_denies (rest := []) C0 hS hA hl.1 (Nat.le_of_ble_eq_true rfl) hP hD dL_law_1240 ⟨by omega, by omega⟩ hob (fun r x' H locs hg hP hD hS => ?_)
  refine lv_aload_n hx hb dL_law_1243 rfl (lv_at hl 3 rfl) ?_
  refine s8_denies (rest := [.int r]) C0 hS hA hl.1 (Nat.le_of_ble_eq_true rfl) (permP hP pmX) (permD hD pmX) dL_law_1244 ⟨by omega, by omega⟩ hg (fun r' m' H locs hg hP hD hS => ?_)
  obtain ⟨heq, hrel⟩ := hg
  refine lv_icmp_eq (tgt := 1570) hx hb dL_law_1247 (by decide) (fun _ => ?_) (fun hne => absurd heq hne)
  exact W.widen (by omega) (by omega) (kk a x' m' fo H locs ls rfl hrel (permP hP pmX.symm) (permD hD pmX.symm) hS hl)
set_option maxHeartbeats 1000000 in
theorem lc_suits {p : Program} {l : Launch} {e : Env} {s : State} {m : MethodId} {args : Array Value} {below : List Frame} {meth : Method} {c : Code} {H : Heap} {locs : List Loc} {cells slots : Nat} {Q : State → Prop} {ls : Array Slot} {D : va_G} {cT : Nat → ClassId} {A : Nat → Prop} {F : Nat} {a : XA} {x : XS} {am : MA} {mm : MS} {qo : Nat} {fo : Nat → Int64} {b L : Nat} {xs : Nat → Int32} {i : Int32} {Rl : XS → MS → Prop} (C0 : Cx p s m args meth c D cT cL_law 8 RL) (hE : EX s) (hfl : l.stackTraces = false) (hX : va_X b L xs s s.heap) (hbl : b < s.heap.size) (hbA : ¬ A b) (hS : va_S A s.heap H locs) (hA : AO cT s A) (hl : lv_has ls 8 [(4, .int i), (0, .ref b), (1, .ref a.h), (2, .ref am.h), (3, .ref qo)]) (hi1 : vp_in (i + 1) L) (hi2 : vp_in (i + 2) L) (hi3 : vp_in (i + 3) L) (hi4 : vp_in (i + 4) L) (hP : va_P D cls9 (wL cT a x am mm qo fo) H) (hD : va_D A (wL cT a x am mm qo fo)) (hf : cells + 24 ≤ room_1.cells ∧ slots + 192 ≤ room_1.slots) (hob : p7_suits F x (fun r x' => p8_suits F am mm (fun r' m' => r = r' ∧ Rl x' m')))
    (kk : ∀ (a' : XA) (x' : XS) (mm' : MS) (fo' : Nat → Int64) (H1 : Heap) (locs1 : List Loc) (ls' : Array Slot), a'.h = a.h → Rl x' mm' → va_P D cls9 (wL cT a' x' am mm' qo fo') H1 → va_D A (wL cT a' x' am mm' qo fo') → va_S A s.heap H1 locs1 → lv_has ls' 8 [(4, .int i), (0, .ref b), (1, .ref a.h), (2, .ref am.h), (3, .ref qo)] → W p l e room_1 s m args below meth c H1 locs1 (cells + 24) (slots + 192) Q (F0 m 1570 ls' [])) : W p l e room_1 s m args below meth c H locs cells slots Q (F0 m 1252 ls []) := by
  have hx := C0.x
  have hb := C0.b
  have hf1 := hf.1
  have hf2 := hf.2
  refine lv_aload_n hx hb dL_law_1252 rfl (lv_at hl 2 rfl) ?_
  refine s7_suits (rest := []) C0 hS hA hl.1 (Nat.le_of_ble_eq_true rfl) hP hD dL_law_1253 ⟨by omega, by omega⟩ hob (fun r x' H locs hg hP hD hS => ?_)
  refine lv_aload_n hx hb dL_law_1256 rfl (lv_at hl 3 rfl) ?_
  refine s8_suits (rest := [.int r]) C0 hS hA hl.1 (Nat.le_of_ble_eq_true rfl) (permP hP pmX) (permD hD pmX) dL_law_1257 ⟨by omega, by omega⟩ hg (fun r' m' H locs hg hP hD hS => ?_)
  obtain ⟨heq, hrel⟩ := hg
  refine lv_icmp_eq (tgt := 1570) hx hb dL_law_1260 (by decide) (fun _ => ?_) (fun hne => absurd heq hne)
  exact W.widen (by omega) (by omega) (kk a x' m' fo H locs ls rfl hrel (permP hP pmX.symm) (permD hD pmX.symm) hS hl)
set_option maxHeartbeats 1000000 in
theorem lc_asks {p : Program} {l : Launch} {e : Env} {s : State} {m : MethodId} {args : Array Value} {below : List Frame} {meth : Method} {c : Code} {H : Heap} {locs : List Loc} {cells slots : Nat} {Q : State → Prop} {ls : Array Slot} {D : va_G} {cT : Nat → ClassId} {A : Nat → Prop} {F : Nat} {a : XA} {x : XS} {am : MA} {mm : MS} {qo : Nat} {fo : Nat → Int64} {b L : Nat} {xs : Nat → Int32} {i : Int32} {Rl : XS → MS → Prop} (C0 : Cx p s m args meth c D cT cL_law 8 RL) (hE : EX s) (hfl : l.stackTraces = false) (hX : va_X b L xs s s.heap) (hbl : b < s.heap.size) (hbA : ¬ A b) (hS : va_S A s.heap H locs) (hA : AO cT s A) (hl : lv_has ls 8 [(4, .int i), (0, .ref b), (1, .ref a.h), (2, .ref am.h), (3, .ref qo)]) (hi1 : vp_in (i + 1) L) (hi2 : vp_in (i + 2) L) (hi3 : vp_in (i + 3) L) (hi4 : vp_in (i + 4) L) (hP : va_P D cls9 (wL cT a x am mm qo fo) H) (hD : va_D A (wL cT a x am mm qo fo)) (hf : cells + 24 ≤ room_1.cells ∧ slots + 192 ≤ room_1.slots) (hob : p7_asks F x (fun r x' => p8_asks F am mm (fun r' m' => r = r' ∧ Rl x' m')))
    (kk : ∀ (a' : XA) (x' : XS) (mm' : MS) (fo' : Nat → Int64) (H1 : Heap) (locs1 : List Loc) (ls' : Array Slot), a'.h = a.h → Rl x' mm' → va_P D cls9 (wL cT a' x' am mm' qo fo') H1 → va_D A (wL cT a' x' am mm' qo fo') → va_S A s.heap H1 locs1 → lv_has ls' 8 [(4, .int i), (0, .ref b), (1, .ref a.h), (2, .ref am.h), (3, .ref qo)] → W p l e room_1 s m args below meth c H1 locs1 (cells + 24) (slots + 192) Q (F0 m 1570 ls' [])) : W p l e room_1 s m args below meth c H locs cells slots Q (F0 m 1265 ls []) := by
  have hx := C0.x
  have hb := C0.b
  have hf1 := hf.1
  have hf2 := hf.2
  refine lv_aload_n hx hb dL_law_1265 rfl (lv_at hl 2 rfl) ?_
  refine s7_asks (rest := []) C0 hS hA hl.1 (Nat.le_of_ble_eq_true rfl) hP hD dL_law_1266 ⟨by omega, by omega⟩ hob (fun r x' H locs hg hP hD hS => ?_)
  refine lv_aload_n hx hb dL_law_1269 rfl (lv_at hl 3 rfl) ?_
  refine s8_asks (rest := [.int r]) C0 hS hA hl.1 (Nat.le_of_ble_eq_true rfl) (permP hP pmX) (permD hD pmX) dL_law_1270 ⟨by omega, by omega⟩ hg (fun r' m' H locs hg hP hD hS => ?_)
  obtain ⟨heq, hrel⟩ := hg
  refine lv_icmp_eq (tgt := 1570) hx hb dL_law_1273 (by decide) (fun _ => ?_) (fun hne => absurd heq hne)
  exact W.widen (by omega) (by omega) (kk a x' m' fo H locs ls rfl hrel (permP hP pmX.symm) (permD hD pmX.symm) hS hl)
set_option maxHeartbeats 1000000 in
theorem lc_odds {p : Program} {l : Launch} {e : Env} {s : State} {m : MethodId} {args : Array Value} {below : List Frame} {meth : Method} {c : Code} {H : Heap} {locs : List Loc} {cells slots : Nat} {Q : State → Prop} {ls : Array Slot} {D : va_G} {cT : Nat → ClassId} {A : Nat → Prop} {F : Nat} {a : XA} {x : XS} {am : MA} {mm : MS} {qo : Nat} {fo : Nat → Int64} {b L : Nat} {xs : Nat → Int32} {i : Int32} {Rl : XS → MS → Prop} (C0 : Cx p s m args meth c D cT cL_law 8 RL) (hE : EX s) (hfl : l.stackTraces = false) (hX : va_X b L xs s s.heap) (hbl : b < s.heap.size) (hbA : ¬ A b) (hS : va_S A s.heap H locs) (hA : AO cT s A) (hl : lv_has ls 8 [(4, .int i), (0, .ref b), (1, .ref a.h), (2, .ref am.h), (3, .ref qo)]) (hi1 : vp_in (i + 1) L) (hi2 : vp_in (i + 2) L) (hi3 : vp_in (i + 3) L) (hi4 : vp_in (i + 4) L) (hP : va_P D cls9 (wL cT a x am mm qo fo) H) (hD : va_D A (wL cT a x am mm qo fo)) (hf : cells + 24 ≤ room_1.cells ∧ slots + 192 ≤ room_1.slots) (hob : p7_odds F (xs (i + (1 : Int32)).toNatClampNeg) (xs (i + (2 : Int32)).toNatClampNeg) x (fun r x' => p8_odds F (xs (i + (1 : Int32)).toNatClampNeg) (xs (i + (2 : Int32)).toNatClampNeg) am mm (fun r' m' => r = r' ∧ Rl x' m')))
    (kk : ∀ (a' : XA) (x' : XS) (mm' : MS) (fo' : Nat → Int64) (H1 : Heap) (locs1 : List Loc) (ls' : Array Slot), a'.h = a.h → Rl x' mm' → va_P D cls9 (wL cT a' x' am mm' qo fo') H1 → va_D A (wL cT a' x' am mm' qo fo') → va_S A s.heap H1 locs1 → lv_has ls' 8 [(4, .int i), (0, .ref b), (1, .ref a.h), (2, .ref am.h), (3, .ref qo)] → W p l e room_1 s m args below meth c H1 locs1 (cells + 24) (slots + 192) Q (F0 m 1570 ls' [])) : W p l e room_1 s m args below meth c H locs cells slots Q (F0 m 1278 ls []) := by
  have hx := C0.x
  have hb := C0.b
  have hf1 := hf.1
  have hf2 := hf.2
  refine lv_aload_n hx hb dL_law_1278 rfl (lv_at hl 2 rfl) ?_
  refine lv_aload_n hx hb dL_law_1279 rfl (lv_at hl 1 rfl) ?_
  refine lv_iload hx hb dL_law_1280 (lv_at hl 0 rfl) ?_
  refine lv_iconst (v := (1 : Int32)) hx hb dL_law_1282 (by decide) ?_
  refine lv_iadd hx hb dL_law_1283 ?_
  refine va_sld hx hb hX hbl hbA hS hi1 dL_law_1284 ?_
  refine lv_aload_n hx hb dL_law_1285 rfl (lv_at hl 1 rfl) ?_
  refine lv_iload hx hb dL_law_1286 (lv_at hl 0 rfl) ?_
  refine lv_iconst (v := (2 : Int32)) hx hb dL_law_1288 (by decide) ?_
  refine lv_iadd hx hb dL_law_1289 ?_
  refine va_sld hx hb hX hbl hbA hS hi2 dL_law_1290 ?_
  refine s7_odds (rest := []) C0 hS hA hl.1 (Nat.le_of_ble_eq_true rfl) hP hD dL_law_1291 ⟨by omega, by omega⟩ hob (fun r x' H locs hg hP hD hS => ?_)
  refine lv_aload_n hx hb dL_law_1294 rfl (lv_at hl 3 rfl) ?_
  refine lv_aload_n hx hb dL_law_1295 rfl (lv_at hl 1 rfl) ?_
  refine lv_iload hx hb dL_law_1296 (lv_at hl 0 rfl) ?_
  refine lv_iconst (v := (1 : Int32)) hx hb dL_law_1298 (by decide) ?_
  refine lv_iadd hx hb dL_law_1299 ?_
  refine va_sld hx hb hX hbl hbA hS hi1 dL_law_1300 ?_
  refine lv_aload_n hx hb dL_law_1301 rfl (lv_at hl 1 rfl) ?_
  refine lv_iload hx hb dL_law_1302 (lv_at hl 0 rfl) ?_
  refine lv_iconst (v := (2 : Int32)) hx hb dL_law_1304 (by decide) ?_
  refine lv_iadd hx hb dL_law_1305 ?_
  refine va_sld hx hb hX hbl hbA hS hi2 dL_law_1306 ?_
  refine s8_odds (rest := [.int r]) C0 hS hA hl.1 (Nat.le_of_ble_eq_true rfl) (permP hP pmX) (permD hD pmX) dL_law_1307 ⟨by omega, by omega⟩ hg (fun r' m' H locs hg hP hD hS => ?_)
  obtain ⟨heq, hrel⟩ := hg
  refine lv_icmp_eq (tgt := 1570) hx hb dL_law_1310 (by decide) (fun _ => ?_) (fun hne => absurd heq hne)
  exact W.widen (by omega) (by omega) (kk a x' m' fo H locs ls rfl hrel (permP hP pmX.symm) (permD hD pmX.symm) hS hl)
set_option maxHeartbeats 1000000 in
theorem lc_stands {p : Program} {l : Launch} {e : Env} {s : State} {m : MethodId} {args : Array Value} {below : List Frame} {meth : Method} {c : Code} {H : Heap} {locs : List Loc} {cells slots : Nat} {Q : State → Prop} {ls : Array Slot} {D : va_G} {cT : Nat → ClassId} {A : Nat → Prop} {F : Nat} {a : XA} {x : XS} {am : MA} {mm : MS} {qo : Nat} {fo : Nat → Int64} {b L : Nat} {xs : Nat → Int32} {i : Int32} {Rl : XS → MS → Prop} (C0 : Cx p s m args meth c D cT cL_law 8 RL) (hE : EX s) (hfl : l.stackTraces = false) (hX : va_X b L xs s s.heap) (hbl : b < s.heap.size) (hbA : ¬ A b) (hS : va_S A s.heap H locs) (hA : AO cT s A) (hl : lv_has ls 8 [(4, .int i), (0, .ref b), (1, .ref a.h), (2, .ref am.h), (3, .ref qo)]) (hi1 : vp_in (i + 1) L) (hi2 : vp_in (i + 2) L) (hi3 : vp_in (i + 3) L) (hi4 : vp_in (i + 4) L) (hP : va_P D cls9 (wL cT a x am mm qo fo) H) (hD : va_D A (wL cT a x am mm qo fo)) (hf : cells + 24 ≤ room_1.cells ∧ slots + 192 ≤ room_1.slots) (hob : p7_stands F (xs (i + (1 : Int32)).toNatClampNeg) x (fun r x' => p8_stands F (xs (i + (1 : Int32)).toNatClampNeg) am mm (fun r' m' => r = r' ∧ Rl x' m')))
    (kk : ∀ (a' : XA) (x' : XS) (mm' : MS) (fo' : Nat → Int64) (H1 : Heap) (locs1 : List Loc) (ls' : Array Slot), a'.h = a.h → Rl x' mm' → va_P D cls9 (wL cT a' x' am mm' qo fo') H1 → va_D A (wL cT a' x' am mm' qo fo') → va_S A s.heap H1 locs1 → lv_has ls' 8 [(4, .int i), (0, .ref b), (1, .ref a.h), (2, .ref am.h), (3, .ref qo)] → W p l e room_1 s m args below meth c H1 locs1 (cells + 24) (slots + 192) Q (F0 m 1570 ls' [])) : W p l e room_1 s m args below meth c H locs cells slots Q (F0 m 1315 ls []) := by
  have hx := C0.x
  have hb := C0.b
  have hf1 := hf.1
  have hf2 := hf.2
  refine lv_aload_n hx hb dL_law_1315 rfl (lv_at hl 2 rfl) ?_
  refine lv_aload_n hx hb dL_law_1316 rfl (lv_at hl 1 rfl) ?_
  refine lv_iload hx hb dL_law_1317 (lv_at hl 0 rfl) ?_
  refine lv_iconst (v := (1 : Int32)) hx hb dL_law_1319 (by decide) ?_
  refine lv_iadd hx hb dL_law_1320 ?_
  refine va_sld hx hb hX hbl hbA hS hi1 dL_law_1321 ?_
  refine s7_stands (rest := []) C0 hS hA hl.1 (Nat.le_of_ble_eq_true rfl) hP hD dL_law_1322 ⟨by omega, by omega⟩ hob (fun r x' H locs hg hP hD hS => ?_)
  refine lv_aload_n hx hb dL_law_1325 rfl (lv_at hl 3 rfl) ?_
  refine lv_aload_n hx hb dL_law_1326 rfl (lv_at hl 1 rfl) ?_
  refine lv_iload hx hb dL_law_1327 (lv_at hl 0 rfl) ?_
  refine lv_iconst (v := (1 : Int32)) hx hb dL_law_1329 (by decide) ?_
  refine lv_iadd hx hb dL_law_1330 ?_
  refine va_sld hx hb hX hbl hbA hS hi1 dL_law_1331 ?_
  refine s8_stands (rest := [.int r]) C0 hS hA hl.1 (Nat.le_of_ble_eq_true rfl) (permP hP pmX) (permD hD pmX) dL_law_1332 ⟨by omega, by omega⟩ hg (fun r' m' H locs hg hP hD hS => ?_)
  obtain ⟨heq, hrel⟩ := hg
  refine lv_icmp_eq (tgt := 1570) hx hb dL_law_1335 (by decide) (fun _ => ?_) (fun hne => absurd heq hne)
  exact W.widen (by omega) (by omega) (kk a x' m' fo H locs ls rfl hrel (permP hP pmX.symm) (permD hD pmX.symm) hS hl)
set_option maxHeartbeats 1000000 in
theorem lc_litters {p : Program} {l : Launch} {e : Env} {s : State} {m : MethodId} {args : Array Value} {below : List Frame} {meth : Method} {c : Code} {H : Heap} {locs : List Loc} {cells slots : Nat} {Q : State → Prop} {ls : Array Slot} {D : va_G} {cT : Nat → ClassId} {A : Nat → Prop} {F : Nat} {a : XA} {x : XS} {am : MA} {mm : MS} {qo : Nat} {fo : Nat → Int64} {b L : Nat} {xs : Nat → Int32} {i : Int32} {Rl : XS → MS → Prop} (C0 : Cx p s m args meth c D cT cL_law 8 RL) (hE : EX s) (hfl : l.stackTraces = false) (hX : va_X b L xs s s.heap) (hbl : b < s.heap.size) (hbA : ¬ A b) (hS : va_S A s.heap H locs) (hA : AO cT s A) (hl : lv_has ls 8 [(4, .int i), (0, .ref b), (1, .ref a.h), (2, .ref am.h), (3, .ref qo)]) (hi1 : vp_in (i + 1) L) (hi2 : vp_in (i + 2) L) (hi3 : vp_in (i + 3) L) (hi4 : vp_in (i + 4) L) (hP : va_P D cls9 (wL cT a x am mm qo fo) H) (hD : va_D A (wL cT a x am mm qo fo)) (hf : cells + 24 ≤ room_1.cells ∧ slots + 192 ≤ room_1.slots) (hob : p7_litters F (xs (i + (1 : Int32)).toNatClampNeg) x (fun r x' => p8_litters F (xs (i + (1 : Int32)).toNatClampNeg) mm (fun r' m' => r = r' ∧ Rl x' m')))
    (kk : ∀ (a' : XA) (x' : XS) (mm' : MS) (fo' : Nat → Int64) (H1 : Heap) (locs1 : List Loc) (ls' : Array Slot), a'.h = a.h → Rl x' mm' → va_P D cls9 (wL cT a' x' am mm' qo fo') H1 → va_D A (wL cT a' x' am mm' qo fo') → va_S A s.heap H1 locs1 → lv_has ls' 8 [(4, .int i), (0, .ref b), (1, .ref a.h), (2, .ref am.h), (3, .ref qo)] → W p l e room_1 s m args below meth c H1 locs1 (cells + 24) (slots + 192) Q (F0 m 1570 ls' [])) : W p l e room_1 s m args below meth c H locs cells slots Q (F0 m 1340 ls []) := by
  have hx := C0.x
  have hb := C0.b
  have hf1 := hf.1
  have hf2 := hf.2
  refine lv_aload_n hx hb dL_law_1340 rfl (lv_at hl 2 rfl) ?_
  refine lv_aload_n hx hb dL_law_1341 rfl (lv_at hl 1 rfl) ?_
  refine lv_iload hx hb dL_law_1342 (lv_at hl 0 rfl) ?_
  refine lv_iconst (v := (1 : Int32)) hx hb dL_law_1344 (by decide) ?_
  refine lv_iadd hx hb dL_law_1345 ?_
  refine va_sld hx hb hX hbl hbA hS hi1 dL_law_1346 ?_
  refine s7_litters (rest := []) C0 hS hA hl.1 (Nat.le_of_ble_eq_true rfl) hP hD dL_law_1347 ⟨by omega, by omega⟩ hob (fun r x' H locs hg hP hD hS => ?_)
  refine lv_aload_n hx hb dL_law_1350 rfl (lv_at hl 3 rfl) ?_
  refine lv_aload_n hx hb dL_law_1351 rfl (lv_at hl 1 rfl) ?_
  refine lv_iload hx hb dL_law_1352 (lv_at hl 0 rfl) ?_
  refine lv_iconst (v := (1 : Int32)) hx hb dL_law_1354 (by decide) ?_
  refine lv_iadd hx hb dL_law_1355 ?_
  refine va_sld hx hb hX hbl hbA hS hi1 dL_law_1356 ?_
  refine s8_litters (rest := [.int r]) C0 hS hA hl.1 (Nat.le_of_ble_eq_true rfl) (permP hP pmX) (permD hD pmX) dL_law_1357 ⟨by omega, by omega⟩ hg (fun r' m' H locs hg hP hD hS => ?_)
  obtain ⟨heq, hrel⟩ := hg
  refine lv_icmp_eq (tgt := 1570) hx hb dL_law_1360 (by decide) (fun _ => ?_) (fun hne => absurd heq hne)
  exact W.widen (by omega) (by omega) (kk a x' m' fo H locs ls rfl hrel (permP hP pmX.symm) (permD hD pmX.symm) hS hl)
set_option maxHeartbeats 1000000 in
theorem lc_rests {p : Program} {l : Launch} {e : Env} {s : State} {m : MethodId} {args : Array Value} {below : List Frame} {meth : Method} {c : Code} {H : Heap} {locs : List Loc} {cells slots : Nat} {Q : State → Prop} {ls : Array Slot} {D : va_G} {cT : Nat → ClassId} {A : Nat → Prop} {F : Nat} {a : XA} {x : XS} {am : MA} {mm : MS} {qo : Nat} {fo : Nat → Int64} {b L : Nat} {xs : Nat → Int32} {i : Int32} {Rl : XS → MS → Prop} (C0 : Cx p s m args meth c D cT cL_law 8 RL) (hE : EX s) (hfl : l.stackTraces = false) (hX : va_X b L xs s s.heap) (hbl : b < s.heap.size) (hbA : ¬ A b) (hS : va_S A s.heap H locs) (hA : AO cT s A) (hl : lv_has ls 8 [(4, .int i), (0, .ref b), (1, .ref a.h), (2, .ref am.h), (3, .ref qo)]) (hi1 : vp_in (i + 1) L) (hi2 : vp_in (i + 2) L) (hi3 : vp_in (i + 3) L) (hi4 : vp_in (i + 4) L) (hP : va_P D cls9 (wL cT a x am mm qo fo) H) (hD : va_D A (wL cT a x am mm qo fo)) (hf : cells + 24 ≤ room_1.cells ∧ slots + 192 ≤ room_1.slots) (hob : p7_rests F (xs (i + (1 : Int32)).toNatClampNeg) x (fun r x' => p8_rests F (xs (i + (1 : Int32)).toNatClampNeg) mm (fun r' m' => r = r' ∧ Rl x' m')))
    (kk : ∀ (a' : XA) (x' : XS) (mm' : MS) (fo' : Nat → Int64) (H1 : Heap) (locs1 : List Loc) (ls' : Array Slot), a'.h = a.h → Rl x' mm' → va_P D cls9 (wL cT a' x' am mm' qo fo') H1 → va_D A (wL cT a' x' am mm' qo fo') → va_S A s.heap H1 locs1 → lv_has ls' 8 [(4, .int i), (0, .ref b), (1, .ref a.h), (2, .ref am.h), (3, .ref qo)] → W p l e room_1 s m args below meth c H1 locs1 (cells + 24) (slots + 192) Q (F0 m 1570 ls' [])) : W p l e room_1 s m args below meth c H locs cells slots Q (F0 m 1365 ls []) := by
  have hx := C0.x
  have hb := C0.b
  have hf1 := hf.1
  have hf2 := hf.2
  refine lv_aload_n hx hb dL_law_1365 rfl (lv_at hl 2 rfl) ?_
  refine lv_aload_n hx hb dL_law_1366 rfl (lv_at hl 1 rfl) ?_
  refine lv_iload hx hb dL_law_1367 (lv_at hl 0 rfl) ?_
  refine lv_iconst (v := (1 : Int32)) hx hb dL_law_1369 (by decide) ?_
  refine lv_iadd hx hb dL_law_1370 ?_
  refine va_sld hx hb hX hbl hbA hS hi1 dL_law_1371 ?_
  refine s7_rests (rest := []) C0 hS hA hl.1 (Nat.le_of_ble_eq_true rfl) hP hD dL_law_1372 ⟨by omega, by omega⟩ hob (fun r x' H locs hg hP hD hS => ?_)
  refine lv_aload_n hx hb dL_law_1375 rfl (lv_at hl 3 rfl) ?_
  refine lv_aload_n hx hb dL_law_1376 rfl (lv_at hl 1 rfl) ?_
  refine lv_iload hx hb dL_law_1377 (lv_at hl 0 rfl) ?_
  refine lv_iconst (v := (1 : Int32)) hx hb dL_law_1379 (by decide) ?_
  refine lv_iadd hx hb dL_law_1380 ?_
  refine va_sld hx hb hX hbl hbA hS hi1 dL_law_1381 ?_
  refine s8_rests (rest := [.int r]) C0 hS hA hl.1 (Nat.le_of_ble_eq_true rfl) (permP hP pmX) (permD hD pmX) dL_law_1382 ⟨by omega, by omega⟩ hg (fun r' m' H locs hg hP hD hS => ?_)
  obtain ⟨heq, hrel⟩ := hg
  refine lv_icmp_eq (tgt := 1570) hx hb dL_law_1385 (by decide) (fun _ => ?_) (fun hne => absurd heq hne)
  exact W.widen (by omega) (by omega) (kk a x' m' fo H locs ls rfl hrel (permP hP pmX.symm) (permD hD pmX.symm) hS hl)
set_option maxHeartbeats 1000000 in
theorem lc_law {p : Program} {l : Launch} {e : Env} {s : State} {m : MethodId} {args : Array Value} {below : List Frame} {meth : Method} {c : Code} {H : Heap} {locs : List Loc} {cells slots : Nat} {Q : State → Prop} {ls : Array Slot} {D : va_G} {cT : Nat → ClassId} {A : Nat → Prop} {F : Nat} {a : XA} {x : XS} {am : MA} {mm : MS} {qo : Nat} {fo : Nat → Int64} {b L : Nat} {xs : Nat → Int32} {i : Int32} {Rl : XS → MS → Prop} (C0 : Cx p s m args meth c D cT cL_law 8 RL) (hE : EX s) (hfl : l.stackTraces = false) (hX : va_X b L xs s s.heap) (hbl : b < s.heap.size) (hbA : ¬ A b) (hS : va_S A s.heap H locs) (hA : AO cT s A) (hl : lv_has ls 8 [(4, .int i), (0, .ref b), (1, .ref a.h), (2, .ref am.h), (3, .ref qo)]) (hi1 : vp_in (i + 1) L) (hi2 : vp_in (i + 2) L) (hi3 : vp_in (i + 3) L) (hi4 : vp_in (i + 4) L) (hP : va_P D cls9 (wL cT a x am mm qo fo) H) (hD : va_D A (wL cT a x am mm qo fo)) (hf : cells + 24 ≤ room_1.cells ∧ slots + 192 ≤ room_1.slots) (hob : p7_law F x (fun r x' => p8_law F am mm (fun r' m' => r = r' ∧ Rl x' m')))
    (kk : ∀ (a' : XA) (x' : XS) (mm' : MS) (fo' : Nat → Int64) (H1 : Heap) (locs1 : List Loc) (ls' : Array Slot), a'.h = a.h → Rl x' mm' → va_P D cls9 (wL cT a' x' am mm' qo fo') H1 → va_D A (wL cT a' x' am mm' qo fo') → va_S A s.heap H1 locs1 → lv_has ls' 8 [(4, .int i), (0, .ref b), (1, .ref a.h), (2, .ref am.h), (3, .ref qo)] → W p l e room_1 s m args below meth c H1 locs1 (cells + 24) (slots + 192) Q (F0 m 1570 ls' [])) : W p l e room_1 s m args below meth c H locs cells slots Q (F0 m 1390 ls []) := by
  have hx := C0.x
  have hb := C0.b
  have hf1 := hf.1
  have hf2 := hf.2
  refine lv_aload_n hx hb dL_law_1390 rfl (lv_at hl 2 rfl) ?_
  refine s7_law (rest := []) C0 hS hA hl.1 (Nat.le_of_ble_eq_true rfl) hP hD dL_law_1391 ⟨by omega, by omega⟩ hob (fun r x' H locs hg hP hD hS => ?_)
  refine lv_aload_n hx hb dL_law_1394 rfl (lv_at hl 3 rfl) ?_
  refine s8_law (rest := [.int r]) C0 hS hA hl.1 (Nat.le_of_ble_eq_true rfl) (permP hP pmX) (permD hD pmX) dL_law_1395 ⟨by omega, by omega⟩ hg (fun r' m' H locs hg hP hD hS => ?_)
  obtain ⟨heq, hrel⟩ := hg
  refine lv_icmp_eq (tgt := 1570) hx hb dL_law_1398 (by decide) (fun _ => ?_) (fun hne => absurd heq hne)
  exact W.widen (by omega) (by omega) (kk a x' m' fo H locs ls rfl hrel (permP hP pmX.symm) (permD hD pmX.symm) hS hl)
set_option maxHeartbeats 1000000 in
theorem lc_years {p : Program} {l : Launch} {e : Env} {s : State} {m : MethodId} {args : Array Value} {below : List Frame} {meth : Method} {c : Code} {H : Heap} {locs : List Loc} {cells slots : Nat} {Q : State → Prop} {ls : Array Slot} {D : va_G} {cT : Nat → ClassId} {A : Nat → Prop} {F : Nat} {a : XA} {x : XS} {am : MA} {mm : MS} {qo : Nat} {fo : Nat → Int64} {b L : Nat} {xs : Nat → Int32} {i : Int32} {Rl : XS → MS → Prop} (C0 : Cx p s m args meth c D cT cL_law 8 RL) (hE : EX s) (hfl : l.stackTraces = false) (hX : va_X b L xs s s.heap) (hbl : b < s.heap.size) (hbA : ¬ A b) (hS : va_S A s.heap H locs) (hA : AO cT s A) (hl : lv_has ls 8 [(4, .int i), (0, .ref b), (1, .ref a.h), (2, .ref am.h), (3, .ref qo)]) (hi1 : vp_in (i + 1) L) (hi2 : vp_in (i + 2) L) (hi3 : vp_in (i + 3) L) (hi4 : vp_in (i + 4) L) (hP : va_P D cls9 (wL cT a x am mm qo fo) H) (hD : va_D A (wL cT a x am mm qo fo)) (hf : cells + 24 ≤ room_1.cells ∧ slots + 192 ≤ room_1.slots) (hob : p7_years F (xs (i + (1 : Int32)).toNatClampNeg) (xs (i + (2 : Int32)).toNatClampNeg) x (fun r x' => p8_years F (xs (i + (1 : Int32)).toNatClampNeg) (xs (i + (2 : Int32)).toNatClampNeg) am mm (fun r' m' => r = r' ∧ Rl x' m')))
    (kk : ∀ (a' : XA) (x' : XS) (mm' : MS) (fo' : Nat → Int64) (H1 : Heap) (locs1 : List Loc) (ls' : Array Slot), a'.h = a.h → Rl x' mm' → va_P D cls9 (wL cT a' x' am mm' qo fo') H1 → va_D A (wL cT a' x' am mm' qo fo') → va_S A s.heap H1 locs1 → lv_has ls' 8 [(4, .int i), (0, .ref b), (1, .ref a.h), (2, .ref am.h), (3, .ref qo)] → W p l e room_1 s m args below meth c H1 locs1 (cells + 24) (slots + 192) Q (F0 m 1570 ls' [])) : W p l e room_1 s m args below meth c H locs cells slots Q (F0 m 1403 ls []) := by
  have hx := C0.x
  have hb := C0.b
  have hf1 := hf.1
  have hf2 := hf.2
  refine lv_aload_n hx hb dL_law_1403 rfl (lv_at hl 2 rfl) ?_
  refine lv_aload_n hx hb dL_law_1404 rfl (lv_at hl 1 rfl) ?_
  refine lv_iload hx hb dL_law_1405 (lv_at hl 0 rfl) ?_
  refine lv_iconst (v := (1 : Int32)) hx hb dL_law_1407 (by decide) ?_
  refine lv_iadd hx hb dL_law_1408 ?_
  refine va_sld hx hb hX hbl hbA hS hi1 dL_law_1409 ?_
  refine lv_aload_n hx hb dL_law_1410 rfl (lv_at hl 1 rfl) ?_
  refine lv_iload hx hb dL_law_1411 (lv_at hl 0 rfl) ?_
  refine lv_iconst (v := (2 : Int32)) hx hb dL_law_1413 (by decide) ?_
  refine lv_iadd hx hb dL_law_1414 ?_
  refine va_sld hx hb hX hbl hbA hS hi2 dL_law_1415 ?_
  refine s7_years (rest := []) C0 hS hA hl.1 (Nat.le_of_ble_eq_true rfl) hP hD dL_law_1416 ⟨by omega, by omega⟩ hob (fun r x' H locs hg hP hD hS => ?_)
  refine lv_aload_n hx hb dL_law_1419 rfl (lv_at hl 3 rfl) ?_
  refine lv_aload_n hx hb dL_law_1420 rfl (lv_at hl 1 rfl) ?_
  refine lv_iload hx hb dL_law_1421 (lv_at hl 0 rfl) ?_
  refine lv_iconst (v := (1 : Int32)) hx hb dL_law_1423 (by decide) ?_
  refine lv_iadd hx hb dL_law_1424 ?_
  refine va_sld hx hb hX hbl hbA hS hi1 dL_law_1425 ?_
  refine lv_aload_n hx hb dL_law_1426 rfl (lv_at hl 1 rfl) ?_
  refine lv_iload hx hb dL_law_1427 (lv_at hl 0 rfl) ?_
  refine lv_iconst (v := (2 : Int32)) hx hb dL_law_1429 (by decide) ?_
  refine lv_iadd hx hb dL_law_1430 ?_
  refine va_sld hx hb hX hbl hbA hS hi2 dL_law_1431 ?_
  refine s8_years (rest := [.int r]) C0 hS hA hl.1 (Nat.le_of_ble_eq_true rfl) (permP hP pmX) (permD hD pmX) dL_law_1432 ⟨by omega, by omega⟩ hg (fun r' m' H locs hg hP hD hS => ?_)
  obtain ⟨heq, hrel⟩ := hg
  refine lv_icmp_eq (tgt := 1570) hx hb dL_law_1435 (by decide) (fun _ => ?_) (fun hne => absurd heq hne)
  exact W.widen (by omega) (by omega) (kk a x' m' fo H locs ls rfl hrel (permP hP pmX.symm) (permD hD pmX.symm) hS hl)
set_option maxHeartbeats 1000000 in
theorem lc_keep {p : Program} {l : Launch} {e : Env} {s : State} {m : MethodId} {args : Array Value} {below : List Frame} {meth : Method} {c : Code} {H : Heap} {locs : List Loc} {cells slots : Nat} {Q : State → Prop} {ls : Array Slot} {D : va_G} {cT : Nat → ClassId} {A : Nat → Prop} {F : Nat} {a : XA} {x : XS} {am : MA} {mm : MS} {qo : Nat} {fo : Nat → Int64} {b L : Nat} {xs : Nat → Int32} {i : Int32} {Rl : XS → MS → Prop} (C0 : Cx p s m args meth c D cT cL_law 8 RL) (hE : EX s) (hfl : l.stackTraces = false) (hX : va_X b L xs s s.heap) (hbl : b < s.heap.size) (hbA : ¬ A b) (hS : va_S A s.heap H locs) (hA : AO cT s A) (hl : lv_has ls 8 [(4, .int i), (0, .ref b), (1, .ref a.h), (2, .ref am.h), (3, .ref qo)]) (hi1 : vp_in (i + 1) L) (hi2 : vp_in (i + 2) L) (hi3 : vp_in (i + 3) L) (hi4 : vp_in (i + 4) L) (hP : va_P D cls9 (wL cT a x am mm qo fo) H) (hD : va_D A (wL cT a x am mm qo fo)) (hf : cells + 24 ≤ room_1.cells ∧ slots + 192 ≤ room_1.slots) (hob : p7_keep F (xs (i + (1 : Int32)).toNatClampNeg) x (fun r x' => p8_keep F (xs (i + (1 : Int32)).toNatClampNeg) mm (fun r' m' => r = r' ∧ Rl x' m')))
    (kk : ∀ (a' : XA) (x' : XS) (mm' : MS) (fo' : Nat → Int64) (H1 : Heap) (locs1 : List Loc) (ls' : Array Slot), a'.h = a.h → Rl x' mm' → va_P D cls9 (wL cT a' x' am mm' qo fo') H1 → va_D A (wL cT a' x' am mm' qo fo') → va_S A s.heap H1 locs1 → lv_has ls' 8 [(4, .int i), (0, .ref b), (1, .ref a.h), (2, .ref am.h), (3, .ref qo)] → W p l e room_1 s m args below meth c H1 locs1 (cells + 24) (slots + 192) Q (F0 m 1570 ls' [])) : W p l e room_1 s m args below meth c H locs cells slots Q (F0 m 1440 ls []) := by
  have hx := C0.x
  have hb := C0.b
  have hf1 := hf.1
  have hf2 := hf.2
  refine lv_aload_n hx hb dL_law_1440 rfl (lv_at hl 2 rfl) ?_
  refine lv_aload_n hx hb dL_law_1441 rfl (lv_at hl 1 rfl) ?_
  refine lv_iload hx hb dL_law_1442 (lv_at hl 0 rfl) ?_
  refine lv_iconst (v := (1 : Int32)) hx hb dL_law_1444 (by decide) ?_
  refine lv_iadd hx hb dL_law_1445 ?_
  refine va_sld hx hb hX hbl hbA hS hi1 dL_law_1446 ?_
  refine s7_keep (rest := []) C0 hS hA hl.1 (Nat.le_of_ble_eq_true rfl) hP hD dL_law_1447 ⟨by omega, by omega⟩ hob (fun r x' H locs hg hP hD hS => ?_)
  refine lv_aload_n hx hb dL_law_1450 rfl (lv_at hl 3 rfl) ?_
  refine lv_aload_n hx hb dL_law_1451 rfl (lv_at hl 1 rfl) ?_
  refine lv_iload hx hb dL_law_1452 (lv_at hl 0 rfl) ?_
  refine lv_iconst (v := (1 : Int32)) hx hb dL_law_1454 (by decide) ?_
  refine lv_iadd hx hb dL_law_1455 ?_
  refine va_sld hx hb hX hbl hbA hS hi1 dL_law_1456 ?_
  refine s8_keep (rest := [.int r]) C0 hS hA hl.1 (Nat.le_of_ble_eq_true rfl) (permP hP pmX) (permD hD pmX) dL_law_1457 ⟨by omega, by omega⟩ hg (fun r' m' H locs hg hP hD hS => ?_)
  obtain ⟨heq, hrel⟩ := hg
  refine lv_icmp_eq (tgt := 1570) hx hb dL_law_1460 (by decide) (fun _ => ?_) (fun hne => absurd heq hne)
  exact W.widen (by omega) (by omega) (kk a x' m' fo H locs ls rfl hrel (permP hP pmX.symm) (permD hD pmX.symm) hS hl)
set_option maxHeartbeats 1000000 in
theorem lc_again {p : Program} {l : Launch} {e : Env} {s : State} {m : MethodId} {args : Array Value} {below : List Frame} {meth : Method} {c : Code} {H : Heap} {locs : List Loc} {cells slots : Nat} {Q : State → Prop} {ls : Array Slot} {D : va_G} {cT : Nat → ClassId} {A : Nat → Prop} {F : Nat} {a : XA} {x : XS} {am : MA} {mm : MS} {qo : Nat} {fo : Nat → Int64} {b L : Nat} {xs : Nat → Int32} {i : Int32} {Rl : XS → MS → Prop} (C0 : Cx p s m args meth c D cT cL_law 8 RL) (hE : EX s) (hfl : l.stackTraces = false) (hX : va_X b L xs s s.heap) (hbl : b < s.heap.size) (hbA : ¬ A b) (hS : va_S A s.heap H locs) (hA : AO cT s A) (hl : lv_has ls 8 [(4, .int i), (0, .ref b), (1, .ref a.h), (2, .ref am.h), (3, .ref qo)]) (hi1 : vp_in (i + 1) L) (hi2 : vp_in (i + 2) L) (hi3 : vp_in (i + 3) L) (hi4 : vp_in (i + 4) L) (hP : va_P D cls9 (wL cT a x am mm qo fo) H) (hD : va_D A (wL cT a x am mm qo fo)) (hf : cells + 24 ≤ room_1.cells ∧ slots + 192 ≤ room_1.slots) (hob : p7_again F (xs (i + (1 : Int32)).toNatClampNeg) x (fun r x' => p8_again F (xs (i + (1 : Int32)).toNatClampNeg) mm (fun r' m' => r = r' ∧ Rl x' m')))
    (kk : ∀ (a' : XA) (x' : XS) (mm' : MS) (fo' : Nat → Int64) (H1 : Heap) (locs1 : List Loc) (ls' : Array Slot), a'.h = a.h → Rl x' mm' → va_P D cls9 (wL cT a' x' am mm' qo fo') H1 → va_D A (wL cT a' x' am mm' qo fo') → va_S A s.heap H1 locs1 → lv_has ls' 8 [(4, .int i), (0, .ref b), (1, .ref a.h), (2, .ref am.h), (3, .ref qo)] → W p l e room_1 s m args below meth c H1 locs1 (cells + 24) (slots + 192) Q (F0 m 1570 ls' [])) : W p l e room_1 s m args below meth c H locs cells slots Q (F0 m 1465 ls []) := by
  have hx := C0.x
  have hb := C0.b
  have hf1 := hf.1
  have hf2 := hf.2
  refine lv_aload_n hx hb dL_law_1465 rfl (lv_at hl 2 rfl) ?_
  refine lv_aload_n hx hb dL_law_1466 rfl (lv_at hl 1 rfl) ?_
  refine lv_iload hx hb dL_law_1467 (lv_at hl 0 rfl) ?_
  refine lv_iconst (v := (1 : Int32)) hx hb dL_law_1469 (by decide) ?_
  refine lv_iadd hx hb dL_law_1470 ?_
  refine va_sld hx hb hX hbl hbA hS hi1 dL_law_1471 ?_
  refine s7_again (rest := []) C0 hS hA hl.1 (Nat.le_of_ble_eq_true rfl) hP hD dL_law_1472 ⟨by omega, by omega⟩ hob (fun r x' H locs hg hP hD hS => ?_)
  refine lv_aload_n hx hb dL_law_1475 rfl (lv_at hl 3 rfl) ?_
  refine lv_aload_n hx hb dL_law_1476 rfl (lv_at hl 1 rfl) ?_
  refine lv_iload hx hb dL_law_1477 (lv_at hl 0 rfl) ?_
  refine lv_iconst (v := (1 : Int32)) hx hb dL_law_1479 (by decide) ?_
  refine lv_iadd hx hb dL_law_1480 ?_
  refine va_sld hx hb hX hbl hbA hS hi1 dL_law_1481 ?_
  refine s8_again (rest := [.int r]) C0 hS hA hl.1 (Nat.le_of_ble_eq_true rfl) (permP hP pmX) (permD hD pmX) dL_law_1482 ⟨by omega, by omega⟩ hg (fun r' m' H locs hg hP hD hS => ?_)
  obtain ⟨heq, hrel⟩ := hg
  refine lv_icmp_eq (tgt := 1570) hx hb dL_law_1485 (by decide) (fun _ => ?_) (fun hne => absurd heq hne)
  exact W.widen (by omega) (by omega) (kk a x' m' fo H locs ls rfl hrel (permP hP pmX.symm) (permD hD pmX.symm) hS hl)
set_option maxHeartbeats 1000000 in
theorem lc_count {p : Program} {l : Launch} {e : Env} {s : State} {m : MethodId} {args : Array Value} {below : List Frame} {meth : Method} {c : Code} {H : Heap} {locs : List Loc} {cells slots : Nat} {Q : State → Prop} {ls : Array Slot} {D : va_G} {cT : Nat → ClassId} {A : Nat → Prop} {F : Nat} {a : XA} {x : XS} {am : MA} {mm : MS} {qo : Nat} {fo : Nat → Int64} {b L : Nat} {xs : Nat → Int32} {i : Int32} {Rl : XS → MS → Prop} (C0 : Cx p s m args meth c D cT cL_law 8 RL) (hE : EX s) (hfl : l.stackTraces = false) (hX : va_X b L xs s s.heap) (hbl : b < s.heap.size) (hbA : ¬ A b) (hS : va_S A s.heap H locs) (hA : AO cT s A) (hl : lv_has ls 8 [(4, .int i), (0, .ref b), (1, .ref a.h), (2, .ref am.h), (3, .ref qo)]) (hi1 : vp_in (i + 1) L) (hi2 : vp_in (i + 2) L) (hi3 : vp_in (i + 3) L) (hi4 : vp_in (i + 4) L) (hP : va_P D cls9 (wL cT a x am mm qo fo) H) (hD : va_D A (wL cT a x am mm qo fo)) (hf : cells + 24 ≤ room_1.cells ∧ slots + 192 ≤ room_1.slots) (hob : p7_count F (xs (i + (1 : Int32)).toNatClampNeg) x (fun r x' => p8_count F (xs (i + (1 : Int32)).toNatClampNeg) am mm (fun r' m' => r = r' ∧ Rl x' m')))
    (kk : ∀ (a' : XA) (x' : XS) (mm' : MS) (fo' : Nat → Int64) (H1 : Heap) (locs1 : List Loc) (ls' : Array Slot), a'.h = a.h → Rl x' mm' → va_P D cls9 (wL cT a' x' am mm' qo fo') H1 → va_D A (wL cT a' x' am mm' qo fo') → va_S A s.heap H1 locs1 → lv_has ls' 8 [(4, .int i), (0, .ref b), (1, .ref a.h), (2, .ref am.h), (3, .ref qo)] → W p l e room_1 s m args below meth c H1 locs1 (cells + 24) (slots + 192) Q (F0 m 1570 ls' [])) : W p l e room_1 s m args below meth c H locs cells slots Q (F0 m 1490 ls []) := by
  have hx := C0.x
  have hb := C0.b
  have hf1 := hf.1
  have hf2 := hf.2
  refine lv_aload_n hx hb dL_law_1490 rfl (lv_at hl 2 rfl) ?_
  refine lv_aload_n hx hb dL_law_1491 rfl (lv_at hl 1 rfl) ?_
  refine lv_iload hx hb dL_law_1492 (lv_at hl 0 rfl) ?_
  refine lv_iconst (v := (1 : Int32)) hx hb dL_law_1494 (by decide) ?_
  refine lv_iadd hx hb dL_law_1495 ?_
  refine va_sld hx hb hX hbl hbA hS hi1 dL_law_1496 ?_
  refine s7_count (rest := []) C0 hS hA hl.1 (Nat.le_of_ble_eq_true rfl) hP hD dL_law_1497 ⟨by omega, by omega⟩ hob (fun r x' H locs hg hP hD hS => ?_)
  refine lv_aload_n hx hb dL_law_1500 rfl (lv_at hl 3 rfl) ?_
  refine lv_aload_n hx hb dL_law_1501 rfl (lv_at hl 1 rfl) ?_
  refine lv_iload hx hb dL_law_1502 (lv_at hl 0 rfl) ?_
  refine lv_iconst (v := (1 : Int32)) hx hb dL_law_1504 (by decide) ?_
  refine lv_iadd hx hb dL_law_1505 ?_
  refine va_sld hx hb hX hbl hbA hS hi1 dL_law_1506 ?_
  refine s8_count (rest := [.int r]) C0 hS hA hl.1 (Nat.le_of_ble_eq_true rfl) (permP hP pmX) (permD hD pmX) dL_law_1507 ⟨by omega, by omega⟩ hg (fun r' m' H locs hg hP hD hS => ?_)
  obtain ⟨heq, hrel⟩ := hg
  refine lv_icmp_eq (tgt := 1570) hx hb dL_law_1510 (by decide) (fun _ => ?_) (fun hne => absurd heq hne)
  exact W.widen (by omega) (by omega) (kk a x' m' fo H locs ls rfl hrel (permP hP pmX.symm) (permD hD pmX.symm) hS hl)
