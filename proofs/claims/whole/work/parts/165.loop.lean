/-! ===== what stage 2 owes: one obligation for each call ===== -/
def Obs (F : Nat) (Rl : XS → MS → Prop) : Prop :=
  (∀ (x : XS) (mm : MS) (am : MA) (p1 : Int32), Rl x mm → p7_sign F p1 x (fun r x' => p8_sign F p1 mm (fun r' m' => r = r' ∧ Rl x' m'))) ∧
  (∀ (x : XS) (mm : MS) (am : MA) (p1 : Int32), Rl x mm → p7_end F p1 x (fun r x' => p8_end F p1 mm (fun r' m' => r = r' ∧ Rl x' m'))) ∧
  (∀ (x : XS) (mm : MS) (am : MA), Rl x mm → p7_arches F x (fun r x' => p8_arches F am mm (fun r' m' => r = r' ∧ Rl x' m'))) ∧
  (∀ (x : XS) (mm : MS) (am : MA), Rl x mm → p7_cats F x (fun r x' => p8_cats F am mm (fun r' m' => r = r' ∧ Rl x' m'))) ∧
  (∀ (x : XS) (mm : MS) (am : MA), Rl x mm → p7_rule F x (fun r x' => p8_rule F am mm (fun r' m' => r = r' ∧ Rl x' m'))) ∧
  (∀ (x : XS) (mm : MS) (am : MA) (fo : Nat → Int64) (p1 p2 : Int32), Rl x mm → p7_arch F p1 p2 x fo (fun r x' fo' => p8_arch F p1 p2 am mm (fun r' m' => p8_thrown F m' (fun t m'' => t = r ∧ (r = 0 → fo' (0 : Int32).toNatClampNeg = r'.toInt64) ∧ Rl x' m'')))) ∧
  (∀ (x : XS) (mm : MS) (am : MA) (fo : Nat → Int64) (p1 p2 : Int32), Rl x mm → p7_cat F p1 p2 x fo (fun r x' fo' => p8_cat F p1 p2 am mm (fun r' m' => p8_thrown F m' (fun t m'' => t = r ∧ (r = 0 → fo' (0 : Int32).toNatClampNeg = r'.toInt64) ∧ Rl x' m'')))) ∧
  (∀ (x : XS) (mm : MS) (am : MA) (p1 p2 p3 p4 : Int32), Rl x mm → p7_sheet F p1 p2 p3 p4 x (fun r x' => p8_sheet F p1 p2 p3 p4 mm (fun r' m' => r = r' ∧ Rl x' m'))) ∧
  (∀ (x : XS) (mm : MS) (am : MA) (p1 : Int32), Rl x mm → p7_hours F p1 x (fun r x' => p8_hours F p1 am mm (fun r' m' => r = r' ∧ Rl x' m'))) ∧
  (∀ (x : XS) (mm : MS) (am : MA) (p1 p2 : Int32), Rl x mm → p7_feeds F p1 p2 x (fun r x' => p8_feeds F p1 p2 mm (fun r' m' => r = r' ∧ Rl x' m'))) ∧
  (∀ (x : XS) (mm : MS) (am : MA) (p1 : Int32), Rl x mm → p7_pets F p1 x (fun r x' => p8_pets F p1 mm (fun r' m' => r = r' ∧ Rl x' m'))) ∧
  (∀ (x : XS) (mm : MS) (am : MA) (p1 p2 : Int32), Rl x mm → p7_grieves F p1 p2 x (fun r x' => p8_grieves F p1 p2 mm (fun r' m' => r = r' ∧ Rl x' m'))) ∧
  (∀ (x : XS) (mm : MS) (am : MA) (p1 p2 : Int32), Rl x mm → p7_sets F p1 p2 x (fun r x' => p8_sets F p1 p2 mm (fun r' m' => r = r' ∧ Rl x' m'))) ∧
  (∀ (x : XS) (mm : MS) (am : MA) (p1 p2 : Int32), Rl x mm → p7_loads F p1 p2 x (fun r x' => p8_loads F p1 p2 mm (fun r' m' => r = r' ∧ Rl x' m'))) ∧
  (∀ (x : XS) (mm : MS) (am : MA), Rl x mm → p7_night F x (fun r x' => p8_night F am mm (fun r' m' => r = r' ∧ Rl x' m'))) ∧
  (∀ (x : XS) (mm : MS) (am : MA), Rl x mm → p7_undo F x (fun r x' => p8_undo F mm (fun r' m' => r = r' ∧ Rl x' m'))) ∧
  (∀ (x : XS) (mm : MS) (am : MA), Rl x mm → p7_holds F x (fun r x' => p8_holds F am mm (fun r' m' => r = r' ∧ Rl x' m'))) ∧
  (∀ (x : XS) (mm : MS) (am : MA) (p1 p2 : Int32), Rl x mm → p7_later F p1 p2 x (fun r x' => p8_later F p1 p2 am mm (fun r' m' => r = r' ∧ Rl x' m'))) ∧
  (∀ (x : XS) (mm : MS) (am : MA) (p1 p2 : Int32), Rl x mm → p7_when F p1 p2 x (fun r x' => p8_when F p1 p2 am mm (fun r' m' => r = r' ∧ Rl x' m'))) ∧
  (∀ (x : XS) (mm : MS) (am : MA), Rl x mm → p7_down F x (fun r x' => p8_down F am mm (fun r' m' => r = r' ∧ Rl x' m'))) ∧
  (∀ (x : XS) (mm : MS) (am : MA), Rl x mm → p7_safe F x (fun r x' => p8_safe F am mm (fun r' m' => r = r' ∧ Rl x' m'))) ∧
  (∀ (x : XS) (mm : MS) (am : MA) (p1 : Int32), Rl x mm → p7_loudest F p1 x (fun r x' => p8_loudest F p1 am mm (fun r' m' => r = r' ∧ Rl x' m'))) ∧
  (∀ (x : XS) (mm : MS) (am : MA), Rl x mm → p7_weakest F x (fun r x' => p8_weakest F am mm (fun r' m' => r = r' ∧ Rl x' m'))) ∧
  (∀ (x : XS) (mm : MS) (am : MA), Rl x mm → p7_trades F x (fun r x' => p8_trades F am mm (fun r' m' => r = r' ∧ Rl x' m'))) ∧
  (∀ (x : XS) (mm : MS) (am : MA) (p1 : Int32), Rl x mm → p7_needs F p1 x (fun r x' => p8_needs F p1 am mm (fun r' m' => r = r' ∧ Rl x' m'))) ∧
  (∀ (x : XS) (mm : MS) (am : MA), Rl x mm → p7_guards F x (fun r x' => p8_guards F am mm (fun r' m' => r = r' ∧ Rl x' m'))) ∧
  (∀ (x : XS) (mm : MS) (am : MA) (p1 p2 : Int32), Rl x mm → p7_best F p1 p2 x (fun r x' => p8_best F p1 p2 am mm (fun r' m' => r = r' ∧ Rl x' m'))) ∧
  (∀ (x : XS) (mm : MS) (am : MA) (p1 : Int32), Rl x mm → p7_cheers F p1 x (fun r x' => p8_cheers F p1 am mm (fun r' m' => r = r' ∧ Rl x' m'))) ∧
  (∀ (x : XS) (mm : MS) (am : MA) (p1 : Int32), Rl x mm → p7_bears F p1 x (fun r x' => p8_bears F p1 am mm (fun r' m' => r = r' ∧ Rl x' m'))) ∧
  (∀ (x : XS) (mm : MS) (am : MA) (p1 : Int32), Rl x mm → p7_trolley F p1 x (fun r x' => p8_trolley F p1 mm (fun r' m' => r = r' ∧ Rl x' m'))) ∧
  (∀ (x : XS) (mm : MS) (am : MA), Rl x mm → p7_depot F x (fun r x' => p8_depot F mm (fun r' m' => r = r' ∧ Rl x' m'))) ∧
  (∀ (x : XS) (mm : MS) (am : MA) (p1 p2 : Int32), Rl x mm → p7_felt F p1 p2 x (fun r x' => p8_felt F p1 p2 mm (fun r' m' => r = r' ∧ Rl x' m'))) ∧
  (∀ (x : XS) (mm : MS) (am : MA), Rl x mm → p7_forget F x (fun r x' => p8_forget F mm (fun r' m' => r = r' ∧ Rl x' m'))) ∧
  (∀ (x : XS) (mm : MS) (am : MA), Rl x mm → p7_fits F x (fun r x' => p8_fits F am mm (fun r' m' => r = r' ∧ Rl x' m'))) ∧
  (∀ (x : XS) (mm : MS) (am : MA), Rl x mm → p7_feels F x (fun r x' => p8_feels F am mm (fun r' m' => r = r' ∧ Rl x' m'))) ∧
  (∀ (x : XS) (mm : MS) (am : MA) (p1 p2 : Int32), Rl x mm → p7_spreads F p1 p2 x (fun r x' => p8_spreads F p1 p2 mm (fun r' m' => r = r' ∧ Rl x' m'))) ∧
  (∀ (x : XS) (mm : MS) (am : MA) (p1 p2 : Int32), Rl x mm → p7_heard F p1 p2 x (fun r x' => p8_heard F p1 p2 mm (fun r' m' => r = r' ∧ Rl x' m'))) ∧
  (∀ (x : XS) (mm : MS) (am : MA), Rl x mm → p7_denies F x (fun r x' => p8_denies F mm (fun r' m' => r = r' ∧ Rl x' m'))) ∧
  (∀ (x : XS) (mm : MS) (am : MA), Rl x mm → p7_suits F x (fun r x' => p8_suits F am mm (fun r' m' => r = r' ∧ Rl x' m'))) ∧
  (∀ (x : XS) (mm : MS) (am : MA), Rl x mm → p7_asks F x (fun r x' => p8_asks F am mm (fun r' m' => r = r' ∧ Rl x' m'))) ∧
  (∀ (x : XS) (mm : MS) (am : MA) (p1 p2 : Int32), Rl x mm → p7_odds F p1 p2 x (fun r x' => p8_odds F p1 p2 am mm (fun r' m' => r = r' ∧ Rl x' m'))) ∧
  (∀ (x : XS) (mm : MS) (am : MA) (p1 : Int32), Rl x mm → p7_stands F p1 x (fun r x' => p8_stands F p1 am mm (fun r' m' => r = r' ∧ Rl x' m'))) ∧
  (∀ (x : XS) (mm : MS) (am : MA) (p1 : Int32), Rl x mm → p7_litters F p1 x (fun r x' => p8_litters F p1 mm (fun r' m' => r = r' ∧ Rl x' m'))) ∧
  (∀ (x : XS) (mm : MS) (am : MA) (p1 : Int32), Rl x mm → p7_rests F p1 x (fun r x' => p8_rests F p1 mm (fun r' m' => r = r' ∧ Rl x' m'))) ∧
  (∀ (x : XS) (mm : MS) (am : MA), Rl x mm → p7_law F x (fun r x' => p8_law F am mm (fun r' m' => r = r' ∧ Rl x' m'))) ∧
  (∀ (x : XS) (mm : MS) (am : MA) (p1 p2 : Int32), Rl x mm → p7_years F p1 p2 x (fun r x' => p8_years F p1 p2 am mm (fun r' m' => r = r' ∧ Rl x' m'))) ∧
  (∀ (x : XS) (mm : MS) (am : MA) (p1 : Int32), Rl x mm → p7_keep F p1 x (fun r x' => p8_keep F p1 mm (fun r' m' => r = r' ∧ Rl x' m'))) ∧
  (∀ (x : XS) (mm : MS) (am : MA) (p1 : Int32), Rl x mm → p7_again F p1 x (fun r x' => p8_again F p1 mm (fun r' m' => r = r' ∧ Rl x' m'))) ∧
  (∀ (x : XS) (mm : MS) (am : MA) (p1 : Int32), Rl x mm → p7_count F p1 x (fun r x' => p8_count F p1 am mm (fun r' m' => r = r' ∧ Rl x' m'))) ∧
  (∀ (x : XS) (mm : MS) (am : MA) (fo : Nat → Int64) (p1 : Int32), Rl x mm → p7_row F p1 x fo (fun r x' fo' => p8_row F p1 mm (fun r' m' => p8_thrown F m' (fun t m'' => t = r ∧ (r = 0 → fo' (0 : Int32).toNatClampNeg = r') ∧ Rl x' m''))))
theorem lp_lt {j L : Nat} (hj : j ≤ 2560) (hL : L ≤ 2560) (h : ¬ nI L - (5 : Int32) < nI j) : j + 5 ≤ L := by
  rw [Int32.lt_iff_toInt_lt, show (5 : Int32) = nI 5 from rfl, pk_sub_toInt (by omega) (by omega), nI_toInt (by omega)] at h
  omega
theorem lp_out {v : Int32} (h : ∀ k : Nat, k < 50 → v ≠ nI k) : v.toInt < 0 ∨ 49 < v.toInt := by
  refine Classical.byContradiction fun hc => ?_
  have h1 : ¬ v.toInt < 0 := fun h => hc (Or.inl h)
  have h2 : ¬ 49 < v.toInt := fun h => hc (Or.inr h)
  refine h v.toInt.toNat (by omega) (Int32.toInt_inj.mp ?_)
  rw [nI_toInt (by omega)]
  omega
set_option maxHeartbeats 4000000 in
theorem l_loop {p : Program} {l : Launch} {e : Env} {s : State} {m : MethodId} {args : Array Value} {below : List Frame} {meth : Method} {c : Code} {Q : State → Prop} {D : va_G} {cT : Nat → ClassId} {A : Nat → Prop} {F : Nat} {am : MA} {qo : Nat} {b L : Nat} {xs : Nat → Int32} {Rl : XS → MS → Prop} (hxa : Nat) (C0 : Cx p s m args meth c D cT cL_law 8 RL) (hE : EX s) (hfl : l.stackTraces = false) (hX : va_X b L xs s s.heap) (hbl : b < s.heap.size) (hbA : ¬ A b) (hA : AO cT s A) (hL : L ≤ 2560) (ob : Obs F Rl)
    (kend : ∀ (H : Heap) (locs : List Loc) (cells slots : Nat) (ls : Array Slot), va_S A s.heap H locs → cells ≤ 13000 → slots ≤ 111000 → W p l e room_1 s m args below meth c H locs cells slots Q (F0 m 1576 ls [])) :
    ∀ (n j : Nat), 2565 ≤ j + 5 * n → j ≤ 2560 → ∀ (a : XA) (x : XS) (mm : MS) (fo : Nat → Int64) (H : Heap) (locs : List Loc) (ls : Array Slot) (cells slots : Nat), a.h = hxa → Rl x mm → va_P D cls9 (wL cT a x am mm qo fo) H → va_D A (wL cT a x am mm qo fo) → va_S A s.heap H locs → lv_has ls 8 [(4, .int (nI j)), (0, .ref b), (1, .ref hxa), (2, .ref am.h), (3, .ref qo)] → cells ≤ 200 + 5 * j → slots ≤ 8000 + 40 * j → W p l e room_1 s m args below meth c H locs cells slots Q (F0 m 23 ls []) := by
  have hx := C0.x
  have hb := C0.b
  intro n
  induction n with
  | zero => intro j h1 h2; omega
  | succ n ih =>
  intro j hn hj a x mm fo H locs ls cells slots ha hrel hP hD hS hl hc hs
  refine lv_iload hx hb dL_law_23 (lv_at hl 0 rfl) ?_
  refine lv_aload_n hx hb dL_law_25 rfl (lv_at hl 1 rfl) ?_
  refine va_slen hx hb hX hbl hbA hS dL_law_26 ?_
  refine lv_iconst (v := (5 : Int32)) hx hb dL_law_27 (by decide) ?_
  refine lv_isub hx hb dL_law_28 ?_
  refine lv_icmp_gt (tgt := 1576) hx hb dL_law_29 (by decide) (fun _ => kend H locs cells slots ls hS (by omega) (by omega)) (fun hle => ?_)
  have hjL : j + 5 ≤ L := lp_lt hj hL hle
  refine lv_aload_n hx hb dL_law_32 rfl (lv_at hl 1 rfl) ?_
  refine lv_iload hx hb dL_law_33 (lv_at hl 0 rfl) ?_
  refine va_sld hx hb hX hbl hbA hS (vp_in_nI (by omega) (by omega)) dL_law_35 ?_
  refine lv_bipush (v := (63 : Int32)) hx hb dL_law_36 (by decide) ?_
  refine lv_iand hx hb dL_law_38 ?_
  have ei : ∀ t : Nat, nI j + nI t = nI (j + t) := fun t => nI_add j t
  have hi1 : vp_in (nI j + 1) L := by rw [show (1 : Int32) = nI 1 from rfl, ei]; exact vp_in_nI (by omega) (by omega)
  have hi2 : vp_in (nI j + 2) L := by rw [show (2 : Int32) = nI 2 from rfl, ei]; exact vp_in_nI (by omega) (by omega)
  have hi3 : vp_in (nI j + 3) L := by rw [show (3 : Int32) = nI 3 from rfl, ei]; exact vp_in_nI (by omega) (by omega)
  have hi4 : vp_in (nI j + 4) L := by rw [show (4 : Int32) = nI 4 from rfl, ei]; exact vp_in_nI (by omega) (by omega)
  have hf : cells + 24 ≤ room_1.cells ∧ slots + 192 ≤ room_1.slots := ⟨Nat.le_trans (show cells + 24 ≤ 13024 by omega) (Nat.le_of_ble_eq_true rfl), Nat.le_trans (show slots + 192 ≤ 110592 by omega) (Nat.le_of_ble_eq_true rfl)⟩
  have hl' : lv_has ls 8 [(4, .int (nI j)), (0, .ref b), (1, .ref a.h), (2, .ref am.h), (3, .ref qo)] := by rw [ha]; exact hl
  have next : ∀ (a' : XA) (x' : XS) (mm' : MS) (fo' : Nat → Int64) (H1 : Heap) (locs1 : List Loc) (ls' : Array Slot), a'.h = a.h → Rl x' mm' → va_P D cls9 (wL cT a' x' am mm' qo fo') H1 → va_D A (wL cT a' x' am mm' qo fo') → va_S A s.heap H1 locs1 → lv_has ls' 8 [(4, .int (nI j)), (0, .ref b), (1, .ref a.h), (2, .ref am.h), (3, .ref qo)] → W p l e room_1 s m args below meth c H1 locs1 (cells + 24) (slots + 192) Q (F0 m 1570 ls' []) := by
    intro a' x' mm' fo' H1 locs1 ls' ha' hrel' hP' hD' hS' hl2
    rw [ha] at hl2
    refine lv_iinc (v := nI (j + 5)) (lv' := [(4, .int (nI (j + 5))), (0, .ref b), (1, .ref hxa), (2, .ref am.h), (3, .ref qo)]) hx hb dL_law_1570 hl2 (k := 0) rfl (by rw [← nI_add]; rfl) (by decide) rfl (fun ls hl => ?_)
    refine lv_goto (tgt := 23) hx hb dL_law_1573 (by decide) ?_
    exact ih (j + 5) (by omega) (by omega) a' x' mm' fo' H1 locs1 ls _ _ (ha'.trans ha) hrel' hP' hD' hS' hl (by omega) (by omega)
  generalize hv : xs (nI j).toNatClampNeg &&& 63 = v
  rcases Classical.em (v = (0 : Int32)) with c0 | c0
  · refine lv_tableIn (tgt := 252) hx hb dL_law_39 (by rw [c0]; decide) (by rw [c0]; decide) (by rw [c0]; rfl) (by decide) ?_
    exact lc_sign C0 hE hfl hX hbl hbA hS hA hl' hi1 hi2 hi3 hi4 hP hD hf (ob.1 x mm am _ hrel) next
  rcases Classical.em (v = (1 : Int32)) with c1 | c1
  · refine lv_tableIn (tgt := 277) hx hb dL_law_39 (by rw [c1]; decide) (by rw [c1]; decide) (by rw [c1]; rfl) (by decide) ?_
    exact lc_end C0 hE hfl hX hbl hbA hS hA hl' hi1 hi2 hi3 hi4 hP hD hf (ob.2.1 x mm am _ hrel) next
  rcases Classical.em (v = (2 : Int32)) with c2 | c2
  · refine lv_tableIn (tgt := 302) hx hb dL_law_39 (by rw [c2]; decide) (by rw [c2]; decide) (by rw [c2]; rfl) (by decide) ?_
    exact lc_arches C0 hE hfl hX hbl hbA hS hA hl' hi1 hi2 hi3 hi4 hP hD hf (ob.2.2.1 x mm am hrel) next
  rcases Classical.em (v = (3 : Int32)) with c3 | c3
  · refine lv_tableIn (tgt := 315) hx hb dL_law_39 (by rw [c3]; decide) (by rw [c3]; decide) (by rw [c3]; rfl) (by decide) ?_
    exact lc_cats C0 hE hfl hX hbl hbA hS hA hl' hi1 hi2 hi3 hi4 hP hD hf (ob.2.2.2.1 x mm am hrel) next
  rcases Classical.em (v = (4 : Int32)) with c4 | c4
  · refine lv_tableIn (tgt := 328) hx hb dL_law_39 (by rw [c4]; decide) (by rw [c4]; decide) (by rw [c4]; rfl) (by decide) ?_
    exact lc_rule C0 hE hfl hX hbl hbA hS hA hl' hi1 hi2 hi3 hi4 hP hD hf (ob.2.2.2.2.1 x mm am hrel) next
  rcases Classical.em (v = (5 : Int32)) with c5 | c5
  · refine lv_tableIn (tgt := 341) hx hb dL_law_39 (by rw [c5]; decide) (by rw [c5]; decide) (by rw [c5]; rfl) (by decide) ?_
    exact lc_arch C0 hE hfl hX hbl hbA hS hA hl' hi1 hi2 hi3 hi4 hP hD hf (ob.2.2.2.2.2.1 x mm am fo _ _ hrel) next
  rcases Classical.em (v = (6 : Int32)) with c6 | c6
  · refine lv_tableIn (tgt := 409) hx hb dL_law_39 (by rw [c6]; decide) (by rw [c6]; decide) (by rw [c6]; rfl) (by decide) ?_
    exact lc_cat C0 hE hfl hX hbl hbA hS hA hl' hi1 hi2 hi3 hi4 hP hD hf (ob.2.2.2.2.2.2.1 x mm am fo _ _ hrel) next
  rcases Classical.em (v = (7 : Int32)) with c7 | c7
  · refine lv_tableIn (tgt := 477) hx hb dL_law_39 (by rw [c7]; decide) (by rw [c7]; decide) (by rw [c7]; rfl) (by decide) ?_
    exact lc_sheet C0 hE hfl hX hbl hbA hS hA hl' hi1 hi2 hi3 hi4 hP hD hf (ob.2.2.2.2.2.2.2.1 x mm am _ _ _ _ hrel) next
  rcases Classical.em (v = (8 : Int32)) with c8 | c8
  · refine lv_tableIn (tgt := 538) hx hb dL_law_39 (by rw [c8]; decide) (by rw [c8]; decide) (by rw [c8]; rfl) (by decide) ?_
    exact lc_hours C0 hE hfl hX hbl hbA hS hA hl' hi1 hi2 hi3 hi4 hP hD hf (ob.2.2.2.2.2.2.2.2.1 x mm am _ hrel) next
  rcases Classical.em (v = (9 : Int32)) with c9 | c9
  · refine lv_tableIn (tgt := 563) hx hb dL_law_39 (by rw [c9]; decide) (by rw [c9]; decide) (by rw [c9]; rfl) (by decide) ?_
    exact lc_feeds C0 hE hfl hX hbl hbA hS hA hl' hi1 hi2 hi3 hi4 hP hD hf (ob.2.2.2.2.2.2.2.2.2.1 x mm am _ _ hrel) next
  rcases Classical.em (v = (10 : Int32)) with c10 | c10
  · refine lv_tableIn (tgt := 600) hx hb dL_law_39 (by rw [c10]; decide) (by rw [c10]; decide) (by rw [c10]; rfl) (by decide) ?_
    exact lc_pets C0 hE hfl hX hbl hbA hS hA hl' hi1 hi2 hi3 hi4 hP hD hf (ob.2.2.2.2.2.2.2.2.2.2.1 x mm am _ hrel) next
  rcases Classical.em (v = (11 : Int32)) with c11 | c11
  · refine lv_tableIn (tgt := 625) hx hb dL_law_39 (by rw [c11]; decide) (by rw [c11]; decide) (by rw [c11]; rfl) (by decide) ?_
    exact lc_grieves C0 hE hfl hX hbl hbA hS hA hl' hi1 hi2 hi3 hi4 hP hD hf (ob.2.2.2.2.2.2.2.2.2.2.2.1 x mm am _ _ hrel) next
  rcases Classical.em (v = (12 : Int32)) with c12 | c12
  · refine lv_tableIn (tgt := 662) hx hb dL_law_39 (by rw [c12]; decide) (by rw [c12]; decide) (by rw [c12]; rfl) (by decide) ?_
    exact lc_sets C0 hE hfl hX hbl hbA hS hA hl' hi1 hi2 hi3 hi4 hP hD hf (ob.2.2.2.2.2.2.2.2.2.2.2.2.1 x mm am _ _ hrel) next
  rcases Classical.em (v = (13 : Int32)) with c13 | c13
  · refine lv_tableIn (tgt := 699) hx hb dL_law_39 (by rw [c13]; decide) (by rw [c13]; decide) (by rw [c13]; rfl) (by decide) ?_
    exact lc_loads C0 hE hfl hX hbl hbA hS hA hl' hi1 hi2 hi3 hi4 hP hD hf (ob.2.2.2.2.2.2.2.2.2.2.2.2.2.1 x mm am _ _ hrel) next
  rcases Classical.em (v = (14 : Int32)) with c14 | c14
  · refine lv_tableIn (tgt := 736) hx hb dL_law_39 (by rw [c14]; decide) (by rw [c14]; decide) (by rw [c14]; rfl) (by decide) ?_
    exact lc_night C0 hE hfl hX hbl hbA hS hA hl' hi1 hi2 hi3 hi4 hP hD hf (ob.2.2.2.2.2.2.2.2.2.2.2.2.2.2.1 x mm am hrel) next
  rcases Classical.em (v = (15 : Int32)) with c15 | c15
  · refine lv_tableIn (tgt := 749) hx hb dL_law_39 (by rw [c15]; decide) (by rw [c15]; decide) (by rw [c15]; rfl) (by decide) ?_
    exact lc_undo C0 hE hfl hX hbl hbA hS hA hl' hi1 hi2 hi3 hi4 hP hD hf (ob.2.2.2.2.2.2.2.2.2.2.2.2.2.2.2.1 x mm am hrel) next
  rcases Classical.em (v = (16 : Int32)) with c16 | c16
  · refine lv_tableIn (tgt := 762) hx hb dL_law_39 (by rw [c16]; decide) (by rw [c16]; decide) (by rw [c16]; rfl) (by decide) ?_
    exact lc_holds C0 hE hfl hX hbl hbA hS hA hl' hi1 hi2 hi3 hi4 hP hD hf (ob.2.2.2.2.2.2.2.2.2.2.2.2.2.2.2.2.1 x mm am hrel) next
  rcases Classical.em (v = (17 : Int32)) with c17 | c17
  · refine lv_tableIn (tgt := 775) hx hb dL_law_39 (by rw [c17]; decide) (by rw [c17]; decide) (by rw [c17]; rfl) (by decide) ?_
    exact lc_later C0 hE hfl hX hbl hbA hS hA hl' hi1 hi2 hi3 hi4 hP hD hf (ob.2.2.2.2.2.2.2.2.2.2.2.2.2.2.2.2.2.1 x mm am _ _ hrel) next
  rcases Classical.em (v = (18 : Int32)) with c18 | c18
  · refine lv_tableIn (tgt := 812) hx hb dL_law_39 (by rw [c18]; decide) (by rw [c18]; decide) (by rw [c18]; rfl) (by decide) ?_
    exact lc_when C0 hE hfl hX hbl hbA hS hA hl' hi1 hi2 hi3 hi4 hP hD hf (ob.2.2.2.2.2.2.2.2.2.2.2.2.2.2.2.2.2.2.1 x mm am _ _ hrel) next
  rcases Classical.em (v = (19 : Int32)) with c19 | c19
  · refine lv_tableIn (tgt := 849) hx hb dL_law_39 (by rw [c19]; decide) (by rw [c19]; decide) (by rw [c19]; rfl) (by decide) ?_
    exact lc_down C0 hE hfl hX hbl hbA hS hA hl' hi1 hi2 hi3 hi4 hP hD hf (ob.2.2.2.2.2.2.2.2.2.2.2.2.2.2.2.2.2.2.2.1 x mm am hrel) next
  rcases Classical.em (v = (20 : Int32)) with c20 | c20
  · refine lv_tableIn (tgt := 862) hx hb dL_law_39 (by rw [c20]; decide) (by rw [c20]; decide) (by rw [c20]; rfl) (by decide) ?_
    exact lc_safe C0 hE hfl hX hbl hbA hS hA hl' hi1 hi2 hi3 hi4 hP hD hf (ob.2.2.2.2.2.2.2.2.2.2.2.2.2.2.2.2.2.2.2.2.1 x mm am hrel) next
  rcases Classical.em (v = (21 : Int32)) with c21 | c21
  · refine lv_tableIn (tgt := 875) hx hb dL_law_39 (by rw [c21]; decide) (by rw [c21]; decide) (by rw [c21]; rfl) (by decide) ?_
    exact lc_loudest C0 hE hfl hX hbl hbA hS hA hl' hi1 hi2 hi3 hi4 hP hD hf (ob.2.2.2.2.2.2.2.2.2.2.2.2.2.2.2.2.2.2.2.2.2.1 x mm am _ hrel) next
  rcases Classical.em (v = (22 : Int32)) with c22 | c22
  · refine lv_tableIn (tgt := 900) hx hb dL_law_39 (by rw [c22]; decide) (by rw [c22]; decide) (by rw [c22]; rfl) (by decide) ?_
    exact lc_weakest C0 hE hfl hX hbl hbA hS hA hl' hi1 hi2 hi3 hi4 hP hD hf (ob.2.2.2.2.2.2.2.2.2.2.2.2.2.2.2.2.2.2.2.2.2.2.1 x mm am hrel) next
  rcases Classical.em (v = (23 : Int32)) with c23 | c23
  · refine lv_tableIn (tgt := 913) hx hb dL_law_39 (by rw [c23]; decide) (by rw [c23]; decide) (by rw [c23]; rfl) (by decide) ?_
    exact lc_trades C0 hE hfl hX hbl hbA hS hA hl' hi1 hi2 hi3 hi4 hP hD hf (ob.2.2.2.2.2.2.2.2.2.2.2.2.2.2.2.2.2.2.2.2.2.2.2.1 x mm am hrel) next
  rcases Classical.em (v = (24 : Int32)) with c24 | c24
  · refine lv_tableIn (tgt := 926) hx hb dL_law_39 (by rw [c24]; decide) (by rw [c24]; decide) (by rw [c24]; rfl) (by decide) ?_
    exact lc_needs C0 hE hfl hX hbl hbA hS hA hl' hi1 hi2 hi3 hi4 hP hD hf (ob.2.2.2.2.2.2.2.2.2.2.2.2.2.2.2.2.2.2.2.2.2.2.2.2.1 x mm am _ hrel) next
  rcases Classical.em (v = (25 : Int32)) with c25 | c25
  · refine lv_tableIn (tgt := 951) hx hb dL_law_39 (by rw [c25]; decide) (by rw [c25]; decide) (by rw [c25]; rfl) (by decide) ?_
    exact lc_guards C0 hE hfl hX hbl hbA hS hA hl' hi1 hi2 hi3 hi4 hP hD hf (ob.2.2.2.2.2.2.2.2.2.2.2.2.2.2.2.2.2.2.2.2.2.2.2.2.2.1 x mm am hrel) next
  rcases Classical.em (v = (26 : Int32)) with c26 | c26
  · refine lv_tableIn (tgt := 964) hx hb dL_law_39 (by rw [c26]; decide) (by rw [c26]; decide) (by rw [c26]; rfl) (by decide) ?_
    exact lc_best C0 hE hfl hX hbl hbA hS hA hl' hi1 hi2 hi3 hi4 hP hD hf (ob.2.2.2.2.2.2.2.2.2.2.2.2.2.2.2.2.2.2.2.2.2.2.2.2.2.2.1 x mm am _ _ hrel) next
  rcases Classical.em (v = (27 : Int32)) with c27 | c27
  · refine lv_tableIn (tgt := 1001) hx hb dL_law_39 (by rw [c27]; decide) (by rw [c27]; decide) (by rw [c27]; rfl) (by decide) ?_
    exact lc_cheers C0 hE hfl hX hbl hbA hS hA hl' hi1 hi2 hi3 hi4 hP hD hf (ob.2.2.2.2.2.2.2.2.2.2.2.2.2.2.2.2.2.2.2.2.2.2.2.2.2.2.2.1 x mm am _ hrel) next
  rcases Classical.em (v = (28 : Int32)) with c28 | c28
  · refine lv_tableIn (tgt := 1026) hx hb dL_law_39 (by rw [c28]; decide) (by rw [c28]; decide) (by rw [c28]; rfl) (by decide) ?_
    exact lc_bears C0 hE hfl hX hbl hbA hS hA hl' hi1 hi2 hi3 hi4 hP hD hf (ob.2.2.2.2.2.2.2.2.2.2.2.2.2.2.2.2.2.2.2.2.2.2.2.2.2.2.2.2.1 x mm am _ hrel) next
  rcases Classical.em (v = (29 : Int32)) with c29 | c29
  · refine lv_tableIn (tgt := 1051) hx hb dL_law_39 (by rw [c29]; decide) (by rw [c29]; decide) (by rw [c29]; rfl) (by decide) ?_
    exact lc_trolley C0 hE hfl hX hbl hbA hS hA hl' hi1 hi2 hi3 hi4 hP hD hf (ob.2.2.2.2.2.2.2.2.2.2.2.2.2.2.2.2.2.2.2.2.2.2.2.2.2.2.2.2.2.1 x mm am _ hrel) next
  rcases Classical.em (v = (30 : Int32)) with c30 | c30
  · refine lv_tableIn (tgt := 1076) hx hb dL_law_39 (by rw [c30]; decide) (by rw [c30]; decide) (by rw [c30]; rfl) (by decide) ?_
    exact lc_depot C0 hE hfl hX hbl hbA hS hA hl' hi1 hi2 hi3 hi4 hP hD hf (ob.2.2.2.2.2.2.2.2.2.2.2.2.2.2.2.2.2.2.2.2.2.2.2.2.2.2.2.2.2.2.1 x mm am hrel) next
  rcases Classical.em (v = (31 : Int32)) with c31 | c31
  · refine lv_tableIn (tgt := 1089) hx hb dL_law_39 (by rw [c31]; decide) (by rw [c31]; decide) (by rw [c31]; rfl) (by decide) ?_
    exact lc_felt C0 hE hfl hX hbl hbA hS hA hl' hi1 hi2 hi3 hi4 hP hD hf (ob.2.2.2.2.2.2.2.2.2.2.2.2.2.2.2.2.2.2.2.2.2.2.2.2.2.2.2.2.2.2.2.1 x mm am _ _ hrel) next
  rcases Classical.em (v = (32 : Int32)) with c32 | c32
  · refine lv_tableIn (tgt := 1126) hx hb dL_law_39 (by rw [c32]; decide) (by rw [c32]; decide) (by rw [c32]; rfl) (by decide) ?_
    exact lc_forget C0 hE hfl hX hbl hbA hS hA hl' hi1 hi2 hi3 hi4 hP hD hf (ob.2.2.2.2.2.2.2.2.2.2.2.2.2.2.2.2.2.2.2.2.2.2.2.2.2.2.2.2.2.2.2.2.1 x mm am hrel) next
  rcases Classical.em (v = (33 : Int32)) with c33 | c33
  · refine lv_tableIn (tgt := 1139) hx hb dL_law_39 (by rw [c33]; decide) (by rw [c33]; decide) (by rw [c33]; rfl) (by decide) ?_
    exact lc_fits C0 hE hfl hX hbl hbA hS hA hl' hi1 hi2 hi3 hi4 hP hD hf (ob.2.2.2.2.2.2.2.2.2.2.2.2.2.2.2.2.2.2.2.2.2.2.2.2.2.2.2.2.2.2.2.2.2.1 x mm am hrel) next
  rcases Classical.em (v = (34 : Int32)) with c34 | c34
  · refine lv_tableIn (tgt := 1152) hx hb dL_law_39 (by rw [c34]; decide) (by rw [c34]; decide) (by rw [c34]; rfl) (by decide) ?_
    exact lc_feels C0 hE hfl hX hbl hbA hS hA hl' hi1 hi2 hi3 hi4 hP hD hf (ob.2.2.2.2.2.2.2.2.2.2.2.2.2.2.2.2.2.2.2.2.2.2.2.2.2.2.2.2.2.2.2.2.2.2.1 x mm am hrel) next
  rcases Classical.em (v = (35 : Int32)) with c35 | c35
  · refine lv_tableIn (tgt := 1165) hx hb dL_law_39 (by rw [c35]; decide) (by rw [c35]; decide) (by rw [c35]; rfl) (by decide) ?_
    exact lc_spreads C0 hE hfl hX hbl hbA hS hA hl' hi1 hi2 hi3 hi4 hP hD hf (ob.2.2.2.2.2.2.2.2.2.2.2.2.2.2.2.2.2.2.2.2.2.2.2.2.2.2.2.2.2.2.2.2.2.2.2.1 x mm am _ _ hrel) next
  rcases Classical.em (v = (36 : Int32)) with c36 | c36
  · refine lv_tableIn (tgt := 1202) hx hb dL_law_39 (by rw [c36]; decide) (by rw [c36]; decide) (by rw [c36]; rfl) (by decide) ?_
    exact lc_heard C0 hE hfl hX hbl hbA hS hA hl' hi1 hi2 hi3 hi4 hP hD hf (ob.2.2.2.2.2.2.2.2.2.2.2.2.2.2.2.2.2.2.2.2.2.2.2.2.2.2.2.2.2.2.2.2.2.2.2.2.1 x mm am _ _ hrel) next
  rcases Classical.em (v = (37 : Int32)) with c37 | c37
  · refine lv_tableIn (tgt := 1239) hx hb dL_law_39 (by rw [c37]; decide) (by rw [c37]; decide) (by rw [c37]; rfl) (by decide) ?_
    exact lc_denies C0 hE hfl hX hbl hbA hS hA hl' hi1 hi2 hi3 hi4 hP hD hf (ob.2.2.2.2.2.2.2.2.2.2.2.2.2.2.2.2.2.2.2.2.2.2.2.2.2.2.2.2.2.2.2.2.2.2.2.2.2.1 x mm am hrel) next
  rcases Classical.em (v = (38 : Int32)) with c38 | c38
  · refine lv_tableIn (tgt := 1252) hx hb dL_law_39 (by rw [c38]; decide) (by rw [c38]; decide) (by rw [c38]; rfl) (by decide) ?_
    exact lc_suits C0 hE hfl hX hbl hbA hS hA hl' hi1 hi2 hi3 hi4 hP hD hf (ob.2.2.2.2.2.2.2.2.2.2.2.2.2.2.2.2.2.2.2.2.2.2.2.2.2.2.2.2.2.2.2.2.2.2.2.2.2.2.1 x mm am hrel) next
  rcases Classical.em (v = (39 : Int32)) with c39 | c39
  · refine lv_tableIn (tgt := 1265) hx hb dL_law_39 (by rw [c39]; decide) (by rw [c39]; decide) (by rw [c39]; rfl) (by decide) ?_
    exact lc_asks C0 hE hfl hX hbl hbA hS hA hl' hi1 hi2 hi3 hi4 hP hD hf (ob.2.2.2.2.2.2.2.2.2.2.2.2.2.2.2.2.2.2.2.2.2.2.2.2.2.2.2.2.2.2.2.2.2.2.2.2.2.2.2.1 x mm am hrel) next
  rcases Classical.em (v = (40 : Int32)) with c40 | c40
  · refine lv_tableIn (tgt := 1278) hx hb dL_law_39 (by rw [c40]; decide) (by rw [c40]; decide) (by rw [c40]; rfl) (by decide) ?_
    exact lc_odds C0 hE hfl hX hbl hbA hS hA hl' hi1 hi2 hi3 hi4 hP hD hf (ob.2.2.2.2.2.2.2.2.2.2.2.2.2.2.2.2.2.2.2.2.2.2.2.2.2.2.2.2.2.2.2.2.2.2.2.2.2.2.2.2.1 x mm am _ _ hrel) next
  rcases Classical.em (v = (41 : Int32)) with c41 | c41
  · refine lv_tableIn (tgt := 1315) hx hb dL_law_39 (by rw [c41]; decide) (by rw [c41]; decide) (by rw [c41]; rfl) (by decide) ?_
    exact lc_stands C0 hE hfl hX hbl hbA hS hA hl' hi1 hi2 hi3 hi4 hP hD hf (ob.2.2.2.2.2.2.2.2.2.2.2.2.2.2.2.2.2.2.2.2.2.2.2.2.2.2.2.2.2.2.2.2.2.2.2.2.2.2.2.2.2.1 x mm am _ hrel) next
  rcases Classical.em (v = (42 : Int32)) with c42 | c42
  · refine lv_tableIn (tgt := 1340) hx hb dL_law_39 (by rw [c42]; decide) (by rw [c42]; decide) (by rw [c42]; rfl) (by decide) ?_
    exact lc_litters C0 hE hfl hX hbl hbA hS hA hl' hi1 hi2 hi3 hi4 hP hD hf (ob.2.2.2.2.2.2.2.2.2.2.2.2.2.2.2.2.2.2.2.2.2.2.2.2.2.2.2.2.2.2.2.2.2.2.2.2.2.2.2.2.2.2.1 x mm am _ hrel) next
  rcases Classical.em (v = (43 : Int32)) with c43 | c43
  · refine lv_tableIn (tgt := 1365) hx hb dL_law_39 (by rw [c43]; decide) (by rw [c43]; decide) (by rw [c43]; rfl) (by decide) ?_
    exact lc_rests C0 hE hfl hX hbl hbA hS hA hl' hi1 hi2 hi3 hi4 hP hD hf (ob.2.2.2.2.2.2.2.2.2.2.2.2.2.2.2.2.2.2.2.2.2.2.2.2.2.2.2.2.2.2.2.2.2.2.2.2.2.2.2.2.2.2.2.1 x mm am _ hrel) next
  rcases Classical.em (v = (44 : Int32)) with c44 | c44
  · refine lv_tableIn (tgt := 1390) hx hb dL_law_39 (by rw [c44]; decide) (by rw [c44]; decide) (by rw [c44]; rfl) (by decide) ?_
    exact lc_law C0 hE hfl hX hbl hbA hS hA hl' hi1 hi2 hi3 hi4 hP hD hf (ob.2.2.2.2.2.2.2.2.2.2.2.2.2.2.2.2.2.2.2.2.2.2.2.2.2.2.2.2.2.2.2.2.2.2.2.2.2.2.2.2.2.2.2.2.1 x mm am hrel) next
  rcases Classical.em (v = (45 : Int32)) with c45 | c45
  · refine lv_tableIn (tgt := 1403) hx hb dL_law_39 (by rw [c45]; decide) (by rw [c45]; decide) (by rw [c45]; rfl) (by decide) ?_
    exact lc_years C0 hE hfl hX hbl hbA hS hA hl' hi1 hi2 hi3 hi4 hP hD hf (ob.2.2.2.2.2.2.2.2.2.2.2.2.2.2.2.2.2.2.2.2.2.2.2.2.2.2.2.2.2.2.2.2.2.2.2.2.2.2.2.2.2.2.2.2.2.1 x mm am _ _ hrel) next
  rcases Classical.em (v = (46 : Int32)) with c46 | c46
  · refine lv_tableIn (tgt := 1440) hx hb dL_law_39 (by rw [c46]; decide) (by rw [c46]; decide) (by rw [c46]; rfl) (by decide) ?_
    exact lc_keep C0 hE hfl hX hbl hbA hS hA hl' hi1 hi2 hi3 hi4 hP hD hf (ob.2.2.2.2.2.2.2.2.2.2.2.2.2.2.2.2.2.2.2.2.2.2.2.2.2.2.2.2.2.2.2.2.2.2.2.2.2.2.2.2.2.2.2.2.2.2.1 x mm am _ hrel) next
  rcases Classical.em (v = (47 : Int32)) with c47 | c47
  · refine lv_tableIn (tgt := 1465) hx hb dL_law_39 (by rw [c47]; decide) (by rw [c47]; decide) (by rw [c47]; rfl) (by decide) ?_
    exact lc_again C0 hE hfl hX hbl hbA hS hA hl' hi1 hi2 hi3 hi4 hP hD hf (ob.2.2.2.2.2.2.2.2.2.2.2.2.2.2.2.2.2.2.2.2.2.2.2.2.2.2.2.2.2.2.2.2.2.2.2.2.2.2.2.2.2.2.2.2.2.2.2.1 x mm am _ hrel) next
  rcases Classical.em (v = (48 : Int32)) with c48 | c48
  · refine lv_tableIn (tgt := 1490) hx hb dL_law_39 (by rw [c48]; decide) (by rw [c48]; decide) (by rw [c48]; rfl) (by decide) ?_
    exact lc_count C0 hE hfl hX hbl hbA hS hA hl' hi1 hi2 hi3 hi4 hP hD hf (ob.2.2.2.2.2.2.2.2.2.2.2.2.2.2.2.2.2.2.2.2.2.2.2.2.2.2.2.2.2.2.2.2.2.2.2.2.2.2.2.2.2.2.2.2.2.2.2.2.1 x mm am _ hrel) next
  rcases Classical.em (v = (49 : Int32)) with c49 | c49
  · refine lv_tableIn (tgt := 1515) hx hb dL_law_39 (by rw [c49]; decide) (by rw [c49]; decide) (by rw [c49]; rfl) (by decide) ?_
    exact lc_row C0 hE hfl hX hbl hbA hS hA hl' hi1 hi2 hi3 hi4 hP hD hf (ob.2.2.2.2.2.2.2.2.2.2.2.2.2.2.2.2.2.2.2.2.2.2.2.2.2.2.2.2.2.2.2.2.2.2.2.2.2.2.2.2.2.2.2.2.2.2.2.2.2 x mm am fo _ hrel) next
  have hne : ∀ k : Nat, k < 50 → v ≠ nI k := fun k hk => match k, hk with
    | 0, _ => c0
    | 1, _ => c1
    | 2, _ => c2
    | 3, _ => c3
    | 4, _ => c4
    | 5, _ => c5
    | 6, _ => c6
    | 7, _ => c7
    | 8, _ => c8
    | 9, _ => c9
    | 10, _ => c10
    | 11, _ => c11
    | 12, _ => c12
    | 13, _ => c13
    | 14, _ => c14
    | 15, _ => c15
    | 16, _ => c16
    | 17, _ => c17
    | 18, _ => c18
    | 19, _ => c19
    | 20, _ => c20
    | 21, _ => c21
    | 22, _ => c22
    | 23, _ => c23
    | 24, _ => c24
    | 25, _ => c25
    | 26, _ => c26
    | 27, _ => c27
    | 28, _ => c28
    | 29, _ => c29
    | 30, _ => c30
    | 31, _ => c31
    | 32, _ => c32
    | 33, _ => c33
    | 34, _ => c34
    | 35, _ => c35
    | 36, _ => c36
    | 37, _ => c37
    | 38, _ => c38
    | 39, _ => c39
    | 40, _ => c40
    | 41, _ => c41
    | 42, _ => c42
    | 43, _ => c43
    | 44, _ => c44
    | 45, _ => c45
    | 46, _ => c46
    | 47, _ => c47
    | 48, _ => c48
    | 49, _ => c49
    | _ + 50, h => absurd h (by omega)
  refine lv_tableOut (tgt := 1570) hx hb dL_law_39 (lp_out hne) (by decide) ?_
  exact W.widen (Nat.le_add_right _ 24) (Nat.le_add_right _ 192) (next a x mm fo H locs ls rfl hrel hP hD hS hl')
