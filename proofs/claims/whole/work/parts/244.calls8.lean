/-! ===== calls: arch, cat, sheet ===== -/
section
variable {F : Nat} {x : XS} {m : MS} {am : MA}
theorem updL0 (f : Nat → Int64) (v : Int64) : vp_updL f (0 : Int32).toNatClampNeg v (0 : Int32).toNatClampNeg = v := pk_uLs
theorem ob_arch (hF : 5000 ≤ F) (fo : Nat → Int64) (p1 p2 : Int32) (h : Rel F x m) : p7_arch F p1 p2 x fo (fun r x' fo' => p8_arch F p1 p2 am m (fun r' m' => p8_thrown F m' (fun t m'' => t = r ∧ (r = 0 → fo' (0 : Int32).toNatClampNeg = r'.toInt64) ∧ Rel F x' m''))) := by
  obtain ⟨nA, nC, R, w, ok, hV, hM, eA, eC, hT, hW, hU, hN, hE, hH, hK⟩ := h
  have hA := ok.1
  have hC := ok.2.1
  obtain ⟨hRX, rs, ers, hRM⟩ := id hU
  unfold p7_arch p_L_arch p_X7_arch p8_arch p_X8_arch p_X8_arch_22
  rw [eA, eC, ers, hV.1]
  have hV0 := hV
  rw [hV.1] at hV0
  rcases arg3 p1 (n := nA) (by omega) with h | ⟨a, ha, rfl⟩
  · exact s6_noArch h (br_t rfl (s8_noArch h (by omega) (br_t rfl ⟨rfl, fun z => absurd z (by decide), nA, nC, R, w, ok, hV0, hM, rfl, rfl, hT, hW, ⟨hRX, rs, rfl, hRM⟩, hN, hE, hH, hK⟩)))
  refine s6_hasArch hA ha (br_f (by decide) ?_)
  rcases arg3 p2 (n := 3 + 1) (by omega) with h | ⟨n, hn, rfl⟩
  · refine br_f (ne_lit (c := 0) h (by omega) (by omega)) (br_f (ne_lit (c := 1) h (by omega) (by omega)) (br_f (ne_lit (c := 2) h (by omega) (by omega)) (br_f (ne_lit (c := 3) h (by omega) (by omega)) ?_)))
    exact s8_isArch ha (by omega) (br_f (by decide) (s8_rgno (n := 3) h (by omega) ⟨fun z => absurd rfl z, fun _ => ⟨rfl, fun z => absurd z (by decide), nA, nC, R, w, ok, hV0, hM, rfl, rfl, hT, hW, ⟨hRX, rs, rfl, hRM⟩, hN, hE, hH, hK⟩⟩))
  have i6 : vp_in (nI a) 6 := pk_in a 6 (by omega)
  have i47 : vp_in (nI a) 47 := pk_in a 47 (by omega)
  rw [nI_clamp (n := a) (by omega), cc6 (by omega), hM a (by omega), hM (6 + a) (by omega), hV.2.2.2.2.2.1 a (by omega), hV.2.2.2.2.2.2.1 a (by omega)]
  rcases co_dec (N := 4) (P := fun i => i = 0 ∨ i = 1 ∨ i = 2 ∨ i = 3) (by decide) hn with rfl | rfl | rfl | rfl
  · refine br_t rfl ⟨i6, s8_isArch ha (by omega) (br_f (by decide) (s8_rgyes (n := 3) hn (by omega) ⟨fun _ => br_t rfl ⟨i47, ?_⟩, fun z => absurd z (by decide)⟩))⟩
    exact ⟨rfl, fun _ => updL0 fo _, nA, nC, R, w, ok, hV0, hM, rfl, rfl, hT, hW, ⟨hRX, rs, rfl, hRM⟩, hN, hE, hH, hK⟩
  · refine br_f (by decide) (br_t rfl ⟨i6, s8_isArch ha (by omega) (br_f (by decide) (s8_rgyes (n := 3) hn (by omega) ⟨fun _ => br_f (by decide) (br_t rfl ⟨ci6 (by omega), ?_⟩), fun z => absurd z (by decide)⟩))⟩)
    exact ⟨rfl, fun _ => updL0 fo _, nA, nC, R, w, ok, hV0, hM, rfl, rfl, hT, hW, ⟨hRX, rs, rfl, hRM⟩, hN, hE, hH, hK⟩
  · rw [hV.2.1]
    refine br_f (by decide) (br_f (by decide) (br_t rfl (s6_catsIn (w := w) hF hC hV.2.2.2.2.2.2.2.2.2.2 (s8_isArch ha (by omega) (br_f (by decide) (s8_rgyes (n := 3) hn (by omega) ⟨fun _ => br_f (by decide) (br_f (by decide) (br_t rfl (s8_there hF hM hC ?_))), fun z => absurd z (by decide)⟩))))))
    exact ⟨rfl, fun _ => updL0 fo _, nA, nC, R, w, ok, ⟨rfl, rfl, hV.2.2⟩, hM, rfl, rfl, hT, hW, ⟨hRX, rs, rfl, hRM⟩, hN, hE, hH, hK⟩
  · refine br_f (by decide) (br_f (by decide) (br_f (by decide) (br_t rfl (s6_holdOf hF hRX hV0 hA hC ha (fun v => s8_isArch ha (by omega) (br_f (by decide) (s8_rgyes (n := 3) hn (by omega) ⟨fun _ => br_f (by decide) (br_f (by decide) (br_f (by decide) (s8_holdOf hF hRM hM ok (by omega) (fun v2 => ?_)))), fun z => absurd z (by decide)⟩)))))))
    exact ⟨rfl, fun _ => updL0 fo _, nA, nC, R, w, ok, hV0, hM, rfl, rfl, hT, hW, ⟨hRX, rs, rfl, hRM⟩, hN, hE, hH, hK⟩
theorem cat_ix {n c : Nat} (hn : n < 4) (hc : c < 8) : (((12 : Int32) + ((8 : Int32) * nI n)) + nI c) = nI (12 + 8 * n + c) := by
  rw [show (8 : Int32) * nI n = nI (8 * n) from pk_mul 8 n, show (12 : Int32) + nI (8 * n) = nI (12 + 8 * n) from nI_add 12 _, nI_add]
theorem ob_cat (hF : 5000 ≤ F) (fo : Nat → Int64) (p1 p2 : Int32) (h : Rel F x m) : p7_cat F p1 p2 x fo (fun r x' fo' => p8_cat F p1 p2 am m (fun r' m' => p8_thrown F m' (fun t m'' => t = r ∧ (r = 0 → fo' (0 : Int32).toNatClampNeg = r'.toInt64) ∧ Rel F x' m''))) := by
  obtain ⟨nA, nC, R, w, ok, hV, hM, eA, eC, hT, hW, hU, hN, hE, hH, hK⟩ := h
  have hA := ok.1
  have hC := ok.2.1
  obtain ⟨hRX, rs, ers, hRM⟩ := id hU
  unfold p7_cat p_L_cat p_X7_cat p8_cat p_X8_cat p_X8_cat_22
  rw [eC, ers, hV.2.1]
  have hV0 := hV
  rw [hV.2.1] at hV0
  rcases arg3 p1 (n := nC) (by omega) with h | ⟨c, hc, rfl⟩
  · exact s6_noCat h (br_t rfl (s8_noCat h (by omega) (br_t rfl ⟨rfl, fun z => absurd z (by decide), nA, nC, R, w, ok, hV0, hM, eA, rfl, hT, hW, ⟨hRX, rs, rfl, hRM⟩, hN, hE, hH, hK⟩)))
  refine s6_hasCat hC hc (br_f (by decide) ?_)
  rcases arg3 p2 (n := 4 + 1) (by omega) with h | ⟨n, hn, rfl⟩
  · refine br_f (ne_lit (c := 0) h (by omega) (by omega)) (br_f (ne_lit (c := 1) h (by omega) (by omega)) (br_f (ne_lit (c := 2) h (by omega) (by omega)) (br_f (ne_lit (c := 3) h (by omega) (by omega)) (br_f (ne_lit (c := 4) h (by omega) (by omega)) ?_))))
    exact s8_isCat hc (by omega) (br_f (by decide) (s8_rgno (n := 4) h (by omega) ⟨fun z => absurd rfl z, fun _ => ⟨rfl, fun z => absurd z (by decide), nA, nC, R, w, ok, hV0, hM, eA, rfl, hT, hW, ⟨hRX, rs, rfl, hRM⟩, hN, hE, hH, hK⟩⟩))
  have i8 : vp_in (nI c) 8 := pk_in c 8 (by omega)
  rw [nI_clamp (n := c) (by omega), hV.2.2.2.2.2.2.2.1 c (by omega), hV.2.2.2.2.2.2.2.2.1 c (by omega), hV.2.2.2.2.2.2.2.2.2.1 c (by omega), hV.2.2.2.2.2.2.2.2.2.2 c (by omega)]
  have vin : ∀ n, n < 4 → vp_in (((12 : Int32) + ((8 : Int32) * nI n)) + nI c) 47 := fun n hn => by
    rw [cat_ix hn (by omega)]; exact pk_in (12 + 8 * n + c) 47 (by omega)
  have vval : ∀ n, n < 4 → m.f_now (((12 : Int32) + ((8 : Int32) * nI n)) + nI c).toNatClampNeg = w (12 + 8 * n + c) := fun n hn => by
    rw [cat_ix hn (by omega), nI_clamp (n := 12 + 8 * n + c) (by omega)]; exact hM _ (by omega)
  rcases co_dec (N := 5) (P := fun i => i = 0 ∨ i = 1 ∨ i = 2 ∨ i = 3 ∨ i = 4) (by decide) hn with rfl | rfl | rfl | rfl | rfl
  · refine br_t rfl ⟨i8, s8_isCat hc (by omega) (br_f (by decide) (s8_rgyes (n := 4) hn (by omega) ⟨fun _ => br_f (by decide) ⟨vin 0 (by omega), ?_⟩, fun z => absurd z (by decide)⟩))⟩
    exact ⟨rfl, fun _ => (updL0 fo _).trans (congrArg Int32.toInt64 (vval 0 (by omega)).symm), nA, nC, R, w, ok, hV0, hM, eA, rfl, hT, hW, ⟨hRX, rs, rfl, hRM⟩, hN, hE, hH, hK⟩
  · refine br_f (by decide) (br_t rfl ⟨i8, s8_isCat hc (by omega) (br_f (by decide) (s8_rgyes (n := 4) hn (by omega) ⟨fun _ => br_f (by decide) ⟨vin 1 (by omega), ?_⟩, fun z => absurd z (by decide)⟩))⟩)
    exact ⟨rfl, fun _ => (updL0 fo _).trans (congrArg Int32.toInt64 (vval 1 (by omega)).symm), nA, nC, R, w, ok, hV0, hM, eA, rfl, hT, hW, ⟨hRX, rs, rfl, hRM⟩, hN, hE, hH, hK⟩
  · refine br_f (by decide) (br_f (by decide) (br_t rfl ⟨i8, s8_isCat hc (by omega) (br_f (by decide) (s8_rgyes (n := 4) hn (by omega) ⟨fun _ => br_f (by decide) ⟨vin 2 (by omega), ?_⟩, fun z => absurd z (by decide)⟩))⟩))
    exact ⟨rfl, fun _ => (updL0 fo _).trans (congrArg Int32.toInt64 (vval 2 (by omega)).symm), nA, nC, R, w, ok, hV0, hM, eA, rfl, hT, hW, ⟨hRX, rs, rfl, hRM⟩, hN, hE, hH, hK⟩
  · refine br_f (by decide) (br_f (by decide) (br_f (by decide) (br_t rfl ⟨i8, s8_isCat hc (by omega) (br_f (by decide) (s8_rgyes (n := 4) hn (by omega) ⟨fun _ => br_f (by decide) ⟨vin 3 (by omega), ?_⟩, fun z => absurd z (by decide)⟩))⟩)))
    exact ⟨rfl, fun _ => (updL0 fo _).trans (congrArg Int32.toInt64 (vval 3 (by omega)).symm), nA, nC, R, w, ok, hV0, hM, eA, rfl, hT, hW, ⟨hRX, rs, rfl, hRM⟩, hN, hE, hH, hK⟩
  · refine br_f (by decide) (br_f (by decide) (br_f (by decide) (br_f (by decide) (br_t rfl (s6_purrOf hF hRX hV0 ok hc (fun v => s8_isCat hc (by omega) (br_f (by decide) (s8_rgyes (n := 4) hn (by omega) ⟨fun _ => br_t (by decide) (s8_purrOf hF hRM hM ok hc (fun v2 => ?_)), fun z => absurd z (by decide)⟩))))))))
    exact ⟨rfl, fun _ => updL0 fo _, nA, nC, R, w, ok, hV0, hM, eA, rfl, hT, hW, ⟨hRX, rs, rfl, hRM⟩, hN, hE, hH, hK⟩
/-! sheet -/
def trK (kind v : Int32) : Int32 := if kind = 0 then v.toInt8.toInt32 else if kind = 1 then v.toInt16.toInt32 else v
def shE (kind p2 f st : Int32) (a : Nat) : Int32 := if kind = 3 then 0 else if nI a < p2 then cl9 (trK kind (f + nI a * st)) else 0
def shW (kind p2 f st : Int32) (w : Nat → Int32) (n : Nat) : Nat → Int32 := fun i => if i < n then shE kind p2 f st i else w i
theorem shE_dg (kind p2 f st : Int32) (a : Nat) : dg (shE kind p2 f st a) := by
  unfold shE
  split
  · exact ⟨0, by omega, rfl⟩
  · split
    · exact cl9_dg _
    · exact ⟨0, by omega, rfl⟩
theorem shW_OK {nA nC : Nat} {w : Nat → Int32} {kind p2 f st : Int32} (ok : OK nA nC w) : OK nA nC (shW kind p2 f st w nA) := by
  obtain ⟨h1, h2, h3, h4, h5, h7, h8⟩ := ok
  refine ⟨h1, h2, ?_, ?_, ?_, ?_, ?_⟩
  · intro i hi; unfold shW; split
    · exact shE_dg _ _ _ _ _
    · exact h3 i hi
  · intro c hc; unfold shW; rw [if_neg (by omega)]; exact h4 c hc
  · unfold shW; rw [if_neg (by omega)]; exact h5
  · intro i hi hi2; unfold shW; rw [if_neg (by omega)]; exact h7 i hi hi2
  · intro i hi hi2; unfold shW; rw [if_neg (by omega)]; exact h8 i hi hi2
theorem shW_s {kind p2 f st : Int32} {w : Nat → Int32} {n i : Nat} : shW kind p2 f st w (n + 1) i = if i = n then shE kind p2 f st n else shW kind p2 f st w n i := by
  unfold shW
  by_cases e : i = n
  · subst e; rw [if_pos (by omega), if_pos rfl]
  · rw [if_neg e]
    by_cases q : i < n
    · rw [if_pos q, if_pos (by omega)]
    · rw [if_neg q, if_neg (by omega)]
theorem s7_entry {kind v : Int32} {Post : Int32 → Prop} (k : Post (cl9 (trK kind v))) : p_X7_entryOf F kind v Post := by
  unfold p_X7_entryOf p_X7_entryOf_20 p_X7_asDigit
  unfold trK at k
  refine ⟨fun z => ⟨fun z2 => ?_, fun z2 => ?_⟩, fun z => ?_⟩
  · rw [if_neg z, if_neg z2] at k; exact k
  · rw [if_neg z, if_pos z2] at k; exact k
  · rw [if_pos z] at k; exact k
theorem ob_sheet (hF : 5000 ≤ F) (p1 p2 p3 p4 : Int32) (h : Rel F x m) : p7_sheet F p1 p2 p3 p4 x (fun r x' => p8_sheet F p1 p2 p3 p4 m (fun r' m' => r = r' ∧ Rel F x' m')) := by
  obtain ⟨nA, nC, R, w, ok, hV, hM, eA, eC, hT, hW, hU, hN, hE, hH, hK⟩ := h
  have hA := ok.1
  unfold p7_sheet p_X7_sheet p8_sheet p_X8_sheet
  rw [eA]
  rcases arg3 p1 (n := 3 + 1) (by omega) with h | ⟨kd, hkd, e⟩
  · refine ⟨fun _ => ?_, fun z => br_t (lt_of_le1 (n := 3) (h.resolve_left z) (by omega)) ?_⟩ <;> exact s8_rgno (n := 3) h (by omega) (br_t rfl ⟨rfl, nA, nC, R, w, ok, hV, hM, rfl, eC, hT, hW, hU, hN, hE, hH, hK⟩)
  have in03 : ∀ Post : Int32 → Prop, Post 1 → p_X8_in F p1 0 3 Post := fun Post kk => by rw [e]; exact s8_rgyes (n := 3) hkd (by omega) kk
  refine br_f (by rw [e]; exact nI_pos (by omega)) (br_f (by rw [e]; exact nI_nlt (b := kd) (a := 3) (by omega) (by omega)) ?_)
  by_cases q6 : p2 ≤ 6
  · have e3 : (3 ≤ p1) ↔ p1 = 3 := by
      rw [e]
      constructor
      · intro z
        have : 3 ≤ kd := (nI_leI (a := 3) (by omega) (by omega)).1 z
        rw [show kd = 3 from by omega]; rfl
      · intro z; rw [z]; decide
    -- the class's loop
    have cl : ∀ (s0 : Int32) (Post : Int32 → (Nat → Int32) → Prop), (∀ j, j < nA → (s0 ≤ nI j ↔ (p1 = 3 ∨ ¬ nI j < p2))) → (∀ l2, AV nA nC (shW p1 p2 p3 p4 w nA) x.x_now_arches x.x_now_cats x.x_now_store x.x_now_hour x.x_now_drops l2 x.f_now_sag x.f_now_joy x.f_now_bowl x.f_now_grief x.f_now_place → (¬ p1 = 3 → Post (loadS nA (shW p1 p2 p3 p4 w nA)) l2) ∧ (p1 = 3 → Post (-3) l2)) → p_X7_sheet_39 F p1 p3 p4 x.x_now_arches x.f_now_load Post s0 := by
      intro s0 Post hs0 kk
      unfold p_X7_sheet_39
      refine up_loop (fun n i s => p_X7_sheet_44 F p1 p3 p4 x.x_now_arches s0 Post n i s) (fun j s => ∀ i, i < 6 → s i = shW p1 p2 p3 p4 w j i) nA ?_ ?_ F x.f_now_load 0 (fun i hi => by unfold shW; rw [if_neg (by omega)]; exact hV.2.2.2.2.2.1 i hi) (by omega) (by omega)
      · intro n s hs
        show p_X7_sheet_44 F p1 p3 p4 x.x_now_arches s0 Post (n + 1) (nI nA) s
        have av : AV nA nC (shW p1 p2 p3 p4 w nA) x.x_now_arches x.x_now_cats x.x_now_store x.x_now_hour x.x_now_drops s x.f_now_sag x.f_now_joy x.f_now_bowl x.f_now_grief x.f_now_place := by
          obtain ⟨e1, e2, e3, e4, e5, h1, h2, h3, h4, h5, h6⟩ := hV
          refine ⟨e1, e2, ?_, ?_, ?_, hs, ?_, ?_, ?_, ?_, ?_⟩
          · unfold shW; rw [if_neg (by omega)]; exact e3
          · unfold shW; rw [if_neg (by omega)]; exact e4
          · unfold shW; rw [if_neg (by omega)]; exact e5
          · intro i hi; unfold shW; rw [if_neg (by omega)]; exact h2 i hi
          · intro i hi; unfold shW; rw [if_neg (by omega)]; exact h3 i hi
          · intro i hi; unfold shW; rw [if_neg (by omega)]; exact h4 i hi
          · intro i hi; unfold shW; rw [if_neg (by omega)]; exact h5 i hi
          · intro i hi; unfold shW; rw [if_neg (by omega)]; exact h6 i hi
        rw [p_X7_sheet_44_s]
        exact br_t (by rw [hV.1]; exact nI_le (Nat.le_refl _) (by omega)) ⟨fun z => s6_allLoads hF av hA ((kk s av).1 z), fun z => (kk s av).2 z⟩
      · intro n j s hj hs ih
        show p_X7_sheet_44 F p1 p3 p4 x.x_now_arches s0 Post (n + 1) (nI j) s
        rw [p_X7_sheet_44_s]
        unfold p_X7_sheet_87
        rw [nI_clamp (n := j) (by omega)]
        have i6 : vp_in (nI j) 6 := pk_in j 6 (by omega)
        have go : ∀ v, v = shE p1 p2 p3 p4 j → p_X7_sheet_44 F p1 p3 p4 x.x_now_arches s0 Post n (nI j + 1) (upd s j v) := by
          intro v ev
          refine ih _ (fun i hi => ?_)
          rw [upd_i, shW_s, ev]
          by_cases e : i = j
          · rw [if_pos e, if_pos e]
          · rw [if_neg e, if_neg e]; exact hs i hi
        refine br_f (by rw [hV.1]; exact nI_ge hj (by omega)) ⟨fun z => ⟨i6, go _ ?_⟩, fun z => s7_entry ⟨i6, go _ ?_⟩⟩
        · unfold shE
          rcases (hs0 j hj).1 z with c | c
          · rw [if_pos c]
          · rw [if_neg c]; split <;> rfl
        · unfold shE
          have z' : ¬ (p1 = 3 ∨ ¬ nI j < p2) := fun y => z ((hs0 j hj).2 y)
          rw [if_neg (fun y => z' (Or.inl y)), if_pos (Classical.byContradiction fun y => z' (Or.inr y))]
    -- the model's loop
    have md : ∀ Post : Int32 → (Int32 × (Nat → Int32)) → Prop, (∀ f2, MV (shW p1 p2 p3 p4 w nA) f2 → (¬ p1 = 3 → Post (loadS nA (shW p1 p2 p3 p4 w nA)) (0, f2)) ∧ (p1 = 3 → Post (-3) (0, f2))) → p_X8_sheet_34 F p1 p2 p3 p4 (nI nA) m.f_now Post := by
      intro Post kk
      unfold p_X8_sheet_34
      refine up_loop (fun n i (s : Int32 × (Nat → Int32)) => p_X8_sheet_40 F p1 p2 p4 (nI nA) Post n i s.1 s.2) (fun j s => s.1 = p3 + nI j * p4 ∧ MV (shW p1 p2 p3 p4 w j) s.2) nA ?_ ?_ F (p3, m.f_now) 0 ⟨by show p3 = p3 + 0 * p4; rw [Int32.zero_mul, Int32.add_zero], fun i hi => by unfold shW; rw [if_neg (by omega)]; exact hM i hi⟩ (by omega) (by omega)
      · rintro n ⟨v, s⟩ ⟨_, hs⟩
        show p_X8_sheet_40 F p1 p2 p4 (nI nA) Post (n + 1) (nI nA) v s
        rw [p_X8_sheet_40_s]
        exact br_t (nI_le (Nat.le_refl _) (by omega)) ⟨fun z => t8_loads hF hs hA ((kk s hs).1 z), fun z => (kk s hs).2 z⟩
      · rintro n j ⟨v, s⟩ hj ⟨hv, hs⟩ ih
        have hv : v = _ := hv
        subst hv
        have hs' : MV (shW p1 p2 p3 p4 w j) s := hs
        show p_X8_sheet_40 F p1 p2 p4 (nI nA) Post (n + 1) (nI j) (p3 + nI j * p4) s
        rw [p_X8_sheet_40_s]
        have i47 : vp_in (nI j) 47 := pk_in j 47 (by omega)
        have go : ∀ v, v = shE p1 p2 p3 p4 j → p_X8_sheet_106 F p4 (nI j) (p3 + nI j * p4) s (p_X8_sheet_40 F p1 p2 p4 (nI nA) Post n) Post v := by
          intro v ev
          unfold p_X8_sheet_106
          rw [nI_clamp (n := j) (by omega)]
          refine ⟨i47, ih (_, _) ⟨?_, fun i hi => ?_⟩⟩
          · show p3 + nI j * p4 + p4 = p3 + nI (j + 1) * p4
            rw [nI_succ, Int32.add_mul, Int32.one_mul, Int32.add_assoc]
          · show upd s j v i = _
            rw [upd_i, shW_s, ev]
            by_cases e : i = j
            · rw [if_pos e, if_pos e]
            · rw [if_neg e, if_neg e]; exact hs' i hi
        have g72 : ∀ t, t = trK p1 (p3 + nI j * p4) → p_X8_sheet_72 F p1 p2 p4 (nI j) (p3 + nI j * p4) s (p_X8_sheet_40 F p1 p2 p4 (nI nA) Post n) Post t := by
          intro t et
          unfold p_X8_sheet_72 p_X8_sheet_91
          refine ⟨fun z => go _ ?_, fun z => ⟨fun z2 => go _ ?_, fun z2 => go _ ?_⟩⟩
          · unfold shE; rw [if_pos z]
          · unfold shE; rw [if_neg z, if_pos z2, ← et]; rfl
          · unfold shE; rw [if_neg z, if_neg z2]
        refine br_f (nI_ge hj (by omega)) ⟨fun z => ⟨fun z2 => g72 _ ?_, fun z2 => g72 _ ?_⟩, fun z => g72 _ ?_⟩
        · unfold trK; rw [if_neg z, if_neg z2]
        · unfold trK; rw [if_neg z, if_pos z2]
        · unfold trK; rw [if_pos z]
    refine br_t q6 ?_
    unfold p_X7_sheet_29
    by_cases q3 : p1 = 3
    · refine br_t q3 ⟨fun z => absurd q3 z, fun _ => cl 0 _ (fun j hj => ⟨fun _ => Or.inl q3, fun _ => nI_pos' (by omega)⟩) (fun l2 av => ⟨fun z => absurd q3 z, fun _ => ?_⟩)⟩
      refine in03 _ (br_f (by decide) (br_t q6 (br_t (e3.2 q3) (md _ (fun f2 mv => ⟨fun z => absurd q3 z, fun _ => ?_⟩)))))
      exact ⟨rfl, nA, nC, R, _, shW_OK ok, av, mv, rfl, eC, hT, hW, hU, hN, hE, hH, hK⟩
    · refine br_f q3 ⟨fun q0 => ⟨fun _ => cl p2 _ (fun j hj => ⟨fun z => Or.inr (fun y => nle_of_lt y z), fun z => ?_⟩) (fun l2 av => ⟨fun _ => ?_, fun z => absurd z q3⟩), fun z => absurd z q3⟩, fun q0 => ?_⟩
      · rcases z with z | z
        · exact absurd z q3
        · rw [Int32.lt_iff_toInt_lt] at z; rw [Int32.le_iff_toInt_le]; omega
      · refine in03 _ (br_f (by decide) (br_t q6 (br_f (fun z => q3 (e3.1 z)) (br_t q0 (md _ (fun f2 mv => ⟨fun _ => ?_, fun z => absurd z q3⟩))))))
        exact ⟨rfl, nA, nC, R, _, shW_OK ok, av, mv, rfl, eC, hT, hW, hU, hN, hE, hH, hK⟩
      · refine in03 _ (br_f (by decide) (br_t q6 (br_f (fun z => q3 (e3.1 z)) (br_f q0 ?_))))
        exact ⟨rfl, nA, nC, R, w, ok, hV, hM, rfl, eC, hT, hW, hU, hN, hE, hH, hK⟩
  · refine br_f q6 (in03 _ (br_f (by decide) (br_f q6 ?_)))
    exact ⟨rfl, nA, nC, R, w, ok, hV, hM, rfl, eC, hT, hW, hU, hN, hE, hH, hK⟩
end
