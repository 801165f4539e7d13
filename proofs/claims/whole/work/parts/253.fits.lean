/-! ===== calls: fits ===== -/
def pN (R : (Nat → Int32) → Int32) (nC : Nat) (w : Nat → Int32) (c : Nat) : Nat := (pO R nC w c).toNatClampNeg
theorem pN_e (R : (Nat → Int32) → Int32) (nC : Nat) (w : Nat → Int32) (c : Nat) : pO R nC w c = nI (pN R nC w c) ∧ pN R nC w c ≤ 9 := by
  obtain ⟨k, hk, e⟩ := pI_dg R w c (w (36 + c)).toNatClampNeg (bcnt (nI (thN nC w (w (36 + c)))) - 1)
  have e : pO R nC w c = nI k := e
  unfold pN
  rw [e, nI_clamp (n := k) (by omega)]
  exact ⟨rfl, hk⟩
/-- HOLD of an arch without the cat sl (100: nobody) -/
def hwN (R : (Nat → Int32) → Int32) (nC : Nat) (w : Nat → Int32) (a sl : Nat) : Nat → Nat
  | 0 => 0
  | n + 1 => hwN R nC w a sl n + (if w (36 + n) = nI a ∧ n ≠ sl then pN R nC w n else 0)
theorem hwN_le (R : (Nat → Int32) → Int32) (nC : Nat) (w : Nat → Int32) (a sl : Nat) : ∀ n, hwN R nC w a sl n ≤ 9 * n
  | 0 => Nat.le_refl _
  | n + 1 => by
    have h1 := hwN_le R nC w a sl n
    have h2 := (pN_e R nC w n).2
    rw [hwN]; split <;> omega
theorem hwN_hS {R : (Nat → Int32) → Int32} {nC a : Nat} {w : Nat → Int32} (ha : a < 6) : ∀ n, n ≤ 100 → hS R nC w a n = nI (hwN R nC w a 100 n)
  | 0, _ => rfl
  | n + 1, hn => by
    rw [hS, hwN, hwN_hS ha n (by omega), ← nI_add]
    congr 1
    by_cases q : w (36 + n) = nI a
    · rw [if_pos q, if_pos ⟨q, by omega⟩, ← (pN_e R nC w n).1, pO_at q ha]
    · rw [if_neg q, if_neg (fun z => q z.1)]; rfl
theorem hwN_sub {R : (Nat → Int32) → Int32} {nC a sl : Nat} {w : Nat → Int32} : ∀ n, n ≤ 100 → hwN R nC w a 100 n = hwN R nC w a sl n + (if sl < n ∧ w (36 + sl) = nI a then pN R nC w sl else 0)
  | 0, _ => by rw [if_neg (by omega)]; rfl
  | n + 1, hn => by
    rw [hwN, hwN, hwN_sub (sl := sl) n (by omega)]
    have e1 : (w (36 + n) = nI a ∧ n ≠ 100) ↔ w (36 + n) = nI a := ⟨fun z => z.1, fun z => ⟨z, by omega⟩⟩
    by_cases q : n = sl
    · subst q
      rw [if_neg (show ¬ (w (36 + n) = nI a ∧ n ≠ n) from fun z => z.2 rfl), if_neg (show ¬ (n < n ∧ w (36 + n) = nI a) from fun z => absurd z.1 (by omega))]
      by_cases q2 : w (36 + n) = nI a
      · rw [if_pos (e1.2 q2), if_pos ⟨by omega, q2⟩]
      · rw [if_neg (fun z => q2 z.1), if_neg (fun z => q2 z.2)]
    · have e2 : (w (36 + n) = nI a ∧ n ≠ sl) ↔ w (36 + n) = nI a := ⟨fun z => z.1, fun z => ⟨z, q⟩⟩
      have e3 : (sl < n + 1 ∧ w (36 + sl) = nI a) ↔ (sl < n ∧ w (36 + sl) = nI a) := by constructor <;> (rintro ⟨z1, z2⟩; exact ⟨by omega, z2⟩)
      simp only [e1, e2, e3]
      exact Nat.add_right_comm _ _ _
def SL (sl : Nat) (s32 : Int32) : Prop := (sl < 8 ∧ s32 = nI sl) ∨ (sl = 100 ∧ s32 = -1)
theorem SL_eq {sl j : Nat} {s32 : Int32} (h : SL sl s32) (hj : j < 8) : nI j = s32 ↔ j = sl := by
  rcases h with ⟨h, rfl⟩ | ⟨rfl, rfl⟩
  · exact nI_eq (by omega) (by omega)
  · exact ⟨fun z => absurd z (m1_ne (by omega)), fun z => by omega⟩
/-- all that was felt -/
def ftB (R : (Nat → Int32) → Int32) (nC : Nat) (w : Nat → Int32) (g1 g2 : Nat → Int32) (sl : Nat) : Nat → Bool
  | 0 => true
  | n + 1 => ftB R nC w g1 g2 sl n && decide (nI (hwN R nC w (g1 n).toNatClampNeg sl nC) = g2 n)
theorem ftB_f {R : (Nat → Int32) → Int32} {nC : Nat} {w g1 g2 : Nat → Int32} {sl j : Nat} (h : ftB R nC w g1 g2 sl j = false) : ∀ d, ftB R nC w g1 g2 sl (j + d) = false
  | 0 => h
  | d + 1 => by
    show (ftB R nC w g1 g2 sl (j + d) && _) = false
    rw [ftB_f h d]; rfl
def ftN (R : (Nat → Int32) → Int32) (nC : Nat) (w g1 g2 : Nat → Int32) (k : Nat) : Nat := bN (fun c => ftB R nC w g1 g2 c k) nC
section
variable {F nA nC k rs q : Nat} {R : (Nat → Int32) → Int32} {w f rule asked g1 g2 : Nat → Int32} {rd : Value} {ln tp at0 wr ia s32 : Int32} {place purrs f1 f2 : Nat → Int32}
theorem s7_holdW {a sl : Nat} {Post : Int32 → Prop} (hF : 5000 ≤ F) (hC : nC ≤ 8) (hp : ∀ i, i < 8 → place i = w (36 + i)) (hpu : ∀ i, i < nC → purrs i = pO R nC w i) (hs : SL sl s32) (kk : Post (nI (hwN R nC w a sl nC))) : p_X7_holdWithout F (nI a) s32 (nI nC) place purrs Post := by
  unfold p_X7_holdWithout
  refine up_loop (fun n i s => p_X7_holdWithout_5 F (nI a) s32 (nI nC) place purrs Post n i s) (fun j s => s = nI (hwN R nC w a sl j)) nC ?_ ?_ F 0 0 rfl (by omega) (by omega)
  · intro n s hs
    subst hs
    show p_X7_holdWithout_5 F (nI a) s32 (nI nC) place purrs Post (n + 1) (nI nC) _
    rw [p_X7_holdWithout_5_s]
    exact br_t (nI_le (Nat.le_refl _) (by omega)) kk
  · intro n j s hj hs' ih
    subst hs'
    show p_X7_holdWithout_5 F (nI a) s32 (nI nC) place purrs Post (n + 1) (nI j) _
    rw [p_X7_holdWithout_5_s, nI_clamp (n := j) (by omega), hp j (by omega), SL_eq hs (by omega), hpu j hj]
    unfold p_X7_holdWithout_48 p_X7_holdWithout_49
    have i8 : vp_in (nI j) 8 := pk_in j 8 (by omega)
    refine br_f (nI_ge hj (by omega)) ⟨i8, fun z => ih _ ?_, fun z => ⟨fun z2 => ih _ ?_, fun z2 => ⟨i8, ih _ ?_⟩⟩⟩
    · rw [hwN, if_neg (fun y => z y.1)]; exact Int32.add_zero _
    · rw [hwN, if_neg (fun y => y.2 z2)]; exact Int32.add_zero _
    · rw [hwN, if_pos ⟨z, z2⟩, (pN_e R nC w j).1, nI_add]
theorem s8_holdW {a sl : Nat} {Post : Int32 → (Value × Int32 × Int32 × Int32 × Int32 × Int32 × (Nat → Int32)) → Prop} (hF : 5000 ≤ F) (hR : RM F R rs rule) (hM : MV w f) (ok : OK nA nC w) (ha : a < 6) (hs : SL sl s32) (hsl : sl < nC ∨ sl = 100) (kk : ∀ u, Post (nI (hwN R nC w a sl nC)) u) : p_X8_holdWithout F (nI a) s32 (nI nC) rd ln tp at0 wr q (nI rs) ia f asked rule Post := by
  have hC := ok.2.1
  unfold p_X8_holdWithout
  refine s8_holdOf hF hR hM ok ha (fun u => ?_)
  have e0 : hO R nC w a = nI (hwN R nC w a 100 nC) := hwN_hS ha nC (by omega)
  have es := hwN_sub (R := R) (nC := nC) (a := a) (sl := sl) (w := w) nC (by omega)
  rw [e0, es]
  have z0 : ∀ v : Int32, v - 0 = v := fun v => Int32.sub_zero v
  rcases hs with ⟨h8, rfl⟩ | ⟨rfl, rfl⟩
  · have hsl : sl < nC := hsl.resolve_right (by omega)
    refine br_f (m1_ne (by omega)) ⟨ci36 (by omega), ?_⟩
    rw [cc36 (by omega), hM (36 + sl) (by omega)]
    refine ⟨fun z => ?_, fun z => s8_purrOf hF hR hM ok hsl (fun v => ?_)⟩
    · rw [if_neg (fun y => z y.2), z0]; exact kk _
    · rw [if_pos ⟨hsl, z⟩, (pN_e R nC w sl).1, pk_sub (by omega), Nat.add_sub_cancel]; exact kk _
  · refine br_t rfl ?_
    rw [if_neg (by omega), z0]; exact kk _
theorem s7_fitsW {sl : Nat} {sz : Int32} {Post : Int32 → Prop} (hF : 5000 ≤ F) (hC : nC ≤ 8) (hk : k ≤ 10) (hp : ∀ i, i < 8 → place i = w (36 + i)) (hpu : ∀ i, i < nC → purrs i = pO R nC w i) (hs : SL sl s32) (ez : sz = nI k) (hf : ∀ i, i < k → f1 i = g1 i ∧ f2 i = g2 i ∧ ∃ a, a < nA ∧ g1 i = nI a) (hA : nA ≤ 6) (kk : Post (if ftB R nC w g1 g2 sl k then 1 else 0)) : p_X7_fitsWithout F s32 sz f1 (nI nC) place purrs f2 Post := by
  subst ez
  refine up_loop (fun n i (_ : Unit) => p_X7_fitsWithout_2 F s32 (nI k) f1 (nI nC) place purrs f2 Post n i) (fun j _ => ftB R nC w g1 g2 sl j = true) k ?_ ?_ F () 0 rfl (by omega) (by omega)
  · intro n _ h
    show p_X7_fitsWithout_2 F s32 (nI k) f1 (nI nC) place purrs f2 Post (n + 1) (nI k)
    rw [p_X7_fitsWithout_2_s]
    rw [h] at kk
    exact br_t (nI_le (Nat.le_refl _) (by omega)) kk
  · intro n j _ hj h ih
    show p_X7_fitsWithout_2 F s32 (nI k) f1 (nI nC) place purrs f2 Post (n + 1) (nI j)
    obtain ⟨e1, e2, a, ha, ea⟩ := hf j hj
    rw [p_X7_fitsWithout_2_s, nI_clamp (n := j) (by omega), e1, e2, ea]
    have i10 : vp_in (nI j) 12 := pk_in j 12 (by omega)
    refine br_f (nI_ge hj (by omega)) ⟨i10, s7_holdW hF hC hp hpu hs ⟨i10, fun z => ih () ?_, fun z => ?_⟩⟩
    · rw [ftB, h, ea, nI_clamp (n := a) (by omega)]; simp [z]
    · have : ftB R nC w g1 g2 sl (j + 1) = false := by rw [ftB, h, ea, nI_clamp (n := a) (by omega)]; simp [z]
      have := ftB_f this (k - (j + 1))
      rw [show j + 1 + (k - (j + 1)) = k from by omega] at this
      rw [this] at kk
      exact kk
theorem s8_isFelt {sl : Nat} {mn : Int32} {Post : Int32 → (Value × Int32 × Int32 × Int32 × Int32 × Int32 × (Nat → Int32)) → Prop} (hF : 5000 ≤ F) (hR : RM F R rs rule) (hM : MV w f) (ok : OK nA nC w) (hk : k ≤ 10) (hs : SL sl s32) (hsl : sl < nC ∨ sl = 100) (ez : mn = nI k) (hf : ∀ i, i < k → f1 i = g1 i ∧ f2 i = g2 i ∧ ∃ a, a < nA ∧ g1 i = nI a) (kk : ∀ u, Post (if ftB R nC w g1 g2 sl k then 1 else 0) u) : p_X8_isFelt F s32 (nI nC) rd ln tp at0 wr q (nI rs) ia mn g1 f asked rule g2 Post := by
  have hA := ok.1
  subst ez
  refine up_loop (fun n i (s : Value × Int32 × Int32 × Int32 × Int32 × Int32 × (Nat → Int32)) => p_X8_isFelt_2 F s32 (nI nC) q (nI rs) (nI k) g1 f rule g2 Post n i s.1 s.2.1 s.2.2.1 s.2.2.2.1 s.2.2.2.2.1 s.2.2.2.2.2.1 s.2.2.2.2.2.2) (fun j _ => ftB R nC w g1 g2 sl j = true) k ?_ ?_ F (rd, ln, tp, at0, wr, ia, asked) 0 rfl (by omega) (by omega)
  · rintro n ⟨u1, u2, u3, u4, u5, u6, u7⟩ h
    have h : ftB R nC w g1 g2 sl k = true := h
    show p_X8_isFelt_2 F s32 (nI nC) q (nI rs) (nI k) g1 f rule g2 Post (n + 1) (nI k) u1 u2 u3 u4 u5 u6 u7
    rw [p_X8_isFelt_2_s]
    rw [h] at kk
    exact br_t (nI_le (Nat.le_refl _) (by omega)) (kk _)
  · rintro n j ⟨u1, u2, u3, u4, u5, u6, u7⟩ hj h ih
    have h : ftB R nC w g1 g2 sl j = true := h
    show p_X8_isFelt_2 F s32 (nI nC) q (nI rs) (nI k) g1 f rule g2 Post (n + 1) (nI j) u1 u2 u3 u4 u5 u6 u7
    obtain ⟨e1, e2, a, ha, ea⟩ := hf j hj
    rw [p_X8_isFelt_2_s, nI_clamp (n := j) (by omega), ea]
    have i10 : vp_in (nI j) 10 := pk_in j 10 (by omega)
    refine br_f (nI_ge hj (by omega)) ⟨i10, s8_holdW hF hR hM ok (by omega) hs hsl (fun v => ⟨i10, fun z => ih (_, _, _, _, _, _, _) ?_, fun z => ?_⟩)⟩
    · rw [ftB, h, ea, nI_clamp (n := a) (by omega)]; simp [z]
    · have : ftB R nC w g1 g2 sl (j + 1) = false := by rw [ftB, h, ea, nI_clamp (n := a) (by omega)]; simp [z]
      have := ftB_f this (k - (j + 1))
      rw [show j + 1 + (k - (j + 1)) = k from by omega] at this
      rw [this] at kk
      exact kk _
theorem s7_fitting {sz : Int32} {Post : Int32 → Prop} (hF : 5000 ≤ F) (hC : nC ≤ 8) (hk : k ≤ 10) (hp : ∀ i, i < 8 → place i = w (36 + i)) (hpu : ∀ i, i < nC → purrs i = pO R nC w i) (ez : sz = nI k) (hf : ∀ i, i < k → f1 i = g1 i ∧ f2 i = g2 i ∧ ∃ a, a < nA ∧ g1 i = nI a) (hA : nA ≤ 6) (kk : Post (nI (ftN R nC w g1 g2 k))) : p_X7_fittingCats F (nI nC) sz f1 place purrs f2 Post := by
  refine up_loop (fun n i s => p_X7_fittingCats_4 F (nI nC) sz f1 place purrs f2 Post n i s) (fun j s => s = nI (bN (fun c => ftB R nC w g1 g2 c k) j)) nC ?_ ?_ F 0 0 rfl (by omega) (by omega)
  · intro n s hs
    subst hs
    show p_X7_fittingCats_4 F (nI nC) sz f1 place purrs f2 Post (n + 1) (nI nC) _
    rw [p_X7_fittingCats_4_s]
    exact br_t (nI_le (Nat.le_refl _) (by omega)) kk
  · intro n j s hj hs ih
    subst hs
    show p_X7_fittingCats_4 F (nI nC) sz f1 place purrs f2 Post (n + 1) (nI j) _
    rw [p_X7_fittingCats_4_s]
    refine br_f (nI_ge hj (by omega)) (s7_fitsW (sl := j) hF hC hk hp hpu (Or.inl ⟨by omega, rfl⟩) ez hf hA ?_)
    unfold p_X7_fittingCats_31
    by_cases q : ftB R nC w g1 g2 j k = true
    · rw [if_pos q]; exact br_f (by decide) (ih _ (bN_ot (by omega) q))
    · rw [if_neg q]; exact br_t rfl (ih _ (bN_of (by omega) q))
theorem s8_grieving {mn : Int32} {Post : Int32 → (Value × Int32 × Int32 × Int32 × Int32 × Int32 × (Nat → Int32)) → Prop} (hF : 5000 ≤ F) (hR : RM F R rs rule) (hM : MV w f) (ok : OK nA nC w) (hk : k ≤ 10) (ez : mn = nI k) (hf : ∀ i, i < k → f1 i = g1 i ∧ f2 i = g2 i ∧ ∃ a, a < nA ∧ g1 i = nI a) (kk : ∀ u, Post (nI (ftN R nC w g1 g2 k)) u) : p_X8_grieving F (nI nC) rd ln tp at0 wr q (nI rs) ia mn g1 f asked rule g2 Post := by
  have hC := ok.2.1
  unfold p_X8_grieving
  refine up_loop (fun n i (s : Int32 × Value × Int32 × Int32 × Int32 × Int32 × Int32 × (Nat → Int32)) => p_X8_grieving_4 F (nI nC) q (nI rs) mn g1 f rule g2 Post n i s.1 s.2.1 s.2.2.1 s.2.2.2.1 s.2.2.2.2.1 s.2.2.2.2.2.1 s.2.2.2.2.2.2.1 s.2.2.2.2.2.2.2) (fun j s => s.1 = nI (bN (fun c => ftB R nC w g1 g2 c k) j)) nC ?_ ?_ F (0, rd, ln, tp, at0, wr, ia, asked) 0 rfl (by omega) (by omega)
  · rintro n ⟨s, u1, u2, u3, u4, u5, u6, u7⟩ hs
    have hs : s = _ := hs
    subst hs
    show p_X8_grieving_4 F (nI nC) q (nI rs) mn g1 f rule g2 Post (n + 1) (nI nC) _ u1 u2 u3 u4 u5 u6 u7
    rw [p_X8_grieving_4_s]
    exact br_t (nI_le (Nat.le_refl _) (by omega)) (kk _)
  · rintro n j ⟨s, u1, u2, u3, u4, u5, u6, u7⟩ hj hs ih
    have hs : s = _ := hs
    subst hs
    show p_X8_grieving_4 F (nI nC) q (nI rs) mn g1 f rule g2 Post (n + 1) (nI j) (nI (bN (fun c => ftB R nC w g1 g2 c k) j)) u1 u2 u3 u4 u5 u6 u7
    rw [p_X8_grieving_4_s]
    refine br_f (nI_ge hj (by omega)) (s8_isFelt (sl := j) hF hR hM ok hk (Or.inl ⟨by omega, rfl⟩) (Or.inl hj) ez hf (fun v => ?_))
    unfold p_X8_grieving_28
    by_cases q : ftB R nC w g1 g2 j k = true
    · rw [if_pos q]; exact br_f (by decide) (ih (_, _, _, _, _, _, _, _) (bN_ot (by omega) q))
    · rw [if_neg q]; exact br_t rfl (ih (_, _, _, _, _, _, _, _) (bN_of (by omega) q))
end
section
variable {F nA nC : Nat} {R : (Nat → Int32) → Int32} {w : Nat → Int32} {arches cats store hour drops sz top : Int32} {load sag joy bowl grief place steps stack purrs : Nat → Int32}
theorem s7_findPurrs {Post : (Int32 × (Nat → Int32) × (Nat → Int32)) → Prop} (hF : 5000 ≤ F) (hR : RX F R sz steps) (hV : AV nA nC w arches cats store hour drops load sag joy bowl grief place) (ok : OK nA nC w) (k : ∀ t st p2, (∀ i, i < nC → p2 i = pO R nC w i) → Post (t, st, p2)) : p_X7_findPurrs F arches cats hour sz top place steps stack sag load joy grief bowl purrs Post := by
  have hC := ok.2.1
  unfold p_X7_findPurrs
  refine up_loop (fun n i (s : Int32 × (Nat → Int32) × (Nat → Int32)) => p_X7_findPurrs_2 F arches cats hour sz place steps sag load joy grief bowl Post n i s.1 s.2.1 s.2.2) (fun j s => ∀ i, i < j → s.2.2 i = pO R nC w i) nC ?_ ?_ F (top, stack, purrs) 0 (fun i hi => absurd hi (by omega)) (by omega) (by omega)
  · rintro n ⟨t, st, p2⟩ h
    show p_X7_findPurrs_2 F arches cats hour sz place steps sag load joy grief bowl Post (n + 1) (nI nC) t st p2
    rw [p_X7_findPurrs_2_s]
    exact br_t (by rw [hV.2.1]; exact nI_le (Nat.le_refl _) (by omega)) (k _ _ _ h)
  · rintro n j ⟨t, st, p2⟩ hj h ih
    have h : ∀ i, i < j → p2 i = pO R nC w i := h
    show p_X7_findPurrs_2 F arches cats hour sz place steps sag load joy grief bowl Post (n + 1) (nI j) t st p2
    rw [p_X7_findPurrs_2_s]
    refine br_f (by rw [hV.2.1]; exact nI_ge hj (by omega)) (s6_purrOf hF hR hV ok hj (fun u => ⟨pk_in j 8 (by omega), ih (_, _, _) (fun i hi => ?_)⟩))
    rw [nI_clamp (n := j) (by omega)]
    show upd p2 j _ i = _
    rw [upd_i]
    by_cases e : i = j
    · rw [if_pos e, e]
    · rw [if_neg e]; exact h i (by omega)
end
section
variable {F : Nat} {x : XS} {m : MS} {am : MA}
theorem ob_fits (hF : 5000 ≤ F) (h : Rel F x m) : p7_fits F x (fun r x' => p8_fits F am m (fun r' m' => r = r' ∧ Rel F x' m')) := by
  obtain ⟨nA, nC, R, w, ok, hV, hM, eA, eC, hT, hW, hU, hN, hE, hH, hK⟩ := h
  have hA := ok.1
  have hC := ok.2.1
  obtain ⟨hRX, rs, ers, hRM⟩ := id hU
  obtain ⟨_, k, hk, k1, k2, hf⟩ := id hE
  have hp := hV.2.2.2.2.2.2.2.2.2.2
  unfold p7_fits p_X7_fits
  refine s7_findPurrs hF hRX hV ok (fun t st p2 hp2 => ?_)
  rw [hV.2.1]
  have hV0 := hV
  rw [hV.2.1] at hV0
  have sl0 : SL 100 (-1) := Or.inr ⟨rfl, rfl⟩
  refine s7_fitting hF hC hk hp hp2 k1 hf hA (s3_anew (s_bitCount (s3_add (RL_nil _) (by decide) (fun s5 f5 h5 => s7_fitsW hF hC hk hp hp2 sl0 k1 hf hA ?_))))
  unfold p_X7_fits_37 p8_fits p_X8_fits
  rw [eC, ers]
  by_cases q : ftB R nC w m.f_feltOf m.f_feltBy 100 k = true
  · rw [if_pos q]
    refine br_f (by decide) (s3_add h5 (by show 1 < 8; omega) (fun s6 f6 h6 => s8_grieving hF hRM hM ok hk k2 hf (fun u => s_bitCount (s8_tell (RL_nil _) (by decide) (fun s7 f7 h7 => s8_isFelt hF hRM hM ok hk sl0 (Or.inr rfl) k2 hf (fun v => ?_))))))
    unfold p_X8_fits_38
    rw [if_pos q]
    refine br_f (by decide) (s8_tell h7 (by show 1 < 16; omega) (fun s8 f8 h8 => ?_))
    exact ⟨rfl, nA, nC, R, w, ok, hV0, hM, eA, rfl, hT, RWr_of (by show 2 ≤ 8; omega) h6 h8, ⟨hRX, rs, rfl, hRM⟩, hN, hE, hH, hK⟩
  · rw [if_neg q]
    refine br_t rfl (s3_add h5 (by show 1 < 8; omega) (fun s6 f6 h6 => s8_grieving hF hRM hM ok hk k2 hf (fun u => s_bitCount (s8_tell (RL_nil _) (by decide) (fun s7 f7 h7 => s8_isFelt hF hRM hM ok hk sl0 (Or.inr rfl) k2 hf (fun v => ?_))))))
    unfold p_X8_fits_38
    rw [if_neg q]
    refine br_t rfl (s8_tell h7 (by show 1 < 16; omega) (fun s8 f8 h8 => ?_))
    exact ⟨rfl, nA, nC, R, w, ok, hV0, hM, eA, rfl, hT, RWr_of (by show 2 ≤ 8; omega) h6 h8, ⟨hRX, rs, rfl, hRM⟩, hN, hE, hH, hK⟩
end
