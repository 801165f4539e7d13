/-! ===== an hour, in the model ===== -/
def waR (R : (Nat → Int32) → Int32) (nC : Nat) (w : Nat → Int32) (j : Nat) : Nat → Int32 := fun i => if 6 ≤ i ∧ i < 6 + j then sg1 (w (i - 6)) (hO R nC w (i - 6)) (w i) else if i = 46 then drN (dct R nC w j) (w 46) else w i
def wcR (R : (Nat → Int32) → Int32) (nA nC : Nat) (w : Nat → Int32) (j : Nat) : Nat → Int32 := fun i => if 12 ≤ i ∧ i < 12 + j then jy1 (w i) (w (i + 8)) else if 20 ≤ i ∧ i < 20 + j then decN (w i) else if 28 ≤ i ∧ i < 28 + j then decN (w i) else waR R nC w nA i
section
variable {F nA nC m : Nat} {R : (Nat → Int32) → Int32} {w f rule asked hold : Nat → Int32} {rd : Value} {ln tp at0 wr ia dr : Int32} {q : Nat}
theorem waR_at {j i : Nat} (h : i < 6) (h2 : ¬ i < j) : waR R nC w j (6 + i) = w (6 + i) := by
  unfold waR; rw [if_neg (by omega), if_neg (by omega)]
theorem waR_ld {j i : Nat} (h : i < 6) : waR R nC w j i = w i := by
  unfold waR; rw [if_neg (by omega), if_neg (by omega)]
theorem waR_46 {j : Nat} (h : j ≤ 6) : waR R nC w j 46 = drN (dct R nC w j) (w 46) := by
  unfold waR; rw [if_neg (by omega), if_pos rfl]
theorem waR_c {j i : Nat} (h : j ≤ 6) (h1 : 12 ≤ i) (h2 : i < 46) : waR R nC w j i = w i := by
  unfold waR; rw [if_neg (by omega), if_neg (by omega)]
theorem s8_hourC {Post : (Value × Int32 × Int32 × Int32 × Int32 × Int32 × Int32 × (Nat → Int32) × (Nat → Int32) × (Nat → Int32)) → Prop} (hF : 5000 ≤ F) (hA : nA ≤ 6) (hC : nC ≤ 8) (hf : MV (waR R nC w nA) f) (k : ∀ f2, MV (goH R nA nC w) f2 → Post (rd, ln, tp, at0, wr, ia, dr, f2, asked, hold)) : p_X8_goHour_141 F (nI nC) 47 rd ln tp at0 wr ia asked hold dr Post F 0 f := by
  refine up_loop (fun n i s => p_X8_goHour_141 F (nI nC) 47 rd ln tp at0 wr ia asked hold dr Post n i s) (fun j s => MV (wcR R nA nC w j) s) nC ?_ ?_ F f 0 ?_ (by omega) (by omega)
  · intro n s hs
    show p_X8_goHour_141 F (nI nC) 47 rd ln tp at0 wr ia asked hold dr Post (n + 1) (nI nC) s
    rw [p_X8_goHour_141_s]
    refine pk_le nC nC (fun _ => ⟨pk_in 45 47 (by omega), pk_in 45 47 (by omega), k _ ?_⟩) (fun h => absurd h (by omega))
    intro i hi
    show upd s 45 (s 45 + 1) i = _
    rw [upd_i]
    have e45 : s 45 = w 45 := by
      rw [hs 45 (by omega)]; unfold wcR
      rw [if_neg (by omega), if_neg (by omega), if_neg (by omega), waR_c hA (by omega) (by omega)]
    by_cases e : i = 45
    · subst e; rw [if_pos rfl, e45]; rfl
    · rw [if_neg e, hs i hi]
      unfold wcR
      rcases Nat.lt_or_ge i 6 with q1 | q1
      · rw [if_neg (by omega), if_neg (by omega), if_neg (by omega), waR_ld q1, goH_ld q1]
      rcases Nat.lt_or_ge i 12 with q2 | q2
      · obtain ⟨j, rfl⟩ : ∃ j, i = 6 + j := ⟨i - 6, by omega⟩
        rw [if_neg (by omega), if_neg (by omega), if_neg (by omega), goH_sg (by omega)]
        unfold waR
        by_cases e2 : j < nA
        · rw [if_pos (by omega), if_pos e2, show 6 + j - 6 = j from by omega]
        · rw [if_neg (by omega), if_neg e2, if_neg (by omega)]
      rcases Nat.lt_or_ge i 20 with q3 | q3
      · obtain ⟨j, rfl⟩ : ∃ j, i = 12 + j := ⟨i - 12, by omega⟩
        rw [goH_jy (by omega)]
        by_cases e2 : j < nC
        · rw [if_pos (by omega), if_pos e2, show 12 + j + 8 = 20 + j from by omega]
        · rw [if_neg (by omega), if_neg (by omega), if_neg (by omega), if_neg e2, waR_c hA (by omega) (by omega)]
      rcases Nat.lt_or_ge i 28 with q4 | q4
      · obtain ⟨j, rfl⟩ : ∃ j, i = 20 + j := ⟨i - 20, by omega⟩
        rw [goH_bw (by omega), if_neg (by omega)]
        by_cases e2 : j < nC
        · rw [if_pos (by omega), if_pos e2]
        · rw [if_neg (by omega), if_neg (by omega), if_neg e2, waR_c hA (by omega) (by omega)]
      rcases Nat.lt_or_ge i 36 with q5 | q5
      · obtain ⟨j, rfl⟩ : ∃ j, i = 28 + j := ⟨i - 28, by omega⟩
        rw [goH_gr (by omega), if_neg (by omega), if_neg (by omega)]
        by_cases e2 : j < nC
        · rw [if_pos (by omega), if_pos e2]
        · rw [if_neg (by omega), if_neg e2, waR_c hA (by omega) (by omega)]
      rw [if_neg (by omega), if_neg (by omega), if_neg (by omega)]
      rcases Nat.lt_or_ge i 45 with q6 | q6
      · obtain ⟨j, rfl⟩ : ∃ j, i = 36 + j := ⟨i - 36, by omega⟩
        rw [goH_pl (by omega), waR_c hA (by omega) (by omega)]
      · have : i = 46 := by omega
        subst this
        rw [goH_dr, waR_46 hA]
  · intro n j s hj hs ih
    show p_X8_goHour_141 F (nI nC) 47 rd ln tp at0 wr ia asked hold dr Post (n + 1) (nI j) s
    have e12 : s (12 + j) = w (12 + j) := by
      rw [hs (12 + j) (by omega)]; unfold wcR
      rw [if_neg (by omega), if_neg (by omega), if_neg (by omega), waR_c hA (by omega) (by omega)]
    have e20 : s (20 + j) = w (20 + j) := by
      rw [hs (20 + j) (by omega)]; unfold wcR
      rw [if_neg (by omega), if_neg (by omega), if_neg (by omega), waR_c hA (by omega) (by omega)]
    have e28 : s (28 + j) = w (28 + j) := by
      rw [hs (28 + j) (by omega)]; unfold wcR
      rw [if_neg (by omega), if_neg (by omega), if_neg (by omega), waR_c hA (by omega) (by omega)]
    have gr : ∀ s2 : Nat → Int32, s2 (12 + j) = jy1 (w (12 + j)) (w (20 + j)) → (∀ i, i ≠ 12 + j → s2 i = s i) → p_X8_goHour_176 F 47 (nI j) (p_X8_goHour_141 F (nI nC) 47 rd ln tp at0 wr ia asked hold dr Post n) Post s2 := by
      intro s2 h1 h2
      unfold p_X8_goHour_176
      rw [cc20 (by omega), cc28 (by omega)]
      refine ⟨ci20 (by omega), ci20 (by omega), ci28 (by omega), ci28 (by omega), ih _ (fun i hi => ?_)⟩
      show upd (upd s2 (20 + j) (decN (s2 (20 + j)))) (28 + j) (decN (upd s2 (20 + j) (decN (s2 (20 + j))) (28 + j))) i = _
      rw [upd_i, upd_i, upd_i, if_neg (c := 28 + j = 20 + j) (by omega), h2 (20 + j) (by omega), h2 (28 + j) (by omega), e20, e28]
      unfold wcR
      by_cases a1 : i = 28 + j
      · subst a1
        rw [if_pos rfl, if_neg (by omega), if_neg (by omega), if_pos (by omega)]
      by_cases a2 : i = 20 + j
      · subst a2
        rw [if_neg (by omega), if_pos rfl, if_neg (by omega), if_pos (by omega)]
      rw [if_neg a1, if_neg a2]
      by_cases a3 : i = 12 + j
      · subst a3
        rw [h1, if_pos (by omega), show 12 + j + 8 = 20 + j from by omega]
      rw [h2 i a3, hs i hi]
      unfold wcR
      have b1 : (12 ≤ i ∧ i < 12 + j) = (12 ≤ i ∧ i < 12 + (j + 1)) := by apply propext; omega
      have b2 : (20 ≤ i ∧ i < 20 + j) = (20 ≤ i ∧ i < 20 + (j + 1)) := by apply propext; omega
      have b3 : (28 ≤ i ∧ i < 28 + j) = (28 ≤ i ∧ i < 28 + (j + 1)) := by apply propext; omega
      simp only [b1, b2, b3]
    rw [p_X8_goHour_141_s, cc20 (by omega), cc12 (by omega), e20, e12]
    refine pk_le nC j (fun h => absurd h (by omega)) (fun _ => ⟨ci20 (by omega), fun c1 => ?_, fun c1 => ⟨ci12 (by omega), ci12 (by omega), ?_⟩⟩)
    · refine gr s ?_ (fun _ _ => rfl)
      unfold jy1
      rw [e12, if_neg c1]
    · refine gr _ ?_ (fun i hi => pk_un hi)
      rw [pk_us]
      unfold jy1
      rw [if_pos c1]
      rfl
  · intro i hi
    rw [hf i hi]
    unfold wcR
    rw [if_neg (by omega), if_neg (by omega), if_neg (by omega)]
theorem s8_goHour {Post : (Value × Int32 × Int32 × Int32 × Int32 × Int32 × Int32 × (Nat → Int32) × (Nat → Int32) × (Nat → Int32)) → Prop} (hF : 5000 ≤ F) (hR : RM F R m rule) (hM : MV w f) (ok : OK nA nC w) (k : ∀ u1 u2 u3 u4 u5 u6 f2 as hd, MV (goH R nA nC w) f2 → Post (u1, u2, u3, u4, u5, u6, dr + nI (dct R nC w nA), f2, as, hd)) : p_X8_goHour F (nI nA) (nI nC) rd ln tp at0 wr q (nI m) ia dr 47 f asked rule hold Post := by
  have hA := ok.1
  have hC := ok.2.1
  have hd := ok.2.2.1
  unfold p_X8_goHour
  refine up_loop (fun n i (s : Value × Int32 × Int32 × Int32 × Int32 × Int32 × (Nat → Int32) × (Nat → Int32)) => p_X8_goHour_2 F (nI nA) (nI nC) q (nI m) dr 47 f rule Post n i s.1 s.2.1 s.2.2.1 s.2.2.2.1 s.2.2.2.2.1 s.2.2.2.2.2.1 s.2.2.2.2.2.2.1 s.2.2.2.2.2.2.2) (fun j s => ∀ i, i < j → s.2.2.2.2.2.2.2 i = hO R nC w i) nA ?_ ?_ F (rd, ln, tp, at0, wr, ia, asked, hold) 0 (fun i hi => absurd hi (by omega)) (by omega) (by omega)
  · rintro n ⟨u1, u2, u3, u4, u5, u6, u7, hh⟩ hs
    have hs : ∀ i, i < nA → hh i = hO R nC w i := hs
    show p_X8_goHour_2 F (nI nA) (nI nC) q (nI m) dr 47 f rule Post (n + 1) (nI nA) u1 u2 u3 u4 u5 u6 u7 hh
    rw [p_X8_goHour_2_s]
    refine pk_le nA nA (fun _ => ?_) (fun h => absurd h (by omega))
    refine up_loop (fun n i (s : Int32 × (Nat → Int32)) => p_X8_goHour_30 F (nI nA) (nI nC) 47 u1 u2 u3 u4 u5 u6 u7 hh Post n i s.1 s.2) (fun j s => s.1 = dr + nI (dct R nC w j) ∧ MV (waR R nC w j) s.2) nA ?_ ?_ F (dr, f) 0 ⟨(Int32.add_zero dr).symm, ?_⟩ (by omega) (by omega)
    · rintro n ⟨d, g⟩ ⟨h1, h2⟩
      have h1 : d = _ := h1
      subst h1
      show p_X8_goHour_30 F (nI nA) (nI nC) 47 u1 u2 u3 u4 u5 u6 u7 hh Post (n + 1) (nI nA) _ g
      rw [p_X8_goHour_30_s]
      refine pk_le nA nA (fun _ => ?_) (fun h => absurd h (by omega))
      exact s8_hourC hF hA hC h2 (fun f2 z => k _ _ _ _ _ _ _ _ _ z)
    · rintro n j ⟨d, g⟩ hj ⟨h1, h2⟩ ih
      have h1 : d = _ := h1
      subst h1
      have h2 : MV (waR R nC w j) g := h2
      have el : g j = w j := by rw [h2 j (by omega), waR_ld (by omega)]
      have eg : g (6 + j) = w (6 + j) := by rw [h2 (6 + j) (by omega), waR_at (by omega) (by omega)]
      have e46 : g 46 = drN (dct R nC w j) (w 46) := by rw [h2 46 (by omega), waR_46 (by omega)]
      have fin : ∀ (dd : Bool) (g2 : Nat → Int32), drop1 R nC w j = dd → g2 (6 + j) = sg1 (w j) (hO R nC w j) (w (6 + j)) → g2 46 = drN (dct R nC w (j + 1)) (w 46) → (∀ i, i ≠ 6 + j → i ≠ 46 → g2 i = g i) → p_X8_goHour_30 F (nI nA) (nI nC) 47 u1 u2 u3 u4 u5 u6 u7 hh Post n (nI j + 1) (dr + nI (dct R nC w j + (if dd then 1 else 0))) g2 := by
        intro dd g2 e1 e2 e3 e4
        refine ih (dr + nI (dct R nC w j + (if dd then 1 else 0)), g2) ⟨?_, fun i hi => ?_⟩
        · rw [dct, e1]
        · show g2 i = _
          by_cases a1 : i = 6 + j
          · subst a1
            rw [e2]; unfold waR; rw [if_pos (by omega), show 6 + j - 6 = j from by omega]
          by_cases a2 : i = 46
          · subst a2
            rw [e3, waR_46 (by omega)]
          rw [e4 i a1 a2, h2 i hi]
          unfold waR
          have b1 : (6 ≤ i ∧ i < 6 + j) = (6 ≤ i ∧ i < 6 + (j + 1)) := by apply propext; omega
          simp only [b1, if_neg a2]
      show p_X8_goHour_30 F (nI nA) (nI nC) 47 u1 u2 u3 u4 u5 u6 u7 hh Post (n + 1) (nI j) (dr + nI (dct R nC w j)) g
      have i6 : vp_in (nI j) 6 := pk_in j 6 (by omega)
      have i47 : vp_in (nI j) 47 := pk_in j 47 (by omega)
      have i46 : vp_in (46 : Int32) 47 := pk_in 46 47 (by omega)
      rw [p_X8_goHour_30_s, nI_clamp (n := j) (by omega), cc6 (by omega), hs j hj, el, eg]
      refine pk_le nA j (fun h => absurd h (by omega)) (fun _ => ⟨i6, i47, fun c1 => ?_, fun c1 => ⟨ci6 (by omega), ci6 (by omega), ?_⟩⟩)
      · unfold p_X8_goHour_68 p_X8_goHour_133
        rw [nI_clamp (n := j) (by omega), cc6 (by omega), hs j hj, el, eg]
        refine ⟨i6, i47, fun c2 => ⟨ci6 (by omega), fun c3 => ⟨i46, i46, ?_⟩, fun c3 => ⟨ci6 (by omega), ci6 (by omega), ?_⟩⟩, fun c2 => ?_⟩
        · have ed : drop1 R nC w j = true := by unfold drop1; simp [c2, c3]
          have := fin true (upd g 46 (if g 46 + 1 < 9999 then g 46 + 1 else 9999)) ed (by rw [upd_i, if_neg (by omega), eg]; unfold sg1; rw [if_pos c2, if_pos c3]) (by rw [pk_us, dct, ed, e46]; rfl) (fun i a1 a2 => pk_un a2)
          rw [if_pos rfl, ← nI_1, ← Int32.add_assoc] at this
          exact this
        · have ed : drop1 R nC w j = false := by unfold drop1; simp [c3]
          refine fin false _ ed ?_ ?_ (fun i a1 a2 => pk_un a1)
          · rw [pk_us]; unfold sg1; rw [if_pos c2, if_neg c3]
          · rw [upd_i, if_neg (by omega), dct, ed, e46]; rfl
        · have ed : drop1 R nC w j = false := by unfold drop1; simp [c2]
          refine fin false g ed ?_ ?_ (fun i a1 a2 => rfl)
          · rw [eg]; unfold sg1; rw [if_neg c2, if_pos c1]
          · rw [dct, ed, e46]; rfl
      · have c2 : ¬ hO R nC w j < w j := fun z => c1 (by rw [Int32.lt_iff_toInt_lt] at z; rw [Int32.le_iff_toInt_le]; omega)
        unfold p_X8_goHour_68 p_X8_goHour_133
        rw [nI_clamp (n := j) (by omega), hs j hj, show upd g (6 + j) (if (0 : Int32) < w (6 + j) - 1 then w (6 + j) - 1 else 0) j = w j from by rw [upd_i, if_neg (by omega), el]]
        refine ⟨i6, i47, br_f c2 ?_⟩
        have ed : drop1 R nC w j = false := by unfold drop1; simp [c2]
        refine fin false _ ed ?_ ?_ (fun i a1 a2 => pk_un a1)
        · rw [pk_us]; unfold sg1; rw [if_neg c2, if_neg c1]; rfl
        · rw [upd_i, if_neg (by omega), dct, ed, e46]; rfl
    · intro i hi
      show f i = _
      rw [hM i hi]
      unfold waR
      rw [if_neg (by omega)]
      by_cases e : i = 46
      · subst e; rw [if_pos rfl]; rfl
      · rw [if_neg e]
  · rintro n j ⟨u1, u2, u3, u4, u5, u6, u7, hh⟩ hj hs ih
    have hs : ∀ i, i < j → hh i = hO R nC w i := hs
    show p_X8_goHour_2 F (nI nA) (nI nC) q (nI m) dr 47 f rule Post (n + 1) (nI j) u1 u2 u3 u4 u5 u6 u7 hh
    rw [p_X8_goHour_2_s]
    refine pk_le nA j (fun h => absurd h (by omega)) (fun _ => ?_)
    refine s8_holdOf hF hR hM ok (by omega) (fun u => ⟨pk_in j 6 (by omega), ?_⟩)
    refine ih (_, _, _, _, _, _, _, _) (fun i hi => ?_)
    rw [nI_clamp (n := j) (by omega)]
    show upd hh j (hO R nC w j) i = _
    rw [upd_i]
    by_cases e : i = j
    · rw [if_pos e, e]
    · rw [if_neg e]; exact hs i (by omega)
theorem s8_goHours {n : Nat} {Post : (Value × Int32 × Int32 × Int32 × Int32 × Int32 × Int32 × (Nat → Int32) × (Nat → Int32) × (Nat → Int32)) → Prop} (hF : 5000 ≤ F) (hn : n ≤ 1000) (hR : RM F R m rule) (hM : MV w f) (ok : OK nA nC w) (k : ∀ u1 u2 u3 u4 u5 u6 f2 as hd, MV (goHs R nA nC n w) f2 → Post (u1, u2, u3, u4, u5, u6, nI (dctS R nA nC n w), f2, as, hd)) : p_X8_goHours F (nI n) (nI nA) (nI nC) rd ln tp at0 wr q (nI m) ia 47 f asked rule hold Post := by
  unfold p_X8_goHours
  refine up_loop (fun m' i (s : Value × Int32 × Int32 × Int32 × Int32 × Int32 × Int32 × (Nat → Int32) × (Nat → Int32) × (Nat → Int32)) => p_X8_goHours_7 F (nI n) (nI nA) (nI nC) q (nI m) 47 rule Post m' i s.1 s.2.1 s.2.2.1 s.2.2.2.1 s.2.2.2.2.1 s.2.2.2.2.2.1 s.2.2.2.2.2.2.1 s.2.2.2.2.2.2.2.1 s.2.2.2.2.2.2.2.2.1 s.2.2.2.2.2.2.2.2.2) (fun j s => s.2.2.2.2.2.2.1 = nI (dctS R nA nC j w) ∧ MV (goHs R nA nC j w) s.2.2.2.2.2.2.2.1) n ?_ ?_ F (rd, ln, tp, at0, wr, ia, 0, f, asked, hold) 0 ⟨rfl, hM⟩ (by omega) (by omega)
  · rintro m' ⟨u1, u2, u3, u4, u5, u6, d, g, u7, u8⟩ ⟨h1, h2⟩
    have h1 : d = _ := h1
    subst h1
    show p_X8_goHours_7 F (nI n) (nI nA) (nI nC) q (nI m) 47 rule Post (m' + 1) (nI n) u1 u2 u3 u4 u5 u6 _ g u7 u8
    rw [p_X8_goHours_7_s]
    exact pk_le n n (fun _ => k _ _ _ _ _ _ _ _ _ h2) (fun h => absurd h (by omega))
  · rintro m' j ⟨u1, u2, u3, u4, u5, u6, d, g, u7, u8⟩ hj ⟨h1, h2⟩ ih
    have h1 : d = _ := h1
    subst h1
    show p_X8_goHours_7 F (nI n) (nI nA) (nI nC) q (nI m) 47 rule Post (m' + 1) (nI j) u1 u2 u3 u4 u5 u6 (nI (dctS R nA nC j w)) g u7 u8
    rw [p_X8_goHours_7_s]
    refine pk_le n j (fun h => absurd h (by omega)) (fun _ => ?_)
    refine s8_goHour hF hR h2 (goHs_OK ok j) (fun u1 u2 u3 u4 u5 u6 f2 as hd z => ?_)
    exact ih (u1, u2, u3, u4, u5, u6, _, f2, as, hd) ⟨nI_add _ _, z⟩
theorem s8_goThen {n : Nat} {th : Nat → Int32} {Post : (Value × Int32 × Int32 × Int32 × Int32 × Int32 × Int32 × (Nat → Int32) × (Nat → Int32) × (Nat → Int32)) → Prop} (hF : 5000 ≤ F) (hn : n ≤ 1000) (hR : RM F R m rule) (hM : MV w f) (ok : OK nA nC w) (k : ∀ u1 u2 u3 u4 u5 u6 f2 as hd, MV (goHs R nA nC n w) f2 → Post (u1, u2, u3, u4, u5, u6, nI (dctS R nA nC n w), f2, as, hd)) : p_X8_goThen F (nI n) (nI nA) (nI nC) rd ln tp at0 wr q (nI m) ia f th asked rule hold Post := by
  unfold p_X8_goThen
  refine s8_lay0 hF hM (fun g2 hg => s8_goHours hF hn hR hg ok (fun u1 u2 u3 u4 u5 u6 f2 as hd z => ?_))
  exact k _ _ _ _ _ _ _ _ _ z
theorem s8_sagsBehind {n : Nat} {Post : Int32 → (Value × Int32 × Int32 × Int32 × Int32 × Int32 × Int32 × (Nat → Int32) × (Nat → Int32) × (Nat → Int32)) → Prop} (hF : 5000 ≤ F) (hn : n ≤ 1000) (hR : RM F R m rule) (hM : MV w f) (ok : OK nA nC w) (k : ∀ u1 u2 u3 u4 u5 u6 f2 as hd, MV (goHs R nA nC n w) f2 → Post (sagS nA (goHs R nA nC n w)) (u1, u2, u3, u4, u5, u6, nI (dctS R nA nC n w), f2, as, hd)) : p_X8_sagsBehind F (nI n) (nI nA) (nI nC) rd ln tp at0 wr q (nI m) ia f asked rule hold Post := by
  unfold p_X8_sagsBehind
  refine s8_goHours hF hn hR hM ok (fun u1 u2 u3 u4 u5 u6 f2 as hd z => ?_)
  exact s8_sags hF z ok.1 (k _ _ _ _ _ _ _ _ _ z)
end
