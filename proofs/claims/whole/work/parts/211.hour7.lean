/-! ===== an hour, in the class ===== -/
section
variable {F nA nC : Nat} {R : (Nat → Int32) → Int32} {w : Nat → Int32} {arches cats store hour drops sz top : Int32} {load sag joy bowl grief place steps stack : Nat → Int32}
theorem goH_ld {i : Nat} (h : i < 6) : goH R nA nC w i = w i := by simp [goH, h]
theorem goH_sg {i : Nat} (h : i < 6) : goH R nA nC w (6 + i) = if i < nA then sg1 (w i) (hO R nC w i) (w (6 + i)) else w (6 + i) := by
  unfold goH
  rw [if_neg (by omega), if_pos (by omega), show 6 + i - 6 = i from by omega]
theorem goH_jy {i : Nat} (h : i < 8) : goH R nA nC w (12 + i) = if i < nC then jy1 (w (12 + i)) (w (20 + i)) else w (12 + i) := by
  unfold goH
  rw [if_neg (by omega), if_neg (by omega), if_pos (by omega), show 12 + i - 12 = i from by omega, show 12 + i + 8 = 20 + i from by omega]
theorem goH_bw {i : Nat} (h : i < 8) : goH R nA nC w (20 + i) = if i < nC then decN (w (20 + i)) else w (20 + i) := by
  unfold goH
  rw [if_neg (by omega), if_neg (by omega), if_neg (by omega), if_pos (by omega), show 20 + i - 20 = i from by omega]
theorem goH_gr {i : Nat} (h : i < 8) : goH R nA nC w (28 + i) = if i < nC then decN (w (28 + i)) else w (28 + i) := by
  unfold goH
  rw [if_neg (by omega), if_neg (by omega), if_neg (by omega), if_neg (by omega), if_pos (by omega), show 28 + i - 28 = i from by omega]
theorem goH_pl {i : Nat} (h : i < 9) : goH R nA nC w (36 + i) = w (36 + i) := by
  unfold goH
  rw [if_neg (by omega), if_neg (by omega), if_neg (by omega), if_neg (by omega), if_neg (by omega), if_pos (by omega)]
theorem goH_hr : goH R nA nC w 45 = w 45 + 1 := rfl
theorem goH_dr : goH R nA nC w 46 = drN (dct R nC w nA) (w 46) := rfl
theorem sg1_dg {ld hd sg : Int32} (h : dg sg) : dg (sg1 ld hd sg) := by
  unfold sg1
  split
  · split
    · exact h
    · rename_i q
      obtain ⟨g, hg, rfl⟩ := h
      rw [nI_1]
      refine ⟨g + 1, ?_, rfl⟩
      have : ¬ 9 ≤ g := fun z => q (nI_le (a := 9) z (by omega))
      omega
  · split
    · exact h
    · exact decN_dg h
theorem jy1_dg {jy bw : Int32} (h : dg jy) : dg (jy1 jy bw) := by
  unfold jy1
  split
  · exact decN_dg h
  · exact h
theorem drN_eq {d : Nat} (hd : d ≤ 9999) : ∀ n, n ≤ 1000 → drN n (nI d) = nI (if d + n < 9999 then d + n else 9999)
  | 0, _ => by
    rw [drN]
    by_cases h : d + 0 < 9999
    · rw [if_pos h, Nat.add_zero]
    · rw [if_neg h, show d = 9999 from by omega]
  | n + 1, hn => by
    rw [drN, drN_eq hd n (by omega), nI_1]
    have h9 : (9999 : Int32) = nI 9999 := rfl
    rw [h9]
    by_cases h : d + n < 9999
    · rw [if_pos h]
      by_cases h2 : d + (n + 1) < 9999
      · rw [if_pos h2, if_pos (nI_lt (by omega) (by omega)), Nat.add_assoc]
      · rw [if_neg h2, if_neg (nI_nlt (by omega) (by omega))]
    · rw [if_neg h, if_neg (nI_nlt (by omega) (by omega)), if_neg (by omega)]
theorem dct_le (R : (Nat → Int32) → Int32) (nC : Nat) (w : Nat → Int32) : ∀ n, dct R nC w n ≤ n
  | 0 => Nat.le_refl _
  | n + 1 => by
    have := dct_le R nC w n
    rw [dct]
    split <;> omega
theorem goH_OK (h : OK nA nC w) : OK nA nC (goH R nA nC w) := by
  obtain ⟨hA, hC, hd, hp, ⟨d, hd9, ed⟩, hz, hg⟩ := h
  refine ⟨hA, hC, ?_, ?_, ?_, ?_, ?_⟩
  · intro i hi
    rcases Nat.lt_or_ge i 6 with q | q
    · rw [goH_ld q]; exact hd i (by omega)
    rcases Nat.lt_or_ge i 12 with q2 | q2
    · obtain ⟨j, rfl⟩ : ∃ j, i = 6 + j := ⟨i - 6, by omega⟩
      rw [goH_sg (by omega)]
      split
      · exact sg1_dg (hd _ (by omega))
      · exact hd _ (by omega)
    rcases Nat.lt_or_ge i 20 with q3 | q3
    · obtain ⟨j, rfl⟩ : ∃ j, i = 12 + j := ⟨i - 12, by omega⟩
      rw [goH_jy (by omega)]
      split
      · exact jy1_dg (hd _ (by omega))
      · exact hd _ (by omega)
    rcases Nat.lt_or_ge i 28 with q4 | q4
    · obtain ⟨j, rfl⟩ : ∃ j, i = 20 + j := ⟨i - 20, by omega⟩
      rw [goH_bw (by omega)]
      split
      · exact decN_dg (hd _ (by omega))
      · exact hd _ (by omega)
    · obtain ⟨j, rfl⟩ : ∃ j, i = 28 + j := ⟨i - 28, by omega⟩
      rw [goH_gr (by omega)]
      split
      · exact decN_dg (hd _ (by omega))
      · exact hd _ (by omega)
  · intro c hc
    rw [goH_pl (by omega)]
    exact hp c hc
  · rw [goH_dr, ed, drN_eq hd9 _ (by have := dct_le R nC w nA; omega)]
    refine ⟨_, ?_, rfl⟩
    split <;> omega
  · intro i hi hi2
    rw [goH_sg hi2, if_neg (by omega)]
    exact hz i hi hi2
  · intro i hi hi2
    rw [goH_gr hi2, if_neg (by omega)]
    exact hg i hi hi2
theorem upd_i {f : Nat → Int32} {k : Nat} {x : Int32} {i : Nat} : upd f k x i = if i = k then x else f i := rfl
/-- the second loop: cats -/
theorem s6_hourC {y : Int32} {v : Nat → Int32} {Post : Int32 → (Int32 × Int32 × Int32 × (Nat → Int32) × (Nat → Int32) × (Nat → Int32) × (Nat → Int32) × (Nat → Int32)) → Prop} (hF : 5000 ≤ F) (hC : nC ≤ 8) (hd : ∀ i, i < 36 → dg (w i)) (h3 : ∀ i, i < 8 → joy i = w (12 + i)) (h4 : ∀ i, i < 8 → bowl i = w (20 + i)) (h5 : ∀ i, i < 8 → grief i = w (28 + i))
    (k : ∀ j2 g2 b2, (∀ i, i < 8 → j2 i = goH R nA nC w (12 + i)) → (∀ i, i < 8 → b2 i = goH R nA nC w (20 + i)) → (∀ i, i < 8 → g2 i = goH R nA nC w (28 + i)) → Post y (hour + 1, (if drops + y < 9999 then drops + y else 9999), top, stack, v, j2, g2, b2)) : p_X6_passHour_104 F (nI nC) hour drops y top stack v Post F 0 joy grief bowl := by
  refine up_loop (fun n i (s : (Nat → Int32) × (Nat → Int32) × (Nat → Int32)) => p_X6_passHour_104 F (nI nC) hour drops y top stack v Post n i s.1 s.2.1 s.2.2) (fun j s => (∀ i, i < 8 → s.1 i = if i < j then jy1 (w (12 + i)) (w (20 + i)) else w (12 + i)) ∧ (∀ i, i < 8 → s.2.2 i = if i < j then decN (w (20 + i)) else w (20 + i)) ∧ (∀ i, i < 8 → s.2.1 i = if i < j then decN (w (28 + i)) else w (28 + i))) nC ?_ ?_ F (joy, grief, bowl) 0 ?_ (by omega) (by omega)
  · rintro m ⟨a, b, c⟩ ⟨q1, q2, q3⟩
    show p_X6_passHour_104 F (nI nC) hour drops y top stack v Post (m + 1) _ _ _ _
    rw [p_X6_passHour_104_s]
    refine pk_le nC nC (fun _ => ?_) (fun h => absurd h (by omega))
    refine k a b c (fun i hi => ?_) (fun i hi => ?_) (fun i hi => ?_)
    · rw [goH_jy hi]; exact q1 i hi
    · rw [goH_bw hi]; exact q2 i hi
    · rw [goH_gr hi]; exact q3 i hi
  · rintro m j ⟨a, b, c⟩ hj ⟨q1, q2, q3⟩ ih
    have q1 : ∀ i, i < 8 → a i = if i < j then jy1 (w (12 + i)) (w (20 + i)) else w (12 + i) := q1
    have q2 : ∀ i, i < 8 → c i = if i < j then decN (w (20 + i)) else w (20 + i) := q2
    have q3 : ∀ i, i < 8 → b i = if i < j then decN (w (28 + i)) else w (28 + i) := q3
    have hin : vp_in (nI j) 8 := pk_in j 8 (by omega)
    have ea : a j = w (12 + j) := by rw [q1 j (by omega), if_neg (by omega)]
    have ec : c j = w (20 + j) := by rw [q2 j (by omega), if_neg (by omega)]
    have eb : b j = w (28 + j) := by rw [q3 j (by omega), if_neg (by omega)]
    obtain ⟨kj, hkj, ej⟩ := hd (12 + j) (by omega)
    obtain ⟨kb, hkb, eb2⟩ := hd (20 + j) (by omega)
    obtain ⟨kg, hkg, eg⟩ := hd (28 + j) (by omega)
    have gr : ∀ a2 c2 : Nat → Int32, (∀ i, i < 8 → a2 i = if i < j + 1 then jy1 (w (12 + i)) (w (20 + i)) else w (12 + i)) → (∀ i, i < 8 → c2 i = if i < j + 1 then decN (w (20 + i)) else w (20 + i)) → p_X6_passHour_153 F (nI j) b (p_X6_passHour_104 F (nI nC) hour drops y top stack v Post m) Post a2 c2 := by
      intro a2 c2 w1 w2
      unfold p_X6_passHour_153 p_X6_passHour_172
      rw [nI_clamp (n := j) (by omega), eb, eg]
      refine ⟨hin, pk_le kg 0 (fun h => ?_) (fun h => ⟨hin, hin, ?_⟩)⟩
      · refine ih (a2, b, c2) ⟨w1, w2, fun i hi => ?_⟩
        show b i = _
        rw [q3 i hi]
        by_cases e : i = j
        · subst e
          rw [if_neg (by omega), if_pos (by omega), eg, decN_d kg hkg, show kg - 1 = kg from by omega]
        · by_cases e2 : i < j
          · rw [if_pos e2, if_pos (by omega)]
          · rw [if_neg e2, if_neg (by omega)]
      · refine ih (a2, _, c2) ⟨w1, w2, fun i hi => ?_⟩
        show upd b j (nI kg - 1) i = _
        rw [upd_i]
        by_cases e : i = j
        · subst e
          rw [if_pos rfl, if_pos (by omega), eg, decN_d kg hkg]
          obtain ⟨z, rfl⟩ : ∃ z, kg = z + 1 := ⟨kg - 1, by omega⟩
          exact nI_pred z
        · rw [if_neg e, q3 i hi]
          by_cases e2 : i < j
          · rw [if_pos e2, if_pos (by omega)]
          · rw [if_neg e2, if_neg (by omega)]
    show p_X6_passHour_104 F (nI nC) hour drops y top stack v Post (m + 1) _ a b c
    rw [p_X6_passHour_104_s, nI_clamp (n := j) (by omega), ec, eb2, ea, ej]
    refine pk_le nC j (fun h => absurd h (by omega)) (fun _ => ⟨hin, pk_le kb 0 (fun h => ⟨hin, pk_le kj 0 (fun h2 => ?_) (fun h2 => ⟨hin, hin, ?_⟩)⟩) (fun h => ⟨hin, hin, ?_⟩)⟩)
    · refine gr _ _ (fun i hi => ?_) (fun i hi => ?_)
      · rw [q1 i hi]
        by_cases e : i = j
        · subst e
          rw [if_neg (by omega), if_pos (by omega), ej, eb2, show kb = 0 from by omega, show kj = 0 from by omega]; rfl
        · by_cases e2 : i < j
          · rw [if_pos e2, if_pos (by omega)]
          · rw [if_neg e2, if_neg (by omega)]
      · rw [q2 i hi]
        by_cases e : i = j
        · subst e
          rw [if_neg (by omega), if_pos (by omega), eb2, show kb = 0 from by omega]; rfl
        · by_cases e2 : i < j
          · rw [if_pos e2, if_pos (by omega)]
          · rw [if_neg e2, if_neg (by omega)]
    · refine gr _ _ (fun i hi => ?_) (fun i hi => ?_)
      · rw [upd_i]
        by_cases e : i = j
        · subst e
          rw [if_pos rfl, if_pos (by omega), ej, eb2, show kb = 0 from by omega]
          show _ = decN (nI kj)
          rw [decN_d kj hkj]
          obtain ⟨z, rfl⟩ : ∃ z, kj = z + 1 := ⟨kj - 1, by omega⟩
          exact nI_pred z
        · rw [if_neg e, q1 i hi]
          by_cases e2 : i < j
          · rw [if_pos e2, if_pos (by omega)]
          · rw [if_neg e2, if_neg (by omega)]
      · rw [q2 i hi]
        by_cases e : i = j
        · subst e
          rw [if_neg (by omega), if_pos (by omega), eb2, show kb = 0 from by omega]; rfl
        · by_cases e2 : i < j
          · rw [if_pos e2, if_pos (by omega)]
          · rw [if_neg e2, if_neg (by omega)]
    · refine gr _ _ (fun i hi => ?_) (fun i hi => ?_)
      · rw [q1 i hi]
        by_cases e : i = j
        · subst e
          rw [if_neg (by omega), if_pos (by omega)]
          unfold jy1
          rw [if_neg]
          rw [eb2]
          exact nI_ne0 (by omega) (by omega)
        · by_cases e2 : i < j
          · rw [if_pos e2, if_pos (by omega)]
          · rw [if_neg e2, if_neg (by omega)]
      · rw [upd_i]
        by_cases e : i = j
        · subst e
          rw [if_pos rfl, if_pos (by omega), eb2, decN_d kb hkb]
          obtain ⟨z, rfl⟩ : ∃ z, kb = z + 1 := ⟨kb - 1, by omega⟩
          exact nI_pred z
        · rw [if_neg e, q2 i hi]
          by_cases e2 : i < j
          · rw [if_pos e2, if_pos (by omega)]
          · rw [if_neg e2, if_neg (by omega)]
  · exact ⟨fun i hi => by rw [if_neg (by omega)]; exact h3 i hi, fun i hi => by rw [if_neg (by omega)]; exact h4 i hi, fun i hi => by rw [if_neg (by omega)]; exact h5 i hi⟩
end
