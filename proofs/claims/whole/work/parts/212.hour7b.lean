section
variable {F nA nC : Nat} {R : (Nat → Int32) → Int32} {w : Nat → Int32} {arches cats store hour drops sz top : Int32} {load sag joy bowl grief place steps stack : Nat → Int32}
theorem s6_passHour {Post : Int32 → (Int32 × Int32 × Int32 × (Nat → Int32) × (Nat → Int32) × (Nat → Int32) × (Nat → Int32) × (Nat → Int32)) → Prop} (hF : 5000 ≤ F) (hR : RX F R sz steps) (hV : AV nA nC w arches cats store hour drops load sag joy bowl grief place) (ok : OK nA nC w)
    (k : ∀ h d t st s2 j2 g2 b2, AV nA nC (goH R nA nC w) arches cats store h d load s2 j2 b2 g2 place → Post (nI (dct R nC w nA)) (h, d, t, st, s2, j2, g2, b2)) : p_X6_passHour F arches cats hour drops load place sz top steps stack sag joy grief bowl Post := by
  have hV' := hV
  obtain ⟨rfl, rfl, rfl, rfl, rfl, h1, h2, h3, h4, h5, h6⟩ := hV
  obtain ⟨hA, hC, hd, hp, ⟨d, hd9, ed⟩, hz, hg⟩ := ok
  unfold p_X6_passHour
  refine up_loop (fun n i (s : Int32 × Int32 × (Nat → Int32) × (Nat → Int32)) => p_X6_passHour_4 F (nI nA) (nI nC) (w 45) (w 46) load place sz steps joy grief bowl Post n i s.1 s.2.1 s.2.2.1 s.2.2.2) (fun j s => s.1 = nI (dct R nC w j) ∧ ∀ i, i < 6 → s.2.2.2 i = if i < j then sg1 (w i) (hO R nC w i) (w (6 + i)) else w (6 + i)) nA ?_ ?_ F (0, top, stack, sag) 0 ?_ (by omega) (by omega)
  · rintro m ⟨y, t, st, sg⟩ ⟨q1, q2⟩
    have q1 : y = _ := q1
    subst q1
    show p_X6_passHour_4 F (nI nA) (nI nC) (w 45) (w 46) load place sz steps joy grief bowl Post (m + 1) _ _ _ _ _
    rw [p_X6_passHour_4_s]
    refine pk_le nA nA (fun _ => ?_) (fun h => absurd h (by omega))
    refine s6_hourC (R := R) (nA := nA) hF hC hd h3 h4 h5 (fun j2 g2 b2 z1 z2 z3 => ?_)
    refine k _ _ _ _ _ _ _ _ ⟨rfl, rfl, (goH_pl (i := 8) (by omega)).symm, goH_hr.symm, ?_, ?_, ?_, z1, z2, z3, ?_⟩
    · rw [goH_dr, ed, drN_eq hd9 _ (by have := dct_le R nC w nA; omega), nI_add]
      have := dct_le R nC w nA
      have h9 : (9999 : Int32) = nI 9999 := rfl
      rw [h9]
      by_cases q : d + dct R nC w nA < 9999
      · rw [if_pos q, if_pos (nI_lt q (by omega))]
      · rw [if_neg q, if_neg (nI_nlt (by omega) (by omega))]
    · intro i hi; rw [goH_ld hi]; exact h1 i hi
    · intro i hi; rw [goH_sg hi]; exact q2 i hi
    · intro i hi; rw [goH_pl (by omega)]; exact h6 i hi
  · rintro m j ⟨y, t, st, sg⟩ hj ⟨q1, q2⟩ ih
    have q1 : y = _ := q1
    subst q1
    have q2 : ∀ i, i < 6 → sg i = if i < j then sg1 (w i) (hO R nC w i) (w (6 + i)) else w (6 + i) := q2
    have esg : sg j = w (6 + j) := by rw [q2 j (by omega), if_neg (by omega)]
    have hin : vp_in (nI j) 6 := pk_in j 6 (by omega)
    obtain ⟨l, hl, el⟩ := hd j (by omega)
    obtain ⟨g, hg9, eg⟩ := hd (6 + j) (by omega)
    obtain ⟨h, hh, eh⟩ := hO_n R hC w j
    -- the row as it stands
    have hVj : AV nA nC (fun i => if 6 ≤ i ∧ i < 12 then sg (i - 6) else w i) (nI nA) (nI nC) (w 44) (w 45) (w 46) load sg joy bowl grief place := by
      refine ⟨rfl, rfl, rfl, rfl, rfl, ?_, ?_, ?_, ?_, ?_, ?_⟩
      · intro i hi; show _ = if _ then _ else _; rw [if_neg (by omega)]; exact h1 i hi
      · intro i hi; show _ = if _ then _ else _; rw [if_pos (by omega), show 6 + i - 6 = i from by omega]
      · intro i hi; show _ = if _ then _ else _; rw [if_neg (by omega)]; exact h3 i hi
      · intro i hi; show _ = if _ then _ else _; rw [if_neg (by omega)]; exact h4 i hi
      · intro i hi; show _ = if _ then _ else _; rw [if_neg (by omega)]; exact h5 i hi
      · intro i hi; show _ = if _ then _ else _; rw [if_neg (by omega)]; exact h6 i hi
    have ehj : hO R nC (fun i => if 6 ≤ i ∧ i < 12 then sg (i - 6) else w i) j = nI h := by
      rw [← eh]
      refine hO_cong (fun c hc => ?_) (fun c hc => ⟨?_, ?_, ?_⟩) ?_ ?_ ?_
      · show (if _ then _ else _) = _; rw [if_neg (by omega)]
      · show (if _ then _ else _) = _; rw [if_neg (by omega)]
      · show (if _ then _ else _) = _; rw [if_neg (by omega)]
      · show (if _ then _ else _) = _; rw [if_neg (by omega)]
      · show (if _ then _ else _) = _; rw [if_neg (by omega)]
      · show (if _ then _ else _) = _; rw [if_pos (by omega), show 6 + j - 6 = j from by omega]; exact esg
      · rfl
    show p_X6_passHour_4 F (nI nA) (nI nC) (w 45) (w 46) load place sz steps joy grief bowl Post (m + 1) (nI j) (nI (dct R nC w j)) t st sg
    rw [p_X6_passHour_4_s, nI_clamp (n := j) (by omega), h1 j (by omega), el, esg, eg]
    refine pk_le nA j (fun h => absurd h (by omega)) (fun _ => ⟨hin, ?_⟩)
    have h6' : ∀ i, i < 8 → place i = (fun i => if 6 ≤ i ∧ i < 12 then sg (i - 6) else w i) (36 + i) := hVj.2.2.2.2.2.2.2.2.2.2
    refine s6_catsIn (w := fun i => if 6 ≤ i ∧ i < 12 then sg (i - 6) else w i) hF hC h6' (s6_holdBy hF hR hVj hA hC hj (thN_lt _ _ _ hC) (fun u => ?_))
    rw [hB_th R nC _ j nC (Nat.le_refl _), show hS R nC (fun i => if 6 ≤ i ∧ i < 12 then sg (i - 6) else w i) j nC = nI h from ehj, sub_le0 (by omega) (by omega)]
    -- where it goes on
    have fin : ∀ (y2 : Nat) (sg2 : Nat → Int32), y2 = dct R nC w (j + 1) → (∀ i, i < 6 → i ≠ j → sg2 i = sg i) → sg2 j = sg1 (w j) (hO R nC w j) (w (6 + j)) → p_X6_passHour_4 F (nI nA) (nI nC) (w 45) (w 46) load place sz steps joy grief bowl Post m (nI j + 1) (nI y2) u.1 u.2 sg2 := by
      intro y2 sg2 e1 e2 e3
      refine ih (nI y2, u.1, u.2, sg2) ⟨by rw [e1], fun i hi => ?_⟩
      show sg2 i = _
      by_cases e : i = j
      · subst e; rw [if_pos (by omega)]; exact e3
      · rw [e2 i hi e, q2 i hi]
        by_cases e2 : i < j
        · rw [if_pos e2, if_pos (by omega)]
        · rw [if_neg e2, if_neg (by omega)]
    have edc : dct R nC w (j + 1) = dct R nC w j + (if h < l ∧ 9 ≤ g then 1 else 0) := by
      rw [dct]
      congr 1
      unfold drop1
      have a1 : (hO R nC w j < w j) ↔ h < l := by rw [eh, el, nI_ltI (by omega) (by omega)]
      have a2 : ((9 : Int32) ≤ w (6 + j)) ↔ 9 ≤ g := by rw [eg]; exact nI_leI (a := 9) (by omega) (by omega)
      by_cases b1 : h < l
      · by_cases b2 : 9 ≤ g
        · simp [a1, a2, b1, b2]
        · simp [a1, a2, b1, b2]
      · simp [a1, b1]
    have esg1 : sg1 (w j) (hO R nC w j) (w (6 + j)) = if h < l then (if 9 ≤ g then nI g else nI (g + 1)) else if h ≤ l then nI g else nI (g - 1) := by
      unfold sg1
      rw [eh, el, eg]
      simp only [show (nI h < nI l) ↔ h < l from nI_ltI (by omega) (by omega), show (nI h ≤ nI l) ↔ h ≤ l from nI_leI (by omega) (by omega), show ((9 : Int32) ≤ nI g) ↔ 9 ≤ g from nI_leI (a := 9) (by omega) (by omega), nI_1, decN_d g hg9]
    have g54 : ¬ (h < l ∧ 9 ≤ g) → p_X6_passHour_54 F load (nI h) u (nI j) (nI (dct R nC w j)) sg (p_X6_passHour_4 F (nI nA) (nI nC) (w 45) (w 46) load place sz steps joy grief bowl Post m) Post := by
      intro nd
      unfold p_X6_passHour_54 p_X6_passHour_96
      rw [nI_clamp (n := j) (by omega), h1 j (by omega), el, esg, eg, sub_le0 (by omega) (by omega), sub_ge0 (by omega) (by omega)]
      refine ⟨fun c1 => ⟨fun c2 => ?_, fun c2 => ⟨hin, pk_le g 0 (fun c3 => ?_) (fun c3 => ⟨hin, hin, ?_⟩)⟩⟩, fun c1 => ⟨hin, hin, ?_⟩⟩
      · refine fin _ _ (by rw [edc, if_neg nd]; rfl) (fun i _ _ => rfl) ?_
        rw [esg1, if_neg (by omega), if_pos (by omega), esg, eg]
      · refine fin _ _ (by rw [edc, if_neg nd]; rfl) (fun i _ _ => rfl) ?_
        rw [esg1, if_neg (by omega), if_neg (by omega), esg, eg, show g - 1 = g from by omega]
      · refine fin _ _ (by rw [edc, if_neg nd]; rfl) (fun i _ e => pk_un e) ?_
        rw [esg1, if_neg (by omega), if_neg (by omega), pk_us]
        obtain ⟨z, rfl⟩ : ∃ z, g = z + 1 := ⟨g - 1, by omega⟩
        exact nI_pred z
      · refine fin _ _ (by rw [edc, if_neg nd]; rfl) (fun i _ e => pk_un e) ?_
        rw [esg1, if_pos (by omega), if_neg (by omega), pk_us, nI_1]
    refine ⟨fun c1 => g54 (by omega), fun c1 => ⟨hin, fun c2 => g54 ?_, fun c2 => ?_⟩⟩
    · rintro ⟨_, c3⟩
      have : g = 9 := by omega
      subst this
      exact c2 rfl
    · have : g = 9 := (nI_eq (b := 9) (by omega) (by omega)).1 c2
      unfold p_X6_passHour_96
      rw [nI_1 (dct R nC w j)]
      refine fin _ _ (by rw [edc, if_pos ⟨by omega, by omega⟩]) (fun i _ _ => rfl) ?_
      rw [esg1, if_pos (by omega), if_pos (by omega), esg, eg]
  · exact ⟨rfl, fun i hi => by rw [if_neg (by omega)]; exact h2 i hi⟩
/-- hours -/
def goHs (R : (Nat → Int32) → Int32) (nA nC : Nat) : Nat → (Nat → Int32) → (Nat → Int32)
  | 0, w => w
  | n + 1, w => goH R nA nC (goHs R nA nC n w)
def dctS (R : (Nat → Int32) → Int32) (nA nC : Nat) : Nat → (Nat → Int32) → Nat
  | 0, _ => 0
  | n + 1, w => dctS R nA nC n w + dct R nC (goHs R nA nC n w) nA
theorem goHs_OK (h : OK nA nC w) : ∀ n, OK nA nC (goHs R nA nC n w)
  | 0 => h
  | n + 1 => goH_OK (goHs_OK h n)
theorem s6_passHours {n : Nat} {Post : Int32 → (Int32 × Int32 × Int32 × (Nat → Int32) × (Nat → Int32) × (Nat → Int32) × (Nat → Int32) × (Nat → Int32)) → Prop} (hF : 5000 ≤ F) (hn : n ≤ 1000) (hR : RX F R sz steps) (hV : AV nA nC w arches cats store hour drops load sag joy bowl grief place) (ok : OK nA nC w)
    (k : ∀ h d t st s2 j2 g2 b2, AV nA nC (goHs R nA nC n w) arches cats store h d load s2 j2 b2 g2 place → Post (nI (dctS R nA nC n w)) (h, d, t, st, s2, j2, g2, b2)) : p_X6_passHours F (nI n) arches cats hour drops sz top load place steps stack sag joy grief bowl Post := by
  unfold p_X6_passHours
  refine up_loop (fun m i (s : Int32 × Int32 × Int32 × Int32 × (Nat → Int32) × (Nat → Int32) × (Nat → Int32) × (Nat → Int32) × (Nat → Int32)) => p_X6_passHours_5 F (nI n) arches cats sz load place steps Post m i s.1 s.2.1 s.2.2.1 s.2.2.2.1 s.2.2.2.2.1 s.2.2.2.2.2.1 s.2.2.2.2.2.2.1 s.2.2.2.2.2.2.2.1 s.2.2.2.2.2.2.2.2) (fun j s => s.1 = nI (dctS R nA nC j w) ∧ AV nA nC (goHs R nA nC j w) arches cats store s.2.1 s.2.2.1 load s.2.2.2.2.2.1 s.2.2.2.2.2.2.1 s.2.2.2.2.2.2.2.2 s.2.2.2.2.2.2.2.1 place) n ?_ ?_ F (0, hour, drops, top, stack, sag, joy, grief, bowl) 0 ⟨rfl, hV⟩ (by omega) (by omega)
  · rintro m ⟨y, h, d, t, st, s2, j2, g2, b2⟩ ⟨q1, q2⟩
    have q1 : y = _ := q1
    subst q1
    show p_X6_passHours_5 F (nI n) arches cats sz load place steps Post (m + 1) _ _ _ _ _ _ _ _ _ _
    rw [p_X6_passHours_5_s]
    exact pk_le n n (fun _ => k _ _ _ _ _ _ _ _ q2) (fun h => absurd h (by omega))
  · rintro m j ⟨y, h, d, t, st, s2, j2, g2, b2⟩ hj ⟨q1, q2⟩ ih
    have q1 : y = _ := q1
    subst q1
    show p_X6_passHours_5 F (nI n) arches cats sz load place steps Post (m + 1) _ _ _ _ _ _ _ _ _ _
    rw [p_X6_passHours_5_s]
    refine pk_le n j (fun h => absurd h (by omega)) (fun _ => ?_)
    refine s6_passHour hF hR q2 (goHs_OK ok j) (fun h d t st s2 j2 g2 b2 z => ?_)
    exact ih (_, _, _, _, _, _, _, _, _) ⟨nI_add _ _, z⟩
end
