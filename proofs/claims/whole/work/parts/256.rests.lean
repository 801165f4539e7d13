/-! ===== calls: rests ===== -/
def gW (a b p : Int32) : Int32 := 3 * a + (if p < a + b then 0 else 20) - (if a ≤ b then 0 else 4)
def bB (a b p : Int32) : Bool := (List.range 10).all (fun i => decide (gW (nI i) b p ≤ gW a b p))
theorem bB_t {a b p : Int32} (h : ∀ i, i < 10 → gW (nI i) b p ≤ gW a b p) : bB a b p = true := List.all_eq_true.mpr (fun i hi => decide_eq_true (h i (List.mem_range.mp hi)))
theorem bB_f {a b p : Int32} {j : Nat} (hj : j < 10) (h : ¬ gW (nI j) b p ≤ gW a b p) : ¬ bB a b p = true := fun z => h (of_decide_eq_true (List.all_eq_true.mp z j (List.mem_range.mpr hj)))
def rsS (p : Int32) : Nat → Nat × List Int64
  | 0 => (0, [])
  | k + 1 => if bB (nI (k / 10)) (nI (k % 10)) p && bB (nI (k % 10)) (nI (k / 10)) p then ((rsS p k).1 + 1, if (rsS p k).1 = 0 then [(nI (k / 10)).toInt64, (nI (k % 10)).toInt64] else (rsS p k).2) else rsS p k
theorem rsS_ok (p : Int32) : ∀ k, (rsS p k).1 ≤ k ∧ (rsS p k).2.length ≤ 2 ∧ ((rsS p k).1 = 0 → (rsS p k).2 = [])
  | 0 => ⟨Nat.le_refl _, Nat.zero_le 2, fun _ => rfl⟩
  | k + 1 => by
    have ih := rsS_ok p k
    rw [rsS]
    split
    · refine ⟨Nat.succ_le_succ ih.1, ?_, fun e => absurd e (Nat.succ_ne_zero _)⟩
      show (if (rsS p k).1 = 0 then _ else _ : List Int64).length ≤ 2
      split
      · exact Nat.le_refl 2
      · exact ih.2.1
    · exact ⟨by omega, ih.2.1, ih.2.2⟩
section
variable {F : Nat}
theorem s7_worthOf {a b p : Int32} {Post : Int32 → Prop} (k : Post (gW a b p)) : p_X7_worthOf F a b p Post := by
  unfold p_X7_worthOf p_X7_worthOf_16
  unfold gW at k
  refine ⟨fun q => ⟨fun q2 => ?_, fun q2 => ?_⟩, fun q => ⟨fun q2 => ?_, fun q2 => ?_⟩⟩ <;> simp only [q, q2, if_true, if_false] at k <;> exact k
theorem s8_gets {a b p : Int32} {Post : Int32 → Prop} (k : Post (gW a b p)) : p_X8_gets F a b p Post := by
  unfold p_X8_gets p_X8_gets_16
  unfold gW at k
  refine ⟨fun q => ⟨fun q2 => ?_, fun q2 => ?_⟩, fun q => ⟨fun q2 => ?_, fun q2 => ?_⟩⟩ <;> simp only [q, q2, if_true, if_false] at k <;> exact k
theorem s7_staysAt {a b p : Int32} {Post : Int32 → Prop} (hF : 5000 ≤ F) (k : Post (if bB a b p then 1 else 0)) : p_X7_staysAt F a b p Post := by
  unfold p_X7_staysAt
  refine up_loop (fun n i (_ : Unit) => p_X7_staysAt_2 F a b p Post n i) (fun j _ => ∀ i, i < j → gW (nI i) b p ≤ gW a b p) 10 ?_ ?_ F () 0 (fun i hi => absurd hi (Nat.not_lt_zero _)) (by omega) (by omega)
  · intro n _ hs
    show p_X7_staysAt_2 F a b p Post (n + 1) (nI 10)
    rw [p_X7_staysAt_2_s]
    refine br_t (by decide) ?_
    rw [if_pos (bB_t hs)] at k
    exact k
  · intro n j _ hj hs ih
    show p_X7_staysAt_2 F a b p Post (n + 1) (nI j)
    rw [p_X7_staysAt_2_s]
    refine br_f (nI_nlt (a := 9) (by omega) (by omega)) (s7_worthOf (s7_worthOf ⟨fun q => ih () ?_, fun q => ?_⟩))
    · intro i hi
      rcases Nat.lt_succ_iff_lt_or_eq.mp hi with h | h
      · exact hs i h
      · subst h; exact q
    · rw [if_neg (bB_f hj q)] at k
      exact k
theorem s8_isBest {a b p : Int32} {Post : Int32 → Prop} (hF : 5000 ≤ F) (k : Post (if bB a b p then 1 else 0)) : p_X8_isBest F a b p Post := by
  unfold p_X8_isBest
  refine up_loop (fun n i (_ : Unit) => p_X8_isBest_2 F a b p Post n i) (fun j _ => ∀ i, i < j → gW (nI i) b p ≤ gW a b p) 10 ?_ ?_ F () 0 (fun i hi => absurd hi (Nat.not_lt_zero _)) (by omega) (by omega)
  · intro n _ hs
    show p_X8_isBest_2 F a b p Post (n + 1) (nI 10)
    rw [p_X8_isBest_2_s]
    refine br_t (by decide) ?_
    rw [if_pos (bB_t hs)] at k
    exact k
  · intro n j _ hj hs ih
    show p_X8_isBest_2 F a b p Post (n + 1) (nI j)
    rw [p_X8_isBest_2_s]
    refine br_f (nI_nlt (a := 9) (by omega) (by omega)) (s8_gets (s8_gets ⟨fun q => ih () ?_, fun q => ?_⟩))
    · intro i hi
      rcases Nat.lt_succ_iff_lt_or_eq.mp hi with h | h
      · exact hs i h
      · subst h; exact q
    · rw [if_neg (bB_f hj q)] at k
      exact k
theorem rs_in {p : Int32} {a b : Nat} (hb : b < 10) : rsS p (10 * a + b + 1) = if bB (nI a) (nI b) p && bB (nI b) (nI a) p then ((rsS p (10 * a + b)).1 + 1, if (rsS p (10 * a + b)).1 = 0 then [(nI a).toInt64, (nI b).toInt64] else (rsS p (10 * a + b)).2) else rsS p (10 * a + b) := by
  rw [rsS, show (10 * a + b) / 10 = a from by omega, show (10 * a + b) % 10 = b from by omega]
theorem t7_rests {p : Int32} {f : Nat → Int64} {Post : Int32 → (Int32 × (Nat → Int64)) → Prop} (hF : 5000 ≤ F) (kk : ∀ s2 f2, RLw (rsS p 100).2 s2 f2 → Post (nI (rsS p 100).1) (s2, f2)) : p_X7_rests_24 F p Post F 0 0 0 f := by
  refine up_loop (fun n i (s : Int32 × Int32 × (Nat → Int64)) => p_X7_rests_24 F p Post n i s.1 s.2.1 s.2.2) (fun j s => s.1 = nI (rsS p (10 * j)).1 ∧ RLw (rsS p (10 * j)).2 s.2.1 s.2.2) 10 ?_ ?_ F (0, 0, f) 0 ⟨rfl, RL_nil _⟩ (by omega) (by omega)
  · rintro n ⟨s, s2, f2⟩ ⟨h1, h2⟩
    have h1 : s = _ := h1
    subst h1
    show p_X7_rests_24 F p Post (n + 1) (nI 10) _ s2 f2
    rw [p_X7_rests_24_s]
    exact br_t (by decide) (kk s2 f2 h2)
  · rintro n a ⟨s, s2, f2⟩ ha ⟨h1, h2⟩ ih
    show p_X7_rests_24 F p Post (n + 1) (nI a) s s2 f2
    rw [p_X7_rests_24_s]
    refine br_f (nI_nlt (a := 9) (by omega) (by omega)) ?_
    refine up_loop (fun n2 i (s : Int32 × Int32 × (Nat → Int64)) => p_X7_rests_33 F p (nI a) (p_X7_rests_24 F p Post n) Post n2 i s.1 s.2.1 s.2.2) (fun j s => s.1 = nI (rsS p (10 * a + j)).1 ∧ RLw (rsS p (10 * a + j)).2 s.2.1 s.2.2) 10 ?_ ?_ F (s, s2, f2) 0 ⟨h1, h2⟩ (by omega) (by omega)
    · rintro n2 ⟨t, t2, g2⟩ ⟨h1, h2⟩
      show p_X7_rests_33 F p (nI a) (p_X7_rests_24 F p Post n) Post (n2 + 1) (nI 10) t t2 g2
      rw [p_X7_rests_33_s]
      exact br_t (by decide) (ih (t, t2, g2) ⟨h1, h2⟩)
    · rintro n2 b ⟨t, t2, g2⟩ hb ⟨h1, h2⟩ ih2
      have h1 : t = _ := h1
      have h2 : RLw _ t2 g2 := h2
      subst h1
      have hi := rs_in (p := p) (a := a) hb
      obtain ⟨r1, r2, r3⟩ := rsS_ok p (10 * a + b)
      show p_X7_rests_33 F p (nI a) (p_X7_rests_24 F p Post n) Post (n2 + 1) (nI b) (nI (rsS p (10 * a + b)).1) t2 g2
      rw [p_X7_rests_33_s]
      unfold p_X7_rests_84
      refine br_f (nI_nlt (a := 9) (by omega) (by omega)) (s7_staysAt hF ?_)
      by_cases q1 : bB (nI a) (nI b) p = true
      · rw [if_pos q1]
        refine br_f (by decide) (s7_staysAt hF ?_)
        by_cases q2 : bB (nI b) (nI a) p = true
        · rw [if_pos q2]
          rw [q1, q2, Bool.and_self, if_pos rfl] at hi
          refine br_f (by decide) ?_
          by_cases q3 : (rsS p (10 * a + b)).1 = 0
          · rw [q3]
            rw [if_pos q3] at hi
            rw [r3 q3] at h2
            refine ⟨fun z => absurd rfl z, fun _ => s3_add h2 (by decide) (fun s5 f5 h5 => s3_add h5 (by show 1 < 8; omega) (fun s6 f6 h6 => ih2 (_, _, _) ⟨?_, ?_⟩))⟩
            · show (nI 0 + 1 : Int32) = _
              rw [← Nat.add_assoc, hi, q3]; rfl
            · show RLw _ s6 f6
              rw [← Nat.add_assoc, hi]; exact h6
          · rw [if_neg q3] at hi
            rw [← nI_succ]
            refine ⟨fun _ => ih2 (_, _, _) ⟨?_, ?_⟩, fun z => absurd z ?_⟩
            · show nI _ = nI _
              rw [← Nat.add_assoc, hi]
            · show RLw _ t2 g2
              rw [← Nat.add_assoc, hi]; exact h2
            · exact fun z => absurd ((nI_eq (b := 1) (by omega) (by omega)).1 z) (by omega)
        · rw [if_neg q2]
          have q2 : bB (nI b) (nI a) p = false := by simpa using q2
          rw [q2, Bool.and_false, if_neg (by decide)] at hi
          refine br_t rfl (ih2 (_, _, _) ⟨?_, ?_⟩)
          · show nI _ = nI _
            rw [← Nat.add_assoc, hi]
          · show RLw _ t2 g2
            rw [← Nat.add_assoc, hi]; exact h2
      · rw [if_neg q1]
        have q1 : bB (nI a) (nI b) p = false := by simpa using q1
        rw [q1, Bool.false_and, if_neg (by decide)] at hi
        refine br_t rfl (ih2 (_, _, _) ⟨?_, ?_⟩)
        · show nI _ = nI _
          rw [← Nat.add_assoc, hi]
        · show RLw _ t2 g2
          rw [← Nat.add_assoc, hi]; exact h2
theorem t8_rests {p : Int32} {f : Nat → Int64} {Post : Int32 → (Int32 × Int32 × (Nat → Int64)) → Prop} (hF : 5000 ≤ F) (kk : ∀ s2 f2, RLw (rsS p 100).2 s2 f2 → Post (nI (rsS p 100).1) (s2, 0, f2)) : p_X8_rests_26 F p Post F 0 0 0 f := by
  refine up_loop (fun n i (s : Int32 × Int32 × (Nat → Int64)) => p_X8_rests_26 F p Post n i s.1 s.2.1 s.2.2) (fun j s => s.1 = nI (rsS p (10 * j)).1 ∧ RLw (rsS p (10 * j)).2 s.2.1 s.2.2) 10 ?_ ?_ F (0, 0, f) 0 ⟨rfl, RL_nil _⟩ (by omega) (by omega)
  · rintro n ⟨s, s2, f2⟩ ⟨h1, h2⟩
    have h1 : s = _ := h1
    subst h1
    show p_X8_rests_26 F p Post (n + 1) (nI 10) _ s2 f2
    rw [p_X8_rests_26_s]
    exact br_t (by decide) (kk s2 f2 h2)
  · rintro n a ⟨s, s2, f2⟩ ha ⟨h1, h2⟩ ih
    show p_X8_rests_26 F p Post (n + 1) (nI a) s s2 f2
    rw [p_X8_rests_26_s]
    refine br_f (nI_nlt (a := 9) (by omega) (by omega)) ?_
    refine up_loop (fun n2 i (s : Int32 × Int32 × (Nat → Int64)) => p_X8_rests_35 F p (nI a) (p_X8_rests_26 F p Post n) Post n2 i s.1 s.2.1 s.2.2) (fun j s => s.1 = nI (rsS p (10 * a + j)).1 ∧ RLw (rsS p (10 * a + j)).2 s.2.1 s.2.2) 10 ?_ ?_ F (s, s2, f2) 0 ⟨h1, h2⟩ (by omega) (by omega)
    · rintro n2 ⟨t, t2, g2⟩ ⟨h1, h2⟩
      show p_X8_rests_35 F p (nI a) (p_X8_rests_26 F p Post n) Post (n2 + 1) (nI 10) t t2 g2
      rw [p_X8_rests_35_s]
      exact br_t (by decide) (ih (t, t2, g2) ⟨h1, h2⟩)
    · rintro n2 b ⟨t, t2, g2⟩ hb ⟨h1, h2⟩ ih2
      have h1 : t = _ := h1
      have h2 : RLw _ t2 g2 := h2
      subst h1
      have hi := rs_in (p := p) (a := a) hb
      obtain ⟨r1, r2, r3⟩ := rsS_ok p (10 * a + b)
      show p_X8_rests_35 F p (nI a) (p_X8_rests_26 F p Post n) Post (n2 + 1) (nI b) (nI (rsS p (10 * a + b)).1) t2 g2
      rw [p_X8_rests_35_s]
      unfold p_X8_rests_82 p_X8_rests_85
      refine br_f (nI_nlt (a := 9) (by omega) (by omega)) (s8_isBest hF ?_)
      by_cases q1 : bB (nI a) (nI b) p = true
      · rw [if_pos q1]
        refine br_f (by decide) (s8_isBest hF ?_)
        by_cases q2 : bB (nI b) (nI a) p = true
        · rw [if_pos q2]
          rw [q1, q2, Bool.and_self, if_pos rfl] at hi
          refine ⟨fun _ => ?_, fun z => absurd z (by decide)⟩
          by_cases q3 : (rsS p (10 * a + b)).1 = 0
          · rw [q3]
            rw [if_pos q3] at hi
            rw [r3 q3] at h2
            refine ⟨fun z => absurd rfl z, fun _ => s8_tell h2 (by decide) (fun s5 f5 h5 => s8_tell h5 (by show 1 < 16; omega) (fun s6 f6 h6 => ih2 (_, _, _) ⟨?_, ?_⟩))⟩
            · show (nI 0 + 1 : Int32) = _
              rw [← Nat.add_assoc, hi, q3]; rfl
            · show RLw _ s6 f6
              rw [← Nat.add_assoc, hi]; exact h6
          · rw [if_neg q3] at hi
            refine ⟨fun _ => ih2 (_, _, _) ⟨?_, ?_⟩, fun z => absurd z ?_⟩
            · show nI _ + 1 = nI _
              rw [← nI_succ, ← Nat.add_assoc, hi]
            · show RLw _ t2 g2
              rw [← Nat.add_assoc, hi]; exact h2
            · exact fun z => absurd ((nI_eq (b := 0) (by omega) (by omega)).1 z) q3
        · rw [if_neg q2]
          have q2 : bB (nI b) (nI a) p = false := by simpa using q2
          rw [q2, Bool.and_false, if_neg (by decide)] at hi
          refine ⟨fun z => absurd rfl z, fun _ => ih2 (_, _, _) ⟨?_, ?_⟩⟩
          · show nI _ = nI _
            rw [← Nat.add_assoc, hi]
          · show RLw _ t2 g2
            rw [← Nat.add_assoc, hi]; exact h2
      · rw [if_neg q1]
        have q1 : bB (nI a) (nI b) p = false := by simpa using q1
        rw [q1, Bool.false_and, if_neg (by decide)] at hi
        refine br_t rfl (ih2 (_, _, _) ⟨?_, ?_⟩)
        · show nI _ = nI _
          rw [← Nat.add_assoc, hi]
        · show RLw _ t2 g2
          rw [← Nat.add_assoc, hi]; exact h2
end
section
variable {F : Nat} {x : XS} {m : MS} {am : MA}
theorem ob_rests (hF : 5000 ≤ F) (p : Int32) (h : Rel F x m) : p7_rests F p x (fun r x' => p8_rests F p m (fun r' m' => r = r' ∧ Rel F x' m')) := by
  obtain ⟨nA, nC, R, w, ok, hV, hM, eA, eC, hT, hW, hU, hN, hE, hH, hK⟩ := h
  unfold p7_rests p_X7_rests p8_rests p_X8_rests
  rcases arg3 p (n := 19) (by omega) with q | ⟨j, hj, e⟩
  · refine rg_no (n := 18) q (by omega) ?_ ?_ <;> exact s8_rgno (n := 18) q (by omega) ⟨fun z => absurd rfl z, fun _ => ⟨rfl, nA, nC, R, w, ok, hV, hM, eA, eC, hT, hW, hU, hN, hE, hH, hK⟩⟩
  · subst e
    refine rg_yes (n := 18) (by omega) (by omega) (s3_anew (t7_rests hF (fun s5 f5 h5 => ?_)))
    refine s8_rgyes (n := 18) (by omega) (by omega) ⟨fun _ => t8_rests hF (fun s6 f6 h6 => ?_), fun z => absurd z (by decide)⟩
    exact ⟨rfl, nA, nC, R, w, ok, hV, hM, eA, eC, hT, RWr_of (Nat.le_trans (rsS_ok (nI j) 100).2.1 (by decide)) h5 h6, hU, hN, hE, hH, hK⟩
end
