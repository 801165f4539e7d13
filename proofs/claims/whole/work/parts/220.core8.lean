/-! ===== the model's rows: what its methods answer, over w ===== -/
theorem cc6 {j : Nat} (h : j < 100) : ((6 : Int32) + nI j).toNatClampNeg = 6 + j := cl_add (a := 6) (by omega)
theorem ci6 {j : Nat} (h : 6 + j < 47) : vp_in ((6 : Int32) + nI j) 47 := in_add (a := 6) h (by omega)
theorem cc12 {j : Nat} (h : j < 100) : ((12 : Int32) + nI j).toNatClampNeg = 12 + j := cl_add (a := 12) (by omega)
theorem ci12 {j : Nat} (h : 12 + j < 47) : vp_in ((12 : Int32) + nI j) 47 := in_add (a := 12) h (by omega)
theorem cc20 {j : Nat} (h : j < 100) : ((20 : Int32) + nI j).toNatClampNeg = 20 + j := cl_add (a := 20) (by omega)
theorem ci20 {j : Nat} (h : 20 + j < 47) : vp_in ((20 : Int32) + nI j) 47 := in_add (a := 20) h (by omega)
theorem cc28 {j : Nat} (h : j < 100) : ((28 : Int32) + nI j).toNatClampNeg = 28 + j := cl_add (a := 28) (by omega)
theorem ci28 {j : Nat} (h : 28 + j < 47) : vp_in ((28 : Int32) + nI j) 47 := in_add (a := 28) h (by omega)
theorem cc36 {j : Nat} (h : j < 100) : ((36 : Int32) + nI j).toNatClampNeg = 36 + j := cl_add (a := 36) (by omega)
theorem ci36 {j : Nat} (h : 36 + j < 47) : vp_in ((36 : Int32) + nI j) 47 := in_add (a := 36) h (by omega)
section
variable {F nA nC m : Nat} {R : (Nat → Int32) → Int32} {w f rule asked : Nat → Int32} {rd : Value} {ln tp at0 wr ia : Int32} {q : Nat}
theorem s8_there {a : Int32} {Post : Int32 → Prop} (hF : 5000 ≤ F) (hM : MV w f) (hC : nC ≤ 8) (k : Post (nI (thN nC w a))) : p_X8_there F a (nI nC) 47 f Post := by
  unfold p_X8_there
  refine up_loop (fun n i s => p_X8_there_5 F a (nI nC) 47 f Post n i s) (fun j s => s = nI (bN (fun c => decide (w (36 + c) = a)) j)) nC ?_ ?_ F _ 0 rfl (by omega) (by omega)
  · intro m s hs
    subst hs
    show p_X8_there_5 F a (nI nC) 47 f Post (m + 1) _ _
    rw [p_X8_there_5_s]
    exact pk_le nC nC (fun _ => k) (fun h => absurd h (by omega))
  · intro m j s hj hs ih
    subst hs
    show p_X8_there_5 F a (nI nC) 47 f Post (m + 1) _ _
    rw [p_X8_there_5_s, cc36 (by omega), hM (36 + j) (by omega)]
    refine pk_le nC j (fun h => absurd h (by omega)) (fun _ => ⟨ci36 (by omega), fun q => ?_, fun q => ?_⟩)
    · exact ih _ (bN_of (by omega) (by simpa using q))
    · exact ih _ (bN_ot (by omega) (by simpa using q))
theorem s8_purrIn {c a : Nat} {o : Int32} {Post : Int32 → (Value × Int32 × Int32 × Int32 × Int32 × Int32 × (Nat → Int32)) → Prop} (hR : RM F R m rule) (hM : MV w f) (hc : c < 8) (ha : a < 6) (k : ∀ u, Post (pI R w c a o) u) : p_X8_purrIn F (nI c) (nI a) o rd ln tp at0 wr q (nI m) ia 47 f asked rule Post := by
  unfold p_X8_purrIn
  rw [cc12 (by omega), cc28 (by omega), cc20 (by omega), cc6 (by omega), nI_clamp (n := a) (by omega), hM (12 + c) (by omega), hM (28 + c) (by omega), hM (20 + c) (by omega), hM (6 + a) (by omega), hM a (by omega)]
  refine ⟨ci12 (by omega), ci28 (by omega), ?_⟩
  obtain ⟨hm, hR⟩ := hR
  rcases hR with ⟨rfl, hR⟩ | ⟨hm0, hR⟩
  · refine br_t (nI_le (a := 0) (b := 0) (by omega) (by omega)) ?_
    have := k (rd, ln, tp, at0, wr, ia, asked)
    unfold pI at this
    rw [hR] at this
    exact this
  · refine br_f (nI_ge (a := 0) hm0 (by omega)) ⟨ci12 (by omega), pk_in 0 7 (by omega), ci20 (by omega), pk_in 1 7 (by omega), ci28 (by omega), pk_in 2 7 (by omega), pk_in 3 7 (by omega), pk_in a 47 (by omega), pk_in 4 7 (by omega), ci6 (by omega), pk_in 5 7 (by omega), pk_in 45 47 (by omega), by decide, pk_in 6 7 (by omega), ?_⟩
    refine hR (lett w c a o) _ _ (fun i hi => ?_) (fun u => k _)
    rcases co_dec (N := 7) (P := fun i => i = 0 ∨ i = 1 ∨ i = 2 ∨ i = 3 ∨ i = 4 ∨ i = 5 ∨ i = 6) (by decide) hi with rfl | rfl | rfl | rfl | rfl | rfl | rfl
    · rfl
    · rfl
    · rfl
    · rfl
    · rfl
    · rfl
    · show f 45 - f 45 / 7 * 7 = w 45 - w 45 / 7 * 7
      rw [hM 45 (by omega)]
theorem s8_purrOf {c : Nat} {Post : Int32 → (Value × Int32 × Int32 × Int32 × Int32 × Int32 × (Nat → Int32)) → Prop} (hF : 5000 ≤ F) (hR : RM F R m rule) (hM : MV w f) (ok : OK nA nC w) (hc : c < nC) (k : ∀ u, Post (pO R nC w c) u) : p_X8_purrOf F (nI c) (nI nC) rd ln tp at0 wr q (nI m) ia 47 f asked rule Post := by
  obtain ⟨hA, hC, _, hpl, _⟩ := ok
  unfold p_X8_purrOf
  rw [cc36 (by omega), hM (36 + c) (by omega)]
  refine ⟨ci36 (by omega), s8_there hF hM hC (s_bitCount ?_)⟩
  obtain ⟨a, ha, e⟩ := hpl c hc
  unfold pO at k
  rw [e] at k ⊢
  rw [nI_clamp (n := a) (by omega)] at k
  exact s8_purrIn hR hM (by omega) (by omega) (fun u => k _)
theorem pO_at {c a : Nat} (h : w (36 + c) = nI a) (ha : a < 6) : pO R nC w c = pI R w c a (bcnt (nI (thN nC w (nI a))) - 1) := by
  unfold pO
  rw [h, nI_clamp (n := a) (by omega)]
theorem s8_holdOf {a : Nat} {Post : Int32 → (Value × Int32 × Int32 × Int32 × Int32 × Int32 × (Nat → Int32)) → Prop} (hF : 5000 ≤ F) (hR : RM F R m rule) (hM : MV w f) (ok : OK nA nC w) (ha : a < 6) (k : ∀ u, Post (hO R nC w a) u) : p_X8_holdOf F (nI a) (nI nC) rd ln tp at0 wr q (nI m) ia 47 f asked rule Post := by
  have hC := ok.2.1
  unfold p_X8_holdOf
  refine up_loop (fun n i (s : Int32 × Value × Int32 × Int32 × Int32 × Int32 × Int32 × (Nat → Int32)) => p_X8_holdOf_5 F (nI a) (nI nC) q (nI m) 47 f rule Post n i s.1 s.2.1 s.2.2.1 s.2.2.2.1 s.2.2.2.2.1 s.2.2.2.2.2.1 s.2.2.2.2.2.2.1 s.2.2.2.2.2.2.2) (fun j s => s.1 = hS R nC w a j) nC ?_ ?_ F (0, rd, ln, tp, at0, wr, ia, asked) 0 rfl (by omega) (by omega)
  · rintro n ⟨s, u1, u2, u3, u4, u5, u6, u7⟩ hs
    have hs : s = _ := hs
    subst hs
    show p_X8_holdOf_5 F (nI a) (nI nC) q (nI m) 47 f rule Post (n + 1) (nI nC) (hS R nC w a nC) u1 u2 u3 u4 u5 u6 u7
    rw [p_X8_holdOf_5_s]
    exact pk_le nC nC (fun _ => k _) (fun h => absurd h (by omega))
  · rintro n j ⟨s, u1, u2, u3, u4, u5, u6, u7⟩ hj hs ih
    have hs : s = _ := hs
    subst hs
    show p_X8_holdOf_5 F (nI a) (nI nC) q (nI m) 47 f rule Post (n + 1) (nI j) (hS R nC w a j) u1 u2 u3 u4 u5 u6 u7
    rw [p_X8_holdOf_5_s, cc36 (by omega), hM (36 + j) (by omega)]
    refine pk_le nC j (fun h => absurd h (by omega)) (fun _ => ⟨ci36 (by omega), fun e => ?_, fun e => ?_⟩)
    · refine ih (hS R nC w a j + 0, u1, u2, u3, u4, u5, u6, u7) ?_
      show _ = hS R nC w a (j + 1)
      rw [hS, if_neg e]
    · refine s8_purrOf hF hR hM ok hj (fun u => ?_)
      refine ih (hS R nC w a j + pO R nC w j, u.1, u.2.1, u.2.2.1, u.2.2.2.1, u.2.2.2.2.1, u.2.2.2.2.2.1, u.2.2.2.2.2.2) ?_
      show _ = hS R nC w a (j + 1)
      rw [hS, if_pos e, pO_at e ha]
theorem s8_sumOf {b n : Nat} {Post : Int32 → Prop} (hF : 5000 ≤ F) (hM : MV w f) (hb : b + n ≤ 47) (k : Post (sumI (fun i => w (b + i)) n)) : p_X8_sumOf F (nI b) (nI n) 47 f Post := by
  unfold p_X8_sumOf
  refine up_loop (fun n' i s => p_X8_sumOf_5 F (nI b) (nI n) 47 f Post n' i s) (fun j s => s = sumI (fun i => w (b + i)) j) n ?_ ?_ F _ 0 rfl (by omega) (by omega)
  · intro m s hs
    subst hs
    show p_X8_sumOf_5 F (nI b) (nI n) 47 f Post (m + 1) _ _
    rw [p_X8_sumOf_5_s]
    exact pk_le n n (fun _ => k) (fun h => absurd h (by omega))
  · intro m j s hj hs ih
    subst hs
    show p_X8_sumOf_5 F (nI b) (nI n) 47 f Post (m + 1) _ _
    rw [p_X8_sumOf_5_s, cl_add (by omega), hM (b + j) (by omega)]
    refine pk_le n j (fun h => absurd h (by omega)) (fun _ => ⟨in_add (by omega) (by omega), ?_⟩)
    exact ih _ rfl
theorem s8_sags {Post : Int32 → Prop} (hF : 5000 ≤ F) (hM : MV w f) (hA : nA ≤ 6) (k : Post (sagS nA w)) : p_X8_sags F (nI nA) 47 f Post := s8_sumOf (b := 6) hF hM (by omega) k
theorem t8_loads {Post : Int32 → Prop} (hF : 5000 ≤ F) (hM : MV w f) (hA : nA ≤ 6) (k : Post (loadS nA w)) : p_X8_sumOf F 0 (nI nA) 47 f Post := s8_sumOf (b := 0) hF hM (by omega) (by rw [sumI_cong (g := w) (fun i _ => by rw [Nat.zero_add])]; exact k)
theorem s8_joys {Post : Int32 → Prop} (hF : 5000 ≤ F) (hM : MV w f) (hC : nC ≤ 8) (k : Post (joyS nC w)) : p_X8_sumOf F 12 (nI nC) 47 f Post := s8_sumOf (b := 12) hF hM (by omega) k
theorem s8_allHold {Post : Int32 → (Value × Int32 × Int32 × Int32 × Int32 × Int32 × (Nat → Int32)) → Prop} (hF : 5000 ≤ F) (hR : RM F R m rule) (hM : MV w f) (ok : OK nA nC w) (k : ∀ u, Post (holdAll R nA nC w) u) : p_X8_allHold F (nI nA) (nI nC) rd ln tp at0 wr q (nI m) ia 47 f asked rule Post := by
  have hA := ok.1
  unfold p_X8_allHold
  refine up_loop (fun n i (s : Int32 × Value × Int32 × Int32 × Int32 × Int32 × Int32 × (Nat → Int32)) => p_X8_allHold_4 F (nI nA) (nI nC) q (nI m) 47 f rule Post n i s.1 s.2.1 s.2.2.1 s.2.2.2.1 s.2.2.2.2.1 s.2.2.2.2.2.1 s.2.2.2.2.2.2.1 s.2.2.2.2.2.2.2) (fun j s => s.1 = sumI (fun a => hO R nC w a) j) nA ?_ ?_ F (0, rd, ln, tp, at0, wr, ia, asked) 0 rfl (by omega) (by omega)
  · rintro n ⟨s, u1, u2, u3, u4, u5, u6, u7⟩ hs
    have hs : s = _ := hs
    subst hs
    show p_X8_allHold_4 F (nI nA) (nI nC) q (nI m) 47 f rule Post (n + 1) (nI nA) _ u1 u2 u3 u4 u5 u6 u7
    rw [p_X8_allHold_4_s]
    exact pk_le nA nA (fun _ => k _) (fun h => absurd h (by omega))
  · rintro n j ⟨s, u1, u2, u3, u4, u5, u6, u7⟩ hj hs ih
    have hs : s = _ := hs
    subst hs
    show p_X8_allHold_4 F (nI nA) (nI nC) q (nI m) 47 f rule Post (n + 1) (nI j) (sumI (fun a => hO R nC w a) j) u1 u2 u3 u4 u5 u6 u7
    rw [p_X8_allHold_4_s]
    refine pk_le nA j (fun h => absurd h (by omega)) (fun _ => ?_)
    exact s8_holdOf hF hR hM ok (by omega) (fun u => ih (_, _, _, _, _, _, _, _) rfl)
theorem s8_holding {Post : Int32 → (Value × Int32 × Int32 × Int32 × Int32 × Int32 × (Nat → Int32)) → Prop} (hF : 5000 ≤ F) (hR : RM F R m rule) (hM : MV w f) (ok : OK nA nC w) (k : ∀ u, Post (nI (held R nA nC w)) u) : p_X8_holding F (nI nA) (nI nC) rd ln tp at0 wr q (nI m) ia 47 f asked rule Post := by
  have hA := ok.1
  unfold p_X8_holding
  refine up_loop (fun n i (s : Int32 × Value × Int32 × Int32 × Int32 × Int32 × Int32 × (Nat → Int32)) => p_X8_holding_4 F (nI nA) (nI nC) q (nI m) 47 f rule Post n i s.1 s.2.1 s.2.2.1 s.2.2.2.1 s.2.2.2.2.1 s.2.2.2.2.2.1 s.2.2.2.2.2.2.1 s.2.2.2.2.2.2.2) (fun j s => s.1 = nI (bN (fun a => ! decide (hO R nC w a < w a)) j)) nA ?_ ?_ F (0, rd, ln, tp, at0, wr, ia, asked) 0 rfl (by omega) (by omega)
  · rintro n ⟨s, u1, u2, u3, u4, u5, u6, u7⟩ hs
    have hs : s = _ := hs
    subst hs
    show p_X8_holding_4 F (nI nA) (nI nC) q (nI m) 47 f rule Post (n + 1) (nI nA) _ u1 u2 u3 u4 u5 u6 u7
    rw [p_X8_holding_4_s]
    exact pk_le nA nA (fun _ => k _) (fun h => absurd h (by omega))
  · rintro n j ⟨s, u1, u2, u3, u4, u5, u6, u7⟩ hj hs ih
    have hs : s = _ := hs
    subst hs
    show p_X8_holding_4 F (nI nA) (nI nC) q (nI m) 47 f rule Post (n + 1) (nI j) (nI (bN (fun a => ! decide (hO R nC w a < w a)) j)) u1 u2 u3 u4 u5 u6 u7
    rw [p_X8_holding_4_s, nI_clamp (n := j) (by omega), hM j (by omega)]
    refine pk_le nA j (fun h => absurd h (by omega)) (fun _ => ?_)
    refine s8_holdOf hF hR hM ok (by omega) (fun u => ⟨pk_in j 47 (by omega), fun e => ?_, fun e => ?_⟩)
    · exact ih (_, _, _, _, _, _, _, _) (bN_of (by omega) (by simpa using e))
    · exact ih (_, _, _, _, _, _, _, _) (bN_ot (by omega) (by simpa using e))
theorem s8_lowest {Post : Int32 → Prop} (hF : 5000 ≤ F) (hM : MV w f) (hA : nA ≤ 6) (k : Post (nI (lows nA w))) : p_X8_lowest F (nI nA) 47 f Post := by
  unfold p_X8_lowest
  refine up_loop (fun n i s => p_X8_lowest_4 F (nI nA) 47 f Post n i s) (fun j s => s = nI (bN (fun a => decide (w (6 + a) = 9)) j)) nA ?_ ?_ F _ 0 rfl (by omega) (by omega)
  · intro m s hs
    subst hs
    show p_X8_lowest_4 F (nI nA) 47 f Post (m + 1) _ _
    rw [p_X8_lowest_4_s]
    exact pk_le nA nA (fun _ => k) (fun h => absurd h (by omega))
  · intro m j s hj hs ih
    subst hs
    show p_X8_lowest_4 F (nI nA) 47 f Post (m + 1) _ _
    rw [p_X8_lowest_4_s, cc6 (by omega), hM (6 + j) (by omega)]
    refine pk_le nA j (fun h => absurd h (by omega)) (fun _ => ⟨ci6 (by omega), fun q => ?_, fun q => ?_⟩)
    · exact ih _ (bN_of (by omega) (by simpa using q))
    · exact ih _ (bN_ot (by omega) (by simpa using q))
/-- a copy of a row into another, from place b on -/
theorem s8_lay {b N : Nat} {g : Nat → Int32} {Post : (Nat → Int32) → Prop} (hF : 5000 ≤ F) (hM : MV w f) (hb : b + 47 ≤ N) (hN : N < 2000) (k : ∀ g2, (∀ i, i < 47 → g2 (b + i) = w i) → (∀ i, i < b ∨ b + 47 ≤ i → g2 i = g i) → Post g2) : p_X8_lay F (nI b) 47 f N g Post := by
  unfold p_X8_lay
  refine up_loop (fun n i s => p_X8_lay_2 F (nI b) 47 f N Post n i s) (fun j s => (∀ i, i < j → s (b + i) = w i) ∧ (∀ i, i < b ∨ b + 47 ≤ i → s i = g i)) 47 ?_ ?_ F g 0 ⟨fun i hi => absurd hi (by omega), fun i _ => rfl⟩ (by omega) (by omega)
  · rintro m s ⟨h1, h2⟩
    show p_X8_lay_2 F (nI b) 47 f N Post (m + 1) (nI 47) s
    rw [p_X8_lay_2_s]
    exact br_t (nI_le (a := 47) (b := 47) (by omega) (by omega)) (k s h1 h2)
  · rintro m j s hj ⟨h1, h2⟩ ih
    show p_X8_lay_2 F (nI b) 47 f N Post (m + 1) (nI j) s
    rw [p_X8_lay_2_s, cl_add (by omega), nI_clamp (n := j) (by omega), hM j hj]
    refine br_f (nI_ge (b := 47) hj (by omega)) ⟨pk_in j 47 hj, in_add (by omega) (by omega), ih _ ⟨fun i hi => ?_, fun i hi => ?_⟩⟩
    · rw [upd_i]
      by_cases e : i = j
      · subst e; rw [if_pos rfl]
      · rw [if_neg (by omega)]; exact h1 i (by omega)
    · rw [upd_i, if_neg (by omega)]; exact h2 i hi
theorem s8_lay0 {g : Nat → Int32} {Post : (Nat → Int32) → Prop} (hF : 5000 ≤ F) (hM : MV w f) (k : ∀ g2, MV w g2 → Post g2) : p_X8_lay F 0 47 f 47 g Post := s8_lay (b := 0) hF hM (by omega) (by omega) (fun g2 h _ => k g2 (fun i hi => by have := h i hi; rwa [Nat.zero_add] at this))
end
