/-! ===== calls: safe, down ===== -/
section
variable {F : Nat} {x : XS} {m : MS} {am : MA}
def sfP (R : (Nat → Int32) → Int32) (nA nC : Nat) (w : Nat → Int32) : Nat → Bool := fun k => decide (sagS nA (goHs R nA nC k w) = 0)
theorem ob_safe (hF : 5000 ≤ F) (h : Rel F x m) : p7_safe F x (fun r x' => p8_safe F am m (fun r' m' => r = r' ∧ Rel F x' m')) := by
  obtain ⟨nA, nC, R, w, ok, hV, hM, eA, eC, hT, hW, hU, hN, hE, hH, hK⟩ := h
  have hA := ok.1
  have hC := ok.2.1
  obtain ⟨hRX, rs, ers, hRM⟩ := id hU
  unfold p7_safe p_X7_safe p8_safe p_X8_safe
  rw [eA, eC, ers]
  refine s6_become hV (fun l2 s2 j2 b2 g2 q2 hVb => ?_)
  generalize hP : sfP R nA nC w = P
  have eP : ∀ k, P k = decide (sagS nA (goHs R nA nC k w) = 0) := fun k => by rw [← hP]; rfl
  have md : ∀ Post : Int32 → (Int32 × Int32 × Value × Int32 × Int32 × Int32 × Int32 × Int32 × Int32 × (Nat → Int32) × (Nat → Int32) × (Nat → Int32) × (Nat → Int64)) → Prop, (fstI P 100 = -2 → ∀ u1 u2 u3 u4 u5 u6 u7 f2 as hd, Post (-2) (m.x_rowMany, 0, u1, u2, u3, u4, u5, u6, u7, f2, as, hd, m.f_row)) → (¬ fstI P 100 = -2 → ∀ s5 f5 u1 u2 u3 u4 u5 u6 u7 f2 as hd, RLw ([] ++ [(cntI P 100).toInt64]) s5 f5 → Post (fstI P 100) (s5, 0, u1, u2, u3, u4, u5, u6, u7, f2, as, hd, f5)) → p_X8_lay F 0 47 m.f_now 47 m.f_then (fun u_19 => p_X8_safe_24 F (nI nA) (nI nC) m.x_rowMany am.q_rule (nI rs) m.f_rule m.f_row Post F 0 0 (-2) m.w_read m.x_length m.x_top m.x_at m.x_wrong m.x_isAsked m.x_dropped u_19 m.f_asked m.f_hold) := by
    intro Post k1 k2
    refine s8_lay0 hF hM (fun g hg => ?_)
    refine up_loop (fun q i (s : Int32 × Int32 × Value × Int32 × Int32 × Int32 × Int32 × Int32 × Int32 × (Nat → Int32) × (Nat → Int32) × (Nat → Int32)) => p_X8_safe_24 F (nI nA) (nI nC) m.x_rowMany am.q_rule (nI rs) m.f_rule m.f_row Post q i s.1 s.2.1 s.2.2.1 s.2.2.2.1 s.2.2.2.2.1 s.2.2.2.2.2.1 s.2.2.2.2.2.2.1 s.2.2.2.2.2.2.2.1 s.2.2.2.2.2.2.2.2.1 s.2.2.2.2.2.2.2.2.2.1 s.2.2.2.2.2.2.2.2.2.2.1 s.2.2.2.2.2.2.2.2.2.2.2) (fun j s => s.1 = cntI P j ∧ s.2.1 = fstI P j ∧ MV (goHs R nA nC j w) s.2.2.2.2.2.2.2.2.2.1) 100 ?_ ?_ F (0, -2, m.w_read, m.x_length, m.x_top, m.x_at, m.x_wrong, m.x_isAsked, m.x_dropped, g, m.f_asked, m.f_hold) 0 ⟨rfl, rfl, hg⟩ (by omega) (by omega)
    · rintro q ⟨c, f, u1, u2, u3, u4, u5, u6, u7, g1, u8, u9⟩ ⟨e1, e2, e3⟩
      have e1 : c = _ := e1
      have e2 : f = _ := e2
      subst e1 e2
      show p_X8_safe_24 F (nI nA) (nI nC) m.x_rowMany am.q_rule (nI rs) m.f_rule m.f_row Post (q + 1) (nI 100) (cntI P 100) (fstI P 100) u1 u2 u3 u4 u5 u6 u7 g1 u8 u9
      rw [p_X8_safe_24_s]
      refine br_t (by decide) ⟨fun z => s8_tell (RL_nil _) (by decide) (fun s5 f5 h5 => k2 z _ _ _ _ _ _ _ _ _ _ _ _ h5), fun z => k1 z _ _ _ _ _ _ _ _ _ _⟩
    · rintro q j ⟨c, f, u1, u2, u3, u4, u5, u6, u7, g1, u8, u9⟩ hj ⟨e1, e2, e3⟩ ih
      have e1 : c = _ := e1
      have e2 : f = _ := e2
      have e3' : MV (goHs R nA nC j w) g1 := e3
      subst e1 e2
      show p_X8_safe_24 F (nI nA) (nI nC) m.x_rowMany am.q_rule (nI rs) m.f_rule m.f_row Post (q + 1) (nI j) (cntI P j) (fstI P j) u1 u2 u3 u4 u5 u6 u7 g1 u8 u9
      rw [p_X8_safe_24_s]
      have go : ∀ c2 f2, c2 = cntI P (j + 1) → f2 = fstI P (j + 1) → p_X8_safe_56 F (nI nA) (nI nC) am.q_rule (nI rs) m.f_rule (nI j) u1 u2 u3 u4 u5 u6 u7 g1 u8 u9 (p_X8_safe_24 F (nI nA) (nI nC) m.x_rowMany am.q_rule (nI rs) m.f_rule m.f_row Post q) Post f2 c2 := by
        intro c2 f2 e4 e5
        unfold p_X8_safe_56
        refine s8_goHour hF hRM e3' (goHs_OK ok j) (fun u1 u2 u3 u4 u5 u6 f3 as hd z => ?_)
        exact ih (_, _, _, _, _, _, _, _, _, _, _, _) ⟨e4, e5, z⟩
      refine br_f (nI_nlt (a := 99) (b := j) (by omega) (by omega)) (s8_sags hF e3' hA ⟨fun z => ?_, fun z => ⟨fun z2 => ?_, fun z2 => ?_⟩⟩)
      · have pj : P j = false := by rw [eP]; simp [z]
        exact go _ _ (by rw [cntI, pj]; rfl) (by rw [fstI, pj]; rfl)
      · have pj : P j = true := by rw [eP]; simp [z]
        exact go _ _ (by rw [cntI, if_pos pj]) (by rw [fstI, if_pos pj, if_neg z2])
      · have pj : P j = true := by rw [eP]; simp [z]
        exact go _ _ (by rw [cntI, if_pos pj]) (by rw [fstI, if_pos pj, if_pos z2])
  refine up_loop (fun q i (s : Int32 × Int32 × Int32 × Int32 × (Nat → Int32) × (Nat → Int32) × (Nat → Int32) × (Nat → Int32) × Int32 × (Nat → Int32)) => p_X7_safe_18 F x.x_ruling_size x.f_ruling_steps x.x_told_size x.f_told_numbers (x.x_now_arches, x.x_now_cats, x.x_now_store, x.x_now_hour, x.x_now_drops, l2, s2, j2, b2, g2, q2) _ q i s.1 s.2.1 s.2.2.1 s.2.2.2.1 s.2.2.2.2.1 s.2.2.2.2.2.1 s.2.2.2.2.2.2.1 s.2.2.2.2.2.2.2.1 s.2.2.2.2.2.2.2.2.1 s.2.2.2.2.2.2.2.2.2) (fun j s => s.1 = cntI P j ∧ s.2.1 = fstI P j ∧ AV nA nC (goHs R nA nC j w) x.x_now_arches x.x_now_cats x.x_now_store s.2.2.1 s.2.2.2.1 l2 s.2.2.2.2.1 s.2.2.2.2.2.1 s.2.2.2.2.2.2.1 s.2.2.2.2.2.2.2.1 q2) 100 ?_ ?_ F (0, -2, x.x_now_hour, x.x_now_drops, s2, j2, b2, g2, x.x_ruling_top, x.f_ruling_stack) 0 ⟨rfl, rfl, hVb⟩ (by omega) (by omega)
  · rintro q ⟨c, f, v1, v2, v3, v4, v5, v6, v7, v8⟩ ⟨e1, e2, e3⟩
    have e1 : c = _ := e1
    have e2 : f = _ := e2
    subst e1 e2
    show p_X7_safe_18 F x.x_ruling_size x.f_ruling_steps x.x_told_size x.f_told_numbers (x.x_now_arches, x.x_now_cats, x.x_now_store, x.x_now_hour, x.x_now_drops, l2, s2, j2, b2, g2, q2) _ (q + 1) (nI 100) (cntI P 100) (fstI P 100) v1 v2 v3 v4 v5 v6 v7 v8
    rw [p_X7_safe_18_s]
    refine br_t (by decide) (s7_told ((fstI_c P 100 (by omega)).imp id (fun ⟨k, hk, e⟩ => ⟨k, by omega, e⟩)) (fun z => ?_) (fun z s6 f6 h6 => ?_))
    · refine md _ (fun _ u1 u2 u3 u4 u5 u6 u7 f2 as hd => ?_) (fun z2 => absurd z z2)
      exact ⟨rfl, nA, nC, R, w, ok, hV, hM, rfl, rfl, hT, hW, ⟨hRX, rs, rfl, hRM⟩, hN, hE, hH, hK⟩
    · refine md _ (fun z2 => absurd z2 z) (fun _ s7 f7 u1 u2 u3 u4 u5 u6 u7 f2 as hd h7 => ?_)
      exact ⟨rfl, nA, nC, R, w, ok, hV, hM, rfl, rfl, hT, RWr_of (by show 1 ≤ 8; omega) h6 h7, ⟨hRX, rs, rfl, hRM⟩, hN, hE, hH, hK⟩
  · rintro q j ⟨c, f, v1, v2, v3, v4, v5, v6, v7, v8⟩ hj ⟨e1, e2, e3⟩ ih
    have e1 : c = _ := e1
    have e2 : f = _ := e2
    have e3' : AV nA nC (goHs R nA nC j w) x.x_now_arches x.x_now_cats x.x_now_store v1 v2 l2 v3 v4 v5 v6 q2 := e3
    subst e1 e2
    show p_X7_safe_18 F x.x_ruling_size x.f_ruling_steps x.x_told_size x.f_told_numbers (x.x_now_arches, x.x_now_cats, x.x_now_store, x.x_now_hour, x.x_now_drops, l2, s2, j2, b2, g2, q2) _ (q + 1) (nI j) (cntI P j) (fstI P j) v1 v2 v3 v4 v5 v6 v7 v8
    rw [p_X7_safe_18_s]
    refine br_f (nI_ge (b := 100) hj (by omega)) (s6_allSags hF e3' hA ⟨fun z => ?_, fun z => ⟨fun z2 => ?_, fun z2 => ?_⟩⟩)
    · have pj : P j = false := by rw [eP]; simp [z]
      unfold p_X7_safe_49
      refine s6_passHour hF hRX e3' (goHs_OK ok j) (fun h d t st s2 j2 g2 b2 z => ?_)
      exact ih (_, _, _, _, _, _, _, _, _, _) ⟨by rw [cntI, pj]; rfl, by rw [fstI, pj]; rfl, z⟩
    · have pj : P j = true := by rw [eP]; simp [z]
      unfold p_X7_safe_48 p_X7_safe_49
      refine s6_passHour hF hRX e3' (goHs_OK ok j) (fun h d t st s2 j2 g2 b2 z => ?_)
      exact ih (_, _, _, _, _, _, _, _, _, _) ⟨by rw [cntI, if_pos pj], by rw [fstI, if_pos pj, if_neg z2], z⟩
    · have pj : P j = true := by rw [eP]; simp [z]
      unfold p_X7_safe_48 p_X7_safe_49
      refine s6_passHour hF hRX e3' (goHs_OK ok j) (fun h d t st s2 j2 g2 b2 z => ?_)
      exact ih (_, nI j, _, _, _, _, _, _, _, _) ⟨by rw [cntI, if_pos pj], by rw [fstI, if_pos pj, if_pos z2], z⟩
theorem lows_lt {nA : Nat} (w : Nat → Int32) (h : nA ≤ 6) : lows nA w < 64 := Nat.lt_of_lt_of_le (bN_lt _ nA) (Nat.pow_le_pow_right (n := 2) (by decide) h)
theorem nI_0i {n : Nat} (h : n < 1000) : nI n = 0 ↔ n = 0 := nI_eq (b := 0) (by omega) (by omega)
theorem ob_down (hF : 5000 ≤ F) (h : Rel F x m) : p7_down F x (fun r x' => p8_down F am m (fun r' m' => r = r' ∧ Rel F x' m')) := by
  obtain ⟨nA, nC, R, w, ok, hV, hM, eA, eC, hT, hW, hU, hN, hE, hH, hK⟩ := h
  have hA := ok.1
  have hC := ok.2.1
  obtain ⟨hRX, rs, ers, hRM⟩ := id hU
  unfold p7_down p_X7_down p8_down p_X8_down
  rw [eA, eC, ers]
  refine s6_become hV (fun l2 s2 j2 b2 g2 q2 hVb => ?_)
  have md : ∀ (e : Nat) (Post : Int32 → (Int32 × Int32 × Value × Int32 × Int32 × Int32 × Int32 × Int32 × Int32 × (Nat → Int32) × (Nat → Int64) × (Nat → Int32) × (Nat → Int32)) → Prop), e ≤ 100 → (∀ i, i < e → lows nA (goHs R nA nC i w) = 0) → (e = 100 → ∀ u1 u2 u3 u4 u5 u6 u7 f2 as hd, Post (-2) (m.x_rowMany, 0, u1, u2, u3, u4, u5, u6, u7, f2, m.f_row, as, hd)) → (e < 100 → ¬ lows nA (goHs R nA nC e w) = 0 ∧ ∀ s5 f5 u1 u2 u3 u4 u5 u6 u7 f2 as hd, RLw ([] ++ [(nI (lows nA (goHs R nA nC e w))).toInt64]) s5 f5 → Post (nI e) (s5, 0, u1, u2, u3, u4, u5, u6, u7, f2, f5, as, hd)) → p_X8_lay F 0 47 m.f_now 47 m.f_then (fun u_14 => p_X8_down_19 F (nI nA) (nI nC) m.x_rowMany am.q_rule (nI rs) m.f_row m.f_rule Post F 0 m.w_read m.x_length m.x_top m.x_at m.x_wrong m.x_isAsked m.x_dropped u_14 m.f_asked m.f_hold) := by
    intro e Post he h0 k1 k2
    refine s8_lay0 hF hM (fun g hg => ?_)
    refine up_loop (fun q i (s : Value × Int32 × Int32 × Int32 × Int32 × Int32 × Int32 × (Nat → Int32) × (Nat → Int32) × (Nat → Int32)) => p_X8_down_19 F (nI nA) (nI nC) m.x_rowMany am.q_rule (nI rs) m.f_row m.f_rule Post q i s.1 s.2.1 s.2.2.1 s.2.2.2.1 s.2.2.2.2.1 s.2.2.2.2.2.1 s.2.2.2.2.2.2.1 s.2.2.2.2.2.2.2.1 s.2.2.2.2.2.2.2.2.1 s.2.2.2.2.2.2.2.2.2) (fun j s => MV (goHs R nA nC j w) s.2.2.2.2.2.2.2.1) e ?_ ?_ F (m.w_read, m.x_length, m.x_top, m.x_at, m.x_wrong, m.x_isAsked, m.x_dropped, g, m.f_asked, m.f_hold) 0 hg (by omega) (by omega)
    · rintro q ⟨u1, u2, u3, u4, u5, u6, u7, g1, u8, u9⟩ e3
      have e3' : MV (goHs R nA nC e w) g1 := e3
      show p_X8_down_19 F (nI nA) (nI nC) m.x_rowMany am.q_rule (nI rs) m.f_row m.f_rule Post (q + 1) (nI e) u1 u2 u3 u4 u5 u6 u7 g1 u8 u9
      rw [p_X8_down_19_s]
      rcases Nat.lt_or_ge e 100 with q1 | q1
      · obtain ⟨ne, k2⟩ := k2 q1
        have lt := lows_lt (goHs R nA nC e w) hA
        refine br_f (nI_nlt (a := 99) (b := e) (by omega) (by omega)) (s8_lowest hF e3' hA (br_f (by rw [nI_0i (by omega)]; exact ne) (s8_lowest hF e3' hA (s8_tell (RL_nil _) (by decide) (fun s5 f5 h5 => k2 _ _ _ _ _ _ _ _ _ _ _ _ h5)))))
      · exact br_t (nI_lt (a := 99) (b := e) (by omega) (by omega)) (k1 (by omega) _ _ _ _ _ _ _ _ _ _)
    · rintro q j ⟨u1, u2, u3, u4, u5, u6, u7, g1, u8, u9⟩ hj e3 ih
      have e3' : MV (goHs R nA nC j w) g1 := e3
      show p_X8_down_19 F (nI nA) (nI nC) m.x_rowMany am.q_rule (nI rs) m.f_row m.f_rule Post (q + 1) (nI j) u1 u2 u3 u4 u5 u6 u7 g1 u8 u9
      rw [p_X8_down_19_s]
      refine br_f (nI_nlt (a := 99) (b := j) (by omega) (by omega)) (s8_lowest hF e3' hA (br_t (by rw [h0 j hj]; rfl) ?_))
      refine s8_goHour hF hRM e3' (goHs_OK ok j) (fun u1 u2 u3 u4 u5 u6 f3 as hd z => ?_)
      exact ih (_, _, _, _, _, _, _, _, _, _) z
  refine up_loop (fun q i (s : Int32 × Int32 × (Nat → Int32) × (Nat → Int32) × (Nat → Int32) × (Nat → Int32) × Int32 × (Nat → Int32)) => p_X7_down_13 F x.x_told_size x.f_told_numbers x.x_ruling_size x.f_ruling_steps (x.x_now_arches, x.x_now_cats, x.x_now_store, x.x_now_hour, x.x_now_drops, l2, s2, j2, b2, g2, q2) _ q i s.1 s.2.1 s.2.2.1 s.2.2.2.1 s.2.2.2.2.1 s.2.2.2.2.2.1 s.2.2.2.2.2.2.1 s.2.2.2.2.2.2.2) (fun j s => (∀ i, i < j → lows nA (goHs R nA nC i w) = 0) ∧ AV nA nC (goHs R nA nC j w) x.x_now_arches x.x_now_cats x.x_now_store s.1 s.2.1 l2 s.2.2.1 s.2.2.2.1 s.2.2.2.2.1 s.2.2.2.2.2.1 q2) 100 ?_ ?_ F (x.x_now_hour, x.x_now_drops, s2, j2, b2, g2, x.x_ruling_top, x.f_ruling_stack) 0 ⟨fun i hi => absurd hi (by omega), hVb⟩ (by omega) (by omega)
  · rintro q ⟨v1, v2, v3, v4, v5, v6, v7, v8⟩ ⟨e2, e3⟩
    show p_X7_down_13 F x.x_told_size x.f_told_numbers x.x_ruling_size x.f_ruling_steps (x.x_now_arches, x.x_now_cats, x.x_now_store, x.x_now_hour, x.x_now_drops, l2, s2, j2, b2, g2, q2) _ (q + 1) (nI 100) v1 v2 v3 v4 v5 v6 v7 v8
    rw [p_X7_down_13_s]
    refine br_t (by decide) (md 100 _ (Nat.le_refl _) e2 (fun _ u1 u2 u3 u4 u5 u6 u7 f2 as hd => ?_) (fun z => absurd z (by omega)))
    exact ⟨rfl, nA, nC, R, w, ok, hV, hM, rfl, rfl, hT, hW, ⟨hRX, rs, rfl, hRM⟩, hN, hE, hH, hK⟩
  · rintro q j ⟨v1, v2, v3, v4, v5, v6, v7, v8⟩ hj ⟨e2, e3⟩ ih
    have e3' : AV nA nC (goHs R nA nC j w) x.x_now_arches x.x_now_cats x.x_now_store v1 v2 l2 v3 v4 v5 v6 q2 := e3
    show p_X7_down_13 F x.x_told_size x.f_told_numbers x.x_ruling_size x.f_ruling_steps (x.x_now_arches, x.x_now_cats, x.x_now_store, x.x_now_hour, x.x_now_drops, l2, s2, j2, b2, g2, q2) _ (q + 1) (nI j) v1 v2 v3 v4 v5 v6 v7 v8
    rw [p_X7_down_13_s]
    have lt := lows_lt (goHs R nA nC j w) hA
    refine br_f (nI_ge (b := 100) hj (by omega)) (s6_lowestArches hF e3' hA ⟨fun z => ?_, fun z => ?_⟩)
    · refine s6_passHour hF hRX e3' (goHs_OK ok j) (fun h d t st s2 j2 g2 b2 y => ?_)
      refine ih (_, _, _, _, _, _, _, _) ⟨fun i hi => ?_, y⟩
      rcases Nat.lt_or_ge i j with a | a
      · exact e2 i a
      · rw [show i = j from by omega]; exact (nI_0i (by omega)).1 z
    · refine s3_anew (s3_add (RL_nil _) (by decide) (fun s5 f5 h5 => md j _ (by omega) e2 (fun z2 => absurd z2 (by omega)) (fun _ => ⟨fun z2 => z ((nI_0i (by omega)).2 z2), fun s6 f6 u1 u2 u3 u4 u5 u6 u7 f2 as hd h6 => ?_⟩)))
      exact ⟨rfl, nA, nC, R, w, ok, hV, hM, rfl, rfl, hT, RWr_of (by show 1 ≤ 8; omega) h5 h6, ⟨hRX, rs, rfl, hRM⟩, hN, hE, hH, hK⟩
end
