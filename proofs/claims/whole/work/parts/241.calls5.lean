/-! ===== calls: when, safe, down ===== -/
def fstI (P : Nat → Bool) : Nat → Int32
  | 0 => -2
  | n + 1 => if P n then (if fstI P n = -2 then nI n else fstI P n) else fstI P n
def cntI (P : Nat → Bool) : Nat → Int32
  | 0 => 0
  | n + 1 => if P n then cntI P n + 1 else cntI P n
theorem nI_ne_m2 {n : Nat} (h : n < 1000) : ¬ nI n = -2 := by
  intro z
  have : ¬ nI n < 0 := nI_pos (by omega)
  rw [z] at this
  exact this (by decide)
theorem fstI_c (P : Nat → Bool) : ∀ n, n < 1000 → fstI P n = -2 ∨ ∃ k, k < n ∧ fstI P n = nI k
  | 0, _ => Or.inl rfl
  | n + 1, hn => by
    rw [fstI]
    rcases fstI_c P n (by omega) with h | ⟨k, hk, h⟩
    · by_cases q : P n = true
      · rw [if_pos q, if_pos h]; exact Or.inr ⟨n, by omega, rfl⟩
      · rw [if_neg q]; exact Or.inl h
    · by_cases q : P n = true
      · rw [if_pos q, if_neg (by rw [h]; exact nI_ne_m2 (by omega))]; exact Or.inr ⟨k, by omega, h⟩
      · rw [if_neg q]; exact Or.inr ⟨k, by omega, h⟩
section
variable {F : Nat} {x : XS} {m : MS} {am : MA}
theorem s7_told {v sz : Int32} {f : Nat → Int64} {fd : Int32} {Post : Int32 → (Int32 × (Nat → Int64)) → Prop} (h : fd = -2 ∨ ∃ k, k < 1000 ∧ fd = nI k) (k1 : fd = -2 → Post (-2) (sz, f)) (k2 : ¬ fd = -2 → ∀ s2 f2, RLw ([] ++ [v.toInt64]) s2 f2 → Post fd (s2, f2)) : p_X7_toldIfFound F fd v sz f Post := by
  unfold p_X7_toldIfFound
  rcases h with h | ⟨k, hk, h⟩
  · have := k1 h
    rw [← h] at this
    exact br_t (by rw [h]; decide) this
  · refine br_f (by rw [h]; exact nI_pos (by omega)) (s3_anew (s3_add (RL_nil _) (by decide) (fun s2 f2 h2 => ?_)))
    exact k2 (by rw [h]; exact nI_ne_m2 hk) _ _ h2
def whP (R : (Nat → Int32) → Int32) (nA nC : Nat) (w : Nat → Int32) (a : Nat) (v : Int32) : Nat → Bool := fun k => ! decide (goHs R nA nC k w (6 + a) < v)
theorem ob_when (hF : 5000 ≤ F) (p1 p2 : Int32) (h : Rel F x m) : p7_when F p1 p2 x (fun r x' => p8_when F p1 p2 am m (fun r' m' => r = r' ∧ Rel F x' m')) := by
  obtain ⟨nA, nC, R, w, ok, hV, hM, eA, eC, hT, hW, hU, hN, hE, hH, hK⟩ := h
  have hA := ok.1
  have hC := ok.2.1
  obtain ⟨hRX, rs, ers, hRM⟩ := id hU
  unfold p7_when p_X7_when p8_when p_X8_when
  rw [eA, eC, ers, hV.1]
  have hV0 := hV
  rw [hV.1] at hV0
  rcases arg3 p1 (n := nA) (by omega) with h | ⟨a, ha, rfl⟩
  · exact s6_noArch h (br_t rfl (s8_noArch h (by omega) (br_t rfl ⟨rfl, nA, nC, R, w, ok, hV0, hM, rfl, rfl, hT, hW, ⟨hRX, rs, rfl, hRM⟩, hN, hE, hH, hK⟩)))
  refine s6_hasArch hA ha (br_f (by decide) ?_)
  rcases arg3 p2 (n := 9 + 1) (by omega) with h | ⟨n, hn, rfl⟩
  · refine rg_no (n := 9) h (by omega) ?_ ?_ <;> exact s8_isArch ha (by omega) (br_f (by decide) (s8_rgno (n := 9) h (by omega) ⟨fun z => absurd rfl z, fun _ => ⟨rfl, nA, nC, R, w, ok, hV0, hM, rfl, rfl, hT, hW, ⟨hRX, rs, rfl, hRM⟩, hN, hE, hH, hK⟩⟩))
  refine rg_yes (n := 9) hn (by omega) (s6_become hV0 (fun l2 s2 j2 b2 g2 q2 hVb => ?_))
  generalize hP : whP R nA nC w a (nI n) = P
  have eP : ∀ k, P k = ! decide (goHs R nA nC k w (6 + a) < nI n) := fun k => by rw [← hP]; rfl
  -- the model's side
  have md : ∀ Post : Int32 → (Int32 × Int32 × Value × Int32 × Int32 × Int32 × Int32 × Int32 × Int32 × (Nat → Int32) × (Nat → Int32) × (Nat → Int32) × (Nat → Int64)) → Prop, (fstI P 100 = -2 → ∀ u1 u2 u3 u4 u5 u6 u7 f2 as hd, Post (-2) (m.x_rowMany, 0, u1, u2, u3, u4, u5, u6, u7, f2, as, hd, m.f_row)) → (¬ fstI P 100 = -2 → ∀ s5 f5 u1 u2 u3 u4 u5 u6 u7 f2 as hd, RLw ([] ++ [(cntI P 100).toInt64]) s5 f5 → Post (fstI P 100) (s5, 0, u1, u2, u3, u4, u5, u6, u7, f2, as, hd, f5)) → p_X8_lay F 0 47 m.f_now 47 m.f_then (fun u_40 => p_X8_when_46 F (nI a) (nI n) (nI nA) (nI nC) m.x_rowMany am.q_rule (nI rs) m.f_rule m.f_row Post F 0 0 (-2) m.w_read m.x_length m.x_top m.x_at m.x_wrong m.x_isAsked m.x_dropped u_40 m.f_asked m.f_hold) := by
    intro Post k1 k2
    refine s8_lay0 hF hM (fun g hg => ?_)
    refine up_loop (fun q i (s : Int32 × Int32 × Value × Int32 × Int32 × Int32 × Int32 × Int32 × Int32 × (Nat → Int32) × (Nat → Int32) × (Nat → Int32)) => p_X8_when_46 F (nI a) (nI n) (nI nA) (nI nC) m.x_rowMany am.q_rule (nI rs) m.f_rule m.f_row Post q i s.1 s.2.1 s.2.2.1 s.2.2.2.1 s.2.2.2.2.1 s.2.2.2.2.2.1 s.2.2.2.2.2.2.1 s.2.2.2.2.2.2.2.1 s.2.2.2.2.2.2.2.2.1 s.2.2.2.2.2.2.2.2.2.1 s.2.2.2.2.2.2.2.2.2.2.1 s.2.2.2.2.2.2.2.2.2.2.2) (fun j s => s.1 = cntI P j ∧ s.2.1 = fstI P j ∧ MV (goHs R nA nC j w) s.2.2.2.2.2.2.2.2.2.1) 100 ?_ ?_ F (0, -2, m.w_read, m.x_length, m.x_top, m.x_at, m.x_wrong, m.x_isAsked, m.x_dropped, g, m.f_asked, m.f_hold) 0 ⟨rfl, rfl, hg⟩ (by omega) (by omega)
    · rintro q ⟨c, f, u1, u2, u3, u4, u5, u6, u7, g1, u8, u9⟩ ⟨e1, e2, e3⟩
      have e1 : c = _ := e1
      have e2 : f = _ := e2
      subst e1 e2
      show p_X8_when_46 F (nI a) (nI n) (nI nA) (nI nC) m.x_rowMany am.q_rule (nI rs) m.f_rule m.f_row Post (q + 1) (nI 100) (cntI P 100) (fstI P 100) u1 u2 u3 u4 u5 u6 u7 g1 u8 u9
      rw [p_X8_when_46_s]
      refine br_t (by decide) ⟨fun z => s8_tell (RL_nil _) (by decide) (fun s5 f5 h5 => k2 z _ _ _ _ _ _ _ _ _ _ _ _ h5), fun z => k1 z _ _ _ _ _ _ _ _ _ _⟩
    · rintro q j ⟨c, f, u1, u2, u3, u4, u5, u6, u7, g1, u8, u9⟩ hj ⟨e1, e2, e3⟩ ih
      have e1 : c = _ := e1
      have e2 : f = _ := e2
      have e3' : MV (goHs R nA nC j w) g1 := e3
      subst e1 e2
      show p_X8_when_46 F (nI a) (nI n) (nI nA) (nI nC) m.x_rowMany am.q_rule (nI rs) m.f_rule m.f_row Post (q + 1) (nI j) (cntI P j) (fstI P j) u1 u2 u3 u4 u5 u6 u7 g1 u8 u9
      rw [p_X8_when_46_s, cc6 (by omega), e3' (6 + a) (by omega)]
      have go : ∀ c2 f2, c2 = cntI P (j + 1) → f2 = fstI P (j + 1) → p_X8_when_82 F (nI nA) (nI nC) am.q_rule (nI rs) m.f_rule (nI j) u1 u2 u3 u4 u5 u6 u7 g1 u8 u9 (p_X8_when_46 F (nI a) (nI n) (nI nA) (nI nC) m.x_rowMany am.q_rule (nI rs) m.f_rule m.f_row Post q) Post f2 c2 := by
        intro c2 f2 e4 e5
        unfold p_X8_when_82
        refine s8_goHour hF hRM e3' (goHs_OK ok j) (fun u1 u2 u3 u4 u5 u6 f3 as hd z => ?_)
        exact ih (_, _, _, _, _, _, _, _, _, _, _, _) ⟨e4, e5, z⟩
      refine br_f (nI_nlt (a := 99) (b := j) (by omega) (by omega)) ⟨ci6 (by omega), fun z => ?_, fun z => ⟨fun z2 => ?_, fun z2 => ?_⟩⟩
      · have pj : P j = false := by rw [eP]; simp [z]
        exact go _ _ (by rw [cntI, pj]; rfl) (by rw [fstI, pj]; rfl)
      · have pj : P j = true := by rw [eP]; simp [z]
        exact go _ _ (by rw [cntI, if_pos pj]) (by rw [fstI, if_pos pj, if_neg z2])
      · have pj : P j = true := by rw [eP]; simp [z]
        exact go _ _ (by rw [cntI, if_pos pj]) (by rw [fstI, if_pos pj, if_pos z2])
  refine up_loop (fun q i (s : Int32 × Int32 × Int32 × Int32 × (Nat → Int32) × (Nat → Int32) × (Nat → Int32) × (Nat → Int32) × Int32 × (Nat → Int32)) => p_X7_when_43 F (nI a) (nI n) x.x_ruling_size x.f_ruling_steps x.x_told_size x.f_told_numbers (nI nA, x.x_now_cats, x.x_now_store, x.x_now_hour, x.x_now_drops, l2, s2, j2, b2, g2, q2) _ q i s.1 s.2.1 s.2.2.1 s.2.2.2.1 s.2.2.2.2.1 s.2.2.2.2.2.1 s.2.2.2.2.2.2.1 s.2.2.2.2.2.2.2.1 s.2.2.2.2.2.2.2.2.1 s.2.2.2.2.2.2.2.2.2) (fun j s => s.1 = cntI P j ∧ s.2.1 = fstI P j ∧ AV nA nC (goHs R nA nC j w) (nI nA) x.x_now_cats x.x_now_store s.2.2.1 s.2.2.2.1 l2 s.2.2.2.2.1 s.2.2.2.2.2.1 s.2.2.2.2.2.2.1 s.2.2.2.2.2.2.2.1 q2) 100 ?_ ?_ F (0, -2, x.x_now_hour, x.x_now_drops, s2, j2, b2, g2, x.x_ruling_top, x.f_ruling_stack) 0 ⟨rfl, rfl, hVb⟩ (by omega) (by omega)
  · rintro q ⟨c, f, v1, v2, v3, v4, v5, v6, v7, v8⟩ ⟨e1, e2, e3⟩
    have e1 : c = _ := e1
    have e2 : f = _ := e2
    subst e1 e2
    show p_X7_when_43 F (nI a) (nI n) x.x_ruling_size x.f_ruling_steps x.x_told_size x.f_told_numbers (nI nA, x.x_now_cats, x.x_now_store, x.x_now_hour, x.x_now_drops, l2, s2, j2, b2, g2, q2) _ (q + 1) (nI 100) (cntI P 100) (fstI P 100) v1 v2 v3 v4 v5 v6 v7 v8
    rw [p_X7_when_43_s]
    refine br_t (by decide) (s7_told ((fstI_c P 100 (by omega)).imp id (fun ⟨k, hk, e⟩ => ⟨k, by omega, e⟩)) (fun z => ?_) (fun z s6 f6 h6 => ?_))
    · refine s8_isArch ha (by omega) (br_f (by decide) (s8_rgyes (n := 9) hn (by omega) ⟨fun _ => md _ (fun _ u1 u2 u3 u4 u5 u6 u7 f2 as hd => ?_) (fun z2 => absurd z z2), fun z => absurd z (by decide)⟩))
      exact ⟨rfl, nA, nC, R, w, ok, hV0, hM, rfl, rfl, hT, hW, ⟨hRX, rs, rfl, hRM⟩, hN, hE, hH, hK⟩
    · refine s8_isArch ha (by omega) (br_f (by decide) (s8_rgyes (n := 9) hn (by omega) ⟨fun _ => md _ (fun z2 => absurd z2 z) (fun _ s7 f7 u1 u2 u3 u4 u5 u6 u7 f2 as hd h7 => ?_), fun z => absurd z (by decide)⟩))
      exact ⟨rfl, nA, nC, R, w, ok, hV0, hM, rfl, rfl, hT, RWr_of (by show 1 ≤ 8; omega) h6 h7, ⟨hRX, rs, rfl, hRM⟩, hN, hE, hH, hK⟩
  · rintro q j ⟨c, f, v1, v2, v3, v4, v5, v6, v7, v8⟩ hj ⟨e1, e2, e3⟩ ih
    have e1 : c = _ := e1
    have e2 : f = _ := e2
    have e3' : AV nA nC (goHs R nA nC j w) (nI nA) x.x_now_cats x.x_now_store v1 v2 l2 v3 v4 v5 v6 q2 := e3
    subst e1 e2
    show p_X7_when_43 F (nI a) (nI n) x.x_ruling_size x.f_ruling_steps x.x_told_size x.f_told_numbers (nI nA, x.x_now_cats, x.x_now_store, x.x_now_hour, x.x_now_drops, l2, s2, j2, b2, g2, q2) _ (q + 1) (nI j) (cntI P j) (fstI P j) v1 v2 v3 v4 v5 v6 v7 v8
    rw [p_X7_when_43_s, nI_clamp (n := a) (by omega), e3'.2.2.2.2.2.2.1 a (by omega)]
    refine br_f (nI_ge (b := 100) hj (by omega)) ⟨pk_in a 6 (by omega), fun z => ?_, fun z => ⟨fun z2 => ?_, fun z2 => ?_⟩⟩
    · have pj : P j = false := by rw [eP]; simp [z]
      unfold p_X7_when_79
      refine s6_passHour hF hRX e3' (goHs_OK ok j) (fun h d t st s2 j2 g2 b2 z => ?_)
      exact ih (_, _, _, _, _, _, _, _, _, _) ⟨by rw [cntI, pj]; rfl, by rw [fstI, pj]; rfl, z⟩
    · have pj : P j = true := by rw [eP]; simp [z]
      unfold p_X7_when_78 p_X7_when_79
      refine s6_passHour hF hRX e3' (goHs_OK ok j) (fun h d t st s2 j2 g2 b2 z => ?_)
      exact ih (_, _, _, _, _, _, _, _, _, _) ⟨by rw [cntI, if_pos pj], by rw [fstI, if_pos pj, if_neg z2], z⟩
    · have pj : P j = true := by rw [eP]; simp [z]
      unfold p_X7_when_78 p_X7_when_79
      refine s6_passHour hF hRX e3' (goHs_OK ok j) (fun h d t st s2 j2 g2 b2 z => ?_)
      exact ih (_, nI j, _, _, _, _, _, _, _, _) ⟨by rw [cntI, if_pos pj], by rw [fstI, if_pos pj, if_pos z2], z⟩
end
