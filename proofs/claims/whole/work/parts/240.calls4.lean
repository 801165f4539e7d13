/-! ===== calls: hours, holds, later, down ===== -/
section
variable {F : Nat} {x : XS} {m : MS} {am : MA}
theorem s3_anew {F : Nat} {Post : Int32 → Prop} (k : Post 0) : p_X3_anew F Post := k
theorem ob_hours (hF : 5000 ≤ F) (p1 : Int32) (h : Rel F x m) : p7_hours F p1 x (fun r x' => p8_hours F p1 am m (fun r' m' => r = r' ∧ Rel F x' m')) := by
  obtain ⟨nA, nC, R, w, ok, hV, hM, eA, eC, hT, hW, hU, hN, hE, hH, hK⟩ := h
  have hA := ok.1
  have hC := ok.2.1
  obtain ⟨k, nx, ws, hk, hx, hok, hUx, hUm⟩ := id hN
  obtain ⟨hRX, rs, ers, hRM⟩ := id hU
  unfold p7_hours p_X7_hours p8_hours p_X8_hours
  rw [eA, eC, ers]
  rcases arg3 p1 (n := 60 + 1) (by omega) with h | ⟨n, hn, rfl⟩
  · refine rg_no (n := 60) h (by omega) ?_ ?_ <;> exact s8_rgno (n := 60) h (by omega) ⟨fun z => absurd rfl z, fun _ => ⟨rfl, nA, nC, R, w, ok, hV, hM, rfl, rfl, hT, hW, ⟨hRX, rs, rfl, hRM⟩, hN, hE, hH, hK⟩⟩
  refine rg_yes (n := 60) hn (by omega) (s6_become hV (fun l2 s2 j2 b2 g2 q2 hVb => s6_passHours hF (by omega) hRX hV ok (fun h3 d3 t3 st3 s3 j3 g3 b3 hV3 => ?_)))
  have ok3 := goHs_OK (R := R) ok n
  have cl : ∀ (n4 s4 : Int32) (r4 : Nat → Option PSl) (Post : Int32 → (Int32 × Int32 × Int32 × Int32 × Int32 × Int32 × Int32 × (Nat → Int32) × (Nat → Int32) × (Nat → Int32) × (Nat → Int32) × (Nat → Int32) × (Nat → Int32) × (Nat → Int32) × (Nat → Int32) × (Nat → Int32) × (Nat → Int32) × Int32 × (Nat → Int32) × Int32 × Int32 × (Nat → Option PSl) × Int32 × (Nat → Int64)) → Prop), (∀ s5 f5, RLw ([] ++ [(nI (dctS R nA nC n w)).toInt64] ++ [(joyS nC (goHs R nA nC n w)).toInt64]) s5 f5 → Post (sagS nA (goHs R nA nC n w)) (h3, d3, x.x_now_arches, x.x_now_cats, x.x_now_store, x.x_now_hour, x.x_now_drops, l2, s3, s2, j3, j2, b3, b2, g3, g2, q2, t3, st3, n4, s4, r4, s5, f5)) → p_X7_hours_51 F x.x_now_arches x.x_now_cats x.f_told_numbers (x.x_now_arches, x.x_now_cats, x.x_now_store, x.x_now_hour, x.x_now_drops, l2, s2, j2, b2, g2, q2) (nI (dctS R nA nC n w)) (h3, d3, t3, st3, s3, j3, g3, b3) Post n4 s4 r4 := by
    intro n4 s4 r4 Post kk
    unfold p_X7_hours_51 p_X3_anew
    refine s3_add (RL_nil _) (by decide) (fun s5 f5 h5 => s6_allJoy hF hV3 hC (s3_add h5 (by show 1 < 8; omega) (fun s6 f6 h6 => s6_allSags hF hV3 hA (kk _ _ h6))))
  have md : ∀ (u4 : Int32) (f4 : Nat → Int32) (Post : Int32 → (Int32 × Int32 × Value × Int32 × Int32 × Int32 × Int32 × Int32 × Int32 × Int32 × (Nat → Int32) × (Nat → Int32) × (Nat → Int32) × (Nat → Int32) × (Nat → Int64)) → Prop), (∀ s5 f5 u1 u2 u3 u4' u5 u6 f2 as hd, RLw ([] ++ [(nI (dctS R nA nC n w)).toInt64] ++ [(joyS nC (goHs R nA nC n w)).toInt64]) s5 f5 → MV (goHs R nA nC n w) f2 → Post (sagS nA (goHs R nA nC n w)) (s5, 0, u1, u2, u3, u4', u5, u6, u4, nI (dctS R nA nC n w), f4, f2, as, hd, f5)) → p_X8_hours_29 F (nI n) (nI nA) (nI nC) m.w_read m.x_length m.x_top m.x_at m.x_wrong am.q_rule (nI rs) m.x_isAsked m.f_now m.f_asked m.f_rule m.f_hold m.f_row Post u4 f4 := by
    intro u4 f4 Post kk
    unfold p_X8_hours_29
    refine s8_goHours hF (by omega) hRM hM ok (fun u1 u2 u3 u4' u5 u6 f2 as hd z => ?_)
    refine s8_tell (RL_nil _) (by decide) (fun s5 f5 h5 => s8_joys hF z hC (s8_tell h5 (by show 1 < 16; omega) (fun s6 f6 h6 => s8_sags hF z hA (kk _ _ _ _ _ _ _ _ _ _ _ h6 z))))
  rcases Nat.eq_zero_or_pos n with rfl | h0
  · refine br_t (by decide) (cl _ _ _ _ (fun s5 f5 h5 => ?_))
    refine s8_rgyes (n := 60) hn (by omega) ⟨fun _ => br_t (by decide) (md _ _ _ (fun s6 f6 u1 u2 u3 u4' u5 u6 f2 as hd h6 z => ?_)), fun z => absurd z (by decide)⟩
    exact ⟨rfl, nA, nC, R, _, ok3, hV3, z, rfl, rfl, hT, RWr_of (by show 2 ≤ 8; omega) h5 h6, ⟨hRX, rs, rfl, hRM⟩, hN, hE, hH, hK⟩
  · refine br_f (nI_nle h0 (by omega)) (s2_add hk hx hUx hVb (fun n5 s5 r5 hUx2 => cl _ _ _ _ (fun s6 f6 h6 => ?_)))
    refine s8_rgyes (n := 60) hn (by omega) ⟨fun _ => br_f (nI_nle h0 (by omega)) (s8_remember hF hk hUm hM (fun m2 u2 hUm2 => md _ _ _ (fun s7 f7 u1 u2 u3 u4' u5 u6 f2 as hd h7 z => ?_))), fun z => absurd z (by decide)⟩
    exact ⟨rfl, nA, nC, R, _, ok3, hV3, z, rfl, rfl, hT, RWr_of (by show 2 ≤ 8; omega) h6 h7, ⟨hRX, rs, rfl, hRM⟩, UNr_push hk hok ok hUx2 hUm2, hE, hH, hK⟩
theorem sub_gt0 {a b : Nat} (ha : a < 2 ^ 30) (hb : b < 2 ^ 30) : 0 < nI a - nI b ↔ b < a := by
  rw [Int32.lt_iff_toInt_lt, pk_sub_toInt ha hb]
  show 0 < (a : Int) - b ↔ _
  omega
def lackS (R : (Nat → Int32) → Int32) (nC : Nat) (w : Nat → Int32) : Nat → Int32
  | 0 => 0
  | n + 1 => lackS R nC w n + (if hO R nC w n < w n then w n - hO R nC w n else 0)
theorem ob_holds (hF : 5000 ≤ F) (h : Rel F x m) : p7_holds F x (fun r x' => p8_holds F am m (fun r' m' => r = r' ∧ Rel F x' m')) := by
  obtain ⟨nA, nC, R, w, ok, hV, hM, eA, eC, hT, hW, hU, hN, hE, hH, hK⟩ := h
  have hA := ok.1
  have hC := ok.2.1
  obtain ⟨hRX, rs, ers, hRM⟩ := id hU
  unfold p7_holds p_X7_holds
  refine s6_heldArches hF hRX hV hA hC (fun u => ?_)
  refine up_loop (fun n i (s : Int32 × Int32 × (Nat → Int32)) => p_X7_holds_16 F x.x_now_arches x.x_now_cats x.x_now_hour x.x_ruling_size x.f_now_place x.f_ruling_steps x.f_now_sag x.f_now_load x.f_now_joy x.f_now_grief x.f_now_bowl x.f_told_numbers (nI (held R nA nC w)) _ n i s.1 s.2.1 s.2.2) (fun j s => s.1 = lackS R nC w j) nA ?_ ?_ F (0, u.1, u.2) 0 rfl (by omega) (by omega)
  · rintro n ⟨s, t, st⟩ hs
    have hs : s = _ := hs
    subst hs
    show p_X7_holds_16 F x.x_now_arches x.x_now_cats x.x_now_hour x.x_ruling_size x.f_now_place x.f_ruling_steps x.f_now_sag x.f_now_load x.f_now_joy x.f_now_grief x.f_now_bowl x.f_told_numbers (nI (held R nA nC w)) _ (n + 1) (nI nA) (lackS R nC w nA) t st
    rw [p_X7_holds_16_s]
    refine br_t (by rw [hV.1]; exact nI_le (Nat.le_refl _) (by omega)) (s3_anew (s_bitCount (s3_add (RL_nil _) (by decide) (fun s5 f5 h5 => s3_add h5 (by show 1 < 8; omega) (fun s6 f6 h6 => ?_)))))
    unfold p8_holds p_X8_holds
    rw [eA, eC, ers]
    refine s8_holding hF hRM hM ok (fun v => ?_)
    refine up_loop (fun n i (s : Int32 × Value × Int32 × Int32 × Int32 × Int32 × Int32 × (Nat → Int32)) => p_X8_holds_18 F (nI nA) (nI nC) am.q_rule (nI rs) m.f_now m.f_rule m.f_row (nI (held R nA nC w)) _ n i s.1 s.2.1 s.2.2.1 s.2.2.2.1 s.2.2.2.2.1 s.2.2.2.2.2.1 s.2.2.2.2.2.2.1 s.2.2.2.2.2.2.2) (fun j s => s.1 = lackS R nC w j) nA ?_ ?_ F (0, v.1, v.2.1, v.2.2.1, v.2.2.2.1, v.2.2.2.2.1, v.2.2.2.2.2.1, v.2.2.2.2.2.2) 0 rfl (by omega) (by omega)
    · rintro n ⟨s, u1, u2, u3, u4, u5, u6, u7⟩ hs
      have hs : s = _ := hs
      subst hs
      show p_X8_holds_18 F (nI nA) (nI nC) am.q_rule (nI rs) m.f_now m.f_rule m.f_row (nI (held R nA nC w)) _ (n + 1) (nI nA) (lackS R nC w nA) u1 u2 u3 u4 u5 u6 u7
      rw [p_X8_holds_18_s]
      refine br_t (nI_le (Nat.le_refl _) (by omega)) (s_bitCount (s8_tell (RL_nil _) (by decide) (fun s7 f7 h7 => s8_tell h7 (by show 1 < 16; omega) (fun s8 f8 h8 => ?_))))
      exact ⟨rfl, nA, nC, R, w, ok, hV, hM, rfl, rfl, hT, RWr_of (by show 2 ≤ 8; omega) h6 h8, ⟨hRX, rs, rfl, hRM⟩, hN, hE, hH, hK⟩
    · rintro n j ⟨s, u1, u2, u3, u4, u5, u6, u7⟩ hj hs ih
      have hs : s = _ := hs
      subst hs
      show p_X8_holds_18 F (nI nA) (nI nC) am.q_rule (nI rs) m.f_now m.f_rule m.f_row (nI (held R nA nC w)) _ (n + 1) (nI j) (lackS R nC w j) u1 u2 u3 u4 u5 u6 u7
      rw [p_X8_holds_18_s, nI_clamp (n := j) (by omega), hM j (by omega)]
      refine br_f (nI_ge hj (by omega)) ?_
      unfold p_X8_has held
      rw [bN_has (by omega) hj]
      refine ⟨fun c => br_t rfl ⟨pk_in j 47 (by omega), s8_holdOf hF hRM hM ok (by omega) (fun v => ?_)⟩, fun c => br_f (by decide) ?_⟩
      · have c : hO R nC w j < w j := by simpa using c
        refine ih (_, _, _, _, _, _, _, _) ?_
        show _ = lackS R nC w (j + 1)
        rw [lackS, if_pos c]
      · have c : ¬ hO R nC w j < w j := by simpa using c
        refine ih (_, u1, u2, u3, u4, u5, u6, u7) ?_
        show _ = lackS R nC w (j + 1)
        rw [lackS, if_neg c]
  · rintro n j ⟨s, t, st⟩ hj hs ih
    have hs : s = _ := hs
    subst hs
    show p_X7_holds_16 F x.x_now_arches x.x_now_cats x.x_now_hour x.x_ruling_size x.f_now_place x.f_ruling_steps x.f_now_sag x.f_now_load x.f_now_joy x.f_now_grief x.f_now_bowl x.f_told_numbers (nI (held R nA nC w)) _ (n + 1) (nI j) (lackS R nC w j) t st
    rw [p_X7_holds_16_s, nI_clamp (n := j) (by omega)]
    refine br_f (by rw [hV.1]; exact nI_ge hj (by omega)) ⟨pk_in j 6 (by omega), s6_holdOf hF hRX hV hA hC hj (fun v => ?_)⟩
    refine ih (_, _, _) ?_
    show _ = lackS R nC w (j + 1)
    rw [lackS, hV.2.2.2.2.2.1 j (by omega)]
    congr 1
    obtain ⟨l, hl, el⟩ := ok.2.2.1 j (by omega)
    obtain ⟨g, hg, eg⟩ := hO_n R hC w j
    rw [el, eg]
    have e1 := sub_gt0 (a := l) (b := g) (by omega) (by omega)
    have e2 : nI g < nI l ↔ g < l := nI_ltI (by omega) (by omega)
    by_cases q : g < l
    · rw [if_pos (e1.2 q), if_pos (e2.2 q)]
    · rw [if_neg (fun z => q (e1.1 z)), if_neg (fun z => q (e2.1 z))]
theorem lt_100 {p : Int32} {n : Nat} {A B C : Prop} (h : p < 0 ∨ nI n ≤ p) (k1 : A) (k2 : C) : (p < 0 → A) ∧ (¬ p < 0 → ((p < nI n → B) ∧ (¬ p < nI n → C))) :=
  ⟨fun _ => k1, fun h2 => br_f (fun z => nle_of_lt z (h.resolve_left h2)) k2⟩
theorem ob_later (hF : 5000 ≤ F) (p1 p2 : Int32) (h : Rel F x m) : p7_later F p1 p2 x (fun r x' => p8_later F p1 p2 am m (fun r' m' => r = r' ∧ Rel F x' m')) := by
  obtain ⟨nA, nC, R, w, ok, hV, hM, eA, eC, hT, hW, hU, hN, hE, hH, hK⟩ := h
  have hA := ok.1
  have hC := ok.2.1
  obtain ⟨hRX, rs, ers, hRM⟩ := id hU
  unfold p7_later p_X7_later p8_later p_X8_later
  rw [eA, eC, ers, hV.1]
  have hV0 := hV
  rw [hV.1] at hV0
  rcases arg3 p1 (n := nA) (by omega) with h | ⟨a, ha, rfl⟩
  · exact s6_noArch h (br_t rfl (s8_noArch h (by omega) (br_t rfl ⟨rfl, nA, nC, R, w, ok, hV0, hM, rfl, rfl, hT, hW, ⟨hRX, rs, rfl, hRM⟩, hN, hE, hH, hK⟩)))
  refine s6_hasArch hA ha (br_f (by decide) ?_)
  rcases arg3 p2 (n := 99 + 1) (by omega) with h | ⟨n, hn, rfl⟩
  · refine lt_100 (n := 100) h ?_ ?_ <;> exact s8_isArch ha (by omega) (br_f (by decide) (s8_rgno (n := 99) h (by omega) ⟨fun z => absurd rfl z, fun _ => ⟨rfl, nA, nC, R, w, ok, hV0, hM, rfl, rfl, hT, hW, ⟨hRX, rs, rfl, hRM⟩, hN, hE, hH, hK⟩⟩))
  refine br_f (nI_pos (by omega)) (br_t (nI_lt (b := 100) hn (by omega)) (s6_become hV0 (fun l2 s2 j2 b2 g2 q2 hVb => s6_passHours hF (by omega) hRX hVb ok (fun h3 d3 t3 st3 s3 j3 g3 b3 hV3 => ?_))))
  refine s3_anew (s6_holdOf hF hRX hV3 hA hC ha (fun v => s3_add (RL_nil _) (by decide) (fun s5 f5 h5 => s6_allSags hF hV3 hA (s3_add h5 (by show 1 < 8; omega) (fun s6 f6 h6 => ⟨pk_in a 6 (by omega), ?_⟩)))))
  refine s8_isArch ha (by omega) (br_f (by decide) (s8_rgyes (n := 99) hn (by omega) ⟨fun _ => s8_goThen hF (by omega) hRM hM ok (fun u1 u2 u3 u4 u5 u6 f2 as hd z => ?_), fun z => absurd z (by decide)⟩))
  refine s8_holdOf hF hRM z (goHs_OK ok n) (by omega) (fun v => s8_tell (RL_nil _) (by decide) (fun s7 f7 h7 => s8_sags hF z hA (s8_tell h7 (by show 1 < 16; omega) (fun s8 f8 h8 => ⟨ci6 (by omega), ?_⟩))))
  refine ⟨?_, nA, nC, R, w, ok, hV0, hM, rfl, rfl, hT, RWr_of (by show 2 ≤ 8; omega) h6 h8, ⟨hRX, rs, rfl, hRM⟩, hN, hE, hH, hK⟩
  rw [cc6 (by omega), nI_clamp (n := a) (by omega)]
  exact (hV3.2.2.2.2.2.2.1 a (by omega)).trans (z (6 + a) (by omega)).symm
end
