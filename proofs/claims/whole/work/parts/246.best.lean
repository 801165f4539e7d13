/-! ===== calls: best, cheers ===== -/
abbrev T13 : Type := Int32 × Int32 × Int32 × Int32 × Int32 × (Nat → Int32) × (Nat → Int32) × (Nat → Int32) × (Nat → Int32) × (Nat → Int32) × (Nat → Int32) × Int32 × (Nat → Int32)
def dpI (T : Nat → Int32) : Nat → Nat
  | 0 => 0
  | n + 1 => if T (dpI T n) ≤ T (n + 1) then dpI T n else n + 1
theorem dpI_le (T : Nat → Int32) : ∀ n, dpI T n ≤ n
  | 0 => Nat.le_refl _
  | n + 1 => by
    have := dpI_le T n
    rw [dpI]; split <;> omega
theorem sagS_n {nA nC : Nat} {w : Nat → Int32} (ok : OK nA nC w) : ∃ s, s ≤ 54 ∧ sagS nA w = nI s := by
  have hA := ok.1
  have : ∀ n, n ≤ 6 → ∃ h, h ≤ 9 * n ∧ sumI (fun i => w (6 + i)) n = nI h := by
    intro n
    induction n with
    | zero => exact fun _ => ⟨0, by omega, rfl⟩
    | succ n ih =>
      intro hn
      obtain ⟨h, hh, e⟩ := ih (by omega)
      obtain ⟨g, hg, e2⟩ := ok.2.2.1 (6 + n) (by omega)
      exact ⟨h + g, by omega, by rw [sumI, e, e2, nI_add]⟩
  obtain ⟨h, hh, e⟩ := this nA hA
  exact ⟨h, by omega, e⟩
theorem is130_cases (p : Int32) (M : Nat) (hM : M < 1000) : (p < 1 ∨ nI M < p) ∨ (∃ j, 1 ≤ j ∧ j ≤ M ∧ p = nI j) := by
  rcases arg3 p (n := M + 1) (by omega) with h | ⟨j, hj, rfl⟩
  · refine Or.inl ?_
    rcases h with h | h
    · left; rw [Int32.lt_iff_toInt_lt] at h ⊢
      have e0 : (0 : Int32).toInt = 0 := by decide
      have e1 : (1 : Int32).toInt = 1 := by decide
      omega
    · right; exact lt_of_le1 h (by omega)
  · rcases Nat.eq_zero_or_pos j with rfl | h0
    · exact Or.inl (Or.inl (by decide))
    · exact Or.inr ⟨j, h0, by omega, rfl⟩
section
variable {F nA nC : Nat} {R : (Nat → Int32) → Int32} {w : Nat → Int32} {arches cats store hour drops sz top : Int32} {load sag joy bowl grief place steps stack load' sag' joy' bowl' grief' place' : Nat → Int32}
theorem s7_sagsIn {n : Nat} {Post : Int32 → T13 → Prop} (hF : 5000 ≤ F) (hn : n ≤ 1000) (hR : RX F R sz steps) (hV : AV nA nC w arches cats store hour drops load sag joy bowl grief place) (ok : OK nA nC w) (k : ∀ u, Post (sagS nA (goHs R nA nC n w)) u) : p_X7_sagsIn F (nI n) arches cats store hour drops load load' sag sag' joy joy' bowl bowl' grief grief' place place' sz top steps stack Post := by
  unfold p_X7_sagsIn
  refine s6_become hV (fun l2 s2 j2 b2 g2 q2 hVb => s6_passHours hF hn hR hVb ok (fun h3 d3 t3 st3 s3 j3 g3 b3 hV3 => ?_))
  exact s6_allSags hF hV3 ok.1 (k _)
end
section
variable {F : Nat} {x : XS} {m : MS} {am : MA}
theorem ob_best (hF : 5000 ≤ F) (p1 p2 : Int32) (h : Rel F x m) : p7_best F p1 p2 x (fun r x' => p8_best F p1 p2 am m (fun r' m' => r = r' ∧ Rel F x' m')) := by
  obtain ⟨nA, nC, R, w, ok, hV, hM, eA, eC, hT, hW, hU, hN, hE, hH, hK⟩ := h
  have hA := ok.1
  have hC := ok.2.1
  obtain ⟨hRX, rs, ers, hRM⟩ := id hU
  unfold p7_best p_X7_best p8_best p_X8_best
  rw [eA, eC, ers]
  rcases arg3 p1 (n := nC) (by omega) with h | ⟨c, hc, rfl⟩
  · rw [hV.2.1]
    exact s6_noCat h (br_t rfl (s8_noCat h (by omega) (br_t rfl ⟨rfl, nA, nC, R, w, ok, ⟨hV.1, rfl, hV.2.2⟩, hM, rfl, rfl, hT, hW, ⟨hRX, rs, rfl, hRM⟩, hN, hE, hH, hK⟩)))
  have has : ∀ Post : Int32 → Prop, Post 1 → p_X6_hasCat F (nI c) x.x_now_cats Post := fun Post kk => by rw [hV.2.1]; exact s6_hasCat hC hc kk
  refine has _ (br_f (by decide) ?_)
  rcases is130_cases p2 30 (by omega) with h | ⟨n, hn1, hn, rfl⟩
  · refine ⟨fun _ => ?_, fun z => br_f (nle_of_lt (h.resolve_left z)) ?_⟩ <;> exact s8_isCat hc (by omega) (br_f (by decide) (s8_nin h ⟨fun z => absurd rfl z, fun _ => ⟨rfl, nA, nC, R, w, ok, hV, hM, rfl, rfl, hT, hW, ⟨hRX, rs, rfl, hRM⟩, hN, hE, hH, hK⟩⟩))
  obtain ⟨a0, ha0, _⟩ := ok.2.2.2.1 c hc
  generalize hTT : (fun a => sagS nA (goHs R nA nC n (upd w (36 + c) (nI a)))) = T
  have eT : ∀ a, sagS nA (goHs R nA nC n (upd w (36 + c) (nI a))) = T a := fun a => by rw [← hTT]
  have okT : ∀ a, a < nA → OK nA nC (upd w (36 + c) (nI a)) := fun a ha => OK_pl ok hc ha
  have tl : ∀ a, a < nA → ∃ s, s ≤ 54 ∧ T a = nI s := fun a ha => by rw [← eT a]; exact sagS_n (goHs_OK (okT a ha) n)
  -- the model
  have md : ∀ Post : Int32 → (Int32 × Int32 × Value × Int32 × Int32 × Int32 × Int32 × Int32 × Int32 × (Nat → Int32) × (Nat → Int32) × (Nat → Int32) × (Nat → Int64)) → Prop, (∀ s5 f5 u1 u2 u3 u4 u5 u6 u7 f2 as hd, RLw ([] ++ [(T (dpI T (nA - 1))).toInt64] ++ [(sagS nA (goHs R nA nC n w)).toInt64]) s5 f5 → Post (nI (dpI T (nA - 1))) (s5, 0, u1, u2, u3, u4, u5, u6, u7, f2, as, hd, f5)) → p_X8_best_35 F (nI c) (nI n) (nI nA) (nI nC) am.q_rule (nI rs) m.f_now m.f_rule m.f_row Post F 0 1000000 (-1) m.w_read m.x_length m.x_top m.x_at m.x_wrong m.x_isAsked m.x_dropped m.f_then m.f_asked m.f_hold := by
    intro Post kk
    refine up_loop (fun q i (s : Int32 × Int32 × Value × Int32 × Int32 × Int32 × Int32 × Int32 × Int32 × (Nat → Int32) × (Nat → Int32) × (Nat → Int32)) => p_X8_best_35 F (nI c) (nI n) (nI nA) (nI nC) am.q_rule (nI rs) m.f_now m.f_rule m.f_row Post q i s.1 s.2.1 s.2.2.1 s.2.2.2.1 s.2.2.2.2.1 s.2.2.2.2.2.1 s.2.2.2.2.2.2.1 s.2.2.2.2.2.2.2.1 s.2.2.2.2.2.2.2.2.1 s.2.2.2.2.2.2.2.2.2.1 s.2.2.2.2.2.2.2.2.2.2.1 s.2.2.2.2.2.2.2.2.2.2.2) (fun j s => (j = 0 ∧ s.1 = 1000000) ∨ ∃ i, j = i + 1 ∧ s.1 = T (dpI T i) ∧ s.2.1 = nI (dpI T i)) nA ?_ ?_ F (1000000, -1, m.w_read, m.x_length, m.x_top, m.x_at, m.x_wrong, m.x_isAsked, m.x_dropped, m.f_then, m.f_asked, m.f_hold) 0 (Or.inl ⟨rfl, rfl⟩) (by omega) (by omega)
    · rintro q ⟨y4, y3, u1, u2, u3, u4, u5, u6, u7, g1, u8, u9⟩ (e0 | ⟨i, e0, e1, e2⟩)
      · omega
      have e1 : y4 = _ := e1
      have e2 : y3 = _ := e2
      subst e1 e2
      have : nA - 1 = i := by omega
      rw [this] at kk
      show p_X8_best_35 F (nI c) (nI n) (nI nA) (nI nC) am.q_rule (nI rs) m.f_now m.f_rule m.f_row Post (q + 1) (nI nA) _ _ u1 u2 u3 u4 u5 u6 u7 g1 u8 u9
      rw [p_X8_best_35_s]
      refine br_t (nI_le (Nat.le_refl _) (by omega)) (s8_lay0 hF hM (fun g hg => s8_tell (RL_nil _) (by decide) (fun s5 f5 h5 => s8_sagsBehind hF (by omega) hRM hg ok (fun w1 w2 w3 w4 w5 w6 f2 as hd z => s8_tell h5 (by show 1 < 16; omega) (fun s6 f6 h6 => kk _ _ _ _ _ _ _ _ _ _ _ _ h6)))))
    · rintro q j ⟨y4, y3, u1, u2, u3, u4, u5, u6, u7, g1, u8, u9⟩ hj ec ih
      show p_X8_best_35 F (nI c) (nI n) (nI nA) (nI nC) am.q_rule (nI rs) m.f_now m.f_rule m.f_row Post (q + 1) (nI j) y4 y3 u1 u2 u3 u4 u5 u6 u7 g1 u8 u9
      rw [p_X8_best_35_s, cc36 (by omega)]
      refine br_f (nI_ge hj (by omega)) (s8_lay0 hF hM (fun g hg => ⟨ci36 (by omega), s8_sagsBehind hF (by omega) hRM (MV_upd hg) (okT j hj) (fun w1 w2 w3 w4 w5 w6 f2 as hd z => ?_)⟩))
      rw [eT j]
      unfold p_X8_best_91
      obtain ⟨tj, htj, etj⟩ := tl j hj
      rcases ec with ⟨e0, e1⟩ | ⟨i, e0, e1, e2⟩
      · have e1 : y4 = 1000000 := e1
        subst e0
        refine br_t (by rw [etj, e1]; exact nI_lt (b := 1000000) (by omega) (by omega)) (ih (T 0, nI 0, _, _, _, _, _, _, _, _, _, _) (Or.inr ⟨0, rfl, rfl, rfl⟩))
      · have e1 : y4 = _ := e1
        have e2 : y3 = _ := e2
        subst e1 e2 e0
        refine ⟨fun z => ih (T (i + 1), nI (i + 1), _, _, _, _, _, _, _, _, _, _) (Or.inr ⟨i + 1, rfl, ?_, ?_⟩), fun z => ih (T (dpI T i), nI (dpI T i), _, _, _, _, _, _, _, _, _, _) (Or.inr ⟨i + 1, rfl, ?_, ?_⟩)⟩
        · show _ = T (if _ then _ else _); rw [if_neg (nle_of_lt z)]
        · show _ = nI (if _ then _ else _); rw [if_neg (nle_of_lt z)]
        · have z' : T (dpI T i) ≤ T (i + 1) := Classical.byContradiction fun y => z (le_or_lt y)
          show _ = T (if _ then _ else _); rw [if_pos z']
        · have z' : T (dpI T i) ≤ T (i + 1) := Classical.byContradiction fun y => z (le_or_lt y)
          show _ = nI (if _ then _ else _); rw [if_pos z']
  refine br_f (nI_nlt (b := 1) hn1 (by omega)) (br_t (nI_le (b := 30) hn (by omega)) ?_)
  refine up_loop (fun q i (s : Int32 × Int32 × T13) => p_X7_best_32 F (nI c) (nI n) x.x_now_arches x.x_now_cats x.x_now_store x.x_now_hour x.x_now_drops x.f_now_load x.f_now_sag x.f_now_joy x.f_now_bowl x.f_now_grief x.f_now_place x.x_ruling_size x.f_ruling_steps x.f_told_numbers _ q i s.1 s.2.1 s.2.2.1 s.2.2.2.1 s.2.2.2.2.1 s.2.2.2.2.2.1 s.2.2.2.2.2.2.1 s.2.2.2.2.2.2.2.1 s.2.2.2.2.2.2.2.2.1 s.2.2.2.2.2.2.2.2.2.1 s.2.2.2.2.2.2.2.2.2.2.1 s.2.2.2.2.2.2.2.2.2.2.2.1 s.2.2.2.2.2.2.2.2.2.2.2.2.1 s.2.2.2.2.2.2.2.2.2.2.2.2.2.1 s.2.2.2.2.2.2.2.2.2.2.2.2.2.2) (fun j s => (j = 0 ∧ s.2.1 = -1) ∨ ∃ i, j = i + 1 ∧ s.1 = T (dpI T i) ∧ s.2.1 = nI (dpI T i)) nA ?_ ?_ F (0, -1, x.x_trial_arches, x.x_trial_cats, x.x_trial_store, x.x_trial_hour, x.x_trial_drops, x.f_trial_load, x.f_trial_sag, x.f_trial_joy, x.f_trial_bowl, x.f_trial_grief, x.f_trial_place, x.x_ruling_top, x.f_ruling_stack) 0 (Or.inl ⟨rfl, rfl⟩) (by omega) (by omega)
  · rintro q ⟨y4, y3, t1, t2, t3, t4, t5, t6, t7, t8, t9, t10, t11, t12, t13⟩ (e0 | ⟨i, e0, e1, e2⟩)
    · omega
    have e1 : y4 = _ := e1
    have e2 : y3 = _ := e2
    subst e1 e2
    have : nA - 1 = i := by omega
    rw [this] at md
    show p_X7_best_32 F (nI c) (nI n) x.x_now_arches x.x_now_cats x.x_now_store x.x_now_hour x.x_now_drops x.f_now_load x.f_now_sag x.f_now_joy x.f_now_bowl x.f_now_grief x.f_now_place x.x_ruling_size x.f_ruling_steps x.f_told_numbers _ (q + 1) (nI nA) (T (dpI T i)) (nI (dpI T i)) t1 t2 t3 t4 t5 t6 t7 t8 t9 t10 t11 t12 t13
    rw [p_X7_best_32_s]
    refine br_t (by rw [hV.1]; exact nI_le (Nat.le_refl _) (by omega)) (s3_anew (s3_add (RL_nil _) (by decide) (fun s5 f5 h5 => s7_sagsIn hF (by omega) hRX hV ok (fun u => s3_add h5 (by show 1 < 8; omega) (fun s6 f6 h6 => ?_)))))
    refine s8_isCat hc (by omega) (br_f (by decide) (s8_in (lo := 1) (hi := 30) hn1 hn (by omega) ⟨fun _ => md _ (fun s7 f7 u1 u2 u3 u4 u5 u6 u7 f2 as hd h7 => ?_), fun z => absurd z (by decide)⟩))
    exact ⟨rfl, nA, nC, R, w, ok, hV, hM, rfl, rfl, hT, RWr_of (by show 2 ≤ 8; omega) h6 h7, ⟨hRX, rs, rfl, hRM⟩, hN, hE, hH, hK⟩
  · rintro q j ⟨y4, y3, t1, t2, t3, t4, t5, t6, t7, t8, t9, t10, t11, t12, t13⟩ hj ec ih
    show p_X7_best_32 F (nI c) (nI n) x.x_now_arches x.x_now_cats x.x_now_store x.x_now_hour x.x_now_drops x.f_now_load x.f_now_sag x.f_now_joy x.f_now_bowl x.f_now_grief x.f_now_place x.x_ruling_size x.f_ruling_steps x.f_told_numbers _ (q + 1) (nI j) y4 y3 t1 t2 t3 t4 t5 t6 t7 t8 t9 t10 t11 t12 t13
    rw [p_X7_best_32_s]
    refine br_f (by rw [hV.1]; exact nI_ge hj (by omega)) (s6_become hV (fun l2 s2 j2 b2 g2 q2 hVb => ⟨pk_in c 8 (by omega), ?_⟩))
    rw [nI_clamp (n := c) (by omega)]
    refine s6_passHours hF (by omega) hRX (AV_pl (c := c) (v := nI j) (by omega) hVb) (okT j hj) (fun h3 d3 t3 st3 s3 j3 g3 b3 hV3 => ?_)
    unfold p_X7_best_96 p_X7_best_108
    rcases ec with ⟨e0, e1⟩ | ⟨i, e0, e1, e2⟩
    · have e1 : y3 = -1 := e1
      subst e0
      refine br_t e1 (s6_allSags hF hV3 hA ?_)
      rw [eT 0]
      exact ih (T 0, nI 0, _, _, _, _, _, _, _, _, _, _, _, _, _) (Or.inr ⟨0, rfl, rfl, rfl⟩)
    · have e1 : y4 = _ := e1
      have e2 : y3 = _ := e2
      subst e1 e2 e0
      have hle := dpI_le T i
      refine br_f (fun z => by have := nI_pos (n := dpI T i) (by omega); rw [z] at this; exact this (by decide)) (s6_allSags hF hV3 hA ?_)
      rw [eT (i + 1)]
      refine ⟨fun z => ih (T (dpI T i), nI (dpI T i), _, _, _, _, _, _, _, _, _, _, _, _, _) (Or.inr ⟨i + 1, rfl, ?_, ?_⟩), fun z => s6_allSags hF hV3 hA ?_⟩
      · show _ = T (if _ then _ else _); rw [if_pos z]
      · show _ = nI (if _ then _ else _); rw [if_pos z]
      · rw [eT (i + 1)]
        refine ih (T (i + 1), nI (i + 1), _, _, _, _, _, _, _, _, _, _, _, _, _) (Or.inr ⟨i + 1, rfl, ?_, ?_⟩)
        · show _ = T (if _ then _ else _); rw [if_neg z]
        · show _ = nI (if _ then _ else _); rw [if_neg z]
def chW (w : Nat → Int32) (c : Nat) : Nat → Int32 := upd w (12 + c) (if w (12 + c) + 1 < 9 then w (12 + c) + 1 else 9)
theorem ch_eq {v : Int32} (h : dg v) : cl9 (v + 1) = if v + 1 < 9 then v + 1 else 9 := by
  obtain ⟨k, hk, rfl⟩ := h
  have : ∀ k, k < 10 → cl9 (nI k + 1) = if nI k + 1 < 9 then nI k + 1 else 9 := by decide
  exact this k (by omega)
theorem ob_cheers (hF : 5000 ≤ F) (p1 : Int32) (h : Rel F x m) : p7_cheers F p1 x (fun r x' => p8_cheers F p1 am m (fun r' m' => r = r' ∧ Rel F x' m')) := by
  obtain ⟨nA, nC, R, w, ok, hV, hM, eA, eC, hT, hW, hU, hN, hE, hH, hK⟩ := h
  have hA := ok.1
  have hC := ok.2.1
  obtain ⟨hRX, rs, ers, hRM⟩ := id hU
  unfold p7_cheers p_X7_cheers p8_cheers p_X8_cheers
  rw [eA, eC, ers]
  rcases is130_cases p1 30 (by omega) with h | ⟨n, hn1, hn, rfl⟩
  · refine ⟨fun _ => ?_, fun z => br_f (nle_of_lt (h.resolve_left z)) ?_⟩ <;> exact s8_nin h ⟨fun z => absurd rfl z, fun _ => ⟨rfl, nA, nC, R, w, ok, hV, hM, rfl, rfl, hT, hW, ⟨hRX, rs, rfl, hRM⟩, hN, hE, hH, hK⟩⟩
  generalize hTT : (fun c => sagS nA (goHs R nA nC n (chW w c))) = T
  have eT : ∀ c, sagS nA (goHs R nA nC n (chW w c)) = T c := fun c => by rw [← hTT]
  have okT : ∀ c, c < nC → OK nA nC (chW w c) := fun c hc => by
    refine OK_dg ok ?_ (by omega) (by intro i _ _; omega) (by intro i _ _; omega)
    rw [← ch_eq (ok.2.2.1 (12 + c) (by omega))]; exact cl9_dg _
  have tl : ∀ c, c < nC → ∃ s, s ≤ 54 ∧ T c = nI s := fun c hc => by rw [← eT c]; exact sagS_n (goHs_OK (okT c hc) n)
  have md : 0 < nC → ∀ Post : Int32 → (Int32 × Int32 × Value × Int32 × Int32 × Int32 × Int32 × Int32 × Int32 × (Nat → Int32) × (Nat → Int32) × (Nat → Int32) × (Nat → Int64)) → Prop, (∀ s5 f5 u1 u2 u3 u4 u5 u6 u7 f2 as hd, RLw ([] ++ [(T (dpI T (nC - 1))).toInt64] ++ [(sagS nA (goHs R nA nC n w)).toInt64]) s5 f5 → Post (nI (dpI T (nC - 1))) (s5, 0, u1, u2, u3, u4, u5, u6, u7, f2, as, hd, f5)) → p_X8_cheers_36 F (nI n) (nI nA) (nI nC) am.q_rule (nI rs) m.f_now m.f_rule m.f_row Post F 0 1000000 (-1) m.w_read m.x_length m.x_top m.x_at m.x_wrong m.x_isAsked m.x_dropped m.f_then m.f_asked m.f_hold := by
    intro h0 Post kk
    refine up_loop (fun q i (s : Int32 × Int32 × Value × Int32 × Int32 × Int32 × Int32 × Int32 × Int32 × (Nat → Int32) × (Nat → Int32) × (Nat → Int32)) => p_X8_cheers_36 F (nI n) (nI nA) (nI nC) am.q_rule (nI rs) m.f_now m.f_rule m.f_row Post q i s.1 s.2.1 s.2.2.1 s.2.2.2.1 s.2.2.2.2.1 s.2.2.2.2.2.1 s.2.2.2.2.2.2.1 s.2.2.2.2.2.2.2.1 s.2.2.2.2.2.2.2.2.1 s.2.2.2.2.2.2.2.2.2.1 s.2.2.2.2.2.2.2.2.2.2.1 s.2.2.2.2.2.2.2.2.2.2.2) (fun j s => (j = 0 ∧ s.1 = 1000000) ∨ ∃ i, j = i + 1 ∧ s.1 = T (dpI T i) ∧ s.2.1 = nI (dpI T i)) nC ?_ ?_ F (1000000, -1, m.w_read, m.x_length, m.x_top, m.x_at, m.x_wrong, m.x_isAsked, m.x_dropped, m.f_then, m.f_asked, m.f_hold) 0 (Or.inl ⟨rfl, rfl⟩) (by omega) (by omega)
    · rintro q ⟨y4, y3, u1, u2, u3, u4, u5, u6, u7, g1, u8, u9⟩ (e0 | ⟨i, e0, e1, e2⟩)
      · omega
      have e1 : y4 = _ := e1
      have e2 : y3 = _ := e2
      subst e1 e2
      have : nC - 1 = i := by omega
      rw [this] at kk
      show p_X8_cheers_36 F (nI n) (nI nA) (nI nC) am.q_rule (nI rs) m.f_now m.f_rule m.f_row Post (q + 1) (nI nC) _ _ u1 u2 u3 u4 u5 u6 u7 g1 u8 u9
      rw [p_X8_cheers_36_s]
      refine br_t (nI_le (Nat.le_refl _) (by omega)) (s8_lay0 hF hM (fun g hg => s8_tell (RL_nil _) (by decide) (fun s5 f5 h5 => s8_sagsBehind hF (by omega) hRM hg ok (fun w1 w2 w3 w4 w5 w6 f2 as hd z => s8_tell h5 (by show 1 < 16; omega) (fun s6 f6 h6 => kk _ _ _ _ _ _ _ _ _ _ _ _ h6)))))
    · rintro q j ⟨y4, y3, u1, u2, u3, u4, u5, u6, u7, g1, u8, u9⟩ hj ec ih
      show p_X8_cheers_36 F (nI n) (nI nA) (nI nC) am.q_rule (nI rs) m.f_now m.f_rule m.f_row Post (q + 1) (nI j) y4 y3 u1 u2 u3 u4 u5 u6 u7 g1 u8 u9
      rw [p_X8_cheers_36_s, cc12 (by omega)]
      refine br_f (nI_ge hj (by omega)) (s8_lay0 hF hM (fun g hg => ⟨ci12 (by omega), ci12 (by omega), ?_⟩))
      rw [hg (12 + j) (by omega)]
      have mv : MV (chW w j) (upd g (12 + j) (if w (12 + j) + 1 < 9 then w (12 + j) + 1 else 9)) := MV_upd hg
      refine s8_sagsBehind hF (by omega) hRM mv (okT j hj) (fun w1 w2 w3 w4 w5 w6 f2 as hd z => ?_)
      rw [eT j]
      unfold p_X8_cheers_106
      obtain ⟨tj, htj, etj⟩ := tl j hj
      rcases ec with ⟨e0, e1⟩ | ⟨i, e0, e1, e2⟩
      · have e1 : y4 = 1000000 := e1
        subst e0
        refine br_t (by rw [etj, e1]; exact nI_lt (b := 1000000) (by omega) (by omega)) (ih (T 0, nI 0, _, _, _, _, _, _, _, _, _, _) (Or.inr ⟨0, rfl, rfl, rfl⟩))
      · have e1 : y4 = _ := e1
        have e2 : y3 = _ := e2
        subst e1 e2 e0
        refine ⟨fun z => ih (T (i + 1), nI (i + 1), _, _, _, _, _, _, _, _, _, _) (Or.inr ⟨i + 1, rfl, ?_, ?_⟩), fun z => ih (T (dpI T i), nI (dpI T i), _, _, _, _, _, _, _, _, _, _) (Or.inr ⟨i + 1, rfl, ?_, ?_⟩)⟩
        · show _ = T (if _ then _ else _); rw [if_neg (nle_of_lt z)]
        · show _ = nI (if _ then _ else _); rw [if_neg (nle_of_lt z)]
        · have z' : T (dpI T i) ≤ T (i + 1) := Classical.byContradiction fun y => z (le_or_lt y)
          show _ = T (if _ then _ else _); rw [if_pos z']
        · have z' : T (dpI T i) ≤ T (i + 1) := Classical.byContradiction fun y => z (le_or_lt y)
          show _ = nI (if _ then _ else _); rw [if_pos z']
  refine br_f (nI_nlt (b := 1) hn1 (by omega)) (br_t (nI_le (b := 30) hn (by omega)) ?_)
  refine up_loop (fun q i (s : Int32 × Int32 × T13) => p_X7_cheers_21 F (nI n) x.x_now_arches x.x_now_cats x.x_now_store x.x_now_hour x.x_now_drops x.f_now_load x.f_now_sag x.f_now_joy x.f_now_bowl x.f_now_grief x.f_now_place x.x_ruling_size x.f_ruling_steps x.x_told_size x.f_told_numbers _ q i s.1 s.2.1 s.2.2.1 s.2.2.2.1 s.2.2.2.2.1 s.2.2.2.2.2.1 s.2.2.2.2.2.2.1 s.2.2.2.2.2.2.2.1 s.2.2.2.2.2.2.2.2.1 s.2.2.2.2.2.2.2.2.2.1 s.2.2.2.2.2.2.2.2.2.2.1 s.2.2.2.2.2.2.2.2.2.2.2.1 s.2.2.2.2.2.2.2.2.2.2.2.2.1 s.2.2.2.2.2.2.2.2.2.2.2.2.2.1 s.2.2.2.2.2.2.2.2.2.2.2.2.2.2) (fun j s => (j = 0 ∧ s.2.1 = -2) ∨ ∃ i, j = i + 1 ∧ s.1 = T (dpI T i) ∧ s.2.1 = nI (dpI T i)) nC ?_ ?_ F (0, -2, x.x_trial_arches, x.x_trial_cats, x.x_trial_store, x.x_trial_hour, x.x_trial_drops, x.f_trial_load, x.f_trial_sag, x.f_trial_joy, x.f_trial_bowl, x.f_trial_grief, x.f_trial_place, x.x_ruling_top, x.f_ruling_stack) 0 (Or.inl ⟨rfl, rfl⟩) (by omega) (by omega)
  · rintro q ⟨y4, y3, t1, t2, t3, t4, t5, t6, t7, t8, t9, t10, t11, t12, t13⟩ ec
    show p_X7_cheers_21 F (nI n) x.x_now_arches x.x_now_cats x.x_now_store x.x_now_hour x.x_now_drops x.f_now_load x.f_now_sag x.f_now_joy x.f_now_bowl x.f_now_grief x.f_now_place x.x_ruling_size x.f_ruling_steps x.x_told_size x.f_told_numbers _ (q + 1) (nI nC) y4 y3 t1 t2 t3 t4 t5 t6 t7 t8 t9 t10 t11 t12 t13
    rw [p_X7_cheers_21_s]
    refine br_t (by rw [hV.2.1]; exact nI_le (Nat.le_refl _) (by omega)) ?_
    rcases ec with ⟨e0, e1⟩ | ⟨i, e0, e1, e2⟩
    · have e1 : y3 = -2 := e1
      subst e1
      refine br_t (by decide) (s8_in (lo := 1) (hi := 30) hn1 hn (by omega) ⟨fun _ => ⟨fun z => absurd (by rw [e0]; rfl) z, fun _ => ?_⟩, fun z => absurd z (by decide)⟩)
      exact ⟨rfl, nA, nC, R, w, ok, hV, hM, rfl, rfl, hT, hW, ⟨hRX, rs, rfl, hRM⟩, hN, hE, hH, hK⟩
    have e1 : y4 = _ := e1
    have e2 : y3 = _ := e2
    subst e1 e2
    have hle := dpI_le T i
    have md := md (by omega)
    have : nC - 1 = i := by omega
    rw [this] at md
    refine br_f (nI_pos (by omega)) (s3_anew (s3_add (RL_nil _) (by decide) (fun s5 f5 h5 => s7_sagsIn hF (by omega) hRX hV ok (fun u => s3_add h5 (by show 1 < 8; omega) (fun s6 f6 h6 => ?_)))))
    refine s8_in (lo := 1) (hi := 30) hn1 hn (by omega) ⟨fun _ => ⟨fun _ => md _ (fun s7 f7 u1 u2 u3 u4 u5 u6 u7 f2 as hd h7 => ?_), fun z => absurd z (nI_ne0 (by omega) (by omega))⟩, fun z => absurd z (by decide)⟩
    exact ⟨rfl, nA, nC, R, w, ok, hV, hM, rfl, rfl, hT, RWr_of (by show 2 ≤ 8; omega) h6 h7, ⟨hRX, rs, rfl, hRM⟩, hN, hE, hH, hK⟩
  · rintro q j ⟨y4, y3, t1, t2, t3, t4, t5, t6, t7, t8, t9, t10, t11, t12, t13⟩ hj ec ih
    show p_X7_cheers_21 F (nI n) x.x_now_arches x.x_now_cats x.x_now_store x.x_now_hour x.x_now_drops x.f_now_load x.f_now_sag x.f_now_joy x.f_now_bowl x.f_now_grief x.f_now_place x.x_ruling_size x.f_ruling_steps x.x_told_size x.f_told_numbers _ (q + 1) (nI j) y4 y3 t1 t2 t3 t4 t5 t6 t7 t8 t9 t10 t11 t12 t13
    rw [p_X7_cheers_21_s]
    have i8 : vp_in (nI j) 8 := pk_in j 8 (by omega)
    refine br_f (by rw [hV.2.1]; exact nI_ge hj (by omega)) (s6_become hV (fun l2 s2 j2 b2 g2 q2 hVb => ⟨i8, ?_⟩))
    rw [nI_clamp (n := j) (by omega), hV.2.2.2.2.2.2.2.1 j (by omega)]
    unfold p_X7_asDigit
    refine ⟨i8, ?_⟩
    have ev : (if (0 : Int32) < (if w (12 + j) + 1 < (9 : Int32) then w (12 + j) + 1 else (9 : Int32)) then (if w (12 + j) + 1 < (9 : Int32) then w (12 + j) + 1 else (9 : Int32)) else (0 : Int32)) = (if w (12 + j) + 1 < 9 then w (12 + j) + 1 else 9) := ch_eq (ok.2.2.1 (12 + j) (by omega))
    rw [ev]
    have av : AV nA nC (chW w j) x.x_now_arches x.x_now_cats x.x_now_store x.x_now_hour x.x_now_drops l2 s2 (upd j2 j (if w (12 + j) + 1 < 9 then w (12 + j) + 1 else 9)) b2 g2 q2 := AV_jy (by omega) hVb
    refine s6_passHours hF (by omega) hRX av (okT j hj) (fun h3 d3 t3 st3 s3 j3 g3 b3 hV3 => ?_)
    unfold p_X7_cheers_99 p_X7_cheers_110
    rcases ec with ⟨e0, e1⟩ | ⟨i, e0, e1, e2⟩
    · have e1 : y3 = -2 := e1
      subst e0
      refine br_t e1 (s6_allSags hF hV3 hA ?_)
      rw [eT 0]
      exact ih (T 0, nI 0, _, _, _, _, _, _, _, _, _, _, _, _, _) (Or.inr ⟨0, rfl, rfl, rfl⟩)
    · have e1 : y4 = _ := e1
      have e2 : y3 = _ := e2
      subst e1 e2 e0
      have hle := dpI_le T i
      refine br_f (nI_ne_m2 (by omega)) (s6_allSags hF hV3 hA ?_)
      rw [eT (i + 1)]
      refine ⟨fun z => ih (T (dpI T i), nI (dpI T i), _, _, _, _, _, _, _, _, _, _, _, _, _) (Or.inr ⟨i + 1, rfl, ?_, ?_⟩), fun z => s6_allSags hF hV3 hA ?_⟩
      · show _ = T (if _ then _ else _); rw [if_pos z]
      · show _ = nI (if _ then _ else _); rw [if_pos z]
      · rw [eT (i + 1)]
        refine ih (T (i + 1), nI (i + 1), _, _, _, _, _, _, _, _, _, _, _, _, _) (Or.inr ⟨i + 1, rfl, ?_, ?_⟩)
        · show _ = T (if _ then _ else _); rw [if_neg z]
        · show _ = nI (if _ then _ else _); rw [if_neg z]
end
