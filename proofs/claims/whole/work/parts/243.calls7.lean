/-! ===== calls: loudest, weakest ===== -/
/-- (when most, most, when least, least) behind n hours -/
def ldS (H : Nat → Int32) : Nat → Int32 × Int32 × Int32 × Int32
  | 0 => (0, H 0, 0, H 0)
  | n + 1 => (if H (n + 1) ≤ (ldS H n).2.1 then (ldS H n).1 else nI (n + 1), if H (n + 1) ≤ (ldS H n).2.1 then (ldS H n).2.1 else H (n + 1), if (ldS H n).2.2.2 ≤ H (n + 1) then (ldS H n).2.2.1 else nI (n + 1), if (ldS H n).2.2.2 ≤ H (n + 1) then (ldS H n).2.2.2 else H (n + 1))
theorem holdAll_n (R : (Nat → Int32) → Int32) {nA nC : Nat} (hA : nA ≤ 6) (hC : nC ≤ 8) (w : Nat → Int32) : ∃ h, h ≤ 432 ∧ holdAll R nA nC w = nI h := by
  have : ∀ n, ∃ h, h ≤ 72 * n ∧ sumI (fun a => hO R nC w a) n = nI h := by
    intro n
    induction n with
    | zero => exact ⟨0, by omega, rfl⟩
    | succ n ih =>
      obtain ⟨h, hh, e⟩ := ih
      obtain ⟨g, hg, e2⟩ := hO_n R hC w n
      exact ⟨h + g, by omega, by rw [sumI, e, e2, nI_add]⟩
  obtain ⟨h, hh, e⟩ := this nA
  exact ⟨h, by omega, e⟩
theorem le_or_lt {a b : Int32} (h : ¬ a ≤ b) : b < a := by
  rw [Int32.le_iff_toInt_le] at h
  rw [Int32.lt_iff_toInt_lt]
  omega
section
variable {F : Nat} {x : XS} {m : MS} {am : MA}
theorem ob_loudest (hF : 5000 ≤ F) (p1 : Int32) (h : Rel F x m) : p7_loudest F p1 x (fun r x' => p8_loudest F p1 am m (fun r' m' => r = r' ∧ Rel F x' m')) := by
  obtain ⟨nA, nC, R, w, ok, hV, hM, eA, eC, hT, hW, hU, hN, hE, hH, hK⟩ := h
  have hA := ok.1
  have hC := ok.2.1
  obtain ⟨hRX, rs, ers, hRM⟩ := id hU
  unfold p7_loudest p_X7_loudest p8_loudest p_X8_loudest
  rw [eA, eC, ers]
  rcases arg3 p1 (n := 99 + 1) (by omega) with h | ⟨n, hn, rfl⟩
  · refine lt_100 (n := 100) h ?_ ?_ <;> exact s8_rgno (n := 99) h (by omega) ⟨fun z => absurd rfl z, fun _ => ⟨rfl, nA, nC, R, w, ok, hV, hM, rfl, rfl, hT, hW, ⟨hRX, rs, rfl, hRM⟩, hN, hE, hH, hK⟩⟩
  generalize hHd : (fun k => holdAll R nA nC (goHs R nA nC k w)) = H
  have eH : ∀ k, holdAll R nA nC (goHs R nA nC k w) = H k := fun k => by rw [← hHd]
  obtain ⟨h0, hh0, eh0⟩ := holdAll_n R hA hC w
  have md : ∀ Post : Int32 → (Int32 × Int32 × Value × Int32 × Int32 × Int32 × Int32 × Int32 × Int32 × (Nat → Int32) × (Nat → Int32) × (Nat → Int32) × (Nat → Int64)) → Prop, (∀ s5 f5 u1 u2 u3 u4 u5 u6 u7 f2 as hd, RLw ([] ++ [(ldS H n).1.toInt64] ++ [(ldS H n).2.2.2.toInt64] ++ [(ldS H n).2.2.1.toInt64]) s5 f5 → Post (ldS H n).2.1 (s5, 0, u1, u2, u3, u4, u5, u6, u7, f2, as, hd, f5)) → p_X8_lay F 0 47 m.f_now 47 m.f_then (fun u_38 => p_X8_loudest_44 F (nI n) (nI nA) (nI nC) am.q_rule (nI rs) m.f_rule m.f_row Post F 0 0 0 1000000 (-1) m.w_read m.x_length m.x_top m.x_at m.x_wrong m.x_isAsked m.x_dropped u_38 m.f_asked m.f_hold) := by
    intro Post kk
    refine s8_lay0 hF hM (fun g hg => ?_)
    refine up_loop (fun q i (s : Int32 × Int32 × Int32 × Int32 × Value × Int32 × Int32 × Int32 × Int32 × Int32 × Int32 × (Nat → Int32) × (Nat → Int32) × (Nat → Int32)) => p_X8_loudest_44 F (nI n) (nI nA) (nI nC) am.q_rule (nI rs) m.f_rule m.f_row Post q i s.1 s.2.1 s.2.2.1 s.2.2.2.1 s.2.2.2.2.1 s.2.2.2.2.2.1 s.2.2.2.2.2.2.1 s.2.2.2.2.2.2.2.1 s.2.2.2.2.2.2.2.2.1 s.2.2.2.2.2.2.2.2.2.1 s.2.2.2.2.2.2.2.2.2.2.1 s.2.2.2.2.2.2.2.2.2.2.2.1 s.2.2.2.2.2.2.2.2.2.2.2.2.1 s.2.2.2.2.2.2.2.2.2.2.2.2.2) (fun j s => ((j = 0 ∧ s.1 = 0 ∧ s.2.1 = 0 ∧ s.2.2.1 = 1000000 ∧ s.2.2.2.1 = -1) ∨ (∃ i, j = i + 1 ∧ s.1 = (ldS H i).2.2.1 ∧ s.2.1 = (ldS H i).1 ∧ s.2.2.1 = (ldS H i).2.2.2 ∧ s.2.2.2.1 = (ldS H i).2.1)) ∧ MV (goHs R nA nC j w) s.2.2.2.2.2.2.2.2.2.2.2.1) (n + 1) ?_ ?_ F (0, 0, 1000000, -1, m.w_read, m.x_length, m.x_top, m.x_at, m.x_wrong, m.x_isAsked, m.x_dropped, g, m.f_asked, m.f_hold) 0 ⟨Or.inl ⟨rfl, rfl, rfl, rfl, rfl⟩, hg⟩ (by omega) (by omega)
    · rintro q ⟨a1, a2, a3, a4, u1, u2, u3, u4, u5, u6, u7, g1, u8, u9⟩ ⟨e1 | ⟨i, ei, e1, e2, e3, e4⟩, _⟩
      · exact absurd e1.1 (by omega)
      have : i = n := by omega
      subst this
      have e1 : a1 = _ := e1
      have e2 : a2 = _ := e2
      have e3 : a3 = _ := e3
      have e4 : a4 = _ := e4
      subst e1 e2 e3 e4
      show p_X8_loudest_44 F (nI i) (nI nA) (nI nC) am.q_rule (nI rs) m.f_rule m.f_row Post (q + 1) (nI (i + 1)) _ _ _ _ u1 u2 u3 u4 u5 u6 u7 g1 u8 u9
      rw [p_X8_loudest_44_s]
      exact br_t (nI_lt (by omega) (by omega)) (s8_tell (RL_nil _) (by decide) (fun s5 f5 h5 => s8_tell h5 (by show 1 < 16; omega) (fun s6 f6 h6 => s8_tell h6 (by show 2 < 16; omega) (fun s7 f7 h7 => kk _ _ _ _ _ _ _ _ _ _ _ _ h7))))
    · rintro q j ⟨a1, a2, a3, a4, u1, u2, u3, u4, u5, u6, u7, g1, u8, u9⟩ hj ⟨ec, eg⟩ ih
      have eg' : MV (goHs R nA nC j w) g1 := eg
      show p_X8_loudest_44 F (nI n) (nI nA) (nI nC) am.q_rule (nI rs) m.f_rule m.f_row Post (q + 1) (nI j) a1 a2 a3 a4 u1 u2 u3 u4 u5 u6 u7 g1 u8 u9
      rw [p_X8_loudest_44_s]
      have go : ∀ (v : Value × Int32 × Int32 × Int32 × Int32 × Int32 × (Nat → Int32)) (up low : Int32), low = (ldS H j).2.2.1 → up = (ldS H j).1 → (if H j < a3 then H j else a3) = (ldS H j).2.2.2 → (if a4 < H j then H j else a4) = (ldS H j).2.1 → p_X8_loudest_95 F (nI nA) (nI nC) am.q_rule (nI rs) m.f_rule (H j) v (nI j) a3 a4 u7 g1 u9 up (p_X8_loudest_44 F (nI n) (nI nA) (nI nC) am.q_rule (nI rs) m.f_rule m.f_row Post q) Post low := by
        intro v up low e1 e2 e3 e4
        unfold p_X8_loudest_95
        refine s8_goHour hF hRM eg' (goHs_OK ok j) (fun w1 w2 w3 w4 w5 w6 f3 as hd z => ?_)
        exact ih (_, _, _, _, _, _, _, _, _, _, _, _, _, _) ⟨Or.inr ⟨j, rfl, e1, e2, e3, e4⟩, z⟩
      refine br_f (nI_nlt (by omega) (by omega)) (s8_allHold hF hRM eg' (goHs_OK ok j) (fun v => ?_))
      rw [eH j]
      rcases ec with ⟨rfl, e1, e2, e3, e4⟩ | ⟨i, rfl, e1, e2, e3, e4⟩
      · have e1 : a1 = 0 := e1
        have e2 : a2 = 0 := e2
        have e3 : a3 = 1000000 := e3
        have e4 : a4 = -1 := e4
        have eh : H 0 = nI h0 := by rw [← eH 0]; exact eh0
        have b1 : ¬ H 0 ≤ a4 := by
          rw [eh, e4, Int32.le_iff_toInt_le, nI_toInt (by omega)]
          have : (-1 : Int32).toInt = -1 := by decide
          omega
        have b2 : ¬ a3 ≤ H 0 := by
          rw [eh, e3]; exact nI_ge (b := 1000000) (by omega) (by omega)
        refine br_f b1 ?_
        unfold p_X8_loudest_73
        refine br_f b2 (go v _ _ rfl rfl ?_ ?_)
        · rw [if_pos (le_or_lt b2)]; rfl
        · rw [if_pos (le_or_lt b1)]; rfl
      · have e1 : a1 = _ := e1
        have e2 : a2 = _ := e2
        have e3 : a3 = _ := e3
        have e4 : a4 = _ := e4
        subst e1 e2 e3 e4
        unfold p_X8_loudest_73
        refine ⟨fun z => ⟨fun z2 => go v _ _ ?_ ?_ ?_ ?_, fun z2 => go v _ _ ?_ ?_ ?_ ?_⟩, fun z => ⟨fun z2 => go v _ _ ?_ ?_ ?_ ?_, fun z2 => go v _ _ ?_ ?_ ?_ ?_⟩⟩
        · show _ = if _ then _ else _; rw [if_pos z2]
        · show _ = if _ then _ else _; rw [if_pos z]
        · show _ = if _ then _ else _; rw [if_neg (fun y => nle_of_lt y z2), if_pos z2]
        · show _ = if _ then _ else _; rw [if_neg (fun y => nle_of_lt y z), if_pos z]
        · show _ = if _ then _ else _; rw [if_neg z2]
        · show _ = if _ then _ else _; rw [if_pos z]
        · show _ = if _ then _ else _; rw [if_pos (le_or_lt z2), if_neg z2]
        · show _ = if _ then _ else _; rw [if_neg (fun y => nle_of_lt y z), if_pos z]
        · show _ = if _ then _ else _; rw [if_pos z2]
        · show _ = if _ then _ else _; rw [if_neg z]
        · show _ = if _ then _ else _; rw [if_neg (fun y => nle_of_lt y z2), if_pos z2]
        · show _ = if _ then _ else _; rw [if_pos (le_or_lt z), if_neg z]
        · show _ = if _ then _ else _; rw [if_neg z2]
        · show _ = if _ then _ else _; rw [if_neg z]
        · show _ = if _ then _ else _; rw [if_pos (le_or_lt z2), if_neg z2]
        · show _ = if _ then _ else _; rw [if_pos (le_or_lt z), if_neg z]
  refine br_f (nI_pos (by omega)) (br_t (nI_lt (b := 100) hn (by omega)) (s6_become hV (fun l2 s2 j2 b2 g2 q2 hVb => s6_allHold hF hRX hVb hA hC (fun u => ?_))))
  refine up_loop (fun q i (s : Int32 × Int32 × Int32 × Int32 × Int32 × Int32 × (Nat → Int32) × (Nat → Int32) × (Nat → Int32) × (Nat → Int32) × Int32 × (Nat → Int32)) => p_X7_loudest_46 F (nI n) x.x_ruling_size x.f_ruling_steps x.f_told_numbers (x.x_now_arches, x.x_now_cats, x.x_now_store, x.x_now_hour, x.x_now_drops, l2, s2, j2, b2, g2, q2) _ q i s.1 s.2.1 s.2.2.1 s.2.2.2.1 s.2.2.2.2.1 s.2.2.2.2.2.1 s.2.2.2.2.2.2.1 s.2.2.2.2.2.2.2.1 s.2.2.2.2.2.2.2.2.1 s.2.2.2.2.2.2.2.2.2.1 s.2.2.2.2.2.2.2.2.2.2.1 s.2.2.2.2.2.2.2.2.2.2.2) (fun j s => ∃ i, j = i + 1 ∧ s.1 = (ldS H i).2.2.1 ∧ s.2.1 = (ldS H i).1 ∧ s.2.2.1 = (ldS H i).2.2.2 ∧ s.2.2.2.1 = (ldS H i).2.1 ∧ AV nA nC (goHs R nA nC i w) x.x_now_arches x.x_now_cats x.x_now_store s.2.2.2.2.1 s.2.2.2.2.2.1 l2 s.2.2.2.2.2.2.1 s.2.2.2.2.2.2.2.1 s.2.2.2.2.2.2.2.2.1 s.2.2.2.2.2.2.2.2.2.1 q2) (n + 1) ?_ ?_ F (0, 0, _, _, x.x_now_hour, x.x_now_drops, s2, j2, b2, g2, u.1, u.2) 1 ⟨0, rfl, rfl, rfl, eH 0, eH 0, hVb⟩ (by omega) (by omega)
  · rintro q ⟨a1, a2, a3, a4, v1, v2, v3, v4, v5, v6, v7, v8⟩ ⟨i, ei, e1, e2, e3, e4, _⟩
    have : i = n := by omega
    subst this
    have e1 : a1 = _ := e1
    have e2 : a2 = _ := e2
    have e3 : a3 = _ := e3
    have e4 : a4 = _ := e4
    subst e1 e2 e3 e4
    show p_X7_loudest_46 F (nI i) x.x_ruling_size x.f_ruling_steps x.f_told_numbers (x.x_now_arches, x.x_now_cats, x.x_now_store, x.x_now_hour, x.x_now_drops, l2, s2, j2, b2, g2, q2) _ (q + 1) (nI (i + 1)) _ _ _ _ v1 v2 v3 v4 v5 v6 v7 v8
    rw [p_X7_loudest_46_s]
    refine br_t (nI_lt (by omega) (by omega)) (s3_anew (s3_add (RL_nil _) (by decide) (fun s5 f5 h5 => s3_add h5 (by show 1 < 8; omega) (fun s6 f6 h6 => s3_add h6 (by show 2 < 8; omega) (fun s7 f7 h7 => ?_)))))
    refine s8_rgyes (n := 99) hn (by omega) ⟨fun _ => md _ (fun s8 f8 u1 u2 u3 u4 u5 u6 u7 f2 as hd h8 => ?_), fun z => absurd z (by decide)⟩
    exact ⟨rfl, nA, nC, R, w, ok, hV, hM, rfl, rfl, hT, RWr_of (by show 3 ≤ 8; omega) h7 h8, ⟨hRX, rs, rfl, hRM⟩, hN, hE, hH, hK⟩
  · rintro q j ⟨a1, a2, a3, a4, v1, v2, v3, v4, v5, v6, v7, v8⟩ hj ⟨i, ei, e1, e2, e3, e4, ev⟩ ih
    subst ei
    have ev' : AV nA nC (goHs R nA nC i w) x.x_now_arches x.x_now_cats x.x_now_store v1 v2 l2 v3 v4 v5 v6 q2 := ev
    have e1 : a1 = _ := e1
    have e2 : a2 = _ := e2
    have e3 : a3 = _ := e3
    have e4 : a4 = _ := e4
    subst e1 e2 e3 e4
    show p_X7_loudest_46 F (nI n) x.x_ruling_size x.f_ruling_steps x.f_told_numbers (x.x_now_arches, x.x_now_cats, x.x_now_store, x.x_now_hour, x.x_now_drops, l2, s2, j2, b2, g2, q2) _ (q + 1) (nI (i + 1)) (ldS H i).2.2.1 (ldS H i).1 (ldS H i).2.2.2 (ldS H i).2.1 v1 v2 v3 v4 v5 v6 v7 v8
    rw [p_X7_loudest_46_s]
    refine br_f (nI_nlt (by omega) (by omega)) (s6_passHour hF hRX ev' (goHs_OK ok i) (fun h3 d3 t3 st3 s3 j3 g3 b3 z3 => s6_allHold hF hRX z3 hA hC (fun u => ?_)))
    have eHi : holdAll R nA nC (goH R nA nC (goHs R nA nC i w)) = H (i + 1) := eH (i + 1)
    rw [eHi]
    unfold p_X7_loudest_90 p_X7_loudest_103
    refine ⟨fun z => ⟨fun z2 => ?_, fun z2 => ?_⟩, fun z => ⟨fun z2 => ?_, fun z2 => ?_⟩⟩
    · exact ih (_, _, _, _, _, _, _, _, _, _, _, _) ⟨i + 1, rfl, by show _ = if _ then _ else _; rw [if_pos z2], by show _ = if _ then _ else _; rw [if_pos z], by show _ = if _ then _ else _; rw [if_pos z2], by show _ = if _ then _ else _; rw [if_pos z], z3⟩
    · exact ih (nI (i + 1), _, _, _, _, _, _, _, _, _, _, _) ⟨i + 1, rfl, by show _ = if _ then _ else _; rw [if_neg z2], by show _ = if _ then _ else _; rw [if_pos z], by show _ = if _ then _ else _; rw [if_neg z2], by show _ = if _ then _ else _; rw [if_pos z], z3⟩
    · exact ih (_, nI (i + 1), _, _, _, _, _, _, _, _, _, _) ⟨i + 1, rfl, by show _ = if _ then _ else _; rw [if_pos z2], by show _ = if _ then _ else _; rw [if_neg z], by show _ = if _ then _ else _; rw [if_pos z2], by show _ = if _ then _ else _; rw [if_neg z], z3⟩
    · exact ih (nI (i + 1), nI (i + 1), _, _, _, _, _, _, _, _, _, _) ⟨i + 1, rfl, by show _ = if _ then _ else _; rw [if_neg z2], by show _ = if _ then _ else _; rw [if_neg z], by show _ = if _ then _ else _; rw [if_neg z2], by show _ = if _ then _ else _; rw [if_neg z], z3⟩
def lkI (R : (Nat → Int32) → Int32) (nC : Nat) (w : Nat → Int32) (a : Nat) : Int32 := w a - hO R nC w a
def wkN (L : Nat → Int32) : Nat → Nat
  | 0 => 0
  | n + 1 => if L (n + 1) ≤ L (wkN L n) then wkN L n else n + 1
theorem wkN_le (L : Nat → Int32) : ∀ n, wkN L n ≤ n
  | 0 => Nat.le_refl _
  | n + 1 => by
    have := wkN_le L n
    rw [wkN]; split <;> omega
theorem ob_weakest (hF : 5000 ≤ F) (h : Rel F x m) : p7_weakest F x (fun r x' => p8_weakest F am m (fun r' m' => r = r' ∧ Rel F x' m')) := by
  obtain ⟨nA, nC, R, w, ok, hV, hM, eA, eC, hT, hW, hU, hN, hE, hH, hK⟩ := h
  have hA := ok.1
  have hC := ok.2.1
  obtain ⟨hRX, rs, ers, hRM⟩ := id hU
  unfold p7_weakest p_X7_weakest
  have lk : ∀ (a : Nat) (Post : Int32 → (Value × Int32 × Int32 × Int32 × Int32 × Int32 × (Nat → Int32)) → Prop) (rd : Value) (ln tp at0 wr ia : Int32) (as : Nat → Int32), a < nA → (∀ u, Post (lkI R nC w a) u) → p_X8_lackOf F (nI a) (nI nC) rd ln tp at0 wr am.q_rule (nI rs) ia m.f_now as m.f_rule Post := by
    intro a Post rd ln tp at0 wr ia as ha kk
    unfold p_X8_lackOf
    refine ⟨pk_in a 47 (by omega), s8_holdOf hF hRM hM ok (by omega) (fun v => ?_)⟩
    rw [nI_clamp (n := a) (by omega), hM a (by omega)]
    exact kk _
  refine up_loop (fun q i (s : Int32 × Int32 × Int32 × (Nat → Int32)) => p_X7_weakest_7 F x.x_now_arches x.x_now_cats x.x_now_hour x.f_now_load x.x_ruling_size x.f_now_place x.f_ruling_steps x.f_now_sag x.f_now_joy x.f_now_grief x.f_now_bowl x.x_told_size x.f_told_numbers _ q i s.1 s.2.1 s.2.2.1 s.2.2.2) (fun j s => (j = 0 ∧ s.2.1 = -2) ∨ ∃ i, j = i + 1 ∧ s.1 = lkI R nC w (wkN (lkI R nC w) i) ∧ s.2.1 = nI (wkN (lkI R nC w) i)) nA ?_ ?_ F (0, -2, x.x_ruling_top, x.f_ruling_stack) 0 (Or.inl ⟨rfl, rfl⟩) (by omega) (by omega)
  · rintro q ⟨a1, a2, t, st⟩ ec
    show p_X7_weakest_7 F x.x_now_arches x.x_now_cats x.x_now_hour x.f_now_load x.x_ruling_size x.f_now_place x.f_ruling_steps x.f_now_sag x.f_now_joy x.f_now_grief x.f_now_bowl x.x_told_size x.f_told_numbers _ (q + 1) (nI nA) a1 a2 t st
    rw [p_X7_weakest_7_s]
    refine br_t (by rw [hV.1]; exact nI_le (Nat.le_refl _) (by omega)) ?_
    rcases ec with ⟨e0, e1⟩ | ⟨i, e0, e1, e2⟩
    · have e1 : a2 = -2 := e1
      refine s7_told (Or.inl e1) (fun _ => ?_) (fun z => absurd e1 z)
      unfold p8_weakest p_X8_weakest
      exact ⟨fun z => absurd (by rw [eA, e0]; rfl) z, fun _ => ⟨rfl, nA, nC, R, w, ok, hV, hM, eA, eC, hT, hW, hU, hN, hE, hH, hK⟩⟩
    · have e1 : a1 = _ := e1
      have e2 : a2 = _ := e2
      subst e1 e2
      have hle := wkN_le (lkI R nC w) i
      refine s7_told (Or.inr ⟨_, by omega, rfl⟩) (fun z => absurd z (nI_ne_m2 (by omega))) (fun _ s5 f5 h5 => ?_)
      unfold p8_weakest p_X8_weakest
      rw [eA, eC, ers]
      refine ⟨fun _ => ?_, fun z => absurd z (nI_ne0 (by omega) (by omega))⟩
      refine up_loop (fun q i (s : Int32 × Value × Int32 × Int32 × Int32 × Int32 × Int32 × (Nat → Int32)) => p_X8_weakest_19 F (nI nA) (nI nC) am.q_rule (nI rs) m.f_now m.f_rule m.f_row _ q i s.1 s.2.1 s.2.2.1 s.2.2.2.1 s.2.2.2.2.1 s.2.2.2.2.2.1 s.2.2.2.2.2.2.1 s.2.2.2.2.2.2.2) (fun j s => ∃ i, j = i + 1 ∧ s.1 = nI (wkN (lkI R nC w) i)) nA ?_ ?_ F (0, m.w_read, m.x_length, m.x_top, m.x_at, m.x_wrong, m.x_isAsked, m.f_asked) 1 ⟨0, rfl, rfl⟩ (by omega) (by omega)
      · rintro q ⟨b, u1, u2, u3, u4, u5, u6, u7⟩ ⟨i2, e3, e4⟩
        have : i2 = i := by omega
        subst this
        have e4 : b = _ := e4
        subst e4
        show p_X8_weakest_19 F (nI nA) (nI nC) am.q_rule (nI rs) m.f_now m.f_rule m.f_row _ (q + 1) (nI nA) (nI (wkN (lkI R nC w) i2)) u1 u2 u3 u4 u5 u6 u7
        rw [p_X8_weakest_19_s]
        refine br_t (nI_le (Nat.le_refl _) (by omega)) (lk _ _ _ _ _ _ _ _ _ (by omega) (fun v => s8_tell (RL_nil _) (by decide) (fun s6 f6 h6 => ?_)))
        exact ⟨rfl, nA, nC, R, w, ok, hV, hM, rfl, rfl, hT, RWr_of (by show 1 ≤ 8; omega) h5 h6, ⟨hRX, rs, rfl, hRM⟩, hN, hE, hH, hK⟩
      · rintro q j ⟨b, u1, u2, u3, u4, u5, u6, u7⟩ hj ⟨i2, e3, e4⟩ ih
        subst e3
        have e4 : b = _ := e4
        subst e4
        have hle2 := wkN_le (lkI R nC w) i2
        show p_X8_weakest_19 F (nI nA) (nI nC) am.q_rule (nI rs) m.f_now m.f_rule m.f_row _ (q + 1) (nI (i2 + 1)) (nI (wkN (lkI R nC w) i2)) u1 u2 u3 u4 u5 u6 u7
        rw [p_X8_weakest_19_s]
        refine br_f (nI_ge hj (by omega)) (lk _ _ _ _ _ _ _ _ _ hj (fun v => lk _ _ _ _ _ _ _ _ _ (by omega) (fun v2 => ?_)))
        unfold p_X8_weakest_45
        refine ⟨fun z => ih (nI (wkN (lkI R nC w) i2), _, _, _, _, _, _, _) ⟨i2 + 1, rfl, ?_⟩, fun z => ih (nI (i2 + 1), _, _, _, _, _, _, _) ⟨i2 + 1, rfl, ?_⟩⟩
        · show _ = nI (if _ then _ else _); rw [if_pos z]
        · show _ = nI (if _ then _ else _); rw [if_neg z]
  · rintro q j ⟨a1, a2, t, st⟩ hj ec ih
    show p_X7_weakest_7 F x.x_now_arches x.x_now_cats x.x_now_hour x.f_now_load x.x_ruling_size x.f_now_place x.f_ruling_steps x.f_now_sag x.f_now_joy x.f_now_grief x.f_now_bowl x.x_told_size x.f_told_numbers _ (q + 1) (nI j) a1 a2 t st
    rw [p_X7_weakest_7_s, nI_clamp (n := j) (by omega), hV.2.2.2.2.2.1 j (by omega)]
    refine br_f (by rw [hV.1]; exact nI_ge hj (by omega)) ⟨pk_in j 6 (by omega), s6_holdOf hF hRX hV hA hC hj (fun v => ?_)⟩
    unfold p_X7_weakest_54 p_X7_weakest_59
    rw [nI_clamp (n := j) (by omega), hV.2.2.2.2.2.1 j (by omega)]
    rcases ec with ⟨e0, e1⟩ | ⟨i, e0, e1, e2⟩
    · have e1 : a2 = -2 := e1
      subst e0
      exact br_t e1 (ih (lkI R nC w 0, nI 0, _, _) (Or.inr ⟨0, rfl, rfl, rfl⟩))
    · have e1 : a1 = _ := e1
      have e2 : a2 = _ := e2
      subst e1 e2 e0
      have hle := wkN_le (lkI R nC w) i
      refine br_f (nI_ne_m2 (by omega)) ⟨fun z => ih (lkI R nC w (wkN (lkI R nC w) i), nI (wkN (lkI R nC w) i), _, _) (Or.inr ⟨i + 1, rfl, ?_, ?_⟩), fun z => ih (lkI R nC w (i + 1), nI (i + 1), _, _) (Or.inr ⟨i + 1, rfl, ?_, ?_⟩)⟩
      · show _ = lkI R nC w (if _ then _ else _); rw [if_pos (show lkI R nC w (i + 1) ≤ _ from z)]
      · show _ = nI (if _ then _ else _); rw [if_pos (show lkI R nC w (i + 1) ≤ _ from z)]
      · show _ = lkI R nC w (if _ then _ else _); rw [if_neg (show ¬ lkI R nC w (i + 1) ≤ _ from z)]
      · show _ = nI (if _ then _ else _); rw [if_neg (show ¬ lkI R nC w (i + 1) ≤ _ from z)]
end
