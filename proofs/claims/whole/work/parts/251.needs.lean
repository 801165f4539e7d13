/-! ===== call: needs ===== -/
def nbS (H : Nat → Bool) : Nat → Option Nat
  | 0 => none
  | n + 1 => if H n = true ∧ (∀ b, nbS H n = some b → ¬ bcnt (nI b) ≤ bcnt (nI n)) then some n else nbS H n
theorem nbS_lt (H : Nat → Bool) : ∀ n b, nbS H n = some b → b < n
  | 0, b, h => by simp [nbS] at h
  | n + 1, b, h => by
    rw [nbS] at h
    split at h
    · have := Option.some.inj h; omega
    · have := nbS_lt H n b h; omega
section
variable {F nA nC rs q : Nat} {R : (Nat → Int32) → Int32} {w f rule asked : Nat → Int32} {rd : Value} {ln tp at0 wr ia : Int32}
theorem s8_holdBy {a set : Nat} {Post : Int32 → (Value × Int32 × Int32 × Int32 × Int32 × Int32 × (Nat → Int32)) → Prop} (hF : 5000 ≤ F) (hR : RM F R rs rule) (hM : MV w f) (hC : nC ≤ 8) (ha : a < 6) (hs : set < 256) (k : ∀ u, Post (hB R w a set nC) u) : p_X8_holdBy F (nI set) (nI a) (nI nC) rd ln tp at0 wr q (nI rs) ia f asked rule Post := by
  unfold p_X8_holdBy
  refine up_loop (fun n i (s : Int32 × Value × Int32 × Int32 × Int32 × Int32 × Int32 × (Nat → Int32)) => p_X8_holdBy_5 F (nI set) (nI a) (nI nC) q (nI rs) f rule Post n i s.1 s.2.1 s.2.2.1 s.2.2.2.1 s.2.2.2.2.1 s.2.2.2.2.2.1 s.2.2.2.2.2.2.1 s.2.2.2.2.2.2.2) (fun j s => s.1 = hB R w a set j) nC ?_ ?_ F (0, rd, ln, tp, at0, wr, ia, asked) 0 rfl (by omega) (by omega)
  · rintro n ⟨s, u1, u2, u3, u4, u5, u6, u7⟩ hs
    have hs : s = _ := hs
    subst hs
    show p_X8_holdBy_5 F (nI set) (nI a) (nI nC) q (nI rs) f rule Post (n + 1) (nI nC) _ u1 u2 u3 u4 u5 u6 u7
    rw [p_X8_holdBy_5_s]
    exact br_t (nI_le (Nat.le_refl _) (by omega)) (k _)
  · rintro n j ⟨s, u1, u2, u3, u4, u5, u6, u7⟩ hj hs' ih
    have hs' : s = _ := hs'
    subst hs'
    show p_X8_holdBy_5 F (nI set) (nI a) (nI nC) q (nI rs) f rule Post (n + 1) (nI j) (hB R w a set j) u1 u2 u3 u4 u5 u6 u7
    rw [p_X8_holdBy_5_s]
    unfold p_X8_has p_X8_holdBy_45
    rw [fz_bit1 (by omega) (by omega)]
    refine br_f (nI_ge hj (by omega)) ⟨fun z => br_t rfl (ih (hB R w a set j + 0, u1, u2, u3, u4, u5, u6, u7) ?_), fun z => br_f (by decide) (s_bitCount (s8_purrIn hR hM (by omega) ha (fun v => ih (_, _, _, _, _, _, _, _) ?_)))⟩
    · show _ = hB R w a set (j + 1); rw [hB, if_neg z]
    · show _ = hB R w a set (j + 1); rw [hB, if_pos z]
end
section
variable {F : Nat} {x : XS} {m : MS} {am : MA}
theorem bc_nn {b : Nat} (h : b < 256) : ¬ bcnt (nI b) < 0 ∧ ¬ bcnt (nI b) = -2 := by
  have : ∀ b, b < 256 → ¬ bcnt (nI b) < 0 ∧ ¬ bcnt (nI b) = -2 := by decide +kernel
  exact this b h
theorem sh_nC {nC : Nat} (h : nC ≤ 8) : (1 : Int32) <<< (nI nC &&& 31) = nI (2 ^ nC) := fz_sh1 (by omega)
theorem pw_nC {nC : Nat} (h : nC ≤ 8) : 1 ≤ 2 ^ nC ∧ 2 ^ nC ≤ 256 := ⟨Nat.two_pow_pos nC, Nat.pow_le_pow_right (n := 2) (by decide) h⟩
theorem ob_needs (hF : 5000 ≤ F) (p1 : Int32) (h : Rel F x m) : p7_needs F p1 x (fun r x' => p8_needs F p1 am m (fun r' m' => r = r' ∧ Rel F x' m')) := by
  obtain ⟨nA, nC, R, w, ok, hV, hM, eA, eC, hT, hW, hU, hN, hE, hH, hK⟩ := h
  have hA := ok.1
  have hC := ok.2.1
  obtain ⟨hRX, rs, ers, hRM⟩ := id hU
  obtain ⟨pw1, pw2⟩ := pw_nC hC
  unfold p7_needs p_X7_needs p8_needs p_X8_needs
  rw [eA, eC, ers]
  rcases arg3 p1 (n := nA) (by omega) with h | ⟨a, ha, rfl⟩
  · rw [hV.1]
    exact s6_noArch h ⟨fun z => absurd rfl z, fun _ => s8_noArch h (by omega) ⟨fun z => absurd rfl z, fun _ => ⟨rfl, nA, nC, R, w, ok, ⟨rfl, hV.2⟩, hM, rfl, rfl, hT, hW, ⟨hRX, rs, rfl, hRM⟩, hN, hE, hH, hK⟩⟩⟩
  have has : ∀ Post : Int32 → Prop, Post 1 → p_X6_hasArch F (nI a) x.x_now_arches Post := fun Post kk => by rw [hV.1]; exact s6_hasArch hA ha kk
  refine has _ ⟨fun _ => ?_, fun z => absurd z (by decide)⟩
  generalize hHd : (fun set => ! decide (hB R w a set nC < w a)) = H
  have eH : ∀ set, H set = ! decide (hB R w a set nC < w a) := fun set => by rw [← hHd]
  generalize hB0 : nbS H = B
  have B0 : B 0 = none := by rw [← hB0, nbS]
  have Bs : ∀ n, B (n + 1) = if H n = true ∧ (∀ b, B n = some b → ¬ bcnt (nI b) ≤ bcnt (nI n)) then some n else B n := fun n => by rw [← hB0, nbS]
  have Bl : ∀ n b, B n = some b → b < n := fun n b => by rw [← hB0]; exact nbS_lt H n b
  have i6 : vp_in (nI a) 6 := pk_in a 6 (by omega)
  have i47 : vp_in (nI a) 47 := pk_in a 47 (by omega)
  -- the model
  have md : ∀ Post : Int32 → (Int32 × Int32 × Value × Int32 × Int32 × Int32 × Int32 × Int32 × (Nat → Int32) × (Nat → Int64)) → Prop, (B (2 ^ nC) = none → ∀ u1 u2 u3 u4 u5 u6 as, Post (-2) (m.x_rowMany, 0, u1, u2, u3, u4, u5, u6, as, m.f_row)) → (∀ b, B (2 ^ nC) = some b → ∀ s5 f5 u1 u2 u3 u4 u5 u6 as, RLw ([] ++ [(nI b).toInt64] ++ [(hB R w a b nC).toInt64]) s5 f5 → Post (bcnt (nI b)) (s5, 0, u1, u2, u3, u4, u5, u6, as, f5)) → p_X8_needs_19 F (nI a) (nI nC) m.x_rowMany am.q_rule (nI rs) m.f_now m.f_rule m.f_row Post F 0 (-1) m.w_read m.x_length m.x_top m.x_at m.x_wrong m.x_isAsked m.f_asked := by
    intro Post k1 k2
    refine up_loop (fun q i (s : Int32 × Value × Int32 × Int32 × Int32 × Int32 × Int32 × (Nat → Int32)) => p_X8_needs_19 F (nI a) (nI nC) m.x_rowMany am.q_rule (nI rs) m.f_now m.f_rule m.f_row Post q i s.1 s.2.1 s.2.2.1 s.2.2.2.1 s.2.2.2.2.1 s.2.2.2.2.2.1 s.2.2.2.2.2.2.1 s.2.2.2.2.2.2.2) (fun j s => (B j = none ∧ s.1 = -1) ∨ ∃ b, B j = some b ∧ s.1 = nI b) (2 ^ nC) ?_ ?_ F (-1, m.w_read, m.x_length, m.x_top, m.x_at, m.x_wrong, m.x_isAsked, m.f_asked) 0 (Or.inl ⟨B0, rfl⟩) (by omega) (by omega)
    · rintro q ⟨y2, u1, u2, u3, u4, u5, u6, u7⟩ ec
      show p_X8_needs_19 F (nI a) (nI nC) m.x_rowMany am.q_rule (nI rs) m.f_now m.f_rule m.f_row Post (q + 1) (nI (2 ^ nC)) y2 u1 u2 u3 u4 u5 u6 u7
      rw [p_X8_needs_19_s]
      unfold p_X8_allCats
      rw [sh_nC hC]
      obtain ⟨z, hz⟩ : ∃ z, 2 ^ nC = z + 1 := ⟨2 ^ nC - 1, by omega⟩
      rw [show nI (2 ^ nC) - 1 = nI z from by rw [hz]; exact nI_pred z]
      refine br_t (nI_lt (by omega) (by omega)) ?_
      rcases ec with ⟨e1, e2⟩ | ⟨b, e1, e2⟩
      · have e2 : y2 = -1 := e2
        exact ⟨fun z => absurd e2 z, fun _ => k1 e1 _ _ _ _ _ _ _⟩
      · have e2 : y2 = nI b := e2
        subst e2
        have hb := Bl _ _ e1
        exact ⟨fun _ => s8_tell (RL_nil _) (by decide) (fun s5 f5 h5 => s8_holdBy hF hRM hM hC (by omega) (by omega) (fun v => s8_tell h5 (by show 1 < 16; omega) (fun s6 f6 h6 => s_bitCount (k2 b e1 _ _ _ _ _ _ _ _ _ h6)))), fun z => absurd z (m1_ne (by omega))⟩
    · rintro q j ⟨y2, u1, u2, u3, u4, u5, u6, u7⟩ hj ec ih
      show p_X8_needs_19 F (nI a) (nI nC) m.x_rowMany am.q_rule (nI rs) m.f_now m.f_rule m.f_row Post (q + 1) (nI j) y2 u1 u2 u3 u4 u5 u6 u7
      rw [p_X8_needs_19_s]
      unfold p_X8_allCats
      rw [sh_nC hC]
      obtain ⟨z, hz⟩ : ∃ z, 2 ^ nC = z + 1 := ⟨2 ^ nC - 1, by omega⟩
      rw [show nI (2 ^ nC) - 1 = nI z from by rw [hz]; exact nI_pred z]
      refine br_f (nI_nlt (by omega) (by omega)) ?_
      have g43 : (∀ b, B j = some b → ¬ bcnt (nI b) ≤ bcnt (nI j)) → p_X8_needs_43 F (nI a) (nI nC) am.q_rule (nI rs) m.f_now m.f_rule (nI j) y2 u1 u2 u3 u4 u5 u6 u7 (p_X8_needs_19 F (nI a) (nI nC) m.x_rowMany am.q_rule (nI rs) m.f_now m.f_rule m.f_row Post q) Post := by
        intro hb
        unfold p_X8_needs_43 p_X8_needs_63
        refine s8_holdBy hF hRM hM hC (by omega) (by omega) (fun v => ⟨i47, ?_⟩)
        rw [nI_clamp (n := a) (by omega), hM a (by omega)]
        refine ⟨fun y => ih (nI j, _, _, _, _, _, _, _) (Or.inr ⟨j, ?_, rfl⟩), fun y => ih (y2, _, _, _, _, _, _, _) ?_⟩
        · have hj : H j = true := by
            rw [eH]; have : ¬ hB R w a j nC < w a := fun z => nle_of_lt z y
            simp [this]
          rw [Bs, if_pos ⟨hj, hb⟩]
        · have hj : ¬ H j = true := by
            rw [eH]; have : hB R w a j nC < w a := le_or_lt y
            simp [this]
          rw [Bs, if_neg (fun z => hj z.1)]
          exact ec
      refine ⟨fun y => g43 (fun b hb => ?_), fun y => s_bitCount (s_bitCount ⟨fun y2' => ?_, fun y2' => g43 (fun b hb => ?_)⟩)⟩
      · rcases ec with ⟨e1, _⟩ | ⟨b2, e1, e2⟩
        · rw [e1] at hb; exact absurd hb (by simp)
        · have e2 : y2 = nI b2 := e2
          rw [e2] at y
          have := Bl _ _ e1
          exact absurd y (m1_ne (by omega))
      · unfold p_X8_needs_63
        refine ih (y2, u1, u2, u3, u4, u5, u6, u7) ?_
        rcases ec with ⟨e1, e2⟩ | ⟨b2, e1, e2⟩
        · exact absurd e2 y
        · have e2 : y2 = nI b2 := e2
          subst e2
          rw [Bs, if_neg (fun z => z.2 b2 e1 y2')]
          exact Or.inr ⟨b2, e1, rfl⟩
      · rcases ec with ⟨e1, e2⟩ | ⟨b2, e1, e2⟩
        · rw [e1] at hb; exact absurd hb (by simp)
        · have e2 : y2 = nI b2 := e2
          subst e2
          have : b = b2 := Option.some.inj (hb.symm.trans e1)
          subst this
          exact y2'
  have cl : ∀ Post : Int32 → (Int32 × (Nat → Int32) × Int32 × (Nat → Int64)) → Prop, (B (2 ^ nC) = none → ∀ t1 t2, Post (-2) (t1, t2, x.x_told_size, x.f_told_numbers)) → (∀ b, B (2 ^ nC) = some b → ∀ t1 t2 s6 f6, RLw ([] ++ [(nI b).toInt64] ++ [(hB R w a b nC).toInt64]) s6 f6 → Post (bcnt (nI b)) (t1, t2, s6, f6)) → p_X7_needs_24 F (nI a) x.x_now_arches x.x_now_cats x.x_now_hour x.x_ruling_size x.f_ruling_steps x.f_now_sag x.f_now_load x.f_now_joy x.f_now_grief x.f_now_bowl x.x_told_size x.f_told_numbers Post F 0 0 0 (-2) x.x_ruling_top x.f_ruling_stack := by
    intro Post k1 k2
    refine up_loop (fun q i (s : Int32 × Int32 × Int32 × Int32 × (Nat → Int32)) => p_X7_needs_24 F (nI a) x.x_now_arches x.x_now_cats x.x_now_hour x.x_ruling_size x.f_ruling_steps x.f_now_sag x.f_now_load x.f_now_joy x.f_now_grief x.f_now_bowl x.x_told_size x.f_told_numbers Post q i s.1 s.2.1 s.2.2.1 s.2.2.2.1 s.2.2.2.2) (fun j s => (B j = none ∧ s.2.2.1 = -2) ∨ ∃ b, B j = some b ∧ s.2.2.1 = bcnt (nI b) ∧ s.2.1 = nI b ∧ s.1 = hB R w a b nC) (2 ^ nC) ?_ ?_ F (0, 0, -2, x.x_ruling_top, x.f_ruling_stack) 0 (Or.inl ⟨B0, rfl⟩) (by omega) (by omega)
    · rintro q ⟨y4, y3, y2, t1, t2⟩ ec
      show p_X7_needs_24 F (nI a) x.x_now_arches x.x_now_cats x.x_now_hour x.x_ruling_size x.f_ruling_steps x.f_now_sag x.f_now_load x.f_now_joy x.f_now_grief x.f_now_bowl x.x_told_size x.f_told_numbers Post (q + 1) (nI (2 ^ nC)) y4 y3 y2 t1 t2
      rw [p_X7_needs_24_s]
      refine br_t (by rw [hV.2.1, sh_nC hC]; exact nI_le (Nat.le_refl _) (by omega)) ?_
      rcases ec with ⟨e1, e2⟩ | ⟨b, e1, e2, e3, e4⟩
      · have e2 : y2 = -2 := e2
        subst e2
        exact br_t (by decide) (k1 e1 _ _)
      · have e2 : y2 = _ := e2
        have e3 : y3 = _ := e3
        have e4 : y4 = _ := e4
        subst e2 e3 e4
        have hb := Bl _ _ e1
        exact br_f (bc_nn (by omega)).1 (s3_anew (s3_add (RL_nil _) (by decide) (fun s5 f5 h5 => s3_add h5 (by show 1 < 8; omega) (fun s6 f6 h6 => k2 b e1 _ _ _ _ h6))))
    · rintro q j ⟨y4, y3, y2, t1, t2⟩ hj ec ih
      show p_X7_needs_24 F (nI a) x.x_now_arches x.x_now_cats x.x_now_hour x.x_ruling_size x.f_ruling_steps x.f_now_sag x.f_now_load x.f_now_joy x.f_now_grief x.f_now_bowl x.x_told_size x.f_told_numbers Post (q + 1) (nI j) y4 y3 y2 t1 t2
      rw [p_X7_needs_24_s]
      refine br_f (by rw [hV.2.1, sh_nC hC]; exact nI_ge hj (by omega)) (s_bitCount ?_)
      have g57 : (∀ b, B j = some b → ¬ bcnt (nI b) ≤ bcnt (nI j)) → p_X7_needs_57 F (nI a) x.x_now_arches x.x_now_cats x.x_now_hour x.x_ruling_size x.f_ruling_steps x.f_now_sag x.f_now_load x.f_now_joy x.f_now_grief x.f_now_bowl (bcnt (nI j)) (nI j) y4 y2 t1 t2 y3 (p_X7_needs_24 F (nI a) x.x_now_arches x.x_now_cats x.x_now_hour x.x_ruling_size x.f_ruling_steps x.f_now_sag x.f_now_load x.f_now_joy x.f_now_grief x.f_now_bowl x.x_told_size x.f_told_numbers Post q) Post := by
        intro hb
        unfold p_X7_needs_57 p_X7_needs_97
        refine s6_holdBy hF hRX hV hA hC ha (by omega) (fun v => ⟨i6, ?_⟩)
        rw [nI_clamp (n := a) (by omega), hV.2.2.2.2.2.1 a (by omega)]
        refine ⟨fun y => ih (y4, y3, y2, _, _) ?_, fun y => ih (hB R w a j nC, nI j, bcnt (nI j), _, _) (Or.inr ⟨j, ?_, rfl, rfl, rfl⟩)⟩
        · have hj : ¬ H j = true := by rw [eH]; simp [y]
          rw [Bs, if_neg (fun z => hj z.1)]
          exact ec
        · have hj : H j = true := by rw [eH]; simp [y]
          rw [Bs, if_pos ⟨hj, hb⟩]
      refine ⟨fun y => g57 (fun b hb => ?_), fun y => ⟨fun y2' => ?_, fun y2' => g57 (fun b hb => ?_)⟩⟩
      · rcases ec with ⟨e1, _⟩ | ⟨b2, e1, e2, _, _⟩
        · rw [e1] at hb; exact absurd hb (by simp)
        · have e2 : y2 = _ := e2
          rw [e2] at y
          have := Bl _ _ e1
          exact absurd y (bc_nn (by omega)).2
      · unfold p_X7_needs_97
        refine ih (y4, y3, y2, t1, t2) ?_
        rcases ec with ⟨e1, e2⟩ | ⟨b2, e1, e2, e3, e4⟩
        · exact absurd e2 y
        · have e2' : y2 = _ := e2
          rw [e2'] at y2'
          rw [Bs, if_neg (fun z => z.2 b2 e1 y2')]
          exact Or.inr ⟨b2, e1, e2, e3, e4⟩
      · rcases ec with ⟨e1, e2⟩ | ⟨b2, e1, e2, e3, e4⟩
        · rw [e1] at hb; exact absurd hb (by simp)
        · have e2' : y2 = _ := e2
          rw [e2'] at y2'
          have : b = b2 := Option.some.inj (hb.symm.trans e1)
          subst this
          exact y2'
  refine cl _ (fun e1 t1 t2 => ?_) (fun b e1 t1 t2 s6 f6 h6 => ?_)
  · refine s8_isArch ha (by omega) ⟨fun _ => md _ (fun _ u1 u2 u3 u4 u5 u6 as => ?_) (fun b hb => absurd (e1.symm.trans hb) (by simp)), fun z => absurd z (by decide)⟩
    exact ⟨rfl, nA, nC, R, w, ok, hV, hM, rfl, rfl, hT, hW, ⟨hRX, rs, rfl, hRM⟩, hN, hE, hH, hK⟩
  · refine s8_isArch ha (by omega) ⟨fun _ => md _ (fun e => absurd (e1.symm.trans e) (by simp)) (fun b2 hb2 s7 f7 u1 u2 u3 u4 u5 u6 as h7 => ?_), fun z => absurd z (by decide)⟩
    have : b2 = b := Option.some.inj (hb2.symm.trans e1)
    subst this
    exact ⟨rfl, nA, nC, R, w, ok, hV, hM, rfl, rfl, hT, RWr_of (by show 2 ≤ 8; omega) h6 h7, ⟨hRX, rs, rfl, hRM⟩, hN, hE, hH, hK⟩
end
