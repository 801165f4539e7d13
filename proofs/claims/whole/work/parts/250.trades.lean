/-! ===== calls: trades, needs ===== -/
def swW (w : Nat → Int32) (p q : Nat) : Nat → Int32 := upd (upd w (36 + p) (w (36 + q))) (36 + q) (w (36 + p))
abbrev St3 : Type := Int32 × Int32 × Int32
def inS (v : Nat → Nat → Int32) (p : Nat) (s : St3) : Nat → St3
  | 0 => s
  | k + 1 => if v p (p + 1 + k) ≤ (inS v p s k).1 then inS v p s k else (v p (p + 1 + k), nI p, nI (p + 1 + k))
def ouS (v : Nat → Nat → Int32) (nC : Nat) (s : St3) : Nat → St3
  | 0 => s
  | p + 1 => inS v p (ouS v nC s p) (nC - (p + 1))
def lsS (s : St3) : List Int64 := if s.2.1 = -1 then [] else [] ++ [s.2.1.toInt64] ++ [s.2.2.toInt64]
theorem lsS_len (s : St3) : (lsS s).length ≤ 2 := by
  unfold lsS; split
  · exact Nat.zero_le _
  · exact Nat.le_refl 2
theorem OK_sw {nA nC p q : Nat} {w : Nat → Int32} (ok : OK nA nC w) (hp : p < nC) (hq : q < nC) : OK nA nC (swW w p q) := by
  obtain ⟨a, ha, ea⟩ := ok.2.2.2.1 p hp
  obtain ⟨b, hb, eb⟩ := ok.2.2.2.1 q hq
  unfold swW
  rw [ea, eb]
  exact OK_pl (OK_pl ok hp hb) hq ha
section
variable {F : Nat} {x : XS} {m : MS} {am : MA}
theorem ob_trades (hF : 5000 ≤ F) (h : Rel F x m) : p7_trades F x (fun r x' => p8_trades F am m (fun r' m' => r = r' ∧ Rel F x' m')) := by
  obtain ⟨nA, nC, R, w, ok, hV, hM, eA, eC, hT, hW, hU, hN, hE, hH, hK⟩ := h
  have hA := ok.1
  have hC := ok.2.1
  obtain ⟨hRX, rs, ers, hRM⟩ := id hU
  unfold p7_trades p_X7_trades
  refine s6_heldArches hF hRX hV hA hC (fun u => s_bitCount (s6_become hV (fun l2 s2 j2 b2 g2 q2 hVb => ?_)))
  generalize hv : (fun p q => bcnt (nI (held R nA nC (swW w p q)))) = v
  have ev : ∀ p q, bcnt (nI (held R nA nC (swW w p q))) = v p q := fun p q => by rw [← hv]
  generalize hS : ouS v nC (bcnt (nI (held R nA nC w)), -1, -1) = S
  have S0 : S 0 = (bcnt (nI (held R nA nC w)), -1, -1) := by rw [← hS, ouS]
  have Ss : ∀ p, S (p + 1) = inS v p (S p) (nC - (p + 1)) := fun p => by rw [← hS, ouS]
  -- the model
  have md : ∀ Post : Int32 → (Int32 × Int32 × Value × Int32 × Int32 × Int32 × Int32 × Int32 × (Nat → Int32) × (Nat → Int32) × (Nat → Int64)) → Prop, (∀ s5 f5 u1 u2 u3 u4 u5 u6 f2 as, RLw (lsS (S nC)) s5 f5 → Post (S nC).1 (s5, 0, u1, u2, u3, u4, u5, u6, as, f2, f5)) → p_X8_trades F (nI nA) (nI nC) m.w_read m.x_length m.x_top m.x_at m.x_wrong am.q_rule (nI rs) m.x_isAsked m.f_now m.f_asked m.f_rule m.f_then m.f_row Post := by
    intro Post kk
    unfold p_X8_trades
    refine s8_holding hF hRM hM ok (fun v0 => s_bitCount ?_)
    refine up_loop (fun q i (s : Int32 × Int32 × Value × Int32 × Int32 × Int32 × Int32 × Int32 × (Nat → Int32) × (Nat → Int32) × (Nat → Int64)) => p_X8_trades_24 F (nI nA) (nI nC) am.q_rule (nI rs) m.f_now m.f_rule Post q i s.1 s.2.1 s.2.2.1 s.2.2.2.1 s.2.2.2.2.1 s.2.2.2.2.2.1 s.2.2.2.2.2.2.1 s.2.2.2.2.2.2.2.1 s.2.2.2.2.2.2.2.2.1 s.2.2.2.2.2.2.2.2.2.1 s.2.2.2.2.2.2.2.2.2.2) (fun j s => s.1 = (S j).1 ∧ RLw (lsS (S j)) s.2.1 s.2.2.2.2.2.2.2.2.2.2) nC ?_ ?_ F (_, 0, _, _, _, _, _, _, _, m.f_then, m.f_row) 0 (by rw [S0]; exact ⟨rfl, RL_nil _⟩) (by omega) (by omega)
    · rintro q ⟨y1, rm, u1, u2, u3, u4, u5, u6, as, th, rw0⟩ ⟨e1, e2⟩
      have e1 : y1 = _ := e1
      subst e1
      show p_X8_trades_24 F (nI nA) (nI nC) am.q_rule (nI rs) m.f_now m.f_rule Post (q + 1) (nI nC) _ rm u1 u2 u3 u4 u5 u6 as th rw0
      rw [p_X8_trades_24_s]
      exact br_t (nI_le (Nat.le_refl _) (by omega)) (kk _ _ _ _ _ _ _ _ _ _ e2)
    · rintro q p ⟨y1, rm, u1, u2, u3, u4, u5, u6, as, th, rw0⟩ hp ⟨e1, e2⟩ ih
      have e1 : y1 = _ := e1
      have e2' : RLw (lsS (S p)) rm rw0 := e2
      subst e1
      show p_X8_trades_24 F (nI nA) (nI nC) am.q_rule (nI rs) m.f_now m.f_rule Post (q + 1) (nI p) (S p).1 rm u1 u2 u3 u4 u5 u6 as th rw0
      rw [p_X8_trades_24_s]
      refine br_f (nI_ge hp (by omega)) ?_
      rw [nI_1]
      refine up_loop (fun q2 i (s : Int32 × Int32 × Value × Int32 × Int32 × Int32 × Int32 × Int32 × (Nat → Int32) × (Nat → Int32) × (Nat → Int64)) => p_X8_trades_36 F (nI nA) (nI nC) am.q_rule (nI rs) m.f_now m.f_rule (nI p) (p_X8_trades_24 F (nI nA) (nI nC) am.q_rule (nI rs) m.f_now m.f_rule Post q) Post q2 i s.1 s.2.1 s.2.2.1 s.2.2.2.1 s.2.2.2.2.1 s.2.2.2.2.2.1 s.2.2.2.2.2.2.1 s.2.2.2.2.2.2.2.1 s.2.2.2.2.2.2.2.2.1 s.2.2.2.2.2.2.2.2.2.1 s.2.2.2.2.2.2.2.2.2.2) (fun j s => p + 1 ≤ j ∧ s.1 = (inS v p (S p) (j - (p + 1))).1 ∧ RLw (lsS (inS v p (S p) (j - (p + 1)))) s.2.1 s.2.2.2.2.2.2.2.2.2.2) nC ?_ ?_ F ((S p).1, rm, u1, u2, u3, u4, u5, u6, as, th, rw0) (p + 1) (by rw [Nat.sub_self]; exact ⟨Nat.le_refl _, rfl, e2'⟩) (by omega) (by omega)
      · rintro q2 ⟨y1, rm, u1, u2, u3, u4, u5, u6, as, th, rw0⟩ ⟨_, e3, e4⟩
        show p_X8_trades_36 F (nI nA) (nI nC) am.q_rule (nI rs) m.f_now m.f_rule (nI p) (p_X8_trades_24 F (nI nA) (nI nC) am.q_rule (nI rs) m.f_now m.f_rule Post q) Post (q2 + 1) (nI nC) y1 rm u1 u2 u3 u4 u5 u6 as th rw0
        rw [p_X8_trades_36_s]
        exact br_t (nI_le (Nat.le_refl _) (by omega)) (ih (_, _, _, _, _, _, _, _, _, _, _) (by rw [Ss]; exact ⟨e3, e4⟩))
      · rintro q2 j ⟨y1, rm, u1, u2, u3, u4, u5, u6, as, th, rw0⟩ hj ⟨hpj, e3, e4⟩ ih2
        · have e3 : y1 = _ := e3
          have e4' : RLw (lsS (inS v p (S p) (j - (p + 1)))) rm rw0 := e4
          subst e3
          show p_X8_trades_36 F (nI nA) (nI nC) am.q_rule (nI rs) m.f_now m.f_rule (nI p) (p_X8_trades_24 F (nI nA) (nI nC) am.q_rule (nI rs) m.f_now m.f_rule Post q) Post (q2 + 1) (nI j) (inS v p (S p) (j - (p + 1))).1 rm u1 u2 u3 u4 u5 u6 as th rw0
          rw [p_X8_trades_36_s, cc36 (by omega), cc36 (by omega), hM (36 + j) (by omega), hM (36 + p) (by omega)]
          have ip : vp_in ((36 : Int32) + nI p) 47 := ci36 (by omega)
          have ij : vp_in ((36 : Int32) + nI j) 47 := ci36 (by omega)
          refine br_f (nI_ge hj (by omega)) (s8_lay0 hF hM (fun g hg => ⟨ij, ip, ip, ij, ?_⟩))
          have mv : MV (swW w p j) (upd (upd g (36 + p) (w (36 + j))) (36 + j) (w (36 + p))) := MV_upd (MV_upd hg)
          refine s8_holding hF hRM mv (OK_sw ok hp hj) (fun v1 => s_bitCount ?_)
          rw [ev p j]
          have es : inS v p (S p) (j + 1 - (p + 1)) = if v p j ≤ (inS v p (S p) (j - (p + 1))).1 then inS v p (S p) (j - (p + 1)) else (v p j, nI p, nI j) := by
            rw [show j + 1 - (p + 1) = (j - (p + 1)) + 1 from by omega, inS, show p + 1 + (j - (p + 1)) = j from by omega]
          unfold p_X8_trades_134
          refine ⟨fun z => s8_tell (RL_nil _) (by decide) (fun s5 f5 h5 => s8_tell h5 (by show 1 < 16; omega) (fun s6 f6 h6 => ih2 (_, _, _, _, _, _, _, _, _, _, _) ?_)), fun z => ih2 (_, _, _, _, _, _, _, _, _, _, _) ?_⟩
          · rw [es, if_neg (nle_of_lt z)]
            refine ⟨by omega, rfl, ?_⟩
            unfold lsS
            rw [if_neg (m1_ne (n := p) (by omega))]
            exact h6
          · have z' : v p j ≤ (inS v p (S p) (j - (p + 1))).1 := Classical.byContradiction fun y => z (le_or_lt y)
            rw [es, if_pos z']
            exact ⟨by omega, rfl, e4'⟩
  refine up_loop (fun q i (s : Int32 × Int32 × Int32 × Int32 × (Nat → Int32) × (Nat → Int32)) => p_X7_trades_33 F x.x_now_cats x.x_ruling_size x.f_now_place x.f_ruling_steps x.f_told_numbers (x.x_now_arches, x.x_now_cats, x.x_now_store, x.x_now_hour, x.x_now_drops, l2, s2, j2, b2, g2, q2) _ q i s.1 s.2.1 s.2.2.1 s.2.2.2.1 s.2.2.2.2.1 s.2.2.2.2.2) (fun j s => s.2.2.1 = (S j).1 ∧ s.2.1 = (S j).2.1 ∧ s.1 = (S j).2.2 ∧ ∀ i, i < 8 → s.2.2.2.2.2 i = w (36 + i)) nC ?_ ?_ F (-1, -1, _, _, _, q2) 0 (by rw [S0]; exact ⟨rfl, rfl, rfl, hVb.2.2.2.2.2.2.2.2.2.2⟩) (by omega) (by omega)
  · rintro q ⟨y3, y2, y1, t1, t2, pl⟩ ⟨e1, e2, e3, e4⟩
    have e1 : y1 = _ := e1
    have e2 : y2 = _ := e2
    have e3 : y3 = _ := e3
    subst e1 e2 e3
    show p_X7_trades_33 F x.x_now_cats x.x_ruling_size x.f_now_place x.f_ruling_steps x.f_told_numbers (x.x_now_arches, x.x_now_cats, x.x_now_store, x.x_now_hour, x.x_now_drops, l2, s2, j2, b2, g2, q2) _ (q + 1) (nI nC) (S nC).2.2 (S nC).2.1 (S nC).1 t1 t2 pl
    rw [p_X7_trades_33_s]
    have hl := lsS_len (S nC)
    refine br_t (by rw [hV.2.1]; exact nI_le (Nat.le_refl _) (by omega)) (s3_anew ⟨fun z => ?_, fun z => s3_add (RL_nil _) (by decide) (fun s5 f5 h5 => s3_add h5 (by show 1 < 8; omega) (fun s6 f6 h6 => ?_))⟩)
    · unfold p8_trades
      rw [eA, eC, ers]
      refine md _ (fun s7 f7 u1 u2 u3 u4 u5 u6 f2 as h7 => ?_)
      refine ⟨rfl, nA, nC, R, w, ok, hV, hM, rfl, rfl, hT, RWr_of (l := lsS (S nC)) (by omega) ?_ h7, ⟨hRX, rs, rfl, hRM⟩, hN, hE, hH, hK⟩
      unfold lsS
      rw [if_pos z]
      exact RL_nil _
    · unfold p8_trades
      rw [eA, eC, ers]
      refine md _ (fun s7 f7 u1 u2 u3 u4 u5 u6 f2 as h7 => ?_)
      refine ⟨rfl, nA, nC, R, w, ok, hV, hM, rfl, rfl, hT, RWr_of (l := lsS (S nC)) (by omega) ?_ h7, ⟨hRX, rs, rfl, hRM⟩, hN, hE, hH, hK⟩
      unfold lsS
      rw [if_neg z]
      exact h6
  · rintro q p ⟨y3, y2, y1, t1, t2, pl⟩ hp ⟨e1, e2, e3, e4⟩ ih
    have e1 : y1 = _ := e1
    have e2 : y2 = _ := e2
    have e3 : y3 = _ := e3
    have e4' : ∀ i, i < 8 → pl i = w (36 + i) := e4
    subst e1 e2 e3
    show p_X7_trades_33 F x.x_now_cats x.x_ruling_size x.f_now_place x.f_ruling_steps x.f_told_numbers (x.x_now_arches, x.x_now_cats, x.x_now_store, x.x_now_hour, x.x_now_drops, l2, s2, j2, b2, g2, q2) _ (q + 1) (nI p) (S p).2.2 (S p).2.1 (S p).1 t1 t2 pl
    rw [p_X7_trades_33_s]
    refine br_f (by rw [hV.2.1]; exact nI_ge hp (by omega)) ?_
    rw [nI_1]
    refine up_loop (fun q3 i (s : Int32 × Int32 × Int32 × Int32 × (Nat → Int32) × (Nat → Int32)) => p_X7_trades_51 F x.x_now_cats x.x_ruling_size x.f_now_place x.f_ruling_steps (x.x_now_arches, x.x_now_cats, x.x_now_store, x.x_now_hour, x.x_now_drops, l2, s2, j2, b2, g2, q2) (nI p) (p_X7_trades_33 F x.x_now_cats x.x_ruling_size x.f_now_place x.f_ruling_steps x.f_told_numbers (x.x_now_arches, x.x_now_cats, x.x_now_store, x.x_now_hour, x.x_now_drops, l2, s2, j2, b2, g2, q2) _ q) _ q3 i s.1 s.2.1 s.2.2.1 s.2.2.2.1 s.2.2.2.2.1 s.2.2.2.2.2) (fun j s => p + 1 ≤ j ∧ s.1 = (inS v p (S p) (j - (p + 1))).1 ∧ s.2.1 = (inS v p (S p) (j - (p + 1))).2.1 ∧ s.2.2.1 = (inS v p (S p) (j - (p + 1))).2.2 ∧ ∀ i, i < 8 → i ≠ p → s.2.2.2.2.2 i = w (36 + i)) nC ?_ ?_ F ((S p).1, (S p).2.1, (S p).2.2, t1, t2, pl) (p + 1) (by rw [Nat.sub_self]; exact ⟨Nat.le_refl _, rfl, rfl, rfl, fun i hi _ => e4' i hi⟩) (by omega) (by omega)
    · rintro q3 ⟨y1, y2, y3, t1, t2, pl⟩ ⟨_, f1, f2, f3, f4⟩
      show p_X7_trades_51 F x.x_now_cats x.x_ruling_size x.f_now_place x.f_ruling_steps (x.x_now_arches, x.x_now_cats, x.x_now_store, x.x_now_hour, x.x_now_drops, l2, s2, j2, b2, g2, q2) (nI p) (p_X7_trades_33 F x.x_now_cats x.x_ruling_size x.f_now_place x.f_ruling_steps x.f_told_numbers (x.x_now_arches, x.x_now_cats, x.x_now_store, x.x_now_hour, x.x_now_drops, l2, s2, j2, b2, g2, q2) _ q) _ (q3 + 1) (nI nC) y1 y2 y3 t1 t2 pl
      rw [p_X7_trades_51_s, nI_clamp (n := p) (by omega), hV.2.2.2.2.2.2.2.2.2.2 p (by omega)]
      have i8 : vp_in (nI p) 8 := pk_in p 8 (by omega)
      have hnew : ∀ i, i < 8 → upd pl p (w (36 + p)) i = w (36 + i) := by
        intro i hi
        rw [upd_i]
        by_cases e : i = p
        · rw [if_pos e, e]
        · rw [if_neg e]; exact f4 i hi e
      exact br_t (by rw [hV.2.1]; exact nI_le (Nat.le_refl _) (by omega)) ⟨i8, i8, ih (y3, y2, y1, t1, t2, upd pl p (w (36 + p))) (by rw [Ss]; exact ⟨f1, f2, f3, hnew⟩)⟩
    · rintro q3 j ⟨y1, y2, y3, t1, t2, pl⟩ hj ⟨hpj, f1, f2, f3, f4⟩ ih2
      have f1 : y1 = _ := f1
      have f2 : y2 = _ := f2
      have f3 : y3 = _ := f3
      have f4' : ∀ i, i < 8 → i ≠ p → pl i = w (36 + i) := f4
      subst f1 f2 f3
      show p_X7_trades_51 F x.x_now_cats x.x_ruling_size x.f_now_place x.f_ruling_steps (x.x_now_arches, x.x_now_cats, x.x_now_store, x.x_now_hour, x.x_now_drops, l2, s2, j2, b2, g2, q2) (nI p) (p_X7_trades_33 F x.x_now_cats x.x_ruling_size x.f_now_place x.f_ruling_steps x.f_told_numbers (x.x_now_arches, x.x_now_cats, x.x_now_store, x.x_now_hour, x.x_now_drops, l2, s2, j2, b2, g2, q2) _ q) _ (q3 + 1) (nI j) (inS v p (S p) (j - (p + 1))).1 (inS v p (S p) (j - (p + 1))).2.1 (inS v p (S p) (j - (p + 1))).2.2 t1 t2 pl
      rw [p_X7_trades_51_s, nI_clamp (n := p) (by omega), nI_clamp (n := j) (by omega), hV.2.2.2.2.2.2.2.2.2.2 p (by omega), hV.2.2.2.2.2.2.2.2.2.2 j (by omega)]
      have ip : vp_in (nI p) 8 := pk_in p 8 (by omega)
      have ij : vp_in (nI j) 8 := pk_in j 8 (by omega)
      refine br_f (by rw [hV.2.1]; exact nI_ge hj (by omega)) ⟨ij, ip, ip, ij, ?_⟩
      have av : AV nA nC (swW w p j) x.x_now_arches x.x_now_cats x.x_now_store x.x_now_hour x.x_now_drops l2 s2 j2 b2 g2 (upd (upd pl p (w (36 + j))) j (w (36 + p))) := by
        obtain ⟨e1, e2, e3, e4, e5, h1, h2, h3, h4, h5, h6⟩ := hVb
        unfold swW
        refine ⟨e1, e2, ?_, ?_, ?_, ?_, ?_, ?_, ?_, ?_, ?_⟩
        · rw [upd_i, upd_i, if_neg (by omega), if_neg (by omega)]; exact e3
        · rw [upd_i, upd_i, if_neg (by omega), if_neg (by omega)]; exact e4
        · rw [upd_i, upd_i, if_neg (by omega), if_neg (by omega)]; exact e5
        · intro i hi; rw [upd_i, upd_i, if_neg (by omega), if_neg (by omega)]; exact h1 i hi
        · intro i hi; rw [upd_i, upd_i, if_neg (by omega), if_neg (by omega)]; exact h2 i hi
        · intro i hi; rw [upd_i, upd_i, if_neg (by omega), if_neg (by omega)]; exact h3 i hi
        · intro i hi; rw [upd_i, upd_i, if_neg (by omega), if_neg (by omega)]; exact h4 i hi
        · intro i hi; rw [upd_i, upd_i, if_neg (by omega), if_neg (by omega)]; exact h5 i hi
        · intro i hi; rw [upd_i, upd_i, upd_i, upd_i]
          by_cases a1 : i = j
          · rw [if_pos a1, if_pos (show 36 + i = 36 + j by omega)]
          · rw [if_neg a1, if_neg (show ¬ 36 + i = 36 + j by omega)]
            by_cases a2 : i = p
            · rw [if_pos a2, if_pos (show 36 + i = 36 + p by omega)]
            · rw [if_neg a2, if_neg (show ¬ 36 + i = 36 + p by omega)]; exact f4' i hi a2
      refine s6_heldArches hF hRX av hA hC (fun v1 => s_bitCount ?_)
      rw [ev p j]
      have es : inS v p (S p) (j + 1 - (p + 1)) = if v p j ≤ (inS v p (S p) (j - (p + 1))).1 then inS v p (S p) (j - (p + 1)) else (v p j, nI p, nI j) := by
        rw [show j + 1 - (p + 1) = (j - (p + 1)) + 1 from by omega, inS, show p + 1 + (j - (p + 1)) = j from by omega]
      have back : ∀ i, i < 8 → i ≠ p → upd (upd (upd pl p (w (36 + j))) j (w (36 + p))) j (w (36 + j)) i = w (36 + i) := by
        intro i hi ne
        rw [upd_i, upd_i, upd_i]
        by_cases a1 : i = j
        · rw [if_pos a1, a1]
        · rw [if_neg a1, if_neg a1, if_neg ne]; exact f4' i hi ne
      unfold p_X7_trades_134
      rw [nI_clamp (n := p) (by omega), nI_clamp (n := j) (by omega), hV.2.2.2.2.2.2.2.2.2.2 p (by omega), hV.2.2.2.2.2.2.2.2.2.2 j (by omega)]
      refine ⟨fun z => ⟨ij, ij, ih2 (_, _, _, _, _, _) ?_⟩, fun z => ⟨ij, ij, ih2 (v p j, nI p, nI j, _, _, _) ?_⟩⟩
      · rw [es, if_pos z]
        exact ⟨by omega, rfl, rfl, rfl, back⟩
      · rw [es, if_neg z]
        exact ⟨by omega, rfl, rfl, rfl, back⟩
end
