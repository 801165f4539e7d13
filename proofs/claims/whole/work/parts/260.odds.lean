/-! ===== calls: odds, stands ===== -/
section
variable {F nA nC rs q a p L : Nat} {R : (Nat → Int32) → Int32} {w f rule asked : Nat → Int32} {rd : Value} {ln tp at0 wr ia : Int32} {place purrs load : Nat → Int32} {A : Nat → Bool} {pu : Nat → Nat}
def aBw (w : Nat → Int32) (a c : Nat) : Bool := decide (w (36 + c) = nI a)
def gL (L l : Nat) : Nat := if L ≤ l then 1 else 0
theorem m1_up (j : Nat) : nI (j + 1) + (-1 : Int32) = nI j := by
  rw [nI_succ]
  show nI j + 1 + (-1) = nI j
  rw [Int32.add_assoc, show (1 : Int32) + (-1) = 0 from rfl, Int32.add_zero]
def adI (v : Nat → Nat) (pu p j l : Nat) : Nat := (if j ≤ l then v l * p else v l) + (if j + pu ≤ l then v (l - pu) * (10 - p) else 0)
theorem s7_addW {v : Nat → Nat} {u : Nat} {Post : (Nat → Int64) → Prop} (hp : p ≤ 10) (hu : u ≤ 9) (kk : ∀ f2, (∀ l, l < 73 → f2 l = lN (adI v u p 0 l)) → Post f2) : ∀ (j : Nat) (G : Nat) (f2 : Nat → Int64), j ≤ 73 → j < G → (∀ l, l < 73 → f2 l = lN (adI v u p j l)) → p_X7_addToWays_3 F (nI u) (nI p) Post G (nI j + (-1)) f2
  | 0, G, f2, _, hG, hf => by
    obtain ⟨G', rfl⟩ : ∃ G', G = G' + 1 := ⟨G - 1, by omega⟩
    rw [p_X7_addToWays_3_s]
    exact br_t (by decide) (kk f2 hf)
  | j + 1, G, f2, hj, hG, hf => by
    obtain ⟨G', rfl⟩ : ∃ G', G = G' + 1 := ⟨G - 1, by omega⟩
    rw [p_X7_addToWays_3_s, m1_up]
    have i73 : vp_in (nI j) 73 := pk_in j 73 (by omega)
    have ih := s7_addW hp hu kk j G'
    unfold p_X7_addToWays_53
    rw [nI_clamp (n := j) (by omega), nI_add, nI_l (n := p) (by omega), show (10 : Int32) = nI 10 from rfl, pk_sub hp, nI_l (n := 10 - p) (by omega)]
    have fj : f2 j = lN (v j) := by
      rw [hf j (by omega)]
      unfold adI
      rw [if_neg (by omega), if_neg (by omega), Nat.add_zero]
    rw [fj, lN_mul, lN_mul]
    refine br_f (nI_pos (by omega)) ⟨i73, i73, fun z => ih _ (by omega) (by omega) (fun l hl => ?_), fun z => ?_⟩
    · have z := (nI_ltI (a := 72) (by omega) (by omega)).1 z
      unfold vp_updL
      by_cases e : l = j
      · subst e
        rw [if_pos rfl]
        unfold adI
        rw [if_pos (Nat.le_refl _), if_neg (by omega), Nat.add_zero]
      · rw [if_neg e, hf l hl]
        unfold adI
        rw [if_neg (show ¬ j + 1 + u ≤ l by omega), if_neg (show ¬ j + u ≤ l by omega)]
        by_cases e2 : j ≤ l
        · rw [if_pos (show j + 1 ≤ l by omega), if_pos e2]
        · rw [if_neg (show ¬ j + 1 ≤ l by omega), if_neg e2]
    · have z : ¬ 72 < j + u := fun y => z ((nI_ltI (a := 72) (by omega) (by omega)).2 y)
      have iu : vp_in (nI (j + u)) 73 := pk_in (j + u) 73 (by omega)
      rw [nI_clamp (n := j + u) (by omega)]
      refine ⟨iu, iu, ih _ (by omega) (by omega) (fun l hl => ?_)⟩
      unfold vp_updL
      by_cases e : l = j + u
      · subst e
        rw [if_pos rfl]
        by_cases u0 : u = 0
        · subst u0
          rw [if_pos (by omega), lN_add]
          unfold adI
          rw [if_pos (by omega), if_pos (by omega)]
          rfl
        · rw [if_neg (by omega), hf _ hl, lN_add]
          unfold adI
          rw [if_pos (by omega), if_neg (by omega), if_pos (by omega), if_pos (by omega), Nat.add_zero, Nat.add_sub_cancel]
      · rw [if_neg e]
        by_cases e2 : l = j
        · subst e2
          rw [if_pos rfl]
          unfold adI
          rw [if_pos (Nat.le_refl _), if_neg (by omega), Nat.add_zero]
        · rw [if_neg e2, hf l hl]
          unfold adI
          have c1 : (j + 1 ≤ l) = (j ≤ l) := by rw [eq_iff_iff]; omega
          have c2 : (j + 1 + u ≤ l) = (j + u ≤ l) := by rw [eq_iff_iff]; omega
          simp only [c1, c2]
theorem s7_ways {fw : Nat → Int64} {Post : Int64 → (Nat → Int64) → Prop} (hF : 5000 ≤ F) (hC : nC ≤ 8) (hp : p ≤ 10) (ha : a < 6) (hL : L ≤ 9) (h0 : ∀ i, i < 6 → load i = w i) (eL : w a = nI L) (h6 : ∀ i, i < 8 → place i = w (36 + i)) (hpu : ∀ i, i < nC → purrs i = nI (pu i)) (h9 : ∀ i, pu i ≤ 9) (kk : ∀ f2, Post (lN (Wn (aBw w a) pu p nC (gL L))) f2) : p_X7_waysToHold F (nI a) (nI p) fw (nI nC) place purrs load Post := by
  unfold p_X7_waysToHold
  have k85 : ∀ f2 : Nat → Int64, (∀ l, l < 73 → f2 l = lN (wN (aBw w a) pu p nC l)) → p_X7_waysToHold_85 F f2 Post F (nI L) 0 := by
    intro f2 hf
    refine up_loop (fun n i s => p_X7_waysToHold_85 F f2 Post n i s) (fun j s => L ≤ j ∧ s = lN (sumN (fun l => wN (aBw w a) pu p nC l * gL L l) j)) 73 ?_ ?_ F 0 L ⟨Nat.le_refl _, ?_⟩ (by omega) (by omega)
    · rintro n s ⟨_, e⟩
      subst e
      show p_X7_waysToHold_85 F f2 Post (n + 1) (nI 73) _
      rw [p_X7_waysToHold_85_s]
      exact br_t (by decide) (kk f2)
    · rintro n j s hj ⟨hl, e⟩ ih
      subst e
      show p_X7_waysToHold_85 F f2 Post (n + 1) (nI j) _
      rw [p_X7_waysToHold_85_s, nI_clamp (n := j) (by omega), hf j hj, lN_add]
      refine br_f (nI_nlt (a := 72) (by omega) (by omega)) ⟨pk_in j 73 hj, ih _ ⟨by omega, ?_⟩⟩
      rw [sumN]
      unfold gL
      rw [if_pos hl, Nat.mul_one]
    · rw [sumN_zero (fun i hi => by unfold gL; rw [if_neg (by omega), Nat.mul_zero])]
      rfl
  have k31 : ∀ f2 : Nat → Int64, (∀ l, l < 73 → f2 l = lN (wN (aBw w a) pu p 0 l)) → p_X7_waysToHold_31 F (nI a) (nI p) (nI nC) place purrs load Post F 0 f2 := by
    intro f2 hf
    refine up_loop (fun n i s => p_X7_waysToHold_31 F (nI a) (nI p) (nI nC) place purrs load Post n i s) (fun j (s : Nat → Int64) => ∀ l, l < 73 → s l = lN (wN (aBw w a) pu p j l)) nC ?_ ?_ F f2 0 hf (by omega) (by omega)
    · intro n s hs
      show p_X7_waysToHold_31 F (nI a) (nI p) (nI nC) place purrs load Post (n + 1) (nI nC) s
      rw [p_X7_waysToHold_31_s, nI_clamp (n := a) (by omega), h0 a ha, eL]
      exact br_t (nI_le (Nat.le_refl _) (by omega)) ⟨pk_in a 6 ha, k85 s hs⟩
    · intro n c s hc hs ih
      show p_X7_waysToHold_31 F (nI a) (nI p) (nI nC) place purrs load Post (n + 1) (nI c) s
      rw [p_X7_waysToHold_31_s, nI_clamp (n := c) (by omega), h6 c (by omega), hpu c hc]
      have i8 : vp_in (nI c) 8 := pk_in c 8 (by omega)
      unfold p_X7_waysToHold_66
      refine br_f (nI_ge hc (by omega)) ⟨i8, fun z => ih _ (fun l hl => ?_), fun z => ⟨i8, ?_⟩⟩
      · rw [hs l hl, wN, if_neg (show ¬ aBw w a c = true from fun y => z (of_decide_eq_true y))]
      · unfold p_X7_addToWays
        refine s7_addW (v := wN (aBw w a) pu p c) hp (h9 c) (fun f3 h3 => ih _ (fun l hl => ?_)) 73 F s (by omega) (by omega) (fun l hl => ?_)
        · rw [h3 l hl, wN, if_pos (show aBw w a c = true from decide_eq_true z)]
          unfold adI
          rw [if_pos (Nat.zero_le _), Nat.zero_add]
        · rw [hs l hl]
          unfold adI
          rw [if_neg (by omega), if_neg (by omega), Nat.add_zero]
  refine up_loop (fun n i s => p_X7_waysToHold_2 F (nI a) (nI p) (nI nC) place purrs load Post n i s) (fun j (s : Nat → Int64) => ∀ l, l < j → s l = lN (wN (aBw w a) pu p 0 l)) 73 ?_ ?_ F fw 0 (fun l hl => absurd hl (Nat.not_lt_zero _)) (by omega) (by omega)
  · intro n s hs
    show p_X7_waysToHold_2 F (nI a) (nI p) (nI nC) place purrs load Post (n + 1) (nI 73) s
    rw [p_X7_waysToHold_2_s]
    exact br_t (by decide) (k31 s hs)
  · intro n j s hj hs ih
    show p_X7_waysToHold_2 F (nI a) (nI p) (nI nC) place purrs load Post (n + 1) (nI j) s
    rw [p_X7_waysToHold_2_s]
    unfold p_X7_waysToHold_22
    rw [nI_clamp (n := j) (by omega)]
    refine br_f (nI_nlt (a := 72) (by omega) (by omega)) ⟨fun z => ⟨pk_in j 73 hj, ih _ (fun l hl => ?_)⟩, fun z => ⟨pk_in j 73 hj, ih _ (fun l hl => ?_)⟩⟩
    · unfold vp_updL
      by_cases e : l = j
      · subst e
        rw [if_pos rfl, wN, if_neg (fun y => z (by rw [y]; rfl))]
        rfl
      · rw [if_neg e]; exact hs l (by omega)
    · have z := (nI_eq (b := 0) (by omega) (by omega)).1 z
      unfold vp_updL
      by_cases e : l = j
      · subst e
        rw [if_pos rfl, wN, if_pos z]
        rfl
      · rw [if_neg e]; exact hs l (by omega)
theorem s8_parts {Post : Int64 → (Value × Int32 × Int32 × Int32 × Int32 × Int32 × (Nat → Int32)) → Prop} (hF : 5000 ≤ F) (hR : RM F R rs rule) (hM : MV w f) (ok : OK nA nC w) (hp : p ≤ 10) (ha : a < 6) (hL : L ≤ 9) (eL : w a = nI L) (hpu : ∀ i, i < nC → pO R nC w i = nI (pu i)) (h9 : ∀ i, pu i ≤ 9) (kk : ∀ u, Post (lN (Mn (aBw w a) pu p nC (gL L))) u) : p_X8_partsOf F (nI a) (nI p) (nI nC) rd ln tp at0 wr q (nI rs) ia f asked rule Post := by
  have hC := ok.2.1
  unfold p_X8_partsOf
  refine s8_there hF hM hC ?_
  show p_X8_partsOf_16 F (nI a) (nI p) (nI nC) q (nI rs) f rule (nI (bN (aBw w a) nC)) Post F 0 0 rd ln tp at0 wr ia asked
  have hb := bN_lt (aBw w a) nC
  have h2 : 2 ^ nC ≤ 2 ^ 8 := Nat.pow_le_pow_right (by decide) hC
  refine up_loop (fun n i (s : Int64 × Value × Int32 × Int32 × Int32 × Int32 × Int32 × (Nat → Int32)) => p_X8_partsOf_16 F (nI a) (nI p) (nI nC) q (nI rs) f rule (nI (bN (aBw w a) nC)) Post n i s.1 s.2.1 s.2.2.1 s.2.2.2.1 s.2.2.2.2.1 s.2.2.2.2.2.1 s.2.2.2.2.2.2.1 s.2.2.2.2.2.2.2) (fun j s => s.1 = lN (sumN (Mt (aBw w a) pu p nC (gL L)) j)) (bN (aBw w a) nC + 1) ?_ ?_ F (0, rd, ln, tp, at0, wr, ia, asked) 0 rfl (by omega) (by omega)
  · rintro n ⟨s, u1, u2, u3, u4, u5, u6, u7⟩ e
    have e : s = _ := e
    subst e
    show p_X8_partsOf_16 F (nI a) (nI p) (nI nC) q (nI rs) f rule (nI (bN (aBw w a) nC)) Post (n + 1) (nI (bN (aBw w a) nC + 1)) (lN (sumN (Mt (aBw w a) pu p nC (gL L)) (bN (aBw w a) nC + 1))) u1 u2 u3 u4 u5 u6 u7
    rw [p_X8_partsOf_16_s, ← M_end]
    exact br_t (nI_lt (by omega) (by omega)) (kk _)
  · rintro n S ⟨s, u1, u2, u3, u4, u5, u6, u7⟩ hS e ih
    have e : s = _ := e
    subst e
    show p_X8_partsOf_16 F (nI a) (nI p) (nI nC) q (nI rs) f rule (nI (bN (aBw w a) nC)) Post (n + 1) (nI S) (lN (sumN (Mt (aBw w a) pu p nC (gL L)) S)) u1 u2 u3 u4 u5 u6 u7
    rw [p_X8_partsOf_16_s]
    have ss := sub_set (A := aBw w a) hC (show S < 2 ^ nC by omega)
    refine br_f (nI_nlt (by omega) (by omega)) ⟨fun z => ?_, fun z => ?_⟩
    · have z := ss.1 z
      refine up_loop (fun n2 i (s : Int32 × Int64 × Value × Int32 × Int32 × Int32 × Int32 × Int32 × (Nat → Int32)) => p_X8_partsOf_43 F (nI a) (nI p) (nI nC) q (nI rs) f rule (nI (bN (aBw w a) nC)) (nI S) (lN (sumN (Mt (aBw w a) pu p nC (gL L)) S)) (p_X8_partsOf_16 F (nI a) (nI p) (nI nC) q (nI rs) f rule (nI (bN (aBw w a) nC)) Post n) Post n2 i s.1 s.2.1 s.2.2.1 s.2.2.2.1 s.2.2.2.2.1 s.2.2.2.2.2.1 s.2.2.2.2.2.2.1 s.2.2.2.2.2.2.2.1 s.2.2.2.2.2.2.2.2) (fun j s => s.1 = nI (ld (aBw w a) pu S j) ∧ s.2.1 = lN (wt (aBw w a) p S j)) nC ?_ ?_ F (0, 1, u1, u2, u3, u4, u5, u6, u7) 0 ⟨rfl, rfl⟩ (by omega) (by omega)
      · rintro n2 ⟨s, t, v1, v2, v3, v4, v5, v6, v7⟩ ⟨e1, e2⟩
        have e1 : s = _ := e1
        have e2 : t = _ := e2
        subst e1 e2
        show p_X8_partsOf_43 F (nI a) (nI p) (nI nC) q (nI rs) f rule (nI (bN (aBw w a) nC)) (nI S) (lN (sumN (Mt (aBw w a) pu p nC (gL L)) S)) (p_X8_partsOf_16 F (nI a) (nI p) (nI nC) q (nI rs) f rule (nI (bN (aBw w a) nC)) Post n) Post (n2 + 1) (nI nC) (nI (ld (aBw w a) pu S nC)) (lN (wt (aBw w a) p S nC)) v1 v2 v3 v4 v5 v6 v7
        rw [p_X8_partsOf_43_s, nI_clamp (n := a) (by omega), hM a (by omega), eL]
        have l9 := ld_9 (A := aBw w a) h9 (S := S) nC
        unfold p_X8_partsOf_143 p_X8_partsOf_146
        refine br_t (nI_le (Nat.le_refl _) (by omega)) ⟨pk_in a 47 (by omega), fun y => ih (_, v1, v2, v3, v4, v5, v6, v7) ?_, fun y => ih (_, v1, v2, v3, v4, v5, v6, v7) ?_⟩
        · have y := (nI_ltI (by omega) (by omega)).1 y
          show lN _ + 0 = lN _
          rw [sumN, Mt, if_pos z]
          unfold gL
          rw [if_neg (by omega), Nat.mul_zero]
          exact Int64.add_zero _
        · have y : ¬ ld (aBw w a) pu S nC < L := fun t => y ((nI_ltI (by omega) (by omega)).2 t)
          show lN _ + lN _ = lN _
          rw [lN_add]
          conv => rhs; rw [sumN, Mt, if_pos z]
          unfold gL
          rw [if_pos (show L ≤ ld (aBw w a) pu S nC by omega), Nat.mul_one]
      · rintro n2 c ⟨s, t, v1, v2, v3, v4, v5, v6, v7⟩ hc ⟨e1, e2⟩ ih2
        have e1 : s = _ := e1
        have e2 : t = _ := e2
        subst e1 e2
        show p_X8_partsOf_43 F (nI a) (nI p) (nI nC) q (nI rs) f rule (nI (bN (aBw w a) nC)) (nI S) (lN (sumN (Mt (aBw w a) pu p nC (gL L)) S)) (p_X8_partsOf_16 F (nI a) (nI p) (nI nC) q (nI rs) f rule (nI (bN (aBw w a) nC)) Post n) Post (n2 + 1) (nI c) (nI (ld (aBw w a) pu S c)) (lN (wt (aBw w a) p S c)) v1 v2 v3 v4 v5 v6 v7
        rw [p_X8_partsOf_43_s]
        refine br_f (nI_ge hc (by omega)) ?_
        have b1 := fz_bit1 (m := bN (aBw w a) nC) (c := c) (bN_31 _ (by omega)) (by omega)
        have b2 := fz_bit1 (m := S) (c := c) (by omega) (by omega)
        rw [bN_bit, decide_eq_true hc, Bool.true_and] at b1
        unfold p_X8_has p_X8_partsOf_86 p_X8_has p_X8_partsOf_115 p_X8_partsOf_118
        have ih2 : ∀ s t v1 v2 v3 v4 v5 v6 v7, s = nI (ld (aBw w a) pu S (c + 1)) → t = lN (wt (aBw w a) p S (c + 1)) → p_X8_partsOf_43 F (nI a) (nI p) (nI nC) q (nI rs) f rule (nI (bN (aBw w a) nC)) (nI S) (lN (sumN (Mt (aBw w a) pu p nC (gL L)) S)) (p_X8_partsOf_16 F (nI a) (nI p) (nI nC) q (nI rs) f rule (nI (bN (aBw w a) nC)) Post n) Post n2 (nI c + 1) s t v1 v2 v3 v4 v5 v6 v7 := fun s t v1 v2 v3 v4 v5 v6 v7 x1 x2 => ih2 (s, t, v1, v2, v3, v4, v5, v6, v7) ⟨x1, x2⟩
        rw [ld, wt] at ih2
        by_cases q1 : aBw w a c = true
        · rw [if_pos q1, if_pos q1] at ih2
          refine ⟨fun y => absurd (b1.2 q1) y, fun _ => ⟨fun _ => ?_, fun y => absurd y (by decide)⟩⟩
          by_cases q2 : S.testBit c = true
          · rw [if_pos q2, if_pos q2] at ih2
            refine ⟨fun y => absurd (b2.2 q2) y, fun _ => br_f (by decide) ⟨fun y => absurd (b2.2 q2) y, fun _ => br_f (by decide) (s8_purrOf hF hR hM ok hc (fun u => ih2 _ _ _ _ _ _ _ _ _ ?_ ?_))⟩⟩
            · rw [hpu c hc, ← nI_add]
            · rw [show (10 : Int32) = nI 10 from rfl, pk_sub hp, nI_l (n := 10 - p) (by omega), lN_mul]
          · rw [if_neg q2, if_neg q2] at ih2
            refine ⟨fun _ => br_t rfl ⟨fun _ => br_t rfl (ih2 _ _ _ _ _ _ _ _ _ ?_ ?_), fun y => absurd (b2.1 y) q2⟩, fun y => absurd (b2.1 y) q2⟩
            · rw [Nat.add_zero]; exact Int32.add_zero _
            · rw [nI_l (n := p) (by omega), lN_mul]
        · rw [if_neg q1, if_neg q1] at ih2
          exact ⟨fun _ => ⟨fun y => absurd rfl y, fun _ => ih2 _ _ _ _ _ _ _ _ _ rfl rfl⟩, fun y => absurd (b1.1 y) q1⟩
    · have z : ¬ sbB (aBw w a) S nC = true := fun y => z (ss.2 y)
      unfold p_X8_partsOf_146
      refine ih (_, u1, u2, u3, u4, u5, u6, u7) ?_
      show lN _ = lN _
      rw [sumN]
      conv => rhs; rw [Mt, if_neg z, Nat.add_zero]
end
