/-! ===== the rule: a whole text ===== -/
theorem nar_byte : ∀ n, n < 256 → vp_nar .byte ((nI n).toInt8.toInt32) = (nI n).toInt8.toInt32 := by decide +kernel
section
variable {F t : Nat} {h : Nat → Nat}
theorem text_S (hF : 5000 ≤ F) (ht : t ≤ 80) (hb : ∀ i, i < t → h i < 256) :
    (∃ j, j ≤ 80 ∧ cO h (decide (t ≤ 40)) (eN t) 0 [] [] 0 (fun _ => false) 0 true = (j, none) ∧ ∀ (N : Nat) (fr asked : Nat → Int32) (Post : Int32 → (Int32 × Int32) → Prop), TXm t h fr → t ≤ N → N < 1000 → (∀ v at0 wr, (∀ Q : Int32 → Int32 → Prop, Q 0 (nI j) → p_X8_wasRight F (nI t) at0 wr Q) → Post v (at0, wr)) → p_X8_heldT F 0 (nI t) 40 0 (-1) 0 N fr asked Post) ∨
    (t ≤ 40 ∧ ∃ (V : (Nat → Int32) → Int32) (c : List Int32), cO h (decide (t ≤ 40)) (eN t) 0 [] [] 0 (fun _ => false) 0 true = (t, some c) ∧ (∀ lt, ev lt c [] = [V lt]) ∧ ∀ (N : Nat) (fr : Nat → Int32) (isA : Int32) (lt asked : Nat → Int32) (Post : Int32 → (Int32 × Int32) → Prop), TXm t h fr → t ≤ N → N < 1000 → (isA = 1 → ∀ k, k < 7 → asked k = lt k) → (∀ v, (isA = 1 → v = V lt) → Post v (nI t, -1)) → p_X8_heldT F 0 (nI t) 40 0 (-1) isA N fr asked Post) := by
  have h40 := eN_40 t
  have hT4 : ∀ j, 0 ≤ j → j ≤ eN t → LvS t h 5 4 (p_X8_thing F 45) 0 j := fun j h1 h2 => thing_S hF hb 45 0 j (by omega) h2 (by omega)
  have hP : ∀ j, 0 ≤ j → j ≤ eN t → LvS t h 3 3 (p_X8_product F (p_X8_thing F 45)) 0 j := fun j h1 h2 => product_S hF hb h2 (fun k h3 h4 => hT4 k (by omega) h4)
  have hS : ∀ j, 0 ≤ j → j ≤ eN t → LvS t h 2 2 (p_X8_sum F (p_X8_thing F 45)) 0 j := fun j h1 h2 => sum_S hF hb h2 (fun k h3 h4 => hP k (by omega) h4)
  obtain ⟨j, o, a1, a2, a3, a4, a5⟩ := held_S (d := 0) (i := 0) hb (by omega) hS
  have eO : ∀ st sk op cm dg wt, cO h (decide (t ≤ 40)) (eN t) 0 st sk op cm dg wt = Ou h t 0 st sk op cm dg wt := fun st sk op cm dg wt => by unfold Ou; rw [Nat.sub_zero]
  have lo : lowR 1 [] := fun c s e => absurd e (by simp)
  have ar : ∀ lt asked : Nat → Int32, ((0 : Int32) = 1 → ∀ k, k < 7 → asked k = lt k) := fun _ _ y => absurd y (by decide)
  rw [eO]
  unfold p_X8_heldT
  cases o with
  | none =>
    refine Or.inl ⟨j, by omega, a4 rfl [] [] _ 0 lo (fun _ => rfl), ?_⟩
    intro N fr asked Post hT hN hN2 hk
    exact a3 N fr 0 asked asked Post hT hN hN2 (ar _ _) (fun v _ => hk v _ _ (fun Q hQ => s8_rightW (m1_ne (by omega)) hQ))
  | some V =>
    obtain ⟨b1, C, pd, b2, b3, b4⟩ := a5 V rfl
    obtain ⟨cm2, dg2, f1, f2, f3, f4, f5⟩ := b4 [] [] (fun _ => false) 0 lo (fun _ => rfl)
    by_cases z : j = t
    · have t40 : t ≤ 40 := by omega
      refine Or.inr ⟨t40, V, C ++ ngs pd, ?_, fun lt => b3 lt [], ?_⟩
      · rw [f5]
        unfold Ou
        have e : eN t - j = 0 := by
          have : eN t = t := by unfold eN; rw [if_pos t40]
          omega
        rw [e, cO, if_pos ⟨decide_eq_true t40, rfl, rfl⟩, z, settl_pd lo pd _ b2]
        rfl
      · intro N fr isA lt asked Post hT hN hN2 hA hk
        refine a3 N fr isA lt asked Post hT hN hN2 hA (fun v hv => ?_)
        rw [z]
        exact hk v (hv V rfl)
    · have jt : j < t := by
        have : eN t ≤ t := by unfold eN; split <;> omega
        omega
      refine Or.inl ⟨j, by omega, ?_, ?_⟩
      · rw [f5]
        by_cases zj : j < eN t
        · apply Ou_n zj
          unfold tk
          by_cases zdg : 48 ≤ h j ∧ h j ≤ 57
          · rw [if_pos zdg, if_neg (by decide), if_pos (f4 zj zdg.1 zdg.2)]
          · rw [if_neg zdg, if_neg (by decide), if_neg (fun y => absurd y.2 (by omega)), if_pos]
            rcases f3 zj with w | w
            · exact Or.inl (by omega)
            · exact Or.inr w
        · refine Ou_e (by omega) (fun y => ?_)
          have t40 := of_decide_eq_true y.1
          have : eN t = t := by unfold eN; rw [if_pos t40]
          omega
      · intro N fr asked Post hT hN hN2 hk
        exact a3 N fr 0 asked asked Post hT hN hN2 (ar _ _) (fun v _ => hk v _ _ (fun Q hQ => s8_rightB (by omega) jt hQ))
/-- what the class reads into its spare rule, and the model -/
theorem spare_S {len : Int32} {signs f : Nat → Int32} (hF : 5000 ≤ F) (hTc : TXc t h len signs) (hTm : TXm t h f) :
    (∃ j, j ≤ 80 ∧ (∀ steps stack (Post : Int32 → (Int32 × Int32 × Int32 × Int32 × Int32 × Int32 × Int32 × (Nat → Int32) × (Nat → Int32)) → Prop), (∀ u1 u2 u3 u4 u5 u6 u7 u8, Post (nI j) (u1, u2, u3, u4, u5, u6, 0, u7, u8)) → p_X7_readSpare F len steps signs stack Post) ∧ (∀ asked (Post : Int32 → (Int32 × Int32 × Int32 × Int32 × Int32 × Int32) → Prop), (∀ u4, Post 0 (0, nI t, 40, u4, nI j, 0)) → p_X8_readRule F (nI t) f asked Post)) ∨
    (t ≤ 40 ∧ ∃ R, (∀ steps stack (Post : Int32 → (Int32 × Int32 × Int32 × Int32 × Int32 × Int32 × Int32 × (Nat → Int32) × (Nat → Int32)) → Prop), (∀ u1 u2 u3 u4 u5 u6 u7 u8, RX F R u1 u7 → Post (-1) (u1, u2, u3, u4, u5, u6, 0, u7, u8)) → p_X7_readSpare F len steps signs stack Post) ∧ (∀ asked (Post : Int32 → (Int32 × Int32 × Int32 × Int32 × Int32 × Int32) → Prop), (∀ u4, Post 1 (0, nI t, 40, u4, -1, 0)) → p_X8_readRule F (nI t) f asked Post) ∧ ∀ rule, TXm t h rule → RM F R t rule) := by
  have ht := hTc.1
  have hb : ∀ i, i < t → h i < 256 := fun i hi => (hTc.2.2 i hi).1
  have el := hTc.2.1
  subst el
  by_cases z : t = 0
  · subst z
    refine Or.inr ⟨by omega, fun lt => lt 0 - lt 2, ?_, ?_, fun rule _ => ⟨by omega, Or.inl ⟨rfl, fun _ => rfl⟩⟩⟩
    · intro steps stack Post kk
      unfold p_X7_readSpare p_X4_read p_X4_start
      refine ⟨fun y => absurd rfl y, fun _ => ?_⟩
      unfold p_X4_bePlain
      refine s4_addStep (st := []) (by decide) (fun i hi => absurd hi (Nat.not_lt_zero _)) (fun f1 h1 => s4_addStep (st := [-106]) (by decide) h1 (fun f2 h2 => s4_addStep (st := [-106, -103]) (by decide) h2 (fun f3 h3 => kk _ _ _ _ _ _ _ _ ?_)))
      exact RX_steps (c := [-106, -103, -45]) hF (by decide) h3 (fun lt => rfl)
    · intro asked Post kk
      unfold p_X8_readRule p_X8_beginText p_X8_begin p_X8_readRule_24
      exact br_t (by decide) (s8_right (t := 0) (at0 := 0) (by omega) (by omega) (by omega) ⟨Or.inr rfl, kk _⟩)
  have n0 : ¬ nI t = 0 := fun y => z ((nI_eq (b := 0) (by omega) (by omega)).1 y)
  have p0 : ¬ nI t ≤ 0 := nI_ge (a := 0) (by omega) (by omega)
  have cr0 : ∀ steps stack, CR 0 [] [] 0 (fun _ => false) 0 true 0 0 0 0 0 1 steps stack := by
    intro steps stack
    refine ⟨Nat.le_refl _, fun c hc => absurd hc (by simp), fun y => absurd y (by decide), by omega, by omega, rfl, rfl, rfl, ⟨0, by decide, rfl, fun e _ => Nat.zero_testBit e⟩, rfl, rfl, fun i hi => absurd hi (Nat.not_lt_zero _), trivial⟩
  have e40 := eN_40 t
  rcases text_S hF ht hb with ⟨j, j8, c1, c2⟩ | ⟨t40, V, c, c1, c2, c3⟩
  · refine Or.inl ⟨j, j8, ?_, ?_⟩
    · intro steps stack Post kk
      unfold p_X7_readSpare p_X4_read p_X4_start
      refine ⟨fun _ => ?_, fun y => absurd y n0⟩
      refine s4_read19 (h := h) hF hTc (fun j2 => ?_) (fun j2 c y => ?_) (eN t) 0 F [] [] 0 (fun _ => false) 0 true 0 0 0 0 0 1 steps stack rfl (by omega) (cr0 steps stack) rfl
      · by_cases y : j2 = j
        · subst y; exact Or.inl (fun u => kk _ _ _ _ _ _ _ _)
        · refine Or.inr (fun w => y ?_)
          have := c1.symm.trans w
          rw [Prod.mk.injEq] at this
          exact this.1.symm
      · have := c1.symm.trans y
        rw [Prod.mk.injEq] at this
        exact absurd this.2 (by simp)
    · intro asked Post kk
      unfold p_X8_readRule p_X8_beginText p_X8_begin p_X8_readRule_24
      exact br_f p0 (c2 80 f asked _ hTm (by omega) (by omega) (fun v at0 wr hw => hw _ ⟨Or.inl rfl, kk _⟩))
  · have hV : ∀ lt, V lt = (ev lt c []).headD 0 := fun lt => by rw [c2 lt]; rfl
    refine Or.inr ⟨t40, V, ?_, ?_, fun rule hr => ⟨t40, Or.inr ⟨by omega, ?_⟩⟩⟩
    · intro steps stack Post kk
      unfold p_X7_readSpare p_X4_read p_X4_start
      refine ⟨fun _ => ?_, fun y => absurd y n0⟩
      refine s4_read19 (h := h) hF hTc (fun j2 => Or.inr (fun w => ?_)) (fun j2 c' y hl t2 o2 cc2 d2 w2 st2 sk2 hs => ?_) (eN t) 0 F [] [] 0 (fun _ => false) 0 true 0 0 0 0 0 1 steps stack rfl (by omega) (cr0 steps stack) rfl
      · have := c1.symm.trans w
        rw [Prod.mk.injEq] at this
        exact absurd this.2 (by simp)
      · have := c1.symm.trans y
        rw [Prod.mk.injEq, Option.some.injEq] at this
        rw [← this.2] at hs hl ⊢
        exact kk _ _ _ _ _ _ _ _ (RX_steps hF hl hs hV)
    · intro asked Post kk
      unfold p_X8_readRule p_X8_beginText p_X8_begin p_X8_readRule_24
      exact br_f p0 (c3 80 f 0 asked asked _ hTm (by omega) (by omega) (fun y => absurd y (by decide)) (fun v _ => s8_right (by omega) (Nat.le_refl _) (by omega) ⟨Or.inr rfl, kk _⟩))
    · intro lt asked Post ha kk
      exact c3 40 rule 1 lt asked Post hr t40 (by omega) (fun _ => ha) (fun v hv => by rw [hv rfl]; exact kk _)
end
