/-! ===== guards: the class's count ===== -/
theorem tb_on : ∀ j, j < 6 → ∀ T, T < 64 → ((¬ T < 2 ^ j ∧ (T - 2 ^ j).testBit j = false) ↔ T.testBit j = true) := by decide +kernel
theorem tb_rm6 : ∀ j, j < 6 → ∀ T, T < 64 → T.testBit j = true → ∀ x, x < 6 → (T - 2 ^ j).testBit x = (T.testBit x && ! decide (x = j)) := by decide +kernel
theorem tb_rm {j T : Nat} (hj : j < 6) (hT : T < 64) (h : T.testBit j = true) : (T - 2 ^ j).testBit = rmB T.testBit j := by
  funext x
  by_cases q : x < 6
  · exact tb_rm6 j hj T hT h x q
  · have h1 : 64 ≤ 2 ^ x := (show 2 ^ 6 ≤ 2 ^ x from Nat.pow_le_pow_right (by decide) (by omega))
    rw [Nat.testBit_lt_two_pow (Nat.lt_of_le_of_lt (Nat.sub_le T (2 ^ j)) (show T < 2 ^ x by omega))]
    unfold rmB
    rw [Nat.testBit_lt_two_pow (show T < 2 ^ x by omega)]
    rfl
theorem pc8_T {T n : Nat} (hT : T < 2 ^ n) (hn : n ≤ 8) : pc8 T = ctN T.testBit n := by
  have e : T = bN T.testBit n := by
    apply bit_ext
    intro i
    rw [bN_bit]
    by_cases q : i < n
    · rw [decide_eq_true q, Bool.true_and]
    · rw [Nat.testBit_lt_two_pow (Nat.lt_of_lt_of_le hT (Nat.pow_le_pow_right (by decide) (by omega))), decide_eq_false q]
      simp
  conv => lhs; rw [e]
  exact pc8_bN _ hn
theorem bt_one : ∀ T, T < 64 → (bt 1 T = true ↔ T = 0) := by decide +kernel
section
variable {F nA nC X Ab : Nat} {alone : Nat → Int32} {fa : Nat → Nat} {Post : Int32 → Prop}
def alB (fa : Nat → Nat) (X c a : Nat) : Bool := (fa c).testBit a && X.testBit a
theorem s7_most (hF : 5000 ≤ F) (hA : nA ≤ 6) (hC : nC ≤ 8) (hX : X < 2 ^ nA) (hAb : Ab < 2 ^ nC) (hfa : ∀ c, c < nC → alone c = nI (fa c) ∧ fa c < 2 ^ nA) (kk : ∀ r, (∀ T, T < 2 ^ nA → cv (alB fa X) Ab.testBit nC T.testBit → ctN T.testBit nA ≤ r) → (r = 0 ∨ ∃ T, T < 2 ^ nA ∧ cv (alB fa X) Ab.testBit nC T.testBit ∧ ctN T.testBit nA = r) → r ≤ 8 → Post (nI r)) : p_X7_mostGuarded F (nI X) (nI Ab) (nI nA) (nI nC) alone Post := by
  have p6 : 2 ^ nA ≤ 64 := (show 2 ^ nA ≤ 2 ^ 6 from Nat.pow_le_pow_right (by decide) hA)
  have p8 : 2 ^ nC ≤ 256 := (show 2 ^ nC ≤ 2 ^ 8 from Nat.pow_le_pow_right (by decide) hC)
  have k110 : ∀ y3 : Int64, (∀ T, T < 2 ^ nA → (bt y3 T = true ↔ cv (alB fa X) Ab.testBit nC T.testBit)) → p_X7_mostGuarded_110 F (nI nA) y3 Post F 0 0 := by
    intro y3 hy
    refine up_loop (fun n i s => p_X7_mostGuarded_110 F (nI nA) y3 Post n i s) (fun j s => ∃ r, s = nI r ∧ r ≤ 8 ∧ (∀ T, T < j → cv (alB fa X) Ab.testBit nC T.testBit → ctN T.testBit nA ≤ r) ∧ (r = 0 ∨ ∃ T, T < j ∧ cv (alB fa X) Ab.testBit nC T.testBit ∧ ctN T.testBit nA = r)) (2 ^ nA) ?_ ?_ F 0 0 ⟨0, rfl, by omega, fun T hT => absurd hT (by omega), Or.inl rfl⟩ (by omega) (by omega)
    · rintro n s ⟨r, e, r8, h1, h2⟩
      subst e
      show p_X7_mostGuarded_110 F (nI nA) y3 Post (n + 1) (nI (2 ^ nA)) (nI r)
      rw [p_X7_mostGuarded_110_s, sh_nC (by omega)]
      exact br_t (nI_le (Nat.le_refl _) (by omega)) (kk r h1 h2 r8)
    · rintro n T s hT ⟨r, e, r8, h1, h2⟩ ih
      subst e
      show p_X7_mostGuarded_110 F (nI nA) y3 Post (n + 1) (nI T) (nI r)
      rw [p_X7_mostGuarded_110_s, sh_nC (by omega)]
      unfold p_X7_mostGuarded_147
      have tt := bt_test (y := y3) (k := T) (by omega)
      refine br_f (nI_ge hT (by omega)) ⟨fun z => ih _ ⟨r, rfl, r8, fun T2 h3 h4 => ?_, ?_⟩, fun z => s_bitCount ?_⟩
      · by_cases e : T2 = T
        · subst e; exact absurd (tt.2 ((hy T2 hT).2 h4)) z
        · exact h1 T2 (by omega) h4
      · rcases h2 with h2 | ⟨T2, h3, h4⟩
        · exact Or.inl h2
        · exact Or.inr ⟨T2, by omega, h4⟩
      · have hc := (hy T hT).1 (tt.1 z)
        have c8 := ctN_le T.testBit nA
        rw [bcnt_d T (by omega), pc8_T hT (by omega), if_nI (by omega) (by omega)]
        refine ih _ ⟨_, rfl, by split <;> omega, fun T2 h3 h4 => ?_, ?_⟩
        · by_cases e : T2 = T
          · subst e; split <;> omega
          · have := h1 T2 (by omega) h4
            split <;> omega
        · split
          · exact Or.inr ⟨T, by omega, hc, rfl⟩
          · rcases h2 with h2 | ⟨T2, h3, h4⟩
            · exact Or.inl h2
            · exact Or.inr ⟨T2, by omega, h4⟩
  unfold p_X7_mostGuarded
  refine up_loop (fun n i s => p_X7_mostGuarded_5 F (nI X) (nI Ab) (nI nA) (nI nC) alone Post n i s) (fun c y => ∀ T, T < 2 ^ nA → (bt y T = true ↔ cv (alB fa X) Ab.testBit c T.testBit)) nC ?_ ?_ F 1 0 (fun T hT => ?_) (by omega) (by omega)
  · intro n y hy
    show p_X7_mostGuarded_5 F (nI X) (nI Ab) (nI nA) (nI nC) alone Post (n + 1) (nI nC) y
    rw [p_X7_mostGuarded_5_s]
    exact br_t (nI_le (Nat.le_refl _) (by omega)) (k110 y hy)
  · intro n c y hc hy ih
    show p_X7_mostGuarded_5 F (nI X) (nI Ab) (nI nA) (nI nC) alone Post (n + 1) (nI c) y
    rw [p_X7_mostGuarded_5_s, nI_clamp (n := c) (by omega), (hfa c hc).1, fz_and]
    have fl := (hfa c hc).2
    have inn : ∀ S0, S0 < 2 ^ nA → (∀ a, S0.testBit a = (Ab.testBit c && alB fa X c a)) → p_X7_mostGuarded_43 F (nI nA) (nI c) y (p_X7_mostGuarded_5 F (nI X) (nI Ab) (nI nA) (nI nC) alone Post n) Post (nI S0) := by
      intro S0 hS hb
      unfold p_X7_mostGuarded_43
      refine up_loop (fun n2 i s => p_X7_mostGuarded_48 F (nI nA) (nI S0) (nI c) y (p_X7_mostGuarded_5 F (nI X) (nI Ab) (nI nA) (nI nC) alone Post n) Post n2 i s) (fun j s => ∀ T, T < 2 ^ nA → (bt s T = true ↔ (bt y T = true ∨ ∃ a, a < j ∧ S0.testBit a = true ∧ T.testBit a = true ∧ bt y (T - 2 ^ a) = true))) nA ?_ ?_ F y 0 (fun T hT => ⟨fun z => Or.inl z, fun z => z.elim id (fun ⟨a, h, _⟩ => absurd h (by omega))⟩) (by omega) (by omega)
      · intro n2 s hs
        show p_X7_mostGuarded_48 F (nI nA) (nI S0) (nI c) y (p_X7_mostGuarded_5 F (nI X) (nI Ab) (nI nA) (nI nC) alone Post n) Post (n2 + 1) (nI nA) s
        rw [p_X7_mostGuarded_48_s]
        refine br_t (nI_le (Nat.le_refl _) (by omega)) (ih s (fun T hT => ?_))
        rw [hs T hT, hy T hT]
        constructor
        · rintro (h | ⟨a, a1, a2, a3, a4⟩)
          · exact Or.inl h
          · rw [hb, Bool.and_eq_true] at a2
            rw [hy _ (Nat.lt_of_le_of_lt (Nat.sub_le _ _) hT), tb_rm (by omega) (by omega) a3] at a4
            exact Or.inr ⟨a2.1, a, a3, a2.2, a4⟩
        · rintro (h | ⟨h1, a, h2, h3, h4⟩)
          · exact Or.inl h
          · have a2 : S0.testBit a = true := by rw [hb, h1, h3]; rfl
            have an : a < nA := by
              apply Decidable.byContradiction
              intro z
              rw [Nat.testBit_lt_two_pow (Nat.lt_of_lt_of_le hS (Nat.pow_le_pow_right (by decide) (by omega)))] at a2
              exact absurd a2 (by decide)
            refine Or.inr ⟨a, an, a2, h2, ?_⟩
            rw [hy _ (Nat.lt_of_le_of_lt (Nat.sub_le _ _) hT), tb_rm (by omega) (by omega) h2]
            exact h4
      · intro n2 j s hj hs ih2
        show p_X7_mostGuarded_48 F (nI nA) (nI S0) (nI c) y (p_X7_mostGuarded_5 F (nI X) (nI Ab) (nI nA) (nI nC) alone Post n) Post (n2 + 1) (nI j) s
        rw [p_X7_mostGuarded_48_s]
        unfold p_X7_mostGuarded_89
        have fb := fz_bit1 (m := S0) (c := j) (by omega) (by omega)
        have pj : 2 ^ j ≤ 32 := (show 2 ^ j ≤ 2 ^ 5 from Nat.pow_le_pow_right (by decide) (by omega))
        refine br_f (nI_ge hj (by omega)) ⟨fun z => ih2 s (fun T hT => ?_), fun z => ⟨pk_in j 6 (by omega), ih2 _ (fun T hT => ?_)⟩⟩
        · rw [hs T hT]
          constructor
          · rintro (h | ⟨a, a1, a2⟩)
            · exact Or.inl h
            · exact Or.inr ⟨a, by omega, a2⟩
          · rintro (h | ⟨a, a1, a2, a3⟩)
            · exact Or.inl h
            · by_cases e : a = j
              · subst e; exact absurd (fb.2 a2) z
              · exact Or.inr ⟨a, by omega, a2, a3⟩
        · have sj := fb.1 z
          rw [nI_clamp (n := j) (by omega), fz_sh1 (by omega), bt_or, bt_shl (by omega), bt_and, setsW_b j (by omega) _ (Nat.lt_of_le_of_lt (Nat.sub_le T (2 ^ j)) (show T < 64 by omega)), Bool.or_eq_true, hs T hT]
          have on := tb_on j (by omega) T (by omega)
          constructor
          · rintro ((h | ⟨a, a1, a2⟩) | h)
            · exact Or.inl h
            · exact Or.inr ⟨a, by omega, a2⟩
            · simp only [Bool.and_eq_true, Bool.not_eq_true', decide_eq_true_eq, decide_eq_false_iff_not] at h
              exact Or.inr ⟨j, by omega, sj, on.1 ⟨h.1.2, h.2.2⟩, h.2.1⟩
          · rintro (h | ⟨a, a1, a2, a3, a4⟩)
            · exact Or.inl (Or.inl h)
            · by_cases e : a = j
              · subst e
                obtain ⟨o1, o2⟩ := on.2 a3
                refine Or.inr ?_
                simp only [Bool.and_eq_true, Bool.not_eq_true', decide_eq_true_eq, decide_eq_false_iff_not]
                exact ⟨⟨by omega, o1⟩, a4, o2⟩
              · exact Or.inl (Or.inr ⟨a, by omega, a2, a3, a4⟩)
    have fb := fz_bit1 (m := Ab) (c := c) (by omega) (by omega)
    refine br_f (nI_ge hc (by omega)) ⟨fun z => inn 0 (Nat.two_pow_pos _) (fun a => ?_), fun z => ⟨pk_in c 8 (by omega), inn _ ?_ (fun a => ?_)⟩⟩
    · rw [Nat.zero_testBit]
      cases e : Ab.testBit c with
      | false => rfl
      | true => exact absurd (fb.2 e) z
    · have := Nat.and_le_left (n := fa c) (m := X)
      omega
    · rw [Nat.testBit_and, fb.1 z, Bool.true_and]
      rfl
  · rw [bt_one T (by omega)]
    constructor
    · rintro rfl a
      exact Nat.zero_testBit a
    · intro h
      apply bit_ext
      intro i
      rw [h i, Nat.zero_testBit]
end
