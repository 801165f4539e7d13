/-! ===== calls: odds, stands (the fraction) ===== -/
theorem lg_0 : lg_cmp (lN 0) 0 ≤ 0 ∧ lg_cmp (lN 0) 0 = 0 := by decide
theorem lg_p {b : Nat} (hb : b < 2 ^ 63) (h0 : ¬ b = 0) : lg_cmp (lN b) 0 = 1 := by
  unfold lg_cmp
  exact if_pos ((pk_lLT (a := 0) (by omega) hb).2 (by omega))
theorem lN_n0 {b : Nat} (hb : b < 2 ^ 63) (h0 : ¬ b = 0) : ¬ lN b = 0 := fun z => h0 ((pk_lEQ (b := 0) hb (by omega)).1 z)
theorem gc_step {a b k : Nat} (h : b ≤ a) (h0 : ¬ b = 0) (hk : a * b < 2 ^ (k + 1)) : a % b ≤ b ∧ b * (a % b) < 2 ^ k := by
  have h1 : a % b < b := Nat.mod_lt _ (by omega)
  have h2 : a % b + b ≤ a := by
    have := Nat.mod_add_div a b
    have h3 : b * 1 ≤ b * (a / b) := Nat.mul_le_mul_left b (Nat.div_pos h (by omega))
    omega
  refine ⟨by omega, ?_⟩
  have h4 : b * (a % b + a % b) ≤ b * a := Nat.mul_le_mul_left b (by omega)
  rw [Nat.mul_add, Nat.mul_comm b a] at h4
  rw [Nat.pow_succ] at hk
  omega
theorem gc_g (a b : Nat) : Nat.gcd b (a % b) = Nat.gcd a b := by
  rw [Nat.gcd_comm a b, Nat.gcd_rec b a, Nat.gcd_comm]
theorem gc_0 {a b : Nat} (h : b ≤ a) (hk : a * b < 2 ^ 0) : b = 0 := by
  apply Decidable.byContradiction
  intro z
  have := Nat.mul_le_mul (show 1 ≤ a by omega) (show 1 ≤ b by omega)
  omega
section
variable {F : Nat}
theorem s7_gcd {p1 p3 : Int64} {sz : Int32} {fn : Nat → Int64} {Post : (Int32 × (Nat → Int64)) → Prop} : ∀ (k a b i G : Nat), b ≤ a → a < 2 ^ 63 → a * b < 2 ^ k → i + k < 1000 → k < G → p_X7_tellFraction_45 F p1 p3 sz fn (lN (Nat.gcd a b)) Post → p_X7_tellFraction_9 F p1 p3 sz fn Post G (nI i) (lN a) (lN b)
  | k, a, b, i, G, hb, ha, hk, hi, hG, kk => by
    obtain ⟨G', rfl⟩ : ∃ G', G = G' + 1 := ⟨G - 1, by omega⟩
    rw [p_X7_tellFraction_9_s]
    refine br_f (nI_ge (b := 1000) (by omega) (by omega)) ?_
    by_cases q : b = 0
    · subst q
      rw [Nat.gcd_zero_right] at kk
      exact br_t lg_0.1 kk
    · cases k with
      | zero => exact absurd (gc_0 hb hk) q
      | succ k =>
        obtain ⟨h1, h2⟩ := gc_step hb q hk
        rw [lg_p (by omega) q, pk_lRem ha (by omega) (by omega), ← nI_succ]
        refine br_f (by decide) ⟨lN_n0 (by omega) q, s7_gcd k b (a % b) (i + 1) G' h1 (by omega) h2 (by omega) (by omega) ?_⟩
        rw [gc_g]
        exact kk
theorem s8_gcd {Post : Int64 → Prop} : ∀ (k a b D : Nat), b ≤ a → a < 2 ^ 63 → a * b < 2 ^ k → k < D → Post (lN (Nat.gcd a b)) → p_X8_commonD F D (lN a) (lN b) Post
  | k, a, b, D, hb, ha, hk, hD, kk => by
    obtain ⟨D', rfl⟩ : ∃ D', D = D' + 1 := ⟨D - 1, by omega⟩
    rw [p_X8_commonD_s]
    unfold p_X8_commonB
    by_cases q : b = 0
    · subst q
      rw [Nat.gcd_zero_right] at kk
      exact ⟨fun z => absurd lg_0.2 z, fun _ => kk⟩
    · cases k with
      | zero => exact absurd (gc_0 hb hk) q
      | succ k =>
        obtain ⟨h1, h2⟩ := gc_step hb q hk
        rw [lg_p (by omega) q, pk_lRem ha (by omega) (by omega)]
        refine ⟨fun _ => ⟨lN_n0 (by omega) q, s8_gcd k b (a % b) D' h1 (by omega) h2 (by omega) ?_⟩, fun z => absurd z (by decide)⟩
        rw [gc_g]
        exact kk
theorem ten_b {n : Nat} (h : n ≤ 8) : 0 < 10 ^ n ∧ 10 ^ n ≤ 100000000 := ⟨Nat.pow_pos (by decide), Nat.pow_le_pow_right (n := 10) (by decide) h⟩
def frL (b n : Nat) : List Int64 := [] ++ [lN b / lN (Nat.gcd (10 ^ n) b)] ++ [lN (10 ^ n) / lN (Nat.gcd (10 ^ n) b)]
theorem s7_frac {b n : Nat} {sz : Int32} {fn : Nat → Int64} {Post : (Int32 × (Nat → Int64)) → Prop} (hF : 5000 ≤ F) (hn : n ≤ 8) (hb : b ≤ 10 ^ n) (kk : ∀ s2 f2, RLw (frL b n) s2 f2 → Post (s2, f2)) : p_X7_tellFraction F (lN b) (lN (10 ^ n)) sz fn Post := by
  obtain ⟨t0, t8⟩ := ten_b hn
  have hm : 10 ^ n * b ≤ 100000000 * 100000000 := Nat.mul_le_mul t8 (by omega)
  have g0 : 0 < Nat.gcd (10 ^ n) b := Nat.gcd_pos_of_pos_left _ t0
  have g1 : Nat.gcd (10 ^ n) b ≤ 10 ^ n := Nat.gcd_le_left _ t0
  unfold p_X7_tellFraction
  refine s7_gcd 60 (10 ^ n) b 0 F hb (by omega) (by omega) (by omega) (by omega) ?_
  unfold p_X7_tellFraction_45
  rw [lg_p (by omega) (by omega)]
  have n0 := lN_n0 (b := Nat.gcd (10 ^ n) b) (by omega) (by omega)
  exact br_f (by decide) (s3_anew ⟨n0, s3_add (RL_nil _) (by decide) (fun s5 f5 h5 => ⟨n0, s3_add h5 (by show 1 < 8; omega) (fun s6 f6 h6 => kk _ _ h6)⟩)⟩)
theorem s8_frac {b n : Nat} {fn : Nat → Int64} {Post : Int32 → (Int32 × (Nat → Int64)) → Prop} (hn : n ≤ 8) (hb : b ≤ 10 ^ n) (kk : ∀ s2 f2, RLw (frL b n) s2 f2 → Post 0 (s2, f2)) : p_X8_tellPart F (lN b) (lN (10 ^ n)) fn Post := by
  obtain ⟨t0, t8⟩ := ten_b hn
  have hm : 10 ^ n * b ≤ 100000000 * 100000000 := Nat.mul_le_mul t8 (by omega)
  have g0 : 0 < Nat.gcd (10 ^ n) b := Nat.gcd_pos_of_pos_left _ t0
  have g1 : Nat.gcd (10 ^ n) b ≤ 10 ^ n := Nat.gcd_le_left _ t0
  unfold p_X8_tellPart p_X8_common
  rw [p_X8_commonD_s]
  unfold p_X8_commonB
  rw [lg_p (by omega) (by omega), pk_lRem (by omega) (by omega) (by omega)]
  have n0 := lN_n0 (b := Nat.gcd (10 ^ n) b) (by omega) (by omega)
  have m1 : b % 10 ^ n ≤ b := Nat.mod_le _ _
  have m2 : 10 ^ n * (b % 10 ^ n) ≤ 10 ^ n * b := Nat.mul_le_mul_left _ m1
  refine ⟨fun _ => ⟨lN_n0 (by omega) (by omega), s8_gcd 60 (10 ^ n) (b % 10 ^ n) 99 (by omega) (by omega) (by omega) (by omega) ?_⟩, fun z => absurd z (by decide)⟩
  rw [gc_g, Nat.gcd_comm]
  exact ⟨n0, s8_tell (RL_nil _) (by decide) (fun s5 f5 h5 => ⟨n0, s8_tell h5 (by show 1 < 16; omega) (fun s6 f6 h6 => kk _ _ h6)⟩)⟩
theorem s7_tens {n : Nat} {Post : Int64 → Prop} (hF : 5000 ≤ F) (hn : n ≤ 8) (kk : Post (lN (10 ^ n))) : p_X7_tensFor F (nI n) Post := by
  unfold p_X7_tensFor
  refine up_loop (fun m i s => p_X7_tensFor_4 F (nI n) Post m i s) (fun j s => s = lN (10 ^ j)) n ?_ ?_ F 1 0 rfl (by omega) (by omega)
  · intro m s e
    subst e
    show p_X7_tensFor_4 F (nI n) Post (m + 1) (nI n) _
    rw [p_X7_tensFor_4_s]
    exact br_t (nI_le (Nat.le_refl _) (by omega)) kk
  · intro m j s hj e ih
    subst e
    show p_X7_tensFor_4 F (nI n) Post (m + 1) (nI j) _
    rw [p_X7_tensFor_4_s]
    refine br_f (nI_ge hj (by omega)) (ih _ ?_)
    rw [Nat.pow_succ]
    exact lN_mul _ 10
theorem s8_tens {n : Nat} {Post : Int64 → Prop} (hF : 5000 ≤ F) (hn : n ≤ 8) (kk : Post (lN (10 ^ n))) : p_X8_tens F (nI n) Post := by
  unfold p_X8_tens
  refine up_loop (fun m i s => p_X8_tens_4 F (nI n) Post m i s) (fun j s => s = lN (10 ^ j)) n ?_ ?_ F 1 0 rfl (by omega) (by omega)
  · intro m s e
    subst e
    show p_X8_tens_4 F (nI n) Post (m + 1) (nI n) _
    rw [p_X8_tens_4_s]
    exact br_t (nI_le (Nat.le_refl _) (by omega)) kk
  · intro m j s hj e ih
    subst e
    show p_X8_tens_4 F (nI n) Post (m + 1) (nI j) _
    rw [p_X8_tens_4_s]
    refine br_f (nI_ge hj (by omega)) (ih _ ?_)
    rw [Nat.pow_succ]
    exact lN_mul _ 10
end
def lNat (w : Nat → Int32) (a : Nat) : Nat := (w a).toNatClampNeg
theorem lNat_e {nA nC a : Nat} {w : Nat → Int32} (ok : OK nA nC w) (ha : a < 6) : w a = nI (lNat w a) ∧ lNat w a ≤ 9 := by
  obtain ⟨k, hk, e⟩ := ok.2.2.1 a (by omega)
  unfold lNat
  rw [e, nI_clamp (n := k) (by omega)]
  exact ⟨rfl, hk⟩
def wyN (R : (Nat → Int32) → Int32) (nC : Nat) (w : Nat → Int32) (p a : Nat) : Nat := Wn (aBw w a) (pN R nC w) p nC (gL (lNat w a))
theorem wyN_M {R : (Nat → Int32) → Int32} {nC : Nat} {w : Nat → Int32} {p a : Nat} (hC : nC ≤ 8) : wyN R nC w p a = Mn (aBw w a) (pN R nC w) p nC (gL (lNat w a)) := WM (fun i => (pN_e R nC w i).2) hC _
theorem wyN_10 {R : (Nat → Int32) → Int32} {nC : Nat} {w : Nat → Int32} {p a : Nat} (hC : nC ≤ 8) (hp : p ≤ 10) : wyN R nC w p a ≤ 10 ^ ctN (aBw w a) nC := by
  rw [wyN_M hC]
  exact M_10 hp _ (fun l => by unfold gL; split <;> omega)
def prN (R : (Nat → Int32) → Int32) (nC : Nat) (w : Nat → Int32) (p : Nat) : Nat → Nat
  | 0 => 1
  | a + 1 => prN R nC w p a * wyN R nC w p a
def plB (w : Nat → Int32) : Nat → Nat → Bool
  | 0, _ => false
  | a + 1, c => plB w a c || aBw w a c
theorem plB_lt {w : Nat → Int32} : ∀ {a c}, plB w a c = true → ∃ i, i < a ∧ w (36 + c) = nI i
  | 0, _, h => absurd h (by simp [plB])
  | a + 1, c, h => by
    rw [plB, Bool.or_eq_true] at h
    rcases h with h | h
    · obtain ⟨i, hi, e⟩ := plB_lt h
      exact ⟨i, by omega, e⟩
    · exact ⟨a, by omega, of_decide_eq_true h⟩
theorem ct_or {p q : Nat → Bool} (h : ∀ c, p c = true → q c = true → False) : ∀ n, ctN (fun c => p c || q c) n = ctN p n + ctN q n
  | 0 => rfl
  | n + 1 => by
    rw [ctN, ctN, ctN, ct_or h n]
    have := h n
    cases hp : p n <;> cases hq : q n <;> simp [hp, hq] at this ⊢ <;> omega
theorem prN_10 {R : (Nat → Int32) → Int32} {nC : Nat} {w : Nat → Int32} {p : Nat} (hC : nC ≤ 8) (hp : p ≤ 10) : ∀ {a}, a ≤ 6 → prN R nC w p a ≤ 10 ^ ctN (plB w a) nC
  | 0, _ => Nat.pow_pos (by decide)
  | a + 1, ha => by
    have e : plB w (a + 1) = fun c => plB w a c || aBw w a c := rfl
    rw [prN, e, ct_or (fun c h1 h2 => ?_) nC, Nat.pow_add]
    · exact Nat.mul_le_mul (prN_10 hC hp (by omega)) (wyN_10 hC hp)
    · obtain ⟨i, hi, e1⟩ := plB_lt h1
      have e2 : w (36 + c) = nI a := of_decide_eq_true h2
      have := (nI_eq (by omega) (by omega)).1 (e1.symm.trans e2)
      omega
section
variable {F : Nat} {x : XS} {m : MS} {am : MA}
theorem ob_odds (hF : 5000 ≤ F) (p1 p2 : Int32) (h : Rel F x m) : p7_odds F p1 p2 x (fun r x' => p8_odds F p1 p2 am m (fun r' m' => r = r' ∧ Rel F x' m')) := by
  obtain ⟨nA, nC, R, w, ok, hV, hM, eA, eC, hT, hW, hU, hN, hE, hH, hK⟩ := h
  have hA := ok.1
  have hC := ok.2.1
  obtain ⟨hRX, rs, ers, hRM⟩ := id hU
  obtain ⟨_, _, _, _, _, h0, _, _, _, _, h6⟩ := id hV
  unfold p7_odds p_X7_odds p8_odds p_X8_odds
  have hV0 := hV
  rw [hV.1, hV.2.1] at hV0
  rw [hV.1, hV.2.1, eA, eC, ers]
  rcases arg3 p1 (n := nA) (by omega) with q | ⟨a, ha, e⟩
  · refine s6_noArch q (br_t rfl (s8_noArch q (by omega) (br_t rfl ?_)))
    exact ⟨rfl, nA, nC, R, w, ok, hV0, hM, rfl, rfl, hT, hW, ⟨hRX, rs, rfl, hRM⟩, hN, hE, hH, hK⟩
  subst e
  refine s6_hasArch hA ha (br_f (by decide) ?_)
  rcases arg3 p2 (n := 11) (by omega) with q | ⟨p, hp, e⟩
  · refine rg_no (n := 10) q (by omega) ?_ ?_ <;> exact s8_isArch ha (by omega) (br_f (by decide) (s8_rgno (n := 10) q (by omega) ⟨fun z => absurd rfl z, fun _ => ⟨rfl, nA, nC, R, w, ok, hV0, hM, rfl, rfl, hT, hW, ⟨hRX, rs, rfl, hRM⟩, hN, hE, hH, hK⟩⟩))
  subst e
  obtain ⟨el, l9⟩ := lNat_e ok (a := a) (by omega)
  have c8 := ctN_le (aBw w a) nC
  have w10 : wyN R nC w p a ≤ 10 ^ ctN (aBw w a) nC := wyN_10 hC (by omega)
  refine rg_yes (n := 10) hp (by omega) (s7_findPurrs hF hRX hV0 ok (fun t st pp hpp => ?_))
  refine s7_ways (pu := pN R nC w) hF hC (by omega) (by omega) l9 h0 el h6 (fun i hi => (hpp i hi).trans (pN_e R nC w i).1) (fun i => (pN_e R nC w i).2) (fun f2 => s6_catsIn hF hC h6 (s_bitCount ?_))
  show p_X7_tensFor F (bcnt (nI (bN (aBw w a) nC))) _
  rw [bc_bN _ hC]
  refine s7_tens hF (by omega) (s7_frac (b := wyN R nC w p a) hF (by omega) w10 (fun s5 f5 h5 => ?_))
  refine s8_isArch ha (by omega) (br_f (by decide) (s8_rgyes (n := 10) hp (by omega) ⟨fun _ => ?_, fun z => absurd z (by decide)⟩))
  refine s8_parts (pu := pN R nC w) hF hRM hM ok (by omega) (by omega) l9 el (fun i _ => (pN_e R nC w i).1) (fun i => (pN_e R nC w i).2) (fun u => s8_there hF hM hC (s_bitCount ?_))
  show p_X8_tens F (bcnt (nI (bN (aBw w a) nC))) _
  rw [bc_bN _ hC, ← wyN_M hC]
  refine s8_tens hF (by omega) (s8_frac (by omega) w10 (fun s6 f6 h6 => ?_))
  exact ⟨rfl, nA, nC, R, w, ok, hV0, hM, rfl, rfl, hT, RWr_of (by show 2 ≤ 8; omega) h5 h6, ⟨hRX, rs, rfl, hRM⟩, hN, hE, hH, hK⟩
theorem ob_stands (hF : 5000 ≤ F) (p1 : Int32) (h : Rel F x m) : p7_stands F p1 x (fun r x' => p8_stands F p1 am m (fun r' m' => r = r' ∧ Rel F x' m')) := by
  obtain ⟨nA, nC, R, w, ok, hV, hM, eA, eC, hT, hW, hU, hN, hE, hH, hK⟩ := h
  have hA := ok.1
  have hC := ok.2.1
  obtain ⟨hRX, rs, ers, hRM⟩ := id hU
  obtain ⟨_, _, _, _, _, h0, _, _, _, _, h6⟩ := id hV
  unfold p7_stands p_X7_stands p8_stands p_X8_stands
  have hV0 := hV
  rw [hV.1, hV.2.1] at hV0
  rw [hV.1, hV.2.1, eA, eC, ers]
  rcases arg3 p1 (n := 11) (by omega) with q | ⟨p, hp, e⟩
  · refine rg_no (n := 10) q (by omega) ?_ ?_ <;> exact s8_rgno (n := 10) q (by omega) ⟨fun z => absurd rfl z, fun _ => ⟨rfl, nA, nC, R, w, ok, hV0, hM, rfl, rfl, hT, hW, ⟨hRX, rs, rfl, hRM⟩, hN, hE, hH, hK⟩⟩
  subst e
  have p10 : prN R nC w p nA ≤ 10 ^ nC := Nat.le_trans (prN_10 hC (by omega) hA) (Nat.pow_le_pow_right (by decide) (ctN_le _ _))
  refine rg_yes (n := 10) hp (by omega) (s7_findPurrs hF hRX hV0 ok (fun t st pp hpp => ?_))
  have cl : ∀ Post, (∀ f2 s5 f5, RLw (frL (prN R nC w p nA) nC) s5 f5 → Post 0 (t, st, pp, f2, s5, f5)) → p_X7_stands_21 F (nI p) (nI nA) (nI nC) x.f_now_place x.f_now_load x.x_told_size x.f_told_numbers (t, st, pp) Post F 0 1 x.f_ways := by
    intro Post kk
    refine up_loop (fun n i (s : Int64 × (Nat → Int64)) => p_X7_stands_21 F (nI p) (nI nA) (nI nC) x.f_now_place x.f_now_load x.x_told_size x.f_told_numbers (t, st, pp) Post n i s.1 s.2) (fun j s => s.1 = lN (prN R nC w p j)) nA ?_ ?_ F (1, x.f_ways) 0 rfl (by omega) (by omega)
    · rintro n ⟨s, f2⟩ e
      have e : s = _ := e
      subst e
      show p_X7_stands_21 F (nI p) (nI nA) (nI nC) x.f_now_place x.f_now_load x.x_told_size x.f_told_numbers (t, st, pp) Post (n + 1) (nI nA) (lN (prN R nC w p nA)) f2
      rw [p_X7_stands_21_s]
      exact br_t (nI_le (Nat.le_refl _) (by omega)) (s7_tens hF hC (s7_frac hF hC p10 (fun s5 f5 h5 => kk _ _ _ h5)))
    · rintro n a ⟨s, f2⟩ ha e ih
      have e : s = _ := e
      subst e
      show p_X7_stands_21 F (nI p) (nI nA) (nI nC) x.f_now_place x.f_now_load x.x_told_size x.f_told_numbers (t, st, pp) Post (n + 1) (nI a) (lN (prN R nC w p a)) f2
      rw [p_X7_stands_21_s]
      obtain ⟨el, l9⟩ := lNat_e ok (a := a) (by omega)
      refine br_f (nI_ge ha (by omega)) (s7_ways (pu := pN R nC w) hF hC (by omega) (by omega) l9 h0 el h6 (fun i hi => (hpp i hi).trans (pN_e R nC w i).1) (fun i => (pN_e R nC w i).2) (fun f3 => ih (_, f3) ?_))
      show lN _ * lN _ = lN (prN R nC w p (a + 1))
      rw [lN_mul]
      rfl
  refine cl _ (fun f2 s5 f5 h5 => ?_)
  refine s8_rgyes (n := 10) hp (by omega) ⟨fun _ => ?_, fun z => absurd z (by decide)⟩
  have ml : ∀ Post, (∀ u1 u2 u3 u4 u5 u6 u7 s6 f6, RLw (frL (prN R nC w p nA) nC) s6 f6 → Post 0 (s6, 0, u1, u2, u3, u4, u5, u6, u7, f6)) → p_X8_stands_22 F (nI p) (nI nA) (nI nC) am.q_rule (nI rs) m.f_now m.f_rule m.f_row Post F 0 1 m.w_read m.x_length m.x_top m.x_at m.x_wrong m.x_isAsked m.f_asked := by
    intro Post kk
    refine up_loop (fun n i (s : Int64 × Value × Int32 × Int32 × Int32 × Int32 × Int32 × (Nat → Int32)) => p_X8_stands_22 F (nI p) (nI nA) (nI nC) am.q_rule (nI rs) m.f_now m.f_rule m.f_row Post n i s.1 s.2.1 s.2.2.1 s.2.2.2.1 s.2.2.2.2.1 s.2.2.2.2.2.1 s.2.2.2.2.2.2.1 s.2.2.2.2.2.2.2) (fun j s => s.1 = lN (prN R nC w p j)) nA ?_ ?_ F (1, m.w_read, m.x_length, m.x_top, m.x_at, m.x_wrong, m.x_isAsked, m.f_asked) 0 rfl (by omega) (by omega)
    · rintro n ⟨s, u1, u2, u3, u4, u5, u6, u7⟩ e
      have e : s = _ := e
      subst e
      show p_X8_stands_22 F (nI p) (nI nA) (nI nC) am.q_rule (nI rs) m.f_now m.f_rule m.f_row Post (n + 1) (nI nA) (lN (prN R nC w p nA)) u1 u2 u3 u4 u5 u6 u7
      rw [p_X8_stands_22_s]
      exact br_t (nI_le (Nat.le_refl _) (by omega)) (s8_tens hF hC (s8_frac hC p10 (fun s5 f5 h5 => kk _ _ _ _ _ _ _ _ _ h5)))
    · rintro n a ⟨s, u1, u2, u3, u4, u5, u6, u7⟩ ha e ih
      have e : s = _ := e
      subst e
      show p_X8_stands_22 F (nI p) (nI nA) (nI nC) am.q_rule (nI rs) m.f_now m.f_rule m.f_row Post (n + 1) (nI a) (lN (prN R nC w p a)) u1 u2 u3 u4 u5 u6 u7
      rw [p_X8_stands_22_s]
      obtain ⟨el, l9⟩ := lNat_e ok (a := a) (by omega)
      refine br_f (nI_ge ha (by omega)) (s8_parts (pu := pN R nC w) hF hRM hM ok (by omega) (by omega) l9 el (fun i _ => (pN_e R nC w i).1) (fun i => (pN_e R nC w i).2) (fun u => ?_))
      rw [← wyN_M hC]
      refine ih (_, u.1, u.2.1, u.2.2.1, u.2.2.2.1, u.2.2.2.2.1, u.2.2.2.2.2.1, u.2.2.2.2.2.2) ?_
      show lN _ * lN _ = lN (prN R nC w p (a + 1))
      rw [lN_mul]
      rfl
  refine ml _ (fun u1 u2 u3 u4 u5 u6 u7 s6 f6 h6 => ?_)
  exact ⟨rfl, nA, nC, R, w, ok, hV0, hM, rfl, rfl, hT, RWr_of (by show 2 ≤ 8; omega) h5 h6, ⟨hRX, rs, rfl, hRM⟩, hN, hE, hH, hK⟩
end
