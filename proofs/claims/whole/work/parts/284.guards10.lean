/-! ===== guards: the model's table ===== -/
section
variable {F nA nC rs q i S : Nat} {R : (Nat → Int32) → Int32} {w f rule asked g : Nat → Int32} {rd : Value} {ln tp at0 wr ia : Int32}
variable {k43 k49 : Int32 → Value → Int32 → Int32 → Int32 → Int32 → Int32 → (Nat → Int32) → (Nat → Int32) → Prop}
variable {Post : Int32 → (Int32 × Int32 × Value × Int32 × Int32 × Int32 × Int32 × Int32 × (Nat → Int32) × (Nat → Int32) × (Nat → Int64)) → Prop}
theorem s8_g81 (hF : 5000 ≤ F) (hR : RM F R rs rule) (hM : MV w f) (hA : nA ≤ 6) (hC : nC ≤ 8) (hi : i < nA) (hS : S < 2 ^ nC) (hg : ∀ T, T < 2 ^ nC → g (256 * (i + 1) + T) = nI (gdN R nA nC w (nA - (i + 1)) T))
    (kk : ∀ u1 u2 u3 u4 u5 u6 u7, k49 (nI S + 1) u1 u2 u3 u4 u5 u6 (upd g (256 * i + S) (nI (gdN R nA nC w (nA - (i + 1) + 1) S))) u7) :
    p_X8_guards_81 F (nI nC) q (nI rs) f rule (nI i) (nI S) g k43 k49 Post F 0 (nI (h0N w i) + g (256 * (i + 1) + S)) rd ln tp at0 wr ia asked := by
  obtain ⟨pw1, pw2⟩ := pw_nC hC
  have ei : nA - (nA - (i + 1) + 1) = i := by omega
  have gm : ∀ T, gdN R nA nC w (nA - (i + 1)) T ≤ 12 := fun T => by
    have := gdN_le (R := R) (nA := nA) (nC := nC) (w := w) (S := T) (d := nA - (i + 1)) (by omega)
    omega
  have h1m : ∀ c, h1N R w c i ≤ 1 := fun c => by unfold h1N; split <;> omega
  have h0m : h0N w i ≤ 1 := by unfold h0N; split <;> omega
  refine up_loop (fun n j (s : Int32 × Value × Int32 × Int32 × Int32 × Int32 × Int32 × (Nat → Int32)) => p_X8_guards_81 F (nI nC) q (nI rs) f rule (nI i) (nI S) g k43 k49 Post n j s.1 s.2.1 s.2.2.1 s.2.2.2.1 s.2.2.2.2.1 s.2.2.2.2.2.1 s.2.2.2.2.2.2.1 s.2.2.2.2.2.2.2) (fun j s => ∃ v, s.1 = nI v ∧ v ≤ gdN R nA nC w (nA - (i + 1) + 1) S ∧ h0N w i + gdN R nA nC w (nA - (i + 1)) S ≤ v ∧ v ≤ 13 ∧ ∀ c, c < j → S.testBit c = false → h1N R w c i + gdN R nA nC w (nA - (i + 1)) (S ||| 2 ^ c) ≤ v) nC ?_ ?_ F (_, rd, ln, tp, at0, wr, ia, asked) 0 ⟨h0N w i + gdN R nA nC w (nA - (i + 1)) S, ?_, ?_, Nat.le_refl _, ?_, fun c hc => absurd hc (by omega)⟩ (by omega) (by omega)
  · rintro n ⟨y, u1, u2, u3, u4, u5, u6, u7⟩ ⟨v, e, v1, v2, v4, v3⟩
    have e : y = nI v := e
    subst e
    show p_X8_guards_81 F (nI nC) q (nI rs) f rule (nI i) (nI S) g k43 k49 Post (n + 1) (nI nC) (nI v) u1 u2 u3 u4 u5 u6 u7
    rw [p_X8_guards_81_s, gi_ix i (by omega) S (by omega), nI_clamp (n := 256 * i + S) (by omega)]
    have ev : v = gdN R nA nC w (nA - (i + 1) + 1) S := by
      rcases gd_ex (R := R) (nA := nA) (nC := nC) (w := w) (d := nA - (i + 1)) (S := S) with z | ⟨c, c1, c2, c3⟩
      · rw [ei] at z; omega
      · rw [ei] at c3
        have := v3 c c1 c2
        omega
    have := kk u1 u2 u3 u4 u5 u6 u7
    rw [← ev] at this
    exact br_t (nI_le (Nat.le_refl _) (by omega)) ⟨pk_in (256 * i + S) 1792 (by omega), this⟩
  · rintro n c ⟨y, u1, u2, u3, u4, u5, u6, u7⟩ hc ⟨v, e, v1, v2, v4, v3⟩ ih
    have e : y = nI v := e
    subst e
    show p_X8_guards_81 F (nI nC) q (nI rs) f rule (nI i) (nI S) g k43 k49 Post (n + 1) (nI c) (nI v) u1 u2 u3 u4 u5 u6 u7
    have ec : ((((nI i + 1) <<< ((8 : Int32) &&& 31)) ||| nI S) ||| ((1 : Int32) <<< (nI c &&& 31))) = nI (256 * (i + 1) + (S ||| 2 ^ c)) := by
      rw [← nI_succ]
      exact gi_or (by omega) (by omega) (by omega)
    have lt := or_ltC hS hc
    rw [p_X8_guards_81_s, ec, nI_clamp (n := 256 * (i + 1) + (S ||| 2 ^ c)) (by omega)]
    unfold p_X8_guards_130
    refine br_f (nI_ge hc (by omega)) (s8_has (by omega) (by omega) (fun z => ⟨fun _ => ih (nI v, u1, u2, u3, u4, u5, u6, u7) ⟨v, rfl, v1, v2, v4, fun x hx hx2 => ?_⟩, fun y => absurd y (by decide)⟩) (fun z => ⟨fun y => absurd rfl y, fun _ => s8_heldC hF hR hM hC (by omega) hc (fun u => ⟨pk_in (256 * (i + 1) + (S ||| 2 ^ c)) 1792 (by omega), ?_⟩)⟩))
    · by_cases e : x = c
      · subst e; rw [z] at hx2; exact absurd hx2 (by decide)
      · exact v3 x (by omega) hx2
    · have g1 := gm (S ||| 2 ^ c)
      have g2 := h1m c
      have g3 := gd_c (R := R) (nA := nA) (w := w) (d := nA - (i + 1)) (S := S) hc z
      rw [ei] at g3
      rw [h1_e, hg _ lt, nI_add, if_nI (by omega) (by omega)]
      refine ih (_, u.1, u.2.1, u.2.2.1, u.2.2.2.1, u.2.2.2.2.1, u.2.2.2.2.2.1, u.2.2.2.2.2.2) ⟨_, rfl, by split <;> omega, by split <;> omega, by split <;> omega, fun x hx hx2 => ?_⟩
      by_cases e : x = c
      · subst e; split <;> omega
      · have := v3 x (by omega) hx2
        split <;> omega
  · rw [hg S hS, nI_add]
  · have g3 := gd_0 (R := R) (nA := nA) (nC := nC) (w := w) (d := nA - (i + 1)) (S := S)
    rw [ei] at g3
    exact g3
  · have := gm S
    omega
theorem s8_g49 (hF : 5000 ≤ F) (hR : RM F R rs rule) (hM : MV w f) (hA : nA ≤ 6) (hC : nC ≤ 8) (hi : i < nA) (hg : ∀ k, i < k → k ≤ nA → ∀ T, T < 2 ^ nC → g (256 * k + T) = nI (gdN R nA nC w (nA - k) T))
    (kk : ∀ u1 u2 u3 u4 u5 u6 u7 g2, (∀ k, i ≤ k → k ≤ nA → ∀ T, T < 2 ^ nC → g2 (256 * k + T) = nI (gdN R nA nC w (nA - k) T)) → k43 (nI i + -1) u1 u2 u3 u4 u5 u6 g2 u7) :
    p_X8_guards_49 F (nI nC) q (nI rs) f rule (nI i) k43 Post F 0 rd ln tp at0 wr ia g asked := by
  obtain ⟨pw1, pw2⟩ := pw_nC hC
  have al : nI (2 ^ nC) - 1 = nI (2 ^ nC - 1) := pk_sub (b := 1) pw1
  refine up_loop (fun n j (s : Value × Int32 × Int32 × Int32 × Int32 × Int32 × (Nat → Int32) × (Nat → Int32)) => p_X8_guards_49 F (nI nC) q (nI rs) f rule (nI i) k43 Post n j s.1 s.2.1 s.2.2.1 s.2.2.2.1 s.2.2.2.2.1 s.2.2.2.2.2.1 s.2.2.2.2.2.2.1 s.2.2.2.2.2.2.2) (fun j s => (∀ k, i < k → k ≤ nA → ∀ T, T < 2 ^ nC → s.2.2.2.2.2.2.1 (256 * k + T) = nI (gdN R nA nC w (nA - k) T)) ∧ ∀ T, T < j → s.2.2.2.2.2.2.1 (256 * i + T) = nI (gdN R nA nC w (nA - i) T)) (2 ^ nC) ?_ ?_ F (rd, ln, tp, at0, wr, ia, g, asked) 0 ⟨hg, fun T hT => absurd hT (by omega)⟩ (by omega) (by omega)
  · rintro n ⟨u1, u2, u3, u4, u5, u6, g2, u7⟩ ⟨h1, h2⟩
    show p_X8_guards_49 F (nI nC) q (nI rs) f rule (nI i) k43 Post (n + 1) (nI (2 ^ nC)) u1 u2 u3 u4 u5 u6 g2 u7
    rw [p_X8_guards_49_s]
    unfold p_X8_allCats
    rw [sh_nC hC, al]
    refine br_t (nI_lt (by omega) (by omega)) (kk u1 u2 u3 u4 u5 u6 u7 g2 (fun k hk1 hk2 T hT => ?_))
    by_cases e : k = i
    · subst e; exact h2 T hT
    · exact h1 k (by omega) hk2 T hT
  · rintro n T ⟨u1, u2, u3, u4, u5, u6, g2, u7⟩ hT ⟨h1, h2⟩ ih
    have h1 : ∀ k, i < k → k ≤ nA → ∀ T, T < 2 ^ nC → g2 (256 * k + T) = nI (gdN R nA nC w (nA - k) T) := h1
    have h2 : ∀ T2, T2 < T → g2 (256 * i + T2) = nI (gdN R nA nC w (nA - i) T2) := h2
    show p_X8_guards_49 F (nI nC) q (nI rs) f rule (nI i) k43 Post (n + 1) (nI T) u1 u2 u3 u4 u5 u6 g2 u7
    have ec : (((nI i + 1) <<< ((8 : Int32) &&& 31)) ||| nI T) = nI (256 * (i + 1) + T) := by
      rw [← nI_succ]
      exact gi_ix (i + 1) (by omega) T (by omega)
    rw [p_X8_guards_49_s]
    unfold p_X8_allCats
    rw [sh_nC hC, al, ec, nI_clamp (n := 256 * (i + 1) + T) (by omega)]
    refine br_f (nI_nlt (by omega) (by omega)) (s8_heldN hM (by omega) (fun u => ⟨pk_in (256 * (i + 1) + T) 1792 (by omega), ?_⟩))
    rw [h0_e]
    refine s8_g81 hF hR hM hA hC hi hT (fun T2 h => h1 (i + 1) (by omega) (by omega) T2 h) (fun v1 v2 v3 v4 v5 v6 v7 => ih (v1, v2, v3, v4, v5, v6, _, v7) ⟨fun k hk1 hk2 T2 hT2 => ?_, fun T2 hT2 => ?_⟩)
    · show upd g2 (256 * i + T) _ (256 * k + T2) = _
      unfold upd
      rw [if_neg (by omega)]
      exact h1 k hk1 hk2 T2 hT2
    · show upd g2 (256 * i + T) _ (256 * i + T2) = _
      unfold upd
      by_cases e : T2 = T
      · subst e
        rw [if_pos rfl, show nA - (i + 1) + 1 = nA - i from by omega]
      · rw [if_neg (by omega)]
        exact h2 T2 (by omega)
theorem s8_g43 {fr : Nat → Int64} (hF : 5000 ≤ F) (hR : RM F R rs rule) (hM : MV w f) (hA : nA ≤ 6) (hC : nC ≤ 8)
    (kk : ∀ u1 u2 u3 u4 u5 u6 u7 g2, (∀ k, k ≤ nA → ∀ T, T < 2 ^ nC → g2 (256 * k + T) = nI (gdN R nA nC w (nA - k) T)) → p_X8_guards_169 F (nI nA) (nI nC) q (nI rs) f rule g2 Post F 0 0 0 u1 u2 u3 u4 u5 u6 u7 fr) : ∀ (i G : Nat) (g : Nat → Int32) (rd : Value) (ln tp at0 wr ia : Int32) (asked : Nat → Int32), i ≤ nA → i < G → (∀ k, i ≤ k → k ≤ nA → ∀ T, T < 2 ^ nC → g (256 * k + T) = nI (gdN R nA nC w (nA - k) T)) →
    p_X8_guards_43 F (nI nA) (nI nC) q (nI rs) f rule fr Post G (nI i - 1) rd ln tp at0 wr ia g asked
  | 0, G, g, rd, ln, tp, at0, wr, ia, asked, _, hG, hg => by
    obtain ⟨G', rfl⟩ : ∃ G', G = G' + 1 := ⟨G - 1, by omega⟩
    rw [p_X8_guards_43_s]
    exact br_t (by decide) (kk rd ln tp at0 wr ia asked g (fun k hk T hT => hg k (by omega) hk T hT))
  | i + 1, G, g, rd, ln, tp, at0, wr, ia, asked, hi, hG, hg => by
    obtain ⟨G', rfl⟩ : ∃ G', G = G' + 1 := ⟨G - 1, by omega⟩
    rw [nI_pred, p_X8_guards_43_s]
    refine br_f (nI_nlt (a := i) (b := 0) (by omega) (by omega)) (s8_g49 hF hR hM hA hC (by omega) (fun k h1 h2 => hg k (by omega) h2) (fun u1 u2 u3 u4 u5 u6 u7 g2 h2 => ?_))
    rw [show nI i + (-1 : Int32) = nI i - 1 from (Int32.sub_eq_add_neg (nI i) 1).symm]
    exact s8_g43 hF hR hM hA hC kk i G' g2 u1 u2 u3 u4 u5 u6 u7 (by omega) (by omega) h2
end
