/-! ===== guards: the model's choice, and the call ===== -/
section
variable {F nA nC rs q i S : Nat} {R : (Nat → Int32) → Int32} {w f rule g : Nat → Int32}
variable {k169 : Int32 → Int32 → Int32 → Value → Int32 → Int32 → Int32 → Int32 → Int32 → (Nat → Int32) → (Nat → Int64) → Prop}
variable {Post : Int32 → (Int32 × Int32 × Value × Int32 × Int32 × Int32 × Int32 × Int32 × (Nat → Int32) × (Nat → Int32) × (Nat → Int64)) → Prop}
theorem s8_g219 {c0 : Nat} {l : List Int64} {s5 : Int32} {f5 : Nat → Int64} {rd : Value} {ln tp at0 wr ia : Int32} {asked : Nat → Int32} (hF : 5000 ≤ F) (hR : RM F R rs rule) (hM : MV w f) (hA : nA ≤ 6) (hC : nC ≤ 8) (hi : i < nA) (hS : S < 2 ^ nC) (hg : ∀ k, k ≤ nA → ∀ T, T < 2 ^ nC → g (256 * k + T) = nI (gdN R nA nC w (nA - k) T))
    (ne : ¬ mu (hlB R w) nA nC (nA - (i + 1)) (frB nC S) = mu (hlB R w) nA nC (nA - (i + 1) + 1) (frB nC S)) (hc0 : c0 < nC) (g0 : glB (hlB R w) nA nC (nA - (i + 1)) (frB nC S) c0 = true) (gl : ∀ x, x < c0 → glB (hlB R w) nA nC (nA - (i + 1)) (frB nC S) x = false) (h5 : RLw l s5 f5) (hl : l.length < 8)
    (kk : ∀ s6 f6 u1 u2 u3 u4 u5 u6 u7, RLw (l ++ [(nI c0).toInt64]) s6 f6 → k169 (nI i + 1) (nI (S ||| 2 ^ c0)) s6 u1 u2 u3 u4 u5 u6 u7 f6) :
    p_X8_guards_219 F (nI nC) q (nI rs) f rule (nI i) (nI S) s5 f5 g k169 Post F 0 rd ln tp at0 wr ia asked := by
  obtain ⟨pw1, pw2⟩ := pw_nC hC
  have ei : nA - (nA - (i + 1) + 1) = i := by omega
  have ei2 : nA - (i + 1) + 1 = nA - i := by omega
  have gm : ∀ d T, d ≤ nA → gdN R nA nC w d T ≤ 12 := fun d T hd => by
    have := gdN_le (R := R) (nA := nA) (nC := nC) (w := w) (S := T) hd
    omega
  have h1m : ∀ c, h1N R w c i ≤ 1 := fun c => by unfold h1N; split <;> omega
  have ix0 : ((nI i <<< ((8 : Int32) &&& 31)) ||| nI S) = nI (256 * i + S) := gi_ix i (by omega) S (by omega)
  have ixc : ∀ c, c < nC → ((((nI i + 1) <<< ((8 : Int32) &&& 31)) ||| nI S) ||| ((1 : Int32) <<< (nI c &&& 31))) = nI (256 * (i + 1) + (S ||| 2 ^ c)) := by
    intro c hc
    rw [← nI_succ]
    exact gi_or (by omega) (by omega) (by omega)
  have tst : ∀ c, c < nC → S.testBit c = false → (nI (h1N R w c i) + g (256 * (i + 1) + (S ||| 2 ^ c)) = g (256 * i + S) ↔ glB (hlB R w) nA nC (nA - (i + 1)) (frB nC S) c = true) := by
    intro c hc hb
    have a1 := gm (nA - (i + 1)) (S ||| 2 ^ c) (by omega)
    have a2 := gm (nA - (i + 1) + 1) S (by omega)
    have a3 := h1m c
    have := gd_gl hc ne
    rw [ei] at this
    rw [hg (i + 1) (by omega) _ (or_ltC hS hc), hg i (by omega) S hS, nI_add, ← ei2, nI_eq (by omega) (by omega), ← this]
    exact ⟨fun z => ⟨hb, z⟩, fun z => z.2⟩
  refine up_loop (fun n j (s : Value × Int32 × Int32 × Int32 × Int32 × Int32 × (Nat → Int32)) => p_X8_guards_219 F (nI nC) q (nI rs) f rule (nI i) (nI S) s5 f5 g k169 Post n j s.1 s.2.1 s.2.2.1 s.2.2.2.1 s.2.2.2.2.1 s.2.2.2.2.2.1 s.2.2.2.2.2.2) (fun _ _ => True) c0 ?_ ?_ F (rd, ln, tp, at0, wr, ia, asked) 0 trivial (by omega) (by omega)
  · rintro n ⟨u1, u2, u3, u4, u5, u6, u7⟩ _
    show p_X8_guards_219 F (nI nC) q (nI rs) f rule (nI i) (nI S) s5 f5 g k169 Post (n + 1) (nI c0) u1 u2 u3 u4 u5 u6 u7
    have lt := or_ltC hS hc0
    rw [p_X8_guards_219_s, ixc c0 hc0, ix0, nI_clamp (n := 256 * (i + 1) + (S ||| 2 ^ c0)) (by omega), nI_clamp (n := 256 * i + S) (by omega)]
    have hb := ((gd_gl (R := R) (nA := nA) (w := w) hc0 ne).2 g0).1
    refine s8_has (by omega) (by omega) (fun z => absurd z (by rw [hb]; decide)) (fun z => ⟨fun y => absurd rfl y, fun _ => s8_heldC hF hR hM hC (by omega) hc0 (fun u => ⟨pk_in (256 * (i + 1) + (S ||| 2 ^ c0)) 1792 (by omega), ?_⟩)⟩)
    rw [h1_e]
    refine ⟨fun _ => ?_, fun y => absurd ((tst c0 hc0 hb).2 g0) y⟩
    unfold p_X8_guards_271
    rw [fz_sh1 (show c0 < 31 by omega), fz_or]
    exact s8_tell h5 (by omega) (fun s6 f6 h6 => kk s6 f6 _ _ _ _ _ _ _ h6)
  · rintro n c ⟨u1, u2, u3, u4, u5, u6, u7⟩ hc _ ih
    show p_X8_guards_219 F (nI nC) q (nI rs) f rule (nI i) (nI S) s5 f5 g k169 Post (n + 1) (nI c) u1 u2 u3 u4 u5 u6 u7
    have lt := or_ltC hS (show c < nC by omega)
    rw [p_X8_guards_219_s, ixc c (by omega), ix0, nI_clamp (n := 256 * (i + 1) + (S ||| 2 ^ c)) (by omega), nI_clamp (n := 256 * i + S) (by omega)]
    unfold p_X8_guards_258
    refine s8_has (by omega) (by omega) (fun z => ⟨fun _ => ih (u1, u2, u3, u4, u5, u6, u7) trivial, fun y => absurd y (by decide)⟩) (fun z => ⟨fun y => absurd rfl y, fun _ => s8_heldC hF hR hM hC (by omega) (by omega) (fun u => ⟨pk_in (256 * (i + 1) + (S ||| 2 ^ c)) 1792 (by omega), ?_⟩)⟩)
    rw [h1_e]
    refine ⟨fun y => ?_, fun _ => ih (u.1, u.2.1, u.2.2.1, u.2.2.2.1, u.2.2.2.2.1, u.2.2.2.2.2.1, u.2.2.2.2.2.2) trivial⟩
    have := (tst c (by omega) z).1 y
    rw [gl c hc] at this
    exact absurd this (by decide)
theorem s8_gstep {Ab n : Nat} {l : List Int64} {s5 : Int32} {f5 : Nat → Int64} {rd : Value} {ln tp at0 wr ia : Int32} {asked : Nat → Int32} (hF : 5000 ≤ F) (hR : RM F R rs rule) (hM : MV w f) (hA : nA ≤ 6) (hC : nC ≤ 8) (hi : i < nA) (hS : S < 2 ^ nC) (hAb : Ab < 2 ^ nC) (hfr : Ab.testBit = frB nC S) (hg : ∀ k, k ≤ nA → ∀ T, T < 2 ^ nC → g (256 * k + T) = nI (gdN R nA nC w (nA - k) T)) (h5 : RLw l s5 f5) (hl : l.length < 8)
    (kk : ∀ S2 s6 f6 u1 u2 u3 u4 u5 u6 u7, S2 < 2 ^ nC → (guA (hlB R w) nA nC i Ab).testBit = frB nC S2 → RLw (l ++ [(guC (hlB R w) nA nC i Ab).toInt64]) s6 f6 → p_X8_guards_169 F (nI nA) (nI nC) q (nI rs) f rule g Post n (nI i + 1) (nI S2) s6 u1 u2 u3 u4 u5 u6 u7 f6) :
    p_X8_guards_169 F (nI nA) (nI nC) q (nI rs) f rule g Post (n + 1) (nI i) (nI S) s5 rd ln tp at0 wr ia asked f5 := by
  obtain ⟨pw1, pw2⟩ := pw_nC hC
  have ei : nA - (nA - (i + 1) + 1) = i := by omega
  have ei2 : nA - (i + 1) + 1 = nA - i := by omega
  have ix0 : ((nI i <<< ((8 : Int32) &&& 31)) ||| nI S) = nI (256 * i + S) := gi_ix i (by omega) S (by omega)
  have ix1 : (((nI i + 1) <<< ((8 : Int32) &&& 31)) ||| nI S) = nI (256 * (i + 1) + S) := by
    rw [← nI_succ]
    exact gi_ix (i + 1) (by omega) S (by omega)
  have a1 := gdN_le (R := R) (nA := nA) (nC := nC) (w := w) (S := S) (d := nA - (i + 1)) (by omega)
  have a2 := gdN_le (R := R) (nA := nA) (nC := nC) (w := w) (S := S) (d := nA - (i + 1) + 1) (by omega)
  have a3 : h0N w i ≤ 1 := by unfold h0N; split <;> omega
  have ge := gd_eq0 (R := R) (nA := nA) (nC := nC) (w := w) (S := S) (d := nA - (i + 1))
  rw [ei] at ge
  rw [p_X8_guards_169_s, ix0, ix1, nI_clamp (n := 256 * (i + 1) + S) (by omega), nI_clamp (n := 256 * i + S) (by omega)]
  refine br_f (nI_ge hi (by omega)) ⟨pk_in (256 * i + S) 1792 (by omega), s8_heldN hM (by omega) (fun u => ⟨pk_in (256 * (i + 1) + S) 1792 (by omega), ?_⟩)⟩
  rw [h0_e, hg (i + 1) (by omega) S hS, hg i (by omega) S hS, nI_add, ← ei2, nI_eq (by omega) (by omega), ge]
  unfold guA guC at kk
  rw [hfr] at kk
  refine ⟨fun z => ?_, fun z => ?_⟩
  · rw [if_pos z, if_pos z] at kk
    unfold p_X8_guards_271
    exact s8_tell h5 (by omega) (fun s6 f6 h6 => kk S s6 f6 _ _ _ _ _ _ _ hS hfr h6)
  · rw [if_neg z, if_neg z] at kk
    obtain ⟨c0, hc0, g0, gl⟩ := least nC (gl_ex z)
    have lc := lcN_e g0 gl nC 0 (by omega) (by omega)
    rw [lc] at kk
    exact s8_g219 hF hR hM hA hC hi hS hg z hc0 g0 gl h5 hl (fun s6 f6 u1 u2 u3 u4 u5 u6 u7 h6 => kk _ s6 f6 _ _ _ _ _ _ _ (or_ltC hS hc0) (by rw [rmN_b hAb hC (by omega), hfr, fr_or]) h6)
theorem s8_gloop (hF : 5000 ≤ F) (hR : RM F R rs rule) (hM : MV w f) (hA : nA ≤ 6) (hC : nC ≤ 8) (hg : ∀ k, k ≤ nA → ∀ T, T < 2 ^ nC → g (256 * k + T) = nI (gdN R nA nC w (nA - k) T))
    (kk : ∀ s6 f6 u1 u2 u3 u4 u5 u6 u7, RLw (guS (hlB R w) nA nC nA).2 s6 f6 → Post (nI (gdN R nA nC w nA 0)) (s6, 0, u1, u2, u3, u4, u5, u6, g, u7, f6)) : ∀ (n i G S : Nat) (s5 : Int32) (f5 : Nat → Int64) (rd : Value) (ln tp at0 wr ia : Int32) (asked : Nat → Int32), n + i = nA → n < G → S < 2 ^ nC → (guS (hlB R w) nA nC i).1.testBit = frB nC S → RLw (guS (hlB R w) nA nC i).2 s5 f5 →
    p_X8_guards_169 F (nI nA) (nI nC) q (nI rs) f rule g Post G (nI i) (nI S) s5 rd ln tp at0 wr ia asked f5
  | 0, i, G, S, s5, f5, rd, ln, tp, at0, wr, ia, asked, h1, hG, hS, hfr, h5 => by
    obtain ⟨G', rfl⟩ : ∃ G', G = G' + 1 := ⟨G - 1, by omega⟩
    have e : i = nA := by omega
    subst e
    rw [p_X8_guards_169_s]
    have e0 : g ((0 : Int32).toNatClampNeg) = nI (gdN R i nC w i 0) := hg 0 (by omega) 0 (Nat.two_pow_pos _)
    rw [e0]
    exact br_t (nI_le (Nat.le_refl _) (by omega)) ⟨pk_in 0 1792 (by omega), kk s5 f5 _ _ _ _ _ _ _ h5⟩
  | n + 1, i, G, S, s5, f5, rd, ln, tp, at0, wr, ia, asked, h1, hG, hS, hfr, h5 => by
    obtain ⟨G', rfl⟩ : ∃ G', G = G' + 1 := ⟨G - 1, by omega⟩
    have hl := guS_len (al := hlB R w) (nA := nA) (nC := nC) i
    refine s8_gstep hF hR hM hA hC (by omega) hS (guS_lt i) hfr hg h5 (by omega) (fun S2 s6 f6 u1 u2 u3 u4 u5 u6 u7 h2 h3 h6 => ?_)
    rw [← nI_succ]
    exact s8_gloop hF hR hM hA hC hg kk n (i + 1) G' S2 s6 f6 u1 u2 u3 u4 u5 u6 u7 (by omega) (by omega) h2 h3 h6
theorem t8_guards {g0 asked : Nat → Int32} {fr : Nat → Int64} {rd : Value} {ln tp at0 wr ia : Int32} (hF : 5000 ≤ F) (hR : RM F R rs rule) (hM : MV w f) (hA : nA ≤ 6) (hC : nC ≤ 8)
    (kk : ∀ s6 f6 u1 u2 u3 u4 u5 u6 g2 u7, RLw (guS (hlB R w) nA nC nA).2 s6 f6 → Post (nI (gdN R nA nC w nA 0)) (s6, 0, u1, u2, u3, u4, u5, u6, g2, u7, f6)) : p_X8_guards F (nI nA) (nI nC) rd ln tp at0 wr q (nI rs) ia g0 f asked rule fr Post := by
  obtain ⟨pw1, pw2⟩ := pw_nC hC
  have al : nI (2 ^ nC) - 1 = nI (2 ^ nC - 1) := pk_sub (b := 1) pw1
  unfold p_X8_guards
  refine up_loop (fun n j (s : Nat → Int32) => p_X8_guards_7 F (nI nA) (nI nC) rd ln tp at0 wr q (nI rs) ia f asked rule fr Post n j s) (fun j s => ∀ T, T < j → s (256 * nA + T) = 0) (2 ^ nC) ?_ ?_ F g0 0 (fun T hT => absurd hT (by omega)) (by omega) (by omega)
  · intro n g hz
    show p_X8_guards_7 F (nI nA) (nI nC) rd ln tp at0 wr q (nI rs) ia f asked rule fr Post (n + 1) (nI (2 ^ nC)) g
    rw [p_X8_guards_7_s]
    unfold p_X8_allCats
    rw [sh_nC hC, al]
    refine br_t (nI_lt (by omega) (by omega)) (s8_g43 hF hR hM hA hC (fun u1 u2 u3 u4 u5 u6 u7 g2 h2 => ?_) nA F g rd ln tp at0 wr ia asked (Nat.le_refl _) (by omega) (fun k h1 h2 T hT => ?_))
    · refine s8_gloop hF hR hM hA hC h2 (fun s6 f6 u1 u2 u3 u4 u5 u6 u7 h6 => kk s6 f6 _ _ _ _ _ _ _ _ h6) nA 0 F 0 0 fr u1 u2 u3 u4 u5 u6 u7 (by omega) (by omega) pw1 ?_ (RL_nil _)
      funext x
      show (2 ^ nC - 1).testBit x = _
      unfold frB
      rw [Nat.testBit_two_pow_sub_one, Nat.zero_testBit]
      simp
    · have e : k = nA := by omega
      subst e
      rw [hz T hT, Nat.sub_self]
      rfl
  · intro n T g hT hz ih
    show p_X8_guards_7 F (nI nA) (nI nC) rd ln tp at0 wr q (nI rs) ia f asked rule fr Post (n + 1) (nI T) g
    rw [p_X8_guards_7_s]
    unfold p_X8_allCats
    rw [sh_nC hC, al, gi_ix nA (by omega) T (by omega), nI_clamp (n := 256 * nA + T) (by omega)]
    refine br_f (nI_nlt (by omega) (by omega)) ⟨pk_in (256 * nA + T) 1792 (by omega), ih _ (fun T2 hT2 => ?_)⟩
    show upd g (256 * nA + T) 0 (256 * nA + T2) = 0
    unfold upd
    by_cases e : T2 = T
    · subst e; rw [if_pos rfl]
    · rw [if_neg (by omega)]
      exact hz T2 (by omega)
end
section
variable {F : Nat} {x : XS} {m : MS} {am : MA}
theorem ob_guards (hF : 5000 ≤ F) (h : Rel F x m) : p7_guards F x (fun r x' => p8_guards F am m (fun r' m' => r = r' ∧ Rel F x' m')) := by
  obtain ⟨nA, nC, R, w, ok, hV, hM, eA, eC, hT, hW, hU, hN, hE, hH, hK⟩ := h
  have hA := ok.1
  have hC := ok.2.1
  obtain ⟨hRX, rs, ers, hRM⟩ := id hU
  unfold p7_guards
  refine t7_guards hF hRX hV ok (fun t al2 st s5 f5 h5 => ?_)
  unfold p8_guards
  rw [eA, eC, ers]
  refine t8_guards hF hRM hM hA hC (fun s6 f6 u1 u2 u3 u4 u5 u6 g2 u7 h6 => ⟨?_, nA, nC, R, w, ok, hV, hM, rfl, rfl, hT, RWr_of (by rw [guS_len]; omega) h5 h6, ⟨hRX, rs, rfl, hRM⟩, hN, hE, hH, hK⟩)
  have e : (guS (hlB R w) nA nC 0).1.testBit = frB nC 0 := by
    funext x
    show (2 ^ nC - 1).testBit x = _
    unfold frB
    rw [Nat.testBit_two_pow_sub_one, Nat.zero_testBit]
    simp
  have u := unD_ct (nA := nA) (w := w) nA (Nat.le_refl _)
  rw [Nat.sub_self] at u
  have c0 : ctN (fun a => ! decide (w a ≤ 0)) 0 = 0 := rfl
  rw [c0] at u
  unfold gdN
  rw [e, nI_add, pk_sub (by omega)]
  congr 1
  omega
end
