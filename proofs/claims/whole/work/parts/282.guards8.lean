/-! ===== guards: the model's isHeld ===== -/
theorem bc_pow : ∀ c, c < 8 → bcnt (nI (2 ^ c)) - 1 = 0 := by decide +kernel
theorem hB_1 {R : (Nat → Int32) → Int32} {w : Nat → Int32} {a c : Nat} (hc : c < 8) : ∀ n, hB R w a (2 ^ c) n = if c < n then pI R w c a 0 else 0
  | 0 => rfl
  | n + 1 => by
    rw [hB, hB_1 hc n, Nat.testBit_two_pow, bc_pow c hc]
    by_cases e : c = n
    · subst e
      rw [if_neg (by omega), decide_eq_true rfl, if_pos rfl, if_pos (by omega)]
      exact Int32.zero_add _
    · rw [decide_eq_false e, if_neg (show ¬ (false = true) by decide)]
      by_cases h : c < n
      · rw [if_pos h, if_pos (by omega)]; exact Int32.add_zero _
      · rw [if_neg h, if_neg (by omega)]; rfl
section
variable {F nA nC rs q : Nat} {R : (Nat → Int32) → Int32} {w f rule asked : Nat → Int32} {rd : Value} {ln tp at0 wr ia : Int32}
theorem s8_heldN {a : Nat} {Post : Int32 → (Value × Int32 × Int32 × Int32 × Int32 × Int32 × (Nat → Int32)) → Prop} (hM : MV w f) (ha : a < 6) (k : ∀ u, Post (if 0 < w a then 0 else 1) u) : p_X8_isHeld F (nI a) (-1) (nI nC) rd ln tp at0 wr q (nI rs) ia f asked rule Post := by
  unfold p_X8_isHeld p_X8_isHeld_17
  refine ⟨fun z => absurd rfl z, fun _ => ⟨pk_in a 47 (by omega), ?_⟩⟩
  rw [nI_clamp (n := a) (by omega), hM a (by omega)]
  refine ⟨fun z => ?_, fun z => ?_⟩
  · have := k (rd, ln, tp, at0, wr, ia, asked)
    rw [if_pos z] at this
    exact this
  · have := k (rd, ln, tp, at0, wr, ia, asked)
    rw [if_neg z] at this
    exact this
theorem s8_heldC {a c : Nat} {Post : Int32 → (Value × Int32 × Int32 × Int32 × Int32 × Int32 × (Nat → Int32)) → Prop} (hF : 5000 ≤ F) (hR : RM F R rs rule) (hM : MV w f) (hC : nC ≤ 8) (ha : a < 6) (hc : c < nC) (k : ∀ u, Post (if pI R w c a 0 < w a then 0 else 1) u) : p_X8_isHeld F (nI a) (nI c) (nI nC) rd ln tp at0 wr q (nI rs) ia f asked rule Post := by
  have h3 : 2 ^ c ≤ 2 ^ 7 := Nat.pow_le_pow_right (by decide) (by omega)
  unfold p_X8_isHeld p_X8_isHeld_17
  rw [fz_sh1 (show c < 31 by omega), nI_clamp (n := a) (by omega), hM a (by omega)]
  refine ⟨fun _ => s8_holdBy hF hR hM hC ha (by omega) (fun u => ⟨pk_in a 47 (by omega), ?_⟩), fun z => absurd z (m1_ne (by omega))⟩
  rw [hB_1 (by omega), if_pos hc]
  have := k (u.1, u.2.1, u.2.2.1, u.2.2.2.1, u.2.2.2.2.1, u.2.2.2.2.2.1, u.2.2.2.2.2.2)
  refine ⟨fun z => ?_, fun z => ?_⟩
  · rw [if_pos z] at this
    exact this
  · rw [if_neg z] at this
    exact this
end
