/-! ===== guards: the class, one arch ===== -/
theorem mu_le {al : Nat → Nat → Bool} {nA nC d : Nat} (A : Nat → Bool) (hd : d ≤ nA) : mu al nA nC d A ≤ nA := by
  obtain ⟨T, _, _, t3⟩ := mu_lb (al := al) (nC := nC) A hd
  rw [← t3]
  exact ctN_le _ _
section
variable {F nA nC : Nat} {R : (Nat → Int32) → Int32} {w al2 : Nat → Int32}
theorem s7_gstep {i Ab n : Nat} {t r27 r41 s5 : Int32} {st : Nat → Int32} {f5 : Nat → Int64} {l : List Int64} {Post : Int32 → (Int32 × (Nat → Int32) × (Nat → Int32) × Int32 × (Nat → Int64)) → Prop} (hF : 5000 ≤ F) (hA : nA ≤ 6) (hC : nC ≤ 8) (hi : i < nA) (hg : Ab < 2 ^ nC) (hal : ∀ c, c < nC → al2 c = nI (faN R nA w c)) (h5 : RLw l s5 f5) (hl : l.length < 8) (ih : ∀ s6 f6, RLw (l ++ [(guC (hlB R w) nA nC i Ab).toInt64]) s6 f6 → p_X7_guards_58 F (nI nA) (nI nC) (al2, t, st) r27 r41 Post n (nI i + 1) (nI (mu (hlB R w) nA nC (nA - (i + 1)) (guA (hlB R w) nA nC i Ab).testBit)) (nI (guA (hlB R w) nA nC i Ab)) (nI (XiN nA w (i + 1))) s6 f6) : p_X7_guards_58 F (nI nA) (nI nC) (al2, t, st) r27 r41 Post (n + 1) (nI i) (nI (mu (hlB R w) nA nC (nA - (i + 1) + 1) Ab.testBit)) (nI Ab) (nI (XiN nA w i)) s5 f5 := by
  have hx : XiN nA w i < 2 ^ nA := bN_lt _ _
  have m6 := mu_le (al := hlB R w) (nA := nA) (nC := nC) (d := nA - (i + 1) + 1) Ab.testBit (by omega)
  rw [p_X7_guards_58_s, rmN_e hx (by omega) (by omega), XiN_s hA hi]
  refine br_f (nI_ge hi (by omega)) (s7_least (R := R) (w := w) hF hA hC hi hg hal rfl (by omega) (fun em => ?_) (fun c hc em g0 gl => ?_))
  · unfold guC guA at ih
    rw [if_pos em, if_pos em, em] at ih
    unfold p_X7_guards_108
    rw [rmN_e hx (by omega) (by omega), XiN_s hA hi]
    exact br_t rfl (s3_add h5 hl (fun s6 f6 h6 => ih s6 f6 h6))
  · have lc := lcN_e g0 gl nC 0 (by omega) (by omega)
    unfold guC guA at ih
    rw [if_neg em, if_neg em, lc, rmN_b hg hC (by omega)] at ih
    unfold glB at g0
    rw [Bool.and_eq_true] at g0
    have eM := of_decide_eq_true g0.2
    unfold p_X7_guards_108
    rw [rmN_e hx (by omega) (by omega), XiN_s hA hi, rmN_e hg hC (by omega), ← eM, Nat.add_comm 1, m1_up]
    exact br_f (m1_ne (by omega)) (s3_add h5 hl (fun s6 f6 h6 => ih s6 f6 h6))
end
