/-! ===== guards: the class ===== -/
section
variable {F nA nC : Nat} {R : (Nat → Int32) → Int32} {w al2 : Nat → Int32}
theorem s7_gloop {t r27 r41 : Int32} {st : Nat → Int32} {Post : Int32 → (Int32 × (Nat → Int32) × (Nat → Int32) × Int32 × (Nat → Int64)) → Prop} (hA : nA ≤ 6) (hC : nC ≤ 8) (hF : 5000 ≤ F) (hal : ∀ c, c < nC → al2 c = nI (faN R nA w c)) (kk : ∀ s5 f5, RLw (guS (hlB R w) nA nC nA).2 s5 f5 → Post (r27 + nI nA - r41) (t, al2, st, s5, f5)) : ∀ (n i G : Nat) (s5 : Int32) (f5 : Nat → Int64), n + i = nA → n < G → RLw (guS (hlB R w) nA nC i).2 s5 f5 → p_X7_guards_58 F (nI nA) (nI nC) (al2, t, st) r27 r41 Post G (nI i) (nI (mu (hlB R w) nA nC n (guS (hlB R w) nA nC i).1.testBit)) (nI (guS (hlB R w) nA nC i).1) (nI (XiN nA w i)) s5 f5
  | 0, i, G, s5, f5, h1, hG, h5 => by
    obtain ⟨G', rfl⟩ : ∃ G', G = G' + 1 := ⟨G - 1, by omega⟩
    have e : i = nA := by omega
    subst e
    rw [p_X7_guards_58_s]
    exact br_t (nI_le (Nat.le_refl _) (by omega)) (kk s5 f5 h5)
  | n + 1, i, G, s5, f5, h1, hG, h5 => by
    obtain ⟨G', rfl⟩ : ∃ G', G = G' + 1 := ⟨G - 1, by omega⟩
    have hg := guS_lt (al := hlB R w) (nA := nA) (nC := nC) i
    have hl := guS_len (al := hlB R w) (nA := nA) (nC := nC) i
    have ih := s7_gloop hA hC hF hal kk n (i + 1) G'
    have en : n = nA - (i + 1) := by omega
    rw [guS] at ih
    rw [nI_succ i] at ih
    subst en
    exact s7_gstep (R := R) (w := w) hF hA hC (by omega) hg hal h5 (by omega) (fun s6 f6 h6 => ih s6 f6 (by omega) (by omega) h6)
end
