/-! ===== call: night, the model's text ===== -/
def acA (b : Nat → Nat) (acts : Nat → Int32) (k : Nat) : Prop := acts (3 * k) = nI (b (pA b k)) ∧ acts (3 * k + 1) = nI (b (pA b k + 1) - 48) ∧ (dA (b (pA b k)) = 2 → acts (3 * k + 2) = nI (b (pA b k + 2) - 48))
section
variable {F t : Nat} {b : Nat → Nat} {f acts : Nat → Int32} {Post : (Int32 × Int32 × (Nat → Int32)) → Prop}
/-- an act is read from p: the place behind, the fault, and three numbers at i -/
theorem s8_readAct {p i : Nat} (hT : TXm t b f) (hp : p < t) (hp6 : p ≤ 60) (hi : i + 2 < 240)
    (bad : ∀ P at0 g, ((¬ (p < 60 ∧ ¬ dA (b p) = 0) ∧ P = p) ∨ ((p < 60 ∧ ¬ dA (b p) = 0) ∧ ¬ (p + 1 < t ∧ p + 1 < 60 ∧ 48 ≤ b (p + 1) ∧ b (p + 1) ≤ 57) ∧ P = p + 1) ∨ ((p < 60 ∧ ¬ dA (b p) = 0) ∧ (p + 1 < t ∧ p + 1 < 60 ∧ 48 ≤ b (p + 1) ∧ b (p + 1) ≤ 57) ∧ ¬ dA (b p) = 1 ∧ ¬ (p + 2 < t ∧ p + 2 < 60 ∧ lo2 (b p) ≤ b (p + 2) ∧ b (p + 2) ≤ 57) ∧ P = p + 2)) → P < 100 → Post (at0, nI P, g))
    (good : ∀ g, (p < 60 ∧ ¬ dA (b p) = 0) → (p + 1 < t ∧ p + 1 < 60 ∧ 48 ≤ b (p + 1) ∧ b (p + 1) ≤ 57) → (¬ dA (b p) = 1 → (p + 2 < t ∧ p + 2 < 60 ∧ lo2 (b p) ≤ b (p + 2) ∧ b (p + 2) ≤ 57)) → g i = nI (b p) → g (i + 1) = nI (b (p + 1) - 48) → (dA (b p) = 2 → g (i + 2) = nI (b (p + 2) - 48)) → (∀ j, j < i → g j = acts j) → Post (nI (p + (1 + dA (b p))), -1, g)) : p_X8_readAct F (nI i) (nI t) (nI 60) (nI p) (-1) 80 f acts Post := by
  have h80 := hT.1
  have hb := (hT.2 p hp).1
  unfold p_X8_readAct
  by_cases q6 : p = 60
  · refine s8_hereN (by omega) (by omega) (by omega) (by omega) ?_
    exact br_f (by decide) (br_f (by decide) (br_f (by decide) (br_f (by decide) (br_f (by decide) (br_f (by decide) (s8_fault (bad p _ _ (Or.inl ⟨by omega, rfl⟩) (by omega))))))))
  refine s8_here hT hp (by omega) (by omega) (by omega) (by omega) ?_
  have e : ∀ n, n < 256 → ((nI (b p) = nI n) ↔ b p = n) := fun n hn => nI_eq (by omega) (by omega)
  have i0 : vp_in (nI i) 240 := pk_in i 240 (by omega)
  have i1 : vp_in (nI (i + 1)) 240 := pk_in (i + 1) 240 (by omega)
  have i2 : vp_in (nI (i + 2)) 240 := pk_in (i + 2) 240 (by omega)
  have k50 : ¬ dA (b p) = 0 → p_X8_readAct_50 F (nI i) (nI t) (nI 60) (nI p) (-1) 80 f acts (nI (b p)) Post := by
    intro d0
    unfold p_X8_readAct_50 p_X8_readAct_95 p_X8_readAct_113 p_X8_readAct_125
    rw [show nI p + 1 = nI (p + 1) from (nI_succ _).symm, show nI i + (1 : Int32) = nI (i + 1) from nI_add _ 1, show nI i + (2 : Int32) = nI (i + 2) from nI_add _ 2, nI_clamp (n := i) (by omega), nI_clamp (n := i + 1) (by omega), nI_clamp (n := i + 2) (by omega)]
    refine ⟨i0, ?_⟩
    have d12 := dA_12 (b p)
    have w1 : ∀ P, P < 100 → ¬ nI P = -1 := fun P hP => m1_ne (by omega)
    by_cases q1 : p + 1 < t ∧ p + 1 < 60 ∧ 48 ≤ b (p + 1) ∧ b (p + 1) ≤ 57
    · refine s8_oneOf (fst := 48) (many := 10) (top := 60) hT q1.1 q1.2.1 (by omega) (by omega) (by omega) q1.2.2.1 (by omega) (by omega) ⟨i1, ?_⟩
      have one : ∀ v g, g = upd (upd acts i (nI (b p))) (i + 1) (nI (b (p + 1) - 48)) → v = g → dA (b p) = 1 → Post (nI (p + 1 + 1), -1, v) := by
        intro v g eg ev d1
        have := good v ⟨by omega, d0⟩ q1 (fun z => absurd d1 z) (by rw [ev, eg]; unfold upd; rw [if_neg (by omega), if_pos rfl]) (by rw [ev, eg]; unfold upd; rw [if_pos rfl]) (fun z => absurd z (by omega)) (fun j hj => by rw [ev, eg]; unfold upd; rw [if_neg (by omega), if_neg (by omega)])
        rw [d1] at this
        exact this
      have two : ∀ v, ¬ dA (b p) = 1 → (p + 2 < t ∧ p + 2 < 60 ∧ lo2 (b p) ≤ b (p + 2) ∧ b (p + 2) ≤ 57) → v = nI (b (p + 2) - 48) → Post (nI (p + 1 + 1 + 1), -1, upd (upd (upd acts i (nI (b p))) (i + 1) (nI (b (p + 1) - 48))) (i + 2) v) := by
        intro v d1 q2 ev
        have d2 : dA (b p) = 2 := by omega
        have := good (upd (upd (upd acts i (nI (b p))) (i + 1) (nI (b (p + 1) - 48))) (i + 2) v) ⟨by omega, d0⟩ q1 (fun _ => q2) (by unfold upd; rw [if_neg (by omega), if_neg (by omega), if_pos rfl]) (by unfold upd; rw [if_neg (by omega), if_pos rfl]) (fun _ => by unfold upd; rw [if_pos rfl]; exact ev) (fun j hj => by unfold upd; rw [if_neg (by omega), if_neg (by omega), if_neg (by omega)])
        rw [d2] at this
        exact this
      have b2 : ∀ at0 g, ¬ dA (b p) = 1 → ¬ (p + 2 < t ∧ p + 2 < 60 ∧ lo2 (b p) ≤ b (p + 2) ∧ b (p + 2) ≤ 57) → Post (at0, nI (p + 2), g) := fun at0 g d1 q2 => bad _ _ _ (Or.inr (Or.inr ⟨⟨by omega, d0⟩, q1, d1, q2, rfl⟩)) (by omega)
      have n9 : (b p = 102 ∨ b p = 103) → lo2 (b p) = 49 ∧ ¬ dA (b p) = 1 ∧ ¬ nI (b p) = 115 ∧ ¬ nI (b p) = 108 := by
        intro cc
        refine ⟨?_, ?_, fun z => by have := (e 115 (by omega)).1 z; omega, fun z => by have := (e 108 (by omega)).1 z; omega⟩
        · unfold lo2
          rcases cc with h | h
          · rw [if_pos h]
          · rw [if_neg (by omega), if_pos h]
        · rcases cc with h | h <;> rw [h] <;> decide
      have f95 : (b p = 102 ∨ b p = 103) → ∀ Q : Int32 → (Int32 × Int32) → Prop, ((p + 2 < t ∧ p + 2 < 60 ∧ lo2 (b p) ≤ b (p + 2) ∧ b (p + 2) ≤ 57) → Q (nI (b (p + 2) - 49)) (nI (p + 1 + 1 + 1), -1)) → (¬ (p + 2 < t ∧ p + 2 < 60 ∧ lo2 (b p) ≤ b (p + 2) ∧ b (p + 2) ≤ 57) → Q 0 (nI (p + 2), nI (p + 2))) → p_X8_oneOf F 49 9 (nI t) (nI 60) (nI (p + 1 + 1)) (-1) 80 f Q := by
        intro cc Q kg kb
        have l2 := (n9 cc).1
        by_cases q2 : p + 2 < t ∧ p + 2 < 60 ∧ lo2 (b p) ≤ b (p + 2) ∧ b (p + 2) ≤ 57
        · exact s8_oneOf (fst := 49) (many := 9) (at0 := p + 1 + 1) (top := 60) hT q2.1 q2.2.1 (by omega) (by omega) (by omega) (by rw [l2] at q2; exact q2.2.2.1) (by show b (p + 2) < 58; omega) (by omega) (kg q2)
        · exact s8_oneOfB (fst := 49) (many := 9) (at0 := p + 1 + 1) (top := 60) hT (fun y => q2 ⟨y.1, y.2.1, by rw [l2]; exact y.2.2.1, by have : b (p + 2) < 58 := y.2.2.2; omega⟩) (by omega) (by omega) (by omega) (by omega) (by omega) (by omega) (kb q2)
      have v9 : (p + 2 < t ∧ p + 2 < 60 ∧ lo2 (b p) ≤ b (p + 2) ∧ b (p + 2) ≤ 57) → (b p = 102 ∨ b p = 103) → nI (b (p + 2) - 49) + 1 = nI (b (p + 2) - 48) := by
        intro q2 cc
        rw [(n9 cc).1] at q2
        rw [← nI_succ]
        congr 1
        omega
      have f125 : (b p = 115 ∨ b p = 108) → p_X8_oneOf F 48 10 (nI t) (nI 60) (nI (p + 1 + 1)) (-1) 80 f (fun r_137 (u_137 : Int32 × Int32) => (vp_in (nI (i + 2)) 240 ∧ (Post (u_137.1, u_137.2, (upd (upd (upd acts i (nI (b p))) (i + 1) (nI (b (p + 1) - 48))) (i + 2) r_137))))) := by
        intro cc
        have l2 : lo2 (b p) = 48 := by
          unfold lo2
          rw [if_neg (by omega), if_neg (by omega)]
        have d1 : ¬ dA (b p) = 1 := by
          rcases cc with h | h <;> rw [h] <;> decide
        by_cases q2 : p + 2 < t ∧ p + 2 < 60 ∧ lo2 (b p) ≤ b (p + 2) ∧ b (p + 2) ≤ 57
        · exact s8_oneOf (fst := 48) (many := 10) (at0 := p + 1 + 1) (top := 60) hT q2.1 q2.2.1 (by omega) (by omega) (by omega) (by rw [l2] at q2; exact q2.2.2.1) (by show b (p + 2) < 58; omega) (by omega) ⟨i2, two _ d1 q2 rfl⟩
        · exact s8_oneOfB (fst := 48) (many := 10) (at0 := p + 1 + 1) (top := 60) hT (fun y => q2 ⟨y.1, y.2.1, by rw [l2]; exact y.2.2.1, by have : b (p + 2) < 58 := y.2.2.2; omega⟩) (by omega) (by omega) (by omega) (by omega) (by omega) (by omega) ⟨i2, b2 _ _ d1 q2⟩
      refine ⟨fun z => ?_, fun z => ⟨fun z2 => ⟨fun z3 => f125 (Or.inl ((e 115 (by omega)).1 z3)), fun z3 => ⟨fun z4 => one _ _ rfl rfl ?_, fun z4 => f125 (Or.inr ((e 108 (by omega)).1 z4))⟩⟩, fun z2 => ?_⟩⟩
      · have cc : b p = 102 ∨ b p = 103 := Or.inl ((e 102 (by omega)).1 z)
        exact f95 cc _ (fun q2 => ⟨i2, br_f (n9 cc).2.2.1 ⟨fun _ => two _ (n9 cc).2.1 q2 (v9 q2 cc), fun z => absurd z (n9 cc).2.2.2⟩⟩) (fun q2 => ⟨i2, br_f (n9 cc).2.2.1 ⟨fun _ => b2 _ _ (n9 cc).2.1 q2, fun z => absurd z (n9 cc).2.2.2⟩⟩)
      rotate_left
      · have cc : b p = 102 ∨ b p = 103 := Or.inr ((e 103 (by omega)).1 z2)
        exact f95 cc _ (fun q2 => ⟨i2, br_f (n9 cc).2.2.1 ⟨fun _ => two _ (n9 cc).2.1 q2 (v9 q2 cc), fun z => absurd z (n9 cc).2.2.2⟩⟩) (fun q2 => ⟨i2, br_f (n9 cc).2.2.1 ⟨fun _ => b2 _ _ (n9 cc).2.1 q2, fun z => absurd z (n9 cc).2.2.2⟩⟩)
      have c1 : ¬ b p = 102 := fun y => z (by rw [y]; rfl)
      have c2 : ¬ b p = 103 := fun y => z2 (by rw [y]; rfl)
      have c3 : ¬ b p = 115 := fun y => z3 (by rw [y]; rfl)
      have c4 : ¬ b p = 108 := fun y => z4 (by rw [y]; rfl)
      unfold dA at d0 ⊢
      rw [if_neg c1, if_neg c2, if_neg c4] at d0 ⊢
      by_cases c5 : b p = 110
      · rw [if_pos c5]
      · rw [if_neg c5] at d0 ⊢
        by_cases c6 : b p = 112
        · rw [if_pos c6]
        · rw [if_neg c6, if_neg c3] at d0; exact absurd rfl d0
    · have b1 : ∀ at0 g, Post (at0, nI (p + 1), g) := fun at0 g => bad _ _ _ (Or.inr (Or.inl ⟨⟨by omega, d0⟩, q1, rfl⟩)) (by omega)
      have nw := w1 (p + 1) (by omega)
      refine s8_oneOfB (fst := 48) (many := 10) (top := 60) hT (by omega) (by omega) (by omega) (by omega) (by omega) (by omega) (by omega) ⟨i1, ?_⟩
      have f125 : ∀ g : Nat → Int32, p_X8_oneOf F 48 10 (nI t) (nI 60) (nI (p + 1)) (nI (p + 1)) 80 f (fun r_137 (u_137 : Int32 × Int32) => (vp_in (nI (i + 2)) 240 ∧ (Post (u_137.1, u_137.2, (upd g (i + 2) r_137))))) := fun g => s8_oneOfW nw ⟨i2, b1 _ _⟩
      refine ⟨fun z => s8_oneOfW nw ⟨i2, fun _ => f125 _, fun _ => ⟨fun _ => b1 _ _, fun _ => f125 _⟩⟩, fun z => ⟨fun z2 => ⟨fun z3 => f125 _, fun z3 => ⟨fun z4 => b1 _ _, fun z4 => f125 _⟩⟩, fun z2 => s8_oneOfW nw ⟨i2, fun _ => f125 _, fun _ => ⟨fun _ => b1 _ _, fun _ => f125 _⟩⟩⟩⟩
  refine ⟨fun z => k50 ?_, fun z1 => ⟨fun z => k50 ?_, fun z2 => ⟨fun z => k50 ?_, fun z3 => ⟨fun z => k50 ?_, fun z4 => ⟨fun z => k50 ?_, fun z5 => ⟨fun z => k50 ?_, fun z6 => s8_fault (bad p _ _ (Or.inl ⟨?_, rfl⟩) (by omega))⟩⟩⟩⟩⟩⟩
  · rw [(e 110 (by omega)).1 z]; decide
  · rw [(e 102 (by omega)).1 z]; decide
  · rw [(e 112 (by omega)).1 z]; decide
  · rw [(e 103 (by omega)).1 z]; decide
  · rw [(e 115 (by omega)).1 z]; decide
  · rw [(e 108 (by omega)).1 z]; decide
  · rintro ⟨_, y⟩
    apply y
    unfold dA
    rw [if_neg (fun y => z2 ((e 102 (by omega)).2 y)), if_neg (fun y => z4 ((e 103 (by omega)).2 y)), if_neg (fun y => z6 ((e 108 (by omega)).2 y)), if_neg (fun y => z1 ((e 110 (by omega)).2 y)), if_neg (fun y => z3 ((e 112 (by omega)).2 y)), if_neg (fun y => z5 ((e 115 (by omega)).2 y))]
end
