/-! ===== guards: the class's least guard ===== -/
def XiN (nA : Nat) (w : Nat → Int32) (i : Nat) : Nat := bN (fun a => ! decide (w a ≤ 0) && decide (i ≤ a)) nA
theorem alX {R : (Nat → Int32) → Int32} {nA i c a : Nat} {w : Nat → Int32} (h1 : i ≤ a) (h2 : a < nA) : alB (faN R nA w) (XiN nA w i) c a = hlB R w c a := by
  unfold alB faN XiN
  rw [bN_bit, bN_bit, decide_eq_true h2, decide_eq_true h1]
  unfold hlB
  cases decide (w a ≤ 0) <;> cases decide (pI R w c a 0 < w a) <;> rfl
theorem least {p : Nat → Bool} : ∀ n, (∃ c, c < n ∧ p c = true) → ∃ c, c < n ∧ p c = true ∧ ∀ x, x < c → p x = false
  | 0, ⟨c, h, _⟩ => absurd h (Nat.not_lt_zero _)
  | n + 1, ⟨c, h, hp⟩ => by
    by_cases q : ∃ c, c < n ∧ p c = true
    · obtain ⟨c, c1, c2, c3⟩ := least n q
      exact ⟨c, by omega, c2, c3⟩
    · have e : c = n := by
        apply Decidable.byContradiction
        intro z
        exact q ⟨c, by omega, hp⟩
      subst e
      refine ⟨c, by omega, hp, fun x hx => ?_⟩
      cases ex : p x with
      | false => rfl
      | true => exact absurd ⟨x, hx, ex⟩ q
/-- cat c may guard the arch of depth d + 1, and nothing is lost -/
def glB (al : Nat → Nat → Bool) (nA nC d : Nat) (A : Nat → Bool) (c : Nat) : Bool := (A c && al c (nA - (d + 1))) && decide (1 + mu al nA nC d (rmB A c) = mu al nA nC (d + 1) A)
theorem gl_ex {al : Nat → Nat → Bool} {nA nC d : Nat} {A : Nat → Bool} (h : ¬ mu al nA nC d A = mu al nA nC (d + 1) A) : ∃ c, c < nC ∧ glB al nA nC d A c = true := by
  have hm : mu al nA nC d A < bestC (fun c => if A c && al c (nA - (d + 1)) then 1 + mu al nA nC d (rmB A c) else 0) nC := by
    apply Decidable.byContradiction
    intro z
    exact h (by rw [mu, if_neg z])
  have e : mu al nA nC (d + 1) A = bestC (fun c => if A c && al c (nA - (d + 1)) then 1 + mu al nA nC d (rmB A c) else 0) nC := by rw [mu, if_pos hm]
  rcases bestC_is (f := fun c => if A c && al c (nA - (d + 1)) then 1 + mu al nA nC d (rmB A c) else 0) nC with z | ⟨c, c1, c2⟩
  · omega
  · by_cases q : (A c && al c (nA - (d + 1))) = true
    · rw [if_pos q] at c2
      refine ⟨c, c1, ?_⟩
      unfold glB
      rw [q, e, ← c2]
      simp
    · rw [if_neg q] at c2
      omega
section
variable {F nA nC : Nat} {R : (Nat → Int32) → Int32} {w alone : Nat → Int32}
theorem s7_mostH {i Ab : Nat} {Post : Int32 → Prop} (hF : 5000 ≤ F) (hA : nA ≤ 6) (hC : nC ≤ 8) (hi : i ≤ nA) (hAb : Ab < 2 ^ nC) (hfa : ∀ c, c < nC → alone c = nI (faN R nA w c)) (kk : mu (hlB R w) nA nC (nA - i) Ab.testBit ≤ 8 → Post (nI (mu (hlB R w) nA nC (nA - i) Ab.testBit))) : p_X7_mostGuarded F (nI (XiN nA w i)) (nI Ab) (nI nA) (nI nC) alone Post := by
  refine s7_most (fa := faN R nA w) hF hA hC (bN_lt _ _) hAb (fun c hc => ⟨hfa c hc, bN_lt _ _⟩) (fun r h1 h2 r8 => ?_)
  have e := most_mu (d := nA - i) (by omega) (fun a ha => ?_) h1 h2
  · rw [mu_congr (al2 := hlB R w) (by omega) (fun c a _ g1 g2 => alX (by omega) g2)] at e
    rw [e] at r8 ⊢
    exact kk r8
  · unfold XiN at ha
    rw [bN_bit] at ha
    simp only [Bool.and_eq_true, decide_eq_true_eq] at ha
    omega
end
