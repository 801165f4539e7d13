/-! ===== guards: the model's table, as numbers ===== -/
def unD (nA : Nat) (w : Nat → Int32) : Nat → Nat
  | 0 => 0
  | d + 1 => unD nA w d + (if 0 < w (nA - (d + 1)) then 0 else 1)
def frB (nC S : Nat) : Nat → Bool := fun c => decide (c < nC) && ! S.testBit c
def gdN (R : (Nat → Int32) → Int32) (nA nC : Nat) (w : Nat → Int32) (d S : Nat) : Nat := unD nA w d + mu (hlB R w) nA nC d (frB nC S)
def h0N (w : Nat → Int32) (a : Nat) : Nat := if 0 < w a then 0 else 1
def h1N (R : (Nat → Int32) → Int32) (w : Nat → Int32) (c a : Nat) : Nat := if pI R w c a 0 < w a then 0 else 1
theorem h0_e (w : Nat → Int32) (a : Nat) : (if 0 < w a then (0 : Int32) else 1) = nI (h0N w a) := by
  unfold h0N
  split <;> rfl
theorem h1_e (R : (Nat → Int32) → Int32) (w : Nat → Int32) (c a : Nat) : (if pI R w c a 0 < w a then (0 : Int32) else 1) = nI (h1N R w c a) := by
  unfold h1N
  split <;> rfl
theorem fr_or {nC S c : Nat} : frB nC (S ||| 2 ^ c) = rmB (frB nC S) c := by
  funext x
  unfold frB rmB
  rw [Nat.testBit_or, Nat.testBit_two_pow]
  by_cases e : x = c
  · subst e; simp
  · rw [decide_eq_false (p := c = x) (fun z => e z.symm), decide_eq_false (p := x = c) e]; simp
section
variable {nA nC d S c a : Nat} {R : (Nat → Int32) → Int32} {w : Nat → Int32} {A : Nat → Bool}
theorem hl_0 (h : ¬ 0 < w a) : hlB R w c a = false := by
  unfold hlB
  rw [decide_eq_true (Int32.not_lt.1 h)]
  rfl
theorem hl_1 (h : 0 < w a) : hlB R w c a = ! decide (pI R w c a 0 < w a) := by
  unfold hlB
  rw [decide_eq_false (Int32.not_le.2 h)]
  rfl
theorem bestC_0 {f : Nat → Nat} : ∀ {n}, (∀ c, c < n → f c = 0) → bestC f n = 0
  | 0, _ => rfl
  | n + 1, h => by rw [bestC, bestC_0 (n := n) (fun c hc => h c (by omega)), h n (by omega)]; rfl
theorem mu_un (h : ¬ 0 < w (nA - (d + 1))) : mu (hlB R w) nA nC (d + 1) A = mu (hlB R w) nA nC d A := by
  rw [mu, bestC_0 (fun c _ => by rw [hl_0 h, Bool.and_false]; rfl), if_neg (Nat.not_lt_zero _)]
theorem rm_mu {al : Nat → Nat → Bool} : mu al nA nC d (rmB A c) ≤ mu al nA nC d A := mu_mono (fun _ hx => (rm_le hx).1)
theorem gd_0 : h0N w (nA - (d + 1)) + gdN R nA nC w d S ≤ gdN R nA nC w (d + 1) S := by
  unfold gdN h0N
  rw [unD]
  have := mu_s1 (al := hlB R w) (nA := nA) (nC := nC) (d := d) (A := frB nC S)
  omega
theorem gd_eq0 : h0N w (nA - (d + 1)) + gdN R nA nC w d S = gdN R nA nC w (d + 1) S ↔ mu (hlB R w) nA nC d (frB nC S) = mu (hlB R w) nA nC (d + 1) (frB nC S) := by
  unfold gdN h0N
  rw [unD]
  omega
theorem gd_c (hc : c < nC) (hf : S.testBit c = false) : h1N R w c (nA - (d + 1)) + gdN R nA nC w d (S ||| 2 ^ c) ≤ gdN R nA nC w (d + 1) S := by
  unfold gdN h1N
  rw [fr_or, unD]
  have m1 := rm_mu (al := hlB R w) (nA := nA) (nC := nC) (d := d) (A := frB nC S) (c := c)
  have m2 := mu_s1 (al := hlB R w) (nA := nA) (nC := nC) (d := d) (A := frB nC S)
  by_cases q : 0 < w (nA - (d + 1))
  · rw [if_pos q]
    by_cases p : pI R w c (nA - (d + 1)) 0 < w (nA - (d + 1))
    · rw [if_pos p]; omega
    · rw [if_neg p]
      have := mu_s2 (al := hlB R w) (nA := nA) (d := d) (A := frB nC S) hc (by unfold frB; rw [decide_eq_true hc, hf]; rfl) (by rw [hl_1 q, decide_eq_false p]; rfl)
      omega
  · rw [if_neg q]
    have : (if pI R w c (nA - (d + 1)) 0 < w (nA - (d + 1)) then 0 else 1) ≤ 1 := by split <;> omega
    omega
theorem gd_gl (hc : c < nC) (ne : ¬ mu (hlB R w) nA nC d (frB nC S) = mu (hlB R w) nA nC (d + 1) (frB nC S)) : (S.testBit c = false ∧ h1N R w c (nA - (d + 1)) + gdN R nA nC w d (S ||| 2 ^ c) = gdN R nA nC w (d + 1) S) ↔ glB (hlB R w) nA nC d (frB nC S) c = true := by
  have q : 0 < w (nA - (d + 1)) := Decidable.byContradiction (fun h => ne (mu_un h).symm)
  have m1 := rm_mu (al := hlB R w) (nA := nA) (nC := nC) (d := d) (A := frB nC S) (c := c)
  have m2 := mu_s1 (al := hlB R w) (nA := nA) (nC := nC) (d := d) (A := frB nC S)
  have ef : frB nC S c = ! S.testBit c := by unfold frB; rw [decide_eq_true hc]; rfl
  unfold gdN h1N glB
  rw [fr_or, unD, if_pos q, hl_1 q, ef]
  by_cases p : pI R w c (nA - (d + 1)) 0 < w (nA - (d + 1))
  · rw [if_pos p, decide_eq_true p]
    constructor
    · rintro ⟨_, z⟩; omega
    · intro z; simp at z
  · rw [if_neg p, decide_eq_false p]
    cases S.testBit c with
    | false =>
      constructor
      · rintro ⟨_, z⟩
        have : 1 + mu (hlB R w) nA nC d (rmB (frB nC S) c) = mu (hlB R w) nA nC (d + 1) (frB nC S) := by omega
        rw [decide_eq_true this]; rfl
      · intro z
        rw [Bool.and_eq_true] at z
        have := of_decide_eq_true z.2
        exact ⟨rfl, by omega⟩
    | true => simp
theorem gd_ex : h0N w (nA - (d + 1)) + gdN R nA nC w d S = gdN R nA nC w (d + 1) S ∨ ∃ c, c < nC ∧ S.testBit c = false ∧ h1N R w c (nA - (d + 1)) + gdN R nA nC w d (S ||| 2 ^ c) = gdN R nA nC w (d + 1) S := by
  by_cases q : mu (hlB R w) nA nC d (frB nC S) = mu (hlB R w) nA nC (d + 1) (frB nC S)
  · exact Or.inl (gd_eq0.2 q)
  · obtain ⟨c, hc, g⟩ := gl_ex q
    exact Or.inr ⟨c, hc, (gd_gl hc q).2 g⟩
theorem unD_le : ∀ d, unD nA w d ≤ d
  | 0 => Nat.le_refl _
  | d + 1 => by
    have := unD_le d
    rw [unD]
    split <;> omega
theorem gdN_le (hd : d ≤ nA) : gdN R nA nC w d S ≤ 2 * nA := by
  have h1 := unD_le (nA := nA) (w := w) d
  have h2 := mu_le (al := hlB R w) (nA := nA) (nC := nC) (frB nC S) hd
  unfold gdN
  omega
theorem unD_ct : ∀ d, d ≤ nA → unD nA w d + ctN (fun a => ! decide (w a ≤ 0)) nA = d + ctN (fun a => ! decide (w a ≤ 0)) (nA - d)
  | 0, _ => by rw [unD]; rfl
  | d + 1, h => by
    have ih := unD_ct d (by omega)
    obtain ⟨k, hk⟩ : ∃ k, nA - d = k + 1 := ⟨nA - d - 1, by omega⟩
    have hk2 : nA - (d + 1) = k := by omega
    rw [hk, ctN] at ih
    rw [unD, hk2]
    by_cases q : 0 < w k
    · rw [decide_eq_false (Int32.not_le.2 q)] at ih
      rw [if_pos q]
      simp at ih
      omega
    · rw [decide_eq_true (Int32.not_lt.1 q)] at ih
      rw [if_neg q]
      simp at ih
      omega
end
theorem gi_ix : ∀ k, k < 7 → ∀ S, S < 256 → ((nI k <<< ((8 : Int32) &&& 31)) ||| nI S) = nI (256 * k + S) := by decide +kernel
theorem gi_or {k S c : Nat} (hk : k < 7) (hS : S < 256) (hc : c < 8) : ((nI k <<< ((8 : Int32) &&& 31)) ||| nI S) ||| ((1 : Int32) <<< (nI c &&& 31)) = nI (256 * k + (S ||| 2 ^ c)) := by
  have h3 : 2 ^ c < 2 ^ 8 := Nat.pow_lt_pow_right (by decide) hc
  rw [Int32.or_assoc, fz_sh1 (by omega), fz_or, gi_ix k hk _ (Nat.or_lt_two_pow (n := 8) hS h3)]
theorem or_ltC {S c n : Nat} (hS : S < 2 ^ n) (hc : c < n) : S ||| 2 ^ c < 2 ^ n := Nat.or_lt_two_pow hS (Nat.pow_lt_pow_right (by decide) hc)
theorem s8_has {F S c : Nat} {Post : Int32 → Prop} (hS : S < 2 ^ 31) (hc : c < 31) (k1 : S.testBit c = true → Post 1) (k0 : S.testBit c = false → Post 0) : p_X8_has F (nI S) (nI c) Post := by
  unfold p_X8_has
  have fb := fz_bit1 (m := S) (c := c) hS hc
  refine ⟨fun z => k0 ?_, fun z => k1 (fb.1 z)⟩
  cases e : S.testBit c with
  | false => rfl
  | true => exact absurd (fb.2 e) z
