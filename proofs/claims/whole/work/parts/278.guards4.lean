/-! ===== guards: the choice, and mu grows with its cats ===== -/
theorem bestC_mono {f g : Nat → Nat} : ∀ {n}, (∀ c, c < n → f c ≤ g c) → bestC f n ≤ bestC g n
  | 0, _ => Nat.le_refl _
  | n + 1, h => by
    have ih := bestC_mono (n := n) (fun c hc => h c (by omega))
    have hn := h n (by omega)
    rw [bestC, bestC]
    split <;> split <;> omega
theorem mu_mono {al : Nat → Nat → Bool} {nA nC : Nat} : ∀ {d} {A B : Nat → Bool}, (∀ c, A c = true → B c = true) → mu al nA nC d A ≤ mu al nA nC d B
  | 0, _, _, _ => Nat.le_refl _
  | d + 1, A, B, h => by
    have i1 := mu_mono (al := al) (nA := nA) (nC := nC) (d := d) h
    have i2 : bestC (fun c => if A c && al c (nA - (d + 1)) then 1 + mu al nA nC d (rmB A c) else 0) nC ≤ bestC (fun c => if B c && al c (nA - (d + 1)) then 1 + mu al nA nC d (rmB B c) else 0) nC := by
      refine bestC_mono (fun c hc => ?_)
      by_cases q : (A c && al c (nA - (d + 1))) = true
      · rw [Bool.and_eq_true] at q
        rw [if_pos (by rw [q.1, q.2]; rfl), if_pos (by rw [h c q.1, q.2]; rfl)]
        have := mu_mono (al := al) (nA := nA) (nC := nC) (d := d) (A := rmB A c) (B := rmB B c) (fun x hx => by
          obtain ⟨x1, x2⟩ := rm_le hx
          rw [rm_ne x2]
          exact h x x1)
        omega
      · rw [if_neg q]
        exact Nat.zero_le _
    rw [mu, mu]
    split <;> split <;> omega
/-- the least c from k on with p, among n -/
def lcN (p : Nat → Bool) : Nat → Nat → Nat
  | 0, k => k
  | n + 1, k => if p k then k else lcN p n (k + 1)
theorem lcN_e {p : Nat → Bool} {c0 : Nat} (h : p c0 = true) (hl : ∀ x, x < c0 → p x = false) : ∀ n k, k ≤ c0 → c0 < n + k → lcN p n k = c0
  | 0, k, h1, h2 => by omega
  | n + 1, k, h1, h2 => by
    rw [lcN]
    by_cases e : k = c0
    · subst e; rw [if_pos h]
    · rw [if_neg (by rw [hl k (by omega)]; decide)]
      exact lcN_e h hl n (k + 1) (by omega) (by omega)
/-- who guards arch i, when the cats of Ab are free: none, or the least that loses nothing; and who is free then -/
def guC (al : Nat → Nat → Bool) (nA nC i Ab : Nat) : Int32 := if mu al nA nC (nA - (i + 1)) Ab.testBit = mu al nA nC (nA - (i + 1) + 1) Ab.testBit then -1 else nI (lcN (glB al nA nC (nA - (i + 1)) Ab.testBit) nC 0)
def guA (al : Nat → Nat → Bool) (nA nC i Ab : Nat) : Nat := if mu al nA nC (nA - (i + 1)) Ab.testBit = mu al nA nC (nA - (i + 1) + 1) Ab.testBit then Ab else rmN Ab (lcN (glB al nA nC (nA - (i + 1)) Ab.testBit) nC 0)
def guS (al : Nat → Nat → Bool) (nA nC : Nat) : Nat → Nat × List Int64
  | 0 => (2 ^ nC - 1, [])
  | i + 1 => (guA al nA nC i (guS al nA nC i).1, (guS al nA nC i).2 ++ [(guC al nA nC i (guS al nA nC i).1).toInt64])
theorem guS_len {al : Nat → Nat → Bool} {nA nC : Nat} : ∀ i, (guS al nA nC i).2.length = i
  | 0 => rfl
  | i + 1 => by rw [guS, List.length_append, guS_len i]; rfl
theorem guS_lt {al : Nat → Nat → Bool} {nA nC : Nat} : ∀ i, (guS al nA nC i).1 < 2 ^ nC
  | 0 => by
    have := Nat.two_pow_pos nC
    show 2 ^ nC - 1 < 2 ^ nC
    omega
  | i + 1 => by
    have ih := guS_lt (al := al) (nA := nA) (nC := nC) i
    show guA al nA nC i (guS al nA nC i).1 < 2 ^ nC
    unfold guA
    split
    · exact ih
    · exact rmN_lt ih
theorem XiN_s {nA i : Nat} {w : Nat → Int32} (hA : nA ≤ 6) (hi : i < nA) : rmN (XiN nA w i) i = XiN nA w (i + 1) := by
  apply bit_ext
  intro x
  have hx : XiN nA w i < 2 ^ nA := bN_lt _ _
  rw [rmN_b hx (by omega) (by omega)]
  unfold rmB XiN
  rw [bN_bit, bN_bit]
  by_cases e : x = i
  · subst e; simp
  · rw [decide_eq_false e]
    by_cases h1 : i ≤ x
    · rw [decide_eq_true h1, decide_eq_true (show i + 1 ≤ x by omega)]; simp
    · rw [decide_eq_false h1, decide_eq_false (show ¬ i + 1 ≤ x by omega)]; simp
