/-! ===== call: spreads ===== -/
def nearB (w : Nat → Int32) (c d : Nat) : Bool := ! decide ((1 : Int32) < (if (0 : Int32) ≤ w (36 + c) - w (36 + d) then w (36 + c) - w (36 + d) else 0 - (w (36 + c) - w (36 + d))))
def spN (nC : Nat) (w : Nat → Int32) (S : Nat) : Nat := S ||| bN (fun d => (List.range nC).any (fun c => S.testBit c && nearB w c d)) nC
theorem spN_bit (nC : Nat) (w : Nat → Int32) (S i : Nat) : (spN nC w S).testBit i = true ↔ S.testBit i = true ∨ (i < nC ∧ ∃ c, c < nC ∧ S.testBit c = true ∧ nearB w c i = true) := by
  unfold spN
  rw [Nat.testBit_or, bN_bit]
  simp
theorem spN_lt {nC : Nat} {w : Nat → Int32} {S : Nat} (h : S < 2 ^ nC) : spN nC w S < 2 ^ nC := Nat.or_lt_two_pow h (bN_lt _ nC)
theorem bit_ext {a b : Nat} (h : ∀ i, a.testBit i = true ↔ b.testBit i = true) : a = b := by
  apply Nat.eq_of_testBit_eq
  intro i
  have := h i
  cases ha : a.testBit i <;> cases hb : b.testBit i <;> simp_all
theorem set_bit {M d i : Nat} : (M ||| 2 ^ d).testBit i = true ↔ M.testBit i = true ∨ i = d := by
  rw [Nat.testBit_or, Nat.testBit_two_pow]
  simp
  constructor
  · rintro (h | h)
    · exact Or.inl h
    · exact Or.inr h.symm
  · rintro (h | h)
    · exact Or.inl h
    · exact Or.inr h.symm
theorem set_lt {M d n : Nat} (h : M < 2 ^ n) (hd : d < n) : M ||| 2 ^ d < 2 ^ n := Nat.or_lt_two_pow h (Nat.pow_lt_pow_right (by omega) hd)
theorem near_c {nA nC : Nat} {w : Nat → Int32} (ok : OK nA nC w) {c d : Nat} (hc : c < nC) (hd : d < nC) : nearB w c d = nearB w d c := by
  obtain ⟨a, ha, ea⟩ := ok.2.2.2.1 c hc
  obtain ⟨b, hb, eb⟩ := ok.2.2.2.1 d hd
  have hA := ok.1
  unfold nearB
  rw [ea, eb, abs_eq (by omega) (by omega), abs_eq (by omega) (by omega)]
  have : (if b ≤ a then a - b else b - a) = (if a ≤ b then b - a else a - b) := by split <;> split <;> omega
  rw [this]
section
variable {F nA nC : Nat} {w f : Nat → Int32} {arches cats store hour drops : Int32} {load sag joy bowl grief place : Nat → Int32}
theorem pw256 (h : nC ≤ 8) : 2 ^ nC ≤ 256 := Nat.pow_le_pow_right (n := 2) (by decide) h
theorem s6_spreadFrom {S : Nat} {Post : Int32 → Prop} (hF : 5000 ≤ F) (hC : nC ≤ 8) (hp : ∀ i, i < 8 → place i = w (36 + i)) (hS : S < 2 ^ nC) (k : Post (nI (spN nC w S))) : p_X6_spreadFrom F (nI S) (nI nC) place Post := by
  have pw := pw256 hC
  unfold p_X6_spreadFrom
  refine up_loop (fun n i s => p_X6_spreadFrom_4 F (nI S) (nI nC) place Post n i s) (fun j s => ∃ M, s = nI M ∧ M < 2 ^ nC ∧ ∀ i, M.testBit i = true ↔ S.testBit i = true ∨ (i < nC ∧ ∃ c, c < j ∧ S.testBit c = true ∧ nearB w c i = true)) nC ?_ ?_ F (nI S) 0 ⟨S, rfl, hS, fun i => ⟨fun h => Or.inl h, fun h => h.elim id (fun h => by obtain ⟨_, c, hc, _⟩ := h; omega)⟩⟩ (by omega) (by omega)
  · rintro n s ⟨M, rfl, hM, hb⟩
    show p_X6_spreadFrom_4 F (nI S) (nI nC) place Post (n + 1) (nI nC) (nI M)
    rw [p_X6_spreadFrom_4_s]
    have : M = spN nC w S := bit_ext (fun i => by rw [hb, spN_bit])
    rw [this]
    exact br_t (nI_le (Nat.le_refl _) (by omega)) k
  · rintro n c s hc ⟨M, rfl, hM, hb⟩ ih
    show p_X6_spreadFrom_4 F (nI S) (nI nC) place Post (n + 1) (nI c) (nI M)
    rw [p_X6_spreadFrom_4_s]
    refine br_f (nI_ge hc (by omega)) ?_
    refine up_loop (fun n2 i s => p_X6_spreadFrom_15 F (nI S) (nI nC) place (nI c) (p_X6_spreadFrom_4 F (nI S) (nI nC) place Post n) Post n2 i s) (fun d s => ∃ M, s = nI M ∧ M < 2 ^ nC ∧ ∀ i, M.testBit i = true ↔ S.testBit i = true ∨ (i < nC ∧ ∃ c', (c' < c ∨ (c' = c ∧ i < d)) ∧ S.testBit c' = true ∧ nearB w c' i = true)) nC ?_ ?_ F (nI M) 0 ⟨M, rfl, hM, fun i => ?_⟩ (by omega) (by omega)
    · rintro n2 s ⟨M2, rfl, hM2, hb2⟩
      show p_X6_spreadFrom_15 F (nI S) (nI nC) place (nI c) (p_X6_spreadFrom_4 F (nI S) (nI nC) place Post n) Post (n2 + 1) (nI nC) (nI M2)
      rw [p_X6_spreadFrom_15_s]
      refine br_t (nI_le (Nat.le_refl _) (by omega)) (ih _ ⟨M2, rfl, hM2, fun i => ?_⟩)
      rw [hb2]
      constructor
      · rintro (h | ⟨h1, c', h2, h3⟩)
        · exact Or.inl h
        · exact Or.inr ⟨h1, c', by omega, h3⟩
      · rintro (h | ⟨h1, c', h2, h3⟩)
        · exact Or.inl h
        · exact Or.inr ⟨h1, c', by omega, h3⟩
    · rintro n2 d s hd ⟨M2, rfl, hM2, hb2⟩ ih2
      show p_X6_spreadFrom_15 F (nI S) (nI nC) place (nI c) (p_X6_spreadFrom_4 F (nI S) (nI nC) place Post n) Post (n2 + 1) (nI d) (nI M2)
      rw [p_X6_spreadFrom_15_s, nI_clamp (n := c) (by omega), nI_clamp (n := d) (by omega), hp c (by omega), hp d (by omega), fz_bit1 (by omega) (by omega)]
      unfold p_X6_spreadFrom_61
      have keep : (S.testBit c = true → nearB w c d = false) → ∀ i, M2.testBit i = true ↔ S.testBit i = true ∨ (i < nC ∧ ∃ c', (c' < c ∨ (c' = c ∧ i < d + 1)) ∧ S.testBit c' = true ∧ nearB w c' i = true) := by
        intro hno i
        rw [hb2]
        constructor
        · rintro (h | ⟨h1, c', h2, h3⟩)
          · exact Or.inl h
          · exact Or.inr ⟨h1, c', by omega, h3⟩
        · rintro (h | ⟨h1, c', h2, h3, h4⟩)
          · exact Or.inl h
          · by_cases e : c' = c ∧ i = d
            · obtain ⟨rfl, rfl⟩ := e
              rw [hno h3] at h4; exact absurd h4 (by simp)
            · exact Or.inr ⟨h1, c', by omega, h3, h4⟩
      refine br_f (nI_ge hd (by omega)) ⟨fun z => ih2 _ ⟨M2, rfl, hM2, keep (fun y => absurd y z)⟩, fun z => ⟨pk_in c 8 (by omega), pk_in d 8 (by omega), fun y => ih2 _ ⟨M2, rfl, hM2, keep (fun _ => ?_)⟩, fun y => ih2 _ ⟨M2 ||| 2 ^ d, ?_, set_lt hM2 hd, fun i => ?_⟩⟩⟩
      · unfold nearB; simp only [y, decide_true, Bool.not_true]
      · rw [fz_sh1 (by omega), fz_or]
      · have nr : nearB w c d = true := by unfold nearB; simp only [y, decide_false, Bool.not_false]
        rw [set_bit, hb2]
        constructor
        · rintro ((h | ⟨h1, c', h2, h3⟩) | h)
          · exact Or.inl h
          · exact Or.inr ⟨h1, c', by omega, h3⟩
          · subst h; exact Or.inr ⟨hd, c, by omega, z, nr⟩
        · rintro (h | ⟨h1, c', h2, h3, h4⟩)
          · exact Or.inl (Or.inl h)
          · by_cases e : i = d
            · exact Or.inr e
            · exact Or.inl (Or.inr ⟨h1, c', by omega, h3, h4⟩)
    · rw [hb]
      constructor
      · rintro (h | ⟨h1, c', h2, h3⟩)
        · exact Or.inl h
        · exact Or.inr ⟨h1, c', by omega, h3⟩
      · rintro (h | ⟨h1, c', h2, h3⟩)
        · exact Or.inl h
        · exact Or.inr ⟨h1, c', by omega, h3⟩
theorem s8_spread {S : Nat} {Post : Int32 → Prop} (hF : 5000 ≤ F) (hM : MV w f) (ok : OK nA nC w) (hS : S < 2 ^ nC) (k : Post (nI (spN nC w S))) : p_X8_spread F (nI S) (nI nC) f Post := by
  have hC := ok.2.1
  have pw := pw256 hC
  unfold p_X8_spread
  refine up_loop (fun n i s => p_X8_spread_4 F (nI S) (nI nC) f Post n i s) (fun j s => ∃ M, s = nI M ∧ M < 2 ^ nC ∧ ∀ i, M.testBit i = true ↔ S.testBit i = true ∨ (i < nC ∧ i < j ∧ ∃ c, c < nC ∧ S.testBit c = true ∧ nearB w c i = true)) nC ?_ ?_ F (nI S) 0 ⟨S, rfl, hS, fun i => ⟨fun h => Or.inl h, fun h => h.elim id (fun h => by omega)⟩⟩ (by omega) (by omega)
  · rintro n s ⟨M, rfl, hM, hb⟩
    show p_X8_spread_4 F (nI S) (nI nC) f Post (n + 1) (nI nC) (nI M)
    rw [p_X8_spread_4_s]
    have : M = spN nC w S := bit_ext (fun i => by
      rw [hb, spN_bit]
      constructor
      · rintro (h | ⟨h1, _, h2⟩)
        · exact Or.inl h
        · exact Or.inr ⟨h1, h2⟩
      · rintro (h | ⟨h1, h2⟩)
        · exact Or.inl h
        · exact Or.inr ⟨h1, h1, h2⟩)
    rw [this]
    exact br_t (nI_le (Nat.le_refl _) (by omega)) k
  · rintro n c s hc ⟨M, rfl, hM1, hb⟩ ih
    show p_X8_spread_4 F (nI S) (nI nC) f Post (n + 1) (nI c) (nI M)
    rw [p_X8_spread_4_s]
    refine br_f (nI_ge hc (by omega)) ?_
    refine up_loop (fun n2 i s => p_X8_spread_15 F (nI S) (nI nC) f (nI c) (p_X8_spread_4 F (nI S) (nI nC) f Post n) Post n2 i s) (fun o s => ∃ M, s = nI M ∧ M < 2 ^ nC ∧ ∀ i, M.testBit i = true ↔ S.testBit i = true ∨ (i < nC ∧ ((i < c ∧ ∃ c', c' < nC ∧ S.testBit c' = true ∧ nearB w c' i = true) ∨ (i = c ∧ ∃ c', c' < o ∧ S.testBit c' = true ∧ nearB w c' i = true)))) nC ?_ ?_ F (nI M) 0 ⟨M, rfl, hM1, fun i => ?_⟩ (by omega) (by omega)
    · rintro n2 s ⟨M2, rfl, hM2, hb2⟩
      show p_X8_spread_15 F (nI S) (nI nC) f (nI c) (p_X8_spread_4 F (nI S) (nI nC) f Post n) Post (n2 + 1) (nI nC) (nI M2)
      rw [p_X8_spread_15_s]
      refine br_t (nI_le (Nat.le_refl _) (by omega)) (ih _ ⟨M2, rfl, hM2, fun i => ?_⟩)
      rw [hb2]
      constructor
      · rintro (h | ⟨h1, ⟨h2, h3⟩ | ⟨h2, h3⟩⟩)
        · exact Or.inl h
        · exact Or.inr ⟨h1, by omega, h3⟩
        · exact Or.inr ⟨h1, by omega, h3⟩
      · rintro (h | ⟨h1, h2, h3⟩)
        · exact Or.inl h
        · by_cases e : i = c
          · exact Or.inr ⟨h1, Or.inr ⟨e, h3⟩⟩
          · exact Or.inr ⟨h1, Or.inl ⟨by omega, h3⟩⟩
    · rintro n2 o s ho ⟨M2, rfl, hM2, hb2⟩ ih2
      show p_X8_spread_15 F (nI S) (nI nC) f (nI c) (p_X8_spread_4 F (nI S) (nI nC) f Post n) Post (n2 + 1) (nI o) (nI M2)
      rw [p_X8_spread_15_s, cc36 (by omega), cc36 (by omega), hM (36 + o) (by omega), hM (36 + c) (by omega)]
      unfold p_X8_spread_66 p_X8_has
      rw [fz_bit1 (by omega) (by omega)]
      have keep : (S.testBit o = true → nearB w o c = false) → ∀ i, M2.testBit i = true ↔ S.testBit i = true ∨ (i < nC ∧ ((i < c ∧ ∃ c', c' < nC ∧ S.testBit c' = true ∧ nearB w c' i = true) ∨ (i = c ∧ ∃ c', c' < o + 1 ∧ S.testBit c' = true ∧ nearB w c' i = true))) := by
        intro hno i
        rw [hb2]
        constructor
        · rintro (h | ⟨h1, h2 | ⟨h2, c', h3, h4⟩⟩)
          · exact Or.inl h
          · exact Or.inr ⟨h1, Or.inl h2⟩
          · exact Or.inr ⟨h1, Or.inr ⟨h2, c', by omega, h4⟩⟩
        · rintro (h | ⟨h1, h2 | ⟨h2, c', h3, h4, h5⟩⟩)
          · exact Or.inl h
          · exact Or.inr ⟨h1, Or.inl h2⟩
          · by_cases e : c' = o
            · subst e h2; rw [hno h4] at h5; exact absurd h5 (by simp)
            · exact Or.inr ⟨h1, Or.inr ⟨h2, c', by omega, h4, h5⟩⟩
      refine br_f (nI_ge ho (by omega)) ⟨fun z => br_t rfl (ih2 _ ⟨M2, rfl, hM2, keep (fun y => absurd y z)⟩), fun z => br_f (by decide) ⟨ci36 (by omega), ci36 (by omega), fun y => ih2 _ ⟨M2, rfl, hM2, keep (fun _ => ?_)⟩, fun y => ih2 _ ⟨M2 ||| 2 ^ c, ?_, set_lt hM2 hc, fun i => ?_⟩⟩⟩
      · unfold nearB; simp only [y, decide_true, Bool.not_true]
      · rw [fz_sh1 (by omega), fz_or]
      · have nr : nearB w o c = true := by unfold nearB; simp only [y, decide_false, Bool.not_false]
        rw [set_bit, hb2]
        constructor
        · rintro ((h | ⟨h1, h2 | ⟨h2, c', h3, h4⟩⟩) | h)
          · exact Or.inl h
          · exact Or.inr ⟨h1, Or.inl h2⟩
          · exact Or.inr ⟨h1, Or.inr ⟨h2, c', by omega, h4⟩⟩
          · subst h; exact Or.inr ⟨hc, Or.inr ⟨rfl, o, by omega, z, nr⟩⟩
        · rintro (h | ⟨h1, h2 | ⟨h2, c', h3, h4⟩⟩)
          · exact Or.inl (Or.inl h)
          · exact Or.inl (Or.inr ⟨h1, Or.inl h2⟩)
          · exact Or.inr h2
    · rw [hb]
      constructor
      · rintro (h | ⟨h1, h2, h3⟩)
        · exact Or.inl h
        · exact Or.inr ⟨h1, Or.inl ⟨h2, h3⟩⟩
      · rintro (h | ⟨h1, ⟨h2, h3⟩ | ⟨h2, c', h3, _⟩⟩)
        · exact Or.inl h
        · exact Or.inr ⟨h1, h2, h3⟩
        · omega
end
/-! it comes to rest -/
def cbN (S : Nat) : Nat → Nat
  | 0 => 0
  | n + 1 => cbN S n + (if S.testBit n then 1 else 0)
theorem cbN_le (S : Nat) : ∀ n, cbN S n ≤ n
  | 0 => Nat.le_refl _
  | n + 1 => by have := cbN_le S n; rw [cbN]; split <;> omega
theorem cbN_mono {S T : Nat} (h : ∀ i, S.testBit i = true → T.testBit i = true) : ∀ n, cbN S n ≤ cbN T n
  | 0 => Nat.le_refl _
  | n + 1 => by
    have ih := cbN_mono h n
    rw [cbN, cbN]
    by_cases q : S.testBit n = true
    · rw [if_pos q, if_pos (h n q)]; omega
    · rw [if_neg q]; split <;> omega
theorem cbN_strict {S T : Nat} (h : ∀ i, S.testBit i = true → T.testBit i = true) {k : Nat} (hk : S.testBit k = false) (hk2 : T.testBit k = true) : ∀ n, k < n → cbN S n + 1 ≤ cbN T n
  | 0, hn => absurd hn (by omega)
  | n + 1, hn => by
    rw [cbN, cbN]
    by_cases e : k = n
    · subst e
      have := cbN_mono h k
      rw [hk, hk2]; simp; omega
    · have ih := cbN_strict h hk hk2 n (by omega)
      by_cases q : S.testBit n = true
      · rw [if_pos q, if_pos (h n q)]; omega
      · rw [if_neg q]; split <;> omega
def spS (nC : Nat) (w : Nat → Int32) (S : Nat) : Nat → Nat
  | 0 => S
  | n + 1 => spN nC w (spS nC w S n)
theorem spS_lt {nC : Nat} {w : Nat → Int32} {S : Nat} (h : S < 2 ^ nC) : ∀ n, spS nC w S n < 2 ^ nC
  | 0 => h
  | n + 1 => spN_lt (spS_lt h n)
theorem sp_grow {nC : Nat} {w : Nat → Int32} {S : Nat} (hS : S < 2 ^ nC) (h : ¬ spN nC w S = S) : cbN S nC + 1 ≤ cbN (spN nC w S) nC := by
  have sub : ∀ i, S.testBit i = true → (spN nC w S).testBit i = true := fun i hi => (spN_bit nC w S i).2 (Or.inl hi)
  have : ∃ k, S.testBit k = false ∧ (spN nC w S).testBit k = true := by
    refine Classical.byContradiction fun q => h (bit_ext (fun i => ⟨fun hi => ?_, sub i⟩))
    cases hs : S.testBit i
    · exact absurd ⟨i, hs, hi⟩ q
    · rfl
  obtain ⟨k, h1, h2⟩ := this
  refine cbN_strict sub h1 h2 nC ?_
  refine Classical.byContradiction fun q => ?_
  have : (spN nC w S).testBit k = false := Nat.testBit_lt_two_pow (Nat.lt_of_lt_of_le (spN_lt hS) (Nat.pow_le_pow_right (by omega) (by omega)))
  rw [this] at h2
  exact absurd h2 (by simp)
/-- the hour at which it rests -/
theorem sp_rest {nC : Nat} {w : Nat → Int32} {S : Nat} (hC : nC ≤ 8) (hS : S < 2 ^ nC) : ∃ K, K ≤ 8 ∧ spS nC w S (K + 1) = spS nC w S K ∧ ∀ j, j < K → ¬ spS nC w S (j + 1) = spS nC w S j := by
  have ex : ∃ K, K ≤ 8 ∧ spS nC w S (K + 1) = spS nC w S K := by
    refine Classical.byContradiction fun q => ?_
    have gr : ∀ n, n ≤ 9 → n ≤ cbN (spS nC w S n) nC := by
      intro n
      induction n with
      | zero => omega
      | succ n ih =>
        intro hn
        have h1 := ih (by omega)
        have h2 : ¬ spN nC w (spS nC w S n) = spS nC w S n := fun y => q ⟨n, by omega, y⟩
        have := sp_grow (spS_lt hS n) h2
        rw [spS]; omega
    have h9 := gr 9 (by omega)
    have := cbN_le (spS nC w S 9) nC
    omega
  obtain ⟨K, ⟨hK, e⟩, hmin⟩ := pk_least (fun K => K ≤ 8 ∧ spS nC w S (K + 1) = spS nC w S K) ex
  exact ⟨K, hK, e, fun j hj y => hmin j hj ⟨by omega, y⟩⟩
theorem sp_after {nC : Nat} {w : Nat → Int32} {S K : Nat} (e : spS nC w S (K + 1) = spS nC w S K) : ∀ d, spS nC w S (K + d) = spS nC w S K
  | 0 => rfl
  | d + 1 => by
    show spN nC w (spS nC w S (K + d)) = _
    rw [sp_after e d]
    exact e
section
variable {F : Nat} {x : XS} {m : MS} {am : MA}
theorem ob_spreads (hF : 5000 ≤ F) (p1 p2 : Int32) (h : Rel F x m) : p7_spreads F p1 p2 x (fun r x' => p8_spreads F p1 p2 m (fun r' m' => r = r' ∧ Rel F x' m')) := by
  obtain ⟨nA, nC, R, w, ok, hV, hM, eA, eC, hT, hW, hU, hN, hE, hH, hK⟩ := h
  have hC := ok.2.1
  have pw := pw256 hC
  unfold p7_spreads p_X7_spreads p8_spreads p_X8_spreads
  rw [eC]
  have hV0 := hV
  rw [hV.2.1] at hV0
  rw [hV.2.1]
  rcases arg3 p1 (n := nC) (by omega) with h | ⟨c, hc, rfl⟩
  · exact s6_noCat h (br_t rfl (s8_noCat h (by omega) (br_t rfl ⟨rfl, nA, nC, R, w, ok, hV0, hM, eA, rfl, hT, hW, hU, hN, hE, hH, hK⟩)))
  refine s6_hasCat hC hc (br_f (by decide) ?_)
  rcases arg3 p2 (n := 9 + 1) (by omega) with h | ⟨n, hn, rfl⟩
  · refine rg_no (n := 9) h (by omega) ?_ ?_ <;> exact s8_isCat hc (by omega) (br_f (by decide) (s8_rgno (n := 9) h (by omega) ⟨fun z => absurd rfl z, fun _ => ⟨rfl, nA, nC, R, w, ok, hV0, hM, eA, rfl, hT, hW, hU, hN, hE, hH, hK⟩⟩))
  have hS0 : 2 ^ c < 2 ^ nC := Nat.pow_lt_pow_right (by omega) hc
  obtain ⟨K, hK8, eK, hKm⟩ := sp_rest (w := w) hC hS0
  generalize hSS : spS nC w (2 ^ c) = S at eK hKm
  have S0 : S 0 = 2 ^ c := by rw [← hSS, spS]
  have Ss : ∀ j, S (j + 1) = spN nC w (S j) := fun j => by rw [← hSS, spS]
  have Sl : ∀ j, S j < 2 ^ nC := fun j => by rw [← hSS]; exact spS_lt hS0 j
  have Sa : ∀ j, K ≤ j → S j = S K := fun j hj => by
    have := sp_after (nC := nC) (w := w) (S := 2 ^ c) (K := K) (by rw [hSS]; exact eK) (j - K)
    rw [hSS, show K + (j - K) = j from by omega] at this
    exact this
  -- the model
  have md : ∀ Post : Int32 → (Int32 × Int32 × (Nat → Int64)) → Prop, (∀ s5 f5, RLw ([] ++ [(bcnt (nI (S n))).toInt64] ++ [(nI K).toInt64]) s5 f5 → Post (nI (S n)) (s5, 0, f5)) → p_X8_spreads_32 F (nI c) (nI n) (nI nC) m.f_now m.f_row Post F 0 (1 <<< (nI c &&& 31)) := by
    intro Post kk
    rw [fz_sh1 (by omega), ← S0]
    refine up_loop (fun q i s => p_X8_spreads_32 F (nI c) (nI n) (nI nC) m.f_now m.f_row Post q i s) (fun j s => s = nI (S j)) n ?_ ?_ F (nI (S 0)) 0 rfl (by omega) (by omega)
    · intro q s hs
      subst hs
      show p_X8_spreads_32 F (nI c) (nI n) (nI nC) m.f_now m.f_row Post (q + 1) (nI n) (nI (S n))
      rw [p_X8_spreads_32_s, fz_sh1 (by omega), ← S0]
      refine br_t (nI_le (Nat.le_refl _) (by omega)) ?_
      -- until it rests
      have main : ∀ d j fuel, j + d = K → d < fuel → p_X8_spreads_58 F (nI nC) m.f_now m.f_row (nI (S n)) Post fuel (nI (S j)) (nI j) := by
        intro d
        induction d with
        | zero =>
          intro j fuel h1 h2
          obtain ⟨fu, rfl⟩ : ∃ fu, fuel = fu + 1 := ⟨fuel - 1, by omega⟩
          have : j = K := by omega
          subst this
          rw [p_X8_spreads_58_s]
          refine s8_spread hF hM ok (Sl j) ?_
          rw [← Ss, eK]
          exact br_t rfl (s_bitCount (s8_tell (RL_nil _) (by decide) (fun s5 f5 h5 => s8_tell h5 (by show 1 < 16; omega) (fun s6 f6 h6 => kk _ _ h6))))
        | succ d ih =>
          intro j fuel h1 h2
          obtain ⟨fu, rfl⟩ : ∃ fu, fuel = fu + 1 := ⟨fuel - 1, by omega⟩
          rw [p_X8_spreads_58_s]
          have l1 := Sl j
          have l2 := Sl (j + 1)
          refine s8_spread hF hM ok (Sl j) ?_
          rw [← Ss]
          refine br_f (fun z => hKm j (by omega) ((nI_eq (by omega) (by omega)).1 z)) (s8_spread hF hM ok (Sl j) ?_)
          rw [← Ss, nI_1]
          exact ih (j + 1) fu (by omega) (by omega)
      exact main K 0 F (by omega) (by omega)
    · intro q j s hj hs ih
      subst hs
      show p_X8_spreads_32 F (nI c) (nI n) (nI nC) m.f_now m.f_row Post (q + 1) (nI j) (nI (S j))
      rw [p_X8_spreads_32_s]
      refine br_f (nI_ge hj (by omega)) (s8_spread hF hM ok (Sl j) ?_)
      rw [← Ss]
      exact ih _ rfl
  refine rg_yes (n := 9) hn (by omega) ?_
  rw [fz_sh1 (by omega), ← S0]
  have cl : ∀ Post : Int32 → (Int32 × (Nat → Int64)) → Prop, (∀ s5 f5, RLw ([] ++ [(bcnt (nI (S n))).toInt64] ++ [(nI K).toInt64]) s5 f5 → Post (nI (S n)) (s5, f5)) → p_X7_spreads_36 F (nI n) (nI nC) x.f_now_place x.f_told_numbers Post F 1 0 (nI (S 0)) (nI (S 0)) := by
    intro Post kk
    refine up_loop (fun q i (s : Int32 × Int32 × Int32) => p_X7_spreads_36 F (nI n) (nI nC) x.f_now_place x.f_told_numbers Post q i s.1 s.2.1 s.2.2) (fun j s => ∃ i, j = i + 1 ∧ s.2.2 = nI (S i) ∧ s.2.1 = nI (S (if i ≤ n then i else n)) ∧ s.1 = nI (if i ≤ K then i else K)) 10 ?_ ?_ F (0, nI (S 0), nI (S 0)) 1 ⟨0, rfl, rfl, by rw [if_pos (by omega)], by rw [if_pos (by omega)]; rfl⟩ (by omega) (by omega)
    · rintro q ⟨y5, y4, y3⟩ ⟨i, ei, e1, e2, e3⟩
      have : i = 9 := by omega
      subst this
      have e2' : y4 = nI (S n) := by
        have h : y4 = nI (S (if 9 ≤ n then 9 else n)) := e2
        rw [show (if 9 ≤ n then 9 else n) = n from by split <;> omega] at h
        exact h
      have e3' : y5 = nI K := by
        have h : y5 = nI (if 9 ≤ K then 9 else K) := e3
        rw [show (if 9 ≤ K then 9 else K) = K from by split <;> omega] at h
        exact h
      clear e2 e3
      subst e2' e3'
      show p_X7_spreads_36 F (nI n) (nI nC) x.f_now_place x.f_told_numbers Post (q + 1) (nI 10) (nI K) (nI (S n)) y3
      rw [p_X7_spreads_36_s]
      exact br_t (by decide) (s3_anew (s_bitCount (s3_add (RL_nil _) (by decide) (fun s5 f5 h5 => s3_add h5 (by show 1 < 8; omega) (fun s6 f6 h6 => kk _ _ h6)))))
    · rintro q j ⟨y5, y4, y3⟩ hj ⟨i, ei, e1, e2, e3⟩ ih
      have e1 : y3 = _ := e1
      have e2 : y4 = _ := e2
      have e3 : y5 = _ := e3
      subst e1 e2 e3 ei
      show p_X7_spreads_36 F (nI n) (nI nC) x.f_now_place x.f_told_numbers Post (q + 1) (nI (i + 1)) (nI (if i ≤ K then i else K)) (nI (S (if i ≤ n then i else n))) (nI (S i))
      rw [p_X7_spreads_36_s]
      refine br_f (nI_nlt (a := 9) (b := i + 1) (by omega) (by omega)) (s6_spreadFrom hF hC hV.2.2.2.2.2.2.2.2.2.2 (Sl i) ?_)
      rw [← Ss]
      have l1 := Sl i
      have l2 := Sl (i + 1)
      have g66 : ∀ y5' : Nat, y5' = (if i + 1 ≤ K then i + 1 else K) → p_X7_spreads_66 F (nI n) (nI (S (i + 1))) (nI (i + 1)) (nI (S (if i ≤ n then i else n))) (p_X7_spreads_36 F (nI n) (nI nC) x.f_now_place x.f_told_numbers Post q) Post (nI y5') := by
        intro y5' h5
        unfold p_X7_spreads_66 p_X7_spreads_83
        refine ⟨fun z => ih (nI y5', _, nI (S (i + 1))) ⟨i + 1, rfl, rfl, ?_, by rw [h5]⟩, fun z => ih (nI y5', nI (S (i + 1)), nI (S (i + 1))) ⟨i + 1, rfl, rfl, ?_, by rw [h5]⟩⟩
        · have : n < i + 1 := (nI_ltI (by omega) (by omega)).1 z
          show nI (S (if i ≤ n then i else n)) = nI (S (if i + 1 ≤ n then i + 1 else n))
          rw [show (if i ≤ n then i else n) = (if i + 1 ≤ n then i + 1 else n) from by split <;> split <;> omega]
        · have : ¬ n < i + 1 := fun y => z (nI_lt y (by omega))
          show nI (S (i + 1)) = nI (S (if i + 1 ≤ n then i + 1 else n))
          rw [if_pos (show i + 1 ≤ n by omega)]
      have eqi : nI (S (i + 1)) = nI (S i) ↔ S (i + 1) = S i := nI_eq (by omega) (by omega)
      refine ⟨fun z => g66 _ ?_, fun z => g66 _ ?_⟩
      · have : i < K := by
          refine Classical.byContradiction fun y => z (eqi.2 ?_)
          rw [Sa (i + 1) (by omega), Sa i (by omega)]
        rw [if_pos (by omega)]
      · have : ¬ i < K := fun y => hKm i y (eqi.1 z)
        rw [if_neg (show ¬ i + 1 ≤ K by omega)]
        split <;> omega
  refine cl _ (fun s5 f5 h5 => ?_)
  refine s8_isCat hc (by omega) (br_f (by decide) (s8_rgyes (n := 9) hn (by omega) ⟨fun _ => ?_, fun z => absurd z (by decide)⟩))
  have e1c : (1 : Int32) <<< (nI c &&& 31) = nI (S 0) := by rw [fz_sh1 (by omega), S0]
  rw [← e1c]
  refine md _ (fun s6 f6 h6 => ?_)
  exact ⟨rfl, nA, nC, R, w, ok, hV0, hM, eA, rfl, hT, RWr_of (by show 2 ≤ 8; omega) h5 h6, hU, hN, hE, hH, hK⟩
end
