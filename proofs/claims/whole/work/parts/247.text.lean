/-! ===== texts: the class's signs, the model's bytes ===== -/
def TXc (t : Nat) (b : Nat → Nat) (len : Int32) (s : Nat → Int32) : Prop := t ≤ 80 ∧ len = nI t ∧ ∀ i, i < t → b i < 256 ∧ s i = nI (b i)
def TXm (t : Nat) (b : Nat → Nat) (f : Nat → Int32) : Prop := t ≤ 80 ∧ ∀ i, i < t → b i < 256 ∧ f i = (nI (b i)).toInt8.toInt32
theorem TXr_split {l1 l2 : Int32} {s1 s2 : Nat → Int32} (h : TXr l1 s1 l2 s2) : ∃ t b, TXc t b l1 s1 ∧ TXm t b s2 ∧ l2 = nI t := by
  obtain ⟨t, b, ht, e1, e2, hb⟩ := h
  exact ⟨t, b, ⟨ht, e1, fun i hi => ⟨(hb i hi).1, (hb i hi).2.1⟩⟩, ⟨ht, fun i hi => ⟨(hb i hi).1, (hb i hi).2.2⟩⟩, e2⟩
theorem TXr_0 {s1 s2 : Nat → Int32} : TXr 0 s1 0 s2 := ⟨0, fun _ => 0, by omega, rfl, rfl, fun i hi => absurd hi (by omega)⟩
def isD (c : Nat) : Prop := 48 ≤ c ∧ c ≤ 57
section
variable {F t : Nat} {b : Nat → Nat} {len : Int32} {s f : Nat → Int32}
theorem s5_at {i : Nat} {Post : Int32 → Prop} (hT : TXc t b len s) (hi : i < t) (k : Post (nI (b i))) : p_X5_at F (nI i) len s Post := by
  obtain ⟨ht, rfl, h⟩ := hT
  unfold p_X5_at
  refine br_f (nI_pos (by omega)) (br_f (nI_ge hi (by omega)) (br_f (nI_ge (b := 80) (by omega) (by omega)) ⟨pk_in i 80 (by omega), ?_⟩))
  rw [nI_clamp (n := i) (by omega), (h i hi).2]
  exact k
theorem s5_atN {i : Nat} {Post : Int32 → Prop} (hT : TXc t b len s) (hi : t ≤ i) (hi2 : i < 1000) (k : Post (-1)) : p_X5_at F (nI i) len s Post := by
  obtain ⟨ht, rfl, h⟩ := hT
  unfold p_X5_at
  exact br_f (nI_pos (by omega)) (br_t (nI_le hi (by omega)) k)
theorem s5_digit {i : Nat} {Post : Int32 → Prop} (hT : TXc t b len s) (hi : i < t) (k1 : isD (b i) → Post (nI (b i - 48))) (k0 : ¬ isD (b i) → Post (-1)) : p_X5_digit F (nI i) len s Post := by
  have hb := (hT.2.2 i hi).1
  unfold p_X5_digit
  refine s5_at hT hi ⟨fun z => k0 ?_, fun z => ⟨fun z2 => k0 ?_, fun z2 => ?_⟩⟩
  · have : b i < 48 := (nI_ltI (b := 48) (by omega) (by omega)).1 z
    rintro ⟨q, _⟩; omega
  · have : 57 < b i := (nI_ltI (a := 57) (by omega) (by omega)).1 z2
    rintro ⟨_, q⟩; omega
  · have h1 : ¬ b i < 48 := fun y => z (nI_lt (b := 48) y (by omega))
    have h2 : ¬ 57 < b i := fun y => z2 (nI_lt (a := 57) y (by omega))
    rw [show nI (b i) - 48 = nI (b i - 48) from pk_sub (b := 48) (by omega)]
    exact k1 ⟨by omega, by omega⟩
theorem s5_digitN {i : Nat} {Post : Int32 → Prop} (hT : TXc t b len s) (hi : t ≤ i) (hi2 : i < 1000) (k0 : Post (-1)) : p_X5_digit F (nI i) len s Post := by
  unfold p_X5_digit
  exact s5_atN hT hi hi2 (br_t (by decide) k0)
theorem m1_ne {n : Nat} (h : n < 1000) : ¬ nI n = -1 := fun z => by
  have := nI_pos (n := n) (by omega); rw [z] at this; exact this (by decide)
/-! the model -/
theorem s8_fine {Post : Int32 → Prop} (k : Post 1) : p_X8_fine F (-1) Post := ⟨fun z => absurd rfl z, fun _ => k⟩
theorem s8_fineN {wr : Int32} {Post : Int32 → Prop} (h : ¬ wr = -1) (k : Post 0) : p_X8_fine F wr Post := ⟨fun _ => k, fun z => absurd z h⟩
theorem s8_fault {p : Int32} {Post : Int32 → Prop} (k : Post p) : p_X8_fault F p (-1) Post := s8_fine (br_f (by decide) k)
theorem s8_faultN {p wr : Int32} {Post : Int32 → Prop} (h : ¬ wr = -1) (k : Post wr) : p_X8_fault F p wr Post := s8_fineN h (br_t rfl k)
theorem s8_here {at0 top N : Nat} {Post : Int32 → Prop} (hT : TXm t b f) (h1 : at0 < t) (h2 : at0 < top) (h3 : top < 1000) (hN : t ≤ N) (hN2 : N < 1000) (k : Post (nI (b at0))) : p_X8_here F (nI t) (nI top) (nI at0) N f Post := by
  obtain ⟨ht, h⟩ := hT
  unfold p_X8_here
  refine br_f (nI_ge h1 (by omega)) (br_f (nI_ge h2 (by omega)) ⟨pk_in at0 N (by omega), ?_⟩)
  rw [nI_clamp (n := at0) (by omega), (h at0 h1).2, sc_k8 _ (h at0 h1).1]
  exact k
theorem s8_hereN {at0 top N : Nat} {Post : Int32 → Prop} (ht : t < 1000) (h : ¬ (at0 < t ∧ at0 < top)) (h2 : top < 1000) (h3 : at0 < 1000) (k : Post (-1)) : p_X8_here F (nI t) (nI top) (nI at0) N f Post := by
  unfold p_X8_here
  rcases Nat.lt_or_ge at0 t with q | q
  · exact br_f (nI_ge q (by omega)) (br_t (nI_le (by omega) (by omega)) k)
  · exact br_t (nI_le q (by omega)) k
theorem byte_small : ∀ n, n < 128 → (nI n).toInt8.toInt32 = nI n := by decide +kernel
theorem s8_oneOf {fst many at0 top N : Nat} {Post : Int32 → (Int32 × Int32) → Prop} (hT : TXm t b f) (h1 : at0 < t) (h2 : at0 < top) (h3 : top < 1000) (hN : t ≤ N) (hN2 : N < 1000) (hf : fst ≤ b at0) (hm : b at0 < fst + many) (hs : fst + many ≤ 128) (k : Post (nI (b at0 - fst)) (nI (at0 + 1), -1)) : p_X8_oneOf F (nI fst) (nI many) (nI t) (nI top) (nI at0) (-1) N f Post := by
  have ht := hT.1
  unfold p_X8_oneOf
  refine s8_fine ⟨fun _ => s8_here hT h1 h2 h3 hN hN2 ?_, fun z => absurd z (by decide)⟩
  obtain ⟨z, hz⟩ : ∃ z, fst + many = z + 1 := ⟨fst + many - 1, by omega⟩
  rw [nI_add, hz, nI_pred]
  refine s8_in hf (by omega) (by omega) ⟨fun _ => ?_, fun z => absurd z (by decide)⟩
  rw [nI_1, nI_pred, nI_clamp (n := at0) (by omega), (hT.2 at0 h1).2, byte_small _ (by omega), pk_sub hf]
  exact ⟨pk_in at0 N (by omega), k⟩
theorem s8_oneOfB {fst many at0 top N : Nat} {Post : Int32 → (Int32 × Int32) → Prop} (hT : TXm t b f) (h : ¬ (at0 < t ∧ at0 < top ∧ fst ≤ b at0 ∧ b at0 < fst + many)) (h0 : 0 < fst) (h3 : top < 1000) (ha : at0 < 1000) (hN : t ≤ N) (hN2 : N < 1000) (hs : fst + many ≤ 1000) (k : Post 0 (nI at0, nI at0)) : p_X8_oneOf F (nI fst) (nI many) (nI t) (nI top) (nI at0) (-1) N f Post := by
  have ht := hT.1
  unfold p_X8_oneOf
  obtain ⟨z, hz⟩ : ∃ z, fst + many = z + 1 := ⟨fst + many - 1, by omega⟩
  rw [nI_add, hz, nI_pred]
  refine s8_fine ⟨fun _ => ?_, fun z => absurd z (by decide)⟩
  have fin : ∀ c : Int32, (c < nI fst ∨ nI z < c) → p_X8_in F c (nI fst) (nI z) (fun r_19 => (¬ r_19 = 0 → (vp_in ((nI at0 + 1) - 1) N ∧ (Post ((f ((nI at0 + 1) - 1).toNatClampNeg) - nI fst) ((nI at0 + 1), -1)))) ∧ (r_19 = 0 → (p_X8_fault F (nI at0) (-1) (fun u_30 => (Post 0 (nI at0, u_30)))))) := by
    intro c hc
    exact s8_nin hc ⟨fun z => absurd rfl z, fun _ => s8_fault k⟩
  by_cases q : at0 < t ∧ at0 < top
  · refine s8_here hT q.1 q.2 h3 hN hN2 (fin _ ?_)
    have hb := (hT.2 at0 q.1).1
    rcases Nat.lt_or_ge (b at0) fst with y | y
    · exact Or.inl (nI_lt y (by omega))
    · exact Or.inr (nI_lt (by omega) (by omega))
  · refine s8_hereN (by omega) q h3 ha (fin _ (Or.inl ?_))
    have : ¬ nI fst ≤ -1 := by
      intro y
      rw [Int32.le_iff_toInt_le, nI_toInt (by omega)] at y
      have : (-1 : Int32).toInt = -1 := by decide
      omega
    exact le_or_lt this
theorem s8_oneOfW {p q len top at0 wr : Int32} {N : Nat} {Post : Int32 → (Int32 × Int32) → Prop} (h : ¬ wr = -1) (k : Post 0 (at0, wr)) : p_X8_oneOf F p q len top at0 wr N f Post := by
  unfold p_X8_oneOf
  exact s8_fineN h ⟨fun z => absurd rfl z, fun _ => k⟩
theorem s8_right {at0 : Nat} {Post : Int32 → Int32 → Prop} (ht : t < 1000) (h : t ≤ at0) (ha : at0 < 1000) (k : Post 1 (-1)) : p_X8_wasRight F (nI t) (nI at0) (-1) Post := by
  unfold p_X8_wasRight p_X8_wasRight_19
  exact br_t (nI_le h (by omega)) (s8_fine ⟨Or.inr rfl, k⟩)
theorem s8_rightB {at0 : Nat} {Post : Int32 → Int32 → Prop} (ht : t < 1000) (h : at0 < t) (k : Post 0 (nI at0)) : p_X8_wasRight F (nI t) (nI at0) (-1) Post := by
  unfold p_X8_wasRight p_X8_wasRight_19
  exact br_f (nI_ge h (by omega)) (s8_fault (s8_fineN (m1_ne (by omega)) ⟨Or.inl rfl, k⟩))
theorem s8_rightW {len at0 wr : Int32} {Post : Int32 → Int32 → Prop} (h : ¬ wr = -1) (k : Post 0 wr) : p_X8_wasRight F len at0 wr Post := by
  unfold p_X8_wasRight p_X8_wasRight_19
  exact ⟨fun _ => s8_fineN h ⟨Or.inl rfl, k⟩, fun _ => s8_faultN h (s8_fineN h ⟨Or.inl rfl, k⟩)⟩
end
