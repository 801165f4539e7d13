/-! ===== calls: trolley, depot ===== -/
def loT (p : Nat → Bool) (a : Nat) : Nat → Nat
  | 0 => a
  | n + 1 => if p n = true ∧ n < loT p a n then n else loT p a n
def hiT (p : Nat → Bool) (a : Nat) : Nat → Nat
  | 0 => a
  | n + 1 => if p n = true ∧ hiT p a n < n then n else hiT p a n
theorem loT_p (p : Nat → Bool) (a : Nat) : ∀ n, loT p a n ≤ a ∧ (∀ i, i < n → p i = true → loT p a n ≤ i) ∧ (loT p a n = a ∨ (loT p a n < n ∧ p (loT p a n) = true))
  | 0 => ⟨Nat.le_refl _, fun i hi => absurd hi (by omega), Or.inl rfl⟩
  | n + 1 => by
    obtain ⟨h1, h2, h3⟩ := loT_p p a n
    rw [loT]
    by_cases q : p n = true ∧ n < loT p a n
    · rw [if_pos q]
      refine ⟨by omega, fun i hi pi => ?_, Or.inr ⟨by omega, q.1⟩⟩
      rcases Nat.lt_or_ge i n with z | z
      · have := h2 i z pi; omega
      · omega
    · rw [if_neg q]
      refine ⟨h1, fun i hi pi => ?_, ?_⟩
      · rcases Nat.lt_or_ge i n with z | z
        · exact h2 i z pi
        · have : i = n := by omega
          subst this
          exact Nat.le_of_not_lt (fun y => q ⟨pi, y⟩)
      · rcases h3 with h3 | ⟨h3, h4⟩
        · exact Or.inl h3
        · exact Or.inr ⟨by omega, h4⟩
theorem hiT_p (p : Nat → Bool) (a : Nat) : ∀ n, a ≤ hiT p a n ∧ (∀ i, i < n → p i = true → i ≤ hiT p a n) ∧ (hiT p a n = a ∨ (hiT p a n < n ∧ p (hiT p a n) = true))
  | 0 => ⟨Nat.le_refl _, fun i hi => absurd hi (by omega), Or.inl rfl⟩
  | n + 1 => by
    obtain ⟨h1, h2, h3⟩ := hiT_p p a n
    rw [hiT]
    by_cases q : p n = true ∧ hiT p a n < n
    · rw [if_pos q]
      refine ⟨by omega, fun i hi pi => by omega, Or.inr ⟨by omega, q.1⟩⟩
    · rw [if_neg q]
      refine ⟨h1, fun i hi pi => ?_, ?_⟩
      · rcases Nat.lt_or_ge i n with z | z
        · exact h2 i z pi
        · have : i = n := by omega
          subst this
          exact Nat.le_of_not_lt (fun y => q ⟨pi, y⟩)
      · rcases h3 with h3 | ⟨h3, h4⟩
        · exact Or.inl h3
        · exact Or.inr ⟨by omega, h4⟩
def sgP (w : Nat → Int32) : Nat → Bool := fun a => ! decide (w (6 + a) ≤ 0)
def stT (p : Nat → Bool) (nA a : Nat) : Nat := (hiT p a nA - loT p a nA) + (if hiT p a nA - a < a - loT p a nA then hiT p a nA - a else a - loT p a nA)
def enT (p : Nat → Bool) (nA a : Nat) : Nat := if hiT p a nA = a ∨ (loT p a nA < a ∧ hiT p a nA - a ≤ a - loT p a nA) then loT p a nA else hiT p a nA
section
variable {F nA nC : Nat} {w f : Nat → Int32} {arches cats store hour drops : Int32} {load sag joy bowl grief place : Nat → Int32}
theorem mulm1 {a b : Nat} (ha : a < 100) (hb : b < 100) : (nI a - nI b) * (-1) ≤ 0 ↔ b ≤ a := by
  have h1 := pk_sub_toInt (a := a) (b := b) (by omega) (by omega)
  rw [Int32.mul_neg, Int32.mul_one, Int32.neg_sub, sub_le0 (by omega) (by omega)]
theorem mul1 {a b : Nat} (ha : a < 100) (hb : b < 100) : (nI a - nI b) * 1 ≤ 0 ↔ a ≤ b := by
  rw [Int32.mul_one, sub_le0 (by omega) (by omega)]
theorem s6_farL {a : Nat} {Post : Int32 → Prop} (hF : 5000 ≤ F) (hV : AV nA nC w arches cats store hour drops load sag joy bowl grief place) (hA : nA ≤ 6) (ha : a < nA) (k : Post (nI (loT (sgP w) a nA))) : p_X6_farthestSagging F (nI a) (-1) arches sag Post := by
  obtain ⟨rfl, rfl, rfl, rfl, rfl, h1, h2, h3, h4, h5, h6⟩ := hV
  refine up_loop (fun n i s => p_X6_farthestSagging_5 F (-1) (nI nA) sag Post n i s) (fun j s => s = nI (loT (sgP w) a j)) nA ?_ ?_ F (nI a) 0 rfl (by omega) (by omega)
  · intro n s hs
    subst hs
    show p_X6_farthestSagging_5 F (-1) (nI nA) sag Post (n + 1) (nI nA) _
    rw [p_X6_farthestSagging_5_s]
    exact br_t (nI_le (Nat.le_refl _) (by omega)) k
  · intro n j s hj hs ih
    subst hs
    show p_X6_farthestSagging_5 F (-1) (nI nA) sag Post (n + 1) (nI j) _
    have hl := (loT_p (sgP w) a j).1
    rw [p_X6_farthestSagging_5_s, nI_clamp (n := j) (by omega), h2 j (by omega), mulm1 (by omega) (by omega)]
    unfold p_X6_farthestSagging_36
    have ep : sgP w j = ! decide (w (6 + j) ≤ 0) := rfl
    refine br_f (nI_ge hj (by omega)) ⟨pk_in j 6 (by omega), fun z => ih _ ?_, fun z => ⟨fun z2 => ih _ ?_, fun z2 => ih (nI j) ?_⟩⟩
    · rw [loT, if_neg (by rw [ep]; simp [z])]
    · rw [loT, if_neg (by rintro ⟨_, y⟩; omega)]
    · rw [loT, if_pos ⟨by rw [ep]; simp [z], by omega⟩]
theorem s6_farH {a : Nat} {Post : Int32 → Prop} (hF : 5000 ≤ F) (hV : AV nA nC w arches cats store hour drops load sag joy bowl grief place) (hA : nA ≤ 6) (ha : a < nA) (k : Post (nI (hiT (sgP w) a nA))) : p_X6_farthestSagging F (nI a) 1 arches sag Post := by
  obtain ⟨rfl, rfl, rfl, rfl, rfl, h1, h2, h3, h4, h5, h6⟩ := hV
  refine up_loop (fun n i s => p_X6_farthestSagging_5 F 1 (nI nA) sag Post n i s) (fun j s => s = nI (hiT (sgP w) a j)) nA ?_ ?_ F (nI a) 0 rfl (by omega) (by omega)
  · intro n s hs
    subst hs
    show p_X6_farthestSagging_5 F 1 (nI nA) sag Post (n + 1) (nI nA) _
    rw [p_X6_farthestSagging_5_s]
    exact br_t (nI_le (Nat.le_refl _) (by omega)) k
  · intro n j s hj hs ih
    subst hs
    show p_X6_farthestSagging_5 F 1 (nI nA) sag Post (n + 1) (nI j) _
    have hl : hiT (sgP w) a j < 6 := by
      rcases (hiT_p (sgP w) a j).2.2 with e | ⟨e, _⟩ <;> omega
    rw [p_X6_farthestSagging_5_s, nI_clamp (n := j) (by omega), h2 j (by omega), mul1 (by omega) (by omega)]
    unfold p_X6_farthestSagging_36
    have ep : sgP w j = ! decide (w (6 + j) ≤ 0) := rfl
    refine br_f (nI_ge hj (by omega)) ⟨pk_in j 6 (by omega), fun z => ih _ ?_, fun z => ⟨fun z2 => ih _ ?_, fun z2 => ih (nI j) ?_⟩⟩
    · rw [hiT, if_neg (by rw [ep]; simp [z])]
    · rw [hiT, if_neg (by rintro ⟨_, y⟩; omega)]
    · rw [hiT, if_pos ⟨by rw [ep]; simp [z], by omega⟩]
theorem hiT_lt {p : Nat → Bool} {a nA : Nat} (ha : a < nA) : hiT p a nA < nA := by
  rcases (hiT_p p a nA).2.2 with e | ⟨e, _⟩ <;> omega
theorem s7_steps {a : Nat} {Post : Int32 → Prop} {p : Nat → Bool} (hA : nA ≤ 6) (ha : a < nA) (k : Post (nI (stT p nA a))) : p_X7_stepsOf F (nI a) (nI (loT p a nA)) (nI (hiT p a nA)) Post := by
  unfold p_X7_stepsOf
  have h1 := (loT_p p a nA).1
  have h2 := (hiT_p p a nA).1
  have h3 := hiT_lt (p := p) ha
  rw [pk_sub (by omega), pk_sub h2, pk_sub h1]
  unfold stT at k
  rw [← nI_add] at k
  by_cases q : hiT p a nA - a < a - loT p a nA
  · rw [if_pos q] at k; rw [if_pos (nI_lt q (by omega))]; exact k
  · rw [if_neg q] at k; rw [if_neg (nI_nlt (by omega) (by omega))]; exact k
theorem sgP_0 (ok : OK nA nC w) {j : Nat} (hj : j < 6) : w (6 + j) = 0 ↔ ¬ sgP w j = true := by
  obtain ⟨g, hg, eg⟩ := ok.2.2.1 (6 + j) (by omega)
  unfold sgP
  rw [eg]
  have e1 : nI g = 0 ↔ g = 0 := nI_eq (b := 0) (by omega) (by omega)
  have e2 : nI g ≤ 0 ↔ g ≤ 0 := nI_leI (b := 0) (by omega) (by omega)
  rw [e1]
  simp only [Bool.not_eq_true', decide_eq_false_iff_not, Classical.not_not, e2]
  omega
theorem s8_goTrolley {a : Nat} {Post : Int32 → Int32 → Prop} (hF : 5000 ≤ F) (hM : MV w f) (ok : OK nA nC w) (ha : a < nA) (k : Post (nI (stT (sgP w) nA a)) (nI (enT (sgP w) nA a))) : p_X8_goTrolley F (nI a) (nI nA) f Post := by
  have hA := ok.1
  unfold p_X8_goTrolley
  refine up_loop (fun n i (s : Int32 × Int32) => p_X8_goTrolley_7 F (nI a) (nI nA) f Post n i s.1 s.2) (fun j s => (s.1 = -1 ∧ s.2 = -1 ∧ ∀ i, i < j → ¬ sgP w i = true) ∨ (∃ l h, s.2 = nI l ∧ s.1 = nI h ∧ l ≤ h ∧ h < j ∧ sgP w l = true ∧ sgP w h = true ∧ ∀ i, i < j → sgP w i = true → l ≤ i ∧ i ≤ h)) nA ?_ ?_ F (-1, -1) 0 (Or.inl ⟨rfl, rfl, fun i hi => absurd hi (by omega)⟩) (by omega) (by omega)
  · rintro n ⟨y3, y2⟩ hc
    show p_X8_goTrolley_7 F (nI a) (nI nA) f Post (n + 1) (nI nA) y3 y2
    rw [p_X8_goTrolley_7_s]
    refine br_t (nI_le (Nat.le_refl _) (by omega)) ?_
    obtain ⟨l1, l2, l3⟩ := loT_p (sgP w) a nA
    obtain ⟨h1, h2, h3⟩ := hiT_p (sgP w) a nA
    unfold stT enT at k
    rcases hc with ⟨e1, e2, e3⟩ | ⟨l, h, e1, e2, e3, e4, e5, e6, e7⟩
    · have e2 : y2 = -1 := e2
      refine ⟨fun z => absurd e2 z, fun _ => ?_⟩
      have q1 : loT (sgP w) a nA = a := by
        rcases l3 with q | ⟨q, q2⟩
        · exact q
        · exact absurd q2 (e3 _ q)
      have q2 : hiT (sgP w) a nA = a := by
        rcases h3 with q | ⟨q, q2⟩
        · exact q
        · exact absurd q2 (e3 _ q)
      rw [q1, q2, if_pos (Or.inl rfl), Nat.sub_self, if_neg (by omega)] at k
      exact k
    · have e1 : y2 = nI l := e1
      have e2 : y3 = nI h := e2
      subst e1 e2
      have b1 := l2 l (by omega) e5
      have b2 := h2 h (by omega) e6
      have ql : loT (sgP w) a nA = if l < a then l else a := by
        by_cases q : l < a
        · rw [if_pos q]
          rcases l3 with q | ⟨q, q2⟩
          · omega
          · have := (e7 _ q q2).1; omega
        · rw [if_neg q]
          rcases l3 with q | ⟨q, q2⟩
          · exact q
          · have := (e7 _ q q2).1; omega
      have qh : hiT (sgP w) a nA = if a < h then h else a := by
        by_cases q : a < h
        · rw [if_pos q]
          rcases h3 with q | ⟨q, q2⟩
          · omega
          · have := (e7 _ q q2).2; omega
        · rw [if_neg q]
          rcases h3 with q | ⟨q, q2⟩
          · exact q
          · have := (e7 _ q q2).2; omega
      rw [ql, qh] at k
      have fin : ∀ (s t : Nat), s < 1000 → t < 1000 → (if s < t then s else t) = ((if a < h then h else a) - (if l < a then l else a)) + (if (if a < h then h else a) - a < a - (if l < a then l else a) then (if a < h then h else a) - a else a - (if l < a then l else a)) → (if s < t then h else l) = (if (if a < h then h else a) = a ∨ ((if l < a then l else a) < a ∧ (if a < h then h else a) - a ≤ a - (if l < a then l else a)) then (if l < a then l else a) else (if a < h then h else a)) → p_X8_goTrolley_133 F (nI s) (nI h) (nI l) Post (nI t) := by
        intro s t hs ht f1 f2
        unfold p_X8_goTrolley_133 p_X8_goTrolley_148
        rw [← f1, ← f2] at k
        refine ⟨fun z => ?_, fun z => ?_⟩
        · have z' : s < t := (nI_ltI (by omega) (by omega)).1 z
          rw [if_pos z', if_pos z'] at k; rw [if_pos z]; exact k
        · have z' : ¬ s < t := fun y => z (nI_lt y (by omega))
          rw [if_neg z', if_neg z'] at k; rw [if_neg z]; exact k
      have nz : ∀ z, z < 100 → (if (0 : Int32) ≤ nI z then nI z else 0 - nI z) = nI z := fun z hz => if_pos (nI_pos' (by omega))
      refine ⟨fun _ => ?_, fun z => absurd z (fun z => by have := nI_pos (n := l) (by omega); rw [z] at this; exact this (by decide))⟩
      unfold p_X8_goTrolley_118
      have la : nI l < nI a ↔ l < a := nI_ltI (by omega) (by omega)
      have ah : nI a < nI h ↔ a < h := nI_ltI (by omega) (by omega)
      by_cases q1 : l < a
      · refine br_t (la.2 q1) ?_
        rw [if_pos (la.2 q1), pk_sub (by omega), nz _ (by omega), nI_add, pk_sub (by omega)]
        by_cases q2 : a < h
        · refine br_t (ah.2 q2) ?_
          rw [if_pos (ah.2 q2), pk_sub (by omega), nz _ (by omega), nI_add, pk_sub (by omega)]
          refine fin _ _ (by omega) (by omega) ?_ ?_
          · rw [if_pos q1, if_pos q2]; split <;> split <;> omega
          · rw [if_pos q1, if_pos q2]; split <;> split <;> omega
        · refine br_f (fun z => q2 (ah.1 z)) ?_
          refine fin _ _ (by omega) (by omega) ?_ ?_
          · rw [if_pos q1, if_neg q2]; split <;> split <;> omega
          · rw [if_pos q1, if_neg q2]; split <;> split <;> omega
      · refine br_f (fun z => q1 (la.1 z)) ?_
        by_cases q2 : a < h
        · rw [pk_sub (by omega)]
          refine br_t (ah.2 q2) ?_
          rw [if_pos (ah.2 q2), pk_sub (by omega), nz _ (by omega), nI_add, pk_sub (by omega)]
          refine fin _ _ (by omega) (by omega) ?_ ?_
          · rw [if_neg q1, if_pos q2]; split <;> split <;> omega
          · rw [if_neg q1, if_pos q2]; split <;> split <;> omega
        · rw [pk_sub (by omega)]
          refine br_f (fun z => q2 (ah.1 z)) ?_
          rw [pk_sub (by omega)]
          refine fin _ _ (by omega) (by omega) ?_ ?_
          · rw [if_neg q1, if_neg q2]; split <;> split <;> omega
          · rw [if_neg q1, if_neg q2]; split <;> split <;> omega
  · rintro n j ⟨y3, y2⟩ hj hc ih
    show p_X8_goTrolley_7 F (nI a) (nI nA) f Post (n + 1) (nI j) y3 y2
    rw [p_X8_goTrolley_7_s, cc6 (by omega), hM (6 + j) (by omega), sgP_0 ok (by omega)]
    unfold p_X8_goTrolley_43 p_X8_goTrolley_47
    refine br_f (nI_ge hj (by omega)) ⟨ci6 (by omega), fun z => ⟨fun z2 => ?_, fun z2 => ?_⟩, fun z => ?_⟩
    · have pj : sgP w j = true := Classical.byContradiction z
      rcases hc with ⟨e1, e2, e3⟩ | ⟨l, h, e1, e2, e3, e4, e5, e6, e7⟩
      · exact absurd e2 z2
      · refine ih (nI j, y2) (Or.inr ⟨l, j, e1, rfl, by omega, by omega, e5, pj, fun i hi pi => ?_⟩)
        rcases Nat.lt_or_ge i j with y | y
        · have := e7 i y pi; omega
        · omega
    · have pj : sgP w j = true := Classical.byContradiction z
      rcases hc with ⟨e1, e2, e3⟩ | ⟨l, h, e1, e2, e3, e4, e5, e6, e7⟩
      · refine ih (nI j, nI j) (Or.inr ⟨j, j, rfl, rfl, Nat.le_refl _, by omega, pj, pj, fun i hi pi => ?_⟩)
        rcases Nat.lt_or_ge i j with y | y
        · exact absurd pi (e3 i y)
        · omega
      · have e1 : y2 = nI l := e1
        rw [e1] at z2
        exact absurd z2 (fun z => by have := nI_pos (n := l) (by omega); rw [z] at this; exact this (by decide))
    · rcases hc with ⟨e1, e2, e3⟩ | ⟨l, h, e1, e2, e3, e4, e5, e6, e7⟩
      · refine ih (y3, y2) (Or.inl ⟨e1, e2, fun i hi => ?_⟩)
        rcases Nat.lt_or_ge i j with y | y
        · exact e3 i y
        · rw [show i = j from by omega]; exact z
      · refine ih (y3, y2) (Or.inr ⟨l, h, e1, e2, e3, by omega, e5, e6, fun i hi pi => ?_⟩)
        rcases Nat.lt_or_ge i j with y | y
        · exact e7 i y pi
        · rw [show i = j from by omega] at pi; exact absurd pi z
end
section
variable {F : Nat} {x : XS} {m : MS} {am : MA}
theorem ob_trolley (hF : 5000 ≤ F) (p1 : Int32) (h : Rel F x m) : p7_trolley F p1 x (fun r x' => p8_trolley F p1 m (fun r' m' => r = r' ∧ Rel F x' m')) := by
  obtain ⟨nA, nC, R, w, ok, hV, hM, eA, eC, hT, hW, hU, hN, hE, hH, hK⟩ := h
  have hA := ok.1
  unfold p7_trolley p_X7_trolley p8_trolley p_X8_trolley
  rw [eA]
  rcases arg3 p1 (n := nA) (by omega) with h | ⟨a, ha, rfl⟩
  · rw [hV.1]
    exact s6_noArch h ⟨fun z => absurd rfl z, fun _ => s8_noArch h (by omega) ⟨fun z => absurd rfl z, fun _ => ⟨rfl, nA, nC, R, w, ok, ⟨rfl, hV.2⟩, hM, rfl, eC, hT, hW, hU, hN, hE, hH, hK⟩⟩⟩
  have l1 := (loT_p (sgP w) a nA).1
  have h1 := (hiT_p (sgP w) a nA).1
  have h3 := hiT_lt (p := sgP w) ha
  have has : ∀ Post : Int32 → Prop, Post 1 → p_X6_hasArch F (nI a) x.x_now_arches Post := fun Post kk => by rw [hV.1]; exact s6_hasArch hA ha kk
  refine has _ ⟨fun _ => s6_farL hF hV hA ha (s6_farH hF hV hA ha ?_), fun z => absurd z (by decide)⟩
  have eq1 : nI (hiT (sgP w) a nA) = nI a ↔ hiT (sgP w) a nA = a := nI_eq (by omega) (by omega)
  have le1 : nI a ≤ nI (loT (sgP w) a nA) ↔ a ≤ loT (sgP w) a nA := nI_leI (by omega) (by omega)
  have lt1 : nI a - nI (loT (sgP w) a nA) < nI (hiT (sgP w) a nA) - nI a ↔ a - loT (sgP w) a nA < hiT (sgP w) a nA - a := by
    rw [pk_sub l1, pk_sub h1]; exact nI_ltI (by omega) (by omega)
  unfold p_X7_trolley_52 p_X7_trolley_56 p_X7_trolley_57 p_X7_trolley_78
  have low : enT (sgP w) nA a = loT (sgP w) a nA → ∀ s5 f5, RLw ([] ++ [(nI (loT (sgP w) a nA)).toInt64]) s5 f5 → RLw ([] ++ [(nI (enT (sgP w) nA a)).toInt64]) s5 f5 := fun e s5 f5 q => by rw [e]; exact q
  have high : enT (sgP w) nA a = hiT (sgP w) a nA → ∀ s5 f5, RLw ([] ++ [(nI (hiT (sgP w) a nA)).toInt64]) s5 f5 → RLw ([] ++ [(nI (enT (sgP w) nA a)).toInt64]) s5 f5 := fun e s5 f5 q => by rw [e]; exact q
  refine ⟨fun z => ?_, fun z => ⟨fun z2 => ?_, fun z2 => ⟨fun z3 => ?_, fun z3 => ?_⟩⟩⟩
  · have e : enT (sgP w) nA a = loT (sgP w) a nA := by unfold enT; rw [if_pos (Or.inl (eq1.1 z))]
    refine s3_anew (br_f (by decide) (s3_add (RL_nil _) (by decide) (fun s5 f5 h5 => s7_steps hA ha ?_)))
    refine s8_isArch ha (by omega) ⟨fun _ => s8_goTrolley hF hM ok ha (s8_tell (RL_nil _) (by decide) (fun s6 f6 h6 => ?_)), fun z => absurd z (by decide)⟩
    exact ⟨rfl, nA, nC, R, w, ok, hV, hM, rfl, eC, hT, RWr_of (by show 1 ≤ 8; omega) (low e _ _ h5) h6, hU, hN, hE, hH, hK⟩
  · have e : enT (sgP w) nA a = hiT (sgP w) a nA := by
      unfold enT; rw [if_neg]; rintro (y | y)
      · exact z (eq1.2 y)
      · have := le1.1 z2; omega
    refine s3_anew (br_t rfl (s3_add (RL_nil _) (by decide) (fun s5 f5 h5 => s7_steps hA ha ?_)))
    refine s8_isArch ha (by omega) ⟨fun _ => s8_goTrolley hF hM ok ha (s8_tell (RL_nil _) (by decide) (fun s6 f6 h6 => ?_)), fun z => absurd z (by decide)⟩
    exact ⟨rfl, nA, nC, R, w, ok, hV, hM, rfl, eC, hT, RWr_of (by show 1 ≤ 8; omega) (high e _ _ h5) h6, hU, hN, hE, hH, hK⟩
  · have e : enT (sgP w) nA a = hiT (sgP w) a nA := by
      unfold enT; rw [if_neg]; rintro (y | y)
      · exact z (eq1.2 y)
      · have := lt1.1 z3; omega
    refine s3_anew (br_t rfl (s3_add (RL_nil _) (by decide) (fun s5 f5 h5 => s7_steps hA ha ?_)))
    refine s8_isArch ha (by omega) ⟨fun _ => s8_goTrolley hF hM ok ha (s8_tell (RL_nil _) (by decide) (fun s6 f6 h6 => ?_)), fun z => absurd z (by decide)⟩
    exact ⟨rfl, nA, nC, R, w, ok, hV, hM, rfl, eC, hT, RWr_of (by show 1 ≤ 8; omega) (high e _ _ h5) h6, hU, hN, hE, hH, hK⟩
  · have e : enT (sgP w) nA a = loT (sgP w) a nA := by
      have b1 : ¬ a ≤ loT (sgP w) a nA := fun y => z2 (le1.2 y)
      have b2 : ¬ a - loT (sgP w) a nA < hiT (sgP w) a nA - a := fun y => z3 (lt1.2 y)
      unfold enT; rw [if_pos (Or.inr ⟨by omega, by omega⟩)]
    refine s3_anew (br_f (by decide) (s3_add (RL_nil _) (by decide) (fun s5 f5 h5 => s7_steps hA ha ?_)))
    refine s8_isArch ha (by omega) ⟨fun _ => s8_goTrolley hF hM ok ha (s8_tell (RL_nil _) (by decide) (fun s6 f6 h6 => ?_)), fun z => absurd z (by decide)⟩
    exact ⟨rfl, nA, nC, R, w, ok, hV, hM, rfl, eC, hT, RWr_of (by show 1 ≤ 8; omega) (low e _ _ h5) h6, hU, hN, hE, hH, hK⟩
def dpN (T : Nat → Nat) : Nat → Nat
  | 0 => 0
  | n + 1 => if T (dpN T n) ≤ T (n + 1) then dpN T n else n + 1
theorem dpN_le (T : Nat → Nat) : ∀ n, dpN T n ≤ n
  | 0 => Nat.le_refl _
  | n + 1 => by
    have := dpN_le T n
    rw [dpN]; split <;> omega
theorem stT_lt {p : Nat → Bool} {a nA : Nat} (hA : nA ≤ 6) (ha : a < nA) : stT p nA a < 100 := by
  have h3 := hiT_lt (p := p) ha
  unfold stT
  split <;> omega
theorem ob_depot (hF : 5000 ≤ F) (h : Rel F x m) : p7_depot F x (fun r x' => p8_depot F m (fun r' m' => r = r' ∧ Rel F x' m')) := by
  obtain ⟨nA, nC, R, w, ok, hV, hM, eA, eC, hT, hW, hU, hN, hE, hH, hK⟩ := h
  have hA := ok.1
  generalize hTT : stT (sgP w) nA = T
  have tl : ∀ a, a < nA → T a < 100 := fun a ha => by rw [← hTT]; exact stT_lt hA ha
  unfold p7_depot p_X7_depot
  refine up_loop (fun q i (s : Int32 × Int32) => p_X7_depot_7 F x.x_now_arches x.f_now_sag x.x_told_size x.f_told_numbers _ q i s.1 s.2) (fun j s => (j = 0 ∧ s.2 = -2) ∨ ∃ i, j = i + 1 ∧ s.1 = nI (T (dpN T i)) ∧ s.2 = nI (dpN T i)) nA ?_ ?_ F (0, -2) 0 (Or.inl ⟨rfl, rfl⟩) (by omega) (by omega)
  · rintro q ⟨a1, a2⟩ ec
    show p_X7_depot_7 F x.x_now_arches x.f_now_sag x.x_told_size x.f_told_numbers _ (q + 1) (nI nA) a1 a2
    rw [p_X7_depot_7_s]
    refine br_t (by rw [hV.1]; exact nI_le (Nat.le_refl _) (by omega)) ?_
    rcases ec with ⟨e0, e1⟩ | ⟨i, e0, e1, e2⟩
    · have e1 : a2 = -2 := e1
      refine s7_told (Or.inl e1) (fun _ => ?_) (fun z => absurd e1 z)
      unfold p8_depot p_X8_depot
      exact ⟨fun z => absurd (by rw [eA, e0]; rfl) z, fun _ => ⟨rfl, nA, nC, R, w, ok, hV, hM, eA, eC, hT, hW, hU, hN, hE, hH, hK⟩⟩
    · have e1 : a1 = _ := e1
      have e2 : a2 = _ := e2
      subst e1 e2
      have hle := dpN_le T i
      refine s7_told (Or.inr ⟨_, by omega, rfl⟩) (fun z => absurd z (nI_ne_m2 (by omega))) (fun _ s5 f5 h5 => ?_)
      unfold p8_depot p_X8_depot
      rw [eA]
      refine ⟨fun _ => ?_, fun z => absurd z (nI_ne0 (by omega) (by omega))⟩
      refine up_loop (fun q i (s : Int32 × Int32) => p_X8_depot_19 F (nI nA) m.f_now m.f_row _ q i s.1 s.2) (fun j s => ∃ i, j = i + 1 ∧ s.1 = nI (dpN T i)) nA ?_ ?_ F (0, m.x_trolleyEnd) 1 ⟨0, rfl, rfl⟩ (by omega) (by omega)
      · rintro q ⟨b, u1⟩ ⟨i2, e3, e4⟩
        have : i2 = i := by omega
        subst this
        have e4 : b = _ := e4
        subst e4
        show p_X8_depot_19 F (nI nA) m.f_now m.f_row _ (q + 1) (nI nA) (nI (dpN T i2)) u1
        rw [p_X8_depot_19_s]
        refine br_t (nI_le (Nat.le_refl _) (by omega)) (s8_goTrolley hF hM ok (by omega) ?_)
        rw [hTT]
        refine s8_tell (RL_nil _) (by decide) (fun s6 f6 h6 => ?_)
        exact ⟨rfl, nA, nC, R, w, ok, hV, hM, rfl, eC, hT, RWr_of (by show 1 ≤ 8; omega) h5 h6, hU, hN, hE, hH, hK⟩
      · rintro q j ⟨b, u1⟩ hj ⟨i2, e3, e4⟩ ih
        subst e3
        have e4 : b = _ := e4
        subst e4
        have hle2 := dpN_le T i2
        show p_X8_depot_19 F (nI nA) m.f_now m.f_row _ (q + 1) (nI (i2 + 1)) (nI (dpN T i2)) u1
        rw [p_X8_depot_19_s]
        refine br_f (nI_ge hj (by omega)) (s8_goTrolley hF hM ok hj (s8_goTrolley hF hM ok (by omega) ?_))
        rw [hTT]
        have t1 := tl (i2 + 1) hj
        have t2 := tl (dpN T i2) (by omega)
        rw [nI_leI (by omega) (by omega)]
        unfold p_X8_depot_45
        refine ⟨fun z => ih (nI (dpN T i2), _) ⟨i2 + 1, rfl, ?_⟩, fun z => ih (nI (i2 + 1), _) ⟨i2 + 1, rfl, ?_⟩⟩
        · show _ = nI (if _ then _ else _); rw [if_pos z]
        · show _ = nI (if _ then _ else _); rw [if_neg z]
  · rintro q j ⟨a1, a2⟩ hj ec ih
    show p_X7_depot_7 F x.x_now_arches x.f_now_sag x.x_told_size x.f_told_numbers _ (q + 1) (nI j) a1 a2
    rw [p_X7_depot_7_s]
    refine br_f (by rw [hV.1]; exact nI_ge hj (by omega)) (s6_farL hF hV hA hj (s6_farH hF hV hA hj (s7_steps hA hj ?_)))
    rw [hTT]
    unfold p_X7_depot_54 p_X7_depot_59
    rcases ec with ⟨e0, e1⟩ | ⟨i, e0, e1, e2⟩
    · have e1 : a2 = -2 := e1
      subst e0
      exact br_t e1 (ih (nI (T 0), nI 0) (Or.inr ⟨0, rfl, rfl, rfl⟩))
    · have e1 : a1 = _ := e1
      have e2 : a2 = _ := e2
      subst e1 e2 e0
      have hle := dpN_le T i
      have t1 := tl (i + 1) hj
      have t2 := tl (dpN T i) (by omega)
      rw [nI_leI (by omega) (by omega)]
      refine br_f (nI_ne_m2 (by omega)) ⟨fun z => ih (nI (T (dpN T i)), nI (dpN T i)) (Or.inr ⟨i + 1, rfl, ?_, ?_⟩), fun z => ih (nI (T (i + 1)), nI (i + 1)) (Or.inr ⟨i + 1, rfl, ?_, ?_⟩)⟩
      · show _ = nI (T (if _ then _ else _)); rw [if_pos z]
      · show _ = nI (if _ then _ else _); rw [if_pos z]
      · show _ = nI (T (if _ then _ else _)); rw [if_neg z]
      · show _ = nI (if _ then _ else _); rw [if_neg z]
end
