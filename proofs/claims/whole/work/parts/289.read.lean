/-! ===== the rule: the class reads a text ===== -/
section
variable {F p c op dg : Nat} {st : List Int32} {sk : List Nat} {cm : Nat → Bool} {wt : Bool} {size top opn comp dig wants : Int32} {steps stack : Nat → Int32}
theorem s4_takes (hF : 5000 ≤ F) (hp : p < 40) (hc : c < 256) (h : CR p st sk op cm dg wt size top opn comp dig wants steps stack) {Post : Int32 → (Int32 × Int32 × Int32 × Int32 × Int32 × Int32 × (Nat → Int32) × (Nat → Int32)) → Prop} (kn : tk c st sk op cm dg wt = none → ∀ u, Post 0 u)
    (ks : ∀ st2 sk2 op2 cm2 dg2 wt2, tk c st sk op cm dg wt = some (st2, sk2, op2, cm2, dg2, wt2) → ∀ size2 top2 opn2 comp2 dig2 wants2 steps2 stack2, CR (p + 1) st2 sk2 op2 cm2 dg2 wt2 size2 top2 opn2 comp2 dig2 wants2 steps2 stack2 → Post 1 (size2, top2, opn2, comp2, dig2, wants2, steps2, stack2)) :
    p_X4_takes F (nI c) size top opn comp dig wants steps stack Post := by
  have g21 : ¬ (48 ≤ c ∧ c ≤ 57) → p_X4_takes_21 F (nI c) size top opn comp wants steps stack Post := by
    intro nd
    unfold p_X4_takes_21
    have ew := h.2.2.2.2.2.2.2.2.2.2.1
    cases wt with
    | true =>
      have ew : wants = 1 := ew
      refine ⟨fun z => absurd (ew.symm.trans z) (by decide), fun _ => ?_⟩
      exact s4_thing hp hc nd h (fun z u => ⟨Or.inl rfl, kn z _⟩) (fun st2 sk2 op2 cm2 wt2 z a1 a2 a3 a4 a5 a6 a7 h2 => ⟨Or.inr rfl, ks _ _ _ _ _ _ z _ _ _ _ _ _ _ _ h2⟩)
    | false =>
      have ew : wants = 0 := ew
      refine ⟨fun _ => ?_, fun z => absurd ew z⟩
      exact s4_behind hF hp hc nd h (fun z u => ⟨Or.inl rfl, kn z _⟩) (fun st2 sk2 op2 cm2 wt2 z a1 a2 a3 a4 a5 a6 a7 h2 => ⟨Or.inr rfl, ks _ _ _ _ _ _ z _ _ _ _ _ _ _ _ h2⟩)
  unfold p_X4_takes
  refine ⟨fun z => g21 (fun y => ?_), fun z1 => ⟨fun z => g21 (fun y => ?_), fun z2 => ?_⟩⟩
  · have := (nI_ltI (a := c) (b := 48) (by omega) (by omega)).1 z
    omega
  · have := (nI_ltI (a := 57) (b := c) (by omega) (by omega)).1 z
    omega
  · have y1 : 48 ≤ c := by
      apply Decidable.byContradiction
      intro y
      exact z1 (nI_lt (b := 48) (by omega) (by omega))
    have y2 : c ≤ 57 := by
      apply Decidable.byContradiction
      intro y
      exact z2 (nI_lt (a := 57) (by omega) (by omega))
    obtain ⟨h1, h2, h3, h4, h5, rfl, rfl, rfl, hcm, rfl, ew, h6, h7⟩ := h
    have ed : nI c - 48 = nI (c - 48) := pk_sub (b := 48) y1
    unfold tk at kn ks
    rw [if_pos ⟨y1, y2⟩] at kn ks
    unfold p_X4_takesDigit
    rw [ed]
    cases wt with
    | true =>
      have ew : wants = 1 := ew
      rw [if_pos rfl] at ks
      refine ⟨fun z => absurd (ew.symm.trans z) (by decide), fun _ => s4_addStep (by omega) h6 (fun f2 h8 => ⟨Or.inr rfl, ks _ _ _ _ _ _ rfl _ _ _ _ _ _ _ _ ⟨?_, h2, fun _ => ?_, h4, by omega, rfl, rfl, rfl, hcm, rfl, rfl, h8, h7⟩⟩)⟩
      · rw [List.length_append]; show st.length + 1 + sk.length ≤ p + 1; omega
      · rw [List.length_append]; show 0 < st.length + 1; omega
    | false =>
      have ew : wants = 0 := ew
      subst ew
      have h3 := h3 rfl
      rw [if_neg (by decide)] at kn ks
      refine ⟨fun _ => ⟨fun z => ?_, fun z1 => ⟨fun z => ?_, fun z2 => ?_⟩⟩, fun z => absurd rfl z⟩
      · rw [if_pos (Or.inl ((nI_eq (a := dg) (b := 0) (by omega) (by omega)).1 z))] at kn
        exact ⟨Or.inl rfl, kn rfl _⟩
      · rw [if_pos (Or.inr ((nI_eq (a := dg) (b := 3) (by omega) (by omega)).1 z))] at kn
        exact ⟨Or.inl rfl, kn rfl _⟩
      · have d0 : ¬ (dg = 0 ∨ dg = 3) := by
          rintro (y | y)
          · exact z1 (by rw [y]; rfl)
          · exact z2 (by rw [y]; rfl)
        rw [if_neg d0] at ks
        have es : nI st.length - 1 = nI (st.length - 1) := pk_sub (b := 1) h3
        have iv : vp_in (nI (st.length - 1)) 40 := pk_in (st.length - 1) 40 (by omega)
        obtain ⟨l1, l2, l3⟩ := STr_last (v := 10 * st.getLastD 0 + nI (c - 48)) h6 h3
        refine br_t (nI_le (a := 1) h3 (by omega)) ?_
        rw [es, nI_clamp (n := st.length - 1) (by omega), l2]
        refine ⟨iv, iv, Or.inr rfl, ks _ _ _ _ _ _ rfl _ _ _ _ _ _ _ _ ⟨?_, h2, fun _ => ?_, h4, by omega, ?_, rfl, rfl, hcm, ?_, rfl, l1, h7⟩⟩
        · rw [l3]; omega
        · rw [l3]; omega
        · rw [l3]
        · exact (nI_succ dg).symm
end
/-- the whole reading from sign p on, n signs being left: where it ends, and the steps, or none at a fault -/
def cO (h : Nat → Nat) (fin : Bool) : Nat → Nat → List Int32 → List Nat → Nat → (Nat → Bool) → Nat → Bool → Nat × Option (List Int32)
  | 0, p, st, sk, op, _, _, wt => if fin = true ∧ wt = false ∧ op = 0 then (p, some (settl 1 sk st).2) else (p, none)
  | n + 1, p, st, sk, op, cm, dg, wt => match tk (h p) st sk op cm dg wt with
    | none => (p, none)
    | some s => cO h fin n (p + 1) s.1 s.2.1 s.2.2.1 s.2.2.2.1 s.2.2.2.2.1 s.2.2.2.2.2
section
variable {F t : Nat} {h : Nat → Nat} {signs : Nat → Int32} {Post : Int32 → (Int32 × Int32 × Int32 × Int32 × Int32 × Int32 × (Nat → Int32) × (Nat → Int32)) → Prop}
theorem s4_read19 (hF : 5000 ≤ F) (hT : TXc t h (nI t) signs) (kn : ∀ j, (∀ u, Post (nI j) u) ∨ ¬ cO h (decide (t ≤ 40)) (if t ≤ 40 then t else 40) 0 [] [] 0 (fun _ => false) 0 true = (j, none)) (ks : ∀ j c, cO h (decide (t ≤ 40)) (if t ≤ 40 then t else 40) 0 [] [] 0 (fun _ => false) 0 true = (j, some c) → c.length ≤ 40 → ∀ top2 opn2 comp2 dig2 wants2 steps2 stack2, STr c steps2 → Post (-1) (nI c.length, top2, opn2, comp2, dig2, wants2, steps2, stack2)) :
    ∀ (n p G : Nat) (st : List Int32) (sk : List Nat) (op : Nat) (cm : Nat → Bool) (dg : Nat) (wt : Bool) (size top opn comp dig wants : Int32) (steps stack : Nat → Int32), n + p = (if t ≤ 40 then t else 40) → n < G → CR p st sk op cm dg wt size top opn comp dig wants steps stack → cO h (decide (t ≤ 40)) (if t ≤ 40 then t else 40) 0 [] [] 0 (fun _ => false) 0 true = cO h (decide (t ≤ 40)) n p st sk op cm dg wt →
    p_X4_read_19 F (nI t) signs Post G (nI p) size top opn comp dig wants steps stack
  | 0, p, G, st, sk, op, cm, dg, wt, size, top, opn, comp, dig, wants, steps, stack, hn, hG, hc, he => by
    obtain ⟨G', rfl⟩ : ∃ G', G = G' + 1 := ⟨G - 1, by omega⟩
    have ht := hT.1
    rw [p_X4_read_19_s]
    rw [cO] at he
    have fault : ¬ (decide (t ≤ 40) = true ∧ wt = false ∧ op = 0) → ∀ u, Post (nI p) u := by
      intro z
      rw [if_neg z] at he
      exact (kn p).resolve_right (fun y => y he)
    by_cases q : t ≤ 40
    · rw [if_pos q] at hn
      have e : p = t := by omega
      subst e
      obtain ⟨h1, h2, h3, h4, h5, rfl, rfl, rfl, hcm, rfl, ew, h6, h7⟩ := hc
      refine br_t (nI_le (Nat.le_refl _) (by omega)) ?_
      cases wt with
      | true =>
        have ew : wants = 1 := ew
        subst ew
        exact ⟨fun _ => fault (fun z => absurd z.2.1 (by decide)) _, fun z => absurd z (by decide)⟩
      | false =>
        have ew : wants = 0 := ew
        subst ew
        refine ⟨fun z => absurd rfl z, fun _ => ⟨fun z => ?_, fun z => fault (fun y => z (by rw [y.2.2]; decide)) _⟩⟩
        have o0 : op = 0 := by
          apply Decidable.byContradiction
          intro y
          exact nI_ge (a := 0) (b := op) (by omega) (by omega) z
        rw [if_pos (c := decide (p ≤ 40) = true ∧ false = false ∧ op = 0) ⟨decide_eq_true q, rfl, o0⟩] at he
        have sl := settl_len 1 sk st
        exact s4_settle (r := 1) hF (by omega) (by omega) h2 h6 h7 (fun f2 h8 => ks _ _ he (by omega) _ _ _ _ _ _ _ h8)
    · rw [if_neg q] at hn
      have e : p = 40 := by omega
      subst e
      refine br_f (nI_ge (by omega) (by omega)) (br_t rfl (fault (fun z => q (of_decide_eq_true z.1)) _))
  | n + 1, p, G, st, sk, op, cm, dg, wt, size, top, opn, comp, dig, wants, steps, stack, hn, hG, hc, he => by
    obtain ⟨G', rfl⟩ : ∃ G', G = G' + 1 := ⟨G - 1, by omega⟩
    have hp : p < t ∧ p < 40 := by
      by_cases q : t ≤ 40
      · rw [if_pos q] at hn; omega
      · rw [if_neg q] at hn; omega
    have ht := hT.1
    have s1 := (hT.2.2 p hp.1).1
    rw [p_X4_read_19_s]
    refine br_f (nI_ge hp.1 (by omega)) (br_f (fun z => absurd ((nI_eq (a := p) (b := 40) (by omega) (by omega)).1 z) (by omega)) (s5_at hT hp.1 ?_))
    rw [cO] at he
    refine s4_takes hF hp.2 s1 hc (fun z u => ?_) (fun st2 sk2 op2 cm2 dg2 wt2 z a1 a2 a3 a4 a5 a6 a7 a8 h2 => ?_)
    · rw [z] at he
      exact ⟨fun y => absurd rfl y, fun _ => (kn p).resolve_right (fun y => y he) _⟩
    · rw [z] at he
      refine ⟨fun _ => ?_, fun y => absurd y (by decide)⟩
      rw [← nI_succ]
      exact s4_read19 hF hT kn ks n (p + 1) G' st2 sk2 op2 cm2 dg2 wt2 a1 a2 a3 a4 a5 a6 a7 a8 (by omega) (by omega) h2 he
end
