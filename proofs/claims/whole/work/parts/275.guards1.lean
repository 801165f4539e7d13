/-! ===== guards: the count is mu; who holds alone ===== -/
section
variable {al al2 : Nat → Nat → Bool} {nA nC : Nat}
theorem bestC_congr {f g : Nat → Nat} : ∀ {n}, (∀ c, c < n → f c = g c) → bestC f n = bestC g n
  | 0, _ => rfl
  | n + 1, h => by rw [bestC, bestC, bestC_congr (n := n) (fun c hc => h c (by omega)), h n (by omega)]
theorem mu_congr : ∀ {d A}, d ≤ nA → (∀ c a, c < nC → nA - d ≤ a → a < nA → al c a = al2 c a) → mu al nA nC d A = mu al2 nA nC d A
  | 0, _, _, _ => rfl
  | d + 1, A, hd, h => by
    have ih : ∀ B, mu al nA nC d B = mu al2 nA nC d B := fun B => mu_congr (by omega) (fun c a hc h1 h2 => h c a hc (by omega) h2)
    rw [mu, mu, ih A, bestC_congr (g := fun c => if A c && al2 c (nA - (d + 1)) then 1 + mu al2 nA nC d (rmB A c) else 0) (fun c hc => by rw [h c _ hc (Nat.le_refl _) (by omega), ih])]
theorem most_mu {fa : Nat → Nat} {X Ab r d : Nat} (hd : d ≤ nA) (hx : ∀ a, X.testBit a = true → nA - d ≤ a ∧ a < nA) (h1 : ∀ T, T < 2 ^ nA → cv (alB fa X) Ab.testBit nC T.testBit → ctN T.testBit nA ≤ r) (h2 : r = 0 ∨ ∃ T, T < 2 ^ nA ∧ cv (alB fa X) Ab.testBit nC T.testBit ∧ ctN T.testBit nA = r) : r = mu (alB fa X) nA nC d Ab.testBit := by
  apply Nat.le_antisymm
  · rcases h2 with h2 | ⟨T, t1, t2, t3⟩
    · omega
    · rw [← t3]
      refine mu_ub hd t2 (fun a ha => ?_)
      obtain ⟨c, c1, c2, c3, c4⟩ := cv_out ha t2
      unfold alB at c3
      rw [Bool.and_eq_true] at c3
      exact hx a c3.2
  · obtain ⟨T, t1, t2, t3⟩ := mu_lb (al := alB fa X) (nC := nC) Ab.testBit hd
    have e : (bN T nA).testBit = T := by
      funext i
      rw [bN_bit]
      by_cases q : i < nA
      · rw [decide_eq_true q, Bool.true_and]
      · rw [decide_eq_false q, Bool.false_and]
        cases e : T i with
        | false => rfl
        | true => exact absurd (t2 i e).2 q
    rw [← t3]
    have := h1 (bN T nA) (bN_lt T nA) (by rw [e]; exact t1)
    rw [e] at this
    exact this
end
theorem bN_nf {p : Nat → Bool} {n : Nat} (h : ¬ p n = true) : nI (bN p n) = nI (bN p (n + 1)) := by
  rw [bN, if_neg h, Nat.or_zero]
/-- arch a is loaded, and cat c alone holds it -/
def hlB (R : (Nat → Int32) → Int32) (w : Nat → Int32) (c a : Nat) : Bool := ! decide (w a ≤ 0) && ! decide (pI R w c a 0 < w a)
def faN (R : (Nat → Int32) → Int32) (nA : Nat) (w : Nat → Int32) (c : Nat) : Nat := bN (hlB R w c) nA
section
variable {F nA nC : Nat} {R : (Nat → Int32) → Int32} {w alone : Nat → Int32} {arches cats store hour drops sz top : Int32} {load sag joy bowl grief place steps stack : Nat → Int32}
theorem s7_alone {Post : ((Nat → Int32) × Int32 × (Nat → Int32)) → Prop} (hF : 5000 ≤ F) (hR : RX F R sz steps) (hV : AV nA nC w arches cats store hour drops load sag joy bowl grief place) (ok : OK nA nC w) (kk : ∀ al2 t st, (∀ c, c < nC → al2 c = nI (faN R nA w c)) → Post (al2, t, st)) : p_X7_findWhoHoldsAlone F arches cats hour alone load sz top steps stack sag joy grief bowl Post := by
  have hA := ok.1
  have hC := ok.2.1
  obtain ⟨v1, v2, _, _, _, h0, _, _, _, _, _⟩ := id hV
  unfold p_X7_findWhoHoldsAlone
  refine up_loop (fun n i (s : (Nat → Int32) × Int32 × (Nat → Int32)) => p_X7_findWhoHoldsAlone_2 F arches cats hour load sz steps sag joy grief bowl Post n i s.1 s.2.1 s.2.2) (fun j s => ∀ c, c < j → s.1 c = nI (faN R nA w c)) nC ?_ ?_ F (alone, top, stack) 0 (fun c hc => absurd hc (by omega)) (by omega) (by omega)
  · rintro n ⟨f, t, st⟩ hf
    show p_X7_findWhoHoldsAlone_2 F arches cats hour load sz steps sag joy grief bowl Post (n + 1) (nI nC) f t st
    rw [p_X7_findWhoHoldsAlone_2_s]
    exact br_t (by rw [v2]; exact nI_le (Nat.le_refl _) (by omega)) (kk f t st hf)
  · rintro n c ⟨f, t, st⟩ hc hf ih
    have hf : ∀ x, x < c → f x = nI (faN R nA w x) := hf
    show p_X7_findWhoHoldsAlone_2 F arches cats hour load sz steps sag joy grief bowl Post (n + 1) (nI c) f t st
    rw [p_X7_findWhoHoldsAlone_2_s, nI_clamp (n := c) (by omega)]
    refine br_f (by rw [v2]; exact nI_ge hc (by omega)) ⟨pk_in c 8 (by omega), ?_⟩
    refine up_loop (fun n2 i (s : (Nat → Int32) × Int32 × (Nat → Int32)) => p_X7_findWhoHoldsAlone_22 F arches cats hour load sz steps sag joy grief bowl (nI c) (p_X7_findWhoHoldsAlone_2 F arches cats hour load sz steps sag joy grief bowl Post n) Post n2 i s.1 s.2.1 s.2.2) (fun j s => (∀ x, x < c → s.1 x = nI (faN R nA w x)) ∧ s.1 c = nI (bN (hlB R w c) j)) nA ?_ ?_ F (upd f c 0, t, st) 0 ⟨fun x hx => ?_, ?_⟩ (by omega) (by omega)
    · rintro n2 ⟨f2, t2, st2⟩ ⟨e1, e2⟩
      show p_X7_findWhoHoldsAlone_22 F arches cats hour load sz steps sag joy grief bowl (nI c) (p_X7_findWhoHoldsAlone_2 F arches cats hour load sz steps sag joy grief bowl Post n) Post (n2 + 1) (nI nA) f2 t2 st2
      rw [p_X7_findWhoHoldsAlone_22_s]
      refine br_t (by rw [v1]; exact nI_le (Nat.le_refl _) (by omega)) (ih (f2, t2, st2) (fun x hx => ?_))
      by_cases e : x = c
      · subst e; exact e2
      · exact e1 x (by omega)
    · rintro n2 a ⟨f2, t2, st2⟩ ha ⟨e1, e2⟩ ih2
      have e1 : ∀ x, x < c → f2 x = nI (faN R nA w x) := e1
      have e2 : f2 c = nI (bN (hlB R w c) a) := e2
      show p_X7_findWhoHoldsAlone_22 F arches cats hour load sz steps sag joy grief bowl (nI c) (p_X7_findWhoHoldsAlone_2 F arches cats hour load sz steps sag joy grief bowl Post n) Post (n2 + 1) (nI a) f2 t2 st2
      rw [p_X7_findWhoHoldsAlone_22_s, nI_clamp (n := a) (by omega), h0 a (by omega), nI_clamp (n := c) (by omega)]
      unfold p_X7_findWhoHoldsAlone_83
      have i6 : vp_in (nI a) 6 := pk_in a 6 (by omega)
      have i8 : vp_in (nI c) 8 := pk_in c 8 (by omega)
      refine br_f (by rw [v1]; exact nI_ge ha (by omega)) ⟨i6, fun z => ih2 (f2, t2, st2) ⟨e1, ?_⟩, fun z => s6_purr hR hV hA hC hc ha (fun u => ⟨i6, fun z2 => ih2 (f2, u.1, u.2) ⟨e1, ?_⟩, fun z2 => ⟨i8, i8, ih2 (_, u.1, u.2) ⟨fun x hx => ?_, ?_⟩⟩⟩)⟩
      · show f2 c = _
        rw [e2]
        exact bN_nf (p := hlB R w c) (n := a) (by unfold hlB; rw [decide_eq_true z]; simp)
      · show f2 c = _
        rw [e2]
        exact bN_nf (p := hlB R w c) (n := a) (by unfold hlB; rw [decide_eq_true z2]; simp)
      · show upd f2 c _ x = _
        unfold upd
        rw [if_neg (by omega)]
        exact e1 x hx
      · show upd f2 c _ c = _
        unfold upd
        rw [if_pos rfl, e2]
        exact bN_ot (by omega) (by unfold hlB; rw [decide_eq_false z, decide_eq_false z2]; rfl)
    · show upd f c 0 x = _
      unfold upd
      rw [if_neg (by omega)]
      exact hf x hx
    · show upd f c 0 c = _
      unfold upd
      rw [if_pos rfl]
      rfl
end
