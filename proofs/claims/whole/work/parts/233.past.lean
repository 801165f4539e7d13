/-! ===== undo, keep, again ===== -/
theorem AV_cong {nA nC : Nat} {w g : Nat → Int32} {a c st h d : Int32} {l s j b gr p : Nat → Int32} (hg : MV w g) (hV : AV nA nC w a c st h d l s j b gr p) : AV nA nC g a c st h d l s j b gr p := by
  obtain ⟨e1, e2, e3, e4, e5, h1, h2, h3, h4, h5, h6⟩ := hV
  refine ⟨e1, e2, ?_, ?_, ?_, ?_, ?_, ?_, ?_, ?_, ?_⟩
  · rw [hg 44 (by omega)]; exact e3
  · rw [hg 45 (by omega)]; exact e4
  · rw [hg 46 (by omega)]; exact e5
  · intro i hi; rw [hg _ (by omega)]; exact h1 i hi
  · intro i hi; rw [hg _ (by omega)]; exact h2 i hi
  · intro i hi; rw [hg _ (by omega)]; exact h3 i hi
  · intro i hi; rw [hg _ (by omega)]; exact h4 i hi
  · intro i hi; rw [hg _ (by omega)]; exact h5 i hi
  · intro i hi; rw [hg _ (by omega)]; exact h6 i hi
theorem OK_cong {nA nC : Nat} {w g : Nat → Int32} (hg : MV w g) (h : OK nA nC w) : OK nA nC g := by
  obtain ⟨h1, h2, h3, h4, h5, h6, h7⟩ := h
  refine ⟨h1, h2, ?_, ?_, ?_, ?_, ?_⟩
  · intro i hi; rw [hg i (by omega)]; exact h3 i hi
  · intro c hc; rw [hg _ (by omega)]; exact h4 c hc
  · rw [hg 46 (by omega)]; exact h5
  · intro i hi hi2; rw [hg _ (by omega)]; exact h6 i hi hi2
  · intro i hi hi2; rw [hg _ (by omega)]; exact h7 i hi hi2
theorem MV_s {w g : Nat → Int32} (h : MV w g) : MV g w := fun i hi => (h i hi).symm
theorem MV_r (w : Nat → Int32) : MV w w := fun _ _ => rfl
theorem MV_t {w g f : Nat → Int32} (h : MV w g) (h2 : MV g f) : MV w f := fun i hi => (h2 i hi).trans (h i hi)
def pushW (w : Nat → Int32) (ws : Nat → Nat → Int32) : Nat → Nat → Int32 := fun j => if j = 0 then w else ws (j - 1)
/-- a copied viaduct -/
theorem AVs_cpy {nA nC : Nat} {w : Nat → Int32} {a c st h d : Int32} {l s j b gr p : Nat → Int32} (hV : AV nA nC w a c st h d l s j b gr p) (v : VSt) : AVs nA nC w (va_cpy l v.1 (0 : Int32).toNatClampNeg (0 : Int32).toNatClampNeg (6 : Int32).toNatClampNeg, va_cpy s v.2.1 (0 : Int32).toNatClampNeg (0 : Int32).toNatClampNeg (6 : Int32).toNatClampNeg, va_cpy j v.2.2.1 (0 : Int32).toNatClampNeg (0 : Int32).toNatClampNeg (8 : Int32).toNatClampNeg, va_cpy b v.2.2.2.1 (0 : Int32).toNatClampNeg (0 : Int32).toNatClampNeg (8 : Int32).toNatClampNeg, va_cpy gr v.2.2.2.2.1 (0 : Int32).toNatClampNeg (0 : Int32).toNatClampNeg (8 : Int32).toNatClampNeg, va_cpy p v.2.2.2.2.2.1 (0 : Int32).toNatClampNeg (0 : Int32).toNatClampNeg (8 : Int32).toNatClampNeg, a, c, st, h, d) :=
  s6_become (F := 0) (load' := v.1) (sag' := v.2.1) (joy' := v.2.2.1) (bowl' := v.2.2.2.1) (grief' := v.2.2.2.2.1) (place' := v.2.2.2.2.2.1) (Post := fun u => AVs nA nC w (u.2.2.2.2.2.1, u.2.2.2.2.2.2.1, u.2.2.2.2.2.2.2.1, u.2.2.2.2.2.2.2.2.1, u.2.2.2.2.2.2.2.2.2.1, u.2.2.2.2.2.2.2.2.2.2, u.1, u.2.1, u.2.2.1, u.2.2.2.1, u.2.2.2.2.1)) hV (fun _ _ _ _ _ _ z => z)
section
variable {F nA nC k nx : Nat} {w f : Nat → Int32} {ws : Nat → Nat → Int32} {a c st h d next size many : Int32} {l s j b gr p undos : Nat → Int32} {ring : Nat → Option PSl}
theorem s2_add {Post : (Int32 × Int32 × (Nat → Option PSl)) → Prop} (hk : k ≤ 12) (hx : nx < 12) (hU : UNx nA nC k nx ws next size ring) (hV : AV nA nC w a c st h d l s j b gr p) (kk : ∀ n2 s2 r2, UNx nA nC (if k < 12 then k + 1 else 12) ((nx + 1) % 12) (pushW w ws) n2 s2 r2 → Post (n2, s2, r2)) : p_X2_add F next size ring l s j b gr p a c st h d Post := by
  obtain ⟨e1, e2, hr⟩ := hU
  subst e1 e2
  refine ⟨pk_in nx 12 hx, fun ad r v => kk _ _ _ ⟨?_, ?_, fun i hi => ?_⟩⟩
  · rw [nI_1]; exact pk_rem (d := 12) (by omega) (by omega) (by omega)
  · rw [nI_1]
    by_cases q : k < 12
    · rw [if_pos q, if_neg (show ¬ (12 : Int32) < nI (k + 1) from nI_nlt (a := 12) (by omega) (by omega))]
    · rw [if_neg q, if_pos (show (12 : Int32) < nI (k + 1) from nI_lt (a := 12) (by omega) (by omega))]; rfl
  · rw [nI_clamp (n := nx) (by omega)]
    unfold pset
    by_cases e : i = 0
    · subst e
      refine ⟨_, if_pos (by omega), ?_⟩
      exact AVs_cpy hV v
    · have hi2 : i - 1 < k := by split at hi <;> omega
      obtain ⟨q, e1, e2⟩ := hr (i - 1) hi2
      refine ⟨q, ?_, ?_⟩
      · rw [if_neg (by split at hi <;> omega), show ((nx + 1) % 12 + 11 - i) % 12 = (nx + 11 - (i - 1)) % 12 from by split at hi <;> omega]
        exact e1
      · unfold pushW; rw [if_neg e]; exact e2
theorem s8_remember {Post : (Int32 × (Nat → Int32)) → Prop} (hF : 5000 ≤ F) (hk : k ≤ 12) (hU : UNm k ws many undos) (hM : MV w f) (kk : ∀ m2 u2, UNm (if k < 12 then k + 1 else 12) (pushW w ws) m2 u2 → Post (m2, u2)) : p_X8_remember F many undos 47 f Post := by
  obtain ⟨e1, hr⟩ := hU
  subst e1
  unfold p_X8_remember
  have lay : ∀ (z : Nat) (u : Nat → Int32), z < 12 → z + 1 = (if k < 12 then k + 1 else 12) → (∀ i, i < z → ∀ q, q < 47 → u (47 * (z - 1 - i) + q) = ws i q) → p_X8_remember_49 F 47 f Post (nI z) u := by
    intro z u hz hz1 hu
    unfold p_X8_remember_49
    have e : (47 : Int32) * nI z = nI (47 * z) := pk_mul 47 z
    rw [e]
    refine s8_lay hF hM (by omega) (by omega) (fun g2 h1 h2 => ?_)
    rw [nI_1]
    refine kk _ _ ⟨by rw [hz1], fun i hi q hq => ?_⟩
    rw [← hz1] at hi ⊢
    unfold pushW
    by_cases e : i = 0
    · subst e
      rw [if_pos rfl, show z + 1 - 1 - 0 = z from by omega]
      exact h1 q hq
    · rw [if_neg e, show z + 1 - 1 - i = z - 1 - (i - 1) from by omega, h2 _ (by omega)]
      exact hu (i - 1) (by omega) q hq
  refine ⟨fun q => ?_, fun q => ?_⟩
  · have : k < 12 := by
      rcases Nat.lt_or_ge k 12 with z | z
      · exact z
      · exact absurd (show nI k = 12 by rw [show k = 12 from by omega]; rfl) q
    exact lay k undos this (by rw [if_pos this]) hr
  · have e12 : k = 12 := (nI_eq (b := 12) (by omega) (by omega)).1 q
    subst e12
    refine up_loop (fun n i s => p_X8_remember_11 F (nI 12) 47 f Post n i s) (fun j s => (∀ i, i < j → s i = undos (i + 47)) ∧ ∀ i, j ≤ i → s i = undos i) 517 ?_ ?_ F undos 0 ⟨fun i hi => absurd hi (by omega), fun i _ => rfl⟩ (by omega) (by omega)
    · rintro n s ⟨h1, h2⟩
      show p_X8_remember_11 F (nI 12) 47 f Post (n + 1) (nI 517) s
      rw [p_X8_remember_11_s]
      refine br_t (nI_le (a := 517) (b := 517) (by omega) (by omega)) (lay 11 s (by omega) (by decide) (fun i hi q hq => ?_))
      rw [h1 _ (by omega), ← hr i (by omega) q hq]
      congr 1
      omega
    · rintro n j s hj ⟨h1, h2⟩ ih
      show p_X8_remember_11 F (nI 12) 47 f Post (n + 1) (nI j) s
      rw [p_X8_remember_11_s]
      have e47 : nI j + (47 : Int32) = nI (j + 47) := nI_add j 47
      rw [e47, nI_clamp (n := j) (by omega), nI_clamp (n := j + 47) (by omega)]
      refine br_f (nI_ge (b := 517) hj (by omega)) ⟨pk_in (j + 47) 564 (by omega), pk_in j 564 (by omega), ih _ ⟨fun i hi => ?_, fun i hi => ?_⟩⟩
      · rw [upd_i]
        by_cases e : i = j
        · subst e; rw [if_pos rfl]; exact h2 _ (by omega)
        · rw [if_neg e]; exact h1 i (by omega)
      · rw [upd_i, if_neg (by omega)]; exact h2 i (by omega)
theorem UNr_push {n2 s2 m2 : Int32} {r2 : Nat → Option PSl} {u2 : Nat → Int32} (hk : k ≤ 12) (ho : ∀ j, j < k → OK nA nC (ws j)) (ok : OK nA nC w) (h1 : UNx nA nC (if k < 12 then k + 1 else 12) ((nx + 1) % 12) (pushW w ws) n2 s2 r2) (h2 : UNm (if k < 12 then k + 1 else 12) (pushW w ws) m2 u2) : UNr nA nC n2 s2 r2 m2 u2 := by
  refine ⟨_, _, _, ?_, Nat.mod_lt _ (by omega), fun j hj => ?_, h1, h2⟩
  · split <;> omega
  · unfold pushW
    by_cases e : j = 0
    · rw [if_pos e]; exact ok
    · rw [if_neg e]; exact ho (j - 1) (by split at hj <;> omega)
end
section
variable {F : Nat} {x : XS} {m : MS} {am : MA}
theorem rem12 {nx : Nat} (h : nx < 12) : (((nI nx + (12 : Int32)) - (1 : Int32))) - (((nI nx + (12 : Int32)) - (1 : Int32))) / (12 : Int32) * (12 : Int32) = nI ((nx + 11) % 12) := by
  have e : nI nx + (12 : Int32) - 1 = nI (nx + 11) := by
    rw [show nI nx + (12 : Int32) = nI (nx + 11 + 1) from nI_add nx 12]; exact nI_pred _
  rw [e]
  exact pk_rem (d := 12) (by omega) (by omega) (by omega)
theorem ob_undo (hF : 5000 ≤ F) (h : Rel F x m) : p7_undo F x (fun r x' => p8_undo F m (fun r' m' => r = r' ∧ Rel F x' m')) := by
  obtain ⟨nA, nC, R, w, ok, hV, hM, eA, eC, hT, hW, hU, hN, hE, hH, hK⟩ := h
  obtain ⟨k, nx, ws, hk, hx, hok, ⟨n1, n2, n3⟩, ⟨m1, m2⟩⟩ := id hN
  unfold p7_undo p_X7_undo p_X2_bringBack p8_undo p_X8_undo
  rcases Nat.eq_zero_or_pos k with rfl | h0
  · exact br_t n2 (br_t rfl ⟨fun q => absurd m1 q, fun _ => ⟨rfl, nA, nC, R, w, ok, hV, hM, eA, eC, hT, hW, hU, hN, hE, hH, hK⟩⟩)
  · obtain ⟨s, e1, e2⟩ := n3 0 h0
    obtain ⟨z, rfl⟩ : ∃ z, k = z + 1 := ⟨k - 1, by omega⟩
    rw [n1, rem12 hx, nI_clamp (n := (nx + 11) % 12) (by omega)]
    refine br_f (by rw [n2]; exact nI_ne0 h0 (by omega)) ⟨pk_in ((nx + 11) % 12) 12 (by omega), fun q => ?_, fun q hq => ?_⟩
    · rw [show (nx + 11 - 0) % 12 = (nx + 11) % 12 from rfl] at e1
      rw [e1] at q
      exact absurd q (by simp)
    · have : q = s := by
        rw [show (nx + 11 - 0) % 12 = (nx + 11) % 12 from rfl, hq] at e1
        exact Option.some.inj e1
      subst this
      refine br_f (by decide) ⟨fun _ => ?_, fun z => absurd (m1.symm.trans z) (nI_ne0 h0 (by omega))⟩
      rw [m1]
      refine up_loop (fun n i s => p_X8_undo_26 F (nI (z + 1)) m.f_undos _ n i s) (fun j s => ∀ i, i < j → s i = ws 0 i) 47 ?_ ?_ F m.f_now 0 (fun i hi => absurd hi (by omega)) (by omega) (by omega)
      · intro n g hg
        show p_X8_undo_26 F (nI (z + 1)) m.f_undos _ (n + 1) (nI 47) g
        rw [p_X8_undo_26_s, nI_pred]
        refine br_t (nI_le (a := 47) (b := 47) (by omega) (by omega)) ⟨by rw [n2, nI_pred], nA, nC, R, ws 0, hok 0 h0, ?_, hg, eA, eC, hT, hW, hU, ⟨z, (nx + 11) % 12, fun j => ws (j + 1), by omega, by omega, fun j hj => hok (j + 1) (by omega), ⟨rfl, by rw [n2]; exact nI_pred z, fun j hj => ?_⟩, ⟨rfl, fun j hj i hi => ?_⟩⟩, hE, hH, hK⟩
        · exact s6_become (F := F) (Post := fun u => AV nA nC (ws 0) u.1 u.2.1 u.2.2.1 u.2.2.2.1 u.2.2.2.2.1 u.2.2.2.2.2.1 u.2.2.2.2.2.2.1 u.2.2.2.2.2.2.2.1 u.2.2.2.2.2.2.2.2.1 u.2.2.2.2.2.2.2.2.2.1 u.2.2.2.2.2.2.2.2.2.2) e2 (fun _ _ _ _ _ _ z => z)
        · obtain ⟨s2, q1, q2⟩ := n3 (j + 1) (by omega)
          exact ⟨s2, by rw [show ((nx + 11) % 12 + 11 - j) % 12 = (nx + 11 - (j + 1)) % 12 from by omega]; exact q1, q2⟩
        · have := m2 (j + 1) (by omega) i hi
          rw [show z + 1 - 1 - (j + 1) = z - 1 - j from by omega] at this
          exact this
      · intro n j g hj hg ih
        show p_X8_undo_26 F (nI (z + 1)) m.f_undos _ (n + 1) (nI j) g
        rw [p_X8_undo_26_s, nI_pred, show (47 : Int32) * nI z = nI (47 * z) from pk_mul 47 z, cl_add (by omega), nI_clamp (n := j) (by omega)]
        refine br_f (nI_ge (b := 47) hj (by omega)) ⟨in_add (by omega) (by omega), pk_in j 47 hj, ih _ (fun i hi => ?_)⟩
        rw [upd_i]
        by_cases e : i = j
        · subst e
          rw [if_pos rfl]
          have := m2 0 h0 i hj
          rw [show z + 1 - 1 - 0 = z from by omega] at this
          exact this
        · rw [if_neg e]; exact hg i (by omega)
theorem ob_keep (hF : 5000 ≤ F) (p1 : Int32) (h : Rel F x m) : p7_keep F p1 x (fun r x' => p8_keep F p1 m (fun r' m' => r = r' ∧ Rel F x' m')) := by
  obtain ⟨nA, nC, R, w, ok, hV, hM, eA, eC, hT, hW, hU, hN, hE, hH, hK⟩ := h
  unfold p7_keep p_X7_keep p8_keep p_X8_keep
  rcases arg3 p1 (n := 1 + 1) (by omega) with h | ⟨i0, hi0, rfl⟩
  · refine ⟨fun _ => ?_, fun z => br_f ?_ ?_⟩
    · exact s8_rgno (n := 1) h (by omega) ⟨fun q => absurd rfl q, fun _ => ⟨rfl, nA, nC, R, w, ok, hV, hM, eA, eC, hT, hW, hU, hN, hE, hH, hK⟩⟩
    · intro h2
      exact nle_of_lt h2 (h.resolve_left z)
    · exact s8_rgno (n := 1) h (by omega) ⟨fun q => absurd rfl q, fun _ => ⟨rfl, nA, nC, R, w, ok, hV, hM, eA, eC, hT, hW, hU, hN, hE, hH, hK⟩⟩
  · obtain ⟨cm, hcm, ecm, hk⟩ := hK
    refine br_f (nI_pos (by omega)) (br_t (nI_lt (b := 2) (by omega) (by omega)) ⟨pk_in i0 2 (by omega), fun ad r v => ?_⟩)
    have i2 : vp_in (nI i0) 2 := pk_in i0 2 (by omega)
    refine s8_rgyes (n := 1) hi0 (by omega) ⟨fun _ => ⟨i2, i2, ?_⟩, fun q => absurd q (by decide)⟩
    rw [show (47 : Int32) * nI i0 = nI (47 * i0) from pk_mul 47 i0, nI_clamp (n := i0) (by omega)]
    refine s8_lay hF hM (by omega) (by omega) (fun g2 g3 g4 => ?_)
    refine ⟨rfl, nA, nC, R, w, ok, hV, hM, eA, eC, hT, hW, hU, hN, hE, hH, cm, hcm, ecm, fun i hi => ?_⟩
    show (pset x.f_kept i0 _ i = none ∧ upd m.f_isKept i0 _ i = 0) ∨ ∃ s ka kb e, pset x.f_kept i0 _ i = some s ∧ upd m.f_isKept i0 _ i = 1 ∧ OK ka kb (fun j => g2 (47 * i + j)) ∧ AVs ka kb (fun j => g2 (47 * i + j)) s.2.2 ∧ upd m.f_keptCame i0 _ i = nI e ∧ e ≤ cm ∧ ka ≤ nA ∧ kb ≤ nC ∧ (e = cm ↔ ka = nA ∧ kb = nC)
    unfold pset
    rw [upd_i, upd_i]
    by_cases e : i = i0
    · subst e
      rw [if_pos rfl, if_pos rfl, if_pos rfl]
      have mv : MV w (fun j => g2 (47 * i + j)) := g3
      exact Or.inr ⟨_, nA, nC, cm, rfl, rfl, OK_cong mv ok, AV_cong mv (AVs_cpy hV v), ecm, Nat.le_refl _, Nat.le_refl _, Nat.le_refl _, ⟨fun _ => ⟨rfl, rfl⟩, fun _ => rfl⟩⟩
    · rw [if_neg e, if_neg e, if_neg e]
      have mv : MV (fun j => m.f_kept (47 * i + j)) (fun j => g2 (47 * i + j)) := fun q hq => g4 _ (by omega)
      rcases hk i hi with q | ⟨s, ka, kb, e, q1, q2, q3, q4, q5⟩
      · exact Or.inl q
      · exact Or.inr ⟨s, ka, kb, e, q1, q2, OK_cong mv q3, AV_cong mv q4, q5⟩
theorem ob_again (hF : 5000 ≤ F) (p1 : Int32) (h : Rel F x m) : p7_again F p1 x (fun r x' => p8_again F p1 m (fun r' m' => r = r' ∧ Rel F x' m')) := by
  obtain ⟨nA, nC, R, w, ok, hV, hM, eA, eC, hT, hW, hU, hN, hE, hH, hK⟩ := h
  unfold p7_again p_X7_again p8_again p_X8_again
  rcases arg3 p1 (n := 1 + 1) (by omega) with h | ⟨i0, hi0, rfl⟩
  · refine ⟨fun _ => ?_, fun z => br_f ?_ ?_⟩
    · exact s8_rgno (n := 1) h (by omega) (br_t rfl ⟨rfl, nA, nC, R, w, ok, hV, hM, eA, eC, hT, hW, hU, hN, hE, hH, hK⟩)
    · intro h2
      exact nle_of_lt h2 (h.resolve_left z)
    · exact s8_rgno (n := 1) h (by omega) (br_t rfl ⟨rfl, nA, nC, R, w, ok, hV, hM, eA, eC, hT, hW, hU, hN, hE, hH, hK⟩)
  · have hK' := hK
    obtain ⟨k9, nx9, ws9, _, hx9, _, ⟨en9, _, _⟩, _⟩ := id hN
    obtain ⟨cm, hcm, ecm, hk⟩ := hK
    have i2 : vp_in (nI i0) 2 := pk_in i0 2 (by omega)
    have hA := ok.1
    have hC := ok.2.1
    refine br_f (nI_pos (by omega)) (br_t (nI_lt (b := 2) (by omega) (by omega)) ⟨i2, ?_⟩)
    rw [nI_clamp (n := i0) (by omega)]
    rcases hk i0 (by omega) with ⟨q1, q2⟩ | ⟨s, ka, kb, e, q1, q2, q3, q4, q5, q6, q7, q8, q9⟩
    · refine ⟨fun _ => ?_, fun q hq => absurd (hq.symm.trans q1) (by simp)⟩
      exact s8_rgyes (n := 1) hi0 (by omega) (br_f (by decide) ⟨i2, br_t q2 ⟨rfl, nA, nC, R, w, ok, hV, hM, eA, eC, hT, hW, hU, hN, hE, hH, hK'⟩⟩)
    · refine ⟨fun q => absurd (q1.symm.trans q) (by simp), fun q hq => ?_⟩
      have : q = s := Option.some.inj (hq.symm.trans q1)
      subst this
      have ea : q.2.2.2.2.2.2.2.2.1 = nI ka := q4.1
      have ec : q.2.2.2.2.2.2.2.2.2.1 = nI kb := q4.2.1
      have hka := q3.1
      have hkb := q3.2.1
      rw [ea, ec, hV.1, hV.2.1]
      have no : ¬ (ka = nA ∧ kb = nC) → ¬ m.f_keptCame i0 = m.x_came := by
        intro ne
        rw [q5, ecm]
        intro z
        exact ne (q9.1 ((nI_eq (by omega) (by omega)).1 z))
      by_cases e1 : ka = nA
      · by_cases e2 : kb = nC
        · subst e1 e2
          refine ⟨fun z => absurd rfl z, fun _ => ⟨fun _ => ?_, fun z => absurd rfl z⟩⟩
          refine s8_rgyes (n := 1) hi0 (by omega) (br_f (by decide) ⟨i2, br_f (by rw [q2]; decide) ⟨i2, br_t ?_ ?_⟩⟩)
          · rw [q5, ecm, q9.2 ⟨rfl, rfl⟩]
          · refine up_loop (fun n i s => p_X8_again_40 F (nI i0) m.f_kept _ n i s) (fun j s => ∀ i, i < j → s i = m.f_kept (47 * i0 + i)) 47 ?_ ?_ F m.f_now 0 (fun i hi => absurd hi (by omega)) (by omega) (by omega)
            · intro n g hg
              show p_X8_again_40 F (nI i0) m.f_kept _ (n + 1) (nI 47) g
              rw [p_X8_again_40_s]
              refine br_t (nI_le (a := 47) (b := 47) (by omega) (by omega)) ⟨rfl, ka, kb, R, _, q3, ?_, hg, eA, eC, hT, hW, hU, ⟨0, nx9, fun _ => w, by omega, hx9, fun j hj => absurd hj (by omega), ⟨en9, rfl, fun j hj => absurd hj (by omega)⟩, ⟨rfl, fun j hj => absurd hj (by omega)⟩⟩, hE, hH, hK'⟩
              · rw [← ea, ← ec]
                exact s6_become (F := F) (Post := fun u => AV ka kb (fun j => m.f_kept (47 * i0 + j)) u.1 u.2.1 u.2.2.1 u.2.2.2.1 u.2.2.2.2.1 u.2.2.2.2.2.1 u.2.2.2.2.2.2.1 u.2.2.2.2.2.2.2.1 u.2.2.2.2.2.2.2.2.1 u.2.2.2.2.2.2.2.2.2.1 u.2.2.2.2.2.2.2.2.2.2) q4 (fun _ _ _ _ _ _ z => z)
            · intro n j g hj hg ih
              show p_X8_again_40 F (nI i0) m.f_kept _ (n + 1) (nI j) g
              rw [p_X8_again_40_s, show (47 : Int32) * nI i0 = nI (47 * i0) from pk_mul 47 i0, cl_add (by omega), nI_clamp (n := j) (by omega)]
              refine br_f (nI_ge (b := 47) hj (by omega)) ⟨in_add (by omega) (by omega), pk_in j 47 hj, ih _ (fun i hi => ?_)⟩
              rw [upd_i]
              by_cases e : i = j
              · subst e; rw [if_pos rfl]
              · rw [if_neg e]; exact hg i (by omega)
        · refine ⟨fun z => absurd (congrArg nI e1) z, fun _ => ⟨fun z => absurd ((nI_eq (by omega) (by omega)).1 z) e2, fun _ => ?_⟩⟩
          refine s8_rgyes (n := 1) hi0 (by omega) (br_f (by decide) ⟨i2, br_f (by rw [q2]; decide) ⟨i2, br_f (no (fun z => e2 z.2)) ⟨rfl, nA, nC, R, w, ok, ⟨rfl, rfl, hV.2.2⟩, hM, eA, eC, hT, hW, hU, hN, hE, hH, hK'⟩⟩⟩)
      · refine ⟨fun _ => ?_, fun z => absurd ((nI_eq (by omega) (by omega)).1 z) e1⟩
        refine s8_rgyes (n := 1) hi0 (by omega) (br_f (by decide) ⟨i2, br_f (by rw [q2]; decide) ⟨i2, br_f (no (fun z => e1 z.1)) ⟨rfl, nA, nC, R, w, ok, ⟨rfl, rfl, hV.2.2⟩, hM, eA, eC, hT, hW, hU, hN, hE, hH, hK'⟩⟩⟩)
end
