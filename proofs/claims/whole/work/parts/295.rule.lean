/-! ===== rule ===== -/
section
variable {F t : Nat} {h : Nat → Nat} {f : Nat → Int32}
/-- copying a text of the model into a rule -/
def cpI (t : Nat) (h : Nat → Nat) (j : Nat) (g : Nat → Int32) : Prop := ∀ i, i < j → g i = (nI (h i)).toInt8.toInt32
theorem cp_put {j : Nat} {g : Nat → Int32} (hb : h j < 256) (hg : cpI t h j g) : cpI t h (j + 1) (upd g j (vp_nar .byte ((nI (h j)).toInt8.toInt32))) := by
  intro i hi
  unfold upd
  by_cases e : i = j
  · rw [if_pos e, nar_byte _ hb, e]
  · rw [if_neg e]; exact hg i (by omega)
end
section
variable {F : Nat} {x : XS} {m : MS} {am : MA}
theorem ob_rule (hF : 5000 ≤ F) (h : Rel F x m) : p7_rule F x (fun r x' => p8_rule F am m (fun r' m' => r = r' ∧ Rel F x' m')) := by
  obtain ⟨nA, nC, R, w, ok, hV, hM, eA, eC, hT, hW, hU, hN, hE, hH, hK⟩ := h
  obtain ⟨t, b, hTc, hTm, eT⟩ := TXr_split hT
  have ht := hTc.1
  unfold p7_rule
  rcases spare_S hF hTc hTm with ⟨j, j8, c1, c2⟩ | ⟨t40, R2, c1, c2, c3⟩
  · refine c1 _ _ _ (fun u1 u2 u3 u4 u5 u6 u7 u8 => ⟨fun y => absurd y (m1_ne (by omega)), fun _ => ?_⟩)
    unfold p8_rule p_X8_rule
    rw [eT]
    refine c2 _ _ (fun u4 => ⟨fun y => absurd rfl y, fun _ => ?_⟩)
    exact ⟨rfl, nA, nC, R, w, ok, hV, hM, eA, eC, TXr_0, hW, hU, hN, hE, hH, hK⟩
  · refine c1 _ _ _ (fun u1 u2 u3 u4 u5 u6 u7 u8 hRX => ⟨fun _ => ?_, fun y => absurd rfl y⟩)
    unfold p8_rule p_X8_rule
    rw [eT]
    refine c2 _ _ (fun v4 => ⟨fun _ => ?_, fun y => absurd y (by decide)⟩)
    refine up_loop (fun n i (s : Nat → Int32) => p_X8_rule_26 F (nI t) m.f_text (0, nI t, 40, v4, -1, 0) _ n i s) (fun j s => cpI t b j s) t ?_ ?_ F m.f_rule 0 (fun i hi => absurd hi (Nat.not_lt_zero _)) (by omega) (by omega)
    · intro n g hg
      show p_X8_rule_26 F (nI t) m.f_text (0, nI t, 40, v4, -1, 0) _ (n + 1) (nI t) g
      rw [p_X8_rule_26_s]
      refine br_t (nI_le (Nat.le_refl _) (by omega)) ?_
      exact ⟨rfl, nA, nC, R2, w, ok, hV, hM, eA, eC, TXr_0, hW, ⟨hRX, t, rfl, c3 g ⟨ht, fun i hi => ⟨(hTm.2 i hi).1, hg i hi⟩⟩⟩, hN, hE, hH, hK⟩
    · intro n j g hj hg ih
      show p_X8_rule_26 F (nI t) m.f_text (0, nI t, 40, v4, -1, 0) _ (n + 1) (nI j) g
      rw [p_X8_rule_26_s, nI_clamp (n := j) (by omega), (hTm.2 j hj).2]
      exact br_f (nI_ge hj (by omega)) ⟨pk_in j 80 (by omega), pk_in j 40 (by omega), ih _ (cp_put (hTm.2 j hj).1 hg)⟩
end
