/-! ===== calls: litters ===== -/
def nT (n : Nat) : Nat := [0, 0, 0, 1, 0, 2, 1, 0, 2, 1, 0, 2, 1, 3, 2, 1, 3, 2, 4, 3, 0, 4, 3, 0, 4, 3, 0, 4, 1, 2, 3, 1, 2, 4, 1, 2, 4, 1, 2, 4, 1].getD n 0
def nF (n : Nat) : Nat := [0, 0, 0, 1, 0, 1, 2, 0, 1, 2, 0, 1, 2, 5, 4, 3, 5, 7, 3, 5, 0, 1, 2, 0, 1, 2, 0, 1, 2, 13, 4, 3, 13, 7, 3, 13, 10, 3, 13, 18, 3].getD n 0
def mkI (n : Nat) : Nat → Int64
  | 0 => 0
  | i + 1 => mkI n i ||| ((1 : Int64) <<< ((nI (nT (i + 1)) ^^^ nI (nT (n - (i + 1)))).toInt64 &&& 63))
def lzv (p : Int64) : Int32 := (p.toInt32 ^^^ (-1 : Int32)) &&& (p.toInt32 - (1 : Int32))
def lz (v : Int32) : Int32 := if 0 < v then (if v ≤ 4 then 1 + ((v.toUInt32 >>> ((1 : Int32).toUInt32 &&& Int32.toUInt32 31)).toInt32) else 1 + 2 + (((v.toUInt32 >>> ((2 : Int32).toUInt32 &&& Int32.toUInt32 31)).toInt32.toUInt32 >>> ((1 : Int32).toUInt32 &&& Int32.toUInt32 31)).toInt32)) else v &&& 32
theorem nm_lz : ∀ n, n < 41 → ¬ (mkI n ((n - 1) / 2) ^^^ (-1 : Int64)).toInt32 = 0 ∧ lzv (mkI n ((n - 1) / 2) ^^^ (-1 : Int64)) ≤ 16 ∧ lz (lzv (mkI n ((n - 1) / 2) ^^^ (-1 : Int64))) = nI (nT n) := by decide +kernel
theorem nm_z : ∀ n, n < 41 → lg_cmp ((mkI n ((n - 1) / 2) >>> ((nI (nT n)).toInt64 &&& 63)) &&& 1) 0 = 0 := by decide +kernel
theorem nm_n : ∀ n, n < 41 → ∀ j, j < nT n → ¬ lg_cmp ((mkI n ((n - 1) / 2) >>> ((nI j).toInt64 &&& 63)) &&& 1) 0 = 0 := by decide +kernel
theorem nT_4 : ∀ n, n < 41 → nT n ≤ 4 := by decide +kernel
theorem nF_y : ∀ n, n < 41 → ¬ nT n = 0 → 1 ≤ nF n ∧ 2 * nF n < n ∧ nT (nF n) = nT (n - nF n) := by decide +kernel
theorem nF_n : ∀ n, n < 41 → ∀ i, i < nF n → 1 ≤ i → ¬ nT i = nT (n - i) := by decide +kernel
theorem nF_0 : ∀ n, n < 41 → nT n = 0 → ∀ i, i < (n + 1) / 2 → 1 ≤ i → ¬ nT i = nT (n - i) := by decide +kernel
section
variable {F : Nat}
theorem s_ntz {p : Int64} {Post : Int32 → Prop} (h0 : ¬ p.toInt32 = 0) (h : lzv p ≤ 16) (k : Post (lz (lzv p))) : p_J13_numberOfTrailingZeros_95d88 F p Post := by
  unfold p_J13_numberOfTrailingZeros_95d88 p_J6_numberOfTrailingZeros_0f7a4 p_J6_numberOfTrailingZeros_0f7a4_34 p_J6_numberOfTrailingZeros_0f7a4_49 p_J6_numberOfTrailingZeros_0f7a4_62 p_J6_numberOfTrailingZeros_0f7a4_74
  refine ⟨fun _ => ?_, fun z => absurd z h0⟩
  have e : (p.toInt32 ^^^ (-1 : Int32)) &&& (p.toInt32 - (1 : Int32)) = lzv p := rfl
  rw [e]
  unfold lz at k
  refine ⟨fun q => ?_, fun q => ?_⟩
  · rw [if_pos q] at k
    refine br_t (Int32.le_trans h (by decide)) (br_t (Int32.le_trans h (by decide)) (br_t h ⟨fun q2 => ?_, fun q2 => ?_⟩))
    · rw [if_pos q2] at k; exact k
    · rw [if_neg q2] at k; exact k
  · rw [if_neg q] at k; exact k
theorem tw_le {n i : Nat} (h : n ≤ 2 * i) (hi : i < 100) : nI n ≤ (2 : Int32) * nI i := by
  rw [show (2 : Int32) = nI 2 from rfl, pk_mul]
  exact nI_le h (by omega)
theorem tw_nle {n i : Nat} (h : ¬ n ≤ 2 * i) (hn : n < 100) : ¬ nI n ≤ (2 : Int32) * nI i := by
  rw [show (2 : Int32) = nI 2 from rfl, pk_mul]
  exact nI_ge (by omega) (by omega)
theorem s7_nimberOf {n : Nat} {f : Nat → Int32} {Post : Int32 → Prop} (hF : 5000 ≤ F) (hn : n < 41) (hf : ∀ i, i < n → f i = nI (nT i)) (k : Post (nI (nT n))) : p_X7_nimberOf F (nI n) f Post := by
  unfold p_X7_nimberOf
  have e44 : p_X7_nimberOf_44 F (mkI n ((n - 1) / 2)) Post F 0 := by
    have h4 := nT_4 n hn
    refine up_loop (fun m i (_ : Unit) => p_X7_nimberOf_44 F (mkI n ((n - 1) / 2)) Post m i) (fun _ _ => True) (nT n) ?_ ?_ F () 0 trivial (by omega) (by omega)
    · intro m _ _
      show p_X7_nimberOf_44 F (mkI n ((n - 1) / 2)) Post (m + 1) (nI (nT n))
      rw [p_X7_nimberOf_44_s]
      exact br_f (nI_ge (b := 40) (by omega) (by omega)) ⟨fun z => absurd (nm_z n hn) z, fun _ => k⟩
    · intro m j _ hj _ ih
      show p_X7_nimberOf_44 F (mkI n ((n - 1) / 2)) Post (m + 1) (nI j)
      rw [p_X7_nimberOf_44_s]
      exact br_f (nI_ge (b := 40) (by omega) (by omega)) ⟨fun _ => ih () trivial, fun z => absurd z (nm_n n hn j hj)⟩
  refine up_loop (fun m i s => p_X7_nimberOf_5 F (nI n) f Post m i s) (fun j s => ∃ i, j = i + 1 ∧ s = mkI n i) ((n - 1) / 2 + 1) ?_ ?_ F 0 1 ⟨0, rfl, rfl⟩ (by omega) (by omega)
  · rintro m s ⟨i, hi, e⟩
    have hi : i = (n - 1) / 2 := by omega
    subst hi e
    show p_X7_nimberOf_5 F (nI n) f Post (m + 1) (nI ((n - 1) / 2 + 1)) _
    rw [p_X7_nimberOf_5_s]
    exact br_t (tw_le (by omega) (by omega)) e44
  · rintro m j s hj ⟨i, hi, e⟩ ih
    subst hi e
    show p_X7_nimberOf_5 F (nI n) f Post (m + 1) (nI (i + 1)) _
    rw [p_X7_nimberOf_5_s, pk_sub (by omega), nI_clamp (n := i + 1) (by omega), nI_clamp (n := n - (i + 1)) (by omega), hf _ (by omega), hf _ (by omega)]
    exact br_f (tw_nle (by omega) (by omega)) ⟨pk_in (i + 1) 41 (by omega), pk_in (n - (i + 1)) 41 (by omega), ih _ ⟨i + 1, rfl, rfl⟩⟩
theorem s8_worth {n : Nat} {f : Nat → Int32} {K : Int32 → (Nat → Int32) → Prop} {Post : Int32 → (Int32 × Int32 × (Nat → Int32) × (Nat → Int64)) → Prop} (hF : 5000 ≤ F) (hn : n < 41) (hf : ∀ i, i < n → f i = nI (nT i)) (k : K (nI n + 1) (upd f n (nI (nT n)))) : p_X8_litters_29 F (nI n) f K Post F 1 0 := by
  refine up_loop (fun m i s => p_X8_litters_29 F (nI n) f K Post m i s) (fun j s => ∃ i, j = i + 1 ∧ s = mkI n i) ((n - 1) / 2 + 1) ?_ ?_ F 0 1 ⟨0, rfl, rfl⟩ (by omega) (by omega)
  · rintro m s ⟨i, hi, e⟩
    have hi : i = (n - 1) / 2 := by omega
    subst hi e
    show p_X8_litters_29 F (nI n) f K Post (m + 1) (nI ((n - 1) / 2 + 1)) _
    obtain ⟨z1, z2, z3⟩ := nm_lz n hn
    rw [p_X8_litters_29_s, nI_clamp (n := n) (by omega)]
    refine br_t (tw_le (by omega) (by omega)) (s_ntz z1 z2 ?_)
    rw [z3]
    exact ⟨pk_in (n) 41 (by omega), k⟩
  · rintro m j s hj ⟨i, hi, e⟩ ih
    subst hi e
    show p_X8_litters_29 F (nI n) f K Post (m + 1) (nI (i + 1)) _
    rw [p_X8_litters_29_s, pk_sub (by omega), nI_clamp (n := i + 1) (by omega), nI_clamp (n := n - (i + 1)) (by omega), hf _ (by omega), hf _ (by omega)]
    exact br_f (tw_nle (by omega) (by omega)) ⟨pk_in (i + 1) 41 (by omega), pk_in (n - (i + 1)) 41 (by omega), ih _ ⟨i + 1, rfl, rfl⟩⟩
theorem nT_up {n : Nat} {f : Nat → Int32} (hf : ∀ i, i < n → f i = nI (nT i)) : ∀ i, i < n + 1 → upd f n (nI (nT n)) i = nI (nT i) := by
  intro i hi
  by_cases q : i = n
  · subst q; unfold upd; rw [if_pos rfl]
  · unfold upd; rw [if_neg q]; exact hf i (by omega)
def ltL (p : Nat) : List Int64 := if nT p = 0 then [] else [(nI (nF p)).toInt64]
theorem t7_litters {p : Nat} {f : Nat → Int32} {fn : Nat → Int64} {Post : Int32 → ((Nat → Int32) × Int32 × (Nat → Int64)) → Prop} (hF : 5000 ≤ F) (hp : p < 41) (kk : ∀ g s2 f2, RLw (ltL p) s2 f2 → Post (if nT p = 0 then 0 else 1) (g, s2, f2)) : p_X7_litters_14 F (nI p) fn Post F 0 f := by
  refine up_loop (fun m i f => p_X7_litters_14 F (nI p) fn Post m i f) (fun j f => ∀ i, i < j → f i = nI (nT i)) (p + 1) ?_ ?_ F f 0 (fun i hi => absurd hi (Nat.not_lt_zero _)) (by omega) (by omega)
  · intro m f hf
    show p_X7_litters_14 F (nI p) fn Post (m + 1) (nI (p + 1)) f
    rw [p_X7_litters_14_s]
    refine br_t (nI_lt (by omega) (by omega)) (s3_anew ?_)
    by_cases q : nT p = 0
    · have n0 := nF_0 p hp q
      unfold ltL at kk
      rw [if_pos q, if_pos q] at kk
      refine up_loop (fun m i (_ : Unit) => p_X7_litters_46 F (nI p) fn 0 f Post m i) (fun j _ => 1 ≤ j) ((p - 1) / 2 + 1) ?_ ?_ F () 1 (Nat.le_refl _) (by omega) (by omega)
      · intro m _ _
        show p_X7_litters_46 F (nI p) fn 0 f Post (m + 1) (nI ((p - 1) / 2 + 1))
        rw [p_X7_litters_46_s]
        exact br_t (tw_le (by omega) (by omega)) (kk _ _ _ (RL_nil _))
      · intro m j _ hj h1 ih
        show p_X7_litters_46 F (nI p) fn 0 f Post (m + 1) (nI j)
        rw [p_X7_litters_46_s, pk_sub (by omega), nI_clamp (n := j) (by omega), nI_clamp (n := p - j) (by omega), hf _ (by omega), hf _ (by omega)]
        refine br_f (tw_nle (by omega) (by omega)) ⟨pk_in (j) 41 (by omega), pk_in (p - j) 41 (by omega), fun _ => ih () (by omega), fun z => absurd ((nI_eq ?_ ?_).1 z) (n0 j (by omega) h1)⟩
        · have := nT_4 j (by omega); omega
        · have := nT_4 (p - j) (by omega); omega
    · obtain ⟨y1, y2, y3⟩ := nF_y p hp q
      have n1 := nF_n p hp
      unfold ltL at kk
      rw [if_neg q, if_neg q] at kk
      refine up_loop (fun m i (_ : Unit) => p_X7_litters_46 F (nI p) fn 0 f Post m i) (fun j _ => 1 ≤ j) (nF p) ?_ ?_ F () 1 (Nat.le_refl _) (by omega) (by omega)
      · intro m _ _
        show p_X7_litters_46 F (nI p) fn 0 f Post (m + 1) (nI (nF p))
        rw [p_X7_litters_46_s, pk_sub (by omega), nI_clamp (n := nF p) (by omega), nI_clamp (n := p - nF p) (by omega), hf _ (by omega), hf _ (by omega)]
        exact br_f (tw_nle (by omega) (by omega)) ⟨pk_in (nF p) 41 (by omega), pk_in (p - nF p) 41 (by omega), fun z => absurd (congrArg nI y3) z, fun _ => s3_add (RL_nil _) (by decide) (fun s5 f5 h5 => kk _ _ _ h5)⟩
      · intro m j _ hj h1 ih
        show p_X7_litters_46 F (nI p) fn 0 f Post (m + 1) (nI j)
        rw [p_X7_litters_46_s, pk_sub (by omega), nI_clamp (n := j) (by omega), nI_clamp (n := p - j) (by omega), hf _ (by omega), hf _ (by omega)]
        refine br_f (tw_nle (by omega) (by omega)) ⟨pk_in (j) 41 (by omega), pk_in (p - j) 41 (by omega), fun _ => ih () (by omega), fun z => absurd ((nI_eq ?_ ?_).1 z) (n1 j (by omega) h1)⟩
        · have := nT_4 j (by omega); omega
        · have := nT_4 (p - j) (by omega); omega
  · intro m j f hj hf ih
    show p_X7_litters_14 F (nI p) fn Post (m + 1) (nI j) f
    rw [p_X7_litters_14_s, nI_clamp (n := j) (by omega)]
    exact br_f (nI_nlt (by omega) (by omega)) (s7_nimberOf hF (by omega) hf ⟨pk_in (j) 41 (by omega), ih _ (nT_up hf)⟩)
theorem t8_litters {p : Nat} {f : Nat → Int32} {fn : Nat → Int64} {Post : Int32 → (Int32 × Int32 × (Nat → Int32) × (Nat → Int64)) → Prop} (hF : 5000 ≤ F) (hp : p < 41) (kk : ∀ g s2 f2, RLw (ltL p) s2 f2 → Post (if nT p = 0 then 0 else 1) (s2, 0, g, f2)) : p_X8_litters_19 F (nI p) fn Post F 0 f := by
  refine up_loop (fun m i f => p_X8_litters_19 F (nI p) fn Post m i f) (fun j f => ∀ i, i < j → f i = nI (nT i)) (p + 1) ?_ ?_ F f 0 (fun i hi => absurd hi (Nat.not_lt_zero _)) (by omega) (by omega)
  · intro m f hf
    show p_X8_litters_19 F (nI p) fn Post (m + 1) (nI (p + 1)) f
    rw [p_X8_litters_19_s, nI_clamp (n := p) (by omega), hf p (by omega)]
    refine br_t (nI_lt (by omega) (by omega)) ⟨pk_in (p) 41 (by omega), ?_⟩
    by_cases q : nT p = 0
    · unfold ltL at kk
      rw [if_pos q, if_pos q] at kk
      rw [q]
      exact ⟨fun z => absurd rfl z, fun _ => kk _ _ _ (RL_nil _)⟩
    · obtain ⟨y1, y2, y3⟩ := nF_y p hp q
      have n1 := nF_n p hp
      unfold ltL at kk
      rw [if_neg q, if_neg q] at kk
      refine ⟨fun _ => ?_, fun z => absurd ((nI_eq (b := 0) (by have := nT_4 p hp; omega) (by omega)).1 z) q⟩
      refine up_loop (fun m i (_ : Unit) => p_X8_litters_103 F (nI p) fn f Post m i) (fun j _ => 1 ≤ j) (nF p) ?_ ?_ F () 1 (Nat.le_refl _) (by omega) (by omega)
      · intro m _ _
        show p_X8_litters_103 F (nI p) fn f Post (m + 1) (nI (nF p))
        rw [p_X8_litters_103_s, pk_sub (by omega), nI_clamp (n := nF p) (by omega), nI_clamp (n := p - nF p) (by omega), hf _ (by omega), hf _ (by omega)]
        exact ⟨pk_in (nF p) 41 (by omega), pk_in (p - nF p) 41 (by omega), fun _ => s8_tell (RL_nil _) (by decide) (fun s5 f5 h5 => kk _ _ _ h5), fun z => absurd (congrArg nI y3) z⟩
      · intro m j _ hj h1 ih
        show p_X8_litters_103 F (nI p) fn f Post (m + 1) (nI j)
        rw [p_X8_litters_103_s, pk_sub (by omega), nI_clamp (n := j) (by omega), nI_clamp (n := p - j) (by omega), hf _ (by omega), hf _ (by omega)]
        refine ⟨pk_in (j) 41 (by omega), pk_in (p - j) 41 (by omega), fun z => absurd ((nI_eq ?_ ?_).1 z) (n1 j (by omega) h1), fun _ => ih () (by omega)⟩
        · have := nT_4 j (by omega); omega
        · have := nT_4 (p - j) (by omega); omega
  · intro m j f hj hf ih
    show p_X8_litters_19 F (nI p) fn Post (m + 1) (nI j) f
    rw [p_X8_litters_19_s]
    refine br_f (nI_nlt (by omega) (by omega)) (s8_worth hF (by omega) hf (ih _ (nT_up hf)))
end
section
variable {F : Nat} {x : XS} {m : MS} {am : MA}
theorem ob_litters (hF : 5000 ≤ F) (p : Int32) (h : Rel F x m) : p7_litters F p x (fun r x' => p8_litters F p m (fun r' m' => r = r' ∧ Rel F x' m')) := by
  obtain ⟨nA, nC, R, w, ok, hV, hM, eA, eC, hT, hW, hU, hN, hE, hH, hK⟩ := h
  unfold p7_litters p_X7_litters p8_litters p_X8_litters
  rcases arg3 p (n := 41) (by omega) with q | ⟨j, hj, e⟩
  · refine rg_no (n := 40) q (by omega) ?_ ?_ <;> exact s8_rgno (n := 40) q (by omega) ⟨fun z => absurd rfl z, fun _ => ⟨rfl, nA, nC, R, w, ok, hV, hM, eA, eC, hT, hW, hU, hN, hE, hH, hK⟩⟩
  · subst e
    refine rg_yes (n := 40) (by omega) (by omega) (t7_litters hF hj (fun g s5 f5 h5 => ?_))
    refine s8_rgyes (n := 40) (by omega) (by omega) ⟨fun _ => t8_litters hF hj (fun g2 s6 f6 h6 => ?_), fun z => absurd z (by decide)⟩
    refine ⟨rfl, nA, nC, R, w, ok, hV, hM, eA, eC, hT, RWr_of ?_ h5 h6, hU, hN, hE, hH, hK⟩
    unfold ltL
    split
    · exact Nat.zero_le 8
    · show 1 ≤ 8
      omega
end
