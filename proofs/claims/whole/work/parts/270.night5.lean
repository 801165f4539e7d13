/-! ===== call: night, the model's two loops ===== -/
section
variable {F nA nC t m q qt : Nat} {b : Nat → Nat} {R : (Nat → Int32) → Int32} {w text now aside asked rule hold undos : Nat → Int32} {rm rs ia um dr : Int32} {row : Nat → Int64} {Post : Int32 → (Int32 × Int32 × Int32 × Value × Int32 × Int32 × Int32 × Int32 × Int32 × Int32 × Int32 × (Nat → Int32) × (Nat → Int32) × (Nat → Int32) × (Nat → Int32) × (Nat → Int32) × (Nat → Int32) × (Nat → Int64)) → Prop}
theorem s8_nightR {ar ca : Int32} (hT : TXm t b text) : ∀ (n k G : Nat) (acts : Nat → Int32), 82 ≤ 2 * n + pA b k → pA b k ≤ t → pA b k ≤ 60 → 2 * k ≤ pA b k → n + 2 < G → (∀ i, i < k → acA b acts i) → (∀ K acts', niR t b n k = (true, K) → (∀ i, i < K → acA b acts' i) → p_X8_night_44 F ar ca qt rm q rs ia um dr now aside asked rule hold undos row (0, nI t, nI 60, 0, -1) (nI K) (nI (pA b K)) (-1) acts' Post) → (∀ P y1 at0 acts', niR t b n k = (false, P) → P < 100 → p_X8_night_44 F ar ca qt rm q rs ia um dr now aside asked rule hold undos row (0, nI t, nI 60, 0, -1) y1 at0 (nI P) acts' Post) → p_X8_night_13 F ar ca qt rm q rs ia um dr text now aside asked rule hold undos row (0, nI t, nI 60, 0, -1) Post G (nI k) (nI (pA b k)) (-1) acts
  | 0, k, G, acts, h1, h2, h3, h4, _, _, _, _ => absurd h1 (by have := hT.1; omega)
  | n + 1, k, G, acts, h1, h2, h3, h4, hG, ha, kok, kbad => by
    obtain ⟨G', rfl⟩ : ∃ G', G = G' + 1 := ⟨G - 1, by omega⟩
    have ht := hT.1
    have en : pA b (k + 1) = pA b k + (1 + dA (b (pA b k))) := rfl
    have ih := s8_nightR (ar := ar) (ca := ca) hT n (k + 1) G'
    rw [p_X8_night_13_s]
    refine s8_fine (br_f (by decide) ?_)
    by_cases q0 : t ≤ pA b k
    · refine br_t (nI_le q0 (by omega)) (kok k acts ?_ ha)
      rw [niR, if_pos q0]
    refine br_f (nI_ge (by omega) (by omega)) ?_
    rw [show (3 : Int32) * nI k = nI (3 * k) from by rw [show (3 : Int32) = nI 3 from rfl, pk_mul]]
    refine s8_readAct (i := 3 * k) hT (by omega) h3 (by omega) (fun P at0 g hP hP1 => ?_) (fun g g0 g1 g2 e0 e1 e2 e3 => ?_)
    · obtain ⟨G2, rfl⟩ : ∃ G2, G' = G2 + 1 := ⟨G' - 1, by omega⟩
      show p_X8_night_13 F ar ca qt rm q rs ia um dr text now aside asked rule hold undos row (0, nI t, nI 60, 0, -1) Post (G2 + 1) (nI k + 1) at0 (nI P) g
      rw [p_X8_night_13_s]
      refine s8_fineN (m1_ne (by omega)) (br_t rfl (kbad P _ _ _ ?_ hP1))
      rw [niR, if_neg q0]
      rcases hP with ⟨c1, rfl⟩ | ⟨c1, c2, rfl⟩ | ⟨c1, c2, c3, c4, rfl⟩
      · rw [if_pos c1]
      · rw [if_neg (fun z => z c1), if_pos c2]
      · rw [if_neg (fun z => z c1), if_neg (fun z => z c2), if_neg c3, if_pos c4]
    · have d12 := dA_12 (b (pA b k))
      have er : niR t b (n + 1) k = niR t b n (k + 1) := by
        rw [niR, if_neg q0, if_neg (fun z => z g0), if_neg (fun z => z g1)]
        by_cases q1 : dA (b (pA b k)) = 1
        · rw [if_pos q1]
        · rw [if_neg q1, if_neg (fun z => z (g2 q1))]
      rw [er] at kok kbad
      have l1 : pA b k + (1 + dA (b (pA b k))) ≤ t ∧ pA b k + (1 + dA (b (pA b k))) ≤ 60 := by
        by_cases q1 : dA (b (pA b k)) = 1
        · omega
        · have := g2 q1; omega
      rw [en] at ih
      show p_X8_night_13 F ar ca qt rm q rs ia um dr text now aside asked rule hold undos row (0, nI t, nI 60, 0, -1) Post G' (nI k + 1) (nI (pA b k + (1 + dA (b (pA b k))))) (-1) g
      rw [show nI k + 1 = nI (k + 1) from (nI_succ _).symm]
      refine ih g (by omega) l1.1 l1.2 (by omega) (by omega) (fun i hi => ?_) kok kbad
      by_cases ei : i = k
      · subst ei; exact ⟨e0, e1, e2⟩
      · obtain ⟨a0, a1, a2⟩ := ha i (by omega)
        refine ⟨?_, ?_, fun z => ?_⟩
        · rw [e3 _ (by omega)]; exact a0
        · rw [e3 _ (by omega)]; exact a1
        · rw [e3 _ (by omega)]; exact a2 z
theorem s8_nightL {K : Nat} {u8 : Int32 × Int32 × Int32 × Int32 × Int32} {u67 acts : Nat → Int32} (hF : 5000 ≤ F) (hR : RM F R m rule) (hT : TXm t b text) (hK : K ≤ 60) (hg : ∀ i, i < K → gdA t b i) (ha : ∀ i, i < K → acA b acts i) (ok : ∀ i, i ≤ nE R nA nC w b K 0 → OK nA nC (nw R nA nC w b i)) (kk : ∀ u1 u2 u3 u4 u5 u6 u7 f2 as hd, MV (nw R nA nC w b (nE R nA nC w b K 0)) f2 → p_X8_night_118 F (nI nA) um undos row u8 u67 (nI K) acts (nI (nE R nA nC w b K 0)) Post u1 u2 u3 u4 u5 u6 u7 f2 as hd) : ∀ (n k G : Nat) u1 u2 u3 u4 u5 u6 u7 f2 as hd, n + k = K → n + 2 < G → nE R nA nC w b n k = nE R nA nC w b K 0 → MV (nw R nA nC w b k) f2 → p_X8_night_72 F (nI nA) (nI nC) q (nI m) um rule undos row u8 u67 (nI K) acts Post G (nI k) u1 u2 u3 u4 u5 u6 u7 f2 as hd
  | 0, k, G, u1, u2, u3, u4, u5, u6, u7, f2, as, hd, h1, hG, he, hM => by
    obtain ⟨G', rfl⟩ : ∃ G', G = G' + 1 := ⟨G - 1, by omega⟩
    rw [nE] at he
    rw [p_X8_night_72_s]
    have kk := kk u1 u2 u3 u4 u5 u6 u7 f2 as hd (by rw [← he]; exact hM)
    rw [← he] at kk
    exact br_t (nI_le (by omega) (by omega)) kk
  | n + 1, k, G, u1, u2, u3, u4, u5, u6, u7, f2, as, hd, h1, hG, he, hM => by
    obtain ⟨G', rfl⟩ : ∃ G', G = G' + 1 := ⟨G - 1, by omega⟩
    have ht := hT.1
    obtain ⟨g0, g1, g2, g3⟩ := hg k (by omega)
    obtain ⟨a0, a1, a2⟩ := ha k (by omega)
    have hb := (hT.2 (pA b k) (by omega)).1
    have d12 := dA_12 (b (pA b k))
    have hkE : k ≤ nE R nA nC w b K 0 := by rw [← he]; exact nE_ge
    rw [nE] at he
    rw [p_X8_night_72_s, show (3 : Int32) * nI k = nI (3 * k) from by rw [show (3 : Int32) = nI 3 from rfl, pk_mul], show nI (3 * k) + (1 : Int32) = nI (3 * k + 1) from nI_add _ 1, show nI (3 * k) + (2 : Int32) = nI (3 * k + 2) from nI_add _ 2, nI_clamp (n := 3 * k) (by omega), nI_clamp (n := 3 * k + 1) (by omega), nI_clamp (n := 3 * k + 2) (by omega), a0, a1]
    refine br_f (nI_ge (by omega) (by omega)) ⟨pk_in (3 * k) 240 (by omega), pk_in (3 * k + 1) 240 (by omega), pk_in (3 * k + 2) 240 (by omega), ?_⟩
    have ec : aCw nA nC (nw R nA nC w b k) (b (pA b k)) (nI (b (pA b k + 1) - 48)) (acts (3 * k + 2)) = nK R nA nC w b k := by
      by_cases q1 : dA (b (pA b k)) = 1
      · exact aC_1 q1
      · rw [a2 (by omega)]; rfl
    have ew : aW R nA nC (nw R nA nC w b k) (b (pA b k)) (nI (b (pA b k + 1) - 48)) (acts (3 * k + 2)) = nw R nA nC w b (k + 1) := by
      by_cases q1 : dA (b (pA b k)) = 1
      · exact aW_1 q1
      · rw [a2 (by omega)]; rfl
    unfold isD at g2
    refine s8_act hF hR hM (ok k hkE) hb (by omega) g0 (fun neg v1 v2 v3 v4 v5 v6 v7 f3 as3 hd3 hM3 => ?_) (fun e0 v1 v2 v3 v4 v5 v6 v7 f3 as3 hd3 hM3 => ?_)
    · rw [ec] at neg
      have hn : ¬ nK R nA nC w b k = 0 := fun y => by rw [y] at neg; exact absurd neg (by decide)
      rw [if_neg hn] at he
      have kk := kk v1 v2 v3 v4 v5 v6 v7 f3 as3 hd3 (by rw [← he]; exact hM3)
      rw [← he] at kk
      exact br_t rfl kk
    · rw [ec] at e0
      rw [if_pos e0] at he
      rw [ew] at hM3
      refine br_f (by decide) ?_
      rw [show nI k + 1 = nI (k + 1) from (nI_succ _).symm]
      exact s8_nightL hF hR hT hK hg ha ok kk n (k + 1) G' _ _ _ _ _ _ _ _ _ _ (by omega) (by omega) he hM3
end
