/-! ===== the rule: comparisons, numbers, things ===== -/
section
variable {F t d i : Nat} {h : Nat → Nat} {T : MP}
theorem held_S (hb : ∀ i, i < t → h i < 256) (hi : i ≤ eN t) (hS : ∀ j, i ≤ j → j ≤ eN t → LvS t h 2 2 (p_X8_sum F T) d j) : LvS t h 1 1 (p_X8_held F T) d i := by
  have h40 := eN_40 t
  obtain ⟨j1, o1, a1, a2, a3, a4, a5⟩ := hS i (Nat.le_refl _) hi
  have lo1 : ∀ sk, lowR 1 sk → lowR 2 sk := fun sk lo c s e => Nat.lt_trans (lo c s e) (by omega)
  cases o1 with
  | none =>
    refine ⟨j1, none, a1, a2, ?_, fun _ st sk cm dg lo _ => a4 rfl st sk cm dg (lo1 sk lo) (fun y => by omega), fun V y => absurd y (by simp)⟩
    intro N fr isA lt asked Post hT hN hN2 hA hk
    unfold p_X8_held
    refine a3 N fr isA lt asked _ hT hN hN2 hA (fun v _ => ?_)
    have hw : ¬ nI j1 = -1 := m1_ne (by omega)
    exact s8_psW hw (br_t rfl (s8_psW hw (br_t rfl (s8_psW hw (br_t rfl (hk _ (fun V2 y => absurd y (by simp))))))))
  | some V1 =>
    obtain ⟨b1, C1, pd1, b2, b3, b4⟩ := a5 V1 rfl
    by_cases z : j1 < eN t ∧ rkN (h j1) = 1
    · obtain ⟨zj, zr⟩ := z
      have hc := hb j1 (eN_lt.1 zj).1
      obtain ⟨d1, d2, d3⟩ := rk_dg (h j1) hc (by omega)
      obtain ⟨j2, o2, c1, c2, c3, c4, c5⟩ := hS (j1 + 1) (by omega) (by omega)
      have lo2 : ∀ sk : List Nat, lowR 2 (h j1 :: sk) := by
        intro sk c s e
        rw [List.cons.injEq] at e
        rw [← e.1]
        omega
      have cls : ∀ st sk cm dg, lowR 1 sk → cm d = false → ∃ cm2, (∀ e, e < d → cm2 e = cm e) ∧ cm2 d = true ∧ Ou h t i st sk d cm dg true = Ou h t (j1 + 1) (st ++ (C1 ++ ngs pd1)) (h j1 :: sk) d cm2 0 true := by
        intro st sk cm dg lo hd
        obtain ⟨cm2, dg2, f1, f2, f3, f4, f5⟩ := b4 st sk cm dg (lo1 sk lo) (fun y => by omega)
        have f2 := f2 (by omega)
        refine ⟨setB cm2 d true, fun e he => ?_, ?_, ?_⟩
        · unfold setB; rw [if_neg (by omega)]; exact f1 e he
        · unfold setB; rw [if_pos rfl]
        · rw [f5]
          apply Ou_s zj
          unfold tk
          rw [if_neg d1, if_neg (by decide), if_neg (fun y => d2 y.1), if_neg (by rw [f2, hd]; simp; omega), zr, if_pos rfl, settl_pd lo pd1 _ (fun c hc => Nat.le_trans (by omega) (b2 c hc))]
          rw [List.append_assoc]
      have md : ∀ (N : Nat) (fr : Nat → Int32) (isA : Int32) (lt asked : Nat → Int32) (Post : Int32 → (Int32 × Int32) → Prop), TXm t h fr → t ≤ N → N < 1000 → (isA = 1 → ∀ k, k < 7 → asked k = lt k) → (∀ v v2, (isA = 1 → v = V1 lt) → (∀ V, o2 = some V → isA = 1 → v2 = V lt) → Post (jnI (nI (h j1)) v v2) (nI j2, wrO o2 j2)) → p_X8_held F T (nI d) (nI t) 40 (nI i) (-1) isA N fr asked Post := by
        intro N fr isA lt asked Post hT hN hN2 hA hk
        unfold p_X8_held
        refine a3 N fr isA lt asked _ hT hN hN2 hA (fun v hv => ?_)
        have hv := hv V1 rfl
        rcases (rk1 _ hc).1 zr with z | z | z
        · refine s8_ps (c := 60) hT hN hN2 a2 (by omega) (fun _ _ => ⟨fun y => absurd y (by decide), fun _ => c3 N fr isA lt asked _ hT hN hN2 hA (fun v2 hv2 => ?_)⟩) (fun y => absurd ⟨zj, z⟩ y)
          have := hk v v2 hv hv2
          rw [z] at this
          exact pif (P := fun x => Post x (nI j2, wrO o2 j2)) (c := v2 ≤ v) (a := 0) (b := 1) this id
        · refine s8_ps (c := 60) hT hN hN2 a2 (by omega) (fun _ y => by omega) (fun _ => br_t rfl (s8_ps (c := 62) hT hN hN2 a2 (by omega) (fun _ y => by omega) (fun _ => br_t rfl (s8_ps (c := 61) hT hN hN2 a2 (by omega) (fun _ _ => ⟨fun y => absurd y (by decide), fun _ => c3 N fr isA lt asked _ hT hN hN2 hA (fun v2 hv2 => ?_)⟩) (fun y => absurd ⟨zj, z⟩ y)))))
          have := hk v v2 hv hv2
          rw [z] at this
          exact pifn (P := fun x => Post x (nI j2, wrO o2 j2)) (c := v = v2) (a := 1) (b := 0) this
        · refine s8_ps (c := 60) hT hN hN2 a2 (by omega) (fun _ y => by omega) (fun _ => br_t rfl (s8_ps (c := 62) hT hN hN2 a2 (by omega) (fun _ _ => ⟨fun y => absurd y (by decide), fun _ => c3 N fr isA lt asked _ hT hN hN2 hA (fun v2 hv2 => ?_)⟩) (fun y => absurd ⟨zj, z⟩ y)))
          have := hk v v2 hv hv2
          rw [z] at this
          exact pif (P := fun x => Post x (nI j2, wrO o2 j2)) (c := v ≤ v2) (a := 0) (b := 1) this id
      cases o2 with
      | none =>
        refine ⟨j2, none, by omega, c2, ?_, ?_, fun V y => absurd y (by simp)⟩
        · intro N fr isA lt asked Post hT hN hN2 hA hk
          exact md N fr isA lt asked Post hT hN hN2 hA (fun v v2 _ _ => hk _ (fun V2 y => absurd y (by simp)))
        · intro _ st sk cm dg lo hd
          obtain ⟨cm2, f1, f2, f3⟩ := cls st sk cm dg lo (hd rfl)
          rw [f3]
          exact c4 rfl _ _ _ _ (lo2 sk) (fun y => by omega)
      | some V2 =>
        obtain ⟨e1, C2, pd2, e2, e3, e4⟩ := c5 V2 rfl
        refine ⟨j2, some (fun lt => jnI (nI (h j1)) (V1 lt) (V2 lt)), by omega, c2, ?_, fun y => absurd y (by simp), fun V y => ⟨by omega, C1 ++ ngs pd1 ++ C2, pd2 ++ [h j1], fun c hc => ?_, ?_, fun st sk cm dg lo hd => ?_⟩⟩
        · intro N fr isA lt asked Post hT hN hN2 hA hk
          refine md N fr isA lt asked Post hT hN hN2 hA (fun v v2 w1 w2 => hk _ (fun V2 y ia => ?_))
          rw [Option.some.injEq] at y
          rw [← y, w1 ia, w2 _ rfl ia]
        · rcases List.mem_append.1 hc with hc | hc
          · exact Nat.le_trans (by omega) (e2 c hc)
          · rw [List.mem_singleton.1 hc]; omega
        · rw [Option.some.injEq] at y
          rw [← y]
          exact ev_step hc (by omega) b3 e3
        · obtain ⟨cm2, f1, f2, f3⟩ := cls st sk cm dg lo (hd rfl)
          obtain ⟨cm3, dg3, k1, k2, k3, k4, k5⟩ := e4 (st ++ (C1 ++ ngs pd1)) (h j1 :: sk) cm2 0 (lo2 sk) (fun y => by omega)
          have k2 := k2 (by omega)
          refine ⟨cm3, dg3, fun e he => by rw [k1 e he, f1 e he], fun y => absurd rfl y, fun y => ?_, k4, ?_⟩
          · rcases k3 y with w | w
            · rcases Nat.eq_zero_or_pos (rkN (h j2)) with g | g
              · exact Or.inl (by omega)
              · exact Or.inr ⟨by omega, by rw [k2, f2]⟩
            · exact Or.inr w
          · rw [f3, k5]
            simp
    · refine ⟨j1, some V1, a1, a2, ?_, fun y => absurd y (by simp), fun V y => ⟨b1, C1, pd1, fun c hc => Nat.le_trans (by omega) (b2 c hc), ?_, fun st sk cm dg lo hd => ?_⟩⟩
      · intro N fr isA lt asked Post hT hN hN2 hA hk
        unfold p_X8_held
        refine a3 N fr isA lt asked _ hT hN hN2 hA (fun v hv => ?_)
        have no : ∀ c, (c = 60 ∨ c = 61 ∨ c = 62) → j1 < eN t → ¬ h j1 = c := fun c hc y1 y2 => z ⟨y1, by rw [y2]; rcases hc with rfl | rfl | rfl <;> rfl⟩
        refine s8_ps (c := 60) hT hN hN2 a2 (by omega) (fun y1 y2 => absurd y2 (no 60 (by omega) y1)) (fun _ => br_t rfl (s8_ps (c := 62) hT hN hN2 a2 (by omega) (fun y1 y2 => absurd y2 (no 62 (by omega) y1)) (fun _ => br_t rfl (s8_ps (c := 61) hT hN hN2 a2 (by omega) (fun y1 y2 => absurd y2 (no 61 (by omega) y1)) (fun _ => br_t rfl ?_)))))
        exact hk v hv
      · rw [Option.some.injEq] at y
        rw [← y]
        exact b3
      · obtain ⟨cm2, dg2, f1, f2, f3, f4, f5⟩ := b4 st sk cm dg (lo1 sk lo) (fun y => by omega)
        refine ⟨cm2, dg2, f1, fun y => absurd rfl y, fun y => Or.inl ?_, f4, f5⟩
        have : ¬ rkN (h j1) = 1 := fun w => z ⟨y, w⟩
        rcases f3 y with w | w
        · omega
        · exact absurd w.1 this
end
/-! numbers -/
theorem num_S {F t : Nat} {h : Nat → Nat} : ∀ (m k j v : Nat), k + m = 3 → 1 ≤ k → j ≤ eN t → v < 10 ^ k → ∃ j2 v2, j ≤ j2 ∧ j2 ≤ eN t ∧ v2 < 1000 ∧
    (∀ (N : Nat) (fr : Nat → Int32) (Post : Int32 → (Int32 × Int32) → Prop) (G : Nat), m < G → TXm t h fr → t ≤ N → N < 1000 → Post (nI v2) (nI j2, -1) → p_X8_number_11 F 3 (nI t) 40 N fr Post G (nI k) (nI v) (nI j) (-1)) ∧
    (∀ st sk op cm, ∃ dg2, dgOK h t j2 dg2 ∧ Ou h t j (st ++ [nI v]) sk op cm k false = Ou h t j2 (st ++ [nI v2]) sk op cm dg2 false)
  | 0, k, j, v, hk, h1, hj, hv => by
    have e : k = 3 := by omega
    subst e
    refine ⟨j, v, Nat.le_refl _, hj, hv, ?_, fun st sk op cm => ⟨3, fun _ _ _ => Or.inr rfl, rfl⟩⟩
    intro N fr Post G hG hT hN hN2 kk
    obtain ⟨G', rfl⟩ : ∃ G', G = G' + 1 := ⟨G - 1, by omega⟩
    rw [p_X8_number_11_s]
    exact br_t (by decide) kk
  | m + 1, k, j, v, hk, h1, hj, hv => by
    have h40 := eN_40 t
    have v3 : v < 1000 := by
      have : 10 ^ k ≤ 10 ^ 3 := Nat.pow_le_pow_right (by decide) (by omega)
      omega
    have n3 : ¬ (3 : Int32) ≤ nI k := nI_ge (b := 3) (by omega) (by omega)
    by_cases z : j < eN t ∧ 48 ≤ h j ∧ h j ≤ 57
    · obtain ⟨zj, z1, z2⟩ := z
      obtain ⟨j2, v2, a1, a2, a3, a4, a5⟩ := num_S (F := F) (t := t) (h := h) m (k + 1) (j + 1) (10 * v + (h j - 48)) (by omega) (by omega) (by omega) (by
        have : 10 ^ (k + 1) = 10 ^ k * 10 := Nat.pow_succ 10 k
        omega)
      refine ⟨j2, v2, by omega, a2, a3, ?_, ?_⟩
      · intro N fr Post G hG hT hN hN2 kk
        obtain ⟨G', rfl⟩ : ∃ G', G = G' + 1 := ⟨G - 1, by omega⟩
        have ehv : hvI t h j = nI (h j) := by unfold hvI; rw [if_pos zj]
        rw [p_X8_number_11_s]
        refine br_f n3 (s8_fine (br_f (by decide) (s8_hv hT hN hN2 (by omega) ?_)))
        rw [ehv]
        refine s8_in (lo := 48) (hi := 57) z1 z2 (by omega) (br_f (by decide) (s8_oneOf (fst := 48) (many := 10) (top := 40) hT (eN_lt.1 zj).1 (eN_lt.1 zj).2 (by omega) hN hN2 z1 (by omega) (by omega) ?_))
        have e : (10 : Int32) * nI v + nI (h j - 48) = nI (10 * v + (h j - 48)) := by
          rw [show (10 : Int32) = nI 10 from rfl, pk_mul, nI_add]
        rw [e, ← nI_succ]
        exact a4 N fr Post G' (by omega) hT hN hN2 kk
      · intro st sk op cm
        obtain ⟨dg2, g1, g2⟩ := a5 st sk op cm
        refine ⟨dg2, g1, ?_⟩
        rw [← g2]
        apply Ou_s zj
        unfold tk
        rw [if_pos ⟨z1, z2⟩, if_neg (by decide), if_neg (by omega)]
        have e : 10 * (st ++ [nI v]).getLastD 0 + nI (h j - 48) = nI (10 * v + (h j - 48)) := by
          have : (st ++ [nI v]).getLastD 0 = nI v := by simp
          rw [this, show (10 : Int32) = nI 10 from rfl, pk_mul, nI_add]
        rw [e, List.dropLast_concat]
    · refine ⟨j, v, Nat.le_refl _, hj, v3, ?_, fun st sk op cm => ⟨k, fun y1 y2 y3 => absurd ⟨y1, y2, y3⟩ z, rfl⟩⟩
      intro N fr Post G hG hT hN hN2 kk
      obtain ⟨G', rfl⟩ : ∃ G', G = G' + 1 := ⟨G - 1, by omega⟩
      rw [p_X8_number_11_s]
      refine br_f n3 (s8_fine (br_f (by decide) (s8_hv hT hN hN2 hj (s8_nin ?_ (br_t rfl kk)))))
      unfold hvI
      by_cases zj : j < eN t
      · rw [if_pos zj]
        have hb := (hT.2 j (eN_lt.1 zj).1).1
        by_cases y : 48 ≤ h j
        · exact Or.inr (nI_lt (a := 57) (by omega) (by omega))
        · exact Or.inl (nI_lt (b := 48) (by omega) (by omega))
      · rw [if_neg zj]
        exact Or.inl (by decide)
