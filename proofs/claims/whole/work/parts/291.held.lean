/-! ===== the rule: products, sums, what is held against another ===== -/
def hvI (t : Nat) (h : Nat → Nat) (i : Nat) : Int32 := if i < eN t then nI (h i) else -1
section
variable {F t i N : Nat} {h : Nat → Nat} {fr : Nat → Int32}
theorem s8_hv {Post : Int32 → Prop} (hT : TXm t h fr) (hN : t ≤ N) (hN2 : N < 1000) (hi : i ≤ eN t) (k : Post (hvI t h i)) : p_X8_here F (nI t) 40 (nI i) N fr Post := by
  have ht := hT.1
  have h40 := eN_40 t
  unfold hvI at k
  by_cases z : i < eN t
  · rw [if_pos z] at k
    exact s8_here (top := 40) hT (eN_lt.1 z).1 (eN_lt.1 z).2 (by omega) hN hN2 k
  · rw [if_neg z] at k
    exact s8_hereN (top := 40) (by omega) (fun y => z (eN_lt.2 y)) (by omega) (by omega) k
theorem hv_eq {c : Nat} (hT : TXm t h fr) (hc : c < 256) : hvI t h i = nI c ↔ i < eN t ∧ h i = c := by
  unfold hvI
  by_cases z : i < eN t
  · have := (hT.2 i (eN_lt.1 z).1).1
    rw [if_pos z, nI_eq (by omega) (by omega)]
    exact ⟨fun y => ⟨z, y⟩, fun y => y.2⟩
  · rw [if_neg z]
    exact ⟨fun y => absurd y.symm (m1_ne (by omega)), fun y => absurd y.1 z⟩
theorem s8_ps {c : Nat} {Post : Int32 → Int32 → Prop} (hT : TXm t h fr) (hN : t ≤ N) (hN2 : N < 1000) (hi : i ≤ eN t) (hc : c < 256) (k1 : i < eN t → h i = c → Post 1 (nI (i + 1))) (k0 : ¬ (i < eN t ∧ h i = c) → Post 0 (nI i)) : p_X8_passes F (nI c) (nI t) 40 (nI i) (-1) N fr Post := by
  unfold p_X8_passes
  refine s8_fine ⟨fun z => absurd z (by decide), fun _ => s8_hv hT hN hN2 hi ⟨fun z => ?_, fun z => k0 (fun y => z ((hv_eq hT hc).2 y))⟩⟩
  rw [← nI_succ]
  have := (hv_eq hT hc).1 z
  exact k1 this.1 this.2
theorem s8_psW {c ln tp at0 wr : Int32} {Post : Int32 → Int32 → Prop} (hw : ¬ wr = -1) (k : Post 0 at0) : p_X8_passes F c ln tp at0 wr N fr Post := by
  unfold p_X8_passes
  exact s8_fineN hw (br_t rfl k)
end
theorem rk3 : ∀ c, c < 256 → (rkN c = 3 ↔ c = 42 ∨ c = 47) := by decide +kernel
theorem rk2 : ∀ c, c < 256 → (rkN c = 2 ↔ c = 43 ∨ c = 45) := by decide +kernel
theorem rk1 : ∀ c, c < 256 → (rkN c = 1 ↔ c = 60 ∨ c = 61 ∨ c = 62) := by decide +kernel
section
variable {F t d i : Nat} {h : Nat → Nat} {q1 r1 r : Nat} {M LM T : MP} {LP : LPt}
theorem level_S (hF : 5000 ≤ F) (hb : ∀ i, i < t → h i < 256) (hr : 2 ≤ r) (hr1 : r ≤ r1) (hq : r < q1)
    (hl : ∀ j, j < eN t → rkN (h j) < q1 → ¬ rkN (h j) = r → rkN (h j) < r)
    (l0 : ∀ N fr isA asked Post G v at0 wr, ¬ wr = -1 → Post v (at0, wr) → LP N fr isA asked Post (G + 1) v at0 wr)
    (l1 : ∀ N fr isA asked Post G v j, TXm t h fr → t ≤ N → N < 1000 → j ≤ eN t → ¬ (j < eN t ∧ rkN (h j) = r) → Post v (nI j, -1) → LP N fr isA asked Post (G + 1) v (nI j) (-1))
    (l2 : ∀ N fr isA asked Post G v j, TXm t h fr → t ≤ N → N < 1000 → j < eN t → rkN (h j) = r → (∀ Q : Int32 → (Int32 × Int32) → Prop, (∀ o u, LP N fr isA asked Post G (jnI (nI (h j)) v o) u.1 u.2 → Q o u) → M (nI d) (nI t) 40 (nI (j + 1)) (-1) isA N fr asked Q) → LP N fr isA asked Post (G + 1) v (nI j) (-1))
    (lm : ∀ N fr isA asked Post i, M (nI d) (nI t) 40 (nI i) (-1) isA N fr asked (fun o u => LP N fr isA asked Post F o u.1 u.2) → LM (nI d) (nI t) 40 (nI i) (-1) isA N fr asked Post)
    (hi : i ≤ eN t) (hM : ∀ j, i ≤ j → j ≤ eN t → LvS t h q1 r1 M d j) : LvS t h r r LM d i := by
  have h40 := eN_40 t
  obtain ⟨j1, o1, a1, a2, a3, a4, a5⟩ := hM i (Nat.le_refl _) hi
  have loq : ∀ sk, lowR r sk → lowR q1 sk := fun sk lo c s e => Nat.lt_trans (lo c s e) hq
  cases o1 with
  | none =>
    refine ⟨j1, none, a1, a2, ?_, fun _ st sk cm dg lo _ => a4 rfl st sk cm dg (loq sk lo) (fun y => by omega), fun V y => absurd y (by simp)⟩
    intro N fr isA lt asked Post hT hN hN2 hA hk
    refine lm N fr isA asked Post i (a3 N fr isA lt asked _ hT hN hN2 hA (fun v _ => ?_))
    obtain ⟨G, rfl⟩ : ∃ G, F = G + 1 := ⟨F - 1, by omega⟩
    exact l0 _ _ _ _ _ _ _ _ _ (m1_ne (by omega)) (hk _ (fun V2 y => absurd y (by simp)))
  | some V1 =>
    obtain ⟨b1, C1, pd1, b2, b3, b4⟩ := a5 V1 rfl
    have nx1 : j1 < eN t → rkN (h j1) < q1 ∨ rkN (h j1) = 1 := by
      intro y
      obtain ⟨_, _, _, _, w, _⟩ := b4 [] [] (fun _ => false) 0 (fun c s e => absurd e (by simp)) (fun y => by omega)
      rcases w y with w | w
      · exact Or.inl w
      · exact Or.inr w.1
    obtain ⟨j2, o2, e1, e2, e3, e4, e5⟩ := loop_S hb hr hr1 hq hl l0 l1 l2 (eN t) j1 (by omega) a2 (fun j hj hj2 => hM j (by omega) hj2) nx1 V1 C1 pd1 (fun c hc => Nat.le_trans hr1 (b2 c hc)) b3
    refine ⟨j2, o2, by omega, e2, ?_, ?_, ?_⟩
    · intro N fr isA lt asked Post hT hN hN2 hA hk
      refine lm N fr isA asked Post i (a3 N fr isA lt asked _ hT hN hN2 hA (fun v hv => ?_))
      exact e3 N fr isA lt asked Post F v (by omega) hT hN hN2 hA (fun y => hv V1 rfl y) hk
    · intro y st sk cm dg lo _
      obtain ⟨cm2, dg2, f1, f2, f3, f4, f5⟩ := b4 st sk cm dg (loq sk lo) (fun y => by omega)
      rw [f5]
      exact e4 y st sk cm2 dg2 lo
    · intro V2 y
      obtain ⟨C2, pd2, g1, g2, g3⟩ := e5 V2 y
      refine ⟨by omega, C2, pd2, g1, g2, fun st sk cm dg lo _ => ?_⟩
      obtain ⟨cm2, dg2, f1, f2, f3, f4, f5⟩ := b4 st sk cm dg (loq sk lo) (fun y => by omega)
      obtain ⟨cm3, dg3, k1, k2, k3, k4⟩ := g3 st sk cm2 dg2 lo f4
      refine ⟨cm3, dg3, fun e he => by rw [k1 e (by omega), f1 e he], fun _ => by rw [k1 d (Nat.le_refl _), f2 (by omega)], fun y => Or.inl (k2 y), k3, by rw [f5, k4]⟩
theorem product_S (hF : 5000 ≤ F) (hb : ∀ i, i < t → h i < 256) (hi : i ≤ eN t) (hM : ∀ j, i ≤ j → j ≤ eN t → LvS t h 5 4 T d j) : LvS t h 3 3 (p_X8_product F T) d i := by
  refine level_S (LP := fun N fr isA asked Post G v at0 wr => p_X8_product_6 F T (nI d) (nI t) 40 isA N fr asked Post G v at0 wr) hF hb (by omega) (by omega) (by omega) ?_ ?_ ?_ ?_ (fun N fr isA asked Post i k => k) hi hM
  · intro j hj h1 h2
    obtain ⟨c1, c2⟩ := eN_lt.1 hj
    rcases Nat.eq_zero_or_pos (rkN (h j)) with z | z
    · omega
    · have := (rk_dg (h j) (hb j c1) z).2.2
      omega
  · intro N fr isA asked Post G v at0 wr hw k
    show p_X8_product_6 F T (nI d) (nI t) 40 isA N fr asked Post (G + 1) v at0 wr
    rw [p_X8_product_6_s]
    exact s8_fineN hw (br_t rfl k)
  · intro N fr isA asked Post G v j hT hN hN2 hj hz k
    show p_X8_product_6 F T (nI d) (nI t) 40 isA N fr asked Post (G + 1) v (nI j) (-1)
    rw [p_X8_product_6_s]
    have n1 : ∀ c, c = 42 ∨ c = 47 → ¬ hvI t h j = nI c := by
      intro c hc y
      have := (hv_eq hT (by omega)).1 y
      exact hz ⟨this.1, by rw [this.2]; rcases hc with rfl | rfl <;> rfl⟩
    exact s8_fine (br_f (by decide) (s8_hv hT hN hN2 hj (br_f (n1 42 (Or.inl rfl)) (s8_hv hT hN hN2 hj ⟨fun _ => k, fun y => absurd y (n1 47 (Or.inr rfl))⟩))))
  · intro N fr isA asked Post G v j hT hN hN2 hj hz km
    show p_X8_product_6 F T (nI d) (nI t) 40 isA N fr asked Post (G + 1) v (nI j) (-1)
    have hc := hb j (eN_lt.1 hj).1
    have ehv : hvI t h j = nI (h j) := by unfold hvI; rw [if_pos hj]
    have e42 : hvI t h j = (42 : Int32) ↔ h j = 42 := by rw [ehv]; exact nI_eq (b := 42) (by omega) (by omega)
    have e47 : hvI t h j = (47 : Int32) ↔ h j = 47 := by rw [ehv]; exact nI_eq (b := 47) (by omega) (by omega)
    have g31 : p_X8_product_31 F T (nI d) (nI t) 40 isA N fr asked v (nI j) (-1) (p_X8_product_6 F T (nI d) (nI t) 40 isA N fr asked Post G) Post := by
      unfold p_X8_product_31
      refine s8_hv hT hN hN2 (by omega) ⟨fun y => ?_, fun y => ?_⟩
      · have c47 : h j = 47 := ((rk3 _ hc).1 hz).resolve_left (fun w => y (e42.2 w))
        unfold p_X8_product_45
        rw [← nI_succ]
        refine km _ (fun o u k => ⟨fun _ => ?_, fun w => absurd rfl w⟩)
        unfold p_X8_product_87
        rw [c47] at k
        have k : p_X8_product_6 F T (nI d) (nI t) 40 isA N fr asked Post G (if o = 0 then 0 else v / o) u.1 u.2 := k
        exact ⟨fun w => ⟨w, by rw [if_neg w] at k; exact k⟩, fun w => by rw [if_pos w] at k; exact k⟩
      · have c42 := e42.1 y
        unfold p_X8_product_45
        rw [← nI_succ]
        refine km _ (fun o u k => ⟨fun w => absurd w (by decide), fun _ => ?_⟩)
        unfold p_X8_product_87
        rw [c42] at k
        exact k
    rw [p_X8_product_6_s]
    exact s8_fine (br_f (by decide) (s8_hv hT hN hN2 (by omega) ⟨fun _ => g31, fun y => s8_hv hT hN hN2 (by omega) ⟨fun w => absurd (e47.2 (((rk3 _ hc).1 hz).resolve_left (fun w => y (e42.2 w)))) w, fun _ => g31⟩⟩))
theorem sum_S (hF : 5000 ≤ F) (hb : ∀ i, i < t → h i < 256) (hi : i ≤ eN t) (hM : ∀ j, i ≤ j → j ≤ eN t → LvS t h 3 3 (p_X8_product F T) d j) : LvS t h 2 2 (p_X8_sum F T) d i := by
  refine level_S (LP := fun N fr isA asked Post G v at0 wr => p_X8_sum_6 F T (nI d) (nI t) 40 isA N fr asked Post G v at0 wr) hF hb (by omega) (by omega) (by omega) ?_ ?_ ?_ ?_ (fun N fr isA asked Post i k => k) hi hM
  · intro j hj h1 h2
    omega
  · intro N fr isA asked Post G v at0 wr hw k
    show p_X8_sum_6 F T (nI d) (nI t) 40 isA N fr asked Post (G + 1) v at0 wr
    rw [p_X8_sum_6_s]
    exact s8_fineN hw (br_t rfl k)
  · intro N fr isA asked Post G v j hT hN hN2 hj hz k
    show p_X8_sum_6 F T (nI d) (nI t) 40 isA N fr asked Post (G + 1) v (nI j) (-1)
    rw [p_X8_sum_6_s]
    have n1 : ∀ c, c = 43 ∨ c = 45 → ¬ hvI t h j = nI c := by
      intro c hc y
      have := (hv_eq hT (by omega)).1 y
      exact hz ⟨this.1, by rw [this.2]; rcases hc with rfl | rfl <;> rfl⟩
    exact s8_fine (br_f (by decide) (s8_hv hT hN hN2 hj (br_f (n1 43 (Or.inl rfl)) (s8_hv hT hN hN2 hj ⟨fun _ => k, fun y => absurd y (n1 45 (Or.inr rfl))⟩))))
  · intro N fr isA asked Post G v j hT hN hN2 hj hz km
    show p_X8_sum_6 F T (nI d) (nI t) 40 isA N fr asked Post (G + 1) v (nI j) (-1)
    have hc := hb j (eN_lt.1 hj).1
    have ehv : hvI t h j = nI (h j) := by unfold hvI; rw [if_pos hj]
    have e43 : hvI t h j = (43 : Int32) ↔ h j = 43 := by rw [ehv]; exact nI_eq (b := 43) (by omega) (by omega)
    have e45 : hvI t h j = (45 : Int32) ↔ h j = 45 := by rw [ehv]; exact nI_eq (b := 45) (by omega) (by omega)
    have g31 : p_X8_sum_31 F T (nI d) (nI t) 40 isA N fr asked v (nI j) (-1) (p_X8_sum_6 F T (nI d) (nI t) 40 isA N fr asked Post G) Post := by
      unfold p_X8_sum_31
      refine s8_hv hT hN hN2 (by omega) ⟨fun y => ?_, fun y => ?_⟩
      · have c45 : h j = 45 := ((rk2 _ hc).1 hz).resolve_left (fun w => y (e43.2 w))
        unfold p_X8_sum_45
        rw [← nI_succ]
        refine km _ (fun o u k => ⟨fun _ => ?_, fun w => absurd rfl w⟩)
        unfold p_X8_sum_78
        rw [c45] at k
        exact k
      · have c43 := e43.1 y
        unfold p_X8_sum_45
        rw [← nI_succ]
        refine km _ (fun o u k => ⟨fun w => absurd w (by decide), fun _ => ?_⟩)
        unfold p_X8_sum_78
        rw [c43] at k
        exact k
    rw [p_X8_sum_6_s]
    exact s8_fine (br_f (by decide) (s8_hv hT hN hN2 (by omega) ⟨fun _ => g31, fun y => s8_hv hT hN hN2 (by omega) ⟨fun w => absurd (e45.2 (((rk2 _ hc).1 hz).resolve_left (fun w => y (e43.2 w)))) w, fun _ => g31⟩⟩))
end
