/-! ===== call: cats, what is taken ===== -/
def wC (w : Nat → Int32) (nC : Nat) (b : Nat → Nat) : Nat → Nat → Int32
  | 0, k => w k
  | n + 1, k => if k = 12 + (nC + n) then nI (b (4 * n) - 48) else if k = 20 + (nC + n) then nI (b (4 * n + 1) - 48) else if k = 36 + (nC + n) then nI (b (4 * n + 2) - 48) else wC w nC b n k
theorem wC_no {w : Nat → Int32} {nC k : Nat} {b : Nat → Nat} : ∀ {n}, nC + n ≤ 8 → (k < 12 + nC ∨ (12 + nC + n ≤ k ∧ k < 20 + nC) ∨ (20 + nC + n ≤ k ∧ k < 36 + nC) ∨ 36 + nC + n ≤ k) → wC w nC b n k = w k
  | 0, _, _ => rfl
  | n + 1, h, hk => by
    rw [wC, if_neg (by omega), if_neg (by omega), if_neg (by omega)]
    exact wC_no (by omega) (by omega)
theorem wC_j {w : Nat → Int32} {nC : Nat} {b : Nat → Nat} : ∀ {n}, nC + n ≤ 8 → ∀ i, i < n → wC w nC b n (12 + (nC + i)) = nI (b (4 * i) - 48) ∧ wC w nC b n (20 + (nC + i)) = nI (b (4 * i + 1) - 48) ∧ wC w nC b n (36 + (nC + i)) = nI (b (4 * i + 2) - 48)
  | 0, _, _, hi => absurd hi (by omega)
  | n + 1, h, i, hi => by
    rw [wC, wC, wC]
    by_cases e : i = n
    · subst e
      refine ⟨by rw [if_pos rfl], ?_, ?_⟩
      · rw [if_neg (by omega), if_pos rfl]
      · rw [if_neg (by omega), if_neg (by omega), if_pos rfl]
    · obtain ⟨h1, h2, h3⟩ := wC_j (w := w) (nC := nC) (b := b) (n := n) (by omega) i (by omega)
      refine ⟨?_, ?_, ?_⟩
      · rw [if_neg (by omega), if_neg (by omega), if_neg (by omega)]; exact h1
      · rw [if_neg (by omega), if_neg (by omega), if_neg (by omega)]; exact h2
      · rw [if_neg (by omega), if_neg (by omega), if_neg (by omega)]; exact h3
theorem wC_OK {w : Nat → Int32} {nA nC n : Nat} {b : Nat → Nat} (ok : OK nA nC w) (h : nC + n ≤ 8) (hb : ∀ i, i < n → isD (b (4 * i)) ∧ isD (b (4 * i + 1)) ∧ 48 ≤ b (4 * i + 2) ∧ b (4 * i + 2) < 48 + nA) : OK nA (nC + n) (wC w nC b n) := by
  obtain ⟨o1, o2, o3, o4, o5, o6, o7⟩ := ok
  refine ⟨o1, h, fun i hi => ?_, fun c hc => ?_, ?_, fun i h1 h2 => ?_, fun i h1 h2 => ?_⟩
  · by_cases q1 : 12 + nC ≤ i ∧ i < 12 + nC + n
    · obtain ⟨d, _⟩ := hb (i - 12 - nC) (by omega)
      have e := (wC_j (w := w) (b := b) h (i - 12 - nC) (by omega)).1
      rw [show 12 + (nC + (i - 12 - nC)) = i from by omega] at e
      rw [e]
      unfold isD at d
      exact ⟨_, by omega, rfl⟩
    · by_cases q2 : 20 + nC ≤ i ∧ i < 20 + nC + n
      · obtain ⟨_, d, _⟩ := hb (i - 20 - nC) (by omega)
        have e := (wC_j (w := w) (b := b) h (i - 20 - nC) (by omega)).2.1
        rw [show 20 + (nC + (i - 20 - nC)) = i from by omega] at e
        rw [e]
        unfold isD at d
        exact ⟨_, by omega, rfl⟩
      · rw [wC_no h (by omega)]; exact o3 i hi
  · by_cases q : c < nC
    · obtain ⟨a, ha, e⟩ := o4 c q
      rw [wC_no h (by omega)]
      exact ⟨a, ha, e⟩
    · obtain ⟨_, _, d1, d2⟩ := hb (c - nC) (by omega)
      have e := (wC_j (w := w) (b := b) h (c - nC) (by omega)).2.2
      rw [show 36 + (nC + (c - nC)) = 36 + c from by omega] at e
      exact ⟨_, by omega, e⟩
  · rw [wC_no h (by omega)]; exact o5
  · rw [wC_no h (by omega)]; exact o6 i h1 h2
  · rw [wC_no h (by omega)]; exact o7 i (by omega) h2
section
variable {F : Nat} {x : XS} {m : MS} {am : MA}
theorem s7_takeC {nA nC L t : Nat} {b : Nat → Nat} {w joy bowl place s : Nat → Int32} {len past r : Int32} {Post : Int32 → (Int32 × Int32 × (Nat → Int32) × (Nat → Int32) × (Nat → Int32) × Int32) → Prop} (hF : 5000 ≤ F) (hT : TXc t b len s) (hA : nA ≤ 6) (hL : nC + L ≤ 8) (hL0 : 0 < L) (ht : t = 4 * L - 1) (hb : ∀ i, i < L → isD (b (4 * i)) ∧ isD (b (4 * i + 1)) ∧ 48 ≤ b (4 * i + 2) ∧ b (4 * i + 2) < 48 + nA) (h3 : ∀ i, i < 8 → joy i = w (12 + i)) (h4 : ∀ i, i < 8 → bowl i = w (20 + i)) (h6 : ∀ i, i < 8 → place i = w (36 + i)) (er : r = -1) (kk : ∀ j2 b2 p2, (∀ i, i < 8 → j2 i = wC w nC b L (12 + i)) → (∀ i, i < 8 → b2 i = wC w nC b L (20 + i)) → (∀ i, i < 8 → p2 i = wC w nC b L (36 + i)) → Post (nI L) (nI (nC + L), 0, j2, b2, p2, 0)) : p_X7_cats_48 F len s past r (nI L) Post F 0 (nI nC) joy bowl place := by
  have h80 := hT.1
  refine up_loop (fun n i (u : Int32 × (Nat → Int32) × (Nat → Int32) × (Nat → Int32)) => p_X7_cats_48 F len s past r (nI L) Post n i u.1 u.2.1 u.2.2.1 u.2.2.2) (fun j u => u.1 = nI (nC + j) ∧ (∀ i, i < 8 → u.2.1 i = wC w nC b j (12 + i)) ∧ (∀ i, i < 8 → u.2.2.1 i = wC w nC b j (20 + i)) ∧ (∀ i, i < 8 → u.2.2.2 i = wC w nC b j (36 + i))) L ?_ ?_ F (nI nC, joy, bowl, place) 0 ⟨rfl, h3, h4, h6⟩ (by omega) (by omega)
  · rintro n ⟨u1, u2, u3, u4⟩ ⟨e1, e2, e3, e4⟩
    have e1 : u1 = _ := e1
    subst e1
    show p_X7_cats_48 F len s past r (nI L) Post (n + 1) (nI L) (nI (nC + L)) u2 u3 u4
    rw [p_X7_cats_48_s]
    unfold p_X7_linesTaken p_X7_linesTaken_20
    exact br_t (nI_le (Nat.le_refl _) (by omega)) (br_f (nI_ge (a := 0) hL0 (by omega)) ⟨fun z => absurd er z, fun _ => kk u2 u3 u4 e2 e3 e4⟩)
  · rintro n j ⟨u1, u2, u3, u4⟩ hj ⟨e1, e2, e3, e4⟩ ih
    have e1 : u1 = _ := e1
    subst e1
    obtain ⟨d1, d2, d3, d4⟩ := hb j hj
    show p_X7_cats_48 F len s past r (nI L) Post (n + 1) (nI j) (nI (nC + j)) u2 u3 u4
    rw [p_X7_cats_48_s, show (4 : Int32) * nI j = nI (4 * j) from by rw [show (4 : Int32) = nI 4 from rfl, pk_mul], show nI (4 * j) + (1 : Int32) = nI (4 * j + 1) from nI_add _ 1, show nI (4 * j) + (2 : Int32) = nI (4 * j + 2) from nI_add _ 2]
    refine br_f (nI_ge hj (by omega)) (s5_digit hT (by omega) (fun _ => s5_digit hT (by omega) (fun _ => s5_digit hT (by omega) (fun _ => ?_) (fun d => absurd ⟨by omega, by omega⟩ d)) (fun d => absurd d2 d)) (fun d => absurd d1 d))
    unfold p_X6_addCat
    rw [nI_clamp (n := nC + j) (by omega)]
    have i8 : vp_in (nI (nC + j)) 8 := pk_in (nC + j) 8 (by omega)
    refine br_f (nI_ge (b := 8) (by omega) (by omega)) ⟨i8, i8, i8, ih (_, _, _, _) ⟨(nI_succ _).symm, fun i hi => ?_, fun i hi => ?_, fun i hi => ?_⟩⟩
    · show upd u2 (nC + j) _ i = _
      rw [wC]
      unfold upd
      by_cases e : i = nC + j
      · rw [if_pos e, if_pos (by omega)]
      · rw [if_neg e, if_neg (by omega), if_neg (by omega), if_neg (by omega)]; exact e2 i hi
    · show upd u3 (nC + j) _ i = _
      rw [wC]
      unfold upd
      by_cases e : i = nC + j
      · rw [if_pos e, if_neg (by omega), if_pos (by omega)]
      · rw [if_neg e, if_neg (by omega), if_neg (by omega), if_neg (by omega)]; exact e3 i hi
    · show upd u4 (nC + j) _ i = _
      rw [wC]
      unfold upd
      by_cases e : i = nC + j
      · rw [if_pos e, if_neg (by omega), if_neg (by omega), if_pos (by omega)]
      · rw [if_neg e, if_neg (by omega), if_neg (by omega), if_neg (by omega)]; exact e4 i hi
theorem s8_takeC {nA nC L : Nat} {b : Nat → Nat} {w now told : Nat → Int32} {came u85 at0 : Int32} {u8 : Int32 × Int32 × Int32 × Int32 × Int32} {Post : Int32 → (Int32 × Int32 × Int32 × Int32 × Int32 × Int32 × Int32 × Int32 × Int32 × (Nat → Int32) × (Nat → Int32)) → Prop} (hF : 5000 ≤ F) (ok : OK nA nC w) (hM : MV w now) (hL : nC + L ≤ 8) (ht : toC b told L) (kk : ∀ now2, MV (wC w nC b L) now2 → Post (nI L) (nI (nC + L), u8.1, 0, u8.2.1, u8.2.2.1, at0, u85, 0, came + 1, told, now2)) : p_X8_cats_140 F came u8 u85 (nI L) at0 told Post F 0 (nI nC) now := by
  refine up_loop (fun n i (u : Int32 × (Nat → Int32)) => p_X8_cats_140 F came u8 u85 (nI L) at0 told Post n i u.1 u.2) (fun j u => u.1 = nI (nC + j) ∧ MV (wC w nC b j) u.2) L ?_ ?_ F (nI nC, now) 0 ⟨rfl, hM⟩ (by omega) (by omega)
  · rintro n ⟨u1, u2⟩ ⟨e1, e2⟩
    have e1 : u1 = _ := e1
    subst e1
    show p_X8_cats_140 F came u8 u85 (nI L) at0 told Post (n + 1) (nI L) (nI (nC + L)) u2
    rw [p_X8_cats_140_s]
    exact br_t (nI_le (Nat.le_refl _) (by omega)) (kk u2 e2)
  · rintro n j ⟨u1, u2⟩ hj ⟨e1, e2⟩ ih
    have e1 : u1 = _ := e1
    subst e1
    obtain ⟨t1, t2, t3⟩ := ht j hj
    show p_X8_cats_140 F came u8 u85 (nI L) at0 told Post (n + 1) (nI j) (nI (nC + j)) u2
    rw [p_X8_cats_140_s, show (3 : Int32) * nI j = nI (3 * j) from by rw [show (3 : Int32) = nI 3 from rfl, pk_mul], show nI (3 * j) + (1 : Int32) = nI (3 * j + 1) from nI_add _ 1, show nI (3 * j) + (2 : Int32) = nI (3 * j + 2) from nI_add _ 2, show (12 : Int32) + nI (nC + j) = nI (12 + (nC + j)) from nI_add 12 _, show (20 : Int32) + nI (nC + j) = nI (20 + (nC + j)) from nI_add 20 _, show (28 : Int32) + nI (nC + j) = nI (28 + (nC + j)) from nI_add 28 _, show (36 : Int32) + nI (nC + j) = nI (36 + (nC + j)) from nI_add 36 _, nI_clamp (n := 3 * j) (by omega), nI_clamp (n := 3 * j + 1) (by omega), nI_clamp (n := 3 * j + 2) (by omega), nI_clamp (n := 12 + (nC + j)) (by omega), nI_clamp (n := 20 + (nC + j)) (by omega), nI_clamp (n := 28 + (nC + j)) (by omega), nI_clamp (n := 36 + (nC + j)) (by omega), t1, t2, t3]
    refine br_f (nI_ge hj (by omega)) ⟨pk_in (3 * j) 24 (by omega), pk_in (12 + (nC + j)) 47 (by omega), pk_in (3 * j + 1) 24 (by omega), pk_in (20 + (nC + j)) 47 (by omega), pk_in (28 + (nC + j)) 47 (by omega), pk_in (3 * j + 2) 24 (by omega), pk_in (36 + (nC + j)) 47 (by omega), ih (_, _) ⟨(nI_succ _).symm, fun i hi => ?_⟩⟩
    show upd (upd (upd (upd u2 (12 + (nC + j)) _) (20 + (nC + j)) _) (28 + (nC + j)) 0) (36 + (nC + j)) _ i = _
    rw [wC]
    unfold upd
    by_cases a1 : i = 12 + (nC + j)
    · rw [if_neg (by omega), if_neg (by omega), if_neg (by omega), if_pos a1, if_pos a1]
    by_cases a2 : i = 20 + (nC + j)
    · rw [if_neg (by omega), if_neg (by omega), if_pos a2, if_neg a1, if_pos a2]
    by_cases a3 : i = 36 + (nC + j)
    · rw [if_pos a3, if_neg a1, if_neg a2, if_pos a3]
    simp only [if_neg a3, if_neg a1, if_neg a2]
    by_cases a4 : i = 28 + (nC + j)
    · rw [if_pos a4, wC_no (by omega) (by omega), a4]
      exact (ok.2.2.2.2.2.2 (nC + j) (by omega) (by omega)).symm
    · rw [if_neg a4]; exact e2 i hi
theorem ob_cats (hF : 5000 ≤ F) (h : Rel F x m) : p7_cats F x (fun r x' => p8_cats F am m (fun r' m' => r = r' ∧ Rel F x' m')) := by
  obtain ⟨nA, nC, R, w, ok, hV, hM, eA, eC, hT, hW, hU, hN, hE, hH, hK⟩ := h
  have hA := ok.1
  have hC := ok.2.1
  obtain ⟨t, b, hTc, hTm, eT⟩ := TXr_split hT
  obtain ⟨v1, v2, v3, v4, v5, h0, v6, v7, v8, v9, v10⟩ := id hV
  have h80 := hTc.1
  unfold p7_cats p_X7_cats p_X5_faultInLines p_X7_cats_45 p_X5_linesOf
  rw [v1, v2, show (8 : Int32) - nI nC = nI (8 - nC) from pk_sub (a := 8) hC]
  by_cases q0 : t = 0
  · have el : x.x_text_length = 0 := by rw [hTc.2.1, q0]; rfl
    have e0 : ∀ (G : Nat) (Post : Int32 → Prop), 0 < G → Post (-1) → p_X5_faultInLines_18 F 3 8 (nI (8 - nC)) (nI nA) x.x_text_length x.f_text_signs Post G 0 0 0 := by
      intro G Post hG kk
      obtain ⟨G2, rfl⟩ : ∃ G2, G = G2 + 1 := ⟨G - 1, by omega⟩
      rw [p_X5_faultInLines_18_s, el]
      exact br_t (by decide) (br_t rfl kk)
    refine e0 F _ (by omega) ⟨fun z => absurd rfl z, fun _ => ⟨by decide, ?_⟩⟩
    rw [el, show ((0 : Int32) + 1) / (3 + 1) = nI 0 from rfl]
    have e1 : ∀ (G : Nat) Post, 0 < G → Post 0 (nI nC, 0, x.f_now_joy, x.f_now_bowl, x.f_now_place, x.x_past_size) → p_X7_cats_48 F 0 x.f_text_signs x.x_past_size (-1) (nI 0) Post G 0 (nI nC) x.f_now_joy x.f_now_bowl x.f_now_place := by
      intro G Post hG kk
      obtain ⟨G2, rfl⟩ : ∃ G2, G = G2 + 1 := ⟨G - 1, by omega⟩
      rw [p_X7_cats_48_s]
      unfold p_X7_linesTaken p_X7_linesTaken_20
      exact br_t (by decide) (br_t (by decide) ⟨fun z => absurd rfl z, fun _ => kk⟩)
    refine e1 F _ (by omega) ?_
    unfold p8_cats p_X8_cats p_X8_beginText p_X8_begin
    rw [eA, eC, eT, q0]
    refine ⟨fun z => absurd rfl z, fun _ => ?_⟩
    exact ⟨rfl, nA, nC, R, w, ok, ⟨rfl, rfl, v3, v4, v5, h0, v6, v7, v8, v9, v10⟩, hM, rfl, rfl, TXr_0, hW, hU, hN, hE, hH, hK⟩
  refine s5_linesC hTc q0 hA hC 8 0 F (by omega) (by omega) (by omega) (by omega) (by omega) ?_
  have q1 : ¬ nI t = 0 := fun z => q0 ((nI_eq (b := 0) (by omega) (by omega)).1 z)
  cases hr : caR nA nC t b 8 0 with
  | mk o P =>
    cases o with
    | true =>
      obtain ⟨r1, r2, r3, r4⟩ := caR_t (by omega) hr
      refine ⟨fun z => absurd rfl z, fun _ => ⟨by decide, ?_⟩⟩
      have el : (x.x_text_length + 1) / (3 + 1) = nI P := by
        rw [hTc.2.1, show nI t + 1 = nI (t + 1) from (nI_succ _).symm, show (3 : Int32) + 1 = nI 4 from rfl, pk_div (by omega) (by omega) (by omega)]
        congr 1
        omega
      rw [el]
      refine s7_takeC hF hTc hA r2 r1 r3 (fun i hi => r4 i (by omega) hi) v7 v8 v10 rfl (fun j2 b2 p2 hj2 hb2 hp2 => ?_)
      unfold p8_cats p_X8_cats p_X8_beginText p_X8_begin
      rw [eA, eC, eT]
      refine ⟨fun _ => ?_, fun z => absurd z q1⟩
      refine s8_linesC hTm q0 hA hC 8 0 F m.f_told (by omega) (by omega) (by omega) (by omega) (by omega) (fun i hi => absurd hi (by omega)) (fun L told' e hl => ?_) (fun P2 _ _ _ _ e => absurd (congrArg Prod.fst (hr.symm.trans e)) (by simp))
      have eL : P = L := congrArg Prod.snd (hr.symm.trans e)
      subst eL
      unfold p_X8_cats_124
      refine s8_right (by omega) (Nat.le_refl _) (by omega) ⟨fun _ => s8_takeC hF ok hM r2 hl (fun now2 hM2 => ?_), fun z => absurd z (by decide)⟩
      refine ⟨rfl, nA, nC + P, R, wC w nC b P, wC_OK ok r2 (fun i hi => r4 i (by omega) hi), ⟨rfl, rfl, ?_, ?_, ?_, fun i hi => ?_, fun i hi => ?_, hj2, hb2, fun i hi => ?_, hp2⟩, hM2, rfl, rfl, TXr_0, hW, hU, UNr_0 hN, hE, hH, KPr_up hK (Nat.le_refl _) (by omega) (by omega)⟩
      · rw [wC_no r2 (by omega)]; exact v3
      · rw [wC_no r2 (by omega)]; exact v4
      · rw [wC_no r2 (by omega)]; exact v5
      · rw [wC_no r2 (by omega)]; exact h0 i hi
      · rw [wC_no r2 (by omega)]; exact v6 i hi
      · rw [wC_no r2 (by omega)]; exact v9 i hi
    | false =>
      show (¬ nI P = -1 → _) ∧ (nI P = -1 → _)
      have e1 : ∀ (G : Nat) Post, 0 < G → (P < 1000) → Post (-1 - nI P) (nI nC, 0, x.f_now_joy, x.f_now_bowl, x.f_now_place, x.x_past_size) → p_X7_cats_48 F x.x_text_length x.f_text_signs x.x_past_size (nI P) 0 Post G 0 (nI nC) x.f_now_joy x.f_now_bowl x.f_now_place := by
        intro G Post hG hP kk
        obtain ⟨G2, rfl⟩ : ∃ G2, G = G2 + 1 := ⟨G - 1, by omega⟩
        rw [p_X7_cats_48_s]
        unfold p_X7_linesTaken p_X7_linesTaken_20
        exact br_t (by decide) (br_t (by decide) ⟨fun _ => kk, fun z => absurd z (m1_ne hP)⟩)
      have hP : P < 100 := caR_f (by omega) hr
      refine ⟨fun _ => e1 F _ (by omega) (by omega) ?_, fun z => absurd z (m1_ne (by omega))⟩
      unfold p8_cats p_X8_cats p_X8_beginText p_X8_begin
      rw [eA, eC, eT]
      refine ⟨fun _ => ?_, fun z => absurd z q1⟩
      refine s8_linesC hTm q0 hA hC 8 0 F m.f_told (by omega) (by omega) (by omega) (by omega) (by omega) (fun i hi => absurd hi (by omega)) (fun L told' e => absurd (congrArg Prod.fst (hr.symm.trans e)) (by simp)) (fun P2 y1 at0 wr told' e hw hP => ?_)
      have eP : P = P2 := congrArg Prod.snd (hr.symm.trans e)
      subst eP
      unfold p_X8_cats_124
      rcases hw with hw | ⟨hw, ha, hp⟩
      · subst hw
        refine s8_rightW (m1_ne (by omega)) ⟨fun z => absurd rfl z, fun _ => ⟨rfl, nA, nC, R, w, ok, ⟨rfl, rfl, v3, v4, v5, h0, v6, v7, v8, v9, v10⟩, hM, rfl, rfl, TXr_0, hW, hU, hN, hE, hH, hK⟩⟩
      · subst hw ha
        refine s8_rightB (by omega) hp ⟨fun z => absurd rfl z, fun _ => ⟨rfl, nA, nC, R, w, ok, ⟨rfl, rfl, v3, v4, v5, h0, v6, v7, v8, v9, v10⟩, hM, rfl, rfl, TXr_0, hW, hU, hN, hE, hH, hK⟩⟩
end
