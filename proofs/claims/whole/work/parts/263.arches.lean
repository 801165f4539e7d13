/-! ===== call: arches ===== -/
section
variable {F t : Nat} {b : Nat → Nat} {f : Nat → Int32}
theorem s8_passW {p len top at0 wr : Int32} {N : Nat} {Post : Int32 → Int32 → Prop} (h : ¬ wr = -1) (k : Post 0 at0) : p_X8_passes F p len top at0 wr N f Post := s8_fineN h (br_t rfl k)
theorem s8_pass {at0 top c N : Nat} {Post : Int32 → Int32 → Prop} (hT : TXm t b f) (h1 : at0 < t) (h2 : at0 < top) (h3 : top < 1000) (hN : t ≤ N) (hN2 : N < 1000) (h : b at0 = c) (k : Post 1 (nI at0 + 1)) : p_X8_passes F (nI c) (nI t) (nI top) (nI at0) (-1) N f Post := s8_fine (br_f (by decide) (s8_here hT h1 h2 h3 hN hN2 (br_t (by rw [h]) k)))
theorem s8_passN {at0 top c N : Nat} {Post : Int32 → Int32 → Prop} (hT : TXm t b f) (h : ¬ (at0 < t ∧ at0 < top ∧ b at0 = c)) (h3 : top < 1000) (ha : at0 < 1000) (hN : t ≤ N) (hN2 : N < 1000) (hc : c < 1000) (k : Post 0 (nI at0)) : p_X8_passes F (nI c) (nI t) (nI top) (nI at0) (-1) N f Post := by
  have ht := hT.1
  refine s8_fine (br_f (by decide) ?_)
  by_cases q : at0 < t ∧ at0 < top
  · have hb := (hT.2 at0 q.1).1
    exact s8_here hT q.1 q.2 h3 hN hN2 (br_f (fun z => h ⟨q.1, q.2, (nI_eq (by omega) (by omega)).1 z⟩) k)
  · exact s8_hereN (by omega) q h3 ha (br_f (fun z => m1_ne hc z.symm) k)
end
section
variable {F nA t : Nat} {b : Nat → Nat} {un came : Int32} {text now : Nat → Int32} {Post : Int32 → (Int32 × Int32 × Int32 × Int32 × Int32 × Int32 × Int32 × Int32 × Int32 × (Nat → Int32) × (Nat → Int32)) → Prop}
theorem s8_linesA (hT : TXm t b text) (h0 : ¬ t = 0) (hA : nA ≤ 6) : ∀ (n j G : Nat) (told : Nat → Int32), n + j = 6 → 1 ≤ n → nA + j ≤ 6 → 2 * j ≤ t → n + 2 < G → (∀ i, i < j → told i = nI (b (2 * i) - 48)) → (∀ L told', arR nA t b n j = (true, L) → (∀ i, i < L → told' i = nI (b (2 * i) - 48)) → p_X8_arches_84 F (nI nA) un came now (0, nI t, nI 11, 0, -1) (nI L) (nI t) (-1) told' Post) → (∀ P y1 at0 wr told', arR nA t b n j = (false, P) → (wr = nI P ∨ (wr = -1 ∧ at0 = nI P ∧ P < t)) → P < 100 → p_X8_arches_84 F (nI nA) un came now (0, nI t, nI 11, 0, -1) y1 at0 wr told' Post) → p_X8_arches_24 F (nI nA) un came text now (0, nI t, nI 11, 0, -1) Post G 1 (nI j) (nI (2 * j)) (-1) told
  | 0, j, G, told, h1, h2, _, _, _, _, _, _ => absurd h2 (by omega)
  | n + 1, j, G, told, h1, _, h3, h4, hG, ht, kok, kbad => by
    obtain ⟨G', rfl⟩ : ∃ G', G = G' + 1 := ⟨G - 1, by omega⟩
    have h80 := hT.1
    rw [arR] at kok kbad
    have fin : ∀ y1 at0 wr told', p_X8_arches_84 F (nI nA) un came now (0, nI t, nI 11, 0, -1) y1 at0 wr told' Post → p_X8_arches_24 F (nI nA) un came text now (0, nI t, nI 11, 0, -1) Post G' 0 y1 at0 wr told' := by
      intro y1 at0 wr told' h
      obtain ⟨G2, rfl⟩ : ∃ G2, G' = G2 + 1 := ⟨G' - 1, by omega⟩
      rw [p_X8_arches_24_s]
      exact br_t rfl h
    rw [p_X8_arches_24_s]
    unfold p_X8_arches_71
    refine br_f (by decide) (s8_fine (br_f (by decide) ⟨fun z => ?_, fun z => ?_⟩))
    · rw [nI_add] at z
      have q1 : ¬ nA + j = 6 := fun y => z (by rw [y]; rfl)
      rw [if_neg q1] at kok kbad
      by_cases q2 : 2 * j < t ∧ 48 ≤ b (2 * j) ∧ b (2 * j) ≤ 57
      · rw [if_neg (fun z => z q2)] at kok kbad
        refine s8_oneOf (fst := 48) (many := 10) hT q2.1 (top := 11) (by omega) (by omega) (by omega) (by omega) q2.2.1 (by omega) (by omega) ⟨pk_in j 24 (by omega), ?_⟩
        rw [nI_clamp (n := j) (by omega)]
        have ht2 : ∀ i, i < j + 1 → upd told j (nI (b (2 * j) - 48)) i = nI (b (2 * i) - 48) := by
          intro i hi
          unfold upd
          by_cases e : i = j
          · subst e; rw [if_pos rfl]
          · rw [if_neg e]; exact ht i (by omega)
        by_cases q3 : 2 * j + 1 = t
        · rw [if_pos q3] at kok
          refine s8_passN (c := 59) (top := 11) hT (by omega) (by omega) (by omega) (by omega) (by omega) (by omega) (fin _ _ _ _ ?_)
          rw [q3]
          have kk := kok (j + 1) _ rfl ht2
          rw [nI_succ j] at kk
          exact kk
        · rw [if_neg q3] at kok kbad
          by_cases q4 : 2 * j + 1 < 11 ∧ b (2 * j + 1) = 59
          · rw [if_pos q4] at kok kbad
            refine s8_pass (c := 59) (top := 11) hT (by omega) q4.1 (by omega) (by omega) (by omega) q4.2 ?_
            rw [show nI (2 * j + 1) + 1 = nI (2 * (j + 1)) from (nI_succ _).symm, show nI j + 1 = nI (j + 1) from (nI_succ _).symm]
            exact s8_linesA hT h0 hA n (j + 1) G' _ (by omega) (by omega) (by omega) (by omega) (by omega) ht2 kok kbad
          · rw [if_neg q4] at kbad
            exact s8_passN (c := 59) (top := 11) hT (by omega) (by omega) (by omega) (by omega) (by omega) (by omega) (fin _ _ _ _ (kbad _ _ _ _ _ rfl (Or.inr ⟨rfl, rfl, by omega⟩) (by omega)))
      · rw [if_pos q2] at kbad
        refine s8_oneOfB (fst := 48) (many := 10) (top := 11) hT (by omega) (by omega) (by omega) (by omega) (by omega) (by omega) (by omega) ⟨pk_in j 24 (by omega), s8_passW (m1_ne (by omega)) (fin _ _ _ _ ?_)⟩
        exact kbad _ _ _ _ _ rfl (Or.inl rfl) (by omega)
    · rw [nI_add] at z
      have q1 : nA + j = 6 := (nI_eq (b := 6) (by omega) (by omega)).1 z
      rw [if_pos q1] at kbad
      exact s8_fault (s8_passW (m1_ne (by omega)) (fin _ _ _ _ (kbad _ _ _ _ _ rfl (Or.inl rfl) (by omega))))
end
theorem arR_f {nA t : Nat} {b : Nat → Nat} : ∀ {n j P}, n + j ≤ 6 → arR nA t b n j = (false, P) → P < 100
  | 0, j, P, _, h => by
    rw [arR] at h
    have : 0 = P := congrArg Prod.snd h
    omega
  | n + 1, j, P, hj, h => by
    rw [arR] at h
    by_cases q1 : nA + j = 6
    · rw [if_pos q1] at h
      have : 2 * j = P := congrArg Prod.snd h
      omega
    rw [if_neg q1] at h
    by_cases q2 : 2 * j < t ∧ 48 ≤ b (2 * j) ∧ b (2 * j) ≤ 57
    · rw [if_neg (fun z => z q2)] at h
      by_cases q3 : 2 * j + 1 = t
      · rw [if_pos q3] at h; exact absurd (congrArg Prod.fst h) (by simp)
      · rw [if_neg q3] at h
        by_cases q4 : 2 * j + 1 < 11 ∧ b (2 * j + 1) = 59
        · rw [if_pos q4] at h
          exact arR_f (j := j + 1) (by omega) h
        · rw [if_neg q4] at h
          have : 2 * j + 1 = P := congrArg Prod.snd h
          omega
    · rw [if_pos q2] at h
      have : 2 * j = P := congrArg Prod.snd h
      omega
def wA (w : Nat → Int32) (nA : Nat) (b : Nat → Nat) (n : Nat) : Nat → Int32 := fun k => if nA ≤ k ∧ k < nA + n then nI (b (2 * (k - nA)) - 48) else w k
theorem wA_s {w : Nat → Int32} {nA n k : Nat} {b : Nat → Nat} : wA w nA b (n + 1) k = if k = nA + n then nI (b (2 * n) - 48) else wA w nA b n k := by
  unfold wA
  by_cases e : k = nA + n
  · subst e
    rw [if_pos (by omega), if_pos rfl, Nat.add_sub_cancel_left]
  · rw [if_neg e]
    by_cases q : nA ≤ k ∧ k < nA + n
    · rw [if_pos q, if_pos (by omega)]
    · rw [if_neg q, if_neg (by omega)]
theorem wA_ge {w : Nat → Int32} {nA n k : Nat} {b : Nat → Nat} (h : nA + n ≤ k) : wA w nA b n k = w k := by
  unfold wA
  rw [if_neg (by omega)]
theorem wA_OK {w : Nat → Int32} {nA nC n : Nat} {b : Nat → Nat} (ok : OK nA nC w) (h : nA + n ≤ 6) (hb : ∀ i, i < n → isD (b (2 * i))) : OK (nA + n) nC (wA w nA b n) := by
  obtain ⟨o1, o2, o3, o4, o5, o6, o7⟩ := ok
  refine ⟨h, o2, fun i hi => ?_, fun c hc => ?_, ?_, fun i h1 h2 => ?_, fun i h1 h2 => ?_⟩
  · unfold wA
    by_cases q : nA ≤ i ∧ i < nA + n
    · rw [if_pos q]
      obtain ⟨d1, d2⟩ := hb (i - nA) (by omega)
      exact ⟨_, by omega, rfl⟩
    · rw [if_neg q]; exact o3 i hi
  · obtain ⟨a, ha, e⟩ := o4 c hc
    rw [wA_ge (by omega)]
    exact ⟨a, by omega, e⟩
  · rw [wA_ge (by omega)]; exact o5
  · rw [wA_ge (by omega)]; exact o6 i (by omega) h2
  · rw [wA_ge (by omega)]; exact o7 i h1 h2
section
variable {F : Nat} {x : XS} {m : MS} {am : MA}
theorem UNr_0 {nA nC nA' nC' : Nat} {next size many : Int32} {ring : Nat → Option PSl} {undos : Nat → Int32} (h : UNr nA nC next size ring many undos) : UNr nA' nC' next 0 ring 0 undos := by
  obtain ⟨k, nx, ws, hk, hn, ho, ⟨e1, e2, h1⟩, e3, h2⟩ := h
  exact ⟨0, nx, ws, by omega, hn, fun j hj => absurd hj (by omega), ⟨e1, rfl, fun j hj => absurd hj (by omega)⟩, rfl, fun j hj => absurd hj (by omega)⟩
theorem FEr_up {nA nA' : Nat} {mo sz many : Int32} {f1 f2 g1 g2 : Nat → Int32} (h : FEr nA mo sz f1 f2 many g1 g2) (hn : nA ≤ nA') : FEr nA' mo sz f1 f2 many g1 g2 := by
  obtain ⟨eo, k, hk, e1, e2, h⟩ := h
  refine ⟨eo, k, hk, e1, e2, fun i hi => ?_⟩
  obtain ⟨q1, q2, a, ha, q3⟩ := h i hi
  exact ⟨q1, q2, a, by omega, q3⟩
theorem KPr_up {nA nC nA' nC' : Nat} {kept : Nat → Option PSl} {mk isK kc : Nat → Int32} {came : Int32} (h : KPr nA nC kept mk isK kc came) (h1 : nA ≤ nA') (h2 : nC ≤ nC') (h3 : nA + nC < nA' + nC') : KPr nA' nC' kept mk isK kc (came + 1) := by
  obtain ⟨cm, hc, e, h⟩ := h
  refine ⟨cm + 1, by omega, by rw [e]; exact (nI_succ _).symm, fun i hi => ?_⟩
  rcases h i hi with q | ⟨s, ka, kb, e0, q1, q2, q3, q4, q5, q6, q7, q8, q9⟩
  · exact Or.inl q
  · exact Or.inr ⟨s, ka, kb, e0, q1, q2, q3, q4, q5, by omega, by omega, by omega, by omega⟩
theorem s7_takeA {nA nC L t : Nat} {b : Nat → Nat} {w load s : Nat → Int32} {len past r : Int32} {Post : Int32 → (Int32 × Int32 × (Nat → Int32) × Int32) → Prop} (hF : 5000 ≤ F) (hT : TXc t b len s) (hL : nA + L ≤ 6) (hL0 : 0 < L) (ht : t = 2 * L - 1) (hb : ∀ i, i < L → isD (b (2 * i))) (h0 : ∀ i, i < 6 → load i = w i) (er : r = -1) (kk : ∀ ld2, (∀ i, i < 6 → ld2 i = wA w nA b L i) → Post (nI L) (nI (nA + L), 0, ld2, 0)) : p_X7_arches_43 F len s past r (nI L) Post F 0 (nI nA) load := by
  have h80 := hT.1
  refine up_loop (fun n i (u : Int32 × (Nat → Int32)) => p_X7_arches_43 F len s past r (nI L) Post n i u.1 u.2) (fun j u => u.1 = nI (nA + j) ∧ ∀ i, i < 6 → u.2 i = wA w nA b j i) L ?_ ?_ F (nI nA, load) 0 ⟨rfl, fun i hi => ?_⟩ (by omega) (by omega)
  · rintro n ⟨u1, u2⟩ ⟨e1, e2⟩
    have e1 : u1 = _ := e1
    subst e1
    show p_X7_arches_43 F len s past r (nI L) Post (n + 1) (nI L) (nI (nA + L)) u2
    rw [p_X7_arches_43_s]
    unfold p_X7_linesTaken p_X7_linesTaken_20
    exact br_t (nI_le (Nat.le_refl _) (by omega)) (br_f (nI_ge (a := 0) hL0 (by omega)) ⟨fun z => absurd er z, fun _ => kk u2 e2⟩)
  · rintro n j ⟨u1, u2⟩ hj ⟨e1, e2⟩ ih
    have e1 : u1 = _ := e1
    subst e1
    show p_X7_arches_43 F len s past r (nI L) Post (n + 1) (nI j) (nI (nA + j)) u2
    rw [p_X7_arches_43_s, show (2 : Int32) * nI j = nI (2 * j) from by rw [show (2 : Int32) = nI 2 from rfl, pk_mul]]
    refine br_f (nI_ge hj (by omega)) (s5_digit hT (by omega) (fun _ => ?_) (fun d => absurd (hb j hj) d))
    unfold p_X6_addArch
    rw [nI_clamp (n := nA + j) (by omega)]
    refine br_f (nI_ge (b := 6) (by omega) (by omega)) ⟨pk_in (nA + j) 6 (by omega), ih (_, _) ⟨(nI_succ _).symm, fun i hi => ?_⟩⟩
    show upd u2 (nA + j) _ i = _
    rw [wA_s]
    unfold upd
    by_cases e : i = nA + j
    · rw [if_pos e, if_pos e]
    · rw [if_neg e, if_neg e]; exact e2 i hi
  · show load i = _
    rw [h0 i hi]
    unfold wA
    rw [if_neg (by omega)]
theorem s8_takeA {nA nC L : Nat} {b : Nat → Nat} {w now told : Nat → Int32} {came u85 at0 : Int32} {u8 : Int32 × Int32 × Int32 × Int32 × Int32} {Post : Int32 → (Int32 × Int32 × Int32 × Int32 × Int32 × Int32 × Int32 × Int32 × Int32 × (Nat → Int32) × (Nat → Int32)) → Prop} (hF : 5000 ≤ F) (ok : OK nA nC w) (hM : MV w now) (hL : nA + L ≤ 6) (ht : ∀ i, i < L → told i = nI (b (2 * i) - 48)) (kk : ∀ now2, MV (wA w nA b L) now2 → Post (nI L) (nI (nA + L), u8.1, 0, u8.2.1, u8.2.2.1, at0, u85, 0, came + 1, told, now2)) : p_X8_arches_100 F came u8 u85 (nI L) at0 told Post F 0 (nI nA) now := by
  refine up_loop (fun n i (u : Int32 × (Nat → Int32)) => p_X8_arches_100 F came u8 u85 (nI L) at0 told Post n i u.1 u.2) (fun j u => u.1 = nI (nA + j) ∧ MV (wA w nA b j) u.2) L ?_ ?_ F (nI nA, now) 0 ⟨rfl, fun i hi => ?_⟩ (by omega) (by omega)
  · rintro n ⟨u1, u2⟩ ⟨e1, e2⟩
    have e1 : u1 = _ := e1
    subst e1
    show p_X8_arches_100 F came u8 u85 (nI L) at0 told Post (n + 1) (nI L) (nI (nA + L)) u2
    rw [p_X8_arches_100_s]
    exact br_t (nI_le (Nat.le_refl _) (by omega)) (kk u2 e2)
  · rintro n j ⟨u1, u2⟩ hj ⟨e1, e2⟩ ih
    have e1 : u1 = _ := e1
    subst e1
    show p_X8_arches_100 F came u8 u85 (nI L) at0 told Post (n + 1) (nI j) (nI (nA + j)) u2
    rw [p_X8_arches_100_s, show (6 : Int32) + nI (nA + j) = nI (6 + (nA + j)) from nI_add 6 _, nI_clamp (n := nA + j) (by omega), nI_clamp (n := 6 + (nA + j)) (by omega), nI_clamp (n := j) (by omega), ht j hj]
    refine br_f (nI_ge hj (by omega)) ⟨pk_in j 24 (by omega), pk_in (nA + j) 47 (by omega), pk_in (6 + (nA + j)) 47 (by omega), ih (_, _) ⟨(nI_succ _).symm, fun i hi => ?_⟩⟩
    show upd (upd u2 (nA + j) _) (6 + (nA + j)) 0 i = _
    rw [wA_s]
    unfold upd
    by_cases e : i = 6 + (nA + j)
    · rw [if_pos e, if_neg (by omega), wA_ge (by omega), e]
      exact (ok.2.2.2.2.2.1 (nA + j) (by omega) (by omega)).symm
    · rw [if_neg e]
      by_cases e3 : i = nA + j
      · rw [if_pos e3, if_pos e3]
      · rw [if_neg e3, if_neg e3]; exact e2 i hi
  · show now i = _
    rw [hM i hi]
    unfold wA
    rw [if_neg (by omega)]
theorem ob_arches (hF : 5000 ≤ F) (h : Rel F x m) : p7_arches F x (fun r x' => p8_arches F am m (fun r' m' => r = r' ∧ Rel F x' m')) := by
  obtain ⟨nA, nC, R, w, ok, hV, hM, eA, eC, hT, hW, hU, hN, hE, hH, hK⟩ := h
  have hA := ok.1
  have hC := ok.2.1
  obtain ⟨t, b, hTc, hTm, eT⟩ := TXr_split hT
  obtain ⟨v1, v2, v3, v4, v5, h0, v6, v7, v8, v9, v10⟩ := id hV
  have h80 := hTc.1
  unfold p7_arches p_X7_arches p8_arches p_X8_arches p_X8_beginText p_X8_begin p_X5_faultInLines p_X7_arches_40 p_X5_linesOf
  rw [v1, eA, eT, show (6 : Int32) - nI nA = nI (6 - nA) from pk_sub (a := 6) hA, show (10 : Int32) = nI 10 from rfl]
  by_cases q0 : t = 0
  · have el : x.x_text_length = 0 := by rw [hTc.2.1, q0]; rfl
    have e0 : ∀ (G : Nat) (Post : Int32 → Prop), 0 < G → Post (-1) → p_X5_faultInLines_18 F 1 6 (nI (6 - nA)) (nI 10) x.x_text_length x.f_text_signs Post G 0 0 0 := by
      intro G Post hG kk
      obtain ⟨G2, rfl⟩ : ∃ G2, G = G2 + 1 := ⟨G - 1, by omega⟩
      rw [p_X5_faultInLines_18_s, el]
      exact br_t (by decide) (br_t rfl kk)
    refine e0 F _ (by omega) ⟨fun z => absurd rfl z, fun _ => ⟨by decide, ?_⟩⟩
    rw [el, show ((0 : Int32) + 1) / (1 + 1) = nI 0 from rfl]
    have e1 : ∀ (G : Nat) Post, 0 < G → Post 0 (nI nA, 0, x.f_now_load, x.x_past_size) → p_X7_arches_43 F 0 x.f_text_signs x.x_past_size (-1) (nI 0) Post G 0 (nI nA) x.f_now_load := by
      intro G Post hG kk
      obtain ⟨G2, rfl⟩ : ∃ G2, G = G2 + 1 := ⟨G - 1, by omega⟩
      rw [p_X7_arches_43_s]
      unfold p_X7_linesTaken p_X7_linesTaken_20
      exact br_t (by decide) (br_t (by decide) ⟨fun z => absurd rfl z, fun _ => kk⟩)
    refine e1 F _ (by omega) ?_
    rw [q0]
    refine ⟨fun z => absurd rfl z, fun _ => ?_⟩
    exact ⟨rfl, nA, nC, R, w, ok, ⟨rfl, v2, v3, v4, v5, h0, v6, v7, v8, v9, v10⟩, hM, rfl, eC, TXr_0, hW, hU, hN, hE, hH, hK⟩
  refine s5_linesA hTc q0 hA 6 0 F (by omega) (by omega) (by omega) (by omega) (by omega) ?_
  have q1 : ¬ nI t = 0 := fun z => q0 ((nI_eq (b := 0) (by omega) (by omega)).1 z)
  cases hr : arR nA t b 6 0 with
  | mk o P =>
    cases o with
    | true =>
      obtain ⟨r1, r2, r3, r4⟩ := arR_t (by omega) hr
      refine ⟨fun z => absurd rfl z, fun _ => ⟨by decide, ?_⟩⟩
      have el : (x.x_text_length + 1) / (1 + 1) = nI P := by
        rw [hTc.2.1, show nI t + 1 = nI (t + 1) from (nI_succ _).symm, show (1 : Int32) + 1 = nI 2 from rfl, pk_div (by omega) (by omega) (by omega)]
        congr 1
        omega
      rw [el]
      refine s7_takeA (nC := nC) hF hTc r2 r1 r3 (fun i hi => r4 i (by omega) hi) h0 rfl (fun ld2 hl2 => ?_)
      refine ⟨fun _ => ?_, fun z => absurd z q1⟩
      refine s8_linesA hTm q0 hA 6 0 F m.f_told (by omega) (by omega) (by omega) (by omega) (by omega) (fun i hi => absurd hi (by omega)) (fun L told' e hl => ?_) (fun P2 _ _ _ _ e => absurd (congrArg Prod.fst (hr.symm.trans e)) (by simp))
      have eL : P = L := congrArg Prod.snd (hr.symm.trans e)
      subst eL
      unfold p_X8_arches_84
      refine s8_right (by omega) (Nat.le_refl _) (by omega) ⟨fun _ => s8_takeA hF ok hM r2 hl (fun now2 hM2 => ?_), fun z => absurd z (by decide)⟩
      refine ⟨rfl, nA + P, nC, R, wA w nA b P, wA_OK ok r2 (fun i hi => r4 i (by omega) hi), ⟨rfl, v2, ?_, ?_, ?_, hl2, fun i hi => ?_, fun i hi => ?_, fun i hi => ?_, fun i hi => ?_, fun i hi => ?_⟩, hM2, rfl, eC, TXr_0, hW, hU, UNr_0 hN, FEr_up hE (by omega), hH, KPr_up hK (by omega) (Nat.le_refl _) (by omega)⟩
      · rw [wA_ge (by omega)]; exact v3
      · rw [wA_ge (by omega)]; exact v4
      · rw [wA_ge (by omega)]; exact v5
      · rw [wA_ge (by omega)]; exact v6 i hi
      · rw [wA_ge (by omega)]; exact v7 i hi
      · rw [wA_ge (by omega)]; exact v8 i hi
      · rw [wA_ge (by omega)]; exact v9 i hi
      · rw [wA_ge (by omega)]; exact v10 i hi
    | false =>
      show (¬ nI P = -1 → _) ∧ (nI P = -1 → _)
      have c1 : p8_arches F am m (fun r' m' => (-1 - nI P : Int32) = r' ∧ Rel F (XS.mk 0 x.f_text_signs x.x_told_size x.f_told_numbers (nI nA) x.x_now_cats x.x_now_store x.x_now_hour x.x_now_drops x.f_now_load x.f_now_sag x.f_now_joy x.f_now_bowl x.f_now_grief x.f_now_place x.x_before_arches x.x_before_cats x.x_before_store x.x_before_hour x.x_before_drops x.f_before_load x.f_before_sag x.f_before_joy x.f_before_bowl x.f_before_grief x.f_before_place x.x_trial_arches x.x_trial_cats x.x_trial_store x.x_trial_hour x.x_trial_drops x.f_trial_load x.f_trial_sag x.f_trial_joy x.f_trial_bowl x.f_trial_grief x.f_trial_place x.x_past_next x.x_past_size x.f_past_ring x.f_kept x.x_feltNotes_most x.x_feltNotes_size x.f_feltNotes_first x.f_feltNotes_second x.x_heardNotes_most x.x_heardNotes_size x.f_heardNotes_first x.f_heardNotes_second x.x_draws_last x.f_purrs x.f_alone x.f_nimbers x.f_ways x.x_ruling_size x.x_ruling_top x.x_ruling_open x.x_ruling_compared x.x_ruling_digits x.x_ruling_wantsThing x.f_ruling_steps x.f_ruling_stack x.x_spare_size x.x_spare_top x.x_spare_open x.x_spare_compared x.x_spare_digits x.x_spare_wantsThing x.f_spare_steps x.f_spare_stack) m') := by
        unfold p8_arches p_X8_arches p_X8_beginText p_X8_begin
        rw [eA, eT]
        refine ⟨fun _ => ?_, fun z => absurd z q1⟩
        refine s8_linesA hTm q0 hA 6 0 F m.f_told (by omega) (by omega) (by omega) (by omega) (by omega) (fun i hi => absurd hi (by omega)) (fun L told' e => absurd (congrArg Prod.fst (hr.symm.trans e)) (by simp)) (fun P2 y1 at0 wr told' e hw hP => ?_)
        have eP : P = P2 := congrArg Prod.snd (hr.symm.trans e)
        subst eP
        unfold p_X8_arches_84
        rcases hw with hw | ⟨hw, ha, hp⟩
        · subst hw
          refine s8_rightW (m1_ne (by omega)) ⟨fun z => absurd rfl z, fun _ => ⟨rfl, nA, nC, R, w, ok, ⟨rfl, v2, v3, v4, v5, h0, v6, v7, v8, v9, v10⟩, hM, rfl, eC, TXr_0, hW, hU, hN, hE, hH, hK⟩⟩
        · subst hw ha
          refine s8_rightB (by omega) hp ⟨fun z => absurd rfl z, fun _ => ⟨rfl, nA, nC, R, w, ok, ⟨rfl, v2, v3, v4, v5, h0, v6, v7, v8, v9, v10⟩, hM, rfl, eC, TXr_0, hW, hU, hN, hE, hH, hK⟩⟩
      have e1 : ∀ (G : Nat) Post, 0 < G → (P < 1000) → Post (-1 - nI P) (nI nA, 0, x.f_now_load, x.x_past_size) → p_X7_arches_43 F x.x_text_length x.f_text_signs x.x_past_size (nI P) 0 Post G 0 (nI nA) x.f_now_load := by
        intro G Post hG hP kk
        obtain ⟨G2, rfl⟩ : ∃ G2, G = G2 + 1 := ⟨G - 1, by omega⟩
        rw [p_X7_arches_43_s]
        unfold p_X7_linesTaken p_X7_linesTaken_20
        exact br_t (by decide) (br_t (by decide) ⟨fun _ => kk, fun z => absurd z (m1_ne hP)⟩)
      have hP : P < 100 := arR_f (by omega) hr
      refine ⟨fun _ => e1 F _ (by omega) (by omega) ?_, fun z => absurd z (m1_ne (by omega))⟩
      have c2 := c1
      unfold p8_arches p_X8_arches p_X8_beginText p_X8_begin at c2
      rw [eA, eT] at c2
      exact c2
end
