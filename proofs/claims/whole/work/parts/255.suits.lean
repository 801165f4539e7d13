/-! ===== calls: suits ===== -/
def soB (R : (Nat → Int32) → Int32) (nC : Nat) (w : Nat → Int32) (c : Nat) (what v : Int32) : Bool :=
  if what = 0 then ! decide (w (12 + c) < v) else if what = 1 then ! decide (w (20 + c) < v) else if what = 2 then decide (w (36 + c) = v) else if what = 3 then ! decide (pO R nC w c < v) else (! decide (w (28 + c) ≤ 0)) == decide (v = 1)
theorem bN_true : ∀ n, bN (fun _ => true) n = 2 ^ n - 1 := fun n => by
  apply bit_ext
  intro i
  rw [bN_bit, Nat.testBit_two_pow_sub_one]
  simp
theorem bN_and {p q : Nat → Bool} {n : Nat} : bN p n &&& bN q n = bN (fun c => p c && q c) n := by
  apply bit_ext
  intro i
  rw [Nat.testBit_and, bN_bit, bN_bit, bN_bit]
  simp
  constructor
  · rintro ⟨⟨h1, h2⟩, _, h3⟩; exact ⟨h1, h2, h3⟩
  · rintro ⟨h1, h2, h3⟩; exact ⟨⟨h1, h2⟩, h1, h3⟩
def suB (R : (Nat → Int32) → Int32) (nC : Nat) (w g1 g2 : Nat → Int32) (c : Nat) : Nat → Bool
  | 0 => true
  | n + 1 => suB R nC w g1 g2 c n && soB R nC w c (g1 n) (g2 n)
def suN (R : (Nat → Int32) → Int32) (nC : Nat) (w g1 g2 : Nat → Int32) (k : Nat) : Nat := bN (fun c => suB R nC w g1 g2 c k) nC
section
variable {F nA nC k rs q : Nat} {R : (Nat → Int32) → Int32} {w f rule asked g1 g2 : Nat → Int32} {rd : Value} {ln tp at0 wr ia : Int32} {joy bowl grief place purrs f1 f2 : Nat → Int32}
theorem s7_isSo {c : Nat} {what v : Int32} {Post : Int32 → Prop} (hc : c < nC) (hC : nC ≤ 8) (h3 : ∀ i, i < 8 → joy i = w (12 + i)) (h4 : ∀ i, i < 8 → bowl i = w (20 + i)) (h5 : ∀ i, i < 8 → grief i = w (28 + i)) (h6 : ∀ i, i < 8 → place i = w (36 + i)) (hpu : ∀ i, i < nC → purrs i = pO R nC w i) (kk : Post (if soB R nC w c what v then 1 else 0)) : p_X7_isSo F (nI c) what v grief purrs place bowl joy Post := by
  unfold p_X7_isSo p_X7_isSo_122 p_X7_isSo_132
  rw [nI_clamp (n := c) (by omega), h3 c (by omega), h4 c (by omega), h5 c (by omega), h6 c (by omega), hpu c hc]
  have i8 : vp_in (nI c) 8 := pk_in c 8 (by omega)
  unfold soB at kk
  refine ⟨fun a => ⟨i8, ?_⟩, fun a => ⟨fun b => ⟨i8, ?_⟩, fun b => ⟨fun e => ⟨i8, ?_⟩, fun e => ⟨fun d => ⟨i8, ?_⟩, fun d => ⟨i8, ?_⟩⟩⟩⟩⟩
  · rw [if_pos a] at kk
    refine ⟨fun z => ?_, fun z => ?_⟩ <;> simp [z] at kk <;> exact kk
  · rw [if_neg a, if_pos b] at kk
    refine ⟨fun z => ?_, fun z => ?_⟩ <;> simp [z] at kk <;> exact kk
  · rw [if_neg a, if_neg b, if_pos e] at kk
    refine ⟨fun z => ?_, fun z => ?_⟩ <;> simp [z] at kk <;> exact kk
  · rw [if_neg a, if_neg b, if_neg e, if_pos d] at kk
    refine ⟨fun z => ?_, fun z => ?_⟩ <;> simp [z] at kk <;> exact kk
  · rw [if_neg a, if_neg b, if_neg e, if_neg d] at kk
    refine ⟨fun z => ⟨fun y => ⟨fun u => absurd rfl u, fun _ => ?_⟩, fun y => ⟨fun _ => ?_, fun u => absurd u (by decide)⟩⟩, fun z => ⟨fun y => ⟨fun _ => ?_, fun u => absurd u (by decide)⟩, fun y => ⟨fun u => absurd rfl u, fun _ => ?_⟩⟩⟩ <;> simp [z, y] at kk <;> exact kk
theorem s8_isSo {c : Nat} {what v : Int32} {Post : Int32 → (Value × Int32 × Int32 × Int32 × Int32 × Int32 × (Nat → Int32)) → Prop} (hF : 5000 ≤ F) (hR : RM F R rs rule) (hM : MV w f) (ok : OK nA nC w) (hc : c < nC) (kk : ∀ u, Post (if soB R nC w c what v then 1 else 0) u) : p_X8_isSo F (nI c) what v (nI nC) rd ln tp at0 wr q (nI rs) ia f asked rule Post := by
  have hC := ok.2.1
  unfold p_X8_isSo p_X8_isSo_125 p_X8_isSo_135
  rw [cc12 (by omega), cc20 (by omega), cc28 (by omega), cc36 (by omega), hM (12 + c) (by omega), hM (20 + c) (by omega), hM (28 + c) (by omega), hM (36 + c) (by omega)]
  unfold soB at kk
  refine ⟨fun a => ⟨ci12 (by omega), ?_⟩, fun a => ⟨fun b => ⟨ci20 (by omega), ?_⟩, fun b => ⟨fun e => ⟨ci36 (by omega), ?_⟩, fun e => ⟨fun d => s8_purrOf hF hR hM ok hc (fun u => ?_), fun d => ⟨ci28 (by omega), ?_⟩⟩⟩⟩⟩
  · rw [if_pos a] at kk
    have kk := kk (rd, ln, tp, at0, wr, ia, asked)
    refine ⟨fun z => ?_, fun z => ?_⟩ <;> simp [z] at kk <;> exact kk
  · rw [if_neg a, if_pos b] at kk
    have kk := kk (rd, ln, tp, at0, wr, ia, asked)
    refine ⟨fun z => ?_, fun z => ?_⟩ <;> simp [z] at kk <;> exact kk
  · rw [if_neg a, if_neg b, if_pos e] at kk
    have kk := kk (rd, ln, tp, at0, wr, ia, asked)
    refine ⟨fun z => ?_, fun z => ?_⟩ <;> simp [z] at kk <;> exact kk
  · rw [if_neg a, if_neg b, if_neg e, if_pos d] at kk
    have kk := kk (u.1, u.2.1, u.2.2.1, u.2.2.2.1, u.2.2.2.2.1, u.2.2.2.2.2.1, u.2.2.2.2.2.2)
    refine ⟨fun z => ?_, fun z => ?_⟩ <;> simp [z] at kk <;> exact kk
  · rw [if_neg a, if_neg b, if_neg e, if_neg d] at kk
    have kk := kk (rd, ln, tp, at0, wr, ia, asked)
    refine ⟨fun z => ⟨fun y => ⟨fun u => absurd rfl u, fun _ => ?_⟩, fun y => ⟨fun _ => ?_, fun u => absurd u (by decide)⟩⟩, fun z => ⟨fun y => ⟨fun _ => ?_, fun u => absurd u (by decide)⟩, fun y => ⟨fun u => absurd rfl u, fun _ => ?_⟩⟩⟩ <;> simp [z, y] at kk <;> exact kk
theorem s7_whom {what v : Int32} {Post : Int32 → Prop} (hF : 5000 ≤ F) (hC : nC ≤ 8) (h3 : ∀ i, i < 8 → joy i = w (12 + i)) (h4 : ∀ i, i < 8 → bowl i = w (20 + i)) (h5 : ∀ i, i < 8 → grief i = w (28 + i)) (h6 : ∀ i, i < 8 → place i = w (36 + i)) (hpu : ∀ i, i < nC → purrs i = pO R nC w i) (kk : Post (nI (bN (fun c => soB R nC w c what v) nC))) : p_X7_catsOfWhom F what v (nI nC) grief purrs place bowl joy Post := by
  refine up_loop (fun n i s => p_X7_catsOfWhom_5 F what v (nI nC) grief purrs place bowl joy Post n i s) (fun j s => s = nI (bN (fun c => soB R nC w c what v) j)) nC ?_ ?_ F 0 0 rfl (by omega) (by omega)
  · intro n s hs
    subst hs
    show p_X7_catsOfWhom_5 F what v (nI nC) grief purrs place bowl joy Post (n + 1) (nI nC) _
    rw [p_X7_catsOfWhom_5_s]
    exact br_t (nI_le (Nat.le_refl _) (by omega)) kk
  · intro n j s hj hs ih
    subst hs
    show p_X7_catsOfWhom_5 F what v (nI nC) grief purrs place bowl joy Post (n + 1) (nI j) _
    rw [p_X7_catsOfWhom_5_s]
    refine br_f (nI_ge hj (by omega)) (s7_isSo hj hC h3 h4 h5 h6 hpu ?_)
    unfold p_X7_catsOfWhom_37
    by_cases q : soB R nC w j what v = true
    · rw [if_pos q]; exact br_f (by decide) (ih _ (bN_ot (by omega) q))
    · rw [if_neg q]; exact br_t rfl (ih _ (bN_of (by omega) q))
theorem s7_suiting {sz : Int32} {Post : Int32 → Prop} (hF : 5000 ≤ F) (hC : nC ≤ 8) (hk : k ≤ 12) (h3 : ∀ i, i < 8 → joy i = w (12 + i)) (h4 : ∀ i, i < 8 → bowl i = w (20 + i)) (h5 : ∀ i, i < 8 → grief i = w (28 + i)) (h6 : ∀ i, i < 8 → place i = w (36 + i)) (hpu : ∀ i, i < nC → purrs i = pO R nC w i) (ez : sz = nI k) (hf : ∀ i, i < k → f1 i = g1 i ∧ f2 i = g2 i) (kk : Post (nI (suN R nC w g1 g2 k))) : p_X7_suitingCats F (nI nC) sz f1 f2 grief purrs place bowl joy Post := by
  subst ez
  unfold p_X7_suitingCats
  have pw := pw_nC hC
  have e0 : ((1 : Int32) <<< (nI nC &&& 31)) - 1 = nI (bN (fun c => suB R nC w g1 g2 c 0) nC) := by
    rw [sh_nC hC, show (1 : Int32) = nI 1 from rfl, pk_sub pw.1]
    exact congrArg nI (bN_true nC).symm
  rw [e0]
  refine up_loop (fun n i s => p_X7_suitingCats_14 F (nI nC) (nI k) f1 f2 grief purrs place bowl joy Post n i s) (fun j s => s = nI (bN (fun c => suB R nC w g1 g2 c j) nC)) k ?_ ?_ F _ 0 rfl (by omega) (by omega)
  · intro n s hs
    subst hs
    show p_X7_suitingCats_14 F (nI nC) (nI k) f1 f2 grief purrs place bowl joy Post (n + 1) (nI k) _
    rw [p_X7_suitingCats_14_s]
    exact br_t (nI_le (Nat.le_refl _) (by omega)) kk
  · intro n j s hj hs ih
    subst hs
    show p_X7_suitingCats_14 F (nI nC) (nI k) f1 f2 grief purrs place bowl joy Post (n + 1) (nI j) _
    obtain ⟨e1, e2⟩ := hf j hj
    rw [p_X7_suitingCats_14_s, nI_clamp (n := j) (by omega), e1, e2]
    have i12 : vp_in (nI j) 12 := pk_in j 12 (by omega)
    refine br_f (nI_ge hj (by omega)) ⟨i12, i12, s7_whom hF hC h3 h4 h5 h6 hpu (ih _ ?_)⟩
    rw [fz_and, bN_and]
    rfl
theorem s8_suiting {mn : Int32} {Post : Int32 → (Value × Int32 × Int32 × Int32 × Int32 × Int32 × (Nat → Int32)) → Prop} (hF : 5000 ≤ F) (hR : RM F R rs rule) (hM : MV w f) (ok : OK nA nC w) (hk : k ≤ 12) (ez : mn = nI k) (kk : ∀ u, Post (nI (suN R nC w g1 g2 k)) u) : p_X8_suiting F (nI nC) rd ln tp at0 wr q (nI rs) ia mn g1 g2 f asked rule Post := by
  subst ez
  have hC := ok.2.1
  unfold p_X8_suiting
  refine up_loop (fun n i (s : Int32 × Value × Int32 × Int32 × Int32 × Int32 × Int32 × (Nat → Int32)) => p_X8_suiting_4 F (nI nC) q (nI rs) (nI k) g1 g2 f rule Post n i s.1 s.2.1 s.2.2.1 s.2.2.2.1 s.2.2.2.2.1 s.2.2.2.2.2.1 s.2.2.2.2.2.2.1 s.2.2.2.2.2.2.2) (fun j s => s.1 = nI (bN (fun c => suB R nC w g1 g2 c k) j)) nC ?_ ?_ F (0, rd, ln, tp, at0, wr, ia, asked) 0 rfl (by omega) (by omega)
  · rintro n ⟨s, u1, u2, u3, u4, u5, u6, u7⟩ hs
    have hs : s = _ := hs
    subst hs
    show p_X8_suiting_4 F (nI nC) q (nI rs) (nI k) g1 g2 f rule Post (n + 1) (nI nC) _ u1 u2 u3 u4 u5 u6 u7
    rw [p_X8_suiting_4_s]
    exact br_t (nI_le (Nat.le_refl _) (by omega)) (kk _)
  · rintro n c ⟨s, u1, u2, u3, u4, u5, u6, u7⟩ hc hs ih
    have hs : s = _ := hs
    subst hs
    show p_X8_suiting_4 F (nI nC) q (nI rs) (nI k) g1 g2 f rule Post (n + 1) (nI c) (nI (bN (fun c => suB R nC w g1 g2 c k) c)) u1 u2 u3 u4 u5 u6 u7
    rw [p_X8_suiting_4_s]
    refine br_f (nI_ge hc (by omega)) ?_
    refine up_loop (fun n2 i (s : Int32 × Value × Int32 × Int32 × Int32 × Int32 × Int32 × (Nat → Int32)) => p_X8_suiting_17 F (nI nC) q (nI rs) (nI k) g1 g2 f rule (nI c) (nI (bN (fun c => suB R nC w g1 g2 c k) c)) (p_X8_suiting_4 F (nI nC) q (nI rs) (nI k) g1 g2 f rule Post n) Post n2 i s.1 s.2.1 s.2.2.1 s.2.2.2.1 s.2.2.2.2.1 s.2.2.2.2.2.1 s.2.2.2.2.2.2.1 s.2.2.2.2.2.2.2) (fun j s => s.1 = if suB R nC w g1 g2 c j then 1 else 0) k ?_ ?_ F (1, u1, u2, u3, u4, u5, u6, u7) 0 rfl (by omega) (by omega)
    · rintro n2 ⟨s, v1, v2, v3, v4, v5, v6, v7⟩ hs
      have hs : s = _ := hs
      subst hs
      show p_X8_suiting_17 F (nI nC) q (nI rs) (nI k) g1 g2 f rule (nI c) (nI (bN (fun c => suB R nC w g1 g2 c k) c)) (p_X8_suiting_4 F (nI nC) q (nI rs) (nI k) g1 g2 f rule Post n) Post (n2 + 1) (nI k) (if suB R nC w g1 g2 c k then 1 else 0) v1 v2 v3 v4 v5 v6 v7
      rw [p_X8_suiting_17_s]
      unfold p_X8_suiting_76
      refine br_t (nI_le (Nat.le_refl _) (by omega)) ?_
      by_cases q : suB R nC w g1 g2 c k = true
      · rw [if_pos q]; exact br_f (by decide) (ih (_, _, _, _, _, _, _, _) (bN_ot (by omega) q))
      · rw [if_neg q]; exact br_t rfl (ih (_, _, _, _, _, _, _, _) (bN_of (by omega) q))
    · rintro n2 j ⟨s, v1, v2, v3, v4, v5, v6, v7⟩ hj hs ih2
      have hs : s = _ := hs
      subst hs
      show p_X8_suiting_17 F (nI nC) q (nI rs) (nI k) g1 g2 f rule (nI c) (nI (bN (fun c => suB R nC w g1 g2 c k) c)) (p_X8_suiting_4 F (nI nC) q (nI rs) (nI k) g1 g2 f rule Post n) Post (n2 + 1) (nI j) (if suB R nC w g1 g2 c j then 1 else 0) v1 v2 v3 v4 v5 v6 v7
      rw [p_X8_suiting_17_s, nI_clamp (n := j) (by omega)]
      have i12 : vp_in (nI j) 12 := pk_in j 12 (by omega)
      unfold p_X8_suiting_56 p_X8_suiting_57
      refine br_f (nI_ge hj (by omega)) ?_
      by_cases q : suB R nC w g1 g2 c j = true
      · rw [if_pos q]
        refine br_f (by decide) ⟨i12, i12, s8_isSo hF hR hM ok hc (fun u => ?_)⟩
        by_cases q2 : soB R nC w c (g1 j) (g2 j) = true
        · rw [if_pos q2]
          exact br_f (by decide) (ih2 (1, _, _, _, _, _, _, _) (by show (1 : Int32) = if suB R nC w g1 g2 c (j + 1) then 1 else 0; rw [suB, q, q2]; rfl))
        · rw [if_neg q2]
          have q2 : soB R nC w c (g1 j) (g2 j) = false := by simpa using q2
          exact br_t rfl (ih2 (0, _, _, _, _, _, _, _) (by show (0 : Int32) = if suB R nC w g1 g2 c (j + 1) then 1 else 0; rw [suB, q, q2]; rfl))
      · rw [if_neg q]
        have q : suB R nC w g1 g2 c j = false := by simpa using q
        exact br_t rfl (ih2 (0, v1, v2, v3, v4, v5, v6, v7) (by show (0 : Int32) = if suB R nC w g1 g2 c (j + 1) then 1 else 0; rw [suB, q]; rfl))
end
section
variable {F : Nat} {x : XS} {m : MS} {am : MA}
theorem ob_suits (hF : 5000 ≤ F) (h : Rel F x m) : p7_suits F x (fun r x' => p8_suits F am m (fun r' m' => r = r' ∧ Rel F x' m')) := by
  obtain ⟨nA, nC, R, w, ok, hV, hM, eA, eC, hT, hW, hU, hN, hE, hH, hK⟩ := h
  have hC := ok.2.1
  obtain ⟨hRX, rs, ers, hRM⟩ := id hU
  obtain ⟨_, k, hk, k1, k2, hf⟩ := id hH
  obtain ⟨_, _, _, _, _, _, _, h3, h4, h5, h6⟩ := id hV
  unfold p7_suits p_X7_suits
  refine s7_findPurrs hF hRX hV ok (fun t st p2 hp2 => ?_)
  rw [hV.2.1]
  have hV0 := hV
  rw [hV.2.1] at hV0
  refine s7_suiting (g1 := m.f_heardOf) (g2 := m.f_heardBy) hF hC hk h3 h4 h5 h6 hp2 k1 (fun i hi => ⟨(hf i hi).1, (hf i hi).2.1⟩) (s3_anew (s_bitCount (s3_add (RL_nil _) (by decide) (fun s5 f5 h5 => ?_))))
  unfold p8_suits p_X8_suits
  rw [eC, ers]
  refine s8_suiting hF hRM hM ok hk k2 (fun u => s_bitCount (s8_tell (RL_nil _) (by decide) (fun s6 f6 h6 => ?_)))
  exact ⟨rfl, nA, nC, R, w, ok, hV0, hM, eA, rfl, hT, RWr_of (by show 1 ≤ 8; omega) h5 h6, ⟨hRX, rs, rfl, hRM⟩, hN, hE, hH, hK⟩
end
