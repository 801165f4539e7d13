/-! ===== call: night, the acts ===== -/
def aCw (nA nC : Nat) (w : Nat → Int32) (c : Nat) (d1 d2 : Int32) : Int32 := if c = 102 then fdC nC w d1 d2 else if c = 103 then grC nC d1 d2 else if c = 108 then ldC nA w d1 d2 else if c = 110 then 0 else if c = 112 then ptC nC w d1 else stC nA nC w d1 d2
def aW (R : (Nat → Int32) → Int32) (nA nC : Nat) (w : Nat → Int32) (c : Nat) (d1 d2 : Int32) : Nat → Int32 := if c = 102 then fdW w d1 d2 else if c = 103 then grW w d1 d2 else if c = 108 then ldW w d1 d2 else if c = 110 then goHs R nA nC d1.toNatClampNeg w else if c = 112 then ptW w d1 else stW w d1 d2
theorem dctS_le (R : (Nat → Int32) → Int32) (nA nC : Nat) (w : Nat → Int32) : ∀ n, dctS R nA nC n w ≤ n * nA
  | 0 => by simp [dctS]
  | n + 1 => by
    have h1 := dctS_le R nA nC w n
    have h2 := dct_le R nC (goHs R nA nC n w) nA
    rw [dctS, Nat.succ_mul]
    omega
theorem dg_0 {v : Int32} (h : dg v) : 0 ≤ v := by
  obtain ⟨k, hk, rfl⟩ := h
  exact nI_le (a := 0) (by omega) (by omega)
section
variable {F nA nC m q : Nat} {R : (Nat → Int32) → Int32} {w f rule asked hold : Nat → Int32} {arches cats store hour drops sz top : Int32} {load sag joy bowl grief place steps stack : Nat → Int32} {rd : Value} {ln tp at0 wr ia dr : Int32}
theorem s7_act {c d : Nat} {d2 : Int32} {Post : Int32 → (Int32 × Int32 × Int32 × (Nat → Int32) × (Nat → Int32) × Int32 × (Nat → Int32) × (Nat → Int32) × (Nat → Int32) × (Nat → Int32) × (Nat → Int32)) → Prop} (hF : 5000 ≤ F) (hR : RX F R sz steps) (hV : AV nA nC w arches cats store hour drops load sag joy bowl grief place) (ok : OK nA nC w) (hc : c < 256) (hd : d ≤ 9) (h0 : ¬ dA c = 0)
    (k1 : aCw nA nC w c (nI d) d2 < 0 → ∀ r st h dd pl jy tp ld sk sg gr bw, ¬ 0 ≤ r → AV nA nC w arches cats st h dd ld sg jy bw gr pl → Post r (st, h, dd, pl, jy, tp, ld, sk, sg, gr, bw))
    (k2 : aCw nA nC w c (nI d) d2 = 0 → ∀ r st h dd pl jy tp ld sk sg gr bw, 0 ≤ r → OK nA nC (aW R nA nC w c (nI d) d2) → AV nA nC (aW R nA nC w c (nI d) d2) arches cats st h dd ld sg jy bw gr pl → Post r (st, h, dd, pl, jy, tp, ld, sk, sg, gr, bw)) : p_X7_act F (nI c) (nI d) d2 arches cats store hour drops place joy sz top load steps stack sag grief bowl Post := by
  have hA := ok.1
  have e : ∀ n, n < 256 → ((nI c = nI n) ↔ c = n) := fun n hn => nI_eq (by omega) (by omega)
  unfold p_X7_act
  unfold aCw at k1 k2
  unfold aW at k2
  refine ⟨fun z => ?_, fun z1 => ⟨fun z => ?_, fun z2 => ⟨fun z => ?_, fun z3 => ⟨fun z => ?_, fun z4 => ⟨fun z => ?_, fun z5 => ⟨fun z => ?_, fun z6 => ?_⟩⟩⟩⟩⟩⟩
  · have z := (e 102 (by omega)).1 z
    simp only [z, if_true] at k1 k2
    exact s6_feed ok hV (fun neg => k1 neg _ _ _ _ _ _ _ _ _ _ _ _ (nle0 neg) hV) (fun e0 c hc ec s2 b2 ok2 hV2 => k2 e0 _ _ _ _ _ _ _ _ _ _ _ _ (dg_0 (ok2.2.2.1 _ (by have := ok.2.1; omega))) ok2 hV2)
  all_goals have n1 : ¬ c = 102 := fun y => z1 ((e 102 (by omega)).2 y)
  · have z := (e 103 (by omega)).1 z
    simp only [z, if_true, if_neg (show ¬ 103 = 102 by omega)] at k1 k2
    exact s6_sadden ok hV (fun neg => k1 neg _ _ _ _ _ _ _ _ _ _ _ _ (nle0 neg) hV) (fun e0 c hc ec g2 ok2 hV2 => k2 e0 _ _ _ _ _ _ _ _ _ _ _ _ (dg_0 (ok2.2.2.1 _ (by have := ok.2.1; omega))) ok2 hV2)
  all_goals have n2 : ¬ c = 103 := fun y => z2 ((e 103 (by omega)).2 y)
  · have z := (e 108 (by omega)).1 z
    simp only [z, if_true, if_neg (show ¬ 108 = 102 by omega), if_neg (show ¬ 108 = 103 by omega)] at k1 k2
    refine s6_burden ok hV (fun neg ld hV2 => k1 neg _ _ _ _ _ _ _ _ _ _ _ _ (nle0 neg) hV2) (fun e0 b hb eb ld ok2 hV2 => k2 e0 _ _ _ _ _ _ _ _ _ _ _ _ ?_ ok2 hV2)
    obtain ⟨l, hl, el⟩ := ok.2.2.1 b (by omega)
    rw [el, show (10 : Int32) + nI l = nI (10 + l) from nI_add 10 l]
    exact nI_le (a := 0) (by omega) (by omega)
  all_goals have n3 : ¬ c = 108 := fun y => z3 ((e 108 (by omega)).2 y)
  · have z := (e 110 (by omega)).1 z
    simp only [z, if_true, if_neg (show ¬ 110 = 102 by omega), if_neg (show ¬ 110 = 103 by omega), if_neg (show ¬ 110 = 108 by omega)] at k1 k2
    rw [nI_clamp (n := d) (by omega)] at k2
    refine s6_passHours hF (by omega) hR hV ok (fun h3 d3 t3 st3 s3 j3 g3 b3 hV3 => k2 trivial _ _ _ _ _ _ _ _ _ _ _ _ ?_ (goHs_OK ok d) hV3)
    have h1 := dctS_le R nA nC w d
    have h2 : d * nA ≤ 9 * 6 := Nat.mul_le_mul hd hA
    exact nI_le (a := 0) (by omega) (by omega)
  all_goals have n4 : ¬ c = 110 := fun y => z4 ((e 110 (by omega)).2 y)
  · have z := (e 112 (by omega)).1 z
    simp only [z, if_true, if_neg (show ¬ 112 = 102 by omega), if_neg (show ¬ 112 = 103 by omega), if_neg (show ¬ 112 = 108 by omega), if_neg (show ¬ 112 = 110 by omega)] at k1 k2
    exact s6_pet ok hV (fun neg => k1 neg _ _ _ _ _ _ _ _ _ _ _ _ (nle0 neg) hV) (fun e0 c hc ec j2 ok2 hV2 => k2 e0 _ _ _ _ _ _ _ _ _ _ _ _ (dg_0 (ok2.2.2.1 _ (by have := ok.2.1; omega))) ok2 hV2)
  all_goals have n5 : ¬ c = 112 := fun y => z5 ((e 112 (by omega)).2 y)
  · have z := (e 115 (by omega)).1 z
    simp only [z, if_neg (show ¬ 115 = 102 by omega), if_neg (show ¬ 115 = 103 by omega), if_neg (show ¬ 115 = 108 by omega), if_neg (show ¬ 115 = 110 by omega), if_neg (show ¬ 115 = 112 by omega)] at k1 k2
    refine s6_seat ok hV (fun neg p2 hV2 => k1 neg _ _ _ _ _ _ _ _ _ _ _ _ (nle0 neg) hV2) (fun e0 c b b0 hc hb hb0 ec eb ew ne p2 ok2 hV2 => k2 e0 _ _ _ _ _ _ _ _ _ _ _ _ ?_ ok2 hV2)
    have hf : farN b b0 ≤ 6 := by unfold farN; split <;> omega
    exact nI_le (a := 0) (by omega) (by omega)
  · exfalso
    apply h0
    unfold dA
    rw [if_neg n1, if_neg n2, if_neg n3, if_neg n4, if_neg n5, if_neg (fun y => z6 ((e 115 (by omega)).2 y))]
end
