/-! ===== calls: feeds, pets, grieves, sets, loads, hours ===== -/
section
variable {F : Nat} {x : XS} {m : MS} {am : MA}
theorem dg_nn {v : Int32} (h : dg v) : ¬ v < 0 := by
  obtain ⟨k, hk, rfl⟩ := h
  exact nI_pos (by omega)
theorem nle0 {v : Int32} (h : v < 0) : ¬ 0 ≤ v := nle_of_lt h
theorem ob_feeds (hF : 5000 ≤ F) (p1 p2 : Int32) (h : Rel F x m) : p7_feeds F p1 p2 x (fun r x' => p8_feeds F p1 p2 m (fun r' m' => r = r' ∧ Rel F x' m')) := by
  obtain ⟨nA, nC, R, w, ok, hV, hM, eA, eC, hT, hW, hU, hN, hE, hH, hK⟩ := h
  have hC := ok.2.1
  obtain ⟨k, nx, ws, hk, hx, hok, hUx, hUm⟩ := id hN
  unfold p7_feeds p_X7_feeds
  refine s6_become hV (fun l2 s2 j2 b2 g2 q2 hVb => ?_)
  refine s6_feed ok hV (fun neg => ?_) (fun e0 c hc ec s2 b2 ok2 hV2 => ?_)
  · unfold p_X7_remembered
    refine br_t neg ?_
    unfold p8_feeds p_X8_feeds
    rw [eC]
    exact s8_refusesFeed hM hC (br_f (nle0 neg) ⟨rfl, nA, nC, R, w, ok, hV, hM, eA, rfl, hT, hW, hU, hN, hE, hH, hK⟩)
  · unfold p_X7_remembered
    refine br_f (dg_nn (ok2.2.2.1 _ (by omega))) (s2_add hk hx hUx hVb (fun n3 s3 r3 hUx2 => ?_))
    unfold p8_feeds p_X8_feeds
    rw [eC]
    refine s8_refusesFeed hM hC (br_t (by rw [e0]; decide) (s8_remember hF hk hUm hM (fun m2 u2 hUm2 => ?_)))
    subst ec
    refine s8_goFeed hM (by omega) (fun f2 hf2 => ⟨ci20 (by omega), ?_⟩)
    rw [cc20 (by omega), hf2 (20 + c) (by omega)]
    exact ⟨rfl, nA, nC, R, _, ok2, hV2, hf2, eA, rfl, hT, hW, hU, UNr_push hk hok ok hUx2 hUm2, hE, hH, hK⟩
theorem ob_pets (hF : 5000 ≤ F) (p1 : Int32) (h : Rel F x m) : p7_pets F p1 x (fun r x' => p8_pets F p1 m (fun r' m' => r = r' ∧ Rel F x' m')) := by
  obtain ⟨nA, nC, R, w, ok, hV, hM, eA, eC, hT, hW, hU, hN, hE, hH, hK⟩ := h
  have hC := ok.2.1
  obtain ⟨k, nx, ws, hk, hx, hok, hUx, hUm⟩ := id hN
  unfold p7_pets p_X7_pets
  refine s6_become hV (fun l2 s2 j2 b2 g2 q2 hVb => ?_)
  refine s6_pet ok hV (fun neg => ?_) (fun e0 c hc ec j3 ok2 hV2 => ?_)
  · unfold p_X7_remembered
    refine br_t neg ?_
    unfold p8_pets p_X8_pets
    rw [eC]
    exact s8_refusesPet hM hC (br_f (nle0 neg) ⟨rfl, nA, nC, R, w, ok, hV, hM, eA, rfl, hT, hW, hU, hN, hE, hH, hK⟩)
  · unfold p_X7_remembered
    refine br_f (dg_nn (ok2.2.2.1 _ (by omega))) (s2_add hk hx hUx hVb (fun n3 s3 r3 hUx2 => ?_))
    unfold p8_pets p_X8_pets
    rw [eC]
    subst ec
    have i12 : vp_in ((12 : Int32) + nI c) 47 := ci12 (by omega)
    refine s8_refusesPet hM hC (br_t (by rw [e0]; decide) (s8_remember hF hk hUm hM (fun m2 u2 hUm2 => ⟨i12, i12, i12, ?_⟩)))
    rw [cc12 (by omega)]
    have mv := MV_pet hM (c := c) (by omega)
    exact ⟨(mv (12 + c) (by omega)).symm, nA, nC, R, _, ok2, hV2, mv, eA, rfl, hT, hW, hU, UNr_push hk hok ok hUx2 hUm2, hE, hH, hK⟩
theorem ob_grieves (hF : 5000 ≤ F) (p1 p2 : Int32) (h : Rel F x m) : p7_grieves F p1 p2 x (fun r x' => p8_grieves F p1 p2 m (fun r' m' => r = r' ∧ Rel F x' m')) := by
  obtain ⟨nA, nC, R, w, ok, hV, hM, eA, eC, hT, hW, hU, hN, hE, hH, hK⟩ := h
  have hC := ok.2.1
  obtain ⟨k, nx, ws, hk, hx, hok, hUx, hUm⟩ := id hN
  unfold p7_grieves p_X7_grieves
  refine s6_become hV (fun l2 s2 j2 b2 g2 q2 hVb => ?_)
  refine s6_sadden ok hV (fun neg => ?_) (fun e0 c hc ec g3 ok2 hV2 => ?_)
  · unfold p_X7_remembered
    refine br_t neg ?_
    unfold p8_grieves p_X8_grieves
    rw [eC]
    refine s8_canGrieve hC (fun _ => ⟨fun z => absurd rfl z, fun _ => ⟨?_, nA, nC, R, w, ok, hV, hM, eA, rfl, hT, hW, hU, hN, hE, hH, hK⟩⟩) (fun z => absurd neg (by rw [z]; decide))
    unfold grC at neg ⊢
    by_cases c1 : isIx p1 nC = false
    · rw [if_pos c1]
    · rw [if_neg c1] at neg ⊢
      by_cases c2 : is19 p2 = false
      · rw [if_pos c2]
      · rw [if_neg c2] at neg; exact absurd neg (by decide)
  · unfold p_X7_remembered
    refine br_f (dg_nn (ok2.2.2.1 _ (by omega))) (s2_add hk hx hUx hVb (fun n3 s3 r3 hUx2 => ?_))
    unfold p8_grieves p_X8_grieves
    rw [eC]
    refine s8_canGrieve hC (fun z => absurd z (by rw [e0]; decide)) (fun _ => ⟨fun _ => s8_remember hF hk hUm hM (fun m2 u2 hUm2 => ?_), fun z => absurd z (by decide)⟩)
    subst ec
    refine s8_goGrieve hM (by omega) (fun f2 hf2 => ⟨ci28 (by omega), ?_⟩)
    rw [cc28 (by omega), hf2 (28 + c) (by omega)]
    exact ⟨rfl, nA, nC, R, _, ok2, hV2, hf2, eA, rfl, hT, hW, hU, UNr_push hk hok ok hUx2 hUm2, hE, hH, hK⟩
theorem ob_sets (hF : 5000 ≤ F) (p1 p2 : Int32) (h : Rel F x m) : p7_sets F p1 p2 x (fun r x' => p8_sets F p1 p2 m (fun r' m' => r = r' ∧ Rel F x' m')) := by
  obtain ⟨nA, nC, R, w, ok, hV, hM, eA, eC, hT, hW, hU, hN, hE, hH, hK⟩ := h
  have hA := ok.1
  have hC := ok.2.1
  obtain ⟨k, nx, ws, hk, hx, hok, hUx, hUm⟩ := id hN
  unfold p7_sets p_X7_sets
  refine s6_become hV (fun l2 s2 j2 b2 g2 q2 hVb => ?_)
  refine s6_seat ok hV (fun neg pl hV2 => ?_) (fun e0 c b b0 hc hb hb0 ec eb ew ne pl ok2 hV2 => ?_)
  · unfold p_X7_remembered
    refine br_t neg ?_
    unfold p8_sets p_X8_sets
    rw [eC, eA]
    exact s8_refusesSet hM ok (br_f (nle0 neg) ⟨rfl, nA, nC, R, w, ok, hV2, hM, rfl, rfl, hT, hW, hU, hN, hE, hH, hK⟩)
  · unfold p_X7_remembered
    have hf : farN b b0 ≤ 6 := by unfold farN; split <;> omega
    refine br_f (nI_pos (by omega)) (s2_add hk hx hUx hVb (fun n3 s3 r3 hUx2 => ?_))
    unfold p8_sets p_X8_sets
    rw [eC, eA]
    refine s8_refusesSet hM ok (br_t (by rw [e0]; decide) (s8_remember hF hk hUm hM (fun m2 u2 hUm2 => ?_)))
    subst ec eb
    refine ⟨ci36 (by omega), ci36 (by omega), ?_⟩
    rw [cc36 (by omega), hM (36 + c) (by omega), ew, abs_eq (by omega) (by omega)]
    refine ⟨?_, nA, nC, R, _, ok2, hV2, MV_seat hM (by omega), rfl, rfl, hT, hW, hU, UNr_push hk hok ok hUx2 hUm2, hE, hH, hK⟩
    show nI (farN b b0) = nI (farN b0 b)
    rw [farN_c]
theorem ob_loads (hF : 5000 ≤ F) (p1 p2 : Int32) (h : Rel F x m) : p7_loads F p1 p2 x (fun r x' => p8_loads F p1 p2 m (fun r' m' => r = r' ∧ Rel F x' m')) := by
  obtain ⟨nA, nC, R, w, ok, hV, hM, eA, eC, hT, hW, hU, hN, hE, hH, hK⟩ := h
  have hA := ok.1
  obtain ⟨k, nx, ws, hk, hx, hok, hUx, hUm⟩ := id hN
  unfold p7_loads p_X7_loads
  refine s6_become hV (fun l2 s2 j2 b2 g2 q2 hVb => ?_)
  refine s6_burden ok hV (fun neg ld hV2 => ?_) (fun e0 b hb eb ld ok2 hV2 => ?_)
  · unfold p_X7_remembered
    refine br_t neg ?_
    unfold p8_loads p_X8_loads
    rw [eA]
    exact s8_refusesLoad hM hA (br_f (nle0 neg) ⟨rfl, nA, nC, R, w, ok, hV2, hM, rfl, eC, hT, hW, hU, hN, hE, hH, hK⟩)
  · unfold p_X7_remembered
    obtain ⟨l, hl, el⟩ := ok.2.2.1 b (by omega)
    refine br_f (by rw [el, show (10 : Int32) + nI l = nI (10 + l) from nI_add 10 l]; exact nI_pos (by omega)) (s2_add hk hx hUx hVb (fun n3 s3 r3 hUx2 => ?_))
    unfold p8_loads p_X8_loads
    rw [eA]
    refine s8_refusesLoad hM hA (br_t (by rw [e0]; decide) (s8_remember hF hk hUm hM (fun m2 u2 hUm2 => ?_)))
    subst eb
    refine ⟨pk_in b 47 (by omega), pk_in b 47 (by omega), ?_⟩
    rw [nI_clamp (n := b) (by omega), hM b (by omega)]
    exact ⟨rfl, nA, nC, R, _, ok2, hV2, MV_load hM (by omega), rfl, eC, hT, hW, hU, UNr_push hk hok ok hUx2 hUm2, hE, hH, hK⟩
end
