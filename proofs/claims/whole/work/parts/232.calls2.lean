/-! ===== calls: felt, heard, row, count ===== -/
section
variable {F : Nat} {x : XS} {m : MS} {am : MA}
theorem s1_full {N : Nat} {p q : Int32} {f1 f2 : Nat → Int32} {Post : Int32 → (Int32 × (Nat → Int32) × (Nat → Int32)) → Prop} (hN : N < 100) (k : Post (-1) (nI N, f1, f2)) : p_X1_add F p q (nI N) (nI N) f1 f2 Post := by
  unfold p_X1_add
  exact br_t (nI_le (Nat.le_refl _) (by omega)) k
theorem s1_put {N n : Nat} {p q : Int32} {f1 f2 : Nat → Int32} {Post : Int32 → (Int32 × (Nat → Int32) × (Nat → Int32)) → Prop} (hN : N ≤ 12) (hn : n < N) (k : Post (nI (n + 1)) (nI (n + 1), upd f1 n p, upd f2 n q)) : p_X1_add F p q (nI N) (nI n) f1 f2 Post := by
  unfold p_X1_add
  refine br_f (nI_ge hn (by omega)) (br_t (nI_lt (b := 12) (by omega) (by omega)) ⟨pk_in n 12 (by omega), pk_in n 12 (by omega), ?_⟩)
  rw [nI_clamp (n := n) (by omega), nI_1]
  exact k
theorem ob_felt (p1 p2 : Int32) (h : Rel F x m) : p7_felt F p1 p2 x (fun r x' => p8_felt F p1 p2 m (fun r' m' => r = r' ∧ Rel F x' m')) := by
  obtain ⟨nA, nC, R, w, ok, hV, hM, eA, eC, hT, hW, hU, hN, hE, hH, hK⟩ := h
  have hE' := hE
  obtain ⟨eo, k, hk, e1, e2, hf⟩ := hE
  have hA := ok.1
  unfold p7_felt p_X7_felt p8_felt p_X8_felt
  rw [hV.1, eA]
  rcases arg3 p1 (n := nA) (by omega) with h | ⟨a, ha, rfl⟩
  · refine s6_noArch h (br_t rfl (s8_noArch h (by omega) (br_t rfl ⟨rfl, nA, nC, R, w, ok, ⟨rfl, hV.2⟩, hM, rfl, eC, hT, hW, hU, hN, hE', hH, hK⟩)))
  refine s6_hasArch hA ha (br_f (by decide) ?_)
  rcases arg3 p2 (n := 72 + 1) (by omega) with h | ⟨j, hj, rfl⟩
  · refine rg_no (n := 72) h (by omega) ?_ ?_ <;> exact s8_isArch ha (by omega) (br_f (by decide) (s8_rgno (n := 72) h (by omega) (br_t rfl ⟨rfl, nA, nC, R, w, ok, ⟨rfl, hV.2⟩, hM, rfl, eC, hT, hW, hU, hN, hE', hH, hK⟩)))
  refine rg_yes (n := 72) hj (by omega) ?_
  rw [e1, e2, eo]
  rcases Nat.lt_or_ge k 10 with q | q
  · refine s1_put (by omega) q (s8_isArch ha (by omega) (br_f (by decide) (s8_rgyes (n := 72) hj (by omega) (br_f (by decide) ⟨fun _ => ⟨pk_in k 10 q, pk_in k 10 q, ?_⟩, fun z => absurd z (fun z => by have := (nI_eq (b := 10) (by omega) (by omega)).1 z; omega)⟩))))
    rw [nI_clamp (n := k) (by omega), nI_1]
    refine ⟨rfl, nA, nC, R, w, ok, ⟨rfl, hV.2⟩, hM, rfl, eC, hT, hW, hU, hN, ⟨rfl, k + 1, by omega, rfl, rfl, fun i hi => ?_⟩, hH, hK⟩
    show upd _ k _ i = upd _ k _ i ∧ upd _ k _ i = upd _ k _ i ∧ ∃ a, a < nA ∧ upd _ k _ i = nI a
    rw [upd_i, upd_i, upd_i, upd_i]
    by_cases e : i = k
    · rw [if_pos e, if_pos e, if_pos e, if_pos e]; exact ⟨rfl, rfl, a, ha, rfl⟩
    · rw [if_neg e, if_neg e, if_neg e, if_neg e]; exact hf i (by omega)
  · have : k = 10 := by omega
    subst this
    exact s1_full (by omega) (s8_isArch ha (by omega) (br_f (by decide) (s8_rgyes (n := 72) hj (by omega) (br_f (by decide) ⟨fun z => absurd rfl z, fun _ => ⟨rfl, nA, nC, R, w, ok, ⟨rfl, hV.2⟩, hM, rfl, eC, hT, hW, hU, hN, ⟨rfl, 10, by omega, rfl, rfl, hf⟩, hH, hK⟩⟩))))
def hiH (a : Nat) : Nat := if a = 2 then 5 else if a = 4 then 1 else 9
theorem s7_high {a : Nat} {Post : Int32 → Prop} (ha : a < 5) (k : Post (nI (hiH a))) : p_X7_highestHeard F (nI a) Post := by
  unfold p_X7_highestHeard
  rcases co_dec (N := 5) (P := fun i => i = 0 ∨ i = 1 ∨ i = 2 ∨ i = 3 ∨ i = 4) (by decide) ha with rfl | rfl | rfl | rfl | rfl
  · exact br_t rfl k
  · exact br_f (by decide) (br_t rfl k)
  · exact br_f (by decide) (br_f (by decide) (br_t rfl k))
  · exact br_f (by decide) (br_f (by decide) (br_f (by decide) (br_t rfl k)))
  · exact br_f (by decide) (br_f (by decide) (br_f (by decide) (br_f (by decide) (br_t rfl k))))
theorem ne_lit {p : Int32} {n c : Nat} (h : p < 0 ∨ nI n ≤ p) (hc : c < n) (hn : n < 1000) : ¬ p = nI c := by
  rintro rfl
  rcases h with h | h
  · exact nI_pos (by omega) h
  · exact nI_ge hc (by omega) h
theorem s7_highNo {p : Int32} {Post : Int32 → Prop} (h : p < 0 ∨ nI 5 ≤ p) (k : Post (-1)) : p_X7_highestHeard F p Post := by
  unfold p_X7_highestHeard
  exact br_f (ne_lit (c := 0) h (by omega) (by omega)) (br_f (ne_lit (c := 1) h (by omega) (by omega)) (br_f (ne_lit (c := 2) h (by omega) (by omega)) (br_f (ne_lit (c := 3) h (by omega) (by omega)) (br_f (ne_lit (c := 4) h (by omega) (by omega)) k))))
theorem t8_heard {p1 p2 : Int32} {hm : Int32} {f1 f2 : Nat → Int32} {Post : Int32 → (Int32 × Int32 × (Nat → Int32) × (Nat → Int32)) → Prop} (a : Nat) (ha : a < 5) (e : p1 = nI a) (k : p_X8_heard_25 F p1 p2 hm f1 f2 Post (nI (hiH a))) : p_X8_heard F p1 p2 hm f1 f2 Post := by
  subst e
  unfold p_X8_heard
  rcases co_dec (N := 5) (P := fun i => i = 0 ∨ i = 1 ∨ i = 2 ∨ i = 3 ∨ i = 4) (by decide) ha with rfl | rfl | rfl | rfl | rfl
  · exact ⟨fun _ => ⟨fun _ => k, fun z => absurd z (by decide)⟩, fun z => absurd z (by decide)⟩
  · exact ⟨fun _ => ⟨fun _ => k, fun z => absurd z (by decide)⟩, fun z => absurd z (by decide)⟩
  · exact ⟨fun z => absurd rfl z, fun _ => k⟩
  · exact ⟨fun _ => ⟨fun _ => k, fun z => absurd z (by decide)⟩, fun z => absurd z (by decide)⟩
  · exact ⟨fun _ => ⟨fun z => absurd rfl z, fun _ => k⟩, fun z => absurd z (by decide)⟩
theorem hiH_lt (a : Nat) : hiH a < 1000 := by unfold hiH; split <;> (try split) <;> omega
theorem ob_heard (p1 p2 : Int32) (h : Rel F x m) : p7_heard F p1 p2 x (fun r x' => p8_heard F p1 p2 m (fun r' m' => r = r' ∧ Rel F x' m')) := by
  obtain ⟨nA, nC, R, w, ok, hV, hM, eA, eC, hT, hW, hU, hN, hE, hH, hK⟩ := h
  have hH' := hH
  obtain ⟨eo, k, hk, e1, e2, hf⟩ := hH
  unfold p7_heard p_X7_heard p8_heard
  rcases arg3 p1 (n := 4 + 1) (by omega) with h | ⟨a, ha, e⟩
  · refine ⟨fun _ => ?_, fun h2 => s7_highNo h (br_f ?_ ?_)⟩
    · unfold p_X8_heard p_X8_heard_25
      refine ⟨fun _ => ⟨fun _ => ?_, fun _ => ?_⟩, fun _ => ?_⟩ <;> exact s8_rgno (n := 4) h (by omega) (br_t rfl ⟨rfl, nA, nC, R, w, ok, hV, hM, eA, eC, hT, hW, hU, hN, hE, hH', hK⟩)
    · intro h3
      rw [Int32.le_iff_toInt_le] at h3
      rw [Int32.lt_iff_toInt_lt] at h2
      have : (-1 : Int32).toInt = -1 := by decide
      have h0 : (0 : Int32).toInt = 0 := by decide
      omega
    · unfold p_X8_heard p_X8_heard_25
      refine ⟨fun _ => ⟨fun _ => ?_, fun _ => ?_⟩, fun _ => ?_⟩ <;> exact s8_rgno (n := 4) h (by omega) (br_t rfl ⟨rfl, nA, nC, R, w, ok, hV, hM, eA, eC, hT, hW, hU, hN, hE, hH', hK⟩)
  subst e
  have hl := hiH_lt a
  rcases arg3 p2 (n := hiH a + 1) (by omega) with h | ⟨j, hj, e'⟩
  · refine ⟨fun _ => t8_heard a ha rfl ?_, fun h2 => s7_high ha (br_f (nle_of_lt (lt_of_le1 (h.resolve_left h2) (by omega))) (t8_heard a ha rfl ?_))⟩
    · unfold p_X8_heard_25
      exact s8_rgyes (n := 4) ha (by omega) (br_f (by decide) (s8_rgno h (by omega) (br_t rfl ⟨rfl, nA, nC, R, w, ok, hV, hM, eA, eC, hT, hW, hU, hN, hE, hH', hK⟩)))
    · unfold p_X8_heard_25
      exact s8_rgyes (n := 4) ha (by omega) (br_f (by decide) (s8_rgno h (by omega) (br_t rfl ⟨rfl, nA, nC, R, w, ok, hV, hM, eA, eC, hT, hW, hU, hN, hE, hH', hK⟩)))
  subst e'
  refine br_f (nI_pos (by omega)) (s7_high ha (br_t (nI_le (by omega) (by omega)) ?_))
  rw [e1, e2, eo]
  rcases Nat.lt_or_ge k 12 with q | q
  · refine s1_put (by omega) q (t8_heard a ha rfl ?_)
    unfold p_X8_heard_25
    refine s8_rgyes (n := 4) ha (by omega) (br_f (by decide) (s8_rgyes hj (by omega) (br_f (by decide) ⟨fun _ => ⟨pk_in k 12 q, pk_in k 12 q, ?_⟩, fun z => absurd z (fun z => by have := (nI_eq (b := 12) (by omega) (by omega)).1 z; omega)⟩)))
    rw [nI_clamp (n := k) (by omega), nI_1]
    refine ⟨rfl, nA, nC, R, w, ok, hV, hM, eA, eC, hT, hW, hU, hN, hE, ⟨rfl, k + 1, by omega, rfl, rfl, fun i hi => ?_⟩, hK⟩
    show upd _ k _ i = upd _ k _ i ∧ upd _ k _ i = upd _ k _ i ∧ ∃ a, a ≤ 4 ∧ upd _ k _ i = nI a
    rw [upd_i, upd_i, upd_i, upd_i]
    by_cases e : i = k
    · rw [if_pos e, if_pos e, if_pos e, if_pos e]; exact ⟨rfl, rfl, a, by omega, rfl⟩
    · rw [if_neg e, if_neg e, if_neg e, if_neg e]; exact hf i (by omega)
  · have : k = 12 := by omega
    subst this
    refine s1_full (by omega) (t8_heard a ha rfl ?_)
    unfold p_X8_heard_25
    exact s8_rgyes (n := 4) ha (by omega) (br_f (by decide) (s8_rgyes hj (by omega) (br_f (by decide) ⟨fun z => absurd rfl z, fun _ => ⟨rfl, nA, nC, R, w, ok, hV, hM, eA, eC, hT, hW, hU, hN, hE, ⟨rfl, 12, by omega, rfl, rfl, hf⟩, hK⟩⟩)))
theorem ob_row (fo : Nat → Int64) (p1 : Int32) (h : Rel F x m) : p7_row F p1 x fo (fun r x' fo' => p8_row F p1 m (fun r' m' => p8_thrown F m' (fun t m'' => t = r ∧ (r = 0 → fo' (0 : Int32).toNatClampNeg = r') ∧ Rel F x' m''))) := by
  obtain ⟨nA, nC, R, w, ok, hV, hM, eA, eC, hT, hW, hU, hN, hE, hH, hK⟩ := h
  have hW' := hW
  obtain ⟨l, hl, ⟨e1, h1⟩, ⟨e2, h2⟩⟩ := hW
  unfold p7_row p_L_row p_X7_row p8_row p_X8_row
  rw [e1, e2]
  rcases arg3 p1 (n := l.length) (by omega) with h | ⟨j, hj, rfl⟩
  · refine ⟨fun _ => ?_, fun z => br_t (h.resolve_left z) ?_⟩ <;> exact s8_nin (gt_nI h (by omega)) (br_t rfl ⟨rfl, fun z => absurd z (by decide), nA, nC, R, w, ok, hV, hM, eA, eC, hT, ⟨l, hl, ⟨e1, h1⟩, ⟨rfl, h2⟩⟩, hU, hN, hE, hH, hK⟩)
  · obtain ⟨z, hz⟩ : ∃ z, l.length = z + 1 := ⟨l.length - 1, by omega⟩
    refine br_f (nI_pos (by omega)) (br_f (nI_ge hj (by omega)) (br_t (nI_lt (b := 8) (by omega) (by omega)) ⟨pk_in j 8 (by omega), ?_⟩))
    rw [hz, nI_pred]
    refine s8_in (lo := 0) (by omega) (by omega) (by omega) (br_f (by decide) ⟨pk_in j 16 (by omega), rfl, fun _ => ?_, nA, nC, R, w, ok, hV, hM, eA, eC, hT, ⟨l, hl, ⟨e1, h1⟩, ⟨by rw [hz]; rfl, h2⟩⟩, hU, hN, hE, hH, hK⟩)
    rw [nI_clamp (n := j) (by omega)]
    show x.f_told_numbers j = m.f_row j
    rw [h1 j hj, h2 j hj]
theorem ob_count (hF : 5000 ≤ F) (p1 : Int32) (h : Rel F x m) : p7_count F p1 x (fun r x' => p8_count F p1 am m (fun r' m' => r = r' ∧ Rel F x' m')) := by
  obtain ⟨nA, nC, R, w, ok, hV, hM, eA, eC, hT, hW, hU, hN, hE, hH, hK⟩ := h
  have hV' := hV
  obtain ⟨a1, a2, a3, a4, a5, _⟩ := hV'
  obtain ⟨t, b, ht, t1, t2, hb⟩ := id hT
  obtain ⟨l, hl, ⟨l1, _⟩, ⟨l2, _⟩⟩ := id hW
  obtain ⟨k3, nx, ws, _, _, _, ⟨_, n2, _⟩, ⟨n3, _⟩⟩ := id hN
  obtain ⟨_, k1, _, f1, f2, _⟩ := id hE
  obtain ⟨_, k2, _, g1, g2, _⟩ := id hH
  obtain ⟨hRX, rs, ers, hRM⟩ := id hU
  have hA := ok.1
  have hC := ok.2.1
  unfold p7_count p_X7_count p8_count p_X8_count
  rw [eA, eC, ers]
  by_cases c0 : p1 = 0
  · exact br_t c0 (br_t c0 ⟨a1, nA, nC, R, w, ok, hV, hM, rfl, rfl, hT, hW, ⟨hRX, rs, rfl, hRM⟩, hN, hE, hH, hK⟩)
  refine br_f c0 ?_
  by_cases c1 : p1 = 1
  · exact br_t c1 (br_f c0 (br_t c1 ⟨a2, nA, nC, R, w, ok, hV, hM, rfl, rfl, hT, hW, ⟨hRX, rs, rfl, hRM⟩, hN, hE, hH, hK⟩))
  refine br_f c1 ?_
  by_cases c2 : p1 = 2
  · exact br_t c2 (br_f c0 (br_f c1 (br_t c2 ⟨pk_in 45 47 (by omega), a4.trans (hM 45 (by omega)).symm, nA, nC, R, w, ok, hV, hM, rfl, rfl, hT, hW, ⟨hRX, rs, rfl, hRM⟩, hN, hE, hH, hK⟩)))
  refine br_f c2 ?_
  by_cases c3 : p1 = 3
  · exact br_t c3 (br_f c0 (br_f c1 (br_f c2 (br_t c3 ⟨pk_in 44 47 (by omega), a3.trans (hM 44 (by omega)).symm, nA, nC, R, w, ok, hV, hM, rfl, rfl, hT, hW, ⟨hRX, rs, rfl, hRM⟩, hN, hE, hH, hK⟩))))
  refine br_f c3 ?_
  by_cases c4 : p1 = 4
  · exact br_t c4 (br_f c0 (br_f c1 (br_f c2 (br_f c3 (br_t c4 ⟨pk_in 46 47 (by omega), a5.trans (hM 46 (by omega)).symm, nA, nC, R, w, ok, hV, hM, rfl, rfl, hT, hW, ⟨hRX, rs, rfl, hRM⟩, hN, hE, hH, hK⟩)))))
  refine br_f c4 ?_
  by_cases c5 : p1 = 5
  · exact br_t c5 (s6_allSags hF hV hA (br_f c0 (br_f c1 (br_f c2 (br_f c3 (br_f c4 (br_t c5 (s8_sags hF hM hA ⟨rfl, nA, nC, R, w, ok, hV, hM, rfl, rfl, hT, hW, ⟨hRX, rs, rfl, hRM⟩, hN, hE, hH, hK⟩))))))))
  refine br_f c5 ?_
  by_cases c6 : p1 = 6
  · exact br_t c6 (s6_allLoads hF hV hA (br_f c0 (br_f c1 (br_f c2 (br_f c3 (br_f c4 (br_f c5 (br_t c6 (t8_loads hF hM hA ⟨rfl, nA, nC, R, w, ok, hV, hM, rfl, rfl, hT, hW, ⟨hRX, rs, rfl, hRM⟩, hN, hE, hH, hK⟩)))))))))
  refine br_f c6 ?_
  by_cases c7 : p1 = 7
  · exact br_t c7 (s6_allJoy hF hV hC (br_f c0 (br_f c1 (br_f c2 (br_f c3 (br_f c4 (br_f c5 (br_f c6 (br_t c7 (s8_joys hF hM hC ⟨rfl, nA, nC, R, w, ok, hV, hM, rfl, rfl, hT, hW, ⟨hRX, rs, rfl, hRM⟩, hN, hE, hH, hK⟩))))))))))
  refine br_f c7 ?_
  by_cases c8 : p1 = 8
  · exact br_t c8 (s6_allHold hF hRX hV hA hC (fun u => br_f c0 (br_f c1 (br_f c2 (br_f c3 (br_f c4 (br_f c5 (br_f c6 (br_f c7 (br_t c8 (s8_allHold hF hRM hM ok (fun v => ⟨rfl, nA, nC, R, w, ok, hV, hM, rfl, rfl, hT, hW, ⟨hRX, rs, rfl, hRM⟩, hN, hE, hH, hK⟩))))))))))))
  refine br_f c8 ?_
  by_cases c9 : p1 = 9
  · exact br_t c9 (br_f c0 (br_f c1 (br_f c2 (br_f c3 (br_f c4 (br_f c5 (br_f c6 (br_f c7 (br_f c8 (br_t c9 ⟨f1.trans f2.symm, nA, nC, R, w, ok, hV, hM, rfl, rfl, hT, hW, ⟨hRX, rs, rfl, hRM⟩, hN, hE, hH, hK⟩))))))))))
  refine br_f c9 ?_
  by_cases c10 : p1 = 10
  · exact br_t c10 (br_f c0 (br_f c1 (br_f c2 (br_f c3 (br_f c4 (br_f c5 (br_f c6 (br_f c7 (br_f c8 (br_f c9 (br_t c10 ⟨g1.trans g2.symm, nA, nC, R, w, ok, hV, hM, rfl, rfl, hT, hW, ⟨hRX, rs, rfl, hRM⟩, hN, hE, hH, hK⟩)))))))))))
  refine br_f c10 ?_
  by_cases c11 : p1 = 11
  · exact br_t c11 (br_f c0 (br_f c1 (br_f c2 (br_f c3 (br_f c4 (br_f c5 (br_f c6 (br_f c7 (br_f c8 (br_f c9 (br_f c10 (br_t c11 ⟨n2.trans n3.symm, nA, nC, R, w, ok, hV, hM, rfl, rfl, hT, hW, ⟨hRX, rs, rfl, hRM⟩, hN, hE, hH, hK⟩))))))))))))
  refine br_f c11 ?_
  by_cases c12 : p1 = 12
  · exact br_t c12 (br_f c0 (br_f c1 (br_f c2 (br_f c3 (br_f c4 (br_f c5 (br_f c6 (br_f c7 (br_f c8 (br_f c9 (br_f c10 (br_f c11 (br_t c12 ⟨l1.trans l2.symm, nA, nC, R, w, ok, hV, hM, rfl, rfl, hT, hW, ⟨hRX, rs, rfl, hRM⟩, hN, hE, hH, hK⟩)))))))))))))
  refine br_f c12 ?_
  by_cases c13 : p1 = 13
  · exact br_t c13 (br_f c0 (br_f c1 (br_f c2 (br_f c3 (br_f c4 (br_f c5 (br_f c6 (br_f c7 (br_f c8 (br_f c9 (br_f c10 (br_f c11 (br_f c12 (br_t c13 ⟨t1.trans t2.symm, nA, nC, R, w, ok, hV, hM, rfl, rfl, hT, hW, ⟨hRX, rs, rfl, hRM⟩, hN, hE, hH, hK⟩))))))))))))))
  refine br_f c13 ?_
  exact br_f c0 (br_f c1 (br_f c2 (br_f c3 (br_f c4 (br_f c5 (br_f c6 (br_f c7 (br_f c8 (br_f c9 (br_f c10 (br_f c11 (br_f c12 (br_f c13 ⟨rfl, nA, nC, R, w, ok, hV, hM, rfl, rfl, hT, hW, ⟨hRX, rs, rfl, hRM⟩, hN, hE, hH, hK⟩)))))))))))))
end
