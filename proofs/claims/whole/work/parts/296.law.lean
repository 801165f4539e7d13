/-! ===== law ===== -/
def lwL (R : (Nat → Int32) → Int32) (nC : Nat) (w : Nat → Int32) (l : List Int64) : Nat → List Int64
  | 0 => l
  | n + 1 => lwL R nC w l n ++ [(hO R nC w n).toInt64]
theorem lwL_len (R : (Nat → Int32) → Int32) (nC : Nat) (w : Nat → Int32) (l : List Int64) : ∀ n, (lwL R nC w l n).length = l.length + n
  | 0 => rfl
  | n + 1 => by rw [lwL, List.length_append, lwL_len R nC w l n]; rfl
section
variable {F : Nat} {x : XS} {m : MS} {am : MA}
theorem ob_law (hF : 5000 ≤ F) (h : Rel F x m) : p7_law F x (fun r x' => p8_law F am m (fun r' m' => r = r' ∧ Rel F x' m')) := by
  obtain ⟨nA, nC, R, w, ok, hV, hM, eA, eC, hT, hW, hU, hN, hE, hH, hK⟩ := h
  have hA := ok.1
  have hC := ok.2.1
  obtain ⟨hRX, rs, ers, hRM⟩ := id hU
  obtain ⟨t, b, hTc, hTm, eT⟩ := TXr_split hT
  have ht := hTc.1
  unfold p7_law p_X7_law
  rcases spare_S hF hTc hTm with ⟨j, j8, c1, c2⟩ | ⟨t40, R2, c1, c2, c3⟩
  · refine c1 _ _ _ (fun u1 u2 u3 u4 u5 u6 u7 u8 => ⟨fun y => absurd y (m1_ne (by omega)), fun _ => ?_⟩)
    unfold p8_law p_X8_law
    rw [eT]
    refine c2 _ _ (fun u4 => ⟨fun y => absurd rfl y, fun _ => ?_⟩)
    exact ⟨rfl, nA, nC, R, w, ok, hV, hM, eA, eC, TXr_0, hW, hU, hN, hE, hH, hK⟩
  · refine c1 _ _ _ (fun u1 u2 u3 u4 u5 u6 u7 u8 hRX2 => ⟨fun _ => ?_, fun y => absurd rfl y⟩)
    refine s7_sagsIn (n := 10) hF (by omega) hRX hV ok (fun v => s6_become hV (fun l2 s2 j2 b2 g2 p2 hV2 => s6_passHours (n := 10) hF (by omega) hRX2 hV2 ok (fun hh dd t3 st3 s3 j3 g3 b3 hV3 => s6_allSags hF hV3 hA (s3_anew (s3_add (RL_nil _) (by decide) (fun sA fA hA1 => s3_add hA1 (by show 1 < 8; omega) (fun sB fB hB1 => ?_)))))))
    -- the model
    have md : ∀ Post : Int32 → _ → Prop, (∀ v2 s6 w1 w2 w3 w4 w5 w6 dr as th hd ot f6, RLw (lwL R2 nC w ([] ++ [(sagS nA (goHs R2 nA nC 10 w)).toInt64] ++ [(sagS nA (goHs R nA nC 10 w)).toInt64]) nA) s6 f6 → Post (sagS nA (goHs R2 nA nC 10 w) - sagS nA (goHs R nA nC 10 w)) (0, s6, v2, w1, w2, w3, w4, w5, w6, dr, as, th, hd, ot, f6)) → p_X8_law F (nI nA) (nI nC) am.q_text (nI t) m.x_rowMany am.q_rule am.q_otherRule (nI rs) m.x_dropped m.f_text m.f_asked m.f_now m.f_then m.f_rule m.f_hold m.f_otherRule m.f_row Post := by
      intro Post kk
      unfold p_X8_law
      refine c2 _ _ (fun v4 => ⟨fun _ => ?_, fun y => absurd y (by decide)⟩)
      refine s8_goThen (n := 10) hF (by omega) hRM hM ok (fun q1 q2 q3 q4 q5 q6 f2 as hd hM2 => s8_sags hF hM2 hA ?_)
      refine up_loop (fun n i (s : Nat → Int32) => p_X8_law_68 F (nI nA) (nI nC) (nI t) am.q_otherRule m.f_text m.f_now m.f_row (0, nI t, 40, v4, -1, 0) (q1, q2, q3, q4, q5, q6, nI (dctS R nA nC 10 w), f2, as, hd) (sagS nA (goHs R nA nC 10 w)) Post n i s) (fun j s => cpI t b j s) t ?_ ?_ F m.f_otherRule 0 (fun i hi => absurd hi (Nat.not_lt_zero _)) (by omega) (by omega)
      · intro n g hg
        show p_X8_law_68 F (nI nA) (nI nC) (nI t) am.q_otherRule m.f_text m.f_now m.f_row (0, nI t, 40, v4, -1, 0) (q1, q2, q3, q4, q5, q6, nI (dctS R nA nC 10 w), f2, as, hd) (sagS nA (goHs R nA nC 10 w)) Post (n + 1) (nI t) g
        have hRM2 := c3 g ⟨ht, fun i hi => ⟨(hTm.2 i hi).1, hg i hi⟩⟩
        rw [p_X8_law_68_s]
        refine br_t (nI_le (Nat.le_refl _) (by omega)) (s8_goThen (n := 10) hF (by omega) hRM2 hM ok (fun r1 r2 r3 r4 r5 r6 f3 as3 hd3 hM3 => s8_sags hF hM3 hA (s8_tell (RL_nil _) (by decide) (fun sC fC hC1 => s8_tell hC1 (by show 1 < 16; omega) (fun sD fD hD1 => ?_)))))
        refine up_loop (fun n i (s : Int32 × Value × Int32 × Int32 × Int32 × Int32 × Int32 × (Nat → Int32) × (Nat → Int64)) => p_X8_law_131 F (nI nA) (nI nC) (nI t) am.q_otherRule m.f_now (0, nI t, 40, v4, -1, 0) (sagS nA (goHs R nA nC 10 w)) (r1, r2, r3, r4, r5, r6, nI (dctS R2 nA nC 10 w), f3, as3, hd3) (sagS nA (goHs R2 nA nC 10 w)) g Post n i s.1 s.2.1 s.2.2.1 s.2.2.2.1 s.2.2.2.2.1 s.2.2.2.2.2.1 s.2.2.2.2.2.2.1 s.2.2.2.2.2.2.2.1 s.2.2.2.2.2.2.2.2) (fun j s => RLw (lwL R2 nC w ([] ++ [(sagS nA (goHs R2 nA nC 10 w)).toInt64] ++ [(sagS nA (goHs R nA nC 10 w)).toInt64]) j) s.1 s.2.2.2.2.2.2.2.2) nA ?_ ?_ F (sD, r1, r2, r3, r4, r5, r6, as3, fD) 0 hD1 (by omega) (by omega)
        · rintro n2 ⟨sE, e1, e2, e3, e4, e5, e6, e7, fE⟩ hE1
          show p_X8_law_131 F (nI nA) (nI nC) (nI t) am.q_otherRule m.f_now (0, nI t, 40, v4, -1, 0) (sagS nA (goHs R nA nC 10 w)) (r1, r2, r3, r4, r5, r6, nI (dctS R2 nA nC 10 w), f3, as3, hd3) (sagS nA (goHs R2 nA nC 10 w)) g Post (n2 + 1) (nI nA) sE e1 e2 e3 e4 e5 e6 e7 fE
          rw [p_X8_law_131_s]
          exact br_t (nI_le (Nat.le_refl _) (by omega)) (kk _ _ _ _ _ _ _ _ _ _ _ _ _ _ hE1)
        · rintro n2 a ⟨sE, e1, e2, e3, e4, e5, e6, e7, fE⟩ ha hE1 ih
          have hE1 : RLw (lwL R2 nC w ([] ++ [(sagS nA (goHs R2 nA nC 10 w)).toInt64] ++ [(sagS nA (goHs R nA nC 10 w)).toInt64]) a) sE fE := hE1
          show p_X8_law_131 F (nI nA) (nI nC) (nI t) am.q_otherRule m.f_now (0, nI t, 40, v4, -1, 0) (sagS nA (goHs R nA nC 10 w)) (r1, r2, r3, r4, r5, r6, nI (dctS R2 nA nC 10 w), f3, as3, hd3) (sagS nA (goHs R2 nA nC 10 w)) g Post (n2 + 1) (nI a) sE e1 e2 e3 e4 e5 e6 e7 fE
          rw [p_X8_law_131_s]
          have ln : ([] ++ [(sagS nA (goHs R2 nA nC 10 w)).toInt64] ++ [(sagS nA (goHs R nA nC 10 w)).toInt64] : List Int64).length = 2 := rfl
          refine br_f (nI_ge ha (by omega)) (s8_holdOf hF hRM2 hM ok (by omega) (fun u => s8_tell hE1 (by rw [lwL_len, ln]; omega) (fun sF fF hF1 => ?_)))
          exact ih (sF, u.1, u.2.1, u.2.2.1, u.2.2.2.1, u.2.2.2.2.1, u.2.2.2.2.2.1, u.2.2.2.2.2.2, fF) hF1
      · intro n j g hj hg ih
        show p_X8_law_68 F (nI nA) (nI nC) (nI t) am.q_otherRule m.f_text m.f_now m.f_row (0, nI t, 40, v4, -1, 0) (q1, q2, q3, q4, q5, q6, nI (dctS R nA nC 10 w), f2, as, hd) (sagS nA (goHs R nA nC 10 w)) Post (n + 1) (nI j) g
        rw [p_X8_law_68_s, nI_clamp (n := j) (by omega), (hTm.2 j hj).2]
        exact br_f (nI_ge hj (by omega)) ⟨pk_in j 80 (by omega), pk_in j 40 (by omega), ih _ (cp_put (hTm.2 j hj).1 hg)⟩
    have ln : ([] ++ [(sagS nA (goHs R2 nA nC 10 w)).toInt64] ++ [(sagS nA (goHs R nA nC 10 w)).toInt64] : List Int64).length = 2 := rfl
    refine up_loop (fun n i (s : Int32 × (Nat → Int32) × Int32 × (Nat → Int64)) => p_X7_law_77 F x.x_now_arches x.x_now_cats x.x_now_hour x.f_now_load x.f_now_sag x.f_now_joy x.f_now_bowl x.f_now_grief x.f_now_place (u1, u2, u3, u4, u5, u6, 0, u7, u8) (sagS nA (goHs R nA nC 10 w)) v (x.x_now_arches, x.x_now_cats, x.x_now_store, x.x_now_hour, x.x_now_drops, l2, s2, j2, b2, g2, p2) (hh, dd, t3, st3, s3, j3, g3, b3) (sagS nA (goHs R2 nA nC 10 w)) _ n i s.1 s.2.1 s.2.2.1 s.2.2.2) (fun j s => RLw (lwL R2 nC w ([] ++ [(sagS nA (goHs R2 nA nC 10 w)).toInt64] ++ [(sagS nA (goHs R nA nC 10 w)).toInt64]) j) s.2.2.1 s.2.2.2) nA ?_ ?_ F (t3, st3, sB, fB) 0 hB1 (by omega) (by omega)
    · rintro n ⟨t5, st5, s5, f5⟩ h5
      show p_X7_law_77 F x.x_now_arches x.x_now_cats x.x_now_hour x.f_now_load x.f_now_sag x.f_now_joy x.f_now_bowl x.f_now_grief x.f_now_place (u1, u2, u3, u4, u5, u6, 0, u7, u8) (sagS nA (goHs R nA nC 10 w)) v (x.x_now_arches, x.x_now_cats, x.x_now_store, x.x_now_hour, x.x_now_drops, l2, s2, j2, b2, g2, p2) (hh, dd, t3, st3, s3, j3, g3, b3) (sagS nA (goHs R2 nA nC 10 w)) _ (n + 1) (nI nA) t5 st5 s5 f5
      rw [p_X7_law_77_s]
      refine br_t (by rw [hV.1]; exact nI_le (Nat.le_refl _) (by omega)) ?_
      unfold p8_law
      rw [eA, eC, eT, ers]
      refine md _ (fun v2 s6 w1 w2 w3 w4 w5 w6 dr as th hd ot f6 h6 => ?_)
      exact ⟨rfl, nA, nC, R, w, ok, hV, hM, rfl, rfl, TXr_0, RWr_of (by rw [lwL_len, ln]; omega) h5 h6, ⟨hRX, rs, rfl, hRM⟩, hN, hE, hH, hK⟩
    · rintro n a ⟨t5, st5, s5, f5⟩ ha h5 ih
      have h5 : RLw (lwL R2 nC w ([] ++ [(sagS nA (goHs R2 nA nC 10 w)).toInt64] ++ [(sagS nA (goHs R nA nC 10 w)).toInt64]) a) s5 f5 := h5
      show p_X7_law_77 F x.x_now_arches x.x_now_cats x.x_now_hour x.f_now_load x.f_now_sag x.f_now_joy x.f_now_bowl x.f_now_grief x.f_now_place (u1, u2, u3, u4, u5, u6, 0, u7, u8) (sagS nA (goHs R nA nC 10 w)) v (x.x_now_arches, x.x_now_cats, x.x_now_store, x.x_now_hour, x.x_now_drops, l2, s2, j2, b2, g2, p2) (hh, dd, t3, st3, s3, j3, g3, b3) (sagS nA (goHs R2 nA nC 10 w)) _ (n + 1) (nI a) t5 st5 s5 f5
      rw [p_X7_law_77_s]
      refine br_f (by rw [hV.1]; exact nI_ge ha (by omega)) (s6_holdOf hF hRX2 hV hA hC ha (fun u => s3_add h5 (by rw [lwL_len, ln]; omega) (fun sF fF hF1 => ?_)))
      exact ih (u.1, u.2, sF, fF) hF1
end
