/-! ===== call: night ===== -/
theorem niR_f {t : Nat} {b : Nat → Nat} (ht : t ≤ 80) : ∀ {n k P}, niR t b n k = (false, P) → P < 100
  | 0, k, P, h => by
    rw [niR] at h
    have : 0 = P := congrArg Prod.snd h
    omega
  | n + 1, k, P, h => by
    rw [niR] at h
    split at h
    · exact absurd (congrArg Prod.fst h) (by simp)
    split at h
    · have : pA b k = P := congrArg Prod.snd h
      omega
    split at h
    · have : pA b k + 1 = P := congrArg Prod.snd h
      omega
    split at h
    · exact niR_f ht h
    split at h
    · have : pA b k + 2 = P := congrArg Prod.snd h
      omega
    · exact niR_f ht h
theorem niR_K {t : Nat} {b : Nat → Nat} (ht : t ≤ 80) : ∀ {n k K}, niR t b n k = (true, K) → K ≤ n + k
  | 0, k, K, h => by rw [niR] at h; exact absurd (congrArg Prod.fst h) (by simp)
  | n + 1, k, K, h => by
    rw [niR] at h
    split at h
    · have : k = K := congrArg Prod.snd h
      omega
    split at h
    · exact absurd (congrArg Prod.fst h) (by simp)
    split at h
    · exact absurd (congrArg Prod.fst h) (by simp)
    split at h
    · have := niR_K ht h; omega
    split at h
    · exact absurd (congrArg Prod.fst h) (by simp)
    · have := niR_K ht h; omega
section
variable {F : Nat} {x : XS} {m : MS} {am : MA}
theorem ob_night (hF : 5000 ≤ F) (h : Rel F x m) : p7_night F x (fun r x' => p8_night F am m (fun r' m' => r = r' ∧ Rel F x' m')) := by
  obtain ⟨nA, nC, R, w, ok, hV, hM, eA, eC, hT, hW, hU, hN, hE, hH, hK⟩ := h
  have hA := ok.1
  have hC := ok.2.1
  obtain ⟨t, b, hTc, hTm, eT⟩ := TXr_split hT
  obtain ⟨hRX, rs, ers, hRM⟩ := id hU
  obtain ⟨kU, nx, ws, hk, hx, hok, hUx, hUm⟩ := id hN
  have h80 := hTc.1
  unfold p7_night p_X7_night p_X5_faultInNight
  refine s5_night hTc 41 0 F 0 (by omega) (Nat.zero_le _) (Nat.zero_le _) (by omega) ?_
  cases hr : niR t b 41 0 with
  | mk o P =>
    cases o with
    | true =>
      obtain ⟨r1, r2, r3⟩ := niR_t hr
      have hP := niR_K h80 hr
      have hEl : nE R nA nC w b P 0 ≤ P := nE_le
      refine ⟨fun _ => s6_become hV (fun l2 s2 j2 b2 g2 q2 hVb => ?_), fun z => absurd rfl z⟩
      refine s7_nightL (R := R) (w := w) (K := P) hF hRX hTc (fun i hi => r3 i (by omega) hi) r2 ?_ P 0 F _ _ _ _ _ _ _ _ _ _ _ (by omega) (by omega) rfl (fun i hi => ?_) hV
      · intro fl st hh dd ld sg jy bw gr pl tp sk efl okE hVE
        have md : ∀ Q : Int32 → MS → Prop, (∀ um2 undos2 s6 f6 f2 (mm : MS), RLw ([] ++ [fl.toInt64] ++ [(sagS nA (nw R nA nC w b (nE R nA nC w b P 0))).toInt64]) s6 f6 → MV (nw R nA nC w b (nE R nA nC w b P 0)) f2 → ((nE R nA nC w b P 0 = 0 ∧ um2 = m.x_undoMany ∧ undos2 = m.f_undos) ∨ (¬ nE R nA nC w b P 0 = 0 ∧ UNm (if kU < 12 then kU + 1 else 12) (pushW w ws) um2 undos2)) → mm.x_arches = nI nA → mm.x_cats = nI nC → mm.x_typed = 0 → mm.f_text = m.f_text → mm.x_rowMany = s6 → mm.f_row = f6 → mm.x_ruleSize = nI rs → mm.f_rule = m.f_rule → mm.x_undoMany = um2 → mm.f_undos = undos2 → mm.f_now = f2 → mm.x_feltMany = m.x_feltMany → mm.f_feltOf = m.f_feltOf → mm.f_feltBy = m.f_feltBy → mm.x_heardMany = m.x_heardMany → mm.f_heardOf = m.f_heardOf → mm.f_heardBy = m.f_heardBy → mm.f_kept = m.f_kept → mm.f_isKept = m.f_isKept → mm.f_keptCame = m.f_keptCame → mm.x_came = m.x_came → Q (nI (nE R nA nC w b P 0)) mm) → p8_night F am m Q := by
          intro Q kQ
          unfold p8_night p_X8_night p_X8_beginText p_X8_begin
          rw [eA, eC, eT, ers]
          refine s8_nightR hTm 41 0 F m.f_acts (by omega) (Nat.zero_le _) (Nat.zero_le _) (Nat.zero_le _) (by omega) (fun i hi => absurd hi (by omega)) (fun K acts' e hac => ?_) (fun P2 _ _ _ e => absurd (congrArg Prod.fst (hr.symm.trans e)) (by simp))
          have eK : P = K := congrArg Prod.snd (hr.symm.trans e)
          subst eK
          unfold p_X8_night_44
          have pb : pA b P ≤ 82 := by
            cases P with
            | zero => rw [pA]; omega
            | succ k =>
              obtain ⟨_, g1, _, _⟩ := r3 k (by omega) (by omega)
              have := dA_12 (b (pA b k))
              rw [pA]
              omega
          refine s8_right (by omega) r2 (by omega) ⟨fun _ => s8_lay0 hF hM (fun u67 hM67 => ?_), fun z => absurd z (by decide)⟩
          refine s8_nightL (R := R) (w := w) (b := b) (t := t) (text := m.f_text) hF hRM hTm (by omega) (fun i hi => r3 i (by omega) hi) hac okE ?_ P 0 F _ _ _ _ _ _ _ _ _ _ (by omega) (by omega) rfl hM
          intro u1 u2 u3 u4 u5 u6 u7 f2 as hd hM2
          unfold p_X8_night_118
          have fin : ∀ um2 undos2, ((nE R nA nC w b P 0 = 0 ∧ um2 = m.x_undoMany ∧ undos2 = m.f_undos) ∨ (¬ nE R nA nC w b P 0 = 0 ∧ UNm (if kU < 12 then kU + 1 else 12) (pushW w ws) um2 undos2)) → p_X8_night_130 F (nI nA) m.f_row (0, nI t, nI 60, 0, -1) u67 u1 u2 u3 u4 u5 u6 u7 f2 as hd (nI P) acts' (nI (nE R nA nC w b P 0)) (fun r u => Q r (MS.mk (nI nA) (nI nC) (u.1) (u.2.1) (u.2.2.1) (u.2.2.2.1) (u.2.2.2.2.1) (u.2.2.2.2.2.1) (u.2.2.2.2.2.2.1) (u.2.2.2.2.2.2.2.1) (nI rs) (u.2.2.2.2.2.2.2.2.1) (u.2.2.2.2.2.2.2.2.2.1) (u.2.2.2.2.2.2.2.2.2.2.1) m.x_trolleyEnd m.x_feltMany m.x_heardMany m.x_drawn m.x_came (u.2.2.2.2.2.2.2.2.2.2.2.2.1) m.f_text (u.2.2.2.2.2.2.2.2.2.2.2.2.2.2.2.2.2) m.f_told m.f_rule m.f_otherRule (u.2.2.2.2.2.2.2.2.2.2.2.2.2.2.1) (u.2.2.2.2.2.2.2.2.2.2.2.2.2.2.2.2.1) (u.2.2.2.2.2.2.2.2.2.2.2.2.2.1) m.f_then (u.2.2.2.2.2.2.2.2.2.2.2.2.2.2.2.1) (u.2.2.2.2.2.2.2.2.2.2.2.1) m.f_guarded m.f_train m.f_feltOf m.f_feltBy m.f_many m.f_heardOf m.f_heardBy m.f_worth m.f_kept m.f_isKept m.f_keptCame)) um2 undos2 := by
            intro um2 undos2 hu
            unfold p_X8_night_130 p_X8_night_146
            have tl : ∀ v : Int64, v = fl.toInt64 → p_X8_tell F v 0 m.f_row (fun u_146 => (p_X8_sags F (nI nA) 47 f2 (fun r_155 => (p_X8_tell F (r_155.toInt64) u_146.1 u_146.2 (fun u_159 => Q (nI (nE R nA nC w b P 0)) (MS.mk (nI nA) (nI nC) 0 u_159.1 0 u1 u2 u3 u4 u5 (nI rs) u6 um2 u7 m.x_trolleyEnd m.x_feltMany m.x_heardMany m.x_drawn m.x_came f2 m.f_text u_159.2 m.f_told m.f_rule m.f_otherRule as undos2 u67 m.f_then hd acts' m.f_guarded m.f_train m.f_feltOf m.f_feltBy m.f_many m.f_heardOf m.f_heardBy m.f_worth m.f_kept m.f_isKept m.f_keptCame)))))) := by
              intro v ev
              subst ev
              exact s8_tell (RL_nil _) (by decide) (fun s5 f5 h5 => s8_sags hF hM2 hA (s8_tell h5 (by show 1 < 16; omega) (fun s6 f6 h6 => kQ um2 undos2 s6 f6 f2 _ h6 hM2 hu rfl rfl rfl rfl rfl rfl rfl rfl rfl rfl rfl rfl rfl rfl rfl rfl rfl rfl rfl rfl rfl)))
            refine ⟨fun z => tl 0 ?_, fun z => tl 1 ?_⟩
            · have := (nI_leI (by omega) (by omega)).1 z
              rw [efl, if_neg (by omega)]
              rfl
            · have : ¬ P ≤ nE R nA nC w b P 0 := fun y => z (nI_le y (by omega))
              rw [efl, if_pos (by omega)]
              rfl
          refine ⟨fun z => fin _ _ (Or.inl ⟨?_, rfl, rfl⟩), fun z => s8_remember hF hk hUm hM67 (fun m2 u2 hUm2 => fin _ _ (Or.inr ⟨fun y => z (by rw [y]; decide), hUm2⟩))⟩
          have := (nI_leI (b := 0) (by omega) (by omega)).1 z
          omega
        unfold p_X7_night_127 p_X7_night_150
        have cl : ∀ (n5 s5' : Int32) (r5 : Nat → Option PSl) (hu : ∀ um2 undos2, ((nE R nA nC w b P 0 = 0 ∧ um2 = m.x_undoMany ∧ undos2 = m.f_undos) ∨ (¬ nE R nA nC w b P 0 = 0 ∧ UNm (if kU < 12 then kU + 1 else 12) (pushW w ws) um2 undos2)) → UNr nA nC n5 s5' r5 um2 undos2) (s5 : Int32) (f5 : Nat → Int64) (xx : XS), RLw ([] ++ [fl.toInt64] ++ [(sagS nA (nw R nA nC w b (nE R nA nC w b P 0))).toInt64]) s5 f5 → xx.x_told_size = s5 → xx.f_told_numbers = f5 → xx.x_text_length = 0 → AV nA nC (nw R nA nC w b (nE R nA nC w b P 0)) xx.x_now_arches xx.x_now_cats xx.x_now_store xx.x_now_hour xx.x_now_drops xx.f_now_load xx.f_now_sag xx.f_now_joy xx.f_now_bowl xx.f_now_grief xx.f_now_place → xx.x_past_next = n5 → xx.x_past_size = s5' → xx.f_past_ring = r5 → xx.x_ruling_size = x.x_ruling_size → xx.f_ruling_steps = x.f_ruling_steps → xx.f_kept = x.f_kept → xx.x_feltNotes_most = x.x_feltNotes_most → xx.x_feltNotes_size = x.x_feltNotes_size → xx.f_feltNotes_first = x.f_feltNotes_first → xx.f_feltNotes_second = x.f_feltNotes_second → xx.x_heardNotes_most = x.x_heardNotes_most → xx.x_heardNotes_size = x.x_heardNotes_size → xx.f_heardNotes_first = x.f_heardNotes_first → xx.f_heardNotes_second = x.f_heardNotes_second → p8_night F am m (fun r' m' => nI (nE R nA nC w b P 0) = r' ∧ Rel F xx m') := by
          intro n5 s5' r5 hu s5 f5 xx h5 y1 y2 y3 y4 y5 y6 y7 y8 y9 y10 y17 y11 y12 y13 y18 y14 y15 y16
          refine md _ (fun um2 undos2 s6 f6 f2 mm h6 hM2 hun z1 z2 z3 z4 z5 z6 z7 z8 z9 z10 z11 z12 z13 z14 z15 z16 z17 z18 z19 z20 z21 => ?_)
          refine ⟨rfl, nA, nC, R, nw R nA nC w b (nE R nA nC w b P 0), okE _ (Nat.le_refl _), y4, ?_, z1, z2, ?_, ?_, ?_, ?_, ?_, ?_, ?_⟩
          · rw [z11]; exact hM2
          · rw [y3, z3]; exact TXr_0
          · rw [y1, y2, z5, z6]; exact RWr_of (by show 2 ≤ 8; omega) h5 h6
          · rw [y8, y9, z7, z8]; exact ⟨hRX, rs, rfl, hRM⟩
          · rw [y5, y6, y7, z9, z10]; exact hu _ _ hun
          · rw [y17, y11, y12, y13, z12, z13, z14]; exact hE
          · rw [y18, y14, y15, y16, z15, z16, z17]; exact hH
          · rw [y10, z18, z19, z20, z21]; exact hK
        refine ⟨fun z => ?_, fun z => ?_⟩
        · have e0 : nE R nA nC w b P 0 = 0 := by
            have := (nI_leI (b := 0) (by omega) (by omega)).1 z
            omega
          refine s3_anew (s3_add (RL_nil _) (by decide) (fun s5 f5 h5 => s6_allSags hF hVE hA (s3_add h5 (by show 1 < 8; omega) (fun s6 f6 h6 => ?_))))
          refine cl _ _ _ (fun um2 undos2 hun => ?_) s6 f6 _ h6 rfl rfl rfl hVE rfl rfl rfl rfl rfl rfl rfl rfl rfl rfl rfl rfl rfl rfl
          rcases hun with ⟨_, rfl, rfl⟩ | ⟨hne, _⟩
          · exact hN
          · exact absurd e0 hne
        · have e0 : ¬ nE R nA nC w b P 0 = 0 := fun y => z (by rw [y]; decide)
          refine s2_add hk hx hUx hVb (fun n5 s5' r5 hUx2 => s3_anew (s3_add (RL_nil _) (by decide) (fun s5 f5 h5 => s6_allSags hF hVE hA (s3_add h5 (by show 1 < 8; omega) (fun s6 f6 h6 => ?_)))))
          refine cl _ _ _ (fun um2 undos2 hun => ?_) s6 f6 _ h6 rfl rfl rfl hVE rfl rfl rfl rfl rfl rfl rfl rfl rfl rfl rfl rfl rfl rfl
          rcases hun with ⟨hz, _⟩ | ⟨_, hUm2⟩
          · exact absurd hz e0
          · exact UNr_push hk hok ok hUx2 hUm2
      · have : i = 0 := by omega
        subst this
        exact ok
    | false =>
      have hP := niR_f h80 hr
      refine ⟨fun z => absurd z (m1_ne (by omega)), fun _ => ?_⟩
      unfold p8_night p_X8_night p_X8_beginText p_X8_begin
      rw [eA, eC, eT, ers]
      refine s8_nightR hTm 41 0 F m.f_acts (by omega) (Nat.zero_le _) (Nat.zero_le _) (Nat.zero_le _) (by omega) (fun i hi => absurd hi (by omega)) (fun K acts' e => absurd (congrArg Prod.fst (hr.symm.trans e)) (by simp)) (fun P2 y1 at0 acts' e hP2 => ?_)
      have eP : P = P2 := congrArg Prod.snd (hr.symm.trans e)
      subst eP
      unfold p_X8_night_44
      exact s8_rightW (m1_ne (by omega)) ⟨fun z => absurd rfl z, fun _ => ⟨rfl, nA, nC, R, w, ok, hV, hM, rfl, rfl, TXr_0, hW, ⟨hRX, rs, rfl, hRM⟩, hN, hE, hH, hK⟩⟩
end
