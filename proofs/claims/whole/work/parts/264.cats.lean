/-! ===== call: cats ===== -/
def caR (nA nC t : Nat) (b : Nat → Nat) : Nat → Nat → Bool × Nat
  | 0, _ => (false, 0)
  | n + 1, j => if nC + j = 8 then (false, 4 * j) else if ¬ (4 * j < t ∧ 48 ≤ b (4 * j) ∧ b (4 * j) ≤ 57) then (false, 4 * j) else if ¬ (4 * j + 1 < t ∧ 48 ≤ b (4 * j + 1) ∧ b (4 * j + 1) ≤ 57) then (false, 4 * j + 1) else if ¬ (4 * j + 2 < t ∧ 48 ≤ b (4 * j + 2) ∧ b (4 * j + 2) < 48 + nA) then (false, 4 * j + 2) else if 4 * j + 3 = t then (true, j + 1) else if 4 * j + 3 < 31 ∧ b (4 * j + 3) = 59 then caR nA nC t b n (j + 1) else (false, 4 * j + 3)
theorem caR_t {nA nC t : Nat} {b : Nat → Nat} : ∀ {n j L}, nC + j ≤ 8 → caR nA nC t b n j = (true, L) → j < L ∧ nC + L ≤ 8 ∧ t = 4 * L - 1 ∧ ∀ i, j ≤ i → i < L → isD (b (4 * i)) ∧ isD (b (4 * i + 1)) ∧ 48 ≤ b (4 * i + 2) ∧ b (4 * i + 2) < 48 + nA
  | 0, j, L, _, h => by rw [caR] at h; exact absurd (congrArg Prod.fst h) (by simp)
  | n + 1, j, L, hj, h => by
    rw [caR] at h
    by_cases q1 : nC + j = 8
    · rw [if_pos q1] at h; exact absurd (congrArg Prod.fst h) (by simp)
    rw [if_neg q1] at h
    by_cases q2 : 4 * j < t ∧ 48 ≤ b (4 * j) ∧ b (4 * j) ≤ 57
    · rw [if_neg (fun z => z q2)] at h
      by_cases q3 : 4 * j + 1 < t ∧ 48 ≤ b (4 * j + 1) ∧ b (4 * j + 1) ≤ 57
      · rw [if_neg (fun z => z q3)] at h
        by_cases q4 : 4 * j + 2 < t ∧ 48 ≤ b (4 * j + 2) ∧ b (4 * j + 2) < 48 + nA
        · rw [if_neg (fun z => z q4)] at h
          by_cases q5 : 4 * j + 3 = t
          · rw [if_pos q5] at h
            have : j + 1 = L := congrArg Prod.snd h
            refine ⟨by omega, by omega, by omega, fun i h1 h2 => ?_⟩
            have : i = j := by omega
            subst this
            exact ⟨q2.2, q3.2, q4.2⟩
          · rw [if_neg q5] at h
            by_cases q6 : 4 * j + 3 < 31 ∧ b (4 * j + 3) = 59
            · rw [if_pos q6] at h
              obtain ⟨r1, r2, r3, r4⟩ := caR_t (j := j + 1) (by omega) h
              refine ⟨by omega, r2, r3, fun i h1 h2 => ?_⟩
              by_cases e : i = j
              · subst e; exact ⟨q2.2, q3.2, q4.2⟩
              · exact r4 i (by omega) h2
            · rw [if_neg q6] at h; exact absurd (congrArg Prod.fst h) (by simp)
        · rw [if_pos q4] at h; exact absurd (congrArg Prod.fst h) (by simp)
      · rw [if_pos q3] at h; exact absurd (congrArg Prod.fst h) (by simp)
    · rw [if_pos q2] at h; exact absurd (congrArg Prod.fst h) (by simp)
theorem caR_f {nA nC t : Nat} {b : Nat → Nat} : ∀ {n j P}, n + j ≤ 8 → caR nA nC t b n j = (false, P) → P < 100
  | 0, j, P, _, h => by
    rw [caR] at h
    have : 0 = P := congrArg Prod.snd h
    omega
  | n + 1, j, P, hj, h => by
    rw [caR] at h
    split at h
    · have : 4 * j = P := congrArg Prod.snd h
      omega
    split at h
    · have : 4 * j = P := congrArg Prod.snd h
      omega
    split at h
    · have : 4 * j + 1 = P := congrArg Prod.snd h
      omega
    split at h
    · have : 4 * j + 2 = P := congrArg Prod.snd h
      omega
    split at h
    · exact absurd (congrArg Prod.fst h) (by simp)
    split at h
    · exact caR_f (j := j + 1) (by omega) h
    · have : 4 * j + 3 = P := congrArg Prod.snd h
      omega
section
variable {F nA nC t : Nat} {b : Nat → Nat} {len : Int32} {s : Nat → Int32}
theorem s5_linesC {Post : Int32 → Prop} (hT : TXc t b len s) (h0 : ¬ t = 0) (hA : nA ≤ 6) (hC : nC ≤ 8) : ∀ (n j G : Nat), n + j = 8 → 1 ≤ n → nC + j ≤ 8 → 4 * j ≤ t → 4 * n + 4 < G → Post (rI (caR nA nC t b n j)) → p_X5_faultInLines_18 F (nI 3) 8 (nI (8 - nC)) (nI nA) len s Post G (nI (4 * j)) (nI 0) (nI j)
  | 0, j, G, h1, h2, _, _, _, _ => absurd h2 (by omega)
  | n + 1, j, G, h1, _, h3, h4, hG, kk => by
    obtain ⟨G', rfl⟩ : ∃ G', G = G' + 1 + 1 + 1 + 1 := ⟨G - 4, by omega⟩
    have ht := hT.1
    rw [caR] at kk
    by_cases q0 : 4 * j = t
    · rw [q0]
      refine fl_end hT h0 (by omega) (by omega) (fun z => absurd z (by omega)) (fun _ => ?_)
      by_cases q1 : nC + j = 8
      · rw [if_pos q1, q0] at kk; exact kk
      · rw [if_neg q1, if_pos (by omega), q0] at kk; exact kk
    refine fl_D (k := 3) hT (by omega) (by omega) (by omega) (E := 31) rfl (by omega) (by omega) (by omega) (by omega) (fun y => ?_) (fun d _ _ y => ?_)
    · unfold isD at y
      by_cases q1 : nC + j = 8
      · rw [if_pos q1] at kk; exact kk
      · rw [if_neg q1, if_pos (by omega)] at kk; exact kk
    rw [if_neg (by omega), if_neg (fun z => z ⟨by omega, d⟩)] at kk
    rw [show nI (4 * j) + 1 = nI (4 * j + 1) from (nI_succ _).symm]
    show p_X5_faultInLines_18 F (nI 3) 8 (nI (8 - nC)) (nI nA) len s Post (G' + 1 + 1 + 1) (nI (4 * j + 1)) (nI 1) (nI j)
    by_cases q1 : 4 * j + 1 = t
    · rw [if_pos (by omega)] at kk
      rw [q1] at kk ⊢
      exact fl_end hT h0 (by omega) (by omega) (fun z => absurd z (by omega)) (fun _ => kk)
    refine fl_D (k := 3) hT (by omega) (by omega) (by omega) (E := 31) rfl (by omega) (by omega) (by omega) (by omega) (fun y => ?_) (fun d _ _ y => ?_)
    · unfold isD at y
      rw [if_pos (by omega)] at kk; exact kk
    rw [if_neg (fun z => z ⟨by omega, d⟩)] at kk
    rw [show nI (4 * j + 1) + 1 = nI (4 * j + 2) from (nI_succ _).symm]
    show p_X5_faultInLines_18 F (nI 3) 8 (nI (8 - nC)) (nI nA) len s Post (G' + 1 + 1) (nI (4 * j + 2)) (nI 2) (nI j)
    by_cases q2 : 4 * j + 2 = t
    · rw [if_pos (by omega)] at kk
      rw [q2] at kk ⊢
      exact fl_end hT h0 (by omega) (by omega) (fun z => absurd z (by omega)) (fun _ => kk)
    refine fl_D (k := 3) hT (by omega) (by omega) (by omega) (E := 31) rfl (by omega) (by omega) (by omega) (by omega) (fun y => ?_) (fun d d2 _ y => ?_)
    · unfold isD at y
      rw [if_pos (by omega)] at kk; exact kk
    have d3 := d2 rfl
    unfold isD at d
    rw [if_neg (by omega)] at kk
    rw [show nI (4 * j + 2) + 1 = nI (4 * j + 3) from (nI_succ _).symm]
    show p_X5_faultInLines_18 F (nI 3) 8 (nI (8 - nC)) (nI nA) len s Post (G' + 1) (nI (4 * j + 3)) (nI 3) (nI j)
    by_cases q3 : 4 * j + 3 = t
    · rw [if_pos q3] at kk
      rw [q3]
      exact fl_end hT h0 (by omega) (by omega) (fun _ => kk) (fun z => absurd rfl z)
    rw [if_neg q3] at kk
    refine fl_S hT (by omega) (by omega) (by omega) (E := 31) rfl (by omega) (by omega) (by omega) (fun z => ?_) (fun z1 z2 z3 => ?_)
    · rw [if_neg (by omega)] at kk; exact kk
    · rw [if_pos (by omega)] at kk
      rw [show nI (4 * j + 3) + 1 = nI (4 * (j + 1)) from (nI_succ _).symm, show nI j + 1 = nI (j + 1) from (nI_succ _).symm]
      exact s5_linesC hT h0 hA hC n (j + 1) G' (by omega) (by omega) (by omega) (by omega) (by omega) kk
end
def toC (b : Nat → Nat) (told : Nat → Int32) (j : Nat) : Prop := ∀ i, i < j → told (3 * i) = nI (b (4 * i) - 48) ∧ told (3 * i + 1) = nI (b (4 * i + 1) - 48) ∧ told (3 * i + 2) = nI (b (4 * i + 2) - 48)
section
variable {F nA nC t : Nat} {b : Nat → Nat} {un came : Int32} {text now : Nat → Int32} {Post : Int32 → (Int32 × Int32 × Int32 × Int32 × Int32 × Int32 × Int32 × Int32 × Int32 × (Nat → Int32) × (Nat → Int32)) → Prop}
theorem s8_linesC (hT : TXm t b text) (h0 : ¬ t = 0) (hA : nA ≤ 6) (hC : nC ≤ 8) : ∀ (n j G : Nat) (told : Nat → Int32), n + j = 8 → 1 ≤ n → nC + j ≤ 8 → 4 * j ≤ t → n + 2 < G → toC b told j → (∀ L told', caR nA nC t b n j = (true, L) → toC b told' L → p_X8_cats_124 F (nI nC) un came now (0, nI t, nI 31, 0, -1) (nI L) (nI t) (-1) told' Post) → (∀ P y1 at0 wr told', caR nA nC t b n j = (false, P) → (wr = nI P ∨ (wr = -1 ∧ at0 = nI P ∧ P < t)) → P < 100 → p_X8_cats_124 F (nI nC) un came now (0, nI t, nI 31, 0, -1) y1 at0 wr told' Post) → p_X8_cats_24 F (nI nA) (nI nC) un came text now (0, nI t, nI 31, 0, -1) Post G 1 (nI j) (nI (4 * j)) (-1) told
  | 0, j, G, told, h1, h2, _, _, _, _, _, _ => absurd h2 (by omega)
  | n + 1, j, G, told, h1, _, h3, h4, hG, ht, kok, kbad => by
    obtain ⟨G', rfl⟩ : ∃ G', G = G' + 1 := ⟨G - 1, by omega⟩
    have h80 := hT.1
    rw [caR] at kok kbad
    have fin : ∀ y1 at0 wr told', p_X8_cats_124 F (nI nC) un came now (0, nI t, nI 31, 0, -1) y1 at0 wr told' Post → p_X8_cats_24 F (nI nA) (nI nC) un came text now (0, nI t, nI 31, 0, -1) Post G' 0 y1 at0 wr told' := by
      intro y1 at0 wr told' h
      obtain ⟨G2, rfl⟩ : ∃ G2, G' = G2 + 1 := ⟨G' - 1, by omega⟩
      rw [p_X8_cats_24_s]
      exact br_t rfl h
    rw [p_X8_cats_24_s]
    unfold p_X8_cats_111
    refine br_f (by decide) (s8_fine (br_f (by decide) ⟨fun z => ?_, fun z => ?_⟩))
    · rw [nI_add] at z
      have q1 : ¬ nC + j = 8 := fun y => z (by rw [y]; rfl)
      rw [if_neg q1] at kok kbad
      rw [show (3 : Int32) * nI j = nI (3 * j) from by rw [show (3 : Int32) = nI 3 from rfl, pk_mul], show nI (3 * j) + (1 : Int32) = nI (3 * j + 1) from nI_add _ 1, show nI (3 * j) + (2 : Int32) = nI (3 * j + 2) from nI_add _ 2, nI_clamp (n := 3 * j) (by omega), nI_clamp (n := 3 * j + 1) (by omega), nI_clamp (n := 3 * j + 2) (by omega)]
      have i0 : vp_in (nI (3 * j)) 24 := pk_in (3 * j) 24 (by omega)
      have i1 : vp_in (nI (3 * j + 1)) 24 := pk_in (3 * j + 1) 24 (by omega)
      have i2 : vp_in (nI (3 * j + 2)) 24 := pk_in (3 * j + 2) 24 (by omega)
      by_cases q2 : 4 * j < t ∧ 48 ≤ b (4 * j) ∧ b (4 * j) ≤ 57
      · rw [if_neg (fun z => z q2)] at kok kbad
        refine s8_oneOf (fst := 48) (many := 10) hT q2.1 (top := 31) (by omega) (by omega) (by omega) (by omega) q2.2.1 (by omega) (by omega) ⟨i0, ?_⟩
        by_cases q3 : 4 * j + 1 < t ∧ 48 ≤ b (4 * j + 1) ∧ b (4 * j + 1) ≤ 57
        · rw [if_neg (fun z => z q3)] at kok kbad
          refine s8_oneOf (fst := 48) (many := 10) (at0 := 4 * j + 1) hT q3.1 (top := 31) (by omega) (by omega) (by omega) (by omega) q3.2.1 (by omega) (by omega) ⟨i1, ?_⟩
          by_cases q4 : 4 * j + 2 < t ∧ 48 ≤ b (4 * j + 2) ∧ b (4 * j + 2) < 48 + nA
          · rw [if_neg (fun z => z q4)] at kok kbad
            refine s8_oneOf (fst := 48) (many := nA) (at0 := 4 * j + 2) hT q4.1 (top := 31) (by omega) (by omega) (by omega) (by omega) q4.2.1 q4.2.2 (by omega) ⟨i2, ?_⟩
            have ht2 : toC b (upd (upd (upd told (3 * j) (nI (b (4 * j) - 48))) (3 * j + 1) (nI (b (4 * j + 1) - 48))) (3 * j + 2) (nI (b (4 * j + 2) - 48))) (j + 1) := by
              intro i hi
              unfold upd
              by_cases e : i = j
              · subst e
                refine ⟨?_, ?_, ?_⟩
                · rw [if_neg (by omega), if_neg (by omega), if_pos rfl]
                · rw [if_neg (by omega), if_pos rfl]
                · rw [if_pos rfl]
              · obtain ⟨t1, t2, t3⟩ := ht i (by omega)
                refine ⟨?_, ?_, ?_⟩
                · rw [if_neg (by omega), if_neg (by omega), if_neg (by omega)]; exact t1
                · rw [if_neg (by omega), if_neg (by omega), if_neg (by omega)]; exact t2
                · rw [if_neg (by omega), if_neg (by omega), if_neg (by omega)]; exact t3
            by_cases q5 : 4 * j + 3 = t
            · rw [if_pos q5] at kok
              refine s8_passN (c := 59) (at0 := 4 * j + 3) (top := 31) hT (by omega) (by omega) (by omega) (by omega) (by omega) (by omega) (fin _ _ _ _ ?_)
              rw [q5]
              have kk := kok (j + 1) _ rfl ht2
              rw [nI_succ j] at kk
              exact kk
            · rw [if_neg q5] at kok kbad
              by_cases q6 : 4 * j + 3 < 31 ∧ b (4 * j + 3) = 59
              · rw [if_pos q6] at kok kbad
                refine s8_pass (c := 59) (at0 := 4 * j + 3) (top := 31) hT (by omega) q6.1 (by omega) (by omega) (by omega) q6.2 ?_
                rw [show nI (4 * j + 3) + 1 = nI (4 * (j + 1)) from (nI_succ _).symm, show nI j + 1 = nI (j + 1) from (nI_succ _).symm]
                exact s8_linesC hT h0 hA hC n (j + 1) G' _ (by omega) (by omega) (by omega) (by omega) (by omega) ht2 kok kbad
              · rw [if_neg q6] at kbad
                exact s8_passN (c := 59) (at0 := 4 * j + 3) (top := 31) hT (by omega) (by omega) (by omega) (by omega) (by omega) (by omega) (fin _ _ _ _ (kbad _ _ _ _ _ rfl (Or.inr ⟨rfl, rfl, by omega⟩) (by omega)))
          · rw [if_pos q4] at kbad
            refine s8_oneOfB (fst := 48) (many := nA) (at0 := 4 * j + 2) (top := 31) hT (by omega) (by omega) (by omega) (by omega) (by omega) (by omega) (by omega) ⟨i2, s8_passW (m1_ne (by omega)) (fin _ _ _ _ ?_)⟩
            exact kbad _ _ _ _ _ rfl (Or.inl rfl) (by omega)
        · rw [if_pos q3] at kbad
          refine s8_oneOfB (fst := 48) (many := 10) (at0 := 4 * j + 1) (top := 31) hT (by omega) (by omega) (by omega) (by omega) (by omega) (by omega) (by omega) ⟨i1, s8_oneOfW (m1_ne (by omega)) ⟨i2, s8_passW (m1_ne (by omega)) (fin _ _ _ _ ?_)⟩⟩
          exact kbad _ _ _ _ _ rfl (Or.inl rfl) (by omega)
      · rw [if_pos q2] at kbad
        refine s8_oneOfB (fst := 48) (many := 10) (top := 31) hT (by omega) (by omega) (by omega) (by omega) (by omega) (by omega) (by omega) ⟨i0, s8_oneOfW (m1_ne (by omega)) ⟨i1, s8_oneOfW (m1_ne (by omega)) ⟨i2, s8_passW (m1_ne (by omega)) (fin _ _ _ _ ?_)⟩⟩⟩
        exact kbad _ _ _ _ _ rfl (Or.inl rfl) (by omega)
    · rw [nI_add] at z
      have q1 : nC + j = 8 := (nI_eq (b := 8) (by omega) (by omega)).1 z
      rw [if_pos q1] at kbad
      exact s8_fault (s8_passW (m1_ne (by omega)) (fin _ _ _ _ (kbad _ _ _ _ _ rfl (Or.inl rfl) (by omega))))
end
