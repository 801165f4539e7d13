/-! ===== call: night, the model's act and the two runs ===== -/
theorem fdC_d (nC : Nat) (w : Nat → Int32) (p n : Int32) : fdC nC w p n < 0 ∨ (fdC nC w p n = 0 ∧ isIx p nC = true) := by
  unfold fdC
  split
  · exact Or.inl (by decide)
  rename_i h
  split
  · exact Or.inl (by decide)
  split
  · exact Or.inl (by decide)
  split
  · exact Or.inl (by decide)
  · exact Or.inr ⟨rfl, by simpa using h⟩
theorem ptC_d (nC : Nat) (w : Nat → Int32) (p : Int32) : ptC nC w p < 0 ∨ (ptC nC w p = 0 ∧ isIx p nC = true) := by
  unfold ptC
  split
  · exact Or.inl (by decide)
  rename_i h
  split
  · exact Or.inl (by decide)
  · exact Or.inr ⟨rfl, by simpa using h⟩
theorem grC_d (nC : Nat) (p n : Int32) : grC nC p n < 0 ∨ (grC nC p n = 0 ∧ isIx p nC = true) := by
  unfold grC
  split
  · exact Or.inl (by decide)
  rename_i h
  split
  · exact Or.inl (by decide)
  · exact Or.inr ⟨rfl, by simpa using h⟩
theorem stC_d (nA nC : Nat) (w : Nat → Int32) (p a : Int32) : stC nA nC w p a < 0 ∨ (stC nA nC w p a = 0 ∧ isIx p nC = true) := by
  unfold stC
  split
  · exact Or.inl (by decide)
  rename_i h
  split
  · exact Or.inl (by decide)
  split
  · exact Or.inl (by decide)
  · exact Or.inr ⟨rfl, by simpa using h⟩
theorem ldC_d (nA : Nat) (w : Nat → Int32) (p a : Int32) : ldC nA w p a < 0 ∨ (ldC nA w p a = 0 ∧ isIx p nA = true) := by
  unfold ldC
  split
  · exact Or.inl (by decide)
  rename_i h
  split
  · exact Or.inl (by decide)
  split
  · exact Or.inl (by decide)
  · exact Or.inr ⟨rfl, by simpa using h⟩
theorem isIx_lt {d n : Nat} (h : isIx (nI d) n = true) (hd : d < 100) : d < n := by
  apply Decidable.byContradiction
  intro z
  rw [isIx_no (Or.inr (nI_le (by omega) (by omega)))] at h
  exact absurd h (by decide)
theorem aC_d (nA nC : Nat) (w : Nat → Int32) (c : Nat) (d1 d2 : Int32) : aCw nA nC w c d1 d2 < 0 ∨ aCw nA nC w c d1 d2 = 0 := by
  unfold aCw
  split
  · exact (fdC_d nC w d1 d2).imp id And.left
  split
  · exact (grC_d nC d1 d2).imp id And.left
  split
  · exact (ldC_d nA w d1 d2).imp id And.left
  split
  · exact Or.inr rfl
  split
  · exact (ptC_d nC w d1).imp id And.left
  · exact (stC_d nA nC w d1 d2).imp id And.left
theorem dA_1 {c : Nat} (h : dA c = 1) : c = 110 ∨ c = 112 := by
  unfold dA at h
  repeat' split at h
  all_goals omega
theorem aC_1 {nA nC c : Nat} {w : Nat → Int32} {d1 d2 e2 : Int32} (h : dA c = 1) : aCw nA nC w c d1 d2 = aCw nA nC w c d1 e2 := by
  rcases dA_1 h with rfl | rfl <;> simp [aCw]
theorem aW_1 {R : (Nat → Int32) → Int32} {nA nC c : Nat} {w : Nat → Int32} {d1 d2 e2 : Int32} (h : dA c = 1) : aW R nA nC w c d1 d2 = aW R nA nC w c d1 e2 := by
  rcases dA_1 h with rfl | rfl <;> simp [aW]
section
variable {F nA nC m q : Nat} {R : (Nat → Int32) → Int32} {w f rule asked hold : Nat → Int32} {rd : Value} {ln tp at0 wr ia dr : Int32}
theorem s8_act {c d : Nat} {d2 : Int32} {Post : Int32 → (Value × Int32 × Int32 × Int32 × Int32 × Int32 × Int32 × (Nat → Int32) × (Nat → Int32) × (Nat → Int32)) → Prop} (hF : 5000 ≤ F) (hR : RM F R m rule) (hM : MV w f) (ok : OK nA nC w) (hc : c < 256) (hd : d ≤ 9) (h0 : ¬ dA c = 0)
    (k1 : aCw nA nC w c (nI d) d2 < 0 → ∀ u1 u2 u3 u4 u5 u6 u7 f2 as hd, MV w f2 → Post 0 (u1, u2, u3, u4, u5, u6, u7, f2, as, hd))
    (k2 : aCw nA nC w c (nI d) d2 = 0 → ∀ u1 u2 u3 u4 u5 u6 u7 f2 as hd, MV (aW R nA nC w c (nI d) d2) f2 → Post 1 (u1, u2, u3, u4, u5, u6, u7, f2, as, hd)) : p_X8_act F (nI c) (nI d) d2 (nI nA) (nI nC) rd ln tp at0 wr q (nI m) ia dr f asked rule hold Post := by
  have hA := ok.1
  have hC := ok.2.1
  have e : ∀ n, n < 256 → ((nI c = nI n) ↔ c = n) := fun n hn => nI_eq (by omega) (by omega)
  unfold p_X8_act
  unfold aCw at k1 k2
  unfold aW at k2
  have z0 : (0 : Int32) ≤ 0 := by decide
  refine ⟨fun z => ?_, fun z1 => ⟨fun z => ?_, fun z2 => ⟨fun z => ?_, fun z3 => ⟨fun z => ?_, fun z4 => ⟨fun z => ?_, fun z5 => ?_⟩⟩⟩⟩⟩
  · have z := (e 102 (by omega)).1 z
    simp only [z, if_true] at k1 k2
    refine s8_refusesFeed hM hC ?_
    rcases fdC_d nC w (nI d) d2 with neg | ⟨e0, ix⟩
    · exact br_f (nle0 neg) (k1 neg _ _ _ _ _ _ _ _ _ _ hM)
    · have := isIx_lt ix (by omega)
      exact br_t (by rw [e0]; decide) (s8_goFeed hM (by omega) (fun f2 hf2 => k2 e0 _ _ _ _ _ _ _ _ _ _ hf2))
  all_goals have n1 : ¬ c = 102 := fun y => z1 ((e 102 (by omega)).2 y)
  · have z := (e 103 (by omega)).1 z
    simp only [z, if_true, if_neg (show ¬ 103 = 102 by omega)] at k1 k2
    refine s8_canGrieve hC (fun neg => ?_) (fun e0 => ?_)
    · exact ⟨fun y => absurd rfl y, fun _ => k1 neg _ _ _ _ _ _ _ _ _ _ hM⟩
    · have : d < nC := by
        rcases grC_d nC (nI d) d2 with neg | ⟨_, ix⟩
        · rw [e0] at neg; exact absurd neg (by decide)
        · exact isIx_lt ix (by omega)
      exact ⟨fun _ => s8_goGrieve hM (by omega) (fun f2 hf2 => k2 e0 _ _ _ _ _ _ _ _ _ _ hf2), fun y => absurd y (by decide)⟩
  all_goals have n2 : ¬ c = 103 := fun y => z2 ((e 103 (by omega)).2 y)
  · have z := (e 110 (by omega)).1 z
    simp only [z, if_true, if_neg (show ¬ 110 = 102 by omega), if_neg (show ¬ 110 = 103 by omega), if_neg (show ¬ 110 = 108 by omega)] at k1 k2
    rw [nI_clamp (n := d) (by omega)] at k2
    exact s8_goHours hF (by omega) hR hM ok (fun u1 u2 u3 u4' u5 u6 f2 as hd z => k2 trivial _ _ _ _ _ _ _ _ _ _ z)
  all_goals have n4 : ¬ c = 110 := fun y => z3 ((e 110 (by omega)).2 y)
  · have z := (e 112 (by omega)).1 z
    simp only [z, if_true, if_neg (show ¬ 112 = 102 by omega), if_neg (show ¬ 112 = 103 by omega), if_neg (show ¬ 112 = 108 by omega), if_neg (show ¬ 112 = 110 by omega)] at k1 k2
    refine s8_refusesPet hM hC ?_
    rcases ptC_d nC w (nI d) with neg | ⟨e0, ix⟩
    · exact br_f (nle0 neg) (k1 neg _ _ _ _ _ _ _ _ _ _ hM)
    · have := isIx_lt ix (by omega)
      refine br_t (by rw [e0]; decide) ⟨ci12 (by omega), ci12 (by omega), ?_⟩
      rw [cc12 (by omega)]
      exact k2 e0 _ _ _ _ _ _ _ _ _ _ (MV_pet hM (by omega))
  all_goals have n5 : ¬ c = 112 := fun y => z4 ((e 112 (by omega)).2 y)
  · have z := (e 115 (by omega)).1 z
    simp only [z, if_neg (show ¬ 115 = 102 by omega), if_neg (show ¬ 115 = 103 by omega), if_neg (show ¬ 115 = 108 by omega), if_neg (show ¬ 115 = 110 by omega), if_neg (show ¬ 115 = 112 by omega)] at k1 k2
    refine s8_refusesSet hM ok ?_
    rcases stC_d nA nC w (nI d) d2 with neg | ⟨e0, ix⟩
    · exact br_f (nle0 neg) (k1 neg _ _ _ _ _ _ _ _ _ _ hM)
    · have := isIx_lt ix (by omega)
      refine br_t (by rw [e0]; decide) ⟨ci36 (by omega), ?_⟩
      rw [cc36 (by omega)]
      exact k2 e0 _ _ _ _ _ _ _ _ _ _ (MV_seat hM (by omega))
  · have n6 : ¬ c = 115 := fun y => z5 ((e 115 (by omega)).2 y)
    have z : c = 108 := by
      apply Decidable.byContradiction
      intro y
      apply h0
      unfold dA
      rw [if_neg n1, if_neg n2, if_neg y, if_neg n4, if_neg n5, if_neg n6]
    simp only [z, if_true, if_neg (show ¬ 108 = 102 by omega), if_neg (show ¬ 108 = 103 by omega)] at k1 k2
    refine s8_refusesLoad hM hA ?_
    rcases ldC_d nA w (nI d) d2 with neg | ⟨e0, ix⟩
    · exact br_f (nle0 neg) (k1 neg _ _ _ _ _ _ _ _ _ _ hM)
    · have := isIx_lt ix (by omega)
      refine br_t (by rw [e0]; decide) ⟨pk_in d 47 (by omega), ?_⟩
      rw [nI_clamp (n := d) (by omega)]
      exact k2 e0 _ _ _ _ _ _ _ _ _ _ (MV_load hM (by omega))
end
def nw (R : (Nat → Int32) → Int32) (nA nC : Nat) (w : Nat → Int32) (b : Nat → Nat) : Nat → Nat → Int32
  | 0 => w
  | k + 1 => aW R nA nC (nw R nA nC w b k) (b (pA b k)) (nI (b (pA b k + 1) - 48)) (nI (b (pA b k + 2) - 48))
def nK (R : (Nat → Int32) → Int32) (nA nC : Nat) (w : Nat → Int32) (b : Nat → Nat) (k : Nat) : Int32 := aCw nA nC (nw R nA nC w b k) (b (pA b k)) (nI (b (pA b k + 1) - 48)) (nI (b (pA b k + 2) - 48))
def nE (R : (Nat → Int32) → Int32) (nA nC : Nat) (w : Nat → Int32) (b : Nat → Nat) : Nat → Nat → Nat
  | 0, k => k
  | n + 1, k => if nK R nA nC w b k = 0 then nE R nA nC w b n (k + 1) else k
section
variable {F nA nC t K m q : Nat} {R : (Nat → Int32) → Int32} {w rule : Nat → Int32} {b : Nat → Nat}
theorem nE_le : ∀ {n k}, nE R nA nC w b n k ≤ n + k
  | 0, k => by rw [nE]; omega
  | n + 1, k => by
    rw [nE]
    split
    · have := nE_le (n := n) (k := k + 1); omega
    · omega
theorem nE_ge : ∀ {n k}, k ≤ nE R nA nC w b n k
  | 0, k => by rw [nE]; exact Nat.le_refl _
  | n + 1, k => by
    rw [nE]
    split
    · have := nE_ge (n := n) (k := k + 1); omega
    · exact Nat.le_refl _
theorem pA_b {k : Nat} (hg : ∀ i, i < k → gdA t b i) (ht : t ≤ 80) : pA b k < 2 ^ 31 := by
  cases k with
  | zero => rw [pA]; omega
  | succ k =>
    obtain ⟨_, g1, _, _⟩ := hg k (by omega)
    rw [pA]
    omega
theorem s5_digAny {len : Int32} {s : Nat → Int32} {i : Nat} {Post : Int32 → Prop} (hT : TXc t b len s) (hi : i < 1000) (k : ∀ v, Post v) : p_X5_digit F (nI i) len s Post := by
  by_cases q : i < t
  · exact s5_digit hT q (fun _ => k _) (fun _ => k _)
  · exact s5_digitN hT (by omega) hi (k _)
theorem s7_nightL {len sz arches cats pn ps : Int32} {s steps : Nat → Int32} {ring : Nat → Option PSl} {tn : Nat → Int64} {u33 : Int32 × Int32 × Int32 × Int32 × Int32 × (Nat → Int32) × (Nat → Int32) × (Nat → Int32) × (Nat → Int32) × (Nat → Int32) × (Nat → Int32)} {Post : Int32 → (Int32 × Int32 × Int32 × Int32 × Int32 × Int32 × Int32 × Int32 × Int32 × (Nat → Int32) × (Nat → Int32) × (Nat → Int32) × (Nat → Int32) × (Nat → Int32) × (Nat → Int32) × (Nat → Int32) × (Nat → Int32) × (Nat → Int32) × (Nat → Int32) × (Nat → Int32) × (Nat → Int32) × Int32 × (Nat → Int32) × Int32 × Int32 × (Nat → Option PSl) × Int32 × (Nat → Int64)) → Prop} (hF : 5000 ≤ F) (hR : RX F R sz steps) (hT : TXc t b len s) (hg : ∀ i, i < K → gdA t b i) (hK : t ≤ pA b K) (kk : ∀ fl st h dd ld sg jy bw gr pl tp sk, fl = (if nE R nA nC w b K 0 < K then 1 else 0) → (∀ i, i ≤ nE R nA nC w b K 0 → OK nA nC (nw R nA nC w b i)) → AV nA nC (nw R nA nC w b (nE R nA nC w b K 0)) arches cats st h dd ld sg jy bw gr pl → p_X7_night_127 F arches pn ps ring tn u33 fl (nI (nE R nA nC w b K 0)) st h dd ld sg jy bw gr pl tp sk Post) : ∀ (n k G : Nat) (st h dd : Int32) (ld sg jy bw gr pl : Nat → Int32) (tp : Int32) (sk : Nat → Int32), n + k = K → n + 2 < G → nE R nA nC w b n k = nE R nA nC w b K 0 → (∀ i, i ≤ k → OK nA nC (nw R nA nC w b i)) → AV nA nC (nw R nA nC w b k) arches cats st h dd ld sg jy bw gr pl → p_X7_night_43 F len s arches cats sz steps pn ps ring tn u33 Post G (nI (pA b k)) 0 (nI k) st h dd ld sg jy bw gr pl tp sk
  | 0, k, G, st, h, dd, ld, sg, jy, bw, gr, pl, tp, sk, h1, hG, he, ok, hV => by
    obtain ⟨G', rfl⟩ : ∃ G', G = G' + 1 := ⟨G - 1, by omega⟩
    have ek : k = K := by omega
    subst ek
    have ht := hT.1
    rw [nE] at he
    rw [p_X7_night_43_s]
    have kk := kk 0 st h dd ld sg jy bw gr pl tp sk (by rw [← he, if_neg (by omega)]) (by rw [← he]; exact ok) (by rw [← he]; exact hV)
    rw [← he] at kk
    refine ⟨fun _ => kk, fun z => absurd ?_ z⟩
    rw [hT.2.1]
    exact nI_le hK (pA_b hg ht)
  | n + 1, k, G, st, h, dd, ld, sg, jy, bw, gr, pl, tp, sk, h1, hG, he, ok, hV => by
    obtain ⟨G', rfl⟩ : ∃ G', G = G' + 1 := ⟨G - 1, by omega⟩
    have ht := hT.1
    obtain ⟨g0, g1, g2, g3⟩ := hg k (by omega)
    have hb := (hT.2.2 (pA b k) (by omega)).1
    have d12 := dA_12 (b (pA b k))
    rw [nE] at he
    rw [p_X7_night_43_s]
    refine br_f (by rw [hT.2.1]; exact nI_ge (by omega) (by omega)) ⟨fun z => absurd rfl z, fun _ => s5_at hT (by omega) ?_⟩
    rw [show nI (pA b k) + (1 : Int32) = nI (pA b k + 1) from nI_add _ 1, show nI (pA b k) + (2 : Int32) = nI (pA b k + 2) from nI_add _ 2]
    refine s5_digit hT (by omega) (fun dd1 => ?_) (fun d => absurd g2 d)
    have act : ∀ d2, aCw nA nC (nw R nA nC w b k) (b (pA b k)) (nI (b (pA b k + 1) - 48)) d2 = nK R nA nC w b k → aW R nA nC (nw R nA nC w b k) (b (pA b k)) (nI (b (pA b k + 1) - 48)) d2 = nw R nA nC w b (k + 1) → p_X7_act F (nI (b (pA b k))) (nI (b (pA b k + 1) - 48)) d2 arches cats st h dd pl jy sz tp ld steps sk sg gr bw (fun r_91 u_91 => ((0 ≤ r_91 → (p_X7_night_105 F len s u_91 (nI (pA b k)) (p_X7_night_43 F len s arches cats sz steps pn ps ring tn u33 Post G') Post 0 (nI k + 1))) ∧ (¬ 0 ≤ r_91 → (p_X7_night_105 F len s u_91 (nI (pA b k)) (p_X7_night_43 F len s arches cats sz steps pn ps ring tn u33 Post G') Post 1 (nI k))))) := by
      intro d2 ec ew
      unfold isD at dd1
      refine s7_act hF hR hV (ok k (Nat.le_refl _)) hb (by omega) g0 (fun neg r st2 h2 dd2 pl2 jy2 tp2 ld2 sk2 sg2 gr2 bw2 hr hV2 => br_f hr ?_) (fun e0 r st2 h2 dd2 pl2 jy2 tp2 ld2 sk2 sg2 gr2 bw2 hr ok2 hV2 => br_t hr ?_)
      · rw [ec] at neg
        have hn : ¬ nK R nA nC w b k = 0 := fun y => by rw [y] at neg; exact absurd neg (by decide)
        rw [if_neg hn] at he
        unfold p_X7_night_105
        refine s5_at hT (by omega) (s7_digs hb ?_)
        obtain ⟨G2, rfl⟩ : ∃ G2, G' = G2 + 1 := ⟨G' - 1, by omega⟩
        rw [p_X7_night_43_s]
        have kk := kk 1 st2 h2 dd2 ld2 sg2 jy2 bw2 gr2 pl2 tp2 sk2 (by rw [← he, if_pos (by omega)]) (by rw [← he]; exact ok) (by rw [← he]; exact hV2)
        rw [← he] at kk
        exact ⟨fun _ => kk, fun _ => ⟨fun _ => kk, fun y => absurd y (by decide)⟩⟩
      · rw [ec] at e0
        rw [if_pos e0] at he
        rw [ew] at ok2 hV2
        unfold p_X7_night_105
        refine s5_at hT (by omega) (s7_digs hb ?_)
        rw [show (1 : Int32) + nI (dA (b (pA b k))) = nI (1 + dA (b (pA b k))) from nI_add 1 _, nI_add, show nI k + 1 = nI (k + 1) from (nI_succ _).symm]
        exact s7_nightL hF hR hT hg hK kk n (k + 1) G' _ _ _ _ _ _ _ _ _ _ _ (by omega) (by omega) he (fun i hi => by
          by_cases ei : i = k + 1
          · subst ei; exact ok2
          · exact ok i (by omega)) hV2
    by_cases q1 : dA (b (pA b k)) = 1
    · exact s5_digAny hT (by omega) (fun v => act v (aC_1 q1) (aW_1 q1))
    · have q2 : dA (b (pA b k)) = 2 := by omega
      exact s5_digit hT (by omega) (fun _ => act _ rfl rfl) (fun d => absurd (g3 q2) d)
end
