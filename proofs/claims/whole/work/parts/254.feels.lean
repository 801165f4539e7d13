/-! ===== call: feels ===== -/
/-- of the cats below n in the set P: how many have V = v -/
def cntE (P : Nat → Bool) (V : Nat → Nat) (v : Nat) : Nat → Nat
  | 0 => 0
  | n + 1 => cntE P V v n + (if P n = true ∧ V n = v then 1 else 0)
theorem cntE_mono (P : Nat → Bool) (V : Nat → Nat) (v : Nat) (m : Nat) : ∀ d, cntE P V v m ≤ cntE P V v (m + d)
  | 0 => Nat.le_refl _
  | d + 1 => by
    have := cntE_mono P V v m d
    show _ ≤ cntE P V v (m + d) + _
    omega
theorem cntE_le (P : Nat → Bool) (V : Nat → Nat) (v : Nat) : ∀ n, cntE P V v n ≤ n
  | 0 => Nat.le_refl _
  | n + 1 => by have := cntE_le P V v n; rw [cntE]; split <;> omega
/-- the model's greatest, as it counts -/
def moM (P : Nat → Bool) (V : Nat → Nat) : Nat → Nat
  | 0 => 0
  | n + 1 => if P n = true then (if moM P V n < cntE P V (V n) n + 1 then cntE P V (V n) n + 1 else moM P V n) else moM P V n
/-- the class's greatest -/
def alC (P : Nat → Bool) (V : Nat → Nat) (nC c : Nat) : Nat := if P c = true then cntE P V (V c) nC else 0
def moC (P : Nat → Bool) (V : Nat → Nat) (nC : Nat) : Nat → Nat
  | 0 => 0
  | n + 1 => if moC P V nC n < alC P V nC n then alC P V nC n else moC P V nC n
theorem moM_ub (P : Nat → Bool) (V : Nat → Nat) : ∀ n v, (cntE P V v n ≤ moM P V n)
  | 0, v => Nat.le_refl _
  | n + 1, v => by
    have ih := moM_ub P V n
    have h1 := ih v
    have h2 := ih (V n)
    rw [cntE, moM]
    by_cases q : P n = true
    · rw [if_pos q]
      by_cases e : V n = v
      · rw [if_pos ⟨q, e⟩, e]; rw [e] at h2; split <;> omega
      · rw [if_neg (fun z => e z.2)]; split <;> omega
    · rw [if_neg q, if_neg (fun z => q z.1)]; omega
theorem moM_at (P : Nat → Bool) (V : Nat → Nat) : ∀ n, moM P V n = 0 ∨ ∃ c, c < n ∧ P c = true ∧ moM P V n ≤ cntE P V (V c) n
  | 0 => Or.inl rfl
  | n + 1 => by
    have old : moM P V n = 0 ∨ ∃ c, c < n + 1 ∧ P c = true ∧ moM P V n ≤ cntE P V (V c) (n + 1) := by
      rcases moM_at P V n with h | ⟨c, h1, h2, h3⟩
      · exact Or.inl h
      · have := cntE_mono P V (V c) n 1
        exact Or.inr ⟨c, by omega, h2, by omega⟩
    rw [moM]
    by_cases q : P n = true
    · rw [if_pos q]
      split
      · refine Or.inr ⟨n, by omega, q, ?_⟩
        rw [cntE, if_pos ⟨q, rfl⟩]; exact Nat.le_refl _
      · exact old
    · rw [if_neg q]; exact old
theorem moC_ub (P : Nat → Bool) (V : Nat → Nat) (nC : Nat) : ∀ n c, c < n → alC P V nC c ≤ moC P V nC n
  | 0, c, h => absurd h (by omega)
  | n + 1, c, h => by
    rw [moC]
    rcases Nat.lt_or_ge c n with q | q
    · have := moC_ub P V nC n c q
      split <;> omega
    · have : c = n := by omega
      subst this
      split <;> omega
theorem moC_at (P : Nat → Bool) (V : Nat → Nat) (nC : Nat) : ∀ n, moC P V nC n = 0 ∨ ∃ c, c < n ∧ moC P V nC n = alC P V nC c
  | 0 => Or.inl rfl
  | n + 1 => by
    rw [moC]
    split
    · exact Or.inr ⟨n, by omega, rfl⟩
    · rcases moC_at P V nC n with h | ⟨c, h1, h2⟩
      · exact Or.inl h
      · exact Or.inr ⟨c, by omega, h2⟩
theorem mo_eq (P : Nat → Bool) (V : Nat → Nat) (nC : Nat) : moM P V nC = moC P V nC nC := by
  apply Nat.le_antisymm
  · rcases moM_at P V nC with h | ⟨c, h1, h2, h3⟩
    · omega
    · have := moC_ub P V nC nC c h1
      unfold alC at this
      rw [if_pos h2] at this
      omega
  · rcases moC_at P V nC nC with h | ⟨c, h1, h2⟩
    · omega
    · rw [h2]
      unfold alC
      split
      · exact moM_ub P V nC _
      · exact Nat.zero_le _
theorem moM_le (P : Nat → Bool) (V : Nat → Nat) (n : Nat) : moM P V n ≤ n := by
  rcases moM_at P V n with h | ⟨c, _, _, h⟩
  · omega
  · have := cntE_le P V (V c) n; omega
theorem two_bits {S c d : Nat} (hS : S < 256) (hc : c < 8) (hd : d < 8) : (((nI S >>> (nI c &&& 31)) &&& (nI S >>> (nI d &&& 31))) &&& 1) = 1 ↔ (S.testBit c = true ∧ S.testBit d = true) := by
  rw [pk_shrN (by omega) (nI c &&& 31) c (fz_sm c (by omega)), pk_shrN (by omega) (nI d &&& 31) d (fz_sm d (by omega)), fz_and, show (1 : Int32) = nI 1 from rfl, fz_and]
  have h1 : S / 2 ^ c &&& S / 2 ^ d &&& 1 < 2 := by
    have : S / 2 ^ c &&& S / 2 ^ d &&& 1 ≤ 1 := Nat.and_le_right
    omega
  rw [nI_eq (by omega) (by omega)]
  rw [Nat.and_one_is_mod, Nat.testBit_eq_decide_div_mod_eq, Nat.testBit_eq_decide_div_mod_eq]
  have e : (S / 2 ^ c &&& S / 2 ^ d) % 2 = 1 ↔ (S / 2 ^ c % 2 = 1 ∧ S / 2 ^ d % 2 = 1) := by
    have := Nat.testBit_and (S / 2 ^ c) (S / 2 ^ d) 0
    simp only [Nat.testBit_zero] at this
    have t := Bool.eq_iff_iff.1 this
    simp only [decide_eq_true_iff, Bool.and_eq_true] at t
    exact t
  rw [e]
  simp
section
variable {F : Nat} {x : XS} {m : MS} {am : MA}
theorem s7_mostLeft {nC a S : Nat} {R : (Nat → Int32) → Int32} {w place purrs : Nat → Int32} {Post : Int32 → Prop} (hF : 5000 ≤ F) (hC : nC ≤ 8) (hp : ∀ i, i < 8 → place i = w (36 + i)) (hpu : ∀ i, i < nC → purrs i = pO R nC w i) (hS : S < 256) (kk : Post (nI (moC (fun c => S.testBit c) (fun c => hwN R nC w a c nC) nC nC))) : p_X7_mostLeft F (nI a) (nI S) (nI nC) place purrs Post := by
  generalize hP : (fun c => S.testBit c) = P at kk
  generalize hVv : (fun c => hwN R nC w a c nC) = V at kk
  have eP : ∀ c, S.testBit c = P c := fun c => by rw [← hP]
  have eV : ∀ c, hwN R nC w a c nC = V c := fun c => by rw [← hVv]
  unfold p_X7_mostLeft
  refine up_loop (fun n i s => p_X7_mostLeft_5 F (nI a) (nI S) (nI nC) place purrs Post n i s) (fun j s => s = nI (moC P V nC j)) nC ?_ ?_ F 0 0 rfl (by omega) (by omega)
  · intro n s hs
    subst hs
    show p_X7_mostLeft_5 F (nI a) (nI S) (nI nC) place purrs Post (n + 1) (nI nC) _
    rw [p_X7_mostLeft_5_s]
    exact br_t (nI_le (Nat.le_refl _) (by omega)) kk
  · intro n c s hc hs ih
    subst hs
    show p_X7_mostLeft_5 F (nI a) (nI S) (nI nC) place purrs Post (n + 1) (nI c) (nI (moC P V nC c))
    rw [p_X7_mostLeft_5_s]
    refine br_f (nI_ge hc (by omega)) ?_
    refine up_loop (fun n2 i s => p_X7_mostLeft_23 F (nI a) (nI S) (nI nC) place purrs (nI c) (nI (moC P V nC c)) (p_X7_mostLeft_5 F (nI a) (nI S) (nI nC) place purrs Post n) Post n2 i s) (fun d s => s = nI (if P c = true then cntE P V (V c) d else 0)) nC ?_ ?_ F 0 0 (by show (0 : Int32) = nI _; split <;> rfl) (by omega) (by omega)
    · intro n2 s hs
      subst hs
      show p_X7_mostLeft_23 F (nI a) (nI S) (nI nC) place purrs (nI c) (nI (moC P V nC c)) (p_X7_mostLeft_5 F (nI a) (nI S) (nI nC) place purrs Post n) Post (n2 + 1) (nI nC) _
      rw [p_X7_mostLeft_23_s]
      refine br_t (nI_le (Nat.le_refl _) (by omega)) (ih _ ?_)
      rw [moC]
      show (if _ < nI (alC P V nC c) then nI (alC P V nC c) else _) = _
      have l1 : alC P V nC c ≤ 8 := by unfold alC; split <;> (try have := cntE_le P V (V c) nC) <;> omega
      have l2 : moC P V nC c ≤ 8 := by
        rcases moC_at P V nC c with h | ⟨d, h1, h2⟩
        · omega
        · rw [h2]; unfold alC; split <;> (try have := cntE_le P V (V d) nC) <;> omega
      by_cases q : moC P V nC c < alC P V nC c
      · rw [if_pos q, if_pos (nI_lt q (by omega))]
      · rw [if_neg q, if_neg (nI_nlt (by omega) (by omega))]
    · intro n2 d s hd hs ih2
      subst hs
      show p_X7_mostLeft_23 F (nI a) (nI S) (nI nC) place purrs (nI c) (nI (moC P V nC c)) (p_X7_mostLeft_5 F (nI a) (nI S) (nI nC) place purrs Post n) Post (n2 + 1) (nI d) (nI (if P c = true then cntE P V (V c) d else 0))
      rw [p_X7_mostLeft_23_s, two_bits hS (by omega) (by omega), eP, eP]
      unfold p_X7_mostLeft_55 p_X7_mostLeft_85 p_X7_mostLeft_86
      refine br_f (nI_ge hd (by omega)) ⟨fun z => br_t rfl (ih2 _ ?_), fun z => br_f (by decide) (s7_holdW (sl := c) hF hC hp hpu (Or.inl ⟨by omega, rfl⟩) (s7_holdW (sl := d) hF hC hp hpu (Or.inl ⟨by omega, rfl⟩) ?_))⟩
      · show nI (if P c = true then cntE P V (V c) d else 0) + 0 = _
        rw [Int32.add_zero]
        by_cases q : P c = true
        · rw [if_pos q, if_pos q, cntE, if_neg (fun y => z ⟨q, y.1⟩)]; rfl
        · rw [if_neg q, if_neg q]
      · rw [eV, eV]
        have l1 := hwN_le R nC w a c nC
        have l2 := hwN_le R nC w a d nC
        rw [eV] at l1 l2
        rw [nI_eq (by omega) (by omega), if_pos z.1]
        refine ⟨fun y => ih2 _ ?_, fun y => ih2 _ ?_⟩
        · rw [if_pos z.1, cntE, if_neg (fun u => y u.2.symm)]; exact Int32.add_zero _
        · rw [if_pos z.1, cntE, if_pos ⟨z.2, y.symm⟩]; exact nI_1 _
theorem ob_feels (hF : 5000 ≤ F) (h : Rel F x m) : p7_feels F x (fun r x' => p8_feels F am m (fun r' m' => r = r' ∧ Rel F x' m')) := by
  obtain ⟨nA, nC, R, w, ok, hV, hM, eA, eC, hT, hW, hU, hN, hE, hH, hK⟩ := h
  have hA := ok.1
  have hC := ok.2.1
  obtain ⟨hRX, rs, ers, hRM⟩ := id hU
  obtain ⟨_, k, hk, k1, k2, hf⟩ := id hE
  have hp := hV.2.2.2.2.2.2.2.2.2.2
  unfold p7_feels p_X7_feels
  refine s7_findPurrs hF hRX hV ok (fun t st p2 hp2 => ?_)
  rw [hV.2.1]
  have hV0 := hV
  rw [hV.2.1] at hV0
  refine s7_fitting hF hC hk hp hp2 k1 hf hA ?_
  generalize hG : ftN R nC w m.f_feltOf m.f_feltBy k = G
  have hG8 : G < 256 := by
    rw [← hG]
    exact Nat.lt_of_lt_of_le (bN_lt _ nC) (pw256 hC)
  generalize hTT : (fun a => moC (fun c => G.testBit c) (fun c => hwN R nC w a c nC) nC nC) = T
  have eT : ∀ a, moC (fun c => G.testBit c) (fun c => hwN R nC w a c nC) nC nC = T a := fun a => by rw [← hTT]
  have tl : ∀ a, T a ≤ 8 := fun a => by
    rw [← eT a, ← mo_eq]
    have := moM_le (fun c => G.testBit c) (fun c => hwN R nC w a c nC) nC
    omega
  have g0 : nI G = 0 ↔ G = 0 := nI_eq (b := 0) (by omega) (by omega)
  -- the model
  have md : ∀ Post : Int32 → (Int32 × Int32 × Value × Int32 × Int32 × Int32 × Int32 × Int32 × (Nat → Int32) × (Nat → Int32) × (Nat → Int64)) → Prop, ((G = 0 ∨ nA = 0) → ∀ u1 u2 u3 u4 u5 u6 as mn, Post (-2) (m.x_rowMany, 0, u1, u2, u3, u4, u5, u6, as, mn, m.f_row)) → (¬ G = 0 → ∀ i, nA = i + 1 → ∀ s5 f5 u1 u2 u3 u4 u5 u6 as mn, RLw ([] ++ [(nI (T (dpN T i))).toInt64]) s5 f5 → Post (nI (dpN T i)) (s5, 0, u1, u2, u3, u4, u5, u6, as, mn, f5)) → p_X8_feels F (nI nA) (nI nC) m.x_rowMany m.w_read m.x_length m.x_top m.x_at m.x_wrong am.q_rule (nI rs) m.x_isAsked m.x_feltMany m.f_feltOf m.f_now m.f_asked m.f_rule m.f_feltBy m.f_many m.f_row Post := by
    intro Post c1 c2
    unfold p_X8_feels
    refine s8_grieving hF hRM hM ok hk k2 hf (fun u => ?_)
    rw [hG, g0]
    refine ⟨fun z => c1 (Or.inl z) _ _ _ _ _ _ _ _, fun z => ⟨fun z2 => ?_, fun z2 => c1 (Or.inr ((nI_eq (b := 0) (by omega) (by omega)).1 z2)) _ _ _ _ _ _ _ _⟩⟩
    have hA0 : 0 < nA := by
      rcases Nat.eq_zero_or_pos nA with y | y
      · exact absurd (by rw [y]; rfl) z2
      · exact y
    refine up_loop (fun q i (s : Int32 × Int32 × Value × Int32 × Int32 × Int32 × Int32 × Int32 × (Nat → Int32) × (Nat → Int32)) => p_X8_feels_33 F (nI nA) (nI nC) am.q_rule (nI rs) m.f_now m.f_rule m.f_row (nI G) Post q i s.1 s.2.1 s.2.2.1 s.2.2.2.1 s.2.2.2.2.1 s.2.2.2.2.2.1 s.2.2.2.2.2.2.1 s.2.2.2.2.2.2.2.1 s.2.2.2.2.2.2.2.2.1 s.2.2.2.2.2.2.2.2.2) (fun j s => (j = 0 ∧ s.1 = 1000000) ∨ ∃ i, j = i + 1 ∧ s.1 = nI (T (dpN T i)) ∧ s.2.1 = nI (dpN T i)) nA ?_ ?_ F (1000000, -1, _, _, _, _, _, _, _, m.f_many) 0 (Or.inl ⟨rfl, rfl⟩) (by omega) (by omega)
    · rintro q ⟨y3, y2, u1, u2, u3, u4, u5, u6, as, mn⟩ (e0 | ⟨i, e0, e1, e2⟩)
      · omega
      have e1 : y3 = _ := e1
      have e2 : y2 = _ := e2
      subst e1 e2
      show p_X8_feels_33 F (nI nA) (nI nC) am.q_rule (nI rs) m.f_now m.f_rule m.f_row (nI G) Post (q + 1) (nI nA) _ _ u1 u2 u3 u4 u5 u6 as mn
      rw [p_X8_feels_33_s]
      exact br_t (nI_le (Nat.le_refl _) (by omega)) (s8_tell (RL_nil _) (by decide) (fun s5 f5 h5 => c2 z i e0 _ _ _ _ _ _ _ _ _ _ h5))
    · rintro q a ⟨y3, y2, u1, u2, u3, u4, u5, u6, as, mn⟩ ha ec ih
      show p_X8_feels_33 F (nI nA) (nI nC) am.q_rule (nI rs) m.f_now m.f_rule m.f_row (nI G) Post (q + 1) (nI a) y3 y2 u1 u2 u3 u4 u5 u6 as mn
      rw [p_X8_feels_33_s]
      refine br_f (nI_ge ha (by omega)) ?_
      -- the counts are put to 0
      refine up_loop (fun q2 i s => p_X8_feels_48 F (nI nC) am.q_rule (nI rs) m.f_now m.f_rule (nI G) (nI a) y3 y2 u1 u2 u3 u4 u5 u6 as (p_X8_feels_33 F (nI nA) (nI nC) am.q_rule (nI rs) m.f_now m.f_rule m.f_row (nI G) Post q) Post q2 i s) (fun j s => ∀ i, i < j → s i = 0) 73 ?_ ?_ F mn 0 (fun i hi => absurd hi (by omega)) (by omega) (by omega)
      · intro q2 s hs
        show p_X8_feels_48 F (nI nC) am.q_rule (nI rs) m.f_now m.f_rule (nI G) (nI a) y3 y2 u1 u2 u3 u4 u5 u6 as (p_X8_feels_33 F (nI nA) (nI nC) am.q_rule (nI rs) m.f_now m.f_rule m.f_row (nI G) Post q) Post (q2 + 1) (nI 73) s
        rw [p_X8_feels_48_s]
        refine br_t (by decide) ?_
        generalize hP : (fun c => G.testBit c) = P at eT
        have eP : ∀ c, G.testBit c = P c := fun c => by rw [← hP]
        generalize hVv : (fun c => hwN R nC w a c nC) = V
        have eV : ∀ c, hwN R nC w a c nC = V c := fun c => by rw [← hVv]
        have eTa : T a = moM P V nC := by rw [mo_eq, ← hVv]; exact (eT a).symm
        refine up_loop (fun q3 i (v : Int32 × Value × Int32 × Int32 × Int32 × Int32 × Int32 × (Nat → Int32) × (Nat → Int32)) => p_X8_feels_72 F (nI nC) am.q_rule (nI rs) m.f_now m.f_rule (nI G) (nI a) y3 y2 (p_X8_feels_33 F (nI nA) (nI nC) am.q_rule (nI rs) m.f_now m.f_rule m.f_row (nI G) Post q) Post q3 i v.1 v.2.1 v.2.2.1 v.2.2.2.1 v.2.2.2.2.1 v.2.2.2.2.2.1 v.2.2.2.2.2.2.1 v.2.2.2.2.2.2.2.1 v.2.2.2.2.2.2.2.2) (fun j v => v.1 = nI (moM P V j) ∧ ∀ i, i < 73 → v.2.2.2.2.2.2.2.2 i = nI (cntE P V i j)) nC ?_ ?_ F (0, u1, u2, u3, u4, u5, u6, as, s) 0 ⟨rfl, hs⟩ (by omega) (by omega)
        · rintro q3 ⟨y5, v1, v2, v3, v4, v5, v6, v7, v8⟩ ⟨e5, _⟩
          have e5 : y5 = _ := e5
          subst e5
          show p_X8_feels_72 F (nI nC) am.q_rule (nI rs) m.f_now m.f_rule (nI G) (nI a) y3 y2 (p_X8_feels_33 F (nI nA) (nI nC) am.q_rule (nI rs) m.f_now m.f_rule m.f_row (nI G) Post q) Post (q3 + 1) (nI nC) (nI (moM P V nC)) v1 v2 v3 v4 v5 v6 v7 v8
          rw [p_X8_feels_72_s, ← eTa]
          unfold p_X8_feels_149
          have ta := tl a
          refine br_t (nI_le (Nat.le_refl _) (by omega)) ?_
          rcases ec with ⟨e0, e1⟩ | ⟨i, e0, e1, e2⟩
          · have e1 : y3 = 1000000 := e1
            subst e0
            refine br_t (by rw [e1]; exact nI_lt (b := 1000000) (by omega) (by omega)) (ih (nI (T 0), nI 0, _, _, _, _, _, _, _, _) (Or.inr ⟨0, rfl, rfl, rfl⟩))
          · have e1 : y3 = _ := e1
            have e2 : y2 = _ := e2
            subst e1 e2 e0
            have tb := tl (dpN T i)
            rw [nI_ltI (by omega) (by omega)]
            refine ⟨fun z => ih (nI (T (i + 1)), nI (i + 1), _, _, _, _, _, _, _, _) (Or.inr ⟨i + 1, rfl, ?_, ?_⟩), fun z => ih (nI (T (dpN T i)), nI (dpN T i), _, _, _, _, _, _, _, _) (Or.inr ⟨i + 1, rfl, ?_, ?_⟩)⟩
            · show _ = nI (T (if _ then _ else _)); rw [if_neg (by omega)]
            · show _ = nI (if _ then _ else _); rw [if_neg (by omega)]
            · show _ = nI (T (if _ then _ else _)); rw [if_pos (by omega)]
            · show _ = nI (if _ then _ else _); rw [if_pos (by omega)]
        · rintro q3 c ⟨y5, v1, v2, v3, v4, v5, v6, v7, v8⟩ hc ⟨e5, e6⟩ ih3
          have e5 : y5 = _ := e5
          have e6' : ∀ i, i < 73 → v8 i = nI (cntE P V i c) := e6
          subst e5
          show p_X8_feels_72 F (nI nC) am.q_rule (nI rs) m.f_now m.f_rule (nI G) (nI a) y3 y2 (p_X8_feels_33 F (nI nA) (nI nC) am.q_rule (nI rs) m.f_now m.f_rule m.f_row (nI G) Post q) Post (q3 + 1) (nI c) (nI (moM P V c)) v1 v2 v3 v4 v5 v6 v7 v8
          rw [p_X8_feels_72_s]
          unfold p_X8_has p_X8_feels_128
          rw [fz_bit1 (by omega) (by omega), eP]
          refine br_f (nI_ge hc (by omega)) ⟨fun z => ⟨fun y => absurd rfl y, fun _ => ih3 (nI (moM P V c), v1, v2, v3, v4, v5, v6, v7, v8) ⟨?_, fun i hi => ?_⟩⟩, fun z => ⟨fun _ => s8_holdW (sl := c) hF hRM hM ok (by omega) (Or.inl ⟨by omega, rfl⟩) (Or.inl hc) (fun v => ?_), fun y => absurd y (by decide)⟩⟩
          · show _ = nI (moM P V (c + 1)); rw [moM, if_neg z]
          · show v8 i = _; rw [e6' i hi, cntE, if_neg (fun y => z y.1)]; rfl
          · rw [eV]
            have l1 := hwN_le R nC w a c nC
            rw [eV] at l1
            have iv : vp_in (nI (V c)) 73 := pk_in (V c) 73 (by omega)
            refine ⟨iv, iv, iv, ?_⟩
            rw [nI_clamp (n := V c) (by omega), pk_us, e6' (V c) (by omega), nI_1 (cntE P V (V c) c)]
            have l2 := cntE_le P V (V c) c
            have l3 := moM_le P V c
            refine ih3 (_, _, _, _, _, _, _, _, _) ⟨?_, fun i hi => ?_⟩
            · show (if nI (moM P V c) < nI (cntE P V (V c) c + 1) then nI (cntE P V (V c) c + 1) else nI (moM P V c)) = nI (moM P V (c + 1))
              rw [moM, if_pos z]
              by_cases y : moM P V c < cntE P V (V c) c + 1
              · rw [if_pos y, if_pos (nI_lt y (by omega))]
              · rw [if_neg y, if_neg (nI_nlt (by omega) (by omega))]
            · show upd v8 (V c) _ i = _
              rw [upd_i, cntE]
              by_cases y : i = V c
              · subst y; rw [if_pos rfl, if_pos ⟨z, rfl⟩]
              · rw [if_neg y, if_neg (fun u => y u.2.symm), e6' i hi]; rfl
      · intro q2 j s hj hs ih2
        show p_X8_feels_48 F (nI nC) am.q_rule (nI rs) m.f_now m.f_rule (nI G) (nI a) y3 y2 u1 u2 u3 u4 u5 u6 as (p_X8_feels_33 F (nI nA) (nI nC) am.q_rule (nI rs) m.f_now m.f_rule m.f_row (nI G) Post q) Post (q2 + 1) (nI j) s
        rw [p_X8_feels_48_s, nI_clamp (n := j) (by omega)]
        refine br_f (nI_nlt (a := 72) (b := j) (by omega) (by omega)) ⟨pk_in j 73 hj, ih2 _ (fun i hi => ?_)⟩
        rw [upd_i]
        split
        · rfl
        · exact hs i (by omega)
  have cl : ∀ Post : Int32 → (Int32 × (Nat → Int32) × (Nat → Int32) × Int32 × (Nat → Int64)) → Prop, ((G = 0 ∨ nA = 0) → Post (-2) (t, st, p2, x.x_told_size, x.f_told_numbers)) → (¬ G = 0 → ∀ i, nA = i + 1 → ∀ s5 f5, RLw ([] ++ [(nI (T (dpN T i))).toInt64]) s5 f5 → Post (nI (dpN T i)) (t, st, p2, s5, f5)) → p_X7_feels_17 F x.x_now_arches (nI nC) x.f_now_place x.x_told_size x.f_told_numbers (t, st, p2) (nI G) Post F 0 0 (-2) := by
    intro Post c1 c2
    refine up_loop (fun q i (s : Int32 × Int32) => p_X7_feels_17 F x.x_now_arches (nI nC) x.f_now_place x.x_told_size x.f_told_numbers (t, st, p2) (nI G) Post q i s.1 s.2) (fun j s => (j = 0 ∧ s.2 = -2) ∨ (¬ G = 0 ∧ ∃ i, j = i + 1 ∧ s.1 = nI (T (dpN T i)) ∧ s.2 = nI (dpN T i))) nA ?_ ?_ F (0, -2) 0 (Or.inl ⟨rfl, rfl⟩) (by omega) (by omega)
    · rintro q ⟨y3, y2⟩ ec
      show p_X7_feels_17 F x.x_now_arches (nI nC) x.f_now_place x.x_told_size x.f_told_numbers (t, st, p2) (nI G) Post (q + 1) (nI nA) y3 y2
      rw [p_X7_feels_17_s]
      unfold p_X7_feels_66
      refine br_t (by rw [hV.1]; exact nI_le (Nat.le_refl _) (by omega)) ?_
      rcases ec with ⟨e0, e1⟩ | ⟨g, i, e0, e1, e2⟩
      · have e1 : y2 = -2 := e1
        exact s7_told (Or.inl e1) (fun _ => c1 (Or.inr e0)) (fun z => absurd e1 z)
      · have e1 : y3 = _ := e1
        have e2 : y2 = _ := e2
        subst e1 e2
        have := dpN_le T i
        exact s7_told (Or.inr ⟨_, by omega, rfl⟩) (fun z => absurd z (nI_ne_m2 (by omega))) (fun _ s5 f5 h5 => c2 g i e0 _ _ h5)
    · rintro q a ⟨y3, y2⟩ ha ec ih
      show p_X7_feels_17 F x.x_now_arches (nI nC) x.f_now_place x.x_told_size x.f_told_numbers (t, st, p2) (nI G) Post (q + 1) (nI a) y3 y2
      rw [p_X7_feels_17_s, g0]
      refine br_f (by rw [hV.1]; exact nI_ge ha (by omega)) ⟨fun z => ?_, fun z => s7_mostLeft hF hC hp hp2 hG8 ?_⟩
      · unfold p_X7_feels_66
        rcases ec with ⟨e0, e1⟩ | ⟨g, _⟩
        · have e1 : y2 = -2 := e1
          exact s7_told (Or.inl e1) (fun _ => c1 (Or.inl z)) (fun z => absurd e1 z)
        · exact absurd z g
      · rw [eT a]
        unfold p_X7_feels_54 p_X7_feels_60
        have ta := tl a
        rcases ec with ⟨e0, e1⟩ | ⟨g, i, e0, e1, e2⟩
        · have e1 : y2 = -2 := e1
          subst e0
          exact br_t e1 (ih (nI (T 0), nI 0) (Or.inr ⟨z, 0, rfl, rfl, rfl⟩))
        · have e1 : y3 = _ := e1
          have e2 : y2 = _ := e2
          subst e1 e2 e0
          have := dpN_le T i
          have tb := tl (dpN T i)
          rw [nI_leI (by omega) (by omega)]
          refine br_f (nI_ne_m2 (by omega)) ⟨fun z2 => ih (nI (T (dpN T i)), nI (dpN T i)) (Or.inr ⟨z, i + 1, rfl, ?_, ?_⟩), fun z2 => ih (nI (T (i + 1)), nI (i + 1)) (Or.inr ⟨z, i + 1, rfl, ?_, ?_⟩)⟩
          · show _ = nI (T (if _ then _ else _)); rw [if_pos z2]
          · show _ = nI (if _ then _ else _); rw [if_pos z2]
          · show _ = nI (T (if _ then _ else _)); rw [if_neg z2]
          · show _ = nI (if _ then _ else _); rw [if_neg z2]
  refine cl _ (fun hg => ?_) (fun hg i hi s5 f5 h5 => ?_)
  · unfold p8_feels
    rw [eA, eC, ers]
    refine md _ (fun _ u1 u2 u3 u4 u5 u6 as mn => ?_) (fun hg2 i hi => absurd hg (by rintro (y | y); exact hg2 y; omega))
    exact ⟨rfl, nA, nC, R, w, ok, hV0, hM, rfl, rfl, hT, hW, ⟨hRX, rs, rfl, hRM⟩, hN, hE, hH, hK⟩
  · unfold p8_feels
    rw [eA, eC, ers]
    refine md _ (fun hg2 => absurd hg2 (by rintro (y | y); exact hg y; omega)) (fun _ i2 hi2 s6 f6 u1 u2 u3 u4 u5 u6 as mn h6 => ?_)
    have : i2 = i := by omega
    subst this
    exact ⟨rfl, nA, nC, R, w, ok, hV0, hM, rfl, rfl, hT, RWr_of (by show 1 ≤ 8; omega) h5 h6, ⟨hRX, rs, rfl, hRM⟩, hN, hE, hH, hK⟩
end
