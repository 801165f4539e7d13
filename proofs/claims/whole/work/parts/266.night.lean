/-! ===== call: night, the text ===== -/
def dA (c : Nat) : Nat := if c = 102 then 2 else if c = 103 then 2 else if c = 108 then 2 else if c = 110 then 1 else if c = 112 then 1 else if c = 115 then 2 else 0
def pA (b : Nat → Nat) : Nat → Nat
  | 0 => 0
  | k + 1 => pA b k + (1 + dA (b (pA b k)))
def lo2 (c : Nat) : Nat := if c = 102 then 49 else if c = 103 then 49 else 48
def niR (t : Nat) (b : Nat → Nat) : Nat → Nat → Bool × Nat
  | 0, _ => (false, 0)
  | n + 1, k => if t ≤ pA b k then (true, k) else if ¬ (pA b k < 60 ∧ ¬ dA (b (pA b k)) = 0) then (false, pA b k) else if ¬ (pA b k + 1 < t ∧ pA b k + 1 < 60 ∧ 48 ≤ b (pA b k + 1) ∧ b (pA b k + 1) ≤ 57) then (false, pA b k + 1) else if dA (b (pA b k)) = 1 then niR t b n (k + 1) else if ¬ (pA b k + 2 < t ∧ pA b k + 2 < 60 ∧ lo2 (b (pA b k)) ≤ b (pA b k + 2) ∧ b (pA b k + 2) ≤ 57) then (false, pA b k + 2) else niR t b n (k + 1)
def gdA (t : Nat) (b : Nat → Nat) (k : Nat) : Prop := ¬ dA (b (pA b k)) = 0 ∧ pA b k + dA (b (pA b k)) < t ∧ isD (b (pA b k + 1)) ∧ (dA (b (pA b k)) = 2 → isD (b (pA b k + 2)))
theorem dA_12 (c : Nat) : dA c = 0 ∨ dA c = 1 ∨ dA c = 2 := by
  unfold dA
  repeat' split
  all_goals omega
theorem lo2_48 (c : Nat) : 48 ≤ lo2 c := by
  unfold lo2
  repeat' split
  all_goals omega
theorem niR_t {t : Nat} {b : Nat → Nat} : ∀ {n k K}, niR t b n k = (true, K) → k ≤ K ∧ t ≤ pA b K ∧ ∀ i, k ≤ i → i < K → gdA t b i
  | 0, k, K, h => by rw [niR] at h; exact absurd (congrArg Prod.fst h) (by simp)
  | n + 1, k, K, h => by
    rw [niR] at h
    by_cases q0 : t ≤ pA b k
    · rw [if_pos q0] at h
      have : k = K := congrArg Prod.snd h
      subst this
      exact ⟨Nat.le_refl _, q0, fun i h1 h2 => absurd h1 (by omega)⟩
    rw [if_neg q0] at h
    by_cases q1 : pA b k < 60 ∧ ¬ dA (b (pA b k)) = 0
    · rw [if_neg (fun z => z q1)] at h
      by_cases q2 : pA b k + 1 < t ∧ pA b k + 1 < 60 ∧ 48 ≤ b (pA b k + 1) ∧ b (pA b k + 1) ≤ 57
      · rw [if_neg (fun z => z q2)] at h
        by_cases q3 : dA (b (pA b k)) = 1
        · rw [if_pos q3] at h
          obtain ⟨r1, r2, r3⟩ := niR_t h
          refine ⟨by omega, r2, fun i h1 h2 => ?_⟩
          by_cases e : i = k
          · subst e; exact ⟨q1.2, by omega, q2.2.2, fun z => absurd z (by omega)⟩
          · exact r3 i (by omega) h2
        · rw [if_neg q3] at h
          by_cases q4 : pA b k + 2 < t ∧ pA b k + 2 < 60 ∧ lo2 (b (pA b k)) ≤ b (pA b k + 2) ∧ b (pA b k + 2) ≤ 57
          · rw [if_neg (fun z => z q4)] at h
            obtain ⟨r1, r2, r3⟩ := niR_t h
            refine ⟨by omega, r2, fun i h1 h2 => ?_⟩
            by_cases e : i = k
            · subst e
              have := dA_12 (b (pA b i))
              have := lo2_48 (b (pA b i))
              exact ⟨q1.2, by omega, q2.2.2, fun _ => ⟨by omega, by omega⟩⟩
            · exact r3 i (by omega) h2
          · rw [if_pos q4] at h; exact absurd (congrArg Prod.fst h) (by simp)
      · rw [if_pos q2] at h; exact absurd (congrArg Prod.fst h) (by simp)
    · rw [if_pos q1] at h; exact absurd (congrArg Prod.fst h) (by simp)
theorem s7_digs {F c : Nat} {Post : Int32 → Prop} (hc : c < 256) (k : Post (nI (dA c))) : p_X7_digitsOfAct F (nI c) Post := by
  unfold p_X7_digitsOfAct
  unfold dA at k
  have e : ∀ n, n < 256 → ((nI c = nI n) ↔ c = n) := fun n hn => nI_eq (by omega) (by omega)
  refine ⟨fun z => ?_, fun z => ⟨fun z2 => ?_, fun z2 => ⟨fun z3 => ?_, fun z3 => ⟨fun z4 => ?_, fun z4 => ⟨fun z5 => ?_, fun z5 => ⟨fun z6 => ?_, fun z6 => ?_⟩⟩⟩⟩⟩⟩
  · rw [if_pos ((e 102 (by omega)).1 z)] at k; exact k
  · rw [if_neg (fun y => z ((e 102 (by omega)).2 y)), if_pos ((e 103 (by omega)).1 z2)] at k; exact k
  · rw [if_neg (fun y => z ((e 102 (by omega)).2 y)), if_neg (fun y => z2 ((e 103 (by omega)).2 y)), if_pos ((e 108 (by omega)).1 z3)] at k; exact k
  · rw [if_neg (fun y => z ((e 102 (by omega)).2 y)), if_neg (fun y => z2 ((e 103 (by omega)).2 y)), if_neg (fun y => z3 ((e 108 (by omega)).2 y)), if_pos ((e 110 (by omega)).1 z4)] at k; exact k
  · rw [if_neg (fun y => z ((e 102 (by omega)).2 y)), if_neg (fun y => z2 ((e 103 (by omega)).2 y)), if_neg (fun y => z3 ((e 108 (by omega)).2 y)), if_neg (fun y => z4 ((e 110 (by omega)).2 y)), if_pos ((e 112 (by omega)).1 z5)] at k; exact k
  · rw [if_neg (fun y => z ((e 102 (by omega)).2 y)), if_neg (fun y => z2 ((e 103 (by omega)).2 y)), if_neg (fun y => z3 ((e 108 (by omega)).2 y)), if_neg (fun y => z4 ((e 110 (by omega)).2 y)), if_neg (fun y => z5 ((e 112 (by omega)).2 y)), if_pos ((e 115 (by omega)).1 z6)] at k; exact k
  · rw [if_neg (fun y => z ((e 102 (by omega)).2 y)), if_neg (fun y => z2 ((e 103 (by omega)).2 y)), if_neg (fun y => z3 ((e 108 (by omega)).2 y)), if_neg (fun y => z4 ((e 110 (by omega)).2 y)), if_neg (fun y => z5 ((e 112 (by omega)).2 y)), if_neg (fun y => z6 ((e 115 (by omega)).2 y))] at k; exact k
section
variable {F t : Nat} {b : Nat → Nat} {len : Int32} {s : Nat → Int32} {Post : Int32 → Prop}
theorem fn_65 {p lo : Nat} {y2 y1 : Int32} {k6 : Int32 → Int32 → Int32 → Prop} (hT : TXc t b len s) (hp : p < t) (hlo : lo = 0 ∨ lo = 1) (good : 48 + lo ≤ b p → b p ≤ 57 → k6 (nI p + 1) (y2 + -1) y1) (bad : ¬ (48 + lo ≤ b p ∧ b p ≤ 57) → Post (nI p)) : p_X5_faultInNight_65 F len s (nI p) y2 y1 k6 Post (nI lo) := by
  have hb := (hT.2.2 p hp).1
  unfold p_X5_faultInNight_65 p_X5_faultInNight_82 p_X5_faultInNight_90
  refine s5_digit hT hp (fun d => ?_) (fun d => ?_)
  · obtain ⟨d1, d2⟩ := d
    rcases hlo with rfl | rfl
    · exact br_t rfl (br_t (nI_le (a := 0) (by omega) (by omega)) (good (by omega) d2))
    · refine br_f (by decide) ⟨fun z => good ?_ d2, fun z => bad (fun y => z (nI_le (a := 1) (by omega) (by omega)))⟩
      have := (nI_leI (a := 1) (by omega) (by omega)).1 z
      omega
  · unfold isD at d
    have bb := bad (by omega)
    rcases hlo with rfl | rfl
    · exact br_t rfl (br_f (by decide) bb)
    · exact br_f (by decide) (br_f (by decide) bb)
theorem s5_night (hT : TXc t b len s) : ∀ (n k G : Nat) (y1 : Int32), 82 ≤ 2 * n + pA b k → pA b k ≤ t → pA b k ≤ 60 → 3 * n + 3 < G → Post (rI (niR t b n k)) → p_X5_faultInNight_6 F len s Post G (nI (pA b k)) 0 y1
  | 0, k, G, y1, h1, h2, h3, _, _ => absurd h1 (by omega)
  | n + 1, k, G, y1, h1, h2, h3, hG, kk => by
    obtain ⟨G', rfl⟩ : ∃ G', G = G' + 1 + 1 + 1 := ⟨G - 3, by omega⟩
    have ht := hT.1
    rw [niR] at kk
    have en : pA b (k + 1) = pA b k + (1 + dA (b (pA b k))) := rfl
    have ih := s5_night hT n (k + 1)
    rw [en] at ih
    generalize pA b k = p at *
    rw [p_X5_faultInNight_6_s]
    by_cases q0 : t ≤ p
    · rw [if_pos q0] at kk
      exact br_t (by rw [hT.2.1]; exact nI_le q0 (by omega)) ⟨fun z => absurd rfl z, fun _ => kk⟩
    rw [if_neg q0] at kk
    have hb := (hT.2.2 p (by omega)).1
    refine br_f (by rw [hT.2.1]; exact nI_ge (by omega) (by omega)) ?_
    by_cases q6 : p = 60
    · rw [if_pos (by omega)] at kk
      exact ⟨fun z => absurd (by rw [q6]; rfl) z, fun _ => kk⟩
    refine ⟨fun _ => ⟨fun z => absurd rfl z, fun _ => s5_at hT (by omega) (s7_digs hb ⟨fun z => ?_, fun z => ?_⟩)⟩, fun z => absurd ((nI_eq (b := 60) (by omega) (by omega)).1 z) q6⟩
    · have d0 : ¬ dA (b p) = 0 := fun y => z (by rw [y]; rfl)
      rw [if_neg (fun z => z ⟨by omega, d0⟩)] at kk
      unfold p_X5_faultInNight_90
      rw [show nI p + 1 = nI (p + 1) from (nI_succ _).symm, p_X5_faultInNight_6_s]
      have d12 := dA_12 (b p)
      have yn : ¬ nI (dA (b p)) = 0 := z
      by_cases q1 : t ≤ p + 1
      · rw [if_pos (by omega)] at kk
        have e : len = nI (p + 1) := by rw [hT.2.1]; congr 1; omega
        exact br_t (by rw [hT.2.1]; exact nI_le q1 (by omega)) ⟨fun _ => by rw [e]; exact kk, fun y => absurd y yn⟩
      refine br_f (by rw [hT.2.1]; exact nI_ge (by omega) (by omega)) ?_
      by_cases q7 : p + 1 = 60
      · rw [if_pos (by omega)] at kk
        exact ⟨fun z => absurd (by rw [q7]; rfl) z, fun _ => kk⟩
      refine ⟨fun _ => ⟨fun _ => ?_, fun y => absurd y yn⟩, fun z => absurd ((nI_eq (b := 60) (by omega) (by omega)).1 z) q7⟩
      have bad1 : ¬ (48 + 0 ≤ b (p + 1) ∧ b (p + 1) ≤ 57) → Post (nI (p + 1)) := by
        intro y
        rw [if_pos (by omega)] at kk
        exact kk
      by_cases q3 : dA (b p) = 1
      · have c1 : b p = 110 ∨ b p = 112 := by
          unfold dA at q3
          repeat' split at q3
          all_goals omega
        rw [q3] at ih ⊢
        refine ⟨fun z => absurd rfl z, fun _ => br_f (fun y => ?_) ⟨fun _ => ?_, fun y => ?_⟩⟩
        · have := (nI_eq (b := 102) (by omega) (by omega)).1 y; omega
        · refine fn_65 (lo := 0) hT (by omega) (Or.inl rfl) (fun g1 g2 => ?_) bad1
          rw [if_neg (fun z => z ⟨by omega, by omega, by omega, by omega⟩), if_pos q3] at kk
          rw [show nI (p + 1) + 1 = nI (p + (1 + 1)) from (nI_succ _).symm]
          exact ih _ _ (by omega) (by omega) (by omega) (by omega) kk
        · have := (nI_eq (b := 103) (by omega) (by omega)).1 y; omega
      · have q4 : dA (b p) = 2 := by omega
        rw [q4] at ih ⊢
        refine ⟨fun _ => fn_65 (lo := 0) hT (by omega) (Or.inl rfl) (fun g1 g2 => ?_) bad1, fun y => absurd y (by decide)⟩
        rw [if_neg (fun z => z ⟨by omega, by omega, by omega, by omega⟩), if_neg q3] at kk
        rw [show nI (p + 1) + 1 = nI (p + 2) from (nI_succ _).symm, show nI 2 + (-1 : Int32) = 1 from rfl, p_X5_faultInNight_6_s]
        by_cases q5 : t ≤ p + 2
        · rw [if_pos (by omega)] at kk
          have e : len = nI (p + 2) := by rw [hT.2.1]; congr 1; omega
          exact br_t (by rw [hT.2.1]; exact nI_le q5 (by omega)) ⟨fun _ => by rw [e]; exact kk, fun y => absurd y (by decide)⟩
        refine br_f (by rw [hT.2.1]; exact nI_ge (by omega) (by omega)) ?_
        by_cases q8 : p + 2 = 60
        · rw [if_pos (by omega)] at kk
          exact ⟨fun z => absurd (by rw [q8]; rfl) z, fun _ => kk⟩
        refine ⟨fun _ => ⟨fun _ => ⟨fun z => absurd rfl z, fun _ => ?_⟩, fun y => absurd y (by decide)⟩, fun z => absurd ((nI_eq (b := 60) (by omega) (by omega)).1 z) q8⟩
        have fin : ∀ lo, (lo = 0 ∨ lo = 1) → 48 + lo = lo2 (b p) → p_X5_faultInNight_65 F len s (nI (p + 2)) 1 (nI (b p)) (p_X5_faultInNight_6 F len s Post G') Post (nI lo) := by
          intro lo hlo el
          refine fn_65 hT (by omega) hlo (fun g1 g2 => ?_) (fun y => ?_)
          · rw [if_neg (fun z => z ⟨by omega, by omega, by omega, by omega⟩)] at kk
            rw [show nI (p + 2) + 1 = nI (p + (1 + 2)) from (nI_succ _).symm]
            exact ih _ _ (by omega) (by omega) (by omega) (by omega) kk
          · rw [if_pos (by omega)] at kk; exact kk
        refine ⟨fun y => fin 1 (Or.inr rfl) ?_, fun y => ⟨fun y2 => fin 0 (Or.inl rfl) ?_, fun y2 => fin 1 (Or.inr rfl) ?_⟩⟩
        · have := (nI_eq (b := 102) (by omega) (by omega)).1 y
          unfold lo2; rw [if_pos this]
        · unfold lo2
          rw [if_neg (fun x => y (by rw [x]; rfl)), if_neg (fun x => y2 (by rw [x]; rfl))]
        · have := (nI_eq (b := 103) (by omega) (by omega)).1 y2
          unfold lo2; rw [if_neg (by omega), if_pos this]
    · have d0 : dA (b p) = 0 := (nI_eq (b := 0) (by have := dA_12 (b p); omega) (by omega)).1 z
      rw [if_pos (fun y => y.2 d0)] at kk
      exact kk
end
