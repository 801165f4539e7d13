/-! ===== texts of lines: the class's fault ===== -/
section
variable {F t k E n3 n4 p c j n : Nat} {b : Nat → Nat} {len : Int32} {s : Nat → Int32} {p2 : Int32} {k18 : Int32 → Int32 → Int32 → Prop} {Post : Int32 → Prop}
theorem fl_97 {p1 p3 y8 y7 y6 : Int32} (kk : Post y8) : p_X5_faultInLines_97 F p1 p2 p3 y8 y7 y6 k18 Post := ⟨fun _ => kk, fun _ => ⟨fun _ => kk, fun z => absurd rfl z⟩⟩
theorem fl_93 (e2 : p2 * (nI k + 1) - 1 = nI E) (hp : p < 100) (hE : E < 100) (hj : j < 100) (h3 : n3 < 100) (hc : c < 10) (hk : k < 10) (bad : (p = E ∨ ¬ j < n3) → Post (nI p)) (good : ¬ p = E → j < n3 → (c + 1 ≤ k → k18 (nI p + 1) (nI c + 1) (nI j)) ∧ (¬ c + 1 ≤ k → k18 (nI p + 1) 0 (nI j + 1))) : p_X5_faultInLines_93 F (nI k) p2 (nI n3) (nI p) (nI c) (nI j) k18 Post := by
  unfold p_X5_faultInLines_93 p_X5_faultInLines_98 p_X5_faultInLines_136
  rw [e2]
  refine ⟨fun z => bad (Or.inl ((nI_eq (by omega) (by omega)).1 z)), fun z => br_f (by decide) ⟨fun y => ?_, fun y => bad (Or.inr (fun x => y (nI_lt x (by omega))))⟩⟩
  obtain ⟨g1, g2⟩ := good (fun x => z (by rw [x])) ((nI_ltI (by omega) (by omega)).1 y)
  rw [show nI c + 1 = nI (c + 1) from (nI_succ c).symm] at *
  refine ⟨fun x => g1 ((nI_leI (by omega) (by omega)).1 x), fun x => g2 (fun y => x (nI_le y (by omega)))⟩
theorem fl_D (hT : TXc t b len s) (hp : p < t) (hc : c < k) (hk : k < 10) (e2 : p2 * (nI k + 1) - 1 = nI E) (hE : E < 100) (hj : j < 100) (h3 : n3 < 100) (h4 : n4 ≤ 10) (bad : (¬ isD (b p) ∨ (c + 1 = k ∧ n4 ≤ b p - 48) ∨ p = E ∨ ¬ j < n3) → Post (nI p)) (good : isD (b p) → (c + 1 = k → b p - 48 < n4) → ¬ p = E → j < n3 → p_X5_faultInLines_18 F (nI k) p2 (nI n3) (nI n4) len s Post n (nI p + 1) (nI c + 1) (nI j)) : p_X5_faultInLines_18 F (nI k) p2 (nI n3) (nI n4) len s Post (n + 1) (nI p) (nI c) (nI j) := by
  have ht := hT.1
  rw [p_X5_faultInLines_18_s]
  unfold p_X5_faultInLines_67
  refine br_f (by rw [hT.2.1]; exact nI_ge hp (by omega)) ⟨fun _ => s5_digit hT hp (fun d => ?_) (fun d => ?_), fun z => absurd ((nI_eq (by omega) (by omega)).1 z) (by omega)⟩
  · have d2 := d
    obtain ⟨d3, d4⟩ := d2
    refine br_f (m1_ne (by omega)) (br_f (by decide) ?_)
    rw [show nI k - 1 = nI (k - 1) from pk_sub (b := 1) (by omega)]
    by_cases q : c + 1 = k
    · refine ⟨fun z => absurd (show nI c = nI (k - 1) from by rw [← q]; rfl) z, fun _ => s5_digit hT hp (fun _ => ⟨fun z => ?_, fun z => ?_⟩) (fun y => absurd d y)⟩
      · exact fl_97 (bad (Or.inr (Or.inl ⟨q, (nI_leI (by omega) (by omega)).1 z⟩)))
      · refine fl_93 e2 (by omega) hE hj h3 (by omega) hk (fun y => bad (Or.inr (Or.inr y))) (fun y1 y2 => ⟨fun _ => good d (fun _ => ?_) y1 y2, fun y => absurd y (by omega)⟩)
        apply Nat.lt_of_not_le
        exact fun y => z (nI_le y (by omega))
    · refine ⟨fun _ => ?_, fun z => absurd ((nI_eq (by omega) (by omega)).1 z) (by omega)⟩
      exact fl_93 e2 (by omega) hE hj h3 (by omega) hk (fun y => bad (Or.inr (Or.inr y))) (fun y1 y2 => ⟨fun _ => good d (fun y => absurd y q) y1 y2, fun y => absurd y (by omega)⟩)
  · exact br_t rfl (br_t rfl (fl_97 (bad (Or.inl d))))
theorem fl_S (hT : TXc t b len s) (hp : p < t) (hk : k < 10) (hk1 : 1 ≤ k) (e2 : p2 * (nI k + 1) - 1 = nI E) (hE : E < 100) (hj : j < 100) (h3 : n3 < 100) (bad : (¬ b p = 59 ∨ p = E ∨ ¬ j < n3) → Post (nI p)) (good : b p = 59 → ¬ p = E → j < n3 → p_X5_faultInLines_18 F (nI k) p2 (nI n3) (nI n4) len s Post n (nI p + 1) 0 (nI j + 1)) : p_X5_faultInLines_18 F (nI k) p2 (nI n3) (nI n4) len s Post (n + 1) (nI p) (nI k) (nI j) := by
  have ht := hT.1
  have hb := (hT.2.2 p hp).1
  rw [p_X5_faultInLines_18_s]
  unfold p_X5_faultInLines_67
  refine br_f (by rw [hT.2.1]; exact nI_ge hp (by omega)) ⟨fun z => absurd rfl z, fun _ => s5_at hT hp ⟨fun z => ?_, fun z => ?_⟩⟩
  · exact br_t rfl (fl_97 (bad (Or.inl (fun y => z (by rw [y]; rfl)))))
  · have z := (nI_eq (b := 59) (by omega) (by omega)).1 z
    refine br_f (by decide) ?_
    rw [show nI k - 1 = nI (k - 1) from pk_sub (b := 1) (by omega)]
    refine ⟨fun _ => ?_, fun y => absurd ((nI_eq (by omega) (by omega)).1 y) (by omega)⟩
    exact fl_93 e2 (by omega) hE hj h3 (by omega) hk (fun y => bad (Or.inr y)) (fun y1 y2 => ⟨fun y => absurd y (by omega), fun _ => good z y1 y2⟩)
theorem fl_end (hT : TXc t b len s) (h0 : ¬ t = 0) (hc : c < 10) (hk : k < 10) (k1 : c = k → Post (-1)) (k2 : ¬ c = k → Post (nI t)) : p_X5_faultInLines_18 F (nI k) p2 (nI n3) (nI n4) len s Post (n + 1) (nI t) (nI c) (nI j) := by
  have ht := hT.1
  rw [p_X5_faultInLines_18_s, hT.2.1]
  refine br_t (nI_le (Nat.le_refl _) (by omega)) ⟨fun z => absurd ((nI_eq (b := 0) (by omega) (by omega)).1 z) h0, fun _ => ⟨fun z => k2 (fun y => z (by rw [y])), fun z => k1 ((nI_eq (by omega) (by omega)).1 z)⟩⟩
end
def rI (r : Bool × Nat) : Int32 := if r.1 then -1 else nI r.2
/-! the lines of `arches`: (true, how many) or (false, where the fault is) -/
def arR (nA t : Nat) (b : Nat → Nat) : Nat → Nat → Bool × Nat
  | 0, _ => (false, 0)
  | n + 1, j => if nA + j = 6 then (false, 2 * j) else if ¬ (2 * j < t ∧ 48 ≤ b (2 * j) ∧ b (2 * j) ≤ 57) then (false, 2 * j) else if 2 * j + 1 = t then (true, j + 1) else if 2 * j + 1 < 11 ∧ b (2 * j + 1) = 59 then arR nA t b n (j + 1) else (false, 2 * j + 1)
theorem arR_t {nA t : Nat} {b : Nat → Nat} : ∀ {n j L}, nA + j ≤ 6 → arR nA t b n j = (true, L) → j < L ∧ nA + L ≤ 6 ∧ t = 2 * L - 1 ∧ ∀ i, j ≤ i → i < L → isD (b (2 * i))
  | 0, j, L, _, h => by rw [arR] at h; exact absurd (congrArg Prod.fst h) (by simp)
  | n + 1, j, L, hj, h => by
    rw [arR] at h
    by_cases q1 : nA + j = 6
    · rw [if_pos q1] at h; exact absurd (congrArg Prod.fst h) (by simp)
    rw [if_neg q1] at h
    by_cases q2 : 2 * j < t ∧ 48 ≤ b (2 * j) ∧ b (2 * j) ≤ 57
    · rw [if_neg (fun z => z q2)] at h
      by_cases q3 : 2 * j + 1 = t
      · rw [if_pos q3] at h
        have : j + 1 = L := congrArg Prod.snd h
        refine ⟨by omega, by omega, by omega, fun i h1 h2 => ?_⟩
        have : i = j := by omega
        subst this
        exact q2.2
      · rw [if_neg q3] at h
        by_cases q4 : 2 * j + 1 < 11 ∧ b (2 * j + 1) = 59
        · rw [if_pos q4] at h
          obtain ⟨r1, r2, r3, r4⟩ := arR_t (j := j + 1) (by omega) h
          refine ⟨by omega, r2, r3, fun i h1 h2 => ?_⟩
          by_cases e : i = j
          · subst e; exact q2.2
          · exact r4 i (by omega) h2
        · rw [if_neg q4] at h; exact absurd (congrArg Prod.fst h) (by simp)
    · rw [if_pos q2] at h; exact absurd (congrArg Prod.fst h) (by simp)
section
variable {F nA t : Nat} {b : Nat → Nat} {len : Int32} {s : Nat → Int32}
theorem s5_linesA {Post : Int32 → Prop} (hT : TXc t b len s) (h0 : ¬ t = 0) (hA : nA ≤ 6) : ∀ (n j G : Nat), n + j = 6 → 1 ≤ n → nA + j ≤ 6 → 2 * j ≤ t → 2 * n + 2 < G → Post (rI (arR nA t b n j)) → p_X5_faultInLines_18 F (nI 1) 6 (nI (6 - nA)) (nI 10) len s Post G (nI (2 * j)) (nI 0) (nI j)
  | 0, j, G, h1, h2, _, _, _, _ => absurd h2 (by omega)
  | n + 1, j, G, h1, _, h3, h4, hG, kk => by
    obtain ⟨G', rfl⟩ : ∃ G', G = G' + 1 := ⟨G - 1, by omega⟩
    have ht := hT.1
    rw [arR] at kk
    by_cases q0 : 2 * j = t
    · rw [q0]
      refine fl_end hT h0 (by omega) (by omega) (fun z => absurd z (by omega)) (fun _ => ?_)
      by_cases q1 : nA + j = 6
      · rw [if_pos q1, q0] at kk; exact kk
      · rw [if_neg q1, if_pos (by omega), q0] at kk; exact kk
    have bad : (¬ isD (b (2 * j)) ∨ (0 + 1 = 1 ∧ 10 ≤ b (2 * j) - 48) ∨ 2 * j = 11 ∨ ¬ j < 6 - nA) → Post (nI (2 * j)) := by
      intro y
      unfold isD at y
      by_cases q1 : nA + j = 6
      · rw [if_pos q1] at kk; exact kk
      · rw [if_neg q1, if_pos (by omega)] at kk; exact kk
    refine fl_D hT (by omega) (by omega) (by omega) (E := 11) rfl (by omega) (by omega) (by omega) (by omega) bad (fun d _ _ y => ?_)
    rw [if_neg (by omega), if_neg (fun z => z ⟨by omega, d⟩)] at kk
    obtain ⟨G2, rfl⟩ : ∃ G2, G' = G2 + 1 := ⟨G' - 1, by omega⟩
    rw [show nI (2 * j) + 1 = nI (2 * j + 1) from (nI_succ _).symm]
    show p_X5_faultInLines_18 F (nI 1) 6 (nI (6 - nA)) (nI 10) len s Post (G2 + 1) (nI (2 * j + 1)) (nI 1) (nI j)
    by_cases q3 : 2 * j + 1 = t
    · rw [if_pos q3] at kk
      rw [q3]
      exact fl_end hT h0 (by omega) (by omega) (fun _ => kk) (fun z => absurd rfl z)
    rw [if_neg q3] at kk
    refine fl_S hT (by omega) (by omega) (by omega) (E := 11) rfl (by omega) (by omega) (by omega) (fun z => ?_) (fun z1 z2 z3 => ?_)
    · rw [if_neg (by omega)] at kk; exact kk
    · rw [if_pos (by omega)] at kk
      rw [show nI (2 * j + 1) + 1 = nI (2 * (j + 1)) from (nI_succ _).symm, show nI j + 1 = nI (j + 1) from (nI_succ _).symm]
      exact s5_linesA hT h0 hA n (j + 1) G2 (by omega) (by omega) (by omega) (by omega) (by omega) kk
end
