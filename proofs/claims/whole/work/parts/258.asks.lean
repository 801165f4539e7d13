/-! ===== calls: asks ===== -/
def ctN (p : Nat → Bool) : Nat → Nat
  | 0 => 0
  | n + 1 => ctN p n + (if p n then 1 else 0)
theorem ctN_le (p : Nat → Bool) : ∀ n, ctN p n ≤ n
  | 0 => Nat.le_refl _
  | n + 1 => by have := ctN_le p n; rw [ctN]; split <;> omega
theorem ctN_and (p q : Nat → Bool) : ∀ n, ctN (fun c => p c && q c) n ≤ ctN p n
  | 0 => Nat.le_refl _
  | n + 1 => by
    have := ctN_and p q n
    rw [ctN, ctN]
    cases p n <;> cases q n <;> simp <;> omega
theorem ct_bit {m i : Nat} : m / 2 ^ i % 2 = if m.testBit i then 1 else 0 := by
  rw [Nat.testBit_eq_decide_div_mod_eq]
  have : m / 2 ^ i % 2 < 2 := Nat.mod_lt _ (by decide)
  by_cases q : m / 2 ^ i % 2 = 1
  · rw [q]; rfl
  · rw [decide_eq_false q]; simp; omega
theorem ct_ge {p : Nat → Bool} {n i : Nat} (h : n ≤ i) : (if (bN p n).testBit i then 1 else 0) = 0 := by
  rw [bN_bit, decide_eq_false (by omega)]; rfl
theorem ct_lt {p : Nat → Bool} {n i : Nat} (h : i < n) : (if (bN p n).testBit i then 1 else 0) = if p i then 1 else 0 := by
  rw [bN_bit, decide_eq_true h, Bool.true_and]
theorem pc8_sum (m : Nat) : pc8 m = (if m.testBit 0 then 1 else 0) + (if m.testBit 1 then 1 else 0) + (if m.testBit 2 then 1 else 0) + (if m.testBit 3 then 1 else 0) + (if m.testBit 4 then 1 else 0) + (if m.testBit 5 then 1 else 0) + (if m.testBit 6 then 1 else 0) + (if m.testBit 7 then 1 else 0) := by
  rw [← ct_bit, ← ct_bit, ← ct_bit, ← ct_bit, ← ct_bit, ← ct_bit, ← ct_bit, ← ct_bit, Nat.pow_zero, Nat.div_one]
  rfl
theorem pc8_bN (p : Nat → Bool) {n : Nat} (h : n ≤ 8) : pc8 (bN p n) = ctN p n := by
  rw [pc8_sum]
  have hn : n = 0 ∨ n = 1 ∨ n = 2 ∨ n = 3 ∨ n = 4 ∨ n = 5 ∨ n = 6 ∨ n = 7 ∨ n = 8 := by omega
  rcases hn with rfl | rfl | rfl | rfl | rfl | rfl | rfl | rfl | rfl
  · rw [ct_ge (by decide), ct_ge (by decide), ct_ge (by decide), ct_ge (by decide), ct_ge (by decide), ct_ge (by decide), ct_ge (by decide), ct_ge (by decide)]; rfl
  · rw [ct_lt (by decide), ct_ge (by decide), ct_ge (by decide), ct_ge (by decide), ct_ge (by decide), ct_ge (by decide), ct_ge (by decide), ct_ge (by decide)]; simp [ctN]
  · rw [ct_lt (by decide), ct_lt (by decide), ct_ge (by decide), ct_ge (by decide), ct_ge (by decide), ct_ge (by decide), ct_ge (by decide), ct_ge (by decide)]; simp [ctN]
  · rw [ct_lt (by decide), ct_lt (by decide), ct_lt (by decide), ct_ge (by decide), ct_ge (by decide), ct_ge (by decide), ct_ge (by decide), ct_ge (by decide)]; simp [ctN]
  · rw [ct_lt (by decide), ct_lt (by decide), ct_lt (by decide), ct_lt (by decide), ct_ge (by decide), ct_ge (by decide), ct_ge (by decide), ct_ge (by decide)]; simp [ctN]
  · rw [ct_lt (by decide), ct_lt (by decide), ct_lt (by decide), ct_lt (by decide), ct_lt (by decide), ct_ge (by decide), ct_ge (by decide), ct_ge (by decide)]; simp [ctN]
  · rw [ct_lt (by decide), ct_lt (by decide), ct_lt (by decide), ct_lt (by decide), ct_lt (by decide), ct_lt (by decide), ct_ge (by decide), ct_ge (by decide)]; simp [ctN]
  · rw [ct_lt (by decide), ct_lt (by decide), ct_lt (by decide), ct_lt (by decide), ct_lt (by decide), ct_lt (by decide), ct_lt (by decide), ct_ge (by decide)]; simp [ctN]
  · rw [ct_lt (by decide), ct_lt (by decide), ct_lt (by decide), ct_lt (by decide), ct_lt (by decide), ct_lt (by decide), ct_lt (by decide), ct_lt (by decide)]; simp [ctN]
theorem bc_bN (p : Nat → Bool) {n : Nat} (h : n ≤ 8) : bcnt (nI (bN p n)) = nI (ctN p n) := by
  have h1 := bN_lt p n
  have h2 : 2 ^ n ≤ 2 ^ 8 := Nat.pow_le_pow_right (by decide) h
  rw [bcnt_d _ (by omega), pc8_bN p h]
theorem ct_zero {p : Nat → Bool} : ∀ {n}, ctN p n = 0 → ∀ i, i < n → p i = false
  | 0, _, _, hi => absurd hi (Nat.not_lt_zero _)
  | n + 1, h, i, hi => by
    rw [ctN] at h
    by_cases q : p n = true
    · rw [if_pos q] at h; omega
    · by_cases e : i = n
      · subst e; simpa using q
      · exact ct_zero (n := n) (by omega) i (by omega)
theorem a23_0 {F F2 : Nat} {nc sz r5 : Int32} {place joy grief bowl : Nat → Int32} {fn : Nat → Int64} {u1 : Int32 × (Nat → Int32) × (Nat → Int32)} {Post : Int32 → (Int32 × (Nat → Int32) × (Nat → Int32) × Int32 × (Nat → Int64)) → Prop} (hF : 0 < F2) (k : p_X7_asks_110 F sz fn u1 0 (-2) Post) : p_X7_asks_23 F nc place joy grief bowl sz fn u1 r5 (nI 0) Post F2 0 0 (-2) := by
  obtain ⟨F', rfl⟩ : ∃ F', F2 = F' + 1 := ⟨F2 - 1, by omega⟩
  rw [p_X7_asks_23_s]
  exact br_f (by decide) (br_t (by decide) k)
def aVw (S : Nat → Bool) (so : Nat → Nat → Bool) (nC k : Nat) : Nat := if ctN (fun c => S c && so k c) nC < ctN S nC - ctN (fun c => S c && so k c) nC then ctN S nC - ctN (fun c => S c && so k c) nC else ctN (fun c => S c && so k c) nC
theorem aV_8 {S : Nat → Bool} {so : Nat → Nat → Bool} {nC k : Nat} (h : nC ≤ 8) : aVw S so nC k ≤ 8 := by
  have := ctN_le S nC
  have := ctN_le (fun c => S c && so k c) nC
  unfold aVw
  split <;> omega
def dk (V : Nat → Nat) : Nat → Option (Nat × Nat)
  | 0 => none
  | k + 1 => if 26 ≤ k ∧ k ≤ 29 then dk V k else match dk V k with | none => some (k, V k) | some (i, v) => if V k < v then some (k, V k) else some (i, v)
theorem dk_none {V : Nat → Nat} : ∀ {k}, dk V k = none → k = 0
  | 0, _ => rfl
  | k + 1, h => by
    rw [dk] at h
    by_cases q : 26 ≤ k ∧ k ≤ 29
    · rw [if_pos q] at h
      have := dk_none h
      omega
    · rw [if_neg q] at h
      cases e : dk V k with
      | none => rw [e] at h; exact absurd h (by simp)
      | some p =>
        obtain ⟨i, v⟩ := p
        rw [e] at h
        by_cases q2 : V k < v
        · simp [q2] at h
        · simp [q2] at h
theorem dk_some {V : Nat → Nat} (hV : ∀ k, V k ≤ 8) : ∀ {k i v}, dk V k = some (i, v) → i < k ∧ v ≤ 8
  | 0, _, _, h => by rw [dk] at h; exact absurd h (by simp)
  | k + 1, i, v, h => by
    rw [dk] at h
    have vk := hV k
    by_cases q : 26 ≤ k ∧ k ≤ 29
    · rw [if_pos q] at h
      have := dk_some hV h
      omega
    · rw [if_neg q] at h
      cases e : dk V k with
      | none => rw [e] at h; simp at h; omega
      | some p =>
        obtain ⟨i2, v2⟩ := p
        have ih := dk_some hV e
        rw [e] at h
        by_cases q2 : V k < v2
        · simp [q2] at h; omega
        · simp [q2] at h; omega
theorem dk_30 {V : Nat → Nat} : dk V 30 = dk V 26 := by
  rw [show dk V 30 = dk V (29 + 1) from rfl, dk, if_pos (by decide), show dk V 29 = dk V (28 + 1) from rfl, dk, if_pos (by decide), show dk V 28 = dk V (27 + 1) from rfl, dk, if_pos (by decide), show dk V 27 = dk V (26 + 1) from rfl, dk, if_pos (by decide)]
def RC (o : Option (Nat × Nat)) (v i : Int32) : Prop := (o = none ∧ v = 0 ∧ i = -2) ∨ ∃ a b, o = some (a, b) ∧ i = nI a ∧ v = nI b
def RD (o : Option (Nat × Nat)) (v i : Int32) : Prop := (o = none ∧ v = 1000000 ∧ i = -1) ∨ ∃ a b, o = some (a, b) ∧ i = nI a ∧ v = nI b
def oI (j : Nat) : Nat := if j < 5 then 10 * j else 42
theorem if_nI {a b : Nat} (ha : a < 100) (hb : b < 100) : (if nI a < nI b then nI b else nI a) = nI (if a < b then b else a) := by
  by_cases q : a < b
  · rw [if_pos q, if_pos ((nI_ltI (by omega) (by omega)).2 q)]
  · rw [if_neg q, if_neg (fun z => q ((nI_ltI (by omega) (by omega)).1 z))]
def soA (R : (Nat → Int32) → Int32) (nC : Nat) (w : Nat → Int32) (k c : Nat) : Bool := soB R nC w c (nI (k / 10)) (nI (k % 10))
section
variable {F nA nC k rs q : Nat} {R : (Nat → Int32) → Int32} {w f rule asked : Nat → Int32} {S : Nat → Bool} {rd : Value} {ln tp at0 wr ia : Int32} {joy bowl grief place purrs : Nat → Int32}
theorem dk_s7 {V : Nat → Nat} {a j : Nat} {y3 y4 : Int32} {k23 k36 : Int32 → Int32 → Int32 → Prop} {r10 r56 : Int32} {Post : Int32 → (Int32 × (Nat → Int32) × (Nat → Int32) × Int32 × (Nat → Int64)) → Prop} (hV : ∀ k, V k ≤ 8) (hn : ¬ (26 ≤ 10 * a + j ∧ 10 * a + j ≤ 29)) (hk : 10 * a + j < 42) (h : RC (dk V (10 * a + j)) y4 y3) (ev : (if r56 < (r10 - r56) then (r10 - r56) else r56) = nI (V (10 * a + j))) (ih : ∀ y3' y4', RC (dk V (10 * a + j + 1)) y4' y3' → k36 (nI j + 1) y3' y4') : (y3 = -2 → p_X7_asks_85 F r10 r56 (nI a) (nI j) k23 k36 Post) ∧ (¬ y3 = -2 → ((y4 ≤ (if r56 < (r10 - r56) then (r10 - r56) else r56) → p_X7_asks_98 F (nI j) k23 k36 Post y3 y4) ∧ (¬ y4 ≤ (if r56 < (r10 - r56) then (r10 - r56) else r56) → p_X7_asks_85 F r10 r56 (nI a) (nI j) k23 k36 Post))) := by
  unfold p_X7_asks_85 p_X7_asks_98
  rw [ev]
  have ei : (10 : Int32) * nI a + nI j = nI (10 * a + j) := by
    rw [show (10 : Int32) = nI 10 from rfl, pk_mul, ← nI_add]
  rw [ei]
  rw [dk, if_neg hn] at ih
  rcases h with ⟨e, e1, e2⟩ | ⟨i, v, e, e1, e2⟩
  · subst e1 e2
    rw [e] at ih
    exact ⟨fun _ => ih _ _ (Or.inr ⟨_, _, rfl, rfl, rfl⟩), fun z => absurd rfl z⟩
  · subst e1 e2
    rw [e] at ih
    have b := dk_some hV e
    have vk := hV (10 * a + j)
    refine br_f (nI_ne_m2 (by omega)) ⟨fun z => ih _ _ (Or.inr ⟨i, v, ?_, rfl, rfl⟩), fun z => ih _ _ (Or.inr ⟨10 * a + j, V (10 * a + j), ?_, rfl, rfl⟩)⟩
    · have z := (nI_leI (by omega) (by omega)).1 z
      show (if V (10 * a + j) < v then some (10 * a + j, V (10 * a + j)) else some (i, v)) = _
      rw [if_neg (by omega)]
    · have z : ¬ v ≤ V (10 * a + j) := fun y => z ((nI_leI (by omega) (by omega)).2 y)
      show (if V (10 * a + j) < v then some (10 * a + j, V (10 * a + j)) else some (i, v)) = _
      rw [if_pos (by omega)]
theorem t7_asks {u1 : Int32 × (Nat → Int32) × (Nat → Int32)} {sz : Int32} {fn : Nat → Int64} {Post : Int32 → (Int32 × (Nat → Int32) × (Nat → Int32) × Int32 × (Nat → Int64)) → Prop} (hF : 5000 ≤ F) (hC : nC ≤ 8) (h3 : ∀ i, i < 8 → joy i = w (12 + i)) (h4 : ∀ i, i < 8 → bowl i = w (20 + i)) (h5 : ∀ i, i < 8 → grief i = w (28 + i)) (h6 : ∀ i, i < 8 → place i = w (36 + i)) (hpu : ∀ i, i < nC → u1.2.2 i = pO R nC w i) (h0 : ¬ ctN S nC = 0) (kk : ∀ y4 y3, RC (dk (aVw S (soA R nC w) nC) 42) y4 y3 → p_X7_asks_110 F sz fn u1 y4 y3 Post) : p_X7_asks_23 F (nI nC) place joy grief bowl sz fn u1 (nI (bN S nC)) (nI (ctN S nC)) Post F 0 0 (-2) := by
  have hc8 := ctN_le S nC
  refine up_loop (fun n i (s : Int32 × Int32) => p_X7_asks_23 F (nI nC) place joy grief bowl sz fn u1 (nI (bN S nC)) (nI (ctN S nC)) Post n i s.1 s.2) (fun j s => RC (dk (aVw S (soA R nC w) nC) (oI j)) s.1 s.2) 5 ?_ ?_ F (0, -2) 0 (Or.inl ⟨rfl, rfl, rfl⟩) (by omega) (by omega)
  · rintro n ⟨y4, y3⟩ hs
    show p_X7_asks_23 F (nI nC) place joy grief bowl sz fn u1 (nI (bN S nC)) (nI (ctN S nC)) Post (n + 1) (nI 5) y4 y3
    rw [p_X7_asks_23_s]
    exact br_t (by decide) (kk y4 y3 hs)
  · rintro n a ⟨y4, y3⟩ ha hs ih
    show p_X7_asks_23 F (nI nC) place joy grief bowl sz fn u1 (nI (bN S nC)) (nI (ctN S nC)) Post (n + 1) (nI a) y4 y3
    rw [p_X7_asks_23_s]
    refine br_f (nI_ge (b := 5) ha (by omega)) (br_f (nI_ge (a := 0) (by omega) (by omega)) ?_)
    have hi9 : hiH a ≤ 9 := by unfold hiH; split <;> (try split) <;> omega
    refine up_loop (fun n2 i (s : Int32 × Int32) => p_X7_asks_36 F (nI nC) place joy grief bowl u1 (nI (bN S nC)) (nI (ctN S nC)) (nI a) (p_X7_asks_23 F (nI nC) place joy grief bowl sz fn u1 (nI (bN S nC)) (nI (ctN S nC)) Post n) Post n2 i s.2 s.1) (fun j s => RC (dk (aVw S (soA R nC w) nC) (10 * a + j)) s.1 s.2) (hiH a + 1) ?_ ?_ F (y4, y3) 0 (by have hs : RC (dk _ (oI a)) y4 y3 := hs; unfold oI at hs; rw [if_pos ha] at hs; exact hs) (by omega) (by omega)
    · rintro n2 ⟨y4, y3⟩ hs
      have hs : RC _ y4 y3 := hs
      show p_X7_asks_36 F (nI nC) place joy grief bowl u1 (nI (bN S nC)) (nI (ctN S nC)) (nI a) (p_X7_asks_23 F (nI nC) place joy grief bowl sz fn u1 (nI (bN S nC)) (nI (ctN S nC)) Post n) Post (n2 + 1) (nI (hiH a + 1)) y3 y4
      rw [p_X7_asks_36_s]
      refine s7_high ha (br_t (nI_lt (by omega) (by omega)) (ih (y4, y3) ?_))
      show RC (dk _ (oI (a + 1))) y4 y3
      have c : a = 0 ∨ a = 1 ∨ a = 2 ∨ a = 3 ∨ a = 4 := by omega
      rcases c with rfl | rfl | rfl | rfl | rfl
      · exact hs
      · exact hs
      · have hs : RC (dk _ 26) y4 y3 := hs
        rw [← dk_30] at hs; exact hs
      · exact hs
      · exact hs
    · rintro n2 j ⟨y4, y3⟩ hj hs ih2
      have hs : RC _ y4 y3 := hs
      show p_X7_asks_36 F (nI nC) place joy grief bowl u1 (nI (bN S nC)) (nI (ctN S nC)) (nI a) (p_X7_asks_23 F (nI nC) place joy grief bowl sz fn u1 (nI (bN S nC)) (nI (ctN S nC)) Post n) Post (n2 + 1) (nI j) y3 y4
      rw [p_X7_asks_36_s]
      refine s7_high ha (br_f (nI_nlt (by omega) (by omega)) (s7_whom hF hC h3 h4 h5 h6 hpu (s_bitCount ?_)))
      rw [fz_and, bN_and, bc_bN _ hC]
      have e1 : (fun c => S c && soB R nC w c (nI a) (nI j)) = (fun c => S c && soA R nC w (10 * a + j) c) := by
        funext c
        unfold soA
        rw [show (10 * a + j) / 10 = a from by omega, show (10 * a + j) % 10 = j from by omega]
      rw [e1]
      have hc2 := ctN_and S (soA R nC w (10 * a + j)) nC
      have hh : ¬ (26 ≤ 10 * a + j ∧ 10 * a + j ≤ 29) ∧ 10 * a + j < 42 := by
        unfold hiH at hj
        by_cases q2 : a = 2
        · rw [if_pos q2] at hj; omega
        · by_cases q4 : a = 4
          · rw [if_neg q2, if_pos q4] at hj; omega
          · rw [if_neg q2, if_neg q4] at hj; omega
      refine dk_s7 (V := aVw S (soA R nC w) nC) (fun k => aV_8 hC) hh.1 hh.2 hs ?_ (fun y3' y4' h => ih2 (y4', y3') h)
      rw [pk_sub hc2, if_nI (by omega) (by omega)]
      rfl
theorem t8_asks {fn : Nat → Int64} {Post : Int32 → (Int32 × Int32 × Value × Int32 × Int32 × Int32 × Int32 × Int32 × (Nat → Int32) × (Nat → Int64)) → Prop} (hF : 5000 ≤ F) (hR : RM F R rs rule) (hM : MV w f) (ok : OK nA nC w) (kk : ∀ y3 y2 u1 u2 u3 u4 u5 u6 u7, RD (dk (aVw S (soA R nC w) nC) 42) y3 y2 → p_X8_tell F (y3.toInt64) 0 fn (fun u => Post y2 (u.1, 0, u1, u2, u3, u4, u5, u6, u7, u.2))) : p_X8_asks_26 F (nI nC) q (nI rs) f rule fn (nI (bN S nC)) Post F 0 1000000 (-1) rd ln tp at0 wr ia asked := by
  have hC := ok.2.1
  have hc8 := ctN_le S nC
  refine up_loop (fun n i (s : Int32 × Int32 × Value × Int32 × Int32 × Int32 × Int32 × Int32 × (Nat → Int32)) => p_X8_asks_26 F (nI nC) q (nI rs) f rule fn (nI (bN S nC)) Post n i s.1 s.2.1 s.2.2.1 s.2.2.2.1 s.2.2.2.2.1 s.2.2.2.2.2.1 s.2.2.2.2.2.2.1 s.2.2.2.2.2.2.2.1 s.2.2.2.2.2.2.2.2) (fun j s => RD (dk (aVw S (soA R nC w) nC) j) s.1 s.2.1) 42 ?_ ?_ F (1000000, -1, rd, ln, tp, at0, wr, ia, asked) 0 (Or.inl ⟨rfl, rfl, rfl⟩) (by omega) (by omega)
  · rintro n ⟨y3, y2, u1, u2, u3, u4, u5, u6, u7⟩ hs
    show p_X8_asks_26 F (nI nC) q (nI rs) f rule fn (nI (bN S nC)) Post (n + 1) (nI 42) y3 y2 u1 u2 u3 u4 u5 u6 u7
    rw [p_X8_asks_26_s]
    exact br_t (by decide) (kk y3 y2 _ _ _ _ _ _ _ hs)
  · rintro n k ⟨y3, y2, u1, u2, u3, u4, u5, u6, u7⟩ hk hs ih
    have hs : RD _ y3 y2 := hs
    show p_X8_asks_26 F (nI nC) q (nI rs) f rule fn (nI (bN S nC)) Post (n + 1) (nI k) y3 y2 u1 u2 u3 u4 u5 u6 u7
    rw [p_X8_asks_26_s]
    refine br_f (nI_ge (b := 42) hk (by omega)) ?_
    by_cases hn : 26 ≤ k ∧ k ≤ 29
    · refine s8_in (lo := 26) (hi := 29) hn.1 hn.2 (by omega) (br_f (by decide) (ih (y3, y2, u1, u2, u3, u4, u5, u6, u7) ?_))
      show RD (dk _ (k + 1)) y3 y2
      rw [dk, if_pos hn]
      exact hs
    · refine s8_nin ?_ (br_t rfl ?_)
      · by_cases q : k < 26
        · exact Or.inl (nI_lt (b := 26) q (by omega))
        · exact Or.inr (nI_lt (a := 29) (by omega) (by omega))
      have ih : ∀ y3 y2 u1 u2 u3 u4 u5 u6 u7, RD (match dk (aVw S (soA R nC w) nC) k with | none => some (k, aVw S (soA R nC w) nC k) | some (i, v) => if aVw S (soA R nC w) nC k < v then some (k, aVw S (soA R nC w) nC k) else some (i, v)) y3 y2 → p_X8_asks_26 F (nI nC) q (nI rs) f rule fn (nI (bN S nC)) Post n (nI k + 1) y3 y2 u1 u2 u3 u4 u5 u6 u7 := by
        intro y3 y2 u1 u2 u3 u4 u5 u6 u7 h
        refine ih (y3, y2, u1, u2, u3, u4, u5, u6, u7) ?_
        show RD (dk _ (k + 1)) y3 y2
        rw [dk, if_neg hn]
        exact h
      refine up_loop (fun n2 i (s : Int32 × Value × Int32 × Int32 × Int32 × Int32 × Int32 × (Nat → Int32)) => p_X8_asks_54 F (nI nC) q (nI rs) f rule (nI (bN S nC)) (nI k) y3 y2 (p_X8_asks_26 F (nI nC) q (nI rs) f rule fn (nI (bN S nC)) Post n) Post n2 i s.1 s.2.1 s.2.2.1 s.2.2.2.1 s.2.2.2.2.1 s.2.2.2.2.2.1 s.2.2.2.2.2.2.1 s.2.2.2.2.2.2.2) (fun j s => s.1 = nI (ctN (fun c => S c && soA R nC w k c) j)) nC ?_ ?_ F (0, u1, u2, u3, u4, u5, u6, u7) 0 rfl (by omega) (by omega)
      · rintro n2 ⟨s, v1, v2, v3, v4, v5, v6, v7⟩ he
        have he : s = _ := he
        subst he
        show p_X8_asks_54 F (nI nC) q (nI rs) f rule (nI (bN S nC)) (nI k) y3 y2 (p_X8_asks_26 F (nI nC) q (nI rs) f rule fn (nI (bN S nC)) Post n) Post (n2 + 1) (nI nC) (nI (ctN (fun c => S c && soA R nC w k c) nC)) v1 v2 v3 v4 v5 v6 v7
        rw [p_X8_asks_54_s]
        refine br_t (nI_le (Nat.le_refl _) (by omega)) (s_bitCount ?_)
        have hc2 := ctN_and S (soA R nC w k) nC
        rw [bc_bN _ hC, pk_sub hc2, if_nI (by omega) (by omega)]
        have a8 : aVw S (soA R nC w) nC k ≤ 8 := aV_8 hC
        show (nI (aVw S (soA R nC w) nC k) < y3 → p_X8_asks_136 F (nI k) _ Post (nI k) (nI (aVw S (soA R nC w) nC k)) v1 v2 v3 v4 v5 v6 v7) ∧ (¬ nI (aVw S (soA R nC w) nC k) < y3 → p_X8_asks_136 F (nI k) _ Post y2 y3 v1 v2 v3 v4 v5 v6 v7)
        unfold p_X8_asks_136
        rcases hs with ⟨e, e1, e2⟩ | ⟨i, v, e, e1, e2⟩
        · subst e1 e2
          rw [e] at ih
          refine br_t (nI_lt (b := 1000000) (by omega) (by omega)) (ih _ _ _ _ _ _ _ _ _ (Or.inr ⟨_, _, rfl, rfl, rfl⟩))
        · subst e1 e2
          rw [e] at ih
          have b := dk_some (V := aVw S (soA R nC w) nC) (fun k => aV_8 hC) e
          refine ⟨fun z => ih _ _ _ _ _ _ _ _ _ (Or.inr ⟨k, aVw S (soA R nC w) nC k, ?_, rfl, rfl⟩), fun z => ih _ _ _ _ _ _ _ _ _ (Or.inr ⟨i, v, ?_, rfl, rfl⟩)⟩
          · have z := (nI_ltI (by omega) (by omega)).1 z
            show (if aVw S (soA R nC w) nC k < v then some (k, aVw S (soA R nC w) nC k) else some (i, v)) = _
            rw [if_pos z]
          · have z : ¬ aVw S (soA R nC w) nC k < v := fun y => z ((nI_ltI (by omega) (by omega)).2 y)
            show (if aVw S (soA R nC w) nC k < v then some (k, aVw S (soA R nC w) nC k) else some (i, v)) = _
            rw [if_neg z]
      · rintro n2 c ⟨s, v1, v2, v3, v4, v5, v6, v7⟩ hc he ih2
        have he : s = _ := he
        subst he
        show p_X8_asks_54 F (nI nC) q (nI rs) f rule (nI (bN S nC)) (nI k) y3 y2 (p_X8_asks_26 F (nI nC) q (nI rs) f rule fn (nI (bN S nC)) Post n) Post (n2 + 1) (nI c) (nI (ctN (fun c => S c && soA R nC w k c) c)) v1 v2 v3 v4 v5 v6 v7
        rw [p_X8_asks_54_s]
        refine br_f (nI_ge hc (by omega)) ?_
        have fin : ∀ (b : Bool) (s1 : Int32) v1 v2 v3 v4 v5 v6 v7, (S c && soA R nC w k c) = b → s1 = (if b then 1 else 0) → p_X8_asks_98 F (nI c) (nI (ctN (fun c => S c && soA R nC w k c) c)) (p_X8_asks_26 F (nI nC) q (nI rs) f rule fn (nI (bN S nC)) Post n) (p_X8_asks_54 F (nI nC) q (nI rs) f rule (nI (bN S nC)) (nI k) y3 y2 (p_X8_asks_26 F (nI nC) q (nI rs) f rule fn (nI (bN S nC)) Post n) Post n2) Post s1 v1 v2 v3 v4 v5 v6 v7 := by
          intro b s1 v1 v2 v3 v4 v5 v6 v7 eb es
          subst es
          refine ih2 (_, v1, v2, v3, v4, v5, v6, v7) ?_
          show nI _ + (if b then 1 else 0) = nI (ctN (fun c => S c && soA R nC w k c) (c + 1))
          rw [ctN]
          show nI _ + (if b then 1 else 0) = nI (_ + if (S c && soA R nC w k c) = true then 1 else 0)
          rw [eb]
          cases b
          · exact Int32.add_zero _
          · exact (nI_succ _).symm
        unfold p_X8_has p_X8_asks_97
        have bt := fz_bit1 (m := bN S nC) (c := c) (bN_31 S (by omega)) (by omega)
        rw [bN_bit, decide_eq_true hc, Bool.true_and] at bt
        by_cases q1 : S c = true
        · refine ⟨fun z => absurd (bt.2 q1) z, fun _ => br_f (by decide) ⟨by decide, by decide, ?_⟩⟩
          rw [show (10 : Int32) = nI 10 from rfl, pk_rem (d := 10) (by omega) (by omega) (by omega), pk_div (d := 10) (by omega) (by omega) (by omega)]
          refine s8_isSo hF hR hM ok hc (fun u => ?_)
          by_cases q2 : soA R nC w k c = true
          · unfold soA at q2
            rw [if_pos q2]
            exact br_f (by decide) (fin true 1 _ _ _ _ _ _ _ (by unfold soA; rw [q1, q2]; rfl) rfl)
          · unfold soA at q2
            rw [if_neg q2]
            exact br_t rfl (fin false 0 _ _ _ _ _ _ _ (by unfold soA; rw [q1, Bool.true_and]; simpa using q2) rfl)
        · refine ⟨fun _ => br_t rfl (fin false 0 _ _ _ _ _ _ _ (by rw [show S c = false from by simpa using q1]; rfl) rfl), fun z => absurd (bt.1 z) q1⟩
end
section
variable {F : Nat} {x : XS} {m : MS} {am : MA}
theorem ob_asks (hF : 5000 ≤ F) (h : Rel F x m) : p7_asks F x (fun r x' => p8_asks F am m (fun r' m' => r = r' ∧ Rel F x' m')) := by
  obtain ⟨nA, nC, R, w, ok, hV, hM, eA, eC, hT, hW, hU, hN, hE, hH, hK⟩ := h
  have hC := ok.2.1
  obtain ⟨hRX, rs, ers, hRM⟩ := id hU
  obtain ⟨_, k, hk, k1, k2, hf⟩ := id hH
  obtain ⟨_, _, _, _, _, _, _, h3, h4, h5, h6⟩ := id hV
  unfold p7_asks p_X7_asks
  refine s7_findPurrs hF hRX hV ok (fun t st p2 hp2 => ?_)
  rw [hV.2.1]
  have hV0 := hV
  rw [hV.2.1] at hV0
  refine s7_suiting (g1 := m.f_heardOf) (g2 := m.f_heardBy) hF hC hk h3 h4 h5 h6 hp2 k1 (fun i hi => ⟨(hf i hi).1, (hf i hi).2.1⟩) (s_bitCount ?_)
  unfold suN
  rw [bc_bN _ hC]
  have b31 := bN_lt (fun c => suB R nC w m.f_heardOf m.f_heardBy c k) nC
  have p31 : 2 ^ nC ≤ 2 ^ 8 := Nat.pow_le_pow_right (by decide) hC
  by_cases q : ctN (fun c => suB R nC w m.f_heardOf m.f_heardBy c k) nC = 0
  · have q2 : bN (fun c => suB R nC w m.f_heardOf m.f_heardBy c k) nC = 0 := by
      apply bit_ext
      intro i
      rw [bN_bit, Nat.zero_testBit]
      by_cases hi : i < nC
      · rw [decide_eq_true hi, Bool.true_and]
        have z := ct_zero q i hi
        rw [z]
      · rw [decide_eq_false hi]; simp
    rw [q]
    refine a23_0 (by omega) ?_
    unfold p_X7_asks_110
    refine s7_told (Or.inl rfl) (fun _ => ?_) (fun z => absurd rfl z)
    unfold p8_asks p_X8_asks
    rw [eC, ers]
    refine s8_suiting hF hRM hM ok hk k2 (fun u => ?_)
    unfold suN
    rw [q2]
    exact ⟨fun z => absurd rfl z, fun _ => ⟨rfl, nA, nC, R, w, ok, hV0, hM, eA, rfl, hT, hW, ⟨hRX, rs, rfl, hRM⟩, hN, hE, hH, hK⟩⟩
  · have q2 : ¬ nI (bN (fun c => suB R nC w m.f_heardOf m.f_heardBy c k) nC) = 0 := by
      intro z
      have z := (nI_eq (b := 0) (by omega) (by omega)).1 z
      apply q
      rw [← pc8_bN _ hC, z]
      rfl
    refine t7_asks hF hC h3 h4 h5 h6 hp2 q (fun y4 y3 hd => ?_)
    unfold p_X7_asks_110
    have V8 : ∀ k', aVw (fun c => suB R nC w m.f_heardOf m.f_heardBy c k) (soA R nC w) nC k' ≤ 8 := fun _ => aV_8 hC
    rcases hd with ⟨e, _⟩ | ⟨i, v, e, e1, e2⟩
    · exact absurd (dk_none e) (by omega)
    subst e1 e2
    have b := dk_some V8 e
    refine s7_told (Or.inr ⟨i, by omega, rfl⟩) (fun z => absurd z (nI_ne_m2 (by omega))) (fun _ s5 f5 h5 => ?_)
    unfold p8_asks p_X8_asks
    rw [eC, ers]
    refine s8_suiting hF hRM hM ok hk k2 (fun u => ⟨fun _ => t8_asks (S := fun c => suB R nC w m.f_heardOf m.f_heardBy c k) hF hRM hM ok (fun y3 y2 u1 u2 u3 u4 u5 u6 u7 hd => ?_), fun z => absurd z q2⟩)
    rw [e] at hd
    rcases hd with ⟨e3, _⟩ | ⟨i2, v2, e3, e1, e2⟩
    · exact absurd e3 (by simp)
    simp at e3
    obtain ⟨e4, e5⟩ := e3
    subst e4 e5 e1 e2
    refine s8_tell (RL_nil _) (by decide) (fun s6 f6 h6 => ?_)
    exact ⟨rfl, nA, nC, R, w, ok, hV0, hM, eA, rfl, hT, RWr_of (by show 1 ≤ 8; omega) h5 h6, ⟨hRX, rs, rfl, hRM⟩, hN, hE, hH, hK⟩
end
