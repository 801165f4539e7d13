/-! ===== acts: what they refuse, what they do; class and model ===== -/
def isIx (p : Int32) (n : Nat) : Bool := decide (0 ≤ p) && decide (p < nI n)
theorem isIx_no {p : Int32} {n : Nat} (h : p < 0 ∨ nI n ≤ p) : isIx p n = false := by
  unfold isIx
  rcases h with h | h
  · have : ¬ (0 : Int32) ≤ p := nle_of_lt h
    simp [this]
  · have : ¬ p < nI n := fun z => nle_of_lt z h
    simp [this]
theorem isIx_yes {j n : Nat} (h : j < n) (hn : n < 2 ^ 31) : isIx (nI j) n = true := by
  unfold isIx
  have h1 : (0 : Int32) ≤ nI j := nI_pos' (by omega)
  have h2 : nI j < nI n := nI_lt h hn
  simp [h1, h2]
def is19 (p : Int32) : Bool := decide (1 ≤ p) && decide (p ≤ 9)
theorem is19_cases (p : Int32) : (is19 p = false ∧ (p < 1 ∨ 9 < p)) ∨ (is19 p = true ∧ ∃ j, 1 ≤ j ∧ j ≤ 9 ∧ p = nI j) := by
  rcases arg3 p (n := 10) (by omega) with h | ⟨j, hj, rfl⟩
  · refine Or.inl ⟨?_, ?_⟩
    · unfold is19
      rcases h with h | h
      · have : ¬ (1 : Int32) ≤ p := by
          intro z; rw [Int32.lt_iff_toInt_lt] at h; rw [Int32.le_iff_toInt_le] at z
          have e0 : (0 : Int32).toInt = 0 := by decide
          have e1 : (1 : Int32).toInt = 1 := by decide
          omega
        simp [this]
      · have : ¬ p ≤ 9 := nle_of_lt (lt_of_le1 (n := 9) h (by omega))
        simp [this]
    · rcases h with h | h
      · left; rw [Int32.lt_iff_toInt_lt] at h ⊢
        have e0 : (0 : Int32).toInt = 0 := by decide
        have e1 : (1 : Int32).toInt = 1 := by decide
        omega
      · right; exact lt_of_le1 (n := 9) h (by omega)
  · rcases Nat.eq_zero_or_pos j with rfl | h0
    · exact Or.inl ⟨by decide, Or.inl (by decide)⟩
    · refine Or.inr ⟨?_, j, h0, by omega, rfl⟩
      unfold is19
      have h1 : (1 : Int32) ≤ nI j := nI_le (a := 1) h0 (by omega)
      have h2 : nI j ≤ 9 := nI_le (b := 9) (by omega) (by omega)
      simp [h1, h2]
def fdC (nC : Nat) (w : Nat → Int32) (p n : Int32) : Int32 := if isIx p nC = false then -1 else if is19 n = false then -1 else if ¬ n ≤ w 44 then -2 else if ¬ w (20 + p.toNatClampNeg) + n ≤ 9 then -3 else 0
def fdW (w : Nat → Int32) (p n : Int32) : Nat → Int32 := upd (upd w 44 (w 44 - n)) (20 + p.toNatClampNeg) (w (20 + p.toNatClampNeg) + n)
def ptC (nC : Nat) (w : Nat → Int32) (p : Int32) : Int32 := if isIx p nC = false then -1 else if w (12 + p.toNatClampNeg) = 9 then -2 else 0
def ptW (w : Nat → Int32) (p : Int32) : Nat → Int32 := upd w (12 + p.toNatClampNeg) (w (12 + p.toNatClampNeg) + 1)
def grC (nC : Nat) (p n : Int32) : Int32 := if isIx p nC = false then -1 else if is19 n = false then -1 else 0
def grW (w : Nat → Int32) (p n : Int32) : Nat → Int32 := upd w (28 + p.toNatClampNeg) (if w (28 + p.toNatClampNeg) + n < 9 then w (28 + p.toNatClampNeg) + n else 9)
def stC (nA nC : Nat) (w : Nat → Int32) (p a : Int32) : Int32 := if isIx p nC = false then -1 else if isIx a nA = false then -1 else if w (36 + p.toNatClampNeg) = a then -2 else 0
def stW (w : Nat → Int32) (p a : Int32) : Nat → Int32 := upd w (36 + p.toNatClampNeg) a
def ldC (nA : Nat) (w : Nat → Int32) (a v : Int32) : Int32 := if isIx a nA = false then -1 else if isIx v 10 = false then -1 else if w a.toNatClampNeg = v then -2 else 0
def ldW (w : Nat → Int32) (a v : Int32) : Nat → Int32 := upd w a.toNatClampNeg v
theorem MV_upd {w f : Nat → Int32} {k : Nat} {v : Int32} (h : MV w f) : MV (upd w k v) (upd f k v) := fun i hi => by
  rw [upd_i, upd_i, h i hi]
theorem dg_add {a b : Int32} (ha : dg a) (hb : dg b) (h : a + b ≤ 9) : dg (a + b) := by
  obtain ⟨i, hi, rfl⟩ := ha
  obtain ⟨j, hj, rfl⟩ := hb
  rw [nI_add] at h ⊢
  have : i + j ≤ 9 := (nI_leI (b := 9) (by omega) (by omega)).1 h
  exact ⟨_, this, rfl⟩
theorem OK_dg {nA nC : Nat} {w : Nat → Int32} {k : Nat} {v : Int32} (ok : OK nA nC w) (hv : dg v) (hk : k < 36) (h6 : ∀ i, nA ≤ i → i < 6 → k ≠ 6 + i) (h28 : ∀ i, nC ≤ i → i < 8 → k ≠ 28 + i) : OK nA nC (upd w k v) := by
  obtain ⟨h1, h2, h3, h4, h5, h7, h8⟩ := ok
  refine ⟨h1, h2, ?_, ?_, ?_, ?_, ?_⟩
  · intro i hi; rw [upd_i]; split
    · exact hv
    · exact h3 i hi
  · intro c hc; rw [upd_i, if_neg (by omega)]; exact h4 c hc
  · rw [upd_i, if_neg (by omega)]; exact h5
  · intro i hi hi2; rw [upd_i, if_neg (by have := h6 i hi hi2; omega)]; exact h7 i hi hi2
  · intro i hi hi2; rw [upd_i, if_neg (by have := h28 i hi hi2; omega)]; exact h8 i hi hi2
theorem OK_44 {nA nC : Nat} {w : Nat → Int32} {v : Int32} (ok : OK nA nC w) : OK nA nC (upd w 44 v) := by
  obtain ⟨h1, h2, h3, h4, h5, h7, h8⟩ := ok
  refine ⟨h1, h2, ?_, ?_, ?_, ?_, ?_⟩
  · intro i hi; rw [upd_i, if_neg (by omega)]; exact h3 i hi
  · intro c hc; rw [upd_i, if_neg (by omega)]; exact h4 c hc
  · rw [upd_i, if_neg (by omega)]; exact h5
  · intro i hi hi2; rw [upd_i, if_neg (by omega)]; exact h7 i hi hi2
  · intro i hi hi2; rw [upd_i, if_neg (by omega)]; exact h8 i hi hi2
theorem OK_pl {nA nC : Nat} {w : Nat → Int32} {c a : Nat} (ok : OK nA nC w) (hc : c < nC) (ha : a < nA) : OK nA nC (upd w (36 + c) (nI a)) := by
  obtain ⟨h1, h2, h3, h4, h5, h7, h8⟩ := ok
  refine ⟨h1, h2, ?_, ?_, ?_, ?_, ?_⟩
  · intro i hi; rw [upd_i, if_neg (by omega)]; exact h3 i hi
  · intro i hi; rw [upd_i]; split
    · exact ⟨a, ha, rfl⟩
    · exact h4 i hi
  · rw [upd_i, if_neg (by omega)]; exact h5
  · intro i hi hi2; rw [upd_i, if_neg (by omega)]; exact h7 i hi hi2
  · intro i hi hi2; rw [upd_i, if_neg (by omega)]; exact h8 i hi hi2
section
variable {F nA nC : Nat} {w f : Nat → Int32} {arches cats store hour drops : Int32} {load sag joy bowl grief place : Nat → Int32}
theorem AV_bw {c : Nat} {v : Int32} (hc : c < 8) (hV : AV nA nC w arches cats store hour drops load sag joy bowl grief place) : AV nA nC (upd w (20 + c) v) arches cats store hour drops load sag joy (upd bowl c v) grief place := by
  obtain ⟨e1, e2, e3, e4, e5, h1, h2, h3, h4, h5, h6⟩ := hV
  refine ⟨e1, e2, ?_, ?_, ?_, ?_, ?_, ?_, ?_, ?_, ?_⟩
  · rw [upd_i, if_neg (by omega)]; exact e3
  · rw [upd_i, if_neg (by omega)]; exact e4
  · rw [upd_i, if_neg (by omega)]; exact e5
  · intro i hi; rw [upd_i, if_neg (by omega)]; exact h1 i hi
  · intro i hi; rw [upd_i, if_neg (by omega)]; exact h2 i hi
  · intro i hi; rw [upd_i, if_neg (by omega)]; exact h3 i hi
  · intro i hi; rw [upd_i, upd_i]
    by_cases e : i = c
    · rw [if_pos e, if_pos (by omega)]
    · rw [if_neg e, if_neg (by omega)]; exact h4 i hi
  · intro i hi; rw [upd_i, if_neg (by omega)]; exact h5 i hi
  · intro i hi; rw [upd_i, if_neg (by omega)]; exact h6 i hi
theorem AV_st {v : Int32} (hV : AV nA nC w arches cats store hour drops load sag joy bowl grief place) : AV nA nC (upd w 44 v) arches cats v hour drops load sag joy bowl grief place := by
  obtain ⟨e1, e2, e3, e4, e5, h1, h2, h3, h4, h5, h6⟩ := hV
  refine ⟨e1, e2, ?_, ?_, ?_, ?_, ?_, ?_, ?_, ?_, ?_⟩
  · rw [upd_i, if_pos rfl]
  · rw [upd_i, if_neg (by omega)]; exact e4
  · rw [upd_i, if_neg (by omega)]; exact e5
  · intro i hi; rw [upd_i, if_neg (by omega)]; exact h1 i hi
  · intro i hi; rw [upd_i, if_neg (by omega)]; exact h2 i hi
  · intro i hi; rw [upd_i, if_neg (by omega)]; exact h3 i hi
  · intro i hi; rw [upd_i, if_neg (by omega)]; exact h4 i hi
  · intro i hi; rw [upd_i, if_neg (by omega)]; exact h5 i hi
  · intro i hi; rw [upd_i, if_neg (by omega)]; exact h6 i hi
theorem AV_jy {c : Nat} {v : Int32} (hc : c < 8) (hV : AV nA nC w arches cats store hour drops load sag joy bowl grief place) : AV nA nC (upd w (12 + c) v) arches cats store hour drops load sag (upd joy c v) bowl grief place := by
  obtain ⟨e1, e2, e3, e4, e5, h1, h2, h3, h4, h5, h6⟩ := hV
  refine ⟨e1, e2, ?_, ?_, ?_, ?_, ?_, ?_, ?_, ?_, ?_⟩
  · rw [upd_i, if_neg (by omega)]; exact e3
  · rw [upd_i, if_neg (by omega)]; exact e4
  · rw [upd_i, if_neg (by omega)]; exact e5
  · intro i hi; rw [upd_i, if_neg (by omega)]; exact h1 i hi
  · intro i hi; rw [upd_i, if_neg (by omega)]; exact h2 i hi
  · intro i hi; rw [upd_i, upd_i]
    by_cases e : i = c
    · rw [if_pos e, if_pos (by omega)]
    · rw [if_neg e, if_neg (by omega)]; exact h3 i hi
  · intro i hi; rw [upd_i, if_neg (by omega)]; exact h4 i hi
  · intro i hi; rw [upd_i, if_neg (by omega)]; exact h5 i hi
  · intro i hi; rw [upd_i, if_neg (by omega)]; exact h6 i hi
theorem AV_gr {c : Nat} {v : Int32} (hc : c < 8) (hV : AV nA nC w arches cats store hour drops load sag joy bowl grief place) : AV nA nC (upd w (28 + c) v) arches cats store hour drops load sag joy bowl (upd grief c v) place := by
  obtain ⟨e1, e2, e3, e4, e5, h1, h2, h3, h4, h5, h6⟩ := hV
  refine ⟨e1, e2, ?_, ?_, ?_, ?_, ?_, ?_, ?_, ?_, ?_⟩
  · rw [upd_i, if_neg (by omega)]; exact e3
  · rw [upd_i, if_neg (by omega)]; exact e4
  · rw [upd_i, if_neg (by omega)]; exact e5
  · intro i hi; rw [upd_i, if_neg (by omega)]; exact h1 i hi
  · intro i hi; rw [upd_i, if_neg (by omega)]; exact h2 i hi
  · intro i hi; rw [upd_i, if_neg (by omega)]; exact h3 i hi
  · intro i hi; rw [upd_i, if_neg (by omega)]; exact h4 i hi
  · intro i hi; rw [upd_i, upd_i]
    by_cases e : i = c
    · rw [if_pos e, if_pos (by omega)]
    · rw [if_neg e, if_neg (by omega)]; exact h5 i hi
  · intro i hi; rw [upd_i, if_neg (by omega)]; exact h6 i hi
theorem AV_pl {c : Nat} {v : Int32} (hc : c < 8) (hV : AV nA nC w arches cats store hour drops load sag joy bowl grief place) : AV nA nC (upd w (36 + c) v) arches cats store hour drops load sag joy bowl grief (upd place c v) := by
  obtain ⟨e1, e2, e3, e4, e5, h1, h2, h3, h4, h5, h6⟩ := hV
  refine ⟨e1, e2, ?_, ?_, ?_, ?_, ?_, ?_, ?_, ?_, ?_⟩
  · rw [upd_i, if_neg (by omega)]; exact e3
  · rw [upd_i, if_neg (by omega)]; exact e4
  · rw [upd_i, if_neg (by omega)]; exact e5
  · intro i hi; rw [upd_i, if_neg (by omega)]; exact h1 i hi
  · intro i hi; rw [upd_i, if_neg (by omega)]; exact h2 i hi
  · intro i hi; rw [upd_i, if_neg (by omega)]; exact h3 i hi
  · intro i hi; rw [upd_i, if_neg (by omega)]; exact h4 i hi
  · intro i hi; rw [upd_i, if_neg (by omega)]; exact h5 i hi
  · intro i hi; rw [upd_i, upd_i]
    by_cases e : i = c
    · rw [if_pos e, if_pos (by omega)]
    · rw [if_neg e, if_neg (by omega)]; exact h6 i hi
theorem AV_ld {c : Nat} {v : Int32} (hc : c < 6) (hV : AV nA nC w arches cats store hour drops load sag joy bowl grief place) : AV nA nC (upd w c v) arches cats store hour drops (upd load c v) sag joy bowl grief place := by
  obtain ⟨e1, e2, e3, e4, e5, h1, h2, h3, h4, h5, h6⟩ := hV
  refine ⟨e1, e2, ?_, ?_, ?_, ?_, ?_, ?_, ?_, ?_, ?_⟩
  · rw [upd_i, if_neg (by omega)]; exact e3
  · rw [upd_i, if_neg (by omega)]; exact e4
  · rw [upd_i, if_neg (by omega)]; exact e5
  · intro i hi; rw [upd_i, upd_i]
    by_cases e : i = c
    · rw [if_pos e, if_pos (by omega)]
    · rw [if_neg e, if_neg (by omega)]; exact h1 i hi
  · intro i hi; rw [upd_i, if_neg (by omega)]; exact h2 i hi
  · intro i hi; rw [upd_i, if_neg (by omega)]; exact h3 i hi
  · intro i hi; rw [upd_i, if_neg (by omega)]; exact h4 i hi
  · intro i hi; rw [upd_i, if_neg (by omega)]; exact h5 i hi
  · intro i hi; rw [upd_i, if_neg (by omega)]; exact h6 i hi
theorem upd_same {f : Nat → Int32} {k : Nat} {v : Int32} (h : f k = v) : upd f k v = f := by
  funext i; rw [upd_i]; split
  · rename_i e; rw [e, h]
  · rfl
/-! feed -/
theorem s6_feed {p n : Int32} {Post : Int32 → (Int32 × (Nat → Int32)) → Prop} (ok : OK nA nC w) (hV : AV nA nC w arches cats store hour drops load sag joy bowl grief place) (k1 : fdC nC w p n < 0 → Post (fdC nC w p n) (store, bowl)) (k2 : fdC nC w p n = 0 → ∀ c, c < nC → p = nI c → ∀ s2 b2, OK nA nC (fdW w p n) → AV nA nC (fdW w p n) arches cats s2 hour drops load sag joy b2 grief place → Post (fdW w p n (20 + c)) (s2, b2)) : p_X6_feed F p n cats store bowl Post := by
  have hC := ok.2.1
  have hV' := hV
  obtain ⟨e1, e2, e3, e4, e5, h1, h2, h3, h4, h5, h6⟩ := hV
  unfold p_X6_feed
  rw [e2]
  rcases arg3 p (n := nC) (by omega) with h | ⟨c, hc, rfl⟩
  · have e : fdC nC w p n = -1 := by unfold fdC; rw [if_pos (isIx_no h)]
    rw [e] at k1
    exact s6_noCat h (br_t rfl (k1 (by decide)))
  refine s6_hasCat hC hc (br_f (by decide) ?_)
  have ix := isIx_yes hc (by omega)
  rcases is19_cases n with ⟨q, q2⟩ | ⟨q, j, hj1, hj9, rfl⟩
  · have e : fdC nC w (nI c) n = -1 := by unfold fdC; rw [if_neg (by rw [ix]; decide), if_pos q]
    rw [e] at k1
    exact ⟨fun _ => k1 (by decide), fun z => br_f (nle_of_lt (q2.resolve_left z)) (k1 (by decide))⟩
  have i8 : vp_in (nI c) 8 := pk_in c 8 (by omega)
  have f0 : fdC nC w (nI c) (nI j) = if ¬ nI j ≤ w 44 then -2 else if ¬ w (20 + c) + nI j ≤ 9 then -3 else 0 := by
    unfold fdC; rw [if_neg (by rw [ix]; decide), if_neg (by rw [q]; decide), nI_clamp (n := c) (by omega)]
  refine br_f (nI_nlt (b := 1) hj1 (by omega)) (br_t (nI_le (b := 9) hj9 (by omega)) ?_)
  rw [nI_clamp (n := c) (by omega), h4 c (by omega), e3]
  by_cases q1 : nI j ≤ w 44
  · refine br_t q1 ⟨i8, ?_⟩
    rw [if_neg (fun z => z q1)] at f0
    by_cases q2 : w (20 + c) + nI j ≤ 9
    · rw [if_neg (fun z => z q2)] at f0
      have eW : fdW w (nI c) (nI j) = upd (upd w 44 (w 44 - nI j)) (20 + c) (w (20 + c) + nI j) := by unfold fdW; rw [nI_clamp (n := c) (by omega)]
      have k3 := k2 f0 c hc rfl (w 44 - nI j) (upd bowl c (w (20 + c) + nI j)) (by rw [eW]; exact OK_dg (OK_44 ok) (dg_add (ok.2.2.1 _ (by omega)) ⟨j, hj9, rfl⟩ q2) (by omega) (by intro i _ _; omega) (by intro i _ _; omega)) (by rw [eW]; exact AV_bw (by omega) (AV_st hV'))
      refine br_t q2 ⟨i8, i8, i8, ?_⟩
      rw [pk_us]
      rw [eW, pk_us] at k3
      exact k3
    · rw [if_pos q2] at f0
      rw [f0] at k1
      have := k1 (by decide)
      rw [e3] at this
      exact br_f q2 this
  · rw [if_pos q1] at f0
    rw [f0] at k1
    have := k1 (by decide)
    rw [e3] at this
    exact br_f q1 this
theorem s8_refusesFeed {p n : Int32} {Post : Int32 → Prop} (hM : MV w f) (hC : nC ≤ 8) (k : Post (fdC nC w p n)) : p_X8_refusesFeed F p n (nI nC) 47 f Post := by
  unfold p_X8_refusesFeed
  rcases arg3 p (n := nC) (by omega) with h | ⟨c, hc, rfl⟩
  · have e : fdC nC w p n = -1 := by unfold fdC; rw [if_pos (isIx_no h)]
    rw [e] at k
    exact s8_noCat h (by omega) (br_t rfl k)
  refine s8_isCat hc (by omega) (br_f (by decide) ?_)
  have ix := isIx_yes hc (by omega)
  rcases is19_cases n with ⟨q, q2⟩ | ⟨q, j, hj1, hj9, rfl⟩
  · have e : fdC nC w (nI c) n = -1 := by unfold fdC; rw [if_neg (by rw [ix]; decide), if_pos q]
    rw [e] at k
    exact s8_nin q2 ⟨fun z => absurd rfl z, fun _ => k⟩
  have f0 : fdC nC w (nI c) (nI j) = if ¬ nI j ≤ w 44 then -2 else if ¬ w (20 + c) + nI j ≤ 9 then -3 else 0 := by
    unfold fdC; rw [if_neg (by rw [ix]; decide), if_neg (by rw [q]; decide), nI_clamp (n := c) (by omega)]
  refine s8_in (lo := 1) (hi := 9) hj1 hj9 (by omega) ⟨fun _ => ⟨pk_in 44 47 (by omega), ?_⟩, fun z => absurd z (by decide)⟩
  rw [cc20 (by omega), hM (20 + c) (by omega), show f (44 : Int32).toNatClampNeg = w 44 from hM 44 (by omega)]
  rw [f0] at k
  by_cases q1 : nI j ≤ w 44
  · rw [if_neg (fun z => z q1)] at k
    refine br_t q1 ⟨ci20 (by omega), ?_⟩
    by_cases q2 : w (20 + c) + nI j ≤ 9
    · rw [if_neg (fun z => z q2)] at k
      exact br_t q2 k
    · rw [if_pos q2] at k
      exact br_f q2 k
  · rw [if_pos q1] at k
    exact br_f q1 k
theorem s8_goFeed {c : Nat} {n : Int32} {Post : (Nat → Int32) → Prop} (hM : MV w f) (hc : c < 8) (k : ∀ f2, MV (fdW w (nI c) n) f2 → Post f2) : p_X8_goFeed F (nI c) n 47 f Post := by
  unfold p_X8_goFeed
  have i44 : vp_in (44 : Int32) 47 := pk_in 44 47 (by omega)
  refine ⟨i44, i44, ci20 (by omega), ci20 (by omega), k _ ?_⟩
  rw [cc20 (by omega)]
  unfold fdW
  rw [nI_clamp (n := c) (by omega)]
  intro i hi
  show upd (upd f 44 (f 44 - n)) (20 + c) (upd f 44 (f 44 - n) (20 + c) + n) i = _
  rw [upd_i, upd_i, upd_i, upd_i, upd_i, if_neg (c := 20 + c = 44) (by omega), hM (20 + c) (by omega), hM 44 (by omega), hM i hi]
/-! pet -/
theorem s6_pet {p : Int32} {Post : Int32 → (Nat → Int32) → Prop} (ok : OK nA nC w) (hV : AV nA nC w arches cats store hour drops load sag joy bowl grief place) (k1 : ptC nC w p < 0 → Post (ptC nC w p) joy) (k2 : ptC nC w p = 0 → ∀ c, c < nC → p = nI c → ∀ j2, OK nA nC (ptW w p) → AV nA nC (ptW w p) arches cats store hour drops load sag j2 bowl grief place → Post (ptW w p (12 + c)) j2) : p_X6_pet F p cats joy Post := by
  have hC := ok.2.1
  have hV' := hV
  obtain ⟨e1, e2, e3, e4, e5, h1, h2, h3, h4, h5, h6⟩ := hV
  unfold p_X6_pet
  rw [e2]
  rcases arg3 p (n := nC) (by omega) with h | ⟨c, hc, rfl⟩
  · have e : ptC nC w p = -1 := by unfold ptC; rw [if_pos (isIx_no h)]
    rw [e] at k1
    exact s6_noCat h ⟨fun z => absurd rfl z, fun _ => k1 (by decide)⟩
  have i8 : vp_in (nI c) 8 := pk_in c 8 (by omega)
  have ix := isIx_yes hc (by omega)
  have f0 : ptC nC w (nI c) = if w (12 + c) = 9 then -2 else 0 := by unfold ptC; rw [if_neg (by rw [ix]; decide), nI_clamp (n := c) (by omega)]
  refine s6_hasCat hC hc ⟨fun _ => ⟨i8, ?_⟩, fun z => absurd z (by decide)⟩
  rw [nI_clamp (n := c) (by omega), h3 c (by omega)]
  have eW : ptW w (nI c) = upd w (12 + c) (w (12 + c) + 1) := by unfold ptW; rw [nI_clamp (n := c) (by omega)]
  refine ⟨fun q => ⟨i8, i8, i8, ?_⟩, fun q => ?_⟩
  · rw [if_neg q] at f0
    obtain ⟨g, hg, eg⟩ := ok.2.2.1 (12 + c) (by omega)
    have hg9 : g ≠ 9 := by rintro rfl; exact q eg
    have k3 := k2 f0 c hc rfl (upd joy c (w (12 + c) + 1)) (by rw [eW]; exact OK_dg ok (by rw [eg, nI_1]; exact ⟨g + 1, by omega, rfl⟩) (by omega) (by intro i _ _; omega) (by intro i _ _; omega)) (by rw [eW]; exact AV_jy (by omega) hV')
    rw [pk_us]
    rw [eW, pk_us] at k3
    exact k3
  · rw [if_pos q] at f0
    rw [f0] at k1
    exact k1 (by decide)
theorem s8_refusesPet {p : Int32} {Post : Int32 → Prop} (hM : MV w f) (hC : nC ≤ 8) (k : Post (ptC nC w p)) : p_X8_refusesPet F p (nI nC) f Post := by
  unfold p_X8_refusesPet
  rcases arg3 p (n := nC) (by omega) with h | ⟨c, hc, rfl⟩
  · have e : ptC nC w p = -1 := by unfold ptC; rw [if_pos (isIx_no h)]
    rw [e] at k
    exact s8_noCat h (by omega) ⟨fun z => absurd rfl z, fun _ => k⟩
  have ix := isIx_yes hc (by omega)
  have f0 : ptC nC w (nI c) = if w (12 + c) = 9 then -2 else 0 := by unfold ptC; rw [if_neg (by rw [ix]; decide), nI_clamp (n := c) (by omega)]
  refine s8_isCat hc (by omega) ⟨fun _ => ⟨ci12 (by omega), ?_⟩, fun z => absurd z (by decide)⟩
  rw [cc12 (by omega), hM (12 + c) (by omega)]
  rw [f0] at k
  refine ⟨fun q => ?_, fun q => ?_⟩
  · rw [if_neg q] at k; exact k
  · rw [if_pos q] at k; exact k
theorem MV_pet {c : Nat} (hM : MV w f) (hc : c < 8) : MV (ptW w (nI c)) (upd f (12 + c) (f (12 + c) + 1)) := by
  unfold ptW
  rw [nI_clamp (n := c) (by omega), hM (12 + c) (by omega)]
  exact MV_upd hM
/-! grieve -/
theorem s6_sadden {p n : Int32} {Post : Int32 → (Nat → Int32) → Prop} (ok : OK nA nC w) (hV : AV nA nC w arches cats store hour drops load sag joy bowl grief place) (k1 : grC nC p n < 0 → Post (grC nC p n) grief) (k2 : grC nC p n = 0 → ∀ c, c < nC → p = nI c → ∀ g2, OK nA nC (grW w p n) → AV nA nC (grW w p n) arches cats store hour drops load sag joy bowl g2 place → Post (grW w p n (28 + c)) g2) : p_X6_sadden F p n cats grief Post := by
  have hC := ok.2.1
  have hV' := hV
  obtain ⟨e1, e2, e3, e4, e5, h1, h2, h3, h4, h5, h6⟩ := hV
  unfold p_X6_sadden
  rw [e2]
  rcases arg3 p (n := nC) (by omega) with h | ⟨c, hc, rfl⟩
  · have e : grC nC p n = -1 := by unfold grC; rw [if_pos (isIx_no h)]
    rw [e] at k1
    exact s6_noCat h (br_t rfl (k1 (by decide)))
  refine s6_hasCat hC hc (br_f (by decide) ?_)
  have ix := isIx_yes hc (by omega)
  rcases is19_cases n with ⟨q, q2⟩ | ⟨q, j, hj1, hj9, rfl⟩
  · have e : grC nC (nI c) n = -1 := by unfold grC; rw [if_neg (by rw [ix]; decide), if_pos q]
    rw [e] at k1
    exact ⟨fun _ => k1 (by decide), fun z => br_f (nle_of_lt (q2.resolve_left z)) (k1 (by decide))⟩
  have i8 : vp_in (nI c) 8 := pk_in c 8 (by omega)
  have f0 : grC nC (nI c) (nI j) = 0 := by unfold grC; rw [if_neg (by rw [ix]; decide), if_neg (by rw [q]; decide)]
  refine br_f (nI_nlt (b := 1) hj1 (by omega)) (br_t (nI_le (b := 9) hj9 (by omega)) ⟨i8, i8, i8, ?_⟩)
  rw [nI_clamp (n := c) (by omega), h5 c (by omega)]
  have eW : grW w (nI c) (nI j) = upd w (28 + c) (if w (28 + c) + nI j < 9 then w (28 + c) + nI j else 9) := by unfold grW; rw [nI_clamp (n := c) (by omega)]
  have k3 := k2 f0 c hc rfl (upd grief c (if w (28 + c) + nI j < 9 then w (28 + c) + nI j else 9)) (by
    rw [eW]
    refine OK_dg ok ?_ (by omega) (by intro i _ _; omega) (by intro i _ _; omega)
    split
    · rename_i z
      refine dg_add (ok.2.2.1 _ (by omega)) ⟨j, hj9, rfl⟩ ?_
      rw [Int32.lt_iff_toInt_lt] at z; rw [Int32.le_iff_toInt_le]; omega
    · exact ⟨9, by omega, rfl⟩) (by rw [eW]; exact AV_gr (by omega) hV')
  rw [pk_us]
  rw [eW, pk_us] at k3
  exact k3
theorem s8_canGrieve {p n : Int32} {Post : Int32 → Prop} (hC : nC ≤ 8) (k1 : grC nC p n < 0 → Post 0) (k2 : grC nC p n = 0 → Post 1) : p_X8_canGrieve F p n (nI nC) Post := by
  unfold p_X8_canGrieve
  rcases arg3 p (n := nC) (by omega) with h | ⟨c, hc, rfl⟩
  · have e : grC nC p n = -1 := by unfold grC; rw [if_pos (isIx_no h)]
    exact s8_noCat h (by omega) (br_t rfl (k1 (by rw [e]; decide)))
  refine s8_isCat hc (by omega) (br_f (by decide) ?_)
  have ix := isIx_yes hc (by omega)
  rcases is19_cases n with ⟨q, q2⟩ | ⟨q, j, hj1, hj9, rfl⟩
  · have e : grC nC (nI c) n = -1 := by unfold grC; rw [if_neg (by rw [ix]; decide), if_pos q]
    exact s8_nin q2 (br_t rfl (k1 (by rw [e]; decide)))
  have f0 : grC nC (nI c) (nI j) = 0 := by unfold grC; rw [if_neg (by rw [ix]; decide), if_neg (by rw [q]; decide)]
  exact s8_in (lo := 1) (hi := 9) hj1 hj9 (by omega) (br_f (by decide) (k2 f0))
theorem s8_goGrieve {c : Nat} {n : Int32} {Post : (Nat → Int32) → Prop} (hM : MV w f) (hc : c < 8) (k : ∀ f2, MV (grW w (nI c) n) f2 → Post f2) : p_X8_goGrieve F (nI c) n 47 f Post := by
  unfold p_X8_goGrieve
  refine ⟨ci28 (by omega), ci28 (by omega), k _ ?_⟩
  rw [cc28 (by omega)]
  unfold grW
  rw [nI_clamp (n := c) (by omega), hM (28 + c) (by omega)]
  exact MV_upd hM
/-! sets -/
theorem abs_eq {a b : Nat} (ha : a < 2 ^ 30) (hb : b < 2 ^ 30) : (if (0 : Int32) ≤ nI a - nI b then nI a - nI b else 0 - (nI a - nI b)) = nI (if b ≤ a then a - b else b - a) := by
  by_cases h : b ≤ a
  · rw [if_pos ((sub_ge0 ha hb).2 h), if_pos h, pk_sub h]
  · rw [if_neg (fun z => h ((sub_ge0 ha hb).1 z)), if_neg h, ← pk_sub (a := b) (b := a) (by omega)]
    rw [Int32.zero_sub, Int32.neg_sub]
def farN (a b : Nat) : Nat := if b ≤ a then a - b else b - a
theorem farN_c (a b : Nat) : farN a b = farN b a := by unfold farN; split <;> split <;> omega
theorem farN_0 {a b : Nat} : farN a b = 0 ↔ a = b := by unfold farN; split <;> omega
theorem s6_seat {p a : Int32} {Post : Int32 → (Nat → Int32) → Prop} (ok : OK nA nC w) (hV : AV nA nC w arches cats store hour drops load sag joy bowl grief place) (k1 : stC nA nC w p a < 0 → ∀ p2, AV nA nC w arches cats store hour drops load sag joy bowl grief p2 → Post (stC nA nC w p a) p2) (k2 : stC nA nC w p a = 0 → ∀ c b b0, c < nC → b < nA → b0 < nA → p = nI c → a = nI b → w (36 + c) = nI b0 → ¬ b0 = b → ∀ p2, OK nA nC (stW w p a) → AV nA nC (stW w p a) arches cats store hour drops load sag joy bowl grief p2 → Post (nI (farN b b0)) p2) : p_X6_seat F p a arches cats place Post := by
  have hA := ok.1
  have hC := ok.2.1
  have hV' := hV
  obtain ⟨e1, e2, e3, e4, e5, h1, h2, h3, h4, h5, h6⟩ := hV
  unfold p_X6_seat
  rw [e1, e2]
  rcases arg3 p (n := nC) (by omega) with h | ⟨c, hc, rfl⟩
  · have e : stC nA nC w p a = -1 := by unfold stC; rw [if_pos (isIx_no h)]
    rw [e] at k1
    exact s6_noCat h (br_t rfl (k1 (by decide) _ hV'))
  refine s6_hasCat hC hc (br_f (by decide) ?_)
  have ix := isIx_yes hc (by omega)
  rcases arg3 a (n := nA) (by omega) with h | ⟨b, hb, rfl⟩
  · have e : stC nA nC w (nI c) a = -1 := by unfold stC; rw [if_neg (by rw [ix]; decide), if_pos (isIx_no h)]
    rw [e] at k1
    exact s6_noArch h ⟨fun z => absurd rfl z, fun _ => k1 (by decide) _ hV'⟩
  have ib := isIx_yes hb (by omega)
  have i8 : vp_in (nI c) 8 := pk_in c 8 (by omega)
  obtain ⟨b0, hb0, eb0⟩ := ok.2.2.2.1 c hc
  have f0 : stC nA nC w (nI c) (nI b) = if nI b0 = nI b then -2 else 0 := by unfold stC; rw [if_neg (by rw [ix]; decide), if_neg (by rw [ib]; decide), nI_clamp (n := c) (by omega), eb0]
  refine s6_hasArch hA hb ⟨fun _ => ⟨i8, i8, ?_⟩, fun z => absurd z (by decide)⟩
  rw [nI_clamp (n := c) (by omega), h6 c (by omega), eb0, abs_eq (by omega) (by omega)]
  have eW : stW w (nI c) (nI b) = upd w (36 + c) (nI b) := by unfold stW; rw [nI_clamp (n := c) (by omega)]
  by_cases q : b0 = b
  · subst q
    rw [if_pos rfl] at f0
    rw [f0] at k1
    have z0 : nI (if b0 ≤ b0 then b0 - b0 else b0 - b0) = 0 := by rw [if_pos (Nat.le_refl _), Nat.sub_self]; rfl
    refine ⟨fun z => absurd z0 z, fun _ => k1 (by decide) _ ?_⟩
    rw [upd_same (by rw [h6 c (by omega), eb0])]
    exact hV'
  · rw [if_neg (fun z => q ((nI_eq (by omega) (by omega)).1 z))] at f0
    refine ⟨fun _ => k2 f0 c b b0 hc hb hb0 rfl rfl eb0 q _ (by rw [eW]; exact OK_pl ok hc hb) (by rw [eW]; exact AV_pl (by omega) hV'), fun z => ?_⟩
    exact absurd z (nI_ne0 (by split <;> omega) (by split <;> omega))
theorem s8_refusesSet {p a : Int32} {Post : Int32 → Prop} (hM : MV w f) (ok : OK nA nC w) (k : Post (stC nA nC w p a)) : p_X8_refusesSet F p a (nI nA) (nI nC) f Post := by
  have hA := ok.1
  have hC := ok.2.1
  unfold p_X8_refusesSet
  rcases arg3 p (n := nC) (by omega) with h | ⟨c, hc, rfl⟩
  · have e : stC nA nC w p a = -1 := by unfold stC; rw [if_pos (isIx_no h)]
    rw [e] at k
    exact s8_noCat h (by omega) (br_t rfl k)
  have ix := isIx_yes hc (by omega)
  refine s8_isCat hc (by omega) (br_f (by decide) ?_)
  rcases arg3 a (n := nA) (by omega) with h | ⟨b, hb, rfl⟩
  · have e : stC nA nC w (nI c) a = -1 := by unfold stC; rw [if_neg (by rw [ix]; decide), if_pos (isIx_no h)]
    rw [e] at k
    exact s8_noArch h (by omega) ⟨fun z => absurd rfl z, fun _ => k⟩
  have ib := isIx_yes hb (by omega)
  have f0 : stC nA nC w (nI c) (nI b) = if w (36 + c) = nI b then -2 else 0 := by unfold stC; rw [if_neg (by rw [ix]; decide), if_neg (by rw [ib]; decide), nI_clamp (n := c) (by omega)]
  refine s8_isArch hb (by omega) ⟨fun _ => ⟨ci36 (by omega), ?_⟩, fun z => absurd z (by decide)⟩
  rw [cc36 (by omega), hM (36 + c) (by omega)]
  rw [f0] at k
  refine ⟨fun q => ?_, fun q => ?_⟩
  · rw [if_neg q] at k; exact k
  · rw [if_pos q] at k; exact k
theorem MV_seat {c : Nat} {a : Int32} (hM : MV w f) (hc : c < 8) : MV (stW w (nI c) a) (upd f (36 + c) a) := by
  unfold stW
  rw [nI_clamp (n := c) (by omega)]
  exact MV_upd hM
/-! loads -/
theorem s6_burden {a v : Int32} {Post : Int32 → (Nat → Int32) → Prop} (ok : OK nA nC w) (hV : AV nA nC w arches cats store hour drops load sag joy bowl grief place) (k1 : ldC nA w a v < 0 → ∀ l2, AV nA nC w arches cats store hour drops l2 sag joy bowl grief place → Post (ldC nA w a v) l2) (k2 : ldC nA w a v = 0 → ∀ b, b < nA → a = nI b → ∀ l2, OK nA nC (ldW w a v) → AV nA nC (ldW w a v) arches cats store hour drops l2 sag joy bowl grief place → Post (10 + w b) l2) : p_X6_burden F a v arches load Post := by
  have hA := ok.1
  have hV' := hV
  obtain ⟨e1, e2, e3, e4, e5, h1, h2, h3, h4, h5, h6⟩ := hV
  unfold p_X6_burden
  rw [e1]
  rcases arg3 a (n := nA) (by omega) with h | ⟨b, hb, rfl⟩
  · have e : ldC nA w a v = -1 := by unfold ldC; rw [if_pos (isIx_no h)]
    rw [e] at k1
    exact s6_noArch h (br_t rfl (k1 (by decide) _ hV'))
  have ib := isIx_yes hb (by omega)
  refine s6_hasArch hA hb (br_f (by decide) ?_)
  rcases arg3 v (n := 9 + 1) (by omega) with h | ⟨j, hj, rfl⟩
  · have e : ldC nA w (nI b) v = -1 := by unfold ldC; rw [if_neg (by rw [ib]; decide), if_pos (isIx_no h)]
    rw [e] at k1
    exact rg_no (n := 9) h (by omega) (k1 (by decide) _ hV') (k1 (by decide) _ hV')
  have ij := isIx_yes hj (by omega)
  have i6 : vp_in (nI b) 6 := pk_in b 6 (by omega)
  have f0 : ldC nA w (nI b) (nI j) = if w b = nI j then -2 else 0 := by unfold ldC; rw [if_neg (by rw [ib]; decide), if_neg (by rw [ij]; decide), nI_clamp (n := b) (by omega)]
  have eW : ldW w (nI b) (nI j) = upd w b (nI j) := by unfold ldW; rw [nI_clamp (n := b) (by omega)]
  refine rg_yes (n := 9) hj (by omega) ⟨i6, i6, ?_⟩
  rw [nI_clamp (n := b) (by omega), h1 b (by omega)]
  refine ⟨fun q => ?_, fun q => ?_⟩
  · rw [if_neg q] at f0
    exact k2 f0 b hb rfl _ (by rw [eW]; exact OK_dg ok ⟨j, by omega, rfl⟩ (by omega) (by intro i _ _; omega) (by intro i _ _; omega)) (by rw [eW]; exact AV_ld (by omega) hV')
  · rw [if_pos q] at f0
    rw [f0] at k1
    refine k1 (by decide) _ ?_
    rw [upd_same (by rw [h1 b (by omega), q])]
    exact hV'
theorem s8_refusesLoad {a v : Int32} {Post : Int32 → Prop} (hM : MV w f) (hA : nA ≤ 6) (k : Post (ldC nA w a v)) : p_X8_refusesLoad F a v (nI nA) f Post := by
  unfold p_X8_refusesLoad
  rcases arg3 a (n := nA) (by omega) with h | ⟨b, hb, rfl⟩
  · have e : ldC nA w a v = -1 := by unfold ldC; rw [if_pos (isIx_no h)]
    rw [e] at k
    exact s8_noArch h (by omega) (br_t rfl k)
  have ib := isIx_yes hb (by omega)
  refine s8_isArch hb (by omega) (br_f (by decide) ?_)
  rcases arg3 v (n := 9 + 1) (by omega) with h | ⟨j, hj, rfl⟩
  · have e : ldC nA w (nI b) v = -1 := by unfold ldC; rw [if_neg (by rw [ib]; decide), if_pos (isIx_no h)]
    rw [e] at k
    exact s8_rgno (n := 9) h (by omega) ⟨fun z => absurd rfl z, fun _ => k⟩
  have ij := isIx_yes hj (by omega)
  have f0 : ldC nA w (nI b) (nI j) = if w b = nI j then -2 else 0 := by unfold ldC; rw [if_neg (by rw [ib]; decide), if_neg (by rw [ij]; decide), nI_clamp (n := b) (by omega)]
  refine s8_rgyes (n := 9) hj (by omega) ⟨fun _ => ⟨pk_in b 47 (by omega), ?_⟩, fun z => absurd z (by decide)⟩
  rw [nI_clamp (n := b) (by omega), hM b (by omega)]
  rw [f0] at k
  refine ⟨fun q => ?_, fun q => ?_⟩
  · rw [if_neg q] at k; exact k
  · rw [if_pos q] at k; exact k
theorem MV_load {b : Nat} {v : Int32} (hM : MV w f) (hb : b < 6) : MV (ldW w (nI b) v) (upd f b v) := by
  unfold ldW
  rw [nI_clamp (n := b) (by omega)]
  exact MV_upd hM
end
