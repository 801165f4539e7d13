/-! ===== the class's viaduct: what its methods answer, over w ===== -/
theorem bN_ot {p : Nat → Bool} {n : Nat} (h : n < 31) (hp : p n = true) : nI (bN p n) ||| (1 : Int32) <<< (nI n &&& 31) = nI (bN p (n + 1)) := by
  rw [← bN_or h, if_pos hp]
theorem bN_of {p : Nat → Bool} {n : Nat} (h : n < 31) (hp : ¬ p n = true) : nI (bN p n) ||| (0 : Int32) = nI (bN p (n + 1)) := by
  rw [← bN_or h, if_neg hp]
theorem s6_catsIn {F nC : Nat} {a : Int32} {w place : Nat → Int32} {Post : Int32 → Prop} (hF : 5000 ≤ F) (hn : nC ≤ 8) (hp : ∀ i, i < 8 → place i = w (36 + i)) (k : Post (nI (thN nC w a))) : p_X6_catsIn F a (nI nC) place Post := by
  unfold p_X6_catsIn
  refine up_loop (fun n i s => p_X6_catsIn_4 F a (nI nC) place Post n i s) (fun j s => s = nI (bN (fun c => decide (w (36 + c) = a)) j)) nC ?_ ?_ F _ 0 rfl (by omega) (by omega)
  · intro m s hs
    subst hs
    show p_X6_catsIn_4 F a (nI nC) place Post (m + 1) _ _
    rw [p_X6_catsIn_4_s]
    exact pk_le nC nC (fun _ => k) (fun h => absurd h (by omega))
  · intro m j s hj hs ih
    subst hs
    show p_X6_catsIn_4 F a (nI nC) place Post (m + 1) _ _
    rw [p_X6_catsIn_4_s, nI_clamp (n := j) (by omega), hp j (by omega)]
    refine pk_le nC j (fun h => absurd h (by omega)) (fun _ => ⟨pk_in j 8 (by omega), fun q => ?_, fun q => ?_⟩)
    · exact ih _ (bN_of (by omega) (by simpa using q))
    · exact ih _ (bN_ot (by omega) (by simpa using q))
theorem s6_hasCat {F nC c : Nat} {Post : Int32 → Prop} (hn : nC ≤ 8) (hc : c < nC) (k : Post 1) : p_X6_hasCat F (nI c) (nI nC) Post := by
  unfold p_X6_hasCat
  exact br_f (nI_pos (by omega)) (br_f (nI_ge hc (by omega)) k)
theorem s6_hasArch {F nA a : Nat} {Post : Int32 → Prop} (hn : nA ≤ 6) (hc : a < nA) (k : Post 1) : p_X6_hasArch F (nI a) (nI nA) Post := by
  unfold p_X6_hasArch
  exact br_f (nI_pos (by omega)) (br_f (nI_ge hc (by omega)) k)
theorem s6_noCat {F nC : Nat} {p : Int32} {Post : Int32 → Prop} (hc : p < 0 ∨ nI nC ≤ p) (k : Post 0) : p_X6_hasCat F p (nI nC) Post := by
  unfold p_X6_hasCat
  refine ⟨fun _ => k, fun h => br_t (hc.resolve_left h) k⟩
theorem s6_noArch {F nA : Nat} {p : Int32} {Post : Int32 → Prop} (hc : p < 0 ∨ nI nA ≤ p) (k : Post 0) : p_X6_hasArch F p (nI nA) Post := by
  unfold p_X6_hasArch
  refine ⟨fun _ => k, fun h => br_t (hc.resolve_left h) k⟩
section
variable {F nA nC : Nat} {R : (Nat → Int32) → Int32} {w : Nat → Int32} {arches cats store hour drops sz top : Int32} {load sag joy bowl grief place steps stack : Nat → Int32}
theorem s6_purr {c a : Nat} {o : Int32} {Post : Int32 → (Int32 × (Nat → Int32)) → Prop} (hR : RX F R sz steps) (hV : AV nA nC w arches cats store hour drops load sag joy bowl grief place) (hA : nA ≤ 6) (hC : nC ≤ 8) (hc : c < nC) (ha : a < nA) (k : ∀ u, Post (pI R w c a o) u) : p_X4_purr F (nI c) (nI a) o sz steps stack arches cats hour sag load joy grief bowl Post := by
  obtain ⟨rfl, rfl, rfl, rfl, rfl, h1, h2, h3, h4, h5, h6⟩ := hV
  exact hR c a nA nC o (w 45) stack sag load joy grief bowl (lett w c a o) Post hc hC ha hA (h3 c (by omega)).symm (h4 c (by omega)).symm (h5 c (by omega)).symm rfl (h1 a (by omega)).symm (h2 a (by omega)).symm rfl k
theorem s6_holdBy {a set : Nat} {Post : Int32 → (Int32 × (Nat → Int32)) → Prop} (hF : 5000 ≤ F) (hR : RX F R sz steps) (hV : AV nA nC w arches cats store hour drops load sag joy bowl grief place) (hA : nA ≤ 6) (hC : nC ≤ 8) (ha : a < nA) (hs : set < 256) (k : ∀ u, Post (hB R w a set nC) u) : p_X6_holdBy F (nI a) (nI set) arches cats hour sz top steps stack sag load joy grief bowl Post := by
  unfold p_X6_holdBy
  refine s_bitCount ?_
  have hV' := hV
  obtain ⟨rfl, rfl, rfl, rfl, rfl, h1, h2, h3, h4, h5, h6⟩ := hV
  refine up_loop (fun n i (s : Int32 × Int32 × (Nat → Int32)) => p_X6_holdBy_14 F (nI a) (nI set) (nI nA) (nI nC) (w 45) sz steps sag load joy grief bowl (bcnt (nI set)) Post n i s.1 s.2.1 s.2.2) (fun j s => s.1 = hB R w a set j) nC ?_ ?_ F (0, top, stack) 0 rfl (by omega) (by omega)
  · rintro m ⟨s, t, u⟩ hs
    have hs : s = hB R w a set nC := hs
    subst hs
    show p_X6_holdBy_14 F (nI a) (nI set) (nI nA) (nI nC) (w 45) sz steps sag load joy grief bowl (bcnt (nI set)) Post (m + 1) _ _ _ _
    rw [p_X6_holdBy_14_s]
    exact pk_le nC nC (fun _ => k _) (fun h => absurd h (by omega))
  · rintro m j ⟨s, t, u⟩ hj hs' ih
    have hs' : s = hB R w a set j := hs'
    subst hs'
    show p_X6_holdBy_14 F (nI a) (nI set) (nI nA) (nI nC) (w 45) sz steps sag load joy grief bowl (bcnt (nI set)) Post (m + 1) _ _ _ _
    rw [p_X6_holdBy_14_s, fz_bit1 (by omega) (by omega)]
    refine pk_le nC j (fun h => absurd h (by omega)) (fun _ => ⟨fun q => ?_, fun q => ?_⟩)
    · exact ih (_, _, _) (by show _ = hB R w a set (j + 1); rw [hB, if_neg q, Int32.add_zero])
    · refine s6_purr hR hV' hA hC hj ha (fun v => ?_)
      exact ih (_, _, _) (by show _ = hB R w a set (j + 1); rw [hB, if_pos q])
theorem s6_holdOf {a : Nat} {Post : Int32 → (Int32 × (Nat → Int32)) → Prop} (hF : 5000 ≤ F) (hR : RX F R sz steps) (hV : AV nA nC w arches cats store hour drops load sag joy bowl grief place) (hA : nA ≤ 6) (hC : nC ≤ 8) (ha : a < nA) (k : ∀ u, Post (hO R nC w a) u) : p_X6_holdOf F (nI a) arches cats hour place sz top steps stack sag load joy grief bowl Post := by
  unfold p_X6_holdOf
  have hV' := hV
  obtain ⟨rfl, rfl, rfl, rfl, rfl, h1, h2, h3, h4, h5, h6⟩ := hV
  refine s6_catsIn (w := w) hF hC h6 (s6_holdBy hF hR hV' hA hC ha (thN_lt _ _ _ hC) (fun u => ?_))
  rw [hB_th R nC w a nC (Nat.le_refl _)]
  exact k _
theorem s6_purrOf {c : Nat} {Post : Int32 → (Int32 × (Nat → Int32)) → Prop} (hF : 5000 ≤ F) (hR : RX F R sz steps) (hV : AV nA nC w arches cats store hour drops load sag joy bowl grief place) (hO : OK nA nC w) (hc : c < nC) (k : ∀ u, Post (pO R nC w c) u) : p_X6_purrOf F (nI c) arches cats hour place sz steps stack sag load joy grief bowl Post := by
  unfold p_X6_purrOf
  have hV' := hV
  obtain ⟨rfl, rfl, rfl, rfl, rfl, h1, h2, h3, h4, h5, h6⟩ := hV
  obtain ⟨hA, hC, _, hpl, _⟩ := hO
  refine ⟨pk_in c 8 (by omega), pk_in c 8 (by omega), ?_⟩
  rw [nI_clamp (n := c) (by omega), h6 c (by omega)]
  refine s6_catsIn (w := w) hF hC h6 (s_bitCount ?_)
  obtain ⟨a, ha, e⟩ := hpl c hc
  unfold pO at k
  rw [e] at k ⊢
  rw [nI_clamp (n := a) (by omega)] at k
  exact s6_purr hR hV' hA hC hc ha (fun v => k _)
/-- sums -/
def sumI (f : Nat → Int32) : Nat → Int32
  | 0 => 0
  | n + 1 => sumI f n + f n
theorem sumI_cong {f g : Nat → Int32} : ∀ {n : Nat}, (∀ i, i < n → f i = g i) → sumI f n = sumI g n
  | 0, _ => rfl
  | n + 1, h => by rw [sumI, sumI, sumI_cong (fun i hi => h i (by omega)), h n (by omega)]
theorem s6_sumOf {n N : Nat} {f : Nat → Int32} {Post : Int32 → Prop} (hF : 5000 ≤ F) (hn : n ≤ N) (hN : N ≤ 8) (k : Post (sumI f n)) : p_X6_sumOf F (nI n) N f Post := by
  unfold p_X6_sumOf
  refine up_loop (fun m i s => p_X6_sumOf_4 F (nI n) N f Post m i s) (fun j s => s = sumI f j) n ?_ ?_ F _ 0 rfl (by omega) (by omega)
  · intro m s hs
    subst hs
    show p_X6_sumOf_4 F (nI n) N f Post (m + 1) _ _
    rw [p_X6_sumOf_4_s]
    exact pk_le n n (fun _ => k) (fun h => absurd h (by omega))
  · intro m j s hj hs ih
    subst hs
    show p_X6_sumOf_4 F (nI n) N f Post (m + 1) _ _
    rw [p_X6_sumOf_4_s, nI_clamp (n := j) (by omega)]
    refine pk_le n j (fun h => absurd h (by omega)) (fun _ => pk_le N j (fun h => absurd h (by omega)) (fun _ => ⟨pk_in j N (by omega), ?_⟩))
    exact ih _ rfl
def sagS (nA : Nat) (w : Nat → Int32) : Int32 := sumI (fun i => w (6 + i)) nA
def loadS (nA : Nat) (w : Nat → Int32) : Int32 := sumI w nA
def joyS (nC : Nat) (w : Nat → Int32) : Int32 := sumI (fun i => w (12 + i)) nC
theorem s6_allSags {Post : Int32 → Prop} (hF : 5000 ≤ F) (hV : AV nA nC w arches cats store hour drops load sag joy bowl grief place) (hA : nA ≤ 6) (k : Post (sagS nA w)) : p_X6_allSags F arches sag Post := by
  obtain ⟨rfl, rfl, rfl, rfl, rfl, h1, h2, h3, h4, h5, h6⟩ := hV
  refine s6_sumOf hF hA (by omega) ?_
  rw [sumI_cong (fun i hi => h2 i (by omega))]
  exact k
theorem s6_allLoads {Post : Int32 → Prop} (hF : 5000 ≤ F) (hV : AV nA nC w arches cats store hour drops load sag joy bowl grief place) (hA : nA ≤ 6) (k : Post (loadS nA w)) : p_X6_allLoads F arches load Post := by
  obtain ⟨rfl, rfl, rfl, rfl, rfl, h1, h2, h3, h4, h5, h6⟩ := hV
  refine s6_sumOf hF hA (by omega) ?_
  rw [sumI_cong (fun i hi => h1 i (by omega))]
  exact k
theorem s6_allJoy {Post : Int32 → Prop} (hF : 5000 ≤ F) (hV : AV nA nC w arches cats store hour drops load sag joy bowl grief place) (hC : nC ≤ 8) (k : Post (joyS nC w)) : p_X6_allJoy F cats joy Post := by
  obtain ⟨rfl, rfl, rfl, rfl, rfl, h1, h2, h3, h4, h5, h6⟩ := hV
  refine s6_sumOf hF hC (by omega) ?_
  rw [sumI_cong (fun i hi => h3 i (by omega))]
  exact k
def holdAll (R : (Nat → Int32) → Int32) (nA nC : Nat) (w : Nat → Int32) : Int32 := sumI (fun a => hO R nC w a) nA
theorem s6_allHold {Post : Int32 → (Int32 × (Nat → Int32)) → Prop} (hF : 5000 ≤ F) (hR : RX F R sz steps) (hV : AV nA nC w arches cats store hour drops load sag joy bowl grief place) (hA : nA ≤ 6) (hC : nC ≤ 8) (k : ∀ u, Post (holdAll R nA nC w) u) : p_X6_allHold F arches cats hour sz top place steps stack sag load joy grief bowl Post := by
  unfold p_X6_allHold
  have hV' := hV
  obtain ⟨rfl, rfl, rfl, rfl, rfl, h1, h2, h3, h4, h5, h6⟩ := hV
  refine up_loop (fun n i (s : Int32 × Int32 × (Nat → Int32)) => p_X6_allHold_4 F (nI nA) (nI nC) (w 45) sz place steps sag load joy grief bowl Post n i s.1 s.2.1 s.2.2) (fun j s => s.1 = sumI (fun a => hO R nC w a) j) nA ?_ ?_ F (0, top, stack) 0 rfl (by omega) (by omega)
  · rintro m ⟨s, t, u⟩ hs
    have hs : s = _ := hs
    subst hs
    show p_X6_allHold_4 F (nI nA) (nI nC) (w 45) sz place steps sag load joy grief bowl Post (m + 1) _ _ _ _
    rw [p_X6_allHold_4_s]
    exact pk_le nA nA (fun _ => k _) (fun h => absurd h (by omega))
  · rintro m j ⟨s, t, u⟩ hj hs ih
    have hs : s = _ := hs
    subst hs
    show p_X6_allHold_4 F (nI nA) (nI nC) (w 45) sz place steps sag load joy grief bowl Post (m + 1) _ _ _ _
    rw [p_X6_allHold_4_s]
    refine pk_le nA j (fun h => absurd h (by omega)) (fun _ => ?_)
    exact s6_holdOf hF hR hV' hA hC hj (fun v => ih (_, _, _) rfl)
/-- arches that hold -/
def held (R : (Nat → Int32) → Int32) (nA nC : Nat) (w : Nat → Int32) : Nat := bN (fun a => ! decide (hO R nC w a < w a)) nA
theorem s6_heldArches {Post : Int32 → (Int32 × (Nat → Int32)) → Prop} (hF : 5000 ≤ F) (hR : RX F R sz steps) (hV : AV nA nC w arches cats store hour drops load sag joy bowl grief place) (hA : nA ≤ 6) (hC : nC ≤ 8) (k : ∀ u, Post (nI (held R nA nC w)) u) : p_X6_heldArches F arches cats hour sz top place steps stack sag load joy grief bowl Post := by
  unfold p_X6_heldArches
  have hV' := hV
  obtain ⟨rfl, rfl, rfl, rfl, rfl, h1, h2, h3, h4, h5, h6⟩ := hV
  refine up_loop (fun n i (s : Int32 × Int32 × (Nat → Int32)) => p_X6_heldArches_4 F (nI nA) (nI nC) (w 45) sz place steps sag load joy grief bowl Post n i s.1 s.2.1 s.2.2) (fun j s => s.1 = nI (bN (fun a => ! decide (hO R nC w a < w a)) j)) nA ?_ ?_ F (0, top, stack) 0 rfl (by omega) (by omega)
  · rintro m ⟨s, t, u⟩ hs
    have hs : s = _ := hs
    subst hs
    show p_X6_heldArches_4 F (nI nA) (nI nC) (w 45) sz place steps sag load joy grief bowl Post (m + 1) _ _ _ _
    rw [p_X6_heldArches_4_s]
    exact pk_le nA nA (fun _ => k _) (fun h => absurd h (by omega))
  · rintro m j ⟨s, t, u⟩ hj hs ih
    have hs : s = _ := hs
    subst hs
    show p_X6_heldArches_4 F (nI nA) (nI nC) (w 45) sz place steps sag load joy grief bowl Post (m + 1) _ _ _ _
    rw [p_X6_heldArches_4_s, nI_clamp (n := j) (by omega), h1 j (by omega)]
    refine pk_le nA j (fun h => absurd h (by omega)) (fun _ => ?_)
    refine s6_holdOf hF hR hV' hA hC hj (fun v => ⟨pk_in j 6 (by omega), fun q => ?_, fun q => ?_⟩)
    · exact ih (_, _, _) (bN_of (by omega) (by simpa using q))
    · exact ih (_, _, _) (bN_ot (by omega) (by simpa using q))
def lows (nA : Nat) (w : Nat → Int32) : Nat := bN (fun a => decide (w (6 + a) = 9)) nA
theorem s6_lowestArches {Post : Int32 → Prop} (hF : 5000 ≤ F) (hV : AV nA nC w arches cats store hour drops load sag joy bowl grief place) (hA : nA ≤ 6) (k : Post (nI (lows nA w))) : p_X6_lowestArches F arches sag Post := by
  obtain ⟨rfl, rfl, rfl, rfl, rfl, h1, h2, h3, h4, h5, h6⟩ := hV
  refine up_loop (fun n i s => p_X6_lowestArches_4 F (nI nA) sag Post n i s) (fun j s => s = nI (bN (fun a => decide (w (6 + a) = 9)) j)) nA ?_ ?_ F _ 0 rfl (by omega) (by omega)
  · intro m s hs
    subst hs
    show p_X6_lowestArches_4 F (nI nA) sag Post (m + 1) _ _
    rw [p_X6_lowestArches_4_s]
    exact pk_le nA nA (fun _ => k) (fun h => absurd h (by omega))
  · intro m j s hj hs ih
    subst hs
    show p_X6_lowestArches_4 F (nI nA) sag Post (m + 1) _ _
    rw [p_X6_lowestArches_4_s, nI_clamp (n := j) (by omega), h2 j (by omega)]
    refine pk_le nA j (fun h => absurd h (by omega)) (fun _ => ⟨pk_in j 6 (by omega), fun q => ?_, fun q => ?_⟩)
    · exact ih _ (bN_of (by omega) (by simpa using q))
    · exact ih _ (bN_ot (by omega) (by simpa using q))
def loaded (nA : Nat) (w : Nat → Int32) : Nat := bN (fun a => ! decide (w a ≤ 0)) nA
theorem s6_loadedArches {Post : Int32 → Prop} (hF : 5000 ≤ F) (hV : AV nA nC w arches cats store hour drops load sag joy bowl grief place) (hA : nA ≤ 6) (k : Post (nI (loaded nA w))) : p_X6_loadedArches F arches load Post := by
  obtain ⟨rfl, rfl, rfl, rfl, rfl, h1, h2, h3, h4, h5, h6⟩ := hV
  refine up_loop (fun n i s => p_X6_loadedArches_4 F (nI nA) load Post n i s) (fun j s => s = nI (bN (fun a => ! decide (w a ≤ 0)) j)) nA ?_ ?_ F _ 0 rfl (by omega) (by omega)
  · intro m s hs
    subst hs
    show p_X6_loadedArches_4 F (nI nA) load Post (m + 1) _ _
    rw [p_X6_loadedArches_4_s]
    exact pk_le nA nA (fun _ => k) (fun h => absurd h (by omega))
  · intro m j s hj hs ih
    subst hs
    show p_X6_loadedArches_4 F (nI nA) load Post (m + 1) _ _
    rw [p_X6_loadedArches_4_s, nI_clamp (n := j) (by omega), h1 j (by omega)]
    refine pk_le nA j (fun h => absurd h (by omega)) (fun _ => ⟨pk_in j 6 (by omega), fun q => ?_, fun q => ?_⟩)
    · exact ih _ (bN_of (by omega) (by simpa using q))
    · exact ih _ (bN_ot (by omega) (by simpa using q))
theorem s6_become {load' sag' joy' bowl' grief' place' : Nat → Int32} {Post : (Int32 × Int32 × Int32 × Int32 × Int32 × (Nat → Int32) × (Nat → Int32) × (Nat → Int32) × (Nat → Int32) × (Nat → Int32) × (Nat → Int32)) → Prop} (hV : AV nA nC w arches cats store hour drops load sag joy bowl grief place) (k : ∀ l2 s2 j2 b2 g2 p2, AV nA nC w arches cats store hour drops l2 s2 j2 b2 g2 p2 → Post (arches, cats, store, hour, drops, l2, s2, j2, b2, g2, p2)) : p_X6_become F arches cats store hour drops load load' sag sag' joy joy' bowl bowl' grief grief' place place' Post := by
  obtain ⟨e1, e2, e3, e4, e5, h1, h2, h3, h4, h5, h6⟩ := hV
  refine k _ _ _ _ _ _ ⟨e1, e2, e3, e4, e5, ?_, ?_, ?_, ?_, ?_, ?_⟩
  · intro i hi; rw [show va_cpy load load' (0 : Int32).toNatClampNeg (0 : Int32).toNatClampNeg (6 : Int32).toNatClampNeg i = load i from sb_cpy0 hi]; exact h1 i hi
  · intro i hi; rw [show va_cpy sag sag' (0 : Int32).toNatClampNeg (0 : Int32).toNatClampNeg (6 : Int32).toNatClampNeg i = sag i from sb_cpy0 hi]; exact h2 i hi
  · intro i hi; rw [show va_cpy joy joy' (0 : Int32).toNatClampNeg (0 : Int32).toNatClampNeg (8 : Int32).toNatClampNeg i = joy i from sb_cpy0 hi]; exact h3 i hi
  · intro i hi; rw [show va_cpy bowl bowl' (0 : Int32).toNatClampNeg (0 : Int32).toNatClampNeg (8 : Int32).toNatClampNeg i = bowl i from sb_cpy0 hi]; exact h4 i hi
  · intro i hi; rw [show va_cpy grief grief' (0 : Int32).toNatClampNeg (0 : Int32).toNatClampNeg (8 : Int32).toNatClampNeg i = grief i from sb_cpy0 hi]; exact h5 i hi
  · intro i hi; rw [show va_cpy place place' (0 : Int32).toNatClampNeg (0 : Int32).toNatClampNeg (8 : Int32).toNatClampNeg i = place i from sb_cpy0 hi]; exact h6 i hi
end
