/-! ===== the viaduct as one row w of 47 numbers: LOAD 0.., SAG 6.., JOY 12.., BOWL 20.., GRIEF 28.., ARCH 36.., STORE 44, HOUR 45, DROPS 46 ===== -/
def lett (w : Nat → Int32) (c a : Nat) (o : Int32) : Nat → Int32 := fun k => match k with
  | 0 => w (12 + c)
  | 1 => w (20 + c)
  | 2 => w (28 + c)
  | 3 => o
  | 4 => w a
  | 5 => w (6 + a)
  | _ => w 45 - w 45 / 7 * 7
def pI (R : (Nat → Int32) → Int32) (w : Nat → Int32) (c a : Nat) (o : Int32) : Int32 := cl9 (R (lett w c a o))
/-- cats in an arch -/
def thN (nC : Nat) (w : Nat → Int32) (a : Int32) : Nat := bN (fun c => decide (w (36 + c) = a)) nC
def hS (R : (Nat → Int32) → Int32) (nC : Nat) (w : Nat → Int32) (a : Nat) : Nat → Int32
  | 0 => 0
  | n + 1 => hS R nC w a n + (if w (36 + n) = nI a then pI R w n a (bcnt (nI (thN nC w (nI a))) - 1) else 0)
/-- HOLD -/
def hO (R : (Nat → Int32) → Int32) (nC : Nat) (w : Nat → Int32) (a : Nat) : Int32 := hS R nC w a nC
/-- PURR -/
def pO (R : (Nat → Int32) → Int32) (nC : Nat) (w : Nat → Int32) (c : Nat) : Int32 := pI R w c (w (36 + c)).toNatClampNeg (bcnt (nI (thN nC w (w (36 + c)))) - 1)
/-- HOLD by a set of cats -/
def hB (R : (Nat → Int32) → Int32) (w : Nat → Int32) (a : Nat) (set : Nat) : Nat → Int32
  | 0 => 0
  | n + 1 => hB R w a set n + (if set.testBit n then pI R w n a (bcnt (nI set) - 1) else 0)
def sg1 (ld hd sg : Int32) : Int32 := if hd < ld then (if (9 : Int32) ≤ sg then sg else sg + 1) else if hd ≤ ld then sg else decN sg
def jy1 (jy bw : Int32) : Int32 := if bw = 0 then decN jy else jy
def drop1 (R : (Nat → Int32) → Int32) (nC : Nat) (w : Nat → Int32) (a : Nat) : Bool := decide (hO R nC w a < w a) && decide ((9 : Int32) ≤ w (6 + a))
def dct (R : (Nat → Int32) → Int32) (nC : Nat) (w : Nat → Int32) : Nat → Nat
  | 0 => 0
  | n + 1 => dct R nC w n + (if drop1 R nC w n then 1 else 0)
def drN : Nat → Int32 → Int32
  | 0, v => v
  | n + 1, v => if drN n v + 1 < 9999 then drN n v + 1 else 9999
/-- an hour goes by -/
def goH (R : (Nat → Int32) → Int32) (nA nC : Nat) (w : Nat → Int32) : Nat → Int32 := fun i =>
  if i < 6 then w i
  else if i < 12 then (if i - 6 < nA then sg1 (w (i - 6)) (hO R nC w (i - 6)) (w i) else w i)
  else if i < 20 then (if i - 12 < nC then jy1 (w i) (w (i + 8)) else w i)
  else if i < 28 then (if i - 20 < nC then decN (w i) else w i)
  else if i < 36 then (if i - 28 < nC then decN (w i) else w i)
  else if i < 45 then w i
  else if i = 45 then w 45 + 1
  else if i = 46 then drN (dct R nC w nA) (w 46) else w i
/-- the class's viaduct as w -/
def AV (nA nC : Nat) (w : Nat → Int32) (arches cats store hour drops : Int32) (load sag joy bowl grief place : Nat → Int32) : Prop :=
  arches = nI nA ∧ cats = nI nC ∧ store = w 44 ∧ hour = w 45 ∧ drops = w 46 ∧ (∀ i, i < 6 → load i = w i) ∧ (∀ i, i < 6 → sag i = w (6 + i)) ∧ (∀ i, i < 8 → joy i = w (12 + i)) ∧ (∀ i, i < 8 → bowl i = w (20 + i)) ∧ (∀ i, i < 8 → grief i = w (28 + i)) ∧ (∀ i, i < 8 → place i = w (36 + i))
/-- the model's row as w -/
def MV (w f : Nat → Int32) : Prop := ∀ i, i < 47 → f i = w i
/-- what always holds -/
def OK (nA nC : Nat) (w : Nat → Int32) : Prop :=
  nA ≤ 6 ∧ nC ≤ 8 ∧ (∀ i, i < 36 → dg (w i)) ∧ (∀ c, c < nC → ∃ a, a < nA ∧ w (36 + c) = nI a) ∧ (∃ d, d ≤ 9999 ∧ w 46 = nI d) ∧ (∀ i, nA ≤ i → i < 6 → w (6 + i) = 0) ∧ (∀ i, nC ≤ i → i < 8 → w (28 + i) = 0)
/-- the class's rule is R -/
def RX (F : Nat) (R : (Nat → Int32) → Int32) (sz : Int32) (steps : Nat → Int32) : Prop :=
  ∀ (c a nA nC : Nat) (o hour : Int32) (stack sag load joy grief bowl lt : Nat → Int32) (Post : Int32 → (Int32 × (Nat → Int32)) → Prop), c < nC → nC ≤ 8 → a < nA → nA ≤ 6 → lt 0 = joy c → lt 1 = bowl c → lt 2 = grief c → lt 3 = o → lt 4 = load a → lt 5 = sag a → lt 6 = hour - hour / 7 * 7 → (∀ u, Post (cl9 (R lt)) u) →
    p_X4_purr F (nI c) (nI a) o sz steps stack (nI nA) (nI nC) hour sag load joy grief bowl Post
/-- the model's rule is R -/
def RM (F : Nat) (R : (Nat → Int32) → Int32) (m : Nat) (rule : Nat → Int32) : Prop :=
  m ≤ 40 ∧ ((m = 0 ∧ ∀ lt, R lt = lt 0 - lt 2) ∨ (0 < m ∧ ∀ (lt asked : Nat → Int32) (Post : Int32 → (Int32 × Int32) → Prop), (∀ k, k < 7 → asked k = lt k) → (∀ u, Post (R lt) u) → p_X8_heldT F 0 (nI m) 40 0 (-1) 1 40 rule asked Post))
/-! facts of these -/
theorem pI_dg (R : (Nat → Int32) → Int32) (w : Nat → Int32) (c a : Nat) (o : Int32) : dg (pI R w c a o) := cl9_dg _
theorem hS_n (R : (Nat → Int32) → Int32) (nC : Nat) (w : Nat → Int32) (a : Nat) : ∀ n, ∃ h, h ≤ 9 * n ∧ hS R nC w a n = nI h
  | 0 => ⟨0, by omega, rfl⟩
  | n + 1 => by
    obtain ⟨h, hh, e⟩ := hS_n R nC w a n
    rw [hS, e]
    by_cases q : w (36 + n) = nI a
    · rw [if_pos q]
      obtain ⟨k, hk, e2⟩ := pI_dg R w n a (bcnt (nI (thN nC w (nI a))) - 1)
      rw [e2, nI_add]
      exact ⟨h + k, by omega, rfl⟩
    · rw [if_neg q, zI_0, nI_add]
      exact ⟨h + 0, by omega, rfl⟩
theorem hO_n (R : (Nat → Int32) → Int32) {nC : Nat} (hn : nC ≤ 8) (w : Nat → Int32) (a : Nat) : ∃ h, h ≤ 72 ∧ hO R nC w a = nI h := by
  obtain ⟨h, hh, e⟩ := hS_n R nC w a nC
  exact ⟨h, by omega, e⟩
theorem thN_lt (nC : Nat) (w : Nat → Int32) (a : Int32) (h : nC ≤ 8) : thN nC w a < 256 := Nat.lt_of_lt_of_le (bN_lt _ nC) (Nat.pow_le_pow_right (n := 2) (by decide) h)
theorem thN_has {nC c : Nat} {w : Nat → Int32} {a : Int32} (hn : nC ≤ 8) (hc : c < nC) : ((nI (thN nC w a) >>> (nI c &&& 31)) &&& 1) = 1 ↔ w (36 + c) = a := by
  unfold thN
  rw [bN_has (by omega) hc, decide_eq_true_iff]
theorem thN_bit {nC c : Nat} {w : Nat → Int32} {a : Int32} (hc : c < nC) : (thN nC w a).testBit c = decide (w (36 + c) = a) := by
  unfold thN
  rw [bN_bit]
  simp [hc]
theorem lett_cong {w v : Nat → Int32} {c a : Nat} {o : Int32} (h1 : v (12 + c) = w (12 + c)) (h2 : v (20 + c) = w (20 + c)) (h3 : v (28 + c) = w (28 + c)) (h4 : v a = w a) (h5 : v (6 + a) = w (6 + a)) (h6 : v 45 = w 45) : lett v c a o = lett w c a o := by
  funext k
  unfold lett
  split
  · exact h1
  · exact h2
  · exact h3
  · rfl
  · exact h4
  · exact h5
  · rw [h6]
theorem thN_cong {nC : Nat} {w v : Nat → Int32} {a : Int32} (h : ∀ c, c < nC → v (36 + c) = w (36 + c)) : thN nC v a = thN nC w a := bN_cong (fun i hi => by simp only [h i hi])
theorem hS_cong {R : (Nat → Int32) → Int32} {nC a : Nat} {w v : Nat → Int32} (hp : ∀ c, c < nC → v (36 + c) = w (36 + c)) (hc : ∀ c, c < nC → v (12 + c) = w (12 + c) ∧ v (20 + c) = w (20 + c) ∧ v (28 + c) = w (28 + c)) (h4 : v a = w a) (h5 : v (6 + a) = w (6 + a)) (h6 : v 45 = w 45) : ∀ n, n ≤ nC → hS R nC v a n = hS R nC w a n
  | 0, _ => rfl
  | n + 1, hn => by
    rw [hS, hS, hS_cong hp hc h4 h5 h6 n (by omega), hp n (by omega), thN_cong hp]
    unfold pI
    obtain ⟨q1, q2, q3⟩ := hc n (by omega)
    rw [lett_cong q1 q2 q3 h4 h5 h6]
theorem hO_cong {R : (Nat → Int32) → Int32} {nC a : Nat} {w v : Nat → Int32} (hp : ∀ c, c < nC → v (36 + c) = w (36 + c)) (hc : ∀ c, c < nC → v (12 + c) = w (12 + c) ∧ v (20 + c) = w (20 + c) ∧ v (28 + c) = w (28 + c)) (h4 : v a = w a) (h5 : v (6 + a) = w (6 + a)) (h6 : v 45 = w 45) : hO R nC v a = hO R nC w a := hS_cong hp hc h4 h5 h6 nC (Nat.le_refl _)
/-- HOLD by the cats that are there is HOLD -/
theorem hB_th (R : (Nat → Int32) → Int32) (nC : Nat) (w : Nat → Int32) (a : Nat) : ∀ n, n ≤ nC → hB R w a (thN nC w (nI a)) n = hS R nC w a n
  | 0, _ => rfl
  | n + 1, h => by
    rw [hB, hS, hB_th R nC w a n (by omega), thN_bit (by omega)]
    by_cases q : w (36 + n) = nI a
    · simp [q]
    · simp [q]
