/-! ===== pure side: small facts, spec functions ===== -/
theorem zI_0 : (0 : Int32) = nI 0 := rfl
theorem zI_1 : (1 : Int32) = nI 1 := rfl
theorem fz_or (a b : Nat) : nI a ||| nI b = nI (a ||| b) := by
  apply Int32.toBitVec_inj.1
  show BitVec.ofNat 32 a ||| BitVec.ofNat 32 b = BitVec.ofNat 32 (a ||| b)
  apply BitVec.eq_of_getLsbD_eq
  intro i hi
  simp [hi]
theorem fz_and (a b : Nat) : nI a &&& nI b = nI (a &&& b) := by
  apply Int32.toBitVec_inj.1
  show BitVec.ofNat 32 a &&& BitVec.ofNat 32 b = BitVec.ofNat 32 (a &&& b)
  apply BitVec.eq_of_getLsbD_eq
  intro i hi
  simp [hi]
theorem fz_sm : ∀ c, c < 32 → ((nI c &&& 31).toBitVec.smod 32).toNat = c := by decide
theorem fz_sh1 {c : Nat} (h : c < 31) : (1 : Int32) <<< (nI c &&& 31) = nI (2 ^ c) := by
  have h1 : 2 ^ c < 2 ^ 31 := Nat.pow_lt_pow_right (by omega) h
  have := pk_shlN (n := 1) (nI c &&& 31) c (fz_sm c (by omega)) (by omega)
  rw [Nat.one_mul] at this
  exact this
theorem fz_bit {m c : Nat} (hm : m < 2 ^ 31) (hc : c < 31) : ((nI m >>> (nI c &&& 31)) &&& 1) = nI (m / 2 ^ c % 2) := by
  rw [pk_shrN hm (nI c &&& 31) c (fz_sm c (by omega))]
  have := pk_andN (n := m / 2 ^ c) (by have := Nat.div_le_self m (2 ^ c); omega) (m := 1) 1 (by decide)
  exact this
theorem fz_bit1 {m c : Nat} (hm : m < 2 ^ 31) (hc : c < 31) : ((nI m >>> (nI c &&& 31)) &&& 1) = 1 ↔ m.testBit c = true := by
  rw [fz_bit hm hc, Nat.testBit_eq_decide_div_mod_eq, zI_1, nI_eq (by omega) (by omega), decide_eq_true_iff]
/-- bits of a predicate -/
def bN (p : Nat → Bool) : Nat → Nat
  | 0 => 0
  | n + 1 => bN p n ||| (if p n then 2 ^ n else 0)
theorem bN_lt (p : Nat → Bool) : ∀ n, bN p n < 2 ^ n
  | 0 => by simp [bN]
  | n + 1 => by
    have ih := bN_lt p n
    have h2 : 2 ^ (n + 1) = 2 ^ n * 2 := Nat.pow_succ 2 n
    have h3 : (if p n then 2 ^ n else 0) < 2 ^ (n + 1) := by
      have : 0 < 2 ^ n := Nat.two_pow_pos n
      split <;> omega
    exact Nat.or_lt_two_pow (by omega) h3
theorem bN_bit (p : Nat → Bool) (i : Nat) : ∀ n, (bN p n).testBit i = (decide (i < n) && p i)
  | 0 => by simp [bN]
  | n + 1 => by
    rw [bN, Nat.testBit_or, bN_bit p i n]
    by_cases hp : p n = true
    · rw [if_pos hp, Nat.testBit_two_pow]
      by_cases h : n = i
      · subst h; simp [hp]
      · have : (i < n + 1) = (i < n) := by apply propext; omega
        simp [h, this]
    · rw [if_neg hp]
      by_cases h : n = i
      · subst h; simp [hp]
      · have : (i < n + 1) = (i < n) := by apply propext; omega
        simp [this]
theorem bN_cong {p q : Nat → Bool} : ∀ {n : Nat}, (∀ i, i < n → p i = q i) → bN p n = bN q n
  | 0, _ => rfl
  | n + 1, h => by rw [bN, bN, bN_cong (fun i hi => h i (by omega)), h n (by omega)]
theorem bN_or {p : Nat → Bool} {n : Nat} (h : n < 31) : nI (bN p n) ||| (if p n then (1 : Int32) <<< (nI n &&& 31) else 0) = nI (bN p (n + 1)) := by
  rw [bN]
  by_cases hp : p n = true
  · rw [if_pos hp, if_pos hp, fz_sh1 h, fz_or]
  · rw [if_neg hp, if_neg hp, zI_0, fz_or]
theorem bN_31 (p : Nat → Bool) {n : Nat} (h : n ≤ 31) : bN p n < 2 ^ 31 := Nat.lt_of_lt_of_le (bN_lt p n) (Nat.pow_le_pow_right (by decide) h)
theorem bN_has {p : Nat → Bool} {n c : Nat} (hn : n ≤ 30) (hc : c < n) : ((nI (bN p n) >>> (nI c &&& 31)) &&& 1) = 1 ↔ p c = true := by
  rw [fz_bit1 (bN_31 p (by omega)) (by omega), bN_bit]
  simp [hc]
/-- a loop upwards, state s, invariant I -/
theorem up_loop {A : Type} (W : Nat → Int32 → A → Prop) (I : Nat → A → Prop) (N : Nat) (hend : ∀ m s, I N s → W (m + 1) (nI N) s) (hstep : ∀ m j s, j < N → I j s → (∀ s', I (j + 1) s' → W m (nI j + 1) s') → W (m + 1) (nI j) s) : ∀ (F : Nat) (s : A) (j : Nat), I j s → j ≤ N → N - j < F → W F (nI j) s
  | 0, s, j, _, _, h => absurd h (Nat.not_lt_zero _)
  | F + 1, s, j, hI, hj, h => by
    rcases Nat.lt_or_ge j N with hlt | hge
    · exact hstep F j s hlt hI (fun s' hI' => by rw [← nI_succ]; exact up_loop W I N hend hstep F s' (j + 1) hI' hlt (by omega))
    · have : j = N := by omega
      subst this
      exact hend F s hI
theorem cl_add {a b : Nat} (h : a + b < 2 ^ 31) : (nI a + nI b).toNatClampNeg = a + b := by rw [nI_add, nI_clamp h]
theorem in_add {a b N : Nat} (h : a + b < N) (hN : N < 2 ^ 31) : vp_in (nI a + nI b) N := by rw [nI_add]; exact vp_in_nI h hN
theorem sub_le0 {a b : Nat} (ha : a < 2 ^ 30) (hb : b < 2 ^ 30) : nI a - nI b ≤ 0 ↔ a ≤ b := by
  rw [Int32.le_iff_toInt_le, pk_sub_toInt ha hb]
  show (a : Int) - b ≤ 0 ↔ _
  omega
theorem sub_ge0 {a b : Nat} (ha : a < 2 ^ 30) (hb : b < 2 ^ 30) : 0 ≤ nI a - nI b ↔ b ≤ a := by
  rw [Int32.le_iff_toInt_le, pk_sub_toInt ha hb]
  show 0 ≤ (a : Int) - b ↔ _
  omega
/-- digits -/
def dg (v : Int32) : Prop := ∃ k, k ≤ 9 ∧ v = nI k
def cl9 (v : Int32) : Int32 := if (0 : Int32) < (if v < (9 : Int32) then v else (9 : Int32)) then (if v < (9 : Int32) then v else (9 : Int32)) else (0 : Int32)
theorem cl9_dg (v : Int32) : dg (cl9 v) := by
  unfold cl9
  by_cases h : v < 9
  · rw [if_pos h]
    by_cases h0 : (0 : Int32) < v
    · rw [if_pos h0]
      obtain ⟨j, hj, e⟩ := nI_of2 (M := 9) (n := 9) (by decide) (x := v) (by intro q; rw [Int32.lt_iff_toInt_lt] at q h0; omega) (by rw [Int32.le_iff_toInt_le]; rw [Int32.lt_iff_toInt_lt] at h; omega)
      exact ⟨j, hj, e⟩
    · rw [if_neg h0]; exact ⟨0, by omega, rfl⟩
  · rw [if_neg h, if_pos (by decide)]; exact ⟨9, by omega, rfl⟩
def decN (v : Int32) : Int32 := if (0 : Int32) < v - 1 then v - 1 else 0
theorem decN_d : ∀ k, k ≤ 9 → decN (nI k) = nI (k - 1) := by
  have : ∀ k, k < 10 → decN (nI k) = nI (k - 1) := by decide
  exact fun k h => this k (by omega)
theorem decN_dg {v : Int32} (h : dg v) : dg (decN v) := by
  obtain ⟨k, hk, rfl⟩ := h
  exact ⟨k - 1, by omega, decN_d k hk⟩
/-- Integer.bitCount, as it is computed -/
def bcnt (p0 : Int32) : Int32 := ((((((((p0 - (((p0.toUInt32 >>> ((1 : Int32).toUInt32 &&& Int32.toUInt32 31)).toInt32) &&& (1431655765 : Int32))) &&& (858993459 : Int32)) + ((((p0 - (((p0.toUInt32 >>> ((1 : Int32).toUInt32 &&& Int32.toUInt32 31)).toInt32) &&& (1431655765 : Int32))).toUInt32 >>> ((2 : Int32).toUInt32 &&& Int32.toUInt32 31)).toInt32) &&& (858993459 : Int32))) + (((((p0 - (((p0.toUInt32 >>> ((1 : Int32).toUInt32 &&& Int32.toUInt32 31)).toInt32) &&& (1431655765 : Int32))) &&& (858993459 : Int32)) + ((((p0 - (((p0.toUInt32 >>> ((1 : Int32).toUInt32 &&& Int32.toUInt32 31)).toInt32) &&& (1431655765 : Int32))).toUInt32 >>> ((2 : Int32).toUInt32 &&& Int32.toUInt32 31)).toInt32) &&& (858993459 : Int32))).toUInt32 >>> ((4 : Int32).toUInt32 &&& Int32.toUInt32 31)).toInt32)) &&& (252645135 : Int32)) + (((((((p0 - (((p0.toUInt32 >>> ((1 : Int32).toUInt32 &&& Int32.toUInt32 31)).toInt32) &&& (1431655765 : Int32))) &&& (858993459 : Int32)) + ((((p0 - (((p0.toUInt32 >>> ((1 : Int32).toUInt32 &&& Int32.toUInt32 31)).toInt32) &&& (1431655765 : Int32))).toUInt32 >>> ((2 : Int32).toUInt32 &&& Int32.toUInt32 31)).toInt32) &&& (858993459 : Int32))) + (((((p0 - (((p0.toUInt32 >>> ((1 : Int32).toUInt32 &&& Int32.toUInt32 31)).toInt32) &&& (1431655765 : Int32))) &&& (858993459 : Int32)) + ((((p0 - (((p0.toUInt32 >>> ((1 : Int32).toUInt32 &&& Int32.toUInt32 31)).toInt32) &&& (1431655765 : Int32))).toUInt32 >>> ((2 : Int32).toUInt32 &&& Int32.toUInt32 31)).toInt32) &&& (858993459 : Int32))).toUInt32 >>> ((4 : Int32).toUInt32 &&& Int32.toUInt32 31)).toInt32)) &&& (252645135 : Int32)).toUInt32 >>> ((8 : Int32).toUInt32 &&& Int32.toUInt32 31)).toInt32)) + ((((((((p0 - (((p0.toUInt32 >>> ((1 : Int32).toUInt32 &&& Int32.toUInt32 31)).toInt32) &&& (1431655765 : Int32))) &&& (858993459 : Int32)) + ((((p0 - (((p0.toUInt32 >>> ((1 : Int32).toUInt32 &&& Int32.toUInt32 31)).toInt32) &&& (1431655765 : Int32))).toUInt32 >>> ((2 : Int32).toUInt32 &&& Int32.toUInt32 31)).toInt32) &&& (858993459 : Int32))) + (((((p0 - (((p0.toUInt32 >>> ((1 : Int32).toUInt32 &&& Int32.toUInt32 31)).toInt32) &&& (1431655765 : Int32))) &&& (858993459 : Int32)) + ((((p0 - (((p0.toUInt32 >>> ((1 : Int32).toUInt32 &&& Int32.toUInt32 31)).toInt32) &&& (1431655765 : Int32))).toUInt32 >>> ((2 : Int32).toUInt32 &&& Int32.toUInt32 31)).toInt32) &&& (858993459 : Int32))).toUInt32 >>> ((4 : Int32).toUInt32 &&& Int32.toUInt32 31)).toInt32)) &&& (252645135 : Int32)) + (((((((p0 - (((p0.toUInt32 >>> ((1 : Int32).toUInt32 &&& Int32.toUInt32 31)).toInt32) &&& (1431655765 : Int32))) &&& (858993459 : Int32)) + ((((p0 - (((p0.toUInt32 >>> ((1 : Int32).toUInt32 &&& Int32.toUInt32 31)).toInt32) &&& (1431655765 : Int32))).toUInt32 >>> ((2 : Int32).toUInt32 &&& Int32.toUInt32 31)).toInt32) &&& (858993459 : Int32))) + (((((p0 - (((p0.toUInt32 >>> ((1 : Int32).toUInt32 &&& Int32.toUInt32 31)).toInt32) &&& (1431655765 : Int32))) &&& (858993459 : Int32)) + ((((p0 - (((p0.toUInt32 >>> ((1 : Int32).toUInt32 &&& Int32.toUInt32 31)).toInt32) &&& (1431655765 : Int32))).toUInt32 >>> ((2 : Int32).toUInt32 &&& Int32.toUInt32 31)).toInt32) &&& (858993459 : Int32))).toUInt32 >>> ((4 : Int32).toUInt32 &&& Int32.toUInt32 31)).toInt32)) &&& (252645135 : Int32)).toUInt32 >>> ((8 : Int32).toUInt32 &&& Int32.toUInt32 31)).toInt32)).toUInt32 >>> ((16 : Int32).toUInt32 &&& Int32.toUInt32 31)).toInt32)) &&& (63 : Int32))
theorem s_bitCount {F : Nat} {v : Int32} {Post : Int32 → Prop} (k : Post (bcnt v)) : p_J6_bitCount_0f7a4 F v Post := k
def pc8 (m : Nat) : Nat := m % 2 + m / 2 % 2 + m / 4 % 2 + m / 8 % 2 + m / 16 % 2 + m / 32 % 2 + m / 64 % 2 + m / 128 % 2
theorem bcnt_d : ∀ m, m < 256 → bcnt (nI m) = nI (pc8 m) := by decide +kernel
