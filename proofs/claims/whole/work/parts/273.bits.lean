/-! ===== guards: bits of a long ===== -/
def bt (y : Int64) (T : Nat) : Bool := y.toBitVec.getLsbD T
theorem bt_or {y z : Int64} {T : Nat} : bt (y ||| z) T = (bt y T || bt z T) := by
  unfold bt
  rw [Int64.toBitVec_or, BitVec.getLsbD_or]
theorem bt_and {y z : Int64} {T : Nat} : bt (y &&& z) T = (bt y T && bt z T) := by
  unfold bt
  rw [Int64.toBitVec_and, BitVec.getLsbD_and]
theorem sh_amt : ∀ k, k < 64 → (((nI k).toInt64 &&& 63).toBitVec.smod 64).toNat = k := by decide +kernel
theorem bt_shl {y : Int64} {k T : Nat} (hk : k < 64) : bt (y <<< ((nI k).toInt64 &&& 63)) T = (decide (T < 64) && ! decide (T < k) && bt y (T - k)) := by
  unfold bt
  rw [Int64.toBitVec_shiftLeft, BitVec.shiftLeft_eq', sh_amt k hk, BitVec.getLsbD_shiftLeft]
theorem bt_shr {y : Int64} {k : Nat} (hk : k < 64) : bt (y >>> ((nI k).toInt64 &&& 63)) 0 = bt y k := by
  unfold bt
  rw [Int64.toBitVec_shiftRight, BitVec.sshiftRight_eq', sh_amt k hk, BitVec.getLsbD_sshiftRight]
  simp [hk]
theorem bt_1 {y : Int64} : (y &&& 1) = 1 ↔ bt y 0 = true := by
  unfold bt
  constructor
  · intro h
    have h2 : ((y &&& 1).toBitVec).getLsbD 0 = ((1 : Int64).toBitVec).getLsbD 0 := by rw [h]
    rw [Int64.toBitVec_and, BitVec.getLsbD_and, show ((1 : Int64).toBitVec).getLsbD 0 = true from rfl, Bool.and_true] at h2
    exact h2
  · intro h
    apply Int64.toBitVec_inj.mp
    apply BitVec.eq_of_getLsbD_eq
    intro i hi
    rw [Int64.toBitVec_and, BitVec.getLsbD_and]
    by_cases e : i = 0
    · subst e; rw [h]; rfl
    · have e1 : ((1 : Int64).toBitVec).getLsbD i = false := by
        show (1#64).getLsbD i = false
        rw [BitVec.getLsbD_one]
        simp [e]
      rw [e1, Bool.and_false]
theorem lg_1 {v : Int64} : lg_cmp v 1 = 0 ↔ v = 1 := by
  unfold lg_cmp
  by_cases h : v = 1
  · subst h; decide
  · constructor
    · intro z
      split at z
      · exact absurd z (by decide)
      · exact absurd z (by decide)
    · exact fun z => absurd z h
theorem bt_test {y : Int64} {k : Nat} (hk : k < 64) : lg_cmp ((y >>> ((nI k).toInt64 &&& 63)) &&& 1) 1 = 0 ↔ bt y k = true := by
  rw [lg_1, bt_1, bt_shr hk]
theorem setsW_b : ∀ a, a < 6 → ∀ T, T < 64 → bt (setsW a) T = ! T.testBit a := by decide +kernel
