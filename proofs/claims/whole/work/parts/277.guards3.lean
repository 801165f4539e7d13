/-! ===== guards: the class's least guard, the loop ===== -/
def rmN (Ab x : Nat) : Nat := Ab &&& (255 - 2 ^ x)
theorem rmN_e {Ab x n : Nat} (hA : Ab < 2 ^ n) (hn : n ≤ 8) (hx : x < 8) : nI Ab &&& (((1 : Int32) <<< (nI x &&& 31)) ^^^ (-1 : Int32)) = nI (rmN Ab x) := by
  have h2 : 2 ^ n ≤ 2 ^ 8 := Nat.pow_le_pow_right (by decide) hn
  have h3 : 2 ^ x ≤ 2 ^ 7 := Nat.pow_le_pow_right (by decide) (by omega)
  have e : nI Ab = nI Ab &&& nI 255 := by
    rw [fz_and]
    congr 1
    rw [show (255 : Nat) = 2 ^ 8 - 1 from rfl, Nat.and_two_pow_sub_one_eq_mod, Nat.mod_eq_of_lt (by omega)]
  rw [e, fz_sh1 (by omega), Int32.and_assoc, not_255 _ (by omega), fz_and]
  rfl
theorem rmN_b {Ab x n : Nat} (hA : Ab < 2 ^ n) (hn : n ≤ 8) (hx : x < 8) : (rmN Ab x).testBit = rmB Ab.testBit x := by
  have h2 : 2 ^ n ≤ 2 ^ 8 := Nat.pow_le_pow_right (by decide) hn
  have h3 : 2 ^ x ≤ 2 ^ 7 := Nat.pow_le_pow_right (by decide) (by omega)
  funext i
  unfold rmN rmB
  rw [Nat.testBit_and, show 255 - 2 ^ x = 2 ^ 8 - (2 ^ x + 1) from by omega, Nat.testBit_two_pow_sub_succ (by omega), Nat.testBit_two_pow]
  by_cases q : i < 8
  · rw [decide_eq_true q, Bool.true_and]
    by_cases e : i = x
    · subst e; simp
    · rw [decide_eq_false (fun z => e z.symm), decide_eq_false e]
  · rw [Nat.testBit_lt_two_pow (Nat.lt_of_lt_of_le hA (Nat.pow_le_pow_right (by decide) (by omega)))]
    rfl
theorem rmN_lt {Ab x n : Nat} (hA : Ab < 2 ^ n) : rmN Ab x < 2 ^ n := Nat.lt_of_le_of_lt Nat.and_le_left hA
theorem gb_test {m r c i : Nat} (hm : m < 2 ^ 31) (hr : r < 2 ^ 31) (hc : c < 31) (hi : i < 31) : (((nI m >>> (nI c &&& 31)) &&& (nI r >>> (nI i &&& 31))) &&& 1) = 1 ↔ (m.testBit c && r.testBit i) = true := by
  have e : ((nI m >>> (nI c &&& 31)) &&& (nI r >>> (nI i &&& 31))) &&& 1 = ((nI m >>> (nI c &&& 31)) &&& 1) &&& ((nI r >>> (nI i &&& 31)) &&& 1) := by
    apply Int32.toBitVec_inj.mp
    simp only [Int32.toBitVec_and]
    apply BitVec.eq_of_getLsbD_eq
    intro j hj
    simp only [BitVec.getLsbD_and]
    cases (nI m >>> (nI c &&& 31)).toBitVec.getLsbD j <;> cases (nI r >>> (nI i &&& 31)).toBitVec.getLsbD j <;> cases (1 : Int32).toBitVec.getLsbD j <;> rfl
  have b1 : m / 2 ^ c % 2 < 2 := Nat.mod_lt _ (by decide)
  have b2 : r / 2 ^ i % 2 < 2 := Nat.mod_lt _ (by decide)
  rw [e, fz_bit hm hc, fz_bit hr hi, Nat.testBit_eq_decide_div_mod_eq, Nat.testBit_eq_decide_div_mod_eq]
  have c1 : m / 2 ^ c % 2 = 0 ∨ m / 2 ^ c % 2 = 1 := by omega
  have c2 : r / 2 ^ i % 2 = 0 ∨ r / 2 ^ i % 2 = 1 := by omega
  rcases c1 with c1 | c1 <;> rcases c2 with c2 | c2 <;> rw [c1, c2] <;> decide
section
variable {F nA nC : Nat} {R : (Nat → Int32) → Int32} {w alone : Nat → Int32}
theorem s7_least {i Ab M : Nat} {Post : Int32 → Prop} (hF : 5000 ≤ F) (hA : nA ≤ 6) (hC : nC ≤ 8) (hi : i < nA) (hAb : Ab < 2 ^ nC) (hfa : ∀ c, c < nC → alone c = nI (faN R nA w c)) (hM : M = mu (hlB R w) nA nC (nA - (i + 1) + 1) Ab.testBit) (hM8 : M ≤ 8)
    (k1 : mu (hlB R w) nA nC (nA - (i + 1)) Ab.testBit = M → Post (-1))
    (k2 : ∀ c, c < nC → ¬ mu (hlB R w) nA nC (nA - (i + 1)) Ab.testBit = M → glB (hlB R w) nA nC (nA - (i + 1)) Ab.testBit c = true → (∀ x, x < c → glB (hlB R w) nA nC (nA - (i + 1)) Ab.testBit x = false) → Post (nI c)) : p_X7_leastGuard F (nI i) (nI (XiN nA w (i + 1))) (nI Ab) (nI M) (nI nA) (nI nC) alone Post := by
  have p8 : 2 ^ nC ≤ 2 ^ 8 := Nat.pow_le_pow_right (by decide) hC
  unfold p_X7_leastGuard
  refine s7_mostH (R := R) (w := w) hF hA hC (by omega) hAb hfa (fun m8 => ⟨fun z => ?_, fun z => k1 ((nI_eq (by omega) (by omega)).1 z)⟩)
  have ne : ¬ mu (hlB R w) nA nC (nA - (i + 1)) Ab.testBit = M := fun y => z (by rw [y])
  obtain ⟨c0, hc0, g0, gl⟩ := least nC (gl_ex (al := hlB R w) (nA := nA) (nC := nC) (d := nA - (i + 1)) (A := Ab.testBit) (by rw [← hM]; exact ne))
  have kc := k2 c0 hc0 ne g0 gl
  have tst : ∀ x, x < nC → ((((nI Ab >>> (nI x &&& 31)) &&& (alone x >>> (nI i &&& 31))) &&& 1) = 1 ↔ (Ab.testBit x && hlB R w x (nA - (nA - (i + 1) + 1))) = true) := by
    intro x hx
    have fl : faN R nA w x < 2 ^ nA := bN_lt _ _
    have p6 : 2 ^ nA ≤ 2 ^ 6 := Nat.pow_le_pow_right (by decide) hA
    rw [hfa x hx, gb_test (by omega) (by omega) (by omega) (by omega), show nA - (nA - (i + 1) + 1) = i from by omega]
    unfold faN
    rw [bN_bit, decide_eq_true hi, Bool.true_and]
  refine up_loop (fun n j (_ : Unit) => p_X7_leastGuard_16 F (nI i) (nI (XiN nA w (i + 1))) (nI Ab) (nI M) (nI nA) (nI nC) alone Post n j) (fun _ _ => True) c0 ?_ ?_ F () 0 trivial (by omega) (by omega)
  · intro n _ _
    show p_X7_leastGuard_16 F (nI i) (nI (XiN nA w (i + 1))) (nI Ab) (nI M) (nI nA) (nI nC) alone Post (n + 1) (nI c0)
    rw [p_X7_leastGuard_16_s, nI_clamp (n := c0) (by omega)]
    unfold p_X7_leastGuard_53
    unfold glB at g0
    rw [Bool.and_eq_true] at g0
    refine br_f (nI_ge hc0 (by omega)) ⟨pk_in c0 8 (by omega), fun y => absurd ((tst c0 hc0).2 g0.1) y, fun _ => br_f (by decide) ?_⟩
    rw [rmN_e hAb hC (by omega)]
    refine s7_mostH (R := R) (w := w) hF hA hC (by omega) (rmN_lt hAb) hfa (fun m8 => ⟨fun y => absurd ?_ y, fun _ => kc⟩)
    rw [show (1 : Int32) = nI 1 from rfl, nI_add, rmN_b hAb hC (by omega), of_decide_eq_true g0.2, hM]
  · intro n x _ hx _ ih
    show p_X7_leastGuard_16 F (nI i) (nI (XiN nA w (i + 1))) (nI Ab) (nI M) (nI nA) (nI nC) alone Post (n + 1) (nI x)
    rw [p_X7_leastGuard_16_s, nI_clamp (n := x) (by omega)]
    unfold p_X7_leastGuard_53 p_X7_leastGuard_83
    have gx := gl x hx
    unfold glB at gx
    refine br_f (nI_ge (by omega) (by omega)) ⟨pk_in x 8 (by omega), fun y => br_t rfl (ih () trivial), fun y => br_f (by decide) ?_⟩
    rw [(tst x (by omega)).1 y, Bool.true_and] at gx
    rw [rmN_e hAb hC (by omega)]
    refine s7_mostH (R := R) (w := w) hF hA hC (by omega) (rmN_lt hAb) hfa (fun m8 => ⟨fun _ => ih () trivial, fun y2 => absurd ?_ (of_decide_eq_false gx)⟩)
    rw [rmN_b hAb hC (by omega)] at m8
    rw [show (1 : Int32) = nI 1 from rfl, nI_add, rmN_b hAb hC (by omega)] at y2
    rw [(nI_eq (by omega) (by omega)).1 y2, hM]
end
