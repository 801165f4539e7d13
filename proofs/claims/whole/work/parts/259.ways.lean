/-! ===== weights of sets of cats: one at a time, and by their loads ===== -/
def sumN (f : Nat → Nat) : Nat → Nat
  | 0 => 0
  | n + 1 => sumN f n + f n
theorem sumN_congr {f g : Nat → Nat} : ∀ {n}, (∀ i, i < n → f i = g i) → sumN f n = sumN g n
  | 0, _ => rfl
  | n + 1, h => by rw [sumN, sumN, sumN_congr (n := n) (fun i hi => h i (by omega)), h n (by omega)]
theorem sumN_add {f g : Nat → Nat} : ∀ n, sumN (fun i => f i + g i) n = sumN f n + sumN g n
  | 0 => rfl
  | n + 1 => by rw [sumN, sumN, sumN, sumN_add n]; omega
theorem sumN_mul {f : Nat → Nat} {k : Nat} : ∀ n, sumN (fun i => f i * k) n = sumN f n * k
  | 0 => (Nat.zero_mul k).symm
  | n + 1 => by rw [sumN, sumN, sumN_mul n, Nat.add_mul]
theorem sumN_split {f : Nat → Nat} {a : Nat} : ∀ b, sumN f (a + b) = sumN f a + sumN (fun i => f (a + i)) b
  | 0 => rfl
  | b + 1 => by rw [← Nat.add_assoc, sumN, sumN, sumN_split b]; omega
theorem sumN_zero {f : Nat → Nat} : ∀ {n}, (∀ i, i < n → f i = 0) → sumN f n = 0
  | 0, _ => rfl
  | n + 1, h => by rw [sumN, sumN_zero (n := n) (fun i hi => h i (by omega)), h n (by omega)]
def wN (A : Nat → Bool) (pu : Nat → Nat) (p : Nat) : Nat → Nat → Nat
  | 0, l => if l = 0 then 1 else 0
  | n + 1, l => if A n then wN A pu p n l * p + (if pu n ≤ l then wN A pu p n (l - pu n) * (10 - p) else 0) else wN A pu p n l
def wt (A : Nat → Bool) (p S : Nat) : Nat → Nat
  | 0 => 1
  | n + 1 => if A n then wt A p S n * (if S.testBit n then 10 - p else p) else wt A p S n
def ld (A : Nat → Bool) (pu : Nat → Nat) (S : Nat) : Nat → Nat
  | 0 => 0
  | n + 1 => if A n then ld A pu S n + (if S.testBit n then pu n else 0) else ld A pu S n
def sbB (A : Nat → Bool) (S : Nat) : Nat → Bool
  | 0 => true
  | n + 1 => sbB A S n && (! S.testBit n || A n)
section
variable {A : Nat → Bool} {pu : Nat → Nat} {p : Nat}
theorem wN_z (hp : ∀ i, pu i ≤ 9) : ∀ {n l}, 9 * n < l → wN A pu p n l = 0
  | 0, l, h => by rw [wN, if_neg (by omega)]
  | n + 1, l, h => by
    have := hp n
    rw [wN]
    split
    · rw [wN_z hp (n := n) (by omega), wN_z hp (n := n) (by omega)]; simp
    · exact wN_z hp (by omega)
theorem wt_c {S T : Nat} : ∀ {n}, (∀ j, j < n → S.testBit j = T.testBit j) → wt A p S n = wt A p T n
  | 0, _ => rfl
  | n + 1, h => by rw [wt, wt, wt_c (n := n) (fun j hj => h j (by omega)), h n (by omega)]
theorem ld_c {S T : Nat} : ∀ {n}, (∀ j, j < n → S.testBit j = T.testBit j) → ld A pu S n = ld A pu T n
  | 0, _ => rfl
  | n + 1, h => by rw [ld, ld, ld_c (n := n) (fun j hj => h j (by omega)), h n (by omega)]
theorem sb_c {S T : Nat} : ∀ {n}, (∀ j, j < n → S.testBit j = T.testBit j) → sbB A S n = sbB A T n
  | 0, _ => rfl
  | n + 1, h => by rw [sbB, sbB, sb_c (n := n) (fun j hj => h j (by omega)), h n (by omega)]
theorem ld_9 (hp : ∀ i, pu i ≤ 9) {S : Nat} : ∀ n, ld A pu S n ≤ 9 * n
  | 0 => Nat.le_refl _
  | n + 1 => by
    have := ld_9 hp (S := S) n
    have := hp n
    rw [ld]
    split
    · split <;> omega
    · omega
def Wn (A : Nat → Bool) (pu : Nat → Nat) (p n : Nat) (g : Nat → Nat) : Nat := sumN (fun l => wN A pu p n l * g l) 73
def Mt (A : Nat → Bool) (pu : Nat → Nat) (p n : Nat) (g : Nat → Nat) (S : Nat) : Nat := if sbB A S n then wt A p S n * g (ld A pu S n) else 0
def Mn (A : Nat → Bool) (pu : Nat → Nat) (p n : Nat) (g : Nat → Nat) : Nat := sumN (Mt A pu p n g) (2 ^ n)
theorem W_f {n : Nat} {g : Nat → Nat} (h : ¬ A n = true) : Wn A pu p (n + 1) g = Wn A pu p n g := by
  unfold Wn
  exact sumN_congr (fun i _ => by rw [wN, if_neg h])
theorem W_t (hp : ∀ i, pu i ≤ 9) {n : Nat} {g : Nat → Nat} (hn : n < 8) (h : A n = true) : Wn A pu p (n + 1) g = Wn A pu p n g * p + Wn A pu p n (fun l => g (l + pu n)) * (10 - p) := by
  have h9 := hp n
  unfold Wn
  rw [sumN_congr (g := fun l => (wN A pu p n l * g l) * p + (if pu n ≤ l then wN A pu p n (l - pu n) * (10 - p) else 0) * g l) (fun i _ => by
    rw [wN, if_pos h, Nat.add_mul, Nat.mul_right_comm]), sumN_add, sumN_mul]
  congr 1
  have e73 : 73 = pu n + (73 - pu n) := by omega
  have e73b : 73 = (73 - pu n) + pu n := by omega
  rw [← sumN_mul]
  have l1 : sumN (fun l => (if pu n ≤ l then wN A pu p n (l - pu n) * (10 - p) else 0) * g l) 73 = sumN (fun i => wN A pu p n i * g (i + pu n) * (10 - p)) (73 - pu n) := by
    conv => lhs; rw [e73]
    rw [sumN_split, sumN_zero (fun i hi => by rw [if_neg (by omega), Nat.zero_mul]), Nat.zero_add]
    exact sumN_congr (fun i _ => by rw [if_pos (by omega), Nat.add_sub_cancel_left, Nat.mul_right_comm, Nat.add_comm i])
  have l2 : sumN (fun i => wN A pu p n i * g (i + pu n) * (10 - p)) 73 = sumN (fun i => wN A pu p n i * g (i + pu n) * (10 - p)) (73 - pu n) := by
    conv => lhs; rw [e73b]
    rw [sumN_split, sumN_zero (n := pu n) (fun i hi => by rw [wN_z hp (by omega), Nat.zero_mul, Nat.zero_mul]), Nat.add_zero]
  rw [l1, l2]
theorem M_lo {n S : Nat} (h : S < 2 ^ n) : S.testBit n = false := Nat.testBit_lt_two_pow h
theorem M_hi {n i : Nat} (h : i < 2 ^ n) : (2 ^ n + i).testBit n = true := by rw [Nat.testBit_two_pow_add_eq, M_lo h]; rfl
theorem M_hj {n i j : Nat} (hj : j < n) : (2 ^ n + i).testBit j = i.testBit j := Nat.testBit_two_pow_add_gt hj i
theorem M_2 {n : Nat} {f : Nat → Nat} : sumN f (2 ^ (n + 1)) = sumN f (2 ^ n) + sumN (fun i => f (2 ^ n + i)) (2 ^ n) := by
  rw [show 2 ^ (n + 1) = 2 ^ n + 2 ^ n from by rw [Nat.pow_succ]; omega, sumN_split]
theorem M_f {n : Nat} {g : Nat → Nat} (h : ¬ A n = true) : Mn A pu p (n + 1) g = Mn A pu p n g := by
  unfold Mn
  have h : A n = false := by simpa using h
  rw [M_2, sumN_zero (f := fun i => Mt A pu p (n + 1) g (2 ^ n + i)) (fun i hi => by
    unfold Mt; rw [sbB, M_hi hi, h]; simp), Nat.add_zero]
  refine sumN_congr (fun i hi => ?_)
  unfold Mt
  rw [sbB, M_lo hi, wt, ld, h]
  simp
theorem M_t {n : Nat} {g : Nat → Nat} (h : A n = true) : Mn A pu p (n + 1) g = Mn A pu p n g * p + Mn A pu p n (fun l => g (l + pu n)) * (10 - p) := by
  unfold Mn
  rw [M_2, ← sumN_mul, ← sumN_mul]
  congr 1
  · refine sumN_congr (fun i hi => ?_)
    unfold Mt
    rw [sbB, M_lo hi, wt, ld, h, M_lo hi]
    simp
    split
    · exact Nat.mul_right_comm _ _ _
    · exact (Nat.zero_mul _).symm
  · refine sumN_congr (fun i hi => ?_)
    unfold Mt
    rw [sbB, M_hi hi, wt, ld, h, M_hi hi, sb_c (S := 2 ^ n + i) (T := i) (fun j hj => M_hj hj), wt_c (S := 2 ^ n + i) (T := i) (fun j hj => M_hj hj), ld_c (S := 2 ^ n + i) (T := i) (fun j hj => M_hj hj)]
    simp
    split
    · exact Nat.mul_right_comm _ _ _
    · exact (Nat.zero_mul _).symm
theorem WM (hp : ∀ i, pu i ≤ 9) : ∀ {n}, n ≤ 8 → ∀ g, Wn A pu p n g = Mn A pu p n g
  | 0, _, g => by
    have : ∀ k, sumN (fun l => wN A pu p 0 l * g l) (k + 1) = g 0 := by
      intro k
      induction k with
      | zero => simp [sumN, wN]
      | succ k ih => rw [sumN, ih]; simp [wN]
    unfold Wn Mn
    rw [this 72]
    simp [sumN, Mt, sbB, wt, ld]
  | n + 1, hn, g => by
    by_cases h : A n = true
    · rw [W_t hp (by omega) h, M_t h, WM hp (n := n) (by omega), WM hp (n := n) (by omega)]
    · rw [W_f h, M_f h, WM hp (n := n) (by omega)]
theorem M_10 (hp : p ≤ 10) : ∀ {n} (g : Nat → Nat), (∀ l, g l ≤ 1) → Mn A pu p n g ≤ 10 ^ ctN A n
  | 0, g, h => by
    have := h 0
    unfold Mn
    simp [sumN, Mt, sbB, wt, ld, ctN]
    exact this
  | n + 1, g, h => by
    rw [ctN]
    by_cases q : A n = true
    · rw [M_t q, if_pos q, Nat.pow_succ]
      have h1 := M_10 hp (n := n) g h
      have h2 := M_10 hp (n := n) (fun l => g (l + pu n)) (fun l => h _)
      have h3 := Nat.mul_le_mul_right p h1
      have h4 := Nat.mul_le_mul_right (10 - p) h2
      have h5 : 10 ^ ctN A n * p + 10 ^ ctN A n * (10 - p) = 10 ^ ctN A n * 10 := by rw [← Nat.mul_add]; congr 1; omega
      omega
    · rw [M_f q, if_neg q]
      exact M_10 hp g h
/-- the sum ends at the greatest set -/
theorem sb_bits {S : Nat} : ∀ {n}, sbB A S n = true ↔ ∀ i, i < n → S.testBit i = true → A i = true
  | 0 => ⟨fun _ i hi => absurd hi (Nat.not_lt_zero _), fun _ => rfl⟩
  | n + 1 => by
    rw [sbB, Bool.and_eq_true, sb_bits (n := n)]
    constructor
    · rintro ⟨h1, h2⟩ i hi hs
      by_cases e : i = n
      · subst e; rw [hs] at h2; simpa using h2
      · exact h1 i (by omega) hs
    · intro h
      refine ⟨fun i hi => h i (by omega), ?_⟩
      by_cases q : S.testBit n = true
      · rw [h n (by omega) q]; simp
      · rw [show S.testBit n = false from by simpa using q]; rfl
theorem sb_le {S n : Nat} (hS : S < 2 ^ n) (h : sbB A S n = true) : S ≤ bN A n := by
  have e : S &&& bN A n = S := by
    apply bit_ext
    intro i
    rw [Nat.testBit_and, bN_bit]
    by_cases q : S.testBit i = true
    · have hi : i < n := by
        apply Decidable.byContradiction
        intro z
        rw [Nat.testBit_lt_two_pow (Nat.lt_of_lt_of_le hS (Nat.pow_le_pow_right (by decide) (by omega)))] at q
        exact absurd q (by decide)
      rw [q, sb_bits.1 h i hi q, decide_eq_true hi]
      simp
    · rw [show S.testBit i = false from by simpa using q]
      simp
  have := Nat.and_le_right (n := S) (m := bN A n)
  omega
theorem M_end {n : Nat} {g : Nat → Nat} : Mn A pu p n g = sumN (Mt A pu p n g) (bN A n + 1) := by
  have h := bN_lt A n
  unfold Mn
  conv => lhs; rw [show 2 ^ n = (bN A n + 1) + (2 ^ n - (bN A n + 1)) from by omega]
  rw [sumN_split, sumN_zero (n := 2 ^ n - (bN A n + 1)) (fun i hi => ?_), Nat.add_zero]
  unfold Mt
  rw [if_neg]
  intro z
  have := sb_le (by omega) z
  omega
end
theorem not_255 : ∀ r, r < 256 → (nI 255) &&& (nI r ^^^ (-1 : Int32)) = nI (255 - r) := by decide +kernel
theorem sub_set {A : Nat → Bool} {n S : Nat} (hn : n ≤ 8) (hS : S < 2 ^ n) : (nI S &&& (nI (bN A n) ^^^ (-1 : Int32))) = 0 ↔ sbB A S n = true := by
  have h1 := bN_lt A n
  have h2 : 2 ^ n ≤ 2 ^ 8 := Nat.pow_le_pow_right (by decide) hn
  have e : nI S = nI S &&& nI 255 := by
    rw [fz_and]
    congr 1
    rw [show (255 : Nat) = 2 ^ 8 - 1 from rfl, Nat.and_two_pow_sub_one_eq_mod, Nat.mod_eq_of_lt (by omega)]
  rw [e, Int32.and_assoc, not_255 _ (by omega), fz_and, sb_bits]
  have h3 : S &&& (255 - bN A n) < 256 := by
    have := Nat.and_le_left (n := S) (m := 255 - bN A n)
    omega
  constructor
  · intro z i hi hs
    have z := (nI_eq (b := 0) (by omega) (by omega)).1 z
    have t : (S &&& (255 - bN A n)).testBit i = false := by rw [z, Nat.zero_testBit]
    rw [Nat.testBit_and, hs, Bool.true_and, show 255 - bN A n = 2 ^ 8 - (bN A n + 1) from by omega, Nat.testBit_two_pow_sub_succ (by omega), decide_eq_true (by omega), bN_bit, decide_eq_true hi] at t
    simpa using t
  · intro h
    have z : S &&& (255 - bN A n) = 0 := by
      apply bit_ext
      intro i
      rw [Nat.testBit_and, Nat.zero_testBit, show 255 - bN A n = 2 ^ 8 - (bN A n + 1) from by omega, Nat.testBit_two_pow_sub_succ (by omega)]
      by_cases q : S.testBit i = true
      · have hi : i < n := by
          apply Decidable.byContradiction
          intro z
          rw [Nat.testBit_lt_two_pow (Nat.lt_of_lt_of_le hS (Nat.pow_le_pow_right (by decide) (by omega)))] at q
          exact absurd q (by decide)
        rw [bN_bit, decide_eq_true hi, h i hi q]
        simp
      · rw [show S.testBit i = false from by simpa using q]
        simp
    rw [z]
    rfl
