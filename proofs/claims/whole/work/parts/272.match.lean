/-! ===== guards: the greatest number of guarded arches, cat by cat and arch by arch ===== -/
def rmB (T : Nat → Bool) (a : Nat) : Nat → Bool := fun x => T x && ! decide (x = a)
def adB (T : Nat → Bool) (a : Nat) : Nat → Bool := fun x => T x || decide (x = a)
theorem rm_self {T : Nat → Bool} {a : Nat} : rmB T a a = false := by simp [rmB]
theorem rm_ne {T : Nat → Bool} {a x : Nat} (h : ¬ x = a) : rmB T a x = T x := by simp [rmB, h]
theorem ad_self {T : Nat → Bool} {a : Nat} : adB T a a = true := by simp [adB]
theorem ad_ne {T : Nat → Bool} {a x : Nat} (h : ¬ x = a) : adB T a x = T x := by simp [adB, h]
theorem rm_le {T : Nat → Bool} {a x : Nat} (h : rmB T a x = true) : T x = true ∧ ¬ x = a := by
  unfold rmB at h
  simpa using h
theorem rm_rm {T : Nat → Bool} {a c : Nat} : rmB (rmB T a) c = rmB (rmB T c) a := by
  funext x
  unfold rmB
  cases T x <;> by_cases h1 : x = a <;> by_cases h2 : x = c <;> simp [h1, h2]
theorem ad_rm {T : Nat → Bool} {a : Nat} (h : T a = false) : rmB (adB T a) a = T := by
  funext x
  by_cases e : x = a
  · subst e; rw [rm_self, h]
  · rw [rm_ne e, ad_ne e]
theorem ad_rm2 {T : Nat → Bool} {a i : Nat} (h : ¬ a = i) : rmB (adB T i) a = adB (rmB T a) i := by
  funext x
  by_cases e : x = a
  · subst e; rw [rm_self, ad_ne h, rm_self]
  · rw [rm_ne e]
    by_cases e2 : x = i
    · subst e2; rw [ad_self, ad_self]
    · rw [ad_ne e2, ad_ne e2, rm_ne e]
/-- T can be guarded by the cats of A below n -/
def cv (al : Nat → Nat → Bool) (A : Nat → Bool) : Nat → (Nat → Bool) → Prop
  | 0, T => ∀ a, T a = false
  | n + 1, T => cv al A n T ∨ (A n = true ∧ ∃ a, T a = true ∧ al n a = true ∧ cv al A n (rmB T a))
theorem cv_A {al : Nat → Nat → Bool} {A B : Nat → Bool} : ∀ {n T}, (∀ c, c < n → A c = B c) → cv al A n T → cv al B n T
  | 0, _, _, h => h
  | n + 1, T, hab, h => by
    rcases h with h | ⟨h1, a, h2, h3, h4⟩
    · exact Or.inl (cv_A (fun c hc => hab c (by omega)) h)
    · exact Or.inr ⟨by rw [← hab n (by omega)]; exact h1, a, h2, h3, cv_A (fun c hc => hab c (by omega)) h4⟩
theorem cv_in {al : Nat → Nat → Bool} {A : Nat → Bool} {c i : Nat} : ∀ {n T}, c < n → A c = true → al c i = true → T i = false → cv al (rmB A c) n T → cv al A n (adB T i)
  | 0, _, hc, _, _, _, _ => absurd hc (Nat.not_lt_zero _)
  | n + 1, T, hc, hA, hl, hT, h => by
    by_cases e : c = n
    · subst e
      have h : cv al (rmB A c) c T := by
        rcases h with h | ⟨h1, _⟩
        · exact h
        · rw [rm_self] at h1; exact absurd h1 (by decide)
      refine Or.inr ⟨hA, i, ad_self, hl, ?_⟩
      rw [ad_rm hT]
      exact cv_A (fun x hx => rm_ne (by omega)) h
    · rcases h with h | ⟨h1, a, h2, h3, h4⟩
      · exact Or.inl (cv_in (by omega) hA hl hT h)
      · have ai : ¬ a = i := fun z => by rw [z, hT] at h2; exact absurd h2 (by decide)
        refine Or.inr ⟨(rm_le h1).1, a, by rw [ad_ne ai]; exact h2, h3, ?_⟩
        rw [ad_rm2 ai]
        exact cv_in (by omega) hA hl (by rw [rm_ne (fun z => ai z.symm)]; exact hT) h4
theorem cv_out {al : Nat → Nat → Bool} {A : Nat → Bool} {i : Nat} : ∀ {n T}, T i = true → cv al A n T → ∃ c, c < n ∧ A c = true ∧ al c i = true ∧ cv al (rmB A c) n (rmB T i)
  | 0, T, hT, h => by rw [h i] at hT; exact absurd hT (by decide)
  | n + 1, T, hT, h => by
    rcases h with h | ⟨h1, a, h2, h3, h4⟩
    · obtain ⟨c, c1, c2, c3, c4⟩ := cv_out hT h
      exact ⟨c, by omega, c2, c3, Or.inl c4⟩
    · by_cases ai : a = i
      · subst ai
        exact ⟨n, by omega, h1, h3, Or.inl (cv_A (fun x hx => (rm_ne (by omega)).symm) h4)⟩
      · obtain ⟨c, c1, c2, c3, c4⟩ := cv_out (T := rmB T a) (by rw [rm_ne (fun z => ai z.symm)]; exact hT) h4
        refine ⟨c, by omega, c2, c3, Or.inr ⟨by rw [rm_ne (by omega)]; exact h1, a, by rw [rm_ne ai]; exact h2, h3, ?_⟩⟩
        rw [rm_rm]
        exact c4
def bestC (f : Nat → Nat) : Nat → Nat
  | 0 => 0
  | n + 1 => if bestC f n < f n then f n else bestC f n
theorem bestC_ge {f : Nat → Nat} : ∀ {n c}, c < n → f c ≤ bestC f n
  | 0, _, h => absurd h (Nat.not_lt_zero _)
  | n + 1, c, h => by
    rw [bestC]
    by_cases e : c = n
    · subst e; split <;> omega
    · have := bestC_ge (f := f) (n := n) (c := c) (by omega)
      split <;> omega
theorem bestC_is {f : Nat → Nat} : ∀ n, bestC f n = 0 ∨ ∃ c, c < n ∧ f c = bestC f n
  | 0 => Or.inl rfl
  | n + 1 => by
    rw [bestC]
    split
    · exact Or.inr ⟨n, by omega, rfl⟩
    · rcases bestC_is (f := f) n with h | ⟨c, h1, h2⟩
      · exact Or.inl h
      · exact Or.inr ⟨c, by omega, h2⟩
/-- the most arches among the last d of nA that the cats of A can guard -/
def mu (al : Nat → Nat → Bool) (nA nC : Nat) : Nat → (Nat → Bool) → Nat
  | 0, _ => 0
  | d + 1, A => if mu al nA nC d A < bestC (fun c => if A c && al c (nA - (d + 1)) then 1 + mu al nA nC d (rmB A c) else 0) nC then bestC (fun c => if A c && al c (nA - (d + 1)) then 1 + mu al nA nC d (rmB A c) else 0) nC else mu al nA nC d A
section
variable {al : Nat → Nat → Bool} {nA nC : Nat}
theorem ctN_congr {p r : Nat → Bool} : ∀ {n}, (∀ i, i < n → p i = r i) → ctN p n = ctN r n
  | 0, _ => rfl
  | n + 1, h => by rw [ctN, ctN, ctN_congr (n := n) (fun i hi => h i (by omega)), h n (by omega)]
theorem ctN_rm {T : Nat → Bool} {i : Nat} : ∀ {n}, i < n → T i = true → ctN T n = ctN (rmB T i) n + 1
  | 0, h, _ => absurd h (Nat.not_lt_zero _)
  | n + 1, h, hT => by
    rw [ctN, ctN]
    by_cases e : i = n
    · subst e
      rw [if_pos hT, if_neg (by rw [rm_self]; decide), ctN_congr (r := rmB T i) (fun x hx => (rm_ne (by omega)).symm)]
    · rw [ctN_rm (n := n) (by omega) hT, rm_ne (show ¬ n = i by omega)]
      omega
theorem ctN_0 {n : Nat} {T : Nat → Bool} (h : ∀ i, i < n → T i = false) : ctN T n = 0 := by
  induction n with
  | zero => rfl
  | succ n ih => rw [ctN, ih (fun i hi => h i (by omega)), h n (by omega)]; rfl
theorem mu_s1 {d : Nat} {A : Nat → Bool} : mu al nA nC d A ≤ mu al nA nC (d + 1) A := by
  rw [mu]
  split <;> omega
theorem mu_s2 {d c : Nat} {A : Nat → Bool} (hc : c < nC) (hA : A c = true) (hl : al c (nA - (d + 1)) = true) : 1 + mu al nA nC d (rmB A c) ≤ mu al nA nC (d + 1) A := by
  have h := bestC_ge (f := fun c => if A c && al c (nA - (d + 1)) then 1 + mu al nA nC d (rmB A c) else 0) hc
  simp only [hA, hl, Bool.and_self, if_true] at h
  rw [mu]
  split <;> omega
theorem mu_ub : ∀ {d A T}, d ≤ nA → cv al A nC T → (∀ a, T a = true → nA - d ≤ a ∧ a < nA) → ctN T nA ≤ mu al nA nC d A
  | 0, A, T, _, _, h => by
    rw [ctN_0 (fun i hi => by
      cases e : T i with
      | false => rfl
      | true => have := h i e; omega)]
    exact Nat.zero_le _
  | d + 1, A, T, hd, hc, h => by
    by_cases q : T (nA - (d + 1)) = true
    · obtain ⟨c, c1, c2, c3, c4⟩ := cv_out q hc
      have ih := mu_ub (d := d) (by omega) c4 (fun a ha => by
        obtain ⟨a1, a2⟩ := rm_le ha
        have := h a a1
        omega)
      have := mu_s2 (nA := nA) (d := d) c1 c2 c3
      rw [ctN_rm (by omega) q]
      omega
    · have ih := mu_ub (d := d) (A := A) (T := T) (by omega) hc (fun a ha => by
        have := h a ha
        have : ¬ a = nA - (d + 1) := fun z => q (by rw [← z]; exact ha)
        omega)
      exact Nat.le_trans ih mu_s1
theorem cv_0 {A : Nat → Bool} : ∀ n, cv al A n (fun _ => false)
  | 0 => fun _ => rfl
  | n + 1 => Or.inl (cv_0 n)
theorem mu_lb : ∀ {d} (A : Nat → Bool), d ≤ nA → ∃ T, cv al A nC T ∧ (∀ a, T a = true → nA - d ≤ a ∧ a < nA) ∧ ctN T nA = mu al nA nC d A
  | 0, A, _ => ⟨fun _ => false, cv_0 nC, fun a h => absurd h (by simp), ctN_0 (fun _ _ => rfl)⟩
  | d + 1, A, hd => by
    have low : ∃ T, cv al A nC T ∧ (∀ a, T a = true → nA - (d + 1) ≤ a ∧ a < nA) ∧ ctN T nA = mu al nA nC d A := by
      obtain ⟨T, t1, t2, t3⟩ := mu_lb (d := d) A (by omega)
      exact ⟨T, t1, fun a ha => by have := t2 a ha; omega, t3⟩
    rw [mu]
    split
    · rename_i hlt
      rcases bestC_is (f := fun c => if A c && al c (nA - (d + 1)) then 1 + mu al nA nC d (rmB A c) else 0) nC with h | ⟨c, c1, c2⟩
      · omega
      · by_cases q : (A c && al c (nA - (d + 1))) = true
        · rw [if_pos q] at c2
          rw [Bool.and_eq_true] at q
          obtain ⟨T, t1, t2, t3⟩ := mu_lb (d := d) (rmB A c) (by omega)
          have ti : T (nA - (d + 1)) = false := by
            cases e : T (nA - (d + 1)) with
            | false => rfl
            | true => have := t2 _ e; omega
          refine ⟨adB T (nA - (d + 1)), cv_in c1 q.1 q.2 ti t1, fun a ha => ?_, ?_⟩
          · by_cases e : a = nA - (d + 1)
            · omega
            · rw [ad_ne e] at ha
              have := t2 a ha
              omega
          · rw [ctN_rm (i := nA - (d + 1)) (by omega) ad_self, ad_rm ti, t3, ← c2]
            omega
        · rw [if_neg q] at c2
          omega
    · exact low
end
