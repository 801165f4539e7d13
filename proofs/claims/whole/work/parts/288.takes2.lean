/-! ===== the rule: a sign is taken ===== -/
def CR (p : Nat) (st : List Int32) (sk : List Nat) (op : Nat) (cm : Nat → Bool) (dg : Nat) (wt : Bool) (size top opn comp dig wants : Int32) (steps stack : Nat → Int32) : Prop :=
  st.length + sk.length ≤ p ∧ (∀ c, c ∈ sk → c ≤ 256) ∧ (wt = false → 0 < st.length) ∧ op ≤ 4 ∧ dg ≤ 3 ∧ size = nI st.length ∧ top = nI sk.length ∧ opn = nI op ∧ (∃ m, m < 2 ^ 5 ∧ comp = nI m ∧ ∀ e, e < 5 → m.testBit e = cm e) ∧ dig = nI dg ∧ wants = (if wt = true then 1 else 0) ∧ STr st steps ∧ SKr (sk.map nI) stack
section
variable {F : Nat} {sk : List Nat} {f : Nat → Int32}
theorem s4_pushN {c : Nat} {Post : (Int32 × (Nat → Int32)) → Prop} (hl : sk.length < 40) (h : SKr (sk.map nI) f) (k : ∀ f2, SKr ((c :: sk).map nI) f2 → Post (nI (c :: sk).length, f2)) : p_X4_push F (nI c) (nI sk.length) f Post := by
  have := s4_push (F := F) (s := sk.map nI) (f := f) (v := nI c) (Post := Post) (by rw [List.length_map]; exact hl) h (fun f2 h2 => by rw [List.length_map]; exact k f2 h2)
  rw [List.length_map] at this
  exact this
theorem s4_popN {Post : Int32 → Int32 → Prop} (hl : sk.length ≤ 40) (h : SKr (sk.map nI) f) (k : ∀ v, Post v (nI sk.tail.length)) : p_X4_pop F (nI sk.length) f Post := by
  have := s4_pop (F := F) (s := sk.map nI) (f := f) (Post := Post) (by rw [List.length_map]; exact hl) h (by rw [← List.map_tail, List.length_map]; exact k _)
  rw [List.length_map] at this
  exact this
end
theorem STr_last {st : List Int32} {f : Nat → Int32} {v : Int32} (h : STr st f) (hl : 0 < st.length) : STr (st.dropLast ++ [v]) (upd f (st.length - 1) v) ∧ f (st.length - 1) = st.getLastD 0 ∧ (st.dropLast ++ [v]).length = st.length := by
  have h3 : st.dropLast.length = st.length - 1 := by simp
  refine ⟨?_, ?_, by rw [List.length_append, h3]; show st.length - 1 + 1 = _; omega⟩
  · have h2 : STr st.dropLast f := by
      intro i hi
      rw [h i (by omega)]
      simp only [List.getD_eq_getElem?_getD, List.getElem?_dropLast]
      rw [if_pos (by omega)]
    have := STr_put (v := v) h2
    rw [h3] at this
    exact this
  · rw [h _ (by omega)]
    cases st with
    | nil => exact absurd hl (by decide)
    | cons a s => simp [List.getLast?_eq_getElem?]
section
variable {F p c op dg : Nat} {st : List Int32} {sk : List Nat} {cm : Nat → Bool} {wt : Bool} {size top opn comp dig wants : Int32} {steps stack : Nat → Int32}
theorem s4_thing (hp : p < 40) (hc : c < 256) (nd : ¬ (48 ≤ c ∧ c ≤ 57)) (h : CR p st sk op cm dg true size top opn comp dig wants steps stack) {Post : Int32 → (Int32 × Int32 × Int32 × Int32 × Int32 × (Nat → Int32) × (Nat → Int32)) → Prop} (kn : tk c st sk op cm dg true = none → ∀ u, Post 0 u)
    (ks : ∀ st2 sk2 op2 cm2 wt2, tk c st sk op cm dg true = some (st2, sk2, op2, cm2, 0, wt2) → ∀ size2 top2 opn2 comp2 wants2 steps2 stack2, CR (p + 1) st2 sk2 op2 cm2 0 wt2 size2 top2 opn2 comp2 0 wants2 steps2 stack2 → Post 1 (size2, top2, opn2, comp2, wants2, steps2, stack2)) :
    p_X4_takesThing F (nI c) size top opn comp wants steps stack Post := by
  obtain ⟨h1, h2, h3, h4, h5, rfl, rfl, rfl, ⟨m, hm, rfl, hb⟩, rfl, ew, h6, h7⟩ := h
  have ew : wants = 1 := ew
  subst ew
  have e : ∀ n : Nat, n < 1000 → (nI c = nI n ↔ c = n) := fun n hn => nI_eq (by omega) (by omega)
  unfold tk at kn ks
  rw [if_neg nd, if_pos rfl] at kn ks
  unfold p_X4_takesThing
  refine ⟨fun z => ?_, fun n1 => ⟨fun z => ?_, fun n2 => ?_⟩⟩
  · have z := (e 40 (by omega)).1 z
    subst z
    rw [if_neg (by decide), if_pos rfl] at kn ks
    refine ⟨fun z => ?_, fun z => ?_⟩
    · have z : ¬ op = 4 := fun y => z (by rw [y]; rfl)
      rw [if_neg z] at ks
      rw [← nI_succ, rmN_e (n := 5) hm (by omega) (by omega)]
      refine s4_pushN (c := 40) (by omega) h7 (fun f2 h8 => ks _ _ _ _ _ rfl _ _ _ _ _ _ _ ⟨?_, ?_, fun z => absurd z (by decide), by omega, by omega, rfl, rfl, rfl, ⟨_, rmN_lt hm, rfl, ?_⟩, rfl, rfl, h6, h8⟩)
      · show st.length + (sk.length + 1) ≤ p + 1; omega
      · intro x hx
        rcases List.mem_cons.1 hx with rfl | hx
        · omega
        · exact h2 x hx
      · intro y hy
        rw [rmN_b (n := 5) hm (by omega) (by omega)]
        unfold rmB setB
        by_cases q : y = op + 1
        · rw [if_pos q, decide_eq_true q]; simp
        · rw [if_neg q, decide_eq_false q, hb y hy]; simp
    · have z := (nI_eq (by omega) (by omega)).1 (show nI op = nI 4 from z)
      rw [if_pos z] at kn
      exact kn rfl _
  · have z := (e 45 (by omega)).1 z
    subst z
    rw [if_pos rfl] at ks
    refine s4_pushN (c := 256) (by omega) h7 (fun f2 h8 => ks _ _ _ _ _ rfl _ _ _ _ _ _ _ ⟨?_, ?_, fun z => absurd z (by decide), by omega, by omega, rfl, rfl, rfl, ⟨m, hm, rfl, hb⟩, rfl, rfl, h6, h8⟩)
    · show st.length + (sk.length + 1) ≤ p + 1; omega
    · intro x hx
      rcases List.mem_cons.1 hx with rfl | hx
      · omega
      · exact h2 x hx
  · have m1 : ¬ c = 40 := fun y => n1 ((e 40 (by omega)).2 y)
    have m2 : ¬ c = 45 := fun y => n2 ((e 45 (by omega)).2 y)
    rw [if_neg m2, if_neg m1] at kn ks
    have kx : isLet c = true → p_X4_addStep F (- nI c) (nI st.length) steps (fun u_141 => Post 1 (u_141.1, nI sk.length, nI op, nI m, 0, u_141.2, stack)) := by
      intro y
      rw [if_pos y] at ks
      refine s4_addStep (by omega) h6 (fun f2 h8 => ks _ _ _ _ _ rfl _ _ _ _ _ _ _ ⟨?_, h2, fun _ => ?_, by omega, by omega, rfl, rfl, rfl, ⟨m, hm, rfl, hb⟩, rfl, rfl, h8, h7⟩)
      · rw [List.length_append]; show st.length + 1 + sk.length ≤ p + 1; omega
      · rw [List.length_append]; show 0 < st.length + 1; omega
    refine ⟨fun z => kx (by rw [(e 98 (by omega)).1 z]; rfl), fun q1 => ⟨fun z => kx (by rw [(e 103 (by omega)).1 z]; rfl), fun q2 => ⟨fun z => kx (by rw [(e 106 (by omega)).1 z]; rfl), fun q3 => ⟨fun z => kx (by rw [(e 107 (by omega)).1 z]; rfl), fun q4 => ⟨fun z => kx (by rw [(e 108 (by omega)).1 z]; rfl), fun q5 => ⟨fun z => kx (by rw [(e 110 (by omega)).1 z]; rfl), fun q6 => ⟨fun z => kx (by rw [(e 115 (by omega)).1 z]; rfl), fun q7 => ?_⟩⟩⟩⟩⟩⟩⟩
    have r1 : ¬ c = 98 := fun y => q1 ((e 98 (by omega)).2 y)
    have r2 : ¬ c = 103 := fun y => q2 ((e 103 (by omega)).2 y)
    have r3 : ¬ c = 106 := fun y => q3 ((e 106 (by omega)).2 y)
    have r4 : ¬ c = 107 := fun y => q4 ((e 107 (by omega)).2 y)
    have r5 : ¬ c = 108 := fun y => q5 ((e 108 (by omega)).2 y)
    have r6 : ¬ c = 110 := fun y => q6 ((e 110 (by omega)).2 y)
    have r7 : ¬ c = 115 := fun y => q7 ((e 115 (by omega)).2 y)
    rw [if_neg (by unfold isLet; simp [r1, r2, r3, r4, r5, r6, r7])] at kn
    exact kn rfl _
theorem s4_behind (hF : 5000 ≤ F) (hp : p < 40) (hc : c < 256) (nd : ¬ (48 ≤ c ∧ c ≤ 57)) (h : CR p st sk op cm dg false size top opn comp dig wants steps stack) {Post : Int32 → (Int32 × Int32 × Int32 × Int32 × Int32 × (Nat → Int32) × (Nat → Int32)) → Prop} (kn : tk c st sk op cm dg false = none → ∀ u, Post 0 u)
    (ks : ∀ st2 sk2 op2 cm2 wt2, tk c st sk op cm dg false = some (st2, sk2, op2, cm2, 0, wt2) → ∀ size2 top2 opn2 comp2 wants2 steps2 stack2, CR (p + 1) st2 sk2 op2 cm2 0 wt2 size2 top2 opn2 comp2 0 wants2 steps2 stack2 → Post 1 (size2, top2, opn2, comp2, wants2, stack2, steps2)) :
    p_X4_takesBehindThing F (nI c) size top opn comp wants stack steps Post := by
  obtain ⟨h1, h2, h3, h4, h5, rfl, rfl, rfl, ⟨m, hm, rfl, hb⟩, rfl, ew, h6, h7⟩ := h
  have ew : wants = 0 := ew
  subst ew
  have h3 := h3 rfl
  have e : ∀ n : Nat, n < 1000 → (nI c = nI n ↔ c = n) := fun n hn => nI_eq (by omega) (by omega)
  unfold tk at kn ks
  rw [if_neg nd, if_neg (by decide)] at kn ks
  have rl := rk_le c
  have re : ∀ n : Nat, n < 1000 → (nI (rkN c) = nI n ↔ rkN c = n) := fun n hn => nI_eq (by omega) (by omega)
  have bit : ((nI m >>> (nI op &&& 31)) &&& 1) = 1 ↔ cm op = true := by
    rw [fz_bit1 (by omega) (by omega), hb op (by omega)]
  have sl := settl_len (rkN c) sk st
  have g86 : ∀ s2 cm2 m2, ¬ (c = 41 ∧ 0 < op) → ¬ (rkN c = 0 ∨ (rkN c = 1 ∧ cm op = true)) → cm2 = (if rkN c = 1 then setB cm op true else cm) → nI m ||| s2 = nI m2 → m2 < 2 ^ 5 → (∀ y, y < 5 → m2.testBit y = cm2 y) → p_X4_takesBehindThing_86 F (nI c) (nI st.length) (nI sk.length) (nI op) (nI m) stack steps (nI (rkN c)) Post s2 := by
    intro s2 cm2 m2 t1 t2 e2 e3 e4 e5
    rw [if_neg t1, if_neg t2, ← e2] at ks
    unfold p_X4_takesBehindThing_86
    refine s4_settle hF rl (by omega) h2 h6 h7 (fun f2 h8 => ?_)
    refine s4_pushN (by omega) (settl_SK h7) (fun f3 h9 => ?_)
    show Post 1 (nI (settl (rkN c) sk st).2.length, nI (c :: (settl (rkN c) sk st).1).length, nI op, nI m ||| s2, 1, f3, f2)
    rw [e3]
    refine ks _ _ _ _ _ rfl _ _ _ _ _ _ _ ⟨?_, ?_, fun z => absurd z (by decide), by omega, by omega, rfl, rfl, rfl, ⟨m2, e4, rfl, e5⟩, rfl, rfl, h8, h9⟩
    · show _ + ((settl (rkN c) sk st).1.length + 1) ≤ p + 1; omega
    · intro x hx
      rcases List.mem_cons.1 hx with rfl | hx
      · omega
      · exact settl_in h2 x hx
  have g35 : ¬ (c = 41 ∧ 0 < op) → p_X4_takesBehindThing_35 F (nI c) (nI st.length) (nI sk.length) (nI op) (nI m) 0 stack steps Post := by
    intro t1
    rw [if_neg t1] at kn
    unfold p_X4_takesBehindThing_35
    refine s4_rank ?_
    rw [rk_e c (by omega)]
    have g66 : ¬ (rkN c = 0 ∨ (rkN c = 1 ∧ cm op = true)) → p_X4_takesBehindThing_66 F (nI c) (nI st.length) (nI sk.length) (nI op) (nI m) stack steps (nI (rkN c)) Post := by
      intro t2
      unfold p_X4_takesBehindThing_66
      refine ⟨fun z => ?_, fun z => ?_⟩
      · have z : ¬ rkN c = 1 := fun y => z ((re 1 (by omega)).2 y)
        exact g86 0 cm m t1 t2 (by rw [if_neg z]) (by rw [zI_0, fz_or, Nat.or_zero]) hm hb
      · have z := (re 1 (by omega)).1 z
        refine g86 _ (setB cm op true) (m ||| 2 ^ op) t1 t2 (by rw [if_pos z]) (by rw [fz_sh1 (by omega), fz_or]) (or_ltC hm (by omega)) (fun y hy => ?_)
        rw [Nat.testBit_or, Nat.testBit_two_pow, hb y hy]
        unfold setB
        by_cases q : y = op
        · rw [if_pos q, decide_eq_true (show op = y from q.symm)]; simp
        · rw [if_neg q, decide_eq_false (show ¬ op = y from fun w => q w.symm)]; simp
    refine ⟨fun z => ?_, fun z => ⟨fun z2 => g66 ?_, fun z2 => ⟨fun z3 => g66 ?_, fun z3 => ?_⟩⟩⟩
    · rw [if_pos (Or.inl ((re 0 (by omega)).1 z))] at kn
      exact kn rfl _
    · rintro (y | ⟨y, _⟩)
      · exact z ((re 0 (by omega)).2 y)
      · exact z2 ((re 1 (by omega)).2 y)
    · rintro (y | ⟨_, y⟩)
      · exact z ((re 0 (by omega)).2 y)
      · exact z3 (bit.2 y)
    · rw [if_pos (Or.inr ⟨(re 1 (by omega)).1 z2, bit.1 z3⟩)] at kn
      exact kn rfl _
  unfold p_X4_takesBehindThing
  refine ⟨fun z => g35 (fun y => z ((e 41 (by omega)).2 y.1)), fun z => ⟨fun z2 => g35 (fun y => ?_), fun z2 => ?_⟩⟩
  · exact nI_ge (a := 0) (b := op) y.2 (by omega) z2
  · have hop : 0 < op := by
      apply Decidable.byContradiction
      intro y
      have : op = 0 := by omega
      subst this
      exact z2 (by decide)
    have z := (e 41 (by omega)).1 z
    subst z
    rw [if_pos ⟨rfl, hop⟩] at ks
    have sl := settl_len 1 sk st
    obtain ⟨k, rfl⟩ : ∃ k, op = k + 1 := ⟨op - 1, by omega⟩
    obtain ⟨pd, _, hpd⟩ := settl_ex 1 sk st
    refine s4_settle (r := 1) hF (by omega) (by omega) h2 h6 h7 (fun f2 h8 => s4_popN (by omega) (settl_SK h7) (fun v => ?_))
    rw [nI_pred]
    refine ks _ _ _ _ _ rfl _ _ _ _ _ _ _ ⟨?_, ?_, fun _ => ?_, by omega, by omega, rfl, rfl, rfl, ⟨m, hm, rfl, hb⟩, rfl, rfl, h8, ?_⟩
    · rw [List.length_tail]; omega
    · intro x hx
      exact settl_in h2 x (List.mem_of_mem_tail hx)
    · rw [hpd, List.length_append]; omega
    · rw [List.map_tail]; exact SKr_tail (settl_SK h7)
end
