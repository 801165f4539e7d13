/-! ===== the rule: what its steps say ===== -/
def rkI (p : Int32) : Int32 := if p = 42 then 3 else if p = 43 then 2 else if p = 45 then 2 else if p = 47 then 3 else if p = 60 then 1 else if p = 61 then 1 else if p = 62 then 1 else if p = 256 then 4 else 0
def jnI (p a b : Int32) : Int32 := if p = 42 then a * b else if p = 43 then a + b else if p = 45 then a - b else if p = 60 then (if b ≤ a then 0 else 1) else if p = 61 then (if a = b then 1 else 0) else if p = 62 then (if a ≤ b then 0 else 1) else if b = 0 then 0 else a / b
def ltI (lt : Nat → Int32) (p : Int32) : Int32 := if p = 98 then lt 1 else if p = 103 then lt 2 else if p = 106 then lt 0 else if p = 107 then lt 3 else if p = 108 then lt 4 else if p = 115 then lt 5 else lt 6
/-- a step over a stack, its top first -/
def ev1 (lt : Nat → Int32) (x : Int32) (s : List Int32) : List Int32 :=
  if x < 0 then (if x = -256 then (- s.headD 0) :: s.tail else if rkI (-x) ≤ 0 then ltI lt (-x) :: s else jnI (-x) (s.tail.headD 0) (s.headD 0) :: s.tail.tail) else x :: s
def ev (lt : Nat → Int32) : List Int32 → List Int32 → List Int32
  | [], s => s
  | x :: c, s => ev lt c (ev1 lt x s)
theorem ev_app (lt : Nat → Int32) : ∀ c d s, ev lt (c ++ d) s = ev lt d (ev lt c s)
  | [], _, _ => rfl
  | x :: c, d, s => ev_app lt c d (ev1 lt x s)
theorem pif {A : Type} {c B : Prop} [Decidable c] {P : A → Prop} {a b : A} (k : P (if c then a else b)) (kb : P b → B) : (c → P a) ∧ (¬ c → B) := ⟨fun z => by rw [if_pos z] at k; exact k, fun z => by rw [if_neg z] at k; exact kb k⟩
theorem s4_rank {F : Nat} {p : Int32} {Post : Int32 → Prop} (k : Post (rkI p)) : p_X4_rankOf F p Post := by
  unfold rkI at k
  unfold p_X4_rankOf
  exact pif k (fun k => pif k (fun k => pif k (fun k => pif k (fun k => pif k (fun k => pif k (fun k => pif k (fun k => pif k id)))))))
theorem pifn {A : Type} {c : Prop} [Decidable c] {P : A → Prop} {a b : A} (k : P (if c then a else b)) : (¬ c → P b) ∧ (c → P a) := ⟨fun z => by rw [if_neg z] at k; exact k, fun z => by rw [if_pos z] at k; exact k⟩
theorem pif2 {A : Type} {c C B : Prop} [Decidable c] {P : A → Prop} {a b : A} (k : P (if c then a else b)) (ka : P a → C) (kb : P b → B) : (c → C) ∧ (¬ c → B) := ⟨fun z => by rw [if_pos z] at k; exact ka k, fun z => by rw [if_neg z] at k; exact kb k⟩
theorem s4_joined {F : Nat} {p a b : Int32} {Post : Int32 → Prop} (k : Post (jnI p a b)) : p_X4_joined F p a b Post := by
  unfold jnI at k
  unfold p_X4_joined
  refine pif k (fun k => pif k (fun k => pif k (fun k => pif2 k (fun k => pif k id) (fun k => pif2 k pifn (fun k => pif2 k (fun k => pif k id) (fun k => ?_))))))
  exact ⟨fun z => ⟨z, by rw [if_neg z] at k; exact k⟩, fun z => by rw [if_pos z] at k; exact k⟩
theorem s6_thing {F nA nC c a : Nat} {p o hour : Int32} {sag load joy grief bowl lt : Nat → Int32} {Post : Int32 → Prop} (hc : c < nC) (hC : nC ≤ 8) (ha : a < nA) (hA : nA ≤ 6) (l0 : lt 0 = joy c) (l1 : lt 1 = bowl c) (l2 : lt 2 = grief c) (l3 : lt 3 = o) (l4 : lt 4 = load a) (l5 : lt 5 = sag a) (l6 : lt 6 = hour - hour / 7 * 7) (k : Post (ltI lt p)) : p_X6_thing F p (nI c) (nI a) o (nI nA) (nI nC) hour sag load joy grief bowl Post := by
  unfold ltI at k
  rw [l0, l1, l2, l3, l4, l5, l6] at k
  have i8 : vp_in (nI c) 8 := pk_in c 8 (by omega)
  have i6 : vp_in (nI a) 6 := pk_in a 6 (by omega)
  unfold p_X6_thing
  rw [nI_clamp (n := c) (by omega), nI_clamp (n := a) (by omega)]
  refine s6_hasCat hC hc ⟨fun z => absurd z (by decide), fun _ => s6_hasArch hA ha ⟨fun _ => ?_, fun z => absurd z (by decide)⟩⟩
  exact pif2 k (fun k => ⟨i8, k⟩) (fun k => pif2 k (fun k => ⟨i8, k⟩) (fun k => pif2 k (fun k => ⟨i8, k⟩) (fun k => pif k (fun k => pif2 k (fun k => ⟨i6, k⟩) (fun k => pif2 k (fun k => ⟨i6, k⟩) (fun k => ⟨by decide, k⟩))))))
/-- the stack's cells, its top first -/
def SKr : List Int32 → (Nat → Int32) → Prop
  | [], _ => True
  | v :: s, f => f s.length = v ∧ SKr s f
theorem SKr_upd {v : Int32} {n : Nat} {f : Nat → Int32} : ∀ {s : List Int32}, s.length ≤ n → SKr s f → SKr s (upd f n v)
  | [], _, _ => trivial
  | a :: s, hl, h => by
    have hl : s.length + 1 ≤ n := hl
    refine ⟨?_, SKr_upd (by omega) h.2⟩
    unfold upd
    rw [if_neg (by omega)]
    exact h.1
theorem SKr_push {v : Int32} {s : List Int32} {f : Nat → Int32} (h : SKr s f) : SKr (v :: s) (upd f s.length v) := ⟨by unfold upd; rw [if_pos rfl], SKr_upd (Nat.le_refl _) h⟩
theorem SKr_tail {s : List Int32} {f : Nat → Int32} (h : SKr s f) : SKr s.tail f := by
  cases s with
  | nil => exact h
  | cons a s => exact h.2
section
variable {F : Nat} {s : List Int32} {f : Nat → Int32}
theorem s4_push {v : Int32} {Post : (Int32 × (Nat → Int32)) → Prop} (hl : s.length < 40) (h : SKr s f) (k : ∀ f2, SKr (v :: s) f2 → Post (nI (s.length + 1), f2)) : p_X4_push F v (nI s.length) f Post := by
  unfold p_X4_push
  refine br_f (nI_ge (b := 40) hl (by omega)) ⟨pk_in s.length 40 hl, ?_⟩
  rw [nI_clamp (n := s.length) (by omega), ← nI_succ]
  exact k _ (SKr_push h)
theorem s4_pop {Post : Int32 → Int32 → Prop} (hl : s.length ≤ 40) (h : SKr s f) (k : Post (s.headD 0) (nI s.tail.length)) : p_X4_pop F (nI s.length) f Post := by
  unfold p_X4_pop
  cases s with
  | nil => exact br_t (by decide) k
  | cons a s =>
    have hl : s.length + 1 ≤ 40 := hl
    have e : nI (a :: s).length - 1 = nI s.length := nI_pred s.length
    rw [e, nI_clamp (n := s.length) (by omega), h.1]
    exact br_f (nI_nlt (b := 1) (by show 1 ≤ s.length + 1; omega) (by show s.length + 1 < _; omega)) (br_t (nI_le (b := 40) hl (by omega)) ⟨pk_in s.length 40 (by omega), k⟩)
end
def STr (c : List Int32) (f : Nat → Int32) : Prop := ∀ i, i < c.length → f i = c.getD i 0
theorem ev1_len (lt : Nat → Int32) (x : Int32) (s : List Int32) : (ev1 lt x s).length ≤ s.length + 1 := by
  unfold ev1
  split
  · split
    · simp only [List.length_cons, List.length_tail]; omega
    · split
      · simp
      · simp only [List.length_cons, List.length_tail]; omega
  · simp
theorem getD_drop {c : List Int32} {i : Nat} (h : i < c.length) : c.drop i = c.getD i 0 :: c.drop (i + 1) := by
  rw [List.drop_eq_getElem_cons h]
  congr 1
  simp [h]
theorem RX_steps {F : Nat} {c : List Int32} {steps : Nat → Int32} {R : (Nat → Int32) → Int32} (hF : 5000 ≤ F) (hc : c.length ≤ 40) (hs : STr c steps) (hR : ∀ lt, R lt = (ev lt c []).headD 0) : RX F R (nI c.length) steps := by
  intro cc a nA nC o hour stack sag load joy grief bowl lt Post hcc hC ha hA l0 l1 l2 l3 l4 l5 l6 k
  unfold p_X4_purr
  have fin : ∀ (s : List Int32) (f : Nat → Int32), s.length ≤ 40 → SKr s f → s.headD 0 = R lt → p_X4_purr_122 F (nI s.length) f Post := by
    intro s f hl h e
    unfold p_X4_purr_122
    refine s4_pop hl h ?_
    rw [e]
    unfold p_X7_asDigit
    exact k _
  refine up_loop (fun n i (s : Int32 × (Nat → Int32)) => p_X4_purr_8 F (nI cc) (nI a) o (nI c.length) steps (nI nA) (nI nC) hour sag load joy grief bowl Post n i s.1 s.2) (fun j s => ∃ l : List Int32, l.length ≤ j ∧ s.1 = nI l.length ∧ SKr l s.2 ∧ ev lt (c.drop j) l = ev lt c []) c.length ?_ ?_ F (0, stack) 0 ⟨[], Nat.le_refl _, rfl, trivial, rfl⟩ (by omega) (by omega)
  · rintro n ⟨tp, f⟩ ⟨l, l1, l2, l3, l4⟩
    have l2 : tp = nI l.length := l2
    subst l2
    show p_X4_purr_8 F (nI cc) (nI a) o (nI c.length) steps (nI nA) (nI nC) hour sag load joy grief bowl Post (n + 1) (nI c.length) (nI l.length) f
    rw [p_X4_purr_8_s]
    refine br_t (nI_le (Nat.le_refl _) (by omega)) (fin l f (by omega) l3 ?_)
    rw [List.drop_length] at l4
    rw [hR, ← l4]
    rfl
  · rintro n j ⟨tp, f⟩ hj ⟨l, q1, q2, q3, q4⟩ ih
    have q2 : tp = nI l.length := q2
    have q3 : SKr l f := q3
    subst q2
    show p_X4_purr_8 F (nI cc) (nI a) o (nI c.length) steps (nI nA) (nI nC) hour sag load joy grief bowl Post (n + 1) (nI j) (nI l.length) f
    rw [p_X4_purr_8_s, nI_clamp (n := j) (by omega), hs j hj]
    rw [getD_drop hj] at q4
    generalize hx : c.getD j 0 = x at q4 ⊢
    have q4 : ev lt (c.drop (j + 1)) (ev1 lt x l) = ev lt c [] := q4
    have lenx := ev1_len lt x l
    have nxt : ∀ (l2 : List Int32) (f2 : Nat → Int32), ev1 lt x l = l2 → SKr l2 f2 → p_X4_purr_116 F (nI j) (p_X4_purr_8 F (nI cc) (nI a) o (nI c.length) steps (nI nA) (nI nC) hour sag load joy grief bowl Post n) Post (nI l2.length) f2 := by
      intro l2 f2 e h2
      subst e
      unfold p_X4_purr_116
      exact ih (nI (ev1 lt x l).length, f2) ⟨ev1 lt x l, by omega, rfl, h2, q4⟩
    refine br_f (nI_ge hj (by omega)) (br_f (nI_ge (b := 40) (by omega) (by omega)) ⟨pk_in j 40 (by omega), fun z => ⟨fun z2 => s4_rank ⟨fun z3 => s6_thing hcc hC ha hA l0 l1 l2 l3 l4 l5 l6 (s4_push (by omega) q3 (fun f2 h2 => nxt _ f2 ?_ h2)), fun z3 => s4_pop (by omega) q3 (s4_pop (by rw [List.length_tail]; omega) (SKr_tail q3) (s4_joined (s4_push (by rw [List.length_tail, List.length_tail]; omega) (SKr_tail (SKr_tail q3)) (fun f2 h2 => nxt _ f2 ?_ h2))))⟩, fun z2 => s4_pop (by omega) q3 (s4_push (by rw [List.length_tail]; omega) (SKr_tail q3) (fun f2 h2 => nxt _ f2 ?_ h2))⟩, fun z => s4_push (by omega) q3 (fun f2 h2 => nxt _ f2 ?_ h2)⟩)
    · unfold ev1; rw [if_pos z, if_neg z2, if_pos z3]
    · unfold ev1; rw [if_pos z, if_neg z2, if_neg z3]
    · unfold ev1; rw [if_pos z, if_pos z2]
    · unfold ev1; rw [if_neg z]
