/-! ===== the rule: the class reads, sign by sign ===== -/
def rkN (c : Nat) : Nat := if c = 42 ∨ c = 47 then 3 else if c = 43 ∨ c = 45 then 2 else if c = 60 ∨ c = 61 ∨ c = 62 then 1 else if c = 256 then 4 else 0
theorem rk_e : ∀ c, c < 257 → rkI (nI c) = nI (rkN c) := by decide +kernel
theorem rk_le (c : Nat) : rkN c ≤ 4 := by
  unfold rkN
  split
  · omega
  · split
    · omega
    · split
      · omega
      · split <;> omega
/-- what waits and binds as strongly as r or more becomes steps; the stack's top is first -/
def settl (r : Nat) : List Nat → List Int32 → List Nat × List Int32
  | [], st => ([], st)
  | c :: sk, st => if rkN c < r then (c :: sk, st) else settl r sk (st ++ [- nI c])
def isLet (c : Nat) : Bool := c == 98 || c == 103 || c == 106 || c == 107 || c == 108 || c == 110 || c == 115
def setB (cm : Nat → Bool) (k : Nat) (v : Bool) : Nat → Bool := fun e => if e = k then v else cm e
abbrev CSt := List Int32 × List Nat × Nat × (Nat → Bool) × Nat × Bool
def tk (c : Nat) (st : List Int32) (sk : List Nat) (op : Nat) (cm : Nat → Bool) (dg : Nat) (wt : Bool) : Option CSt :=
  if 48 ≤ c ∧ c ≤ 57 then
    (if wt = true then some (st ++ [nI (c - 48)], sk, op, cm, 1, false)
     else if dg = 0 ∨ dg = 3 then none
     else some (st.dropLast ++ [10 * st.getLastD 0 + nI (c - 48)], sk, op, cm, dg + 1, false))
  else if wt = true then
    (if c = 45 then some (st, 256 :: sk, op, cm, 0, true)
     else if c = 40 then (if op = 4 then none else some (st, 40 :: sk, op + 1, setB cm (op + 1) false, 0, true))
     else if isLet c = true then some (st ++ [- nI c], sk, op, cm, 0, false)
     else none)
  else
    (if c = 41 ∧ 0 < op then some ((settl 1 sk st).2, (settl 1 sk st).1.tail, op - 1, cm, 0, false)
     else if rkN c = 0 ∨ (rkN c = 1 ∧ cm op = true) then none
     else some ((settl (rkN c) sk st).2, c :: (settl (rkN c) sk st).1, op, (if rkN c = 1 then setB cm op true else cm), 0, true))
theorem settl_ex (r : Nat) : ∀ sk st, ∃ pd, sk = pd ++ (settl r sk st).1 ∧ (settl r sk st).2 = st ++ pd.map (fun c => - nI c)
  | [], st => ⟨[], rfl, by rw [settl]; simp⟩
  | c :: sk, st => by
    rw [settl]
    by_cases h : rkN c < r
    · rw [if_pos h]; exact ⟨[], rfl, by simp⟩
    · rw [if_neg h]
      obtain ⟨pd, h1, h2⟩ := settl_ex r sk (st ++ [- nI c])
      refine ⟨c :: pd, ?_, ?_⟩
      · rw [List.cons_append, ← h1]
      · rw [h2]; simp
theorem settl_len (r : Nat) (sk : List Nat) (st : List Int32) : (settl r sk st).2.length + (settl r sk st).1.length = st.length + sk.length := by
  obtain ⟨pd, h1, h2⟩ := settl_ex r sk st
  have h3 : sk.length = (pd ++ (settl r sk st).1).length := congrArg _ h1
  rw [List.length_append] at h3
  rw [h2, List.length_append, List.length_map]
  omega
theorem SKr_suf {f : Nat → Int32} : ∀ (pd : List Int32) {s : List Int32}, SKr (pd ++ s) f → SKr s f
  | [], _, h => h
  | _ :: pd, _, h => SKr_suf pd h.2
theorem settl_SK {r : Nat} {sk : List Nat} {st : List Int32} {f : Nat → Int32} (h : SKr (sk.map nI) f) : SKr ((settl r sk st).1.map nI) f := by
  obtain ⟨pd, h1, h2⟩ := settl_ex r sk st
  rw [h1, List.map_append] at h
  exact SKr_suf _ h
theorem settl_in {r : Nat} {sk : List Nat} {st : List Int32} (h : ∀ c, c ∈ sk → c ≤ 256) : ∀ c, c ∈ (settl r sk st).1 → c ≤ 256 := by
  obtain ⟨pd, h1, h2⟩ := settl_ex r sk st
  intro c hc
  apply h
  rw [h1]
  exact List.mem_append_right _ hc
theorem STr_put {st : List Int32} {f : Nat → Int32} {v : Int32} (h : STr st f) : STr (st ++ [v]) (upd f st.length v) := by
  intro i hi
  rw [List.length_append] at hi
  have hi : i < st.length + 1 := hi
  unfold upd
  by_cases e : i = st.length
  · subst e
    rw [if_pos rfl]
    simp
  · rw [if_neg e, h i (by omega)]
    simp only [List.getD_eq_getElem?_getD]
    rw [List.getElem?_append_left (by omega)]
section
variable {F : Nat} {st : List Int32} {f : Nat → Int32}
theorem s4_addStep {v : Int32} {Post : (Int32 × (Nat → Int32)) → Prop} (hl : st.length < 40) (h : STr st f) (k : ∀ f2, STr (st ++ [v]) f2 → Post (nI (st ++ [v]).length, f2)) : p_X4_addStep F v (nI st.length) f Post := by
  unfold p_X4_addStep
  refine br_f (nI_ge (b := 40) hl (by omega)) ⟨pk_in st.length 40 hl, ?_⟩
  have e : nI (st ++ [v]).length = nI st.length + 1 := by rw [List.length_append]; exact nI_succ _
  rw [nI_clamp (n := st.length) (by omega), ← e]
  exact k _ (STr_put h)
theorem s4_settle7 {r : Nat} {stack : Nat → Int32} {Post : (Int32 × Int32 × (Nat → Int32)) → Prop} (hr : r ≤ 4) : ∀ (sk : List Nat) (G : Nat) (st : List Int32) (f : Nat → Int32), sk.length < G → st.length + sk.length ≤ 40 → (∀ c, c ∈ sk → c ≤ 256) → STr st f → SKr (sk.map nI) stack → (∀ f2, STr (settl r sk st).2 f2 → Post (nI (settl r sk st).2.length, nI (settl r sk st).1.length, f2)) → p_X4_settle_7 F (nI r) stack Post G (nI sk.length - 1) (nI st.length) (nI sk.length) f
  | [], G, st, f, hG, hl, hm, h1, h2, k => by
    obtain ⟨G', rfl⟩ : ∃ G', G = G' + 1 := ⟨G - 1, by omega⟩
    rw [p_X4_settle_7_s]
    exact br_t (by decide) (k f h1)
  | c :: sk, G, st, f, hG, hl, hm, h1, h2, k => by
    obtain ⟨G', rfl⟩ : ∃ G', G = G' + 1 := ⟨G - 1, by omega⟩
    have hl : st.length + (sk.length + 1) ≤ 40 := hl
    have hG : sk.length + 1 < G' + 1 := hG
    have hc := hm c (List.mem_cons_self)
    have e : nI (c :: sk).length - 1 = nI sk.length := nI_pred _
    have e2 : stack sk.length = nI c := by
      have := h2.1
      rw [List.length_map] at this
      exact this
    rw [p_X4_settle_7_s, e, nI_clamp (n := sk.length) (by omega), e2]
    rw [settl] at k
    refine br_f (nI_pos (by omega)) (br_f (nI_ge (b := 40) (by omega) (by omega)) ⟨pk_in sk.length 40 (by omega), s4_rank ?_⟩)
    rw [rk_e c (by omega)]
    have rl := rk_le c
    refine ⟨fun z => ?_, fun z => ?_⟩
    · rw [if_pos ((nI_ltI (by omega) (by omega)).1 z)] at k
      exact k f h1
    · rw [if_neg (fun y => z ((nI_ltI (by omega) (by omega)).2 y))] at k
      have pp := s4_pop (F := F) (s := (c :: sk).map nI) (f := stack) (Post := fun r_32 u_32 => p_X4_addStep F (-r_32) (nI st.length) f (fun u_36 => p_X4_settle_7 F (nI r) stack Post G' (nI sk.length + -1) u_36.1 u_32 u_36.2)) (by rw [List.length_map]; show sk.length + 1 ≤ 40; omega) h2
      rw [List.length_map] at pp
      refine pp (s4_addStep (by omega) h1 (fun f2 h3 => ?_))
      rw [show nI sk.length + (-1 : Int32) = nI sk.length - 1 from (Int32.sub_eq_add_neg (nI sk.length) 1).symm]
      have e3 : nI ((c :: sk).map nI).tail.length = nI sk.length := by rw [List.map_cons, List.tail_cons, List.length_map]
      rw [e3]
      exact s4_settle7 hr sk G' (st ++ [- nI c]) f2 (by omega) (by rw [List.length_append]; show st.length + 1 + sk.length ≤ 40; omega) (fun x hx => hm x (List.mem_cons_of_mem _ hx)) h3 h2.2 k
theorem s4_settle {r : Nat} {sk : List Nat} {stack : Nat → Int32} {Post : (Int32 × Int32 × (Nat → Int32)) → Prop} (hF : 5000 ≤ F) (hr : r ≤ 4) (hl : st.length + sk.length ≤ 40) (hm : ∀ c, c ∈ sk → c ≤ 256) (h1 : STr st f) (h2 : SKr (sk.map nI) stack) (k : ∀ f2, STr (settl r sk st).2 f2 → Post (nI (settl r sk st).2.length, nI (settl r sk st).1.length, f2)) : p_X4_settle F (nI r) (nI st.length) (nI sk.length) stack f Post := by
  unfold p_X4_settle
  exact s4_settle7 hr sk F st f (by omega) hl hm h1 h2 k
end
