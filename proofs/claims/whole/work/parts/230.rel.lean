/-! ===== what holds between the class's and the model's values between two calls ===== -/
def RLw (l : List Int64) (s : Int32) (f : Nat → Int64) : Prop := s = nI l.length ∧ ∀ i, i < l.length → f i = l.getD i 0
def TXr (l1 : Int32) (s1 : Nat → Int32) (l2 : Int32) (s2 : Nat → Int32) : Prop := ∃ (t : Nat) (b : Nat → Nat), t ≤ 80 ∧ l1 = nI t ∧ l2 = nI t ∧ ∀ i, i < t → b i < 256 ∧ s1 i = nI (b i) ∧ s2 i = (nI (b i)).toInt8.toInt32
def RWr (l1 : Int32) (f1 : Nat → Int64) (l2 : Int32) (f2 : Nat → Int64) : Prop := ∃ l : List Int64, l.length ≤ 8 ∧ RLw l l1 f1 ∧ RLw l l2 f2
def RUr (F : Nat) (R : (Nat → Int32) → Int32) (sz : Int32) (steps : Nat → Int32) (rs : Int32) (rule : Nat → Int32) : Prop := RX F R sz steps ∧ ∃ k, rs = nI k ∧ RM F R k rule
def AVs (nA nC : Nat) (w : Nat → Int32) (v : VSt) : Prop := AV nA nC w v.2.2.2.2.2.2.1 v.2.2.2.2.2.2.2.1 v.2.2.2.2.2.2.2.2.1 v.2.2.2.2.2.2.2.2.2.1 v.2.2.2.2.2.2.2.2.2.2 v.1 v.2.1 v.2.2.1 v.2.2.2.1 v.2.2.2.2.1 v.2.2.2.2.2.1
/-- what can be undone: ws j is the row of the j-th last act -/
def UNx (nA nC k nx : Nat) (ws : Nat → Nat → Int32) (next size : Int32) (ring : Nat → Option PSl) : Prop := next = nI nx ∧ size = nI k ∧ ∀ j, j < k → ∃ s : PSl, ring ((nx + 11 - j) % 12) = some s ∧ AVs nA nC (ws j) s.2.2
def UNm (k : Nat) (ws : Nat → Nat → Int32) (many : Int32) (undos : Nat → Int32) : Prop := many = nI k ∧ ∀ j, j < k → ∀ i, i < 47 → undos (47 * (k - 1 - j) + i) = ws j i
def UNr (nA nC : Nat) (next size : Int32) (ring : Nat → Option PSl) (many : Int32) (undos : Nat → Int32) : Prop := ∃ k nx ws, k ≤ 12 ∧ nx < 12 ∧ (∀ j, j < k → OK nA nC (ws j)) ∧ UNx nA nC k nx ws next size ring ∧ UNm k ws many undos
def FEr (nA : Nat) (mo sz : Int32) (f1 f2 : Nat → Int32) (many : Int32) (g1 g2 : Nat → Int32) : Prop := mo = nI 10 ∧ ∃ k, k ≤ 10 ∧ sz = nI k ∧ many = nI k ∧ ∀ i, i < k → f1 i = g1 i ∧ f2 i = g2 i ∧ ∃ a, a < nA ∧ g1 i = nI a
def HEr (mo sz : Int32) (f1 f2 : Nat → Int32) (many : Int32) (g1 g2 : Nat → Int32) : Prop := mo = nI 12 ∧ ∃ k, k ≤ 12 ∧ sz = nI k ∧ many = nI k ∧ ∀ i, i < k → f1 i = g1 i ∧ f2 i = g2 i ∧ ∃ a, a ≤ 4 ∧ g1 i = nI a
def KPr (nA nC : Nat) (kept : Nat → Option PSl) (mk isK kc : Nat → Int32) (came : Int32) : Prop := ∃ cm, cm ≤ nA + nC ∧ came = nI cm ∧ ∀ i, i < 2 → (kept i = none ∧ isK i = 0) ∨ (∃ (s : PSl) (ka kb e : Nat), kept i = some s ∧ isK i = 1 ∧ OK ka kb (fun j => mk (47 * i + j)) ∧ AVs ka kb (fun j => mk (47 * i + j)) s.2.2 ∧ kc i = nI e ∧ e ≤ cm ∧ ka ≤ nA ∧ kb ≤ nC ∧ (e = cm ↔ ka = nA ∧ kb = nC))
def Rel (F : Nat) (x : XS) (m : MS) : Prop := ∃ (nA nC : Nat) (R : (Nat → Int32) → Int32) (w : Nat → Int32), OK nA nC w ∧ AV nA nC w x.x_now_arches x.x_now_cats x.x_now_store x.x_now_hour x.x_now_drops x.f_now_load x.f_now_sag x.f_now_joy x.f_now_bowl x.f_now_grief x.f_now_place ∧ MV w m.f_now ∧ m.x_arches = nI nA ∧ m.x_cats = nI nC ∧
  TXr x.x_text_length x.f_text_signs m.x_typed m.f_text ∧ RWr x.x_told_size x.f_told_numbers m.x_rowMany m.f_row ∧ RUr F R x.x_ruling_size x.f_ruling_steps m.x_ruleSize m.f_rule ∧ UNr nA nC x.x_past_next x.x_past_size x.f_past_ring m.x_undoMany m.f_undos ∧ FEr nA x.x_feltNotes_most x.x_feltNotes_size x.f_feltNotes_first x.f_feltNotes_second m.x_feltMany m.f_feltOf m.f_feltBy ∧ HEr x.x_heardNotes_most x.x_heardNotes_size x.f_heardNotes_first x.f_heardNotes_second m.x_heardMany m.f_heardOf m.f_heardBy ∧ KPr nA nC x.f_kept m.f_kept m.f_isKept m.f_keptCame m.x_came
/-! the row that is told -/
theorem RL_nil (f : Nat → Int64) : RLw [] 0 f := ⟨rfl, fun i hi => absurd hi (Nat.not_lt_zero i)⟩
theorem RL_put {l : List Int64} {s : Int32} {f : Nat → Int64} {v : Int64} (h : RLw l s f) (hl : l.length < 100) : RLw (l ++ [v]) (s + 1) (vp_updL f s.toNatClampNeg v) := by
  obtain ⟨rfl, h⟩ := h
  refine ⟨by rw [List.length_append]; exact nI_1 _, fun i hi => ?_⟩
  rw [nI_clamp (n := l.length) (by omega)]
  rw [List.length_append] at hi
  have hi : i < l.length + 1 := hi
  show (if i = l.length then v else f i) = _
  by_cases e : i = l.length
  · subst e
    rw [if_pos rfl]
    simp
  · rw [if_neg e, h i (by omega)]
    simp only [List.getD_eq_getElem?_getD]
    rw [List.getElem?_append_left (by omega)]
theorem s3_add {F : Nat} {l : List Int64} {s : Int32} {f : Nat → Int64} {v : Int64} {Post : (Int32 × (Nat → Int64)) → Prop} (h : RLw l s f) (hl : l.length < 8) (k : ∀ s2 f2, RLw (l ++ [v]) s2 f2 → Post (s2, f2)) : p_X3_add F v s f Post := by
  have e := h.1
  unfold p_X3_add
  refine br_f ?_ ⟨?_, k _ _ (RL_put h (by omega))⟩
  · rw [e]; exact nI_ge (b := 8) hl (by omega)
  · exact pk_in l.length 8 hl e
theorem s8_tell {F : Nat} {l : List Int64} {s : Int32} {f : Nat → Int64} {v : Int64} {Post : (Int32 × (Nat → Int64)) → Prop} (h : RLw l s f) (hl : l.length < 16) (k : ∀ s2 f2, RLw (l ++ [v]) s2 f2 → Post (s2, f2)) : p_X8_tell F v s f Post := by
  unfold p_X8_tell
  exact ⟨pk_in l.length 16 hl h.1, k _ _ (RL_put h (by omega))⟩
theorem RWr_of {l : List Int64} {s1 s2 : Int32} {f1 f2 : Nat → Int64} (h : l.length ≤ 8) (h1 : RLw l s1 f1) (h2 : RLw l s2 f2) : RWr s1 f1 s2 f2 := ⟨l, h, h1, h2⟩
/-! in, isArch, isCat -/
theorem s8_in {F lo hi : Nat} {p : Nat} {Post : Int32 → Prop} (h : lo ≤ p) (h2 : p ≤ hi) (hh : hi < 2 ^ 31) (k : Post 1) : p_X8_in F (nI p) (nI lo) (nI hi) Post := by
  unfold p_X8_in
  exact br_f (nI_nlt h (by omega)) (br_f (nI_nlt h2 (by omega)) k)
theorem s8_nin {F : Nat} {p lo hi : Int32} {Post : Int32 → Prop} (h : p < lo ∨ hi < p) (k : Post 0) : p_X8_in F p lo hi Post := by
  unfold p_X8_in
  exact ⟨fun _ => k, fun h2 => br_t (h.resolve_left h2) k⟩
theorem gt_nI {n : Nat} {p : Int32} (h : p < 0 ∨ nI n ≤ p) (hn : n < 2 ^ 31) : p < 0 ∨ nI n - 1 < p := by
  rcases h with h | h
  · exact Or.inl h
  rcases Nat.eq_zero_or_pos n with rfl | h0
  · rw [Int32.le_iff_toInt_le] at h
    refine Or.inr ?_
    rw [Int32.lt_iff_toInt_lt]
    have : (nI 0 - 1 : Int32).toInt = -1 := by decide
    have h2 : (nI 0).toInt = 0 := by decide
    omega
  · refine Or.inr ?_
    obtain ⟨z, rfl⟩ : ∃ z, n = z + 1 := ⟨n - 1, by omega⟩
    rw [nI_pred, Int32.lt_iff_toInt_lt, nI_toInt (by omega)]
    rw [Int32.le_iff_toInt_le, nI_toInt (by omega)] at h
    omega
theorem s8_isArch {F nA a : Nat} {Post : Int32 → Prop} (ha : a < nA) (hA : nA ≤ 100) (k : Post 1) : p_X8_isArch F (nI a) (nI nA) Post := by
  unfold p_X8_isArch
  obtain ⟨z, rfl⟩ : ∃ z, nA = z + 1 := ⟨nA - 1, by omega⟩
  rw [nI_pred]
  exact s8_in (lo := 0) (by omega) (by omega) (by omega) ⟨Or.inr rfl, k⟩
theorem s8_noArch {F nA : Nat} {p : Int32} {Post : Int32 → Prop} (h : p < 0 ∨ nI nA ≤ p) (hA : nA ≤ 100) (k : Post 0) : p_X8_isArch F p (nI nA) Post := by
  unfold p_X8_isArch
  exact s8_nin (gt_nI h (by omega)) ⟨Or.inl rfl, k⟩
theorem s8_isCat {F nC c : Nat} {Post : Int32 → Prop} (ha : c < nC) (hA : nC ≤ 100) (k : Post 1) : p_X8_isCat F (nI c) (nI nC) Post := by
  unfold p_X8_isCat
  obtain ⟨z, rfl⟩ : ∃ z, nC = z + 1 := ⟨nC - 1, by omega⟩
  rw [nI_pred]
  exact s8_in (lo := 0) (by omega) (by omega) (by omega) ⟨Or.inr rfl, k⟩
theorem s8_noCat {F nC : Nat} {p : Int32} {Post : Int32 → Prop} (h : p < 0 ∨ nI nC ≤ p) (hA : nC ≤ 100) (k : Post 0) : p_X8_isCat F p (nI nC) Post := by
  unfold p_X8_isCat
  exact s8_nin (gt_nI h (by omega)) ⟨Or.inl rfl, k⟩
theorem arg3 (p : Int32) {n : Nat} (hn : n < 2 ^ 31) : (p < 0 ∨ nI n ≤ p) ∨ ∃ j, j < n ∧ p = nI j := by
  rcases pk_ix p hn with h | h | h
  · exact Or.inl (Or.inl h)
  · exact Or.inl (Or.inr h)
  · exact Or.inr h
