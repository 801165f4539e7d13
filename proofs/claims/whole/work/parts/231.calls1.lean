/-! ===== calls: sign, end, felt, forget, heard, denies, row, count ===== -/
theorem lt_of_le1 {p : Int32} {n : Nat} (h : nI (n + 1) ≤ p) (hn : n < 2 ^ 31 - 1) : nI n < p := by
  rw [Int32.le_iff_toInt_le, nI_toInt (by omega)] at h
  rw [Int32.lt_iff_toInt_lt, nI_toInt (by omega)]
  omega
theorem nle_of_lt {a b : Int32} (h : a < b) : ¬ b ≤ a := by
  intro h2
  rw [Int32.lt_iff_toInt_lt] at h
  rw [Int32.le_iff_toInt_le] at h2
  omega
theorem rg_no {p : Int32} {n : Nat} {A B C : Prop} (h : p < 0 ∨ nI (n + 1) ≤ p) (hn : n < 1000) (k1 : A) (k2 : C) : (p < 0 → A) ∧ (¬ p < 0 → ((p ≤ nI n → B) ∧ (¬ p ≤ nI n → C))) :=
  ⟨fun _ => k1, fun h2 => br_f (nle_of_lt (lt_of_le1 (h.resolve_left h2) (by omega))) k2⟩
theorem rg_yes {j n : Nat} {A B C : Prop} (h : j < n + 1) (hn : n < 1000) (k : B) : (nI j < 0 → A) ∧ (¬ nI j < 0 → ((nI j ≤ nI n → B) ∧ (¬ nI j ≤ nI n → C))) :=
  br_f (nI_pos (by omega)) (br_t (nI_le (by omega) (by omega)) k)
theorem s8_rgno {F : Nat} {p : Int32} {n : Nat} {Post : Int32 → Prop} (h : p < 0 ∨ nI (n + 1) ≤ p) (hn : n < 1000) (k : Post 0) : p_X8_in F p 0 (nI n) Post :=
  s8_nin (h.imp id (fun h => lt_of_le1 h (by omega))) k
theorem s8_rgyes {F : Nat} {j n : Nat} {Post : Int32 → Prop} (h : j < n + 1) (hn : n < 1000) (k : Post 1) : p_X8_in F (nI j) 0 (nI n) Post := s8_in (lo := 0) (by omega) (by omega) (by omega) k
/-! the four signs -/
def qb (p : Int32) (k : Nat) : Nat := p.toBitVec.toNat / 2 ^ k % 256
theorem qb_lt (p : Int32) (k : Nat) : qb p k < 256 := Nat.mod_lt _ (by omega)
theorem qb_char (p s : Int32) (k : Nat) (hs : ((s.toUInt32 &&& Int32.toUInt32 31).toBitVec % 32).toNat = k) : vp_nar .char (((((p.toUInt32 >>> (s.toUInt32 &&& Int32.toUInt32 31)).toInt32) &&& (255 : Int32)).toUInt32 % 65536).toInt32) = nI (qb p k) := by
  rw [pk_vc, sc_c2, pk_and _ 8 (by decide), pk_ushr p s k hs]
  rfl
theorem fz_low (x : Int32) : (x &&& 255).toInt8 = x.toInt8 := by
  apply Int8.toBitVec_inj.1
  apply BitVec.eq_of_getLsbD_eq
  intro i hi
  have h2 : (255 : Int32).toBitVec.getLsbD i = true := by
    have : ∀ j : Fin 8, (255 : Int32).toBitVec.getLsbD j.val = true := by decide +kernel
    exact this ⟨i, hi⟩
  have h4 : (x &&& 255).toBitVec.getLsbD i = x.toBitVec.getLsbD i := by
    show (x.toBitVec &&& (255 : Int32).toBitVec).getLsbD i = _
    rw [BitVec.getLsbD_and, h2, Bool.and_true]
  have h3 : i < 32 := by omega
  show ((x &&& 255).toBitVec.signExtend 8).getLsbD i = (x.toBitVec.signExtend 8).getLsbD i
  rw [BitVec.getLsbD_signExtend, BitVec.getLsbD_signExtend, if_pos h3, if_pos h3, h4]
theorem qb_byte (p s : Int32) (k : Nat) (hs : (s.toBitVec.smod 32).toNat = k) (hk : k ≤ 24) : vp_nar .byte ((p >>> s).toInt8.toInt32) = (nI (qb p k)).toInt8.toInt32 := by
  rw [pk_vb]
  congr 1
  rw [← fz_low, pk_and _ 8 (by decide)]
  congr 2
  unfold qb
  show (p.toBitVec.sshiftRight (s.toBitVec.smod 32).toNat).toNat % 2 ^ 8 = _
  rw [hs]
  apply Nat.eq_of_testBit_eq
  intro i
  rw [show (256 : Nat) = 2 ^ 8 from rfl, Nat.testBit_mod_two_pow, Nat.testBit_mod_two_pow, ← Nat.shiftRight_eq_div_pow, Nat.testBit_shiftRight]
  by_cases hi : i < 8
  · have : (p.toBitVec.sshiftRight k).toNat.testBit i = (p.toBitVec.sshiftRight k).getLsbD i := rfl
    rw [this, BitVec.getLsbD_sshiftRight]
    have h2 : k + i < 32 := by omega
    have h3 : ¬ 32 ≤ i := by omega
    simp [hi, h2, h3]
    rfl
  · simp [hi]
section
variable {F : Nat} {x : XS} {m : MS} {am : MA}
theorem TXr_put {l1 l2 : Int32} {s1 s2 : Nat → Int32} {v1 v2 : Int32} {b : Nat} (h : ∃ (t : Nat) (b : Nat → Nat), t < 80 ∧ l1 = nI t ∧ l2 = nI t ∧ ∀ i, i < t → b i < 256 ∧ s1 i = nI (b i) ∧ s2 i = (nI (b i)).toInt8.toInt32) (hb : b < 256) (e1 : v1 = nI b) (e2 : v2 = (nI b).toInt8.toInt32) : TXr (l1 + 1) (upd s1 l1.toNatClampNeg v1) (l2 + 1) (upd s2 l2.toNatClampNeg v2) := by
  obtain ⟨t, c, ht, rfl, rfl, h⟩ := h
  rw [nI_clamp (n := t) (by omega)]
  refine ⟨t + 1, fun i => if i = t then b else c i, by omega, nI_1 _, nI_1 _, fun i hi => ?_⟩
  show (if i = t then b else c i) < 256 ∧ upd s1 t v1 i = nI (if i = t then b else c i) ∧ upd s2 t v2 i = (nI (if i = t then b else c i)).toInt8.toInt32
  rw [upd_i, upd_i]
  by_cases e : i = t
  · rw [if_pos e, if_pos e, if_pos e]; exact ⟨hb, e1, e2⟩
  · rw [if_neg e, if_neg e, if_neg e]; exact h i (by omega)
theorem TXr_one {l1 l2 : Int32} {s1 s2 : Nat → Int32} {v1 v2 : Int32} {b t : Nat} (e : l1 = nI t) (ht : t < 80) (h : TXr l1 s1 l2 s2) (hb : b < 256) (e1 : v1 = nI b) (e2 : v2 = (nI b).toInt8.toInt32) : TXr (l1 + 1) (upd s1 l1.toNatClampNeg v1) (l2 + 1) (upd s2 l2.toNatClampNeg v2) := by
  obtain ⟨t2, c, h2, q1, q2, h⟩ := h
  have : t2 = t := (nI_eq (by omega) (by omega)).1 (q1.symm.trans e)
  subst this
  exact TXr_put ⟨t2, c, ht, q1, q2, h⟩ hb e1 e2
theorem ob_sign (hF : 5000 ≤ F) (p1 : Int32) (h : Rel F x m) : p7_sign F p1 x (fun r x' => p8_sign F p1 m (fun r' m' => r = r' ∧ Rel F x' m')) := by
  obtain ⟨nA, nC, R, w, ok, hV, hM, eA, eC, hT, hW, hU, hN, hE, hH, hK⟩ := h
  have hT' := hT
  obtain ⟨t, b, ht, e1, e2, hb⟩ := hT
  unfold p7_sign p_X7_sign p_X5_addFour p8_sign p_X8_sign
  obtain ⟨f, rfl⟩ : ∃ f, F = f + 5 := ⟨F - 5, by omega⟩
  rcases Nat.lt_or_ge 76 t with h4 | h4
  · have q : ¬ nI t + 4 ≤ 80 := by rw [show nI t + 4 = nI (t + 4) from nI_add t 4]; exact nI_ge (a := 80) (by omega) (by omega)
    rw [e1, e2]
    refine br_f q (br_f q ⟨rfl, nA, nC, R, w, ok, hV, hM, eA, eC, ⟨t, b, ht, rfl, rfl, hb⟩, hW, hU, hN, hE, hH, hK⟩)
  · have q : nI t + 4 ≤ 80 := by rw [show nI t + 4 = nI (t + 4) from nI_add t 4]; exact nI_le (b := 80) (by omega) (by omega)
    have a1 : nI t + 1 = nI (t + 1) := nI_1 t
    have a2 : nI t + 1 + 1 = nI (t + 2) := by rw [a1]; exact nI_1 _
    have a3 : nI t + 1 + 1 + 1 = nI (t + 3) := by rw [a2]; exact nI_1 _
    have v0 : vp_in (nI t) 80 := pk_in t 80 (by omega)
    have v1 : vp_in (nI t + 1) 80 := pk_in (t + 1) 80 (by omega) a1
    have v2 : vp_in (nI t + 1 + 1) 80 := pk_in (t + 2) 80 (by omega) a2
    have v3 : vp_in (nI t + 1 + 1 + 1) 80 := pk_in (t + 3) 80 (by omega) a3
    refine br_t (by rw [e1]; exact q) ?_
    rw [p_X5_addFour_16_s, p_X5_addFour_16_s, p_X5_addFour_16_s, p_X5_addFour_16_s, p_X5_addFour_16_s]
    refine br_f (by decide) ⟨by rw [e1]; exact v0, br_f (by decide) ⟨by rw [e1]; exact v1, br_f (by decide) ⟨by rw [e1]; exact v2, br_f (by decide) ⟨by rw [e1]; exact v3, br_t (by decide) ?_⟩⟩⟩⟩
    refine br_t (by rw [e2]; exact q) ?_
    rw [p_X8_sign_20_s, p_X8_sign_20_s, p_X8_sign_20_s, p_X8_sign_20_s, p_X8_sign_20_s]
    refine br_f (by decide) ⟨by rw [e2]; exact v0, br_f (by decide) ⟨by rw [e2]; exact v1, br_f (by decide) ⟨by rw [e2]; exact v2, br_f (by decide) ⟨by rw [e2]; exact v3, br_t (by decide) ?_⟩⟩⟩⟩
    refine ⟨by rw [e1, e2], nA, nC, R, w, ok, hV, hM, eA, eC, ?_, hW, hU, hN, hE, hH, hK⟩
    refine TXr_one (t := t + 3) (by rw [e1, a3]) (by omega) ?_ (qb_lt p1 0) (qb_char p1 _ 0 (by decide)) (qb_byte p1 _ 0 (by decide) (by omega))
    refine TXr_one (t := t + 2) (by rw [e1, a2]) (by omega) ?_ (qb_lt p1 8) (qb_char p1 _ 8 (by decide)) (qb_byte p1 _ 8 (by decide) (by omega))
    refine TXr_one (t := t + 1) (by rw [e1, a1]) (by omega) ?_ (qb_lt p1 16) (qb_char p1 _ 16 (by decide)) (qb_byte p1 _ 16 (by decide) (by omega))
    exact TXr_one (t := t) e1 (by omega) hT' (qb_lt p1 24) (qb_char p1 _ 24 (by decide)) (qb_byte p1 _ 24 (by decide) (by omega))
theorem ob_end (p1 : Int32) (h : Rel F x m) : p7_end F p1 x (fun r x' => p8_end F p1 m (fun r' m' => r = r' ∧ Rel F x' m')) := by
  obtain ⟨nA, nC, R, w, ok, hV, hM, eA, eC, ⟨t, b, ht, e1, e2, hb⟩, hW, hU, hN, hE, hH, hK⟩ := h
  unfold p7_end p_X7_end p8_end p_X8_end
  rw [e1, e2]
  rcases arg3 p1 (n := t + 1) (by omega) with h | ⟨j, hj, rfl⟩
  · refine rg_no h (by omega) ?_ ?_
    · refine s8_rgno h (by omega) ⟨fun q => absurd rfl q, fun _ => ⟨rfl, nA, nC, R, w, ok, hV, hM, eA, eC, ⟨t, b, ht, rfl, rfl, hb⟩, hW, hU, hN, hE, hH, hK⟩⟩
    · refine s8_rgno h (by omega) ⟨fun q => absurd rfl q, fun _ => ⟨rfl, nA, nC, R, w, ok, hV, hM, eA, eC, ⟨t, b, ht, rfl, rfl, hb⟩, hW, hU, hN, hE, hH, hK⟩⟩
  · refine rg_yes hj (by omega) (s8_rgyes hj (by omega) ⟨fun _ => ⟨rfl, nA, nC, R, w, ok, hV, hM, eA, eC, ⟨j, b, by omega, rfl, rfl, fun i hi => hb i (by omega)⟩, hW, hU, hN, hE, hH, hK⟩, fun q => absurd q (by decide)⟩)
theorem ob_forget (h : Rel F x m) : p7_forget F x (fun r x' => p8_forget F m (fun r' m' => r = r' ∧ Rel F x' m')) := by
  obtain ⟨nA, nC, R, w, ok, hV, hM, eA, eC, hT, hW, hU, hN, ⟨eo, k, hk, e1, e2, _⟩, hH, hK⟩ := h
  exact ⟨by rw [e1, e2], nA, nC, R, w, ok, hV, hM, eA, eC, hT, hW, hU, hN, ⟨eo, 0, by omega, rfl, rfl, fun i hi => absurd hi (by omega)⟩, hH, hK⟩
theorem ob_denies (h : Rel F x m) : p7_denies F x (fun r x' => p8_denies F m (fun r' m' => r = r' ∧ Rel F x' m')) := by
  obtain ⟨nA, nC, R, w, ok, hV, hM, eA, eC, hT, hW, hU, hN, hE, ⟨eo, k, hk, e1, e2, _⟩, hK⟩ := h
  exact ⟨by rw [e1, e2], nA, nC, R, w, ok, hV, hM, eA, eC, hT, hW, hU, hN, hE, ⟨eo, 0, by omega, rfl, rfl, fun i hi => absurd hi (by omega)⟩, hK⟩
end
