/-! ===== call: years ===== -/
def drL (last : Int32) : Int32 := (last * (1103515245 : Int32)) + (12345 : Int32)
def drN2 (last : Int32) : Nat := (drL last).toBitVec.toNat / 65536
theorem drN2_lt (last : Int32) : drN2 last < 65536 := by
  have : (drL last).toBitVec.toNat < 4294967296 := (drL last).toBitVec.isLt
  unfold drN2; omega
theorem dr_val (last : Int32) {n : Nat} (h0 : 0 < n) (hn : n < 1000) : (((drL last).toUInt32 >>> ((16 : Int32).toUInt32 &&& Int32.toUInt32 31)).toInt32) - (((drL last).toUInt32 >>> ((16 : Int32).toUInt32 &&& Int32.toUInt32 31)).toInt32) / nI n * nI n = nI (drN2 last % n) := by
  have e : ((drL last).toUInt32 >>> ((16 : Int32).toUInt32 &&& Int32.toUInt32 31)).toInt32 = nI (drN2 last) := by
    apply Int32.toBitVec_inj.mp
    apply BitVec.eq_of_toNat_eq
    rw [pk_ushr _ 16 16 (by decide), pk_tn (by have := drN2_lt last; omega)]
    rfl
  rw [e]
  exact pk_rem (by have := drN2_lt last; omega) h0 (by omega)
section
variable {F nA nC : Nat} {R : (Nat → Int32) → Int32} {w f : Nat → Int32} {arches cats store hour drops sz top : Int32} {load sag joy bowl grief place steps stack : Nat → Int32}
theorem s0_below {n : Nat} {last : Int32} {Post : Int32 → Int32 → Prop} (h0 : 0 < n) (hn : n < 1000) (k : Post (nI (drN2 last % n)) (drL last)) : p_X0_below F (nI n) last Post := by
  unfold p_X0_below
  refine br_f (nI_nle h0 (by omega)) ⟨nI_ne0 h0 (by omega), ?_⟩
  rw [← dr_val last h0 hn] at k
  exact k
theorem s8_draw {n : Nat} {last : Int32} {Post : Int32 → Int32 → Prop} (h0 : 0 < n) (hn : n < 1000) (k : Post (nI (drN2 last % n)) (drL last)) : p_X8_draw F (nI n) last Post := by
  unfold p_X8_draw
  refine ⟨nI_ne0 h0 (by omega), ?_⟩
  rw [← dr_val last h0 hn] at k
  exact k
/-- one draw's act: the row, the draws, what dropped -/
def yrN (R : (Nat → Int32) → Int32) (nA nC : Nat) (s : (Nat → Int32) × Int32 × Nat) : (Nat → Int32) × Int32 × Nat :=
  if drN2 s.2.1 % 4 < 2 then (goH R nA nC s.1, drL s.2.1, s.2.2 + dct R nC s.1 nA)
  else if nC = 0 then (s.1, drL s.2.1, s.2.2)
  else if drN2 s.2.1 % 4 = 2 then ((if fdC nC s.1 (nI (drN2 (drL s.2.1) % nC)) (nI (1 + drN2 (drL (drL s.2.1)) % 3)) = 0 then fdW s.1 (nI (drN2 (drL s.2.1) % nC)) (nI (1 + drN2 (drL (drL s.2.1)) % 3)) else s.1), drL (drL (drL s.2.1)), s.2.2)
  else (grW s.1 (nI (drN2 (drL s.2.1) % nC)) (nI (1 + drN2 (drL (drL s.2.1)) % 5)), drL (drL (drL s.2.1)), s.2.2)
def yrS (R : (Nat → Int32) → Int32) (nA nC : Nat) (s : (Nat → Int32) × Int32 × Nat) : Nat → (Nat → Int32) × Int32 × Nat
  | 0 => s
  | n + 1 => yrN R nA nC (yrS R nA nC s n)
theorem grv_ok {c n : Nat} (hC : nC ≤ 8) (hc : c < nC) (h1 : 1 ≤ n) (h9 : n ≤ 9) : grC nC (nI c) (nI n) = 0 := by
  have ix := isIx_yes hc (by omega)
  rcases is19_cases (nI n) with ⟨q, q2⟩ | ⟨q, _⟩
  · rcases q2 with q2 | q2
    · exact absurd q2 (nI_nlt (b := 1) h1 (by omega))
    · exact absurd q2 (nI_nlt (a := 9) (b := n) h9 (by omega))
  · unfold grC; rw [if_neg (by rw [ix]; decide), if_neg (by rw [q]; decide)]
theorem s7_drawnAct {s : (Nat → Int32) × Int32 × Nat} {Post : Int32 → (Int32 × Int32 × Int32 × Int32 × Int32 × (Nat → Int32) × (Nat → Int32) × (Nat → Int32) × (Nat → Int32) × (Nat → Int32)) → Prop} (hF : 5000 ≤ F) (hR : RX F R sz steps) (hV : AV nA nC s.1 arches cats store hour drops load sag joy bowl grief place) (ok : OK nA nC s.1) (k : ∀ d s2 h2 d2 t2 st2 sg2 j2 g2 b2, s.2.2 + d = (yrN R nA nC s).2.2 → OK nA nC (yrN R nA nC s).1 → AV nA nC (yrN R nA nC s).1 arches cats s2 h2 d2 load sg2 j2 b2 g2 place → Post (nI d) ((yrN R nA nC s).2.1, s2, h2, d2, t2, st2, sg2, j2, g2, b2)) : p_X7_drawnAct F s.2.1 arches cats store hour drops sz top load place steps stack sag joy grief bowl Post := by
  have hC := ok.2.1
  unfold p_X7_drawnAct
  refine s0_below (n := 4) (by omega) (by omega) ?_
  unfold yrN at k
  have d4 : drN2 s.2.1 % 4 < 4 := Nat.mod_lt _ (by omega)
  by_cases q : drN2 s.2.1 % 4 < 2
  · rw [if_pos q] at k
    refine br_f (nI_ge (b := 2) q (by omega)) (s6_passHour hF hR hV ok (fun h3 d3 t3 st3 s3 j3 g3 b3 z => ?_))
    exact k _ _ _ _ _ _ _ _ _ _ rfl (goH_OK ok) z
  · rw [if_neg q] at k
    refine br_t (nI_le (a := 2) (by omega) (by omega)) ?_
    rw [hV.2.1]
    rcases Nat.eq_zero_or_pos nC with h0 | h0
    · rw [if_pos h0] at k
      refine br_t (by rw [h0]; decide) (k 0 _ _ _ _ _ _ _ _ _ rfl ok hV)
    · rw [if_neg (by omega)] at k
      have hc : drN2 (drL s.2.1) % nC < nC := Nat.mod_lt _ h0
      refine br_f (nI_nle h0 (by omega)) (s0_below h0 (by omega) ⟨fun z => ?_, fun z => ?_⟩)
      · have z' : ¬ drN2 s.2.1 % 4 = 2 := fun y => z (by rw [y]; rfl)
        rw [if_neg z'] at k
        refine s0_below (n := 5) (by omega) (by omega) ?_
        have h5 : drN2 (drL (drL s.2.1)) % 5 < 5 := Nat.mod_lt _ (by omega)
        rw [show (1 : Int32) + nI (drN2 (drL (drL s.2.1)) % 5) = nI (1 + drN2 (drL (drL s.2.1)) % 5) from nI_add 1 _]
        have g0 := grv_ok (n := 1 + drN2 (drL (drL s.2.1)) % 5) hC hc (by omega) (by omega)
        rw [← hV.2.1]
        refine s6_sadden ok hV (fun neg => absurd neg (by rw [g0]; decide)) (fun _ c hc2 ec g3 ok2 hV2 => ?_)
        exact k 0 _ _ _ _ _ _ _ _ _ rfl ok2 hV2
      · have z' : drN2 s.2.1 % 4 = 2 := (nI_eq (b := 2) (by omega) (by omega)).1 z
        rw [if_pos z'] at k
        refine s0_below (n := 3) (by omega) (by omega) ?_
        rw [show (1 : Int32) + nI (drN2 (drL (drL s.2.1)) % 3) = nI (1 + drN2 (drL (drL s.2.1)) % 3) from nI_add 1 _]
        rw [← hV.2.1]
        refine s6_feed ok hV (fun neg => ?_) (fun e0 c hc2 ec s3 b3 ok2 hV2 => ?_)
        · rw [if_neg (fun y => by rw [y] at neg; exact absurd neg (by decide))] at k
          exact k 0 _ _ _ _ _ _ _ _ _ rfl ok hV
        · rw [if_pos e0] at k
          exact k 0 _ _ _ _ _ _ _ _ _ rfl ok2 hV2
end
theorem yrN_OK {R : (Nat → Int32) → Int32} {nA nC : Nat} {s : (Nat → Int32) × Int32 × Nat} (ok : OK nA nC s.1) : OK nA nC (yrN R nA nC s).1 := by
  have hC := ok.2.1
  unfold yrN
  split
  · exact goH_OK ok
  split
  · exact ok
  rename_i h0
  have hc : drN2 (drL s.2.1) % nC < nC := Nat.mod_lt _ (by omega)
  have hV : AV nA nC s.1 (nI nA) (nI nC) (s.1 44) (s.1 45) (s.1 46) (fun i => s.1 i) (fun i => s.1 (6 + i)) (fun i => s.1 (12 + i)) (fun i => s.1 (20 + i)) (fun i => s.1 (28 + i)) (fun i => s.1 (36 + i)) := ⟨rfl, rfl, rfl, rfl, rfl, fun _ _ => rfl, fun _ _ => rfl, fun _ _ => rfl, fun _ _ => rfl, fun _ _ => rfl, fun _ _ => rfl⟩
  split
  · split
    · rename_i e0
      have : ∀ Q : Prop, (OK nA nC (fdW s.1 (nI (drN2 (drL s.2.1) % nC)) (nI (1 + drN2 (drL (drL s.2.1)) % 3))) → Q) → Q := by
        intro Q kq
        have hj : drN2 (drL (drL s.2.1)) % 3 < 3 := Nat.mod_lt _ (by omega)
        refine kq ?_
        have ix := isIx_yes hc (by omega)
        unfold fdC at e0
        rw [if_neg (by rw [ix]; decide)] at e0
        split at e0
        · exact absurd e0 (by decide)
        · split at e0
          · exact absurd e0 (by decide)
          · split at e0
            · exact absurd e0 (by decide)
            · rename_i q
              have q2 := Classical.not_not.1 q
              unfold fdW
              rw [nI_clamp (n := drN2 (drL s.2.1) % nC) (by omega)] at q2 ⊢
              exact OK_dg (OK_44 ok) (dg_add (ok.2.2.1 _ (by omega)) ⟨1 + drN2 (drL (drL s.2.1)) % 3, by omega, rfl⟩ q2) (by omega) (by intro i _ _; omega) (by intro i _ _; omega)
      exact this _ id
    · exact ok
  · have hj : drN2 (drL (drL s.2.1)) % 5 < 5 := Nat.mod_lt _ (by omega)
    unfold grW
    dsimp only
    rw [nI_clamp (n := drN2 (drL s.2.1) % nC) (by omega)]
    refine OK_dg ok ?_ (by omega) (by intro i _ _; omega) (by intro i _ _; omega)
    split
    · rename_i z
      refine dg_add (ok.2.2.1 _ (by omega)) ⟨1 + drN2 (drL (drL s.2.1)) % 5, by omega, rfl⟩ ?_
      rw [Int32.lt_iff_toInt_lt] at z; rw [Int32.le_iff_toInt_le]; omega
    · exact ⟨9, by omega, rfl⟩
theorem yrS_OK {R : (Nat → Int32) → Int32} {nA nC : Nat} {s : (Nat → Int32) × Int32 × Nat} (ok : OK nA nC s.1) : ∀ n, OK nA nC (yrS R nA nC s n).1
  | 0 => ok
  | n + 1 => yrN_OK (yrS_OK ok n)
theorem p3_1 {α β γ : Type} (a : α) (b : β) (c : γ) : (a, b, c).1 = a := rfl
theorem p3_2 {α β γ : Type} (a : α) (b : β) (c : γ) : (a, b, c).2.1 = b := rfl
theorem p3_3 {α β γ : Type} (a : α) (b : β) (c : γ) : (a, b, c).2.2 = c := rfl
theorem t8_years {F nA nC n rs qr : Nat} {R : (Nat → Int32) → Int32} {w f th rule asked hold : Nat → Int32} {row : Nat → Int64} {rd : Value} {ln tp at0 wr ia p1 : Int32} {S : Nat → (Nat → Int32) × Int32 × Nat} {Post : Int32 → (Int32 × Int32 × Value × Int32 × Int32 × Int32 × Int32 × Int32 × Int32 × Int32 × (Nat → Int32) × (Nat → Int32) × (Nat → Int32) × (Nat → Int64)) → Prop} (hF : 5000 ≤ F) (hn : n ≤ 60) (hA : nA ≤ 6) (hC : nC ≤ 8) (hRM : RM F R rs rule) (hM : MV w f) (S0 : S 0 = (w, p1, 0)) (Ss : ∀ j, S (j + 1) = yrN R nA nC (S j)) (okS : ∀ j, OK nA nC (S j).1) (kk : ∀ s5 f5 u1 u2 u3 u4 u5 u6 u7 u8 f2 as hd, RLw ([] ++ [(nI (S n).2.2).toInt64] ++ [((S n).1 44).toInt64]) s5 f5 → Post (sagS nA (S n).1) (s5, 0, u1, u2, u3, u4, u5, u6, u7, u8, f2, as, hd, f5)) : p_X8_lay F 0 47 f 47 th (fun u_31 => p_X8_years_41 F (nI n) (nI nA) (nI nC) qr (nI rs) rule row Post F 0 rd ln tp at0 wr ia 0 p1 u_31 asked hold) := by
  refine s8_lay0 hF hM (fun g hg => ?_)
  refine up_loop (fun q i (s : Value × Int32 × Int32 × Int32 × Int32 × Int32 × Int32 × Int32 × (Nat → Int32) × (Nat → Int32) × (Nat → Int32)) => p_X8_years_41 F (nI n) (nI nA) (nI nC) qr (nI rs) rule row Post q i s.1 s.2.1 s.2.2.1 s.2.2.2.1 s.2.2.2.2.1 s.2.2.2.2.2.1 s.2.2.2.2.2.2.1 s.2.2.2.2.2.2.2.1 s.2.2.2.2.2.2.2.2.1 s.2.2.2.2.2.2.2.2.2.1 s.2.2.2.2.2.2.2.2.2.2) (fun j s => s.2.2.2.2.2.2.1 = nI (S j).2.2 ∧ s.2.2.2.2.2.2.2.1 = (S j).2.1 ∧ MV (S j).1 s.2.2.2.2.2.2.2.2.1) n ?_ ?_ F (rd, ln, tp, at0, wr, ia, 0, p1, g, asked, hold) 0 (by rw [S0]; exact ⟨rfl, rfl, hg⟩) (by omega) (by omega)
  · rintro q ⟨u1, u2, u3, u4, u5, u6, u7, u8, g1, u9, u10⟩ ⟨e1, e2, e3⟩
    have e1 : u7 = _ := e1
    have e3' : MV (S n).1 g1 := e3
    subst e1
    show p_X8_years_41 F (nI n) (nI nA) (nI nC) qr (nI rs) rule row Post (q + 1) (nI n) u1 u2 u3 u4 u5 u6 (nI (S n).2.2) u8 g1 u9 u10
    rw [p_X8_years_41_s]
    refine br_t (nI_le (Nat.le_refl _) (by omega)) (s8_tell (RL_nil _) (by decide) (fun s5 f5 h5 => ⟨pk_in 44 47 (by omega), ?_⟩))
    rw [show g1 (44 : Int32).toNatClampNeg = (S n).1 44 from e3' 44 (by omega)]
    exact s8_tell h5 (by show 1 < 16; omega) (fun s6 f6 h6 => s8_sags hF e3' hA (kk _ _ _ _ _ _ _ _ _ _ _ _ _ h6))
  · rintro q j ⟨u1, u2, u3, u4, u5, u6, u7, u8, g1, u9, u10⟩ hj ⟨e1, e2, e3⟩ ih
    have e1 : u7 = _ := e1
    have e2 : u8 = _ := e2
    have e3' : MV (S j).1 g1 := e3
    subst e1 e2
    show p_X8_years_41 F (nI n) (nI nA) (nI nC) qr (nI rs) rule row Post (q + 1) (nI j) u1 u2 u3 u4 u5 u6 (nI (S j).2.2) (S j).2.1 g1 u9 u10
    rw [p_X8_years_41_s]
    have d4 : drN2 (S j).2.1 % 4 < 4 := Nat.mod_lt _ (by omega)
    have fin : ∀ (v1 : Value) (v2 v3 v4 v5 v6 : Int32) (D : Nat) (l : Int32) (g2 v9 v10 : Nat → Int32), D = (S (j + 1)).2.2 → l = (S (j + 1)).2.1 → MV (S (j + 1)).1 g2 → p_X8_years_158 F v1 v2 v3 v4 v5 v6 (nI D) v9 v10 (nI j) (p_X8_years_41 F (nI n) (nI nA) (nI nC) qr (nI rs) rule row Post q) Post l g2 := by
      intro v1 v2 v3 v4 v5 v6 D l g2 v9 v10 f1 f2 f3
      unfold p_X8_years_158
      exact ih (v1, v2, v3, v4, v5, v6, nI D, l, g2, v9, v10) ⟨by rw [f1], f2, f3⟩
    refine br_f (nI_ge hj (by omega)) (s8_draw (n := 4) (by omega) (by omega) ?_)
    unfold p_X8_years_67
    by_cases q2 : drN2 (S j).2.1 % 4 < 2
    · have eS : S (j + 1) = (goH R nA nC (S j).1, drL (S j).2.1, (S j).2.2 + dct R nC (S j).1 nA) := by rw [Ss]; unfold yrN; rw [if_pos q2]
      refine br_f (nI_ge (b := 2) q2 (by omega)) (s8_goHour hF hRM e3' (okS j) (fun w1 w2 w3 w4 w5 w6 f2 as hd z => br_t (nI_lt (b := 2) q2 (by omega)) ?_))
      rw [nI_add]
      exact fin _ _ _ _ _ _ _ _ _ _ _ (by rw [eS, p3_3]) (by rw [eS, p3_2]) (by rw [eS, p3_1]; exact z)
    · refine br_t (nI_le (a := 2) (by omega) (by omega)) (br_f (nI_nlt (b := 2) (by omega) (by omega)) ?_)
      rcases Nat.eq_zero_or_pos nC with h0 | h0
      · have eS : S (j + 1) = ((S j).1, drL (S j).2.1, (S j).2.2) := by rw [Ss]; unfold yrN; rw [if_neg q2, if_pos h0]
        refine ⟨fun z => absurd (by rw [h0]; rfl) z, fun _ => fin _ _ _ _ _ _ _ _ _ _ _ (by rw [eS, p3_3]) (by rw [eS, p3_2]) (by rw [eS, p3_1]; exact e3')⟩
      · have hc : drN2 (drL (S j).2.1) % nC < nC := Nat.mod_lt _ h0
        refine ⟨fun _ => s8_draw h0 (by omega) ⟨fun z => ?_, fun z => ?_⟩, fun z => absurd z (nI_ne0 h0 (by omega))⟩
        · have z' : ¬ drN2 (S j).2.1 % 4 = 2 := fun y => z (by rw [y]; rfl)
          have e3 : drN2 (S j).2.1 % 4 = 3 := by omega
          have eS : S (j + 1) = (grW (S j).1 (nI (drN2 (drL (S j).2.1) % nC)) (nI (1 + drN2 (drL (drL (S j).2.1)) % 5)), drL (drL (drL (S j).2.1)), (S j).2.2) := by rw [Ss]; unfold yrN; rw [if_neg q2, if_neg (by omega), if_neg z']
          unfold p_X8_years_106
          refine s8_draw (n := 5) (by omega) (by omega) ⟨fun y => absurd (by rw [e3]; rfl) y, fun _ => ?_⟩
          rw [show (1 : Int32) + nI (drN2 (drL (drL (S j).2.1)) % 5) = nI (1 + drN2 (drL (drL (S j).2.1)) % 5) from nI_add 1 _]
          refine s8_goGrieve e3' (by omega) (fun f2 hf2 => fin _ _ _ _ _ _ _ _ _ _ _ (by rw [eS, p3_3]) (by rw [eS, p3_2]) (by rw [eS, p3_1]; exact hf2))
        · have z' : drN2 (S j).2.1 % 4 = 2 := (nI_eq (b := 2) (by omega) (by omega)).1 z
          unfold p_X8_years_106
          refine s8_draw (n := 3) (by omega) (by omega) ⟨fun _ => ?_, fun y => absurd y (by rw [z']; decide)⟩
          rw [show (1 : Int32) + nI (drN2 (drL (drL (S j).2.1)) % 3) = nI (1 + drN2 (drL (drL (S j).2.1)) % 3) from nI_add 1 _]
          refine s8_refusesFeed e3' hC ⟨fun y => ?_, fun y => s8_goFeed e3' (by omega) (fun f2 hf2 => ?_)⟩
          · have eS : S (j + 1) = ((S j).1, drL (drL (drL (S j).2.1)), (S j).2.2) := by rw [Ss]; unfold yrN; rw [if_neg q2, if_neg (by omega), if_pos z', if_neg y]
            exact fin _ _ _ _ _ _ _ _ _ _ _ (by rw [eS, p3_3]) (by rw [eS, p3_2]) (by rw [eS, p3_1]; exact e3')
          · have eS : S (j + 1) = (fdW (S j).1 (nI (drN2 (drL (S j).2.1) % nC)) (nI (1 + drN2 (drL (drL (S j).2.1)) % 3)), drL (drL (drL (S j).2.1)), (S j).2.2) := by rw [Ss]; unfold yrN; rw [if_neg q2, if_neg (by omega), if_pos z', if_pos y]
            exact fin _ _ _ _ _ _ _ _ _ _ _ (by rw [eS, p3_3]) (by rw [eS, p3_2]) (by rw [eS, p3_1]; exact hf2)
theorem t7_years {F nA nC n : Nat} {R : (Nat → Int32) → Int32} {w : Nat → Int32} {arches cats store hour drops sz top p1 : Int32} {steps stack l2 s2 j2 b2 g2 q2 : Nat → Int32} {tn : Nat → Int64} {S : Nat → (Nat → Int32) × Int32 × Nat} {Post : Int32 → (Int32 × Int32 × Int32 × Int32 × Int32 × (Nat → Int32) × (Nat → Int32) × (Nat → Int32) × (Nat → Int32) × (Nat → Int32) × (Nat → Int32) × Int32 × Int32 × (Nat → Int32) × Int32 × (Nat → Int64)) → Prop} (hF : 5000 ≤ F) (hn : n ≤ 60) (hA : nA ≤ 6) (hR : RX F R sz steps) (hVb : AV nA nC w arches cats store hour drops l2 s2 j2 b2 g2 q2) (S0 : S 0 = (w, p1, 0)) (Ss : ∀ j, S (j + 1) = yrN R nA nC (S j)) (okS : ∀ j, OK nA nC (S j).1) (k : ∀ v1 v2 v3 v4 v5 v6 v7 v8 v9 v10 v11 v12 v13 s6 f6, RLw ([] ++ [(nI (S n).2.2).toInt64] ++ [((S n).1 44).toInt64]) s6 f6 → Post (sagS nA (S n).1) (v1, v2, (S n).1 44, v3, v4, v5, v6, v7, v8, v9, v10, v11, v12, v13, s6, f6)) : p_X7_years_37 F (nI n) sz steps tn (arches, cats, store, hour, drops, l2, s2, j2, b2, g2, q2) Post F 0 0 store hour drops s2 j2 b2 g2 p1 top stack := by
  refine up_loop (fun q i (s : Int32 × Int32 × Int32 × Int32 × (Nat → Int32) × (Nat → Int32) × (Nat → Int32) × (Nat → Int32) × Int32 × Int32 × (Nat → Int32)) => p_X7_years_37 F (nI n) sz steps tn (arches, cats, store, hour, drops, l2, s2, j2, b2, g2, q2) Post q i s.1 s.2.1 s.2.2.1 s.2.2.2.1 s.2.2.2.2.1 s.2.2.2.2.2.1 s.2.2.2.2.2.2.1 s.2.2.2.2.2.2.2.1 s.2.2.2.2.2.2.2.2.1 s.2.2.2.2.2.2.2.2.2.1 s.2.2.2.2.2.2.2.2.2.2) (fun j s => s.1 = nI (S j).2.2 ∧ s.2.2.2.2.2.2.2.2.1 = (S j).2.1 ∧ AV nA nC (S j).1 arches cats s.2.1 s.2.2.1 s.2.2.2.1 l2 s.2.2.2.2.1 s.2.2.2.2.2.1 s.2.2.2.2.2.2.1 s.2.2.2.2.2.2.2.1 q2) n ?_ ?_ F (0, store, hour, drops, s2, j2, b2, g2, p1, top, stack) 0 (by rw [S0]; exact ⟨rfl, rfl, hVb⟩) (by omega) (by omega)
  · rintro q ⟨y, v1, v2, v3, v4, v5, v6, v7, v8, v9, v10⟩ ⟨e1, e2, e3⟩
    have e1 : y = _ := e1
    have e3' : AV nA nC (S n).1 arches cats v1 v2 v3 l2 v4 v5 v6 v7 q2 := e3
    subst e1
    show p_X7_years_37 F (nI n) sz steps tn (arches, cats, store, hour, drops, l2, s2, j2, b2, g2, q2) Post (q + 1) (nI n) (nI (S n).2.2) v1 v2 v3 v4 v5 v6 v7 v8 v9 v10
    rw [p_X7_years_37_s]
    refine br_t (nI_le (Nat.le_refl _) (by omega)) (s3_anew (s3_add (RL_nil _) (by decide) (fun s5 f5 h5 => s3_add h5 (by show 1 < 8; omega) (fun s6 f6 h6 => s6_allSags hF e3' hA ?_))))
    rw [e3'.2.2.1] at h6 ⊢
    exact k _ _ _ _ _ _ _ _ _ _ _ _ _ _ _ h6
  · rintro q j ⟨y, v1, v2, v3, v4, v5, v6, v7, v8, v9, v10⟩ hj ⟨e1, e2, e3⟩ ih
    have e1 : y = _ := e1
    have e2 : v8 = _ := e2
    have e3' : AV nA nC (S j).1 arches cats v1 v2 v3 l2 v4 v5 v6 v7 q2 := e3
    subst e1 e2
    show p_X7_years_37 F (nI n) sz steps tn (arches, cats, store, hour, drops, l2, s2, j2, b2, g2, q2) Post (q + 1) (nI j) (nI (S j).2.2) v1 v2 v3 v4 v5 v6 v7 (S j).2.1 v9 v10
    rw [p_X7_years_37_s]
    refine br_f (nI_ge hj (by omega)) (s7_drawnAct (s := S j) hF hR e3' (okS j) (fun d s2 h2 d2 t2 st2 sg2 j2 g2 b2 z1 z2 z3 => ?_))
    rw [← Ss j] at z1 z2 z3 ⊢
    exact ih (nI (S j).2.2 + nI d, _, _, _, _, _, _, _, _, _, _) ⟨by rw [← z1, ← nI_add], rfl, z3⟩
section
variable {F : Nat} {x : XS} {m : MS} {am : MA}
theorem ob_years (hF : 5000 ≤ F) (p1 p2 : Int32) (h : Rel F x m) : p7_years F p1 p2 x (fun r x' => p8_years F p1 p2 am m (fun r' m' => r = r' ∧ Rel F x' m')) := by
  obtain ⟨nA, nC, R, w, ok, hV, hM, eA, eC, hT, hW, hU, hN, hE, hH, hK⟩ := h
  have hA := ok.1
  have hC := ok.2.1
  obtain ⟨hRX, rs, ers, hRM⟩ := id hU
  unfold p7_years p_X7_years p8_years p_X8_years
  rw [eA, eC, ers]
  rcases is130_cases p2 60 (by omega) with h | ⟨n, hn1, hn, rfl⟩
  · refine ⟨fun _ => ?_, fun z => br_f (nle_of_lt (h.resolve_left z)) ?_⟩ <;> exact s8_nin h ⟨fun z => absurd rfl z, fun _ => ⟨rfl, nA, nC, R, w, ok, hV, hM, rfl, rfl, hT, hW, ⟨hRX, rs, rfl, hRM⟩, hN, hE, hH, hK⟩⟩
  generalize hS : yrS R nA nC (w, p1, 0) = S
  have S0 : S 0 = (w, p1, 0) := by rw [← hS, yrS]
  have Ss : ∀ j, S (j + 1) = yrN R nA nC (S j) := fun j => by rw [← hS, yrS]
  have okS : ∀ j, OK nA nC (S j).1 := fun j => by rw [← hS]; exact yrS_OK (s := (w, p1, 0)) ok j
  refine br_f (nI_nlt (b := 1) hn1 (by omega)) (br_t (nI_le (b := 60) hn (by omega)) (s6_become hV (fun l2 s2 j2 b2 g2 q2 hVb => ?_)))
  refine t7_years hF hn hA hRX hVb S0 Ss okS (fun v1 v2 v3 v4 v5 v6 v7 v8 v9 v10 v11 v12 v13 s6 f6 h6 => ?_)
  refine s8_in (lo := 1) (hi := 60) hn1 hn (by omega) ⟨fun _ => t8_years hF hn hA hC hRM hM S0 Ss okS (fun s7 f7 u1 u2 u3 u4 u5 u6 u7 u8 f2 as hd h7 => ?_), fun z => absurd z (by decide)⟩
  exact ⟨rfl, nA, nC, R, w, ok, hV, hM, rfl, rfl, hT, RWr_of (by show 2 ≤ 8; omega) h6 h7, ⟨hRX, rs, rfl, hRM⟩, hN, hE, hH, hK⟩
end
