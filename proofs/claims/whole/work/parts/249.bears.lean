/-! ===== call: bears ===== -/
def trBad (t : Nat) (b : Nat → Nat) (p : Nat) : Prop := (t = 0 ∧ p = 0) ∨ (p < t ∧ p ≤ 20 ∧ (∀ i, i < p → isD (b i)) ∧ (p = 20 ∨ ¬ isD (b p)))
def trOk (t : Nat) (b : Nat → Nat) : Prop := 0 < t ∧ t ≤ 20 ∧ ∀ i, i < t → isD (b i)
def brW (R : (Nat → Int32) → Int32) (nA nC : Nat) (w : Nat → Int32) (a : Nat) (b : Nat → Nat) : Nat → Nat → Int32
  | 0 => w
  | j + 1 => goH R nA nC (upd (brW R nA nC w a b j) a (nI (b j - 48)))
def brB (R : (Nat → Int32) → Int32) (nA nC : Nat) (w : Nat → Int32) (a : Nat) (b : Nat → Nat) : Nat → Bool
  | 0 => true
  | j + 1 => brB R nA nC w a b j && ! decide (hO R nC (upd (brW R nA nC w a b j) a (nI (b j - 48))) a < nI (b j - 48))
def brC (R : (Nat → Int32) → Int32) (nA nC : Nat) (w : Nat → Int32) (a : Nat) (b : Nat → Nat) : Nat → Nat
  | 0 => 0
  | j + 1 => brC R nA nC w a b j + (if brB R nA nC w a b (j + 1) then 1 else 0)
theorem br_OKd {nA nC a c : Nat} {w : Nat → Int32} (ok : OK nA nC w) (ha : a < nA) (hc : isD c) : OK nA nC (upd w a (nI (c - 48))) := by
  have := ok.1
  have h2 := hc.2
  exact OK_dg ok ⟨c - 48, by omega, rfl⟩ (by omega) (by intro i _ _; omega) (by intro i _ _; omega)
theorem brW_OK {R : (Nat → Int32) → Int32} {nA nC a t : Nat} {w : Nat → Int32} {b : Nat → Nat} (ok : OK nA nC w) (ha : a < nA) (hb : ∀ i, i < t → isD (b i)) : ∀ j, j ≤ t → OK nA nC (brW R nA nC w a b j)
  | 0, _ => ok
  | j + 1, hj => goH_OK (br_OKd (brW_OK ok ha hb j (by omega)) ha (hb j (by omega)))
section
variable {F t : Nat} {b : Nat → Nat} {len : Int32} {s f : Nat → Int32}
theorem s5_trains {Post : Int32 → Prop} (hF : 5000 ≤ F) (hT : TXc t b len s) (k1 : ∀ p, trBad t b p → Post (nI p)) (k2 : trOk t b → Post (-1)) : p_X5_faultInTrains F len s Post := by
  have ht := hT.1
  have el := hT.2.1
  refine up_loop (fun n i (_ : Unit) => p_X5_faultInTrains_2 F len s Post n i) (fun j _ => j ≤ 20 ∧ ∀ i, i < j → isD (b i)) t ?_ ?_ F () 0 ⟨by omega, fun i hi => absurd hi (by omega)⟩ (by omega) (by omega)
  · rintro n _ ⟨h1, h2⟩
    show p_X5_faultInTrains_2 F len s Post (n + 1) (nI t)
    rw [p_X5_faultInTrains_2_s, el]
    refine br_t (nI_le (Nat.le_refl _) (by omega)) ⟨fun z => k2 ⟨?_, h1, h2⟩, fun z => k1 0 (Or.inl ⟨?_, rfl⟩)⟩
    · rcases Nat.eq_zero_or_pos t with q | q
      · exact absurd (by rw [q]; rfl) z
      · exact q
    · exact (nI_eq (b := 0) (by omega) (by omega)).1 z
  · rintro n j _ hj ⟨h1, h2⟩ ih
    show p_X5_faultInTrains_2 F len s Post (n + 1) (nI j)
    rw [p_X5_faultInTrains_2_s]
    refine br_f (by rw [el]; exact nI_ge hj (by omega)) ⟨fun z => k1 j (Or.inr ⟨hj, h1, h2, Or.inl ?_⟩), fun z => s5_digit hT hj (fun d => ⟨fun _ => ih () ⟨?_, fun i hi => ?_⟩, fun y => absurd y (m1_ne (by have := d.2; omega))⟩) (fun d => ⟨fun y => absurd rfl y, fun _ => k1 j (Or.inr ⟨hj, h1, h2, Or.inr d⟩)⟩)⟩
    · exact (nI_eq (b := 20) (by omega) (by omega)).1 z
    · have : j ≠ 20 := by rintro rfl; exact z rfl
      omega
    · rcases Nat.lt_or_ge i j with y | y
      · exact h2 i y
      · rw [show i = j from by omega]; exact d
end
section
variable {F : Nat} {x : XS} {m : MS} {am : MA}
theorem s7_borne {nA nC a t : Nat} {R : (Nat → Int32) → Int32} {w : Nat → Int32} {b : Nat → Nat} {arches cats store hour drops sz top len : Int32} {load sag joy bowl grief place steps stack s load' sag' joy' bowl' grief' place' : Nat → Int32} {tn : Nat → Int64} {Post : Int32 → (Int32 × Int32 × Int32 × Int32 × Int32 × (Nat → Int32) × (Nat → Int32) × (Nat → Int32) × (Nat → Int32) × (Nat → Int32) × (Nat → Int32) × Int32 × (Nat → Int32) × Int32 × (Nat → Int64)) → Prop} (hF : 5000 ≤ F) (hT : TXc t b len s) (hd : trOk t b) (hR : RX F R sz steps) (hV : AV nA nC w arches cats store hour drops load sag joy bowl grief place) (ok : OK nA nC w) (ha : a < nA) (k : ∀ v1 v2 v3 v4 v5 v6 v7 v8 v9 v10 v11 v12 v13 s6 f6, RLw ([] ++ [(brW R nA nC w a b t (6 + a)).toInt64]) s6 f6 → Post (nI (brC R nA nC w a b t)) (v1, v2, v3, v4, v5, v6, v7, v8, v9, v10, v11, v12, v13, s6, f6)) : p_X7_trainsBorne F (nI a) arches cats store hour drops load load' sag sag' joy joy' bowl bowl' grief grief' place place' len s sz top steps stack tn Post := by
  have hA := ok.1
  have hC := ok.2.1
  have el := hT.2.1
  unfold p_X7_trainsBorne
  refine s6_become hV (fun l2 s2 j2 b2 g2 q2 hVb => ?_)
  have okW := fun j hj => brW_OK (R := R) ok ha hd.2.2 j hj
  have ht := hd.2.1
  refine up_loop (fun q i (v : Int32 × Int32 × Int32 × Int32 × (Nat → Int32) × (Nat → Int32) × (Nat → Int32) × (Nat → Int32) × (Nat → Int32) × Int32 × (Nat → Int32)) => p_X7_trainsBorne_18 F (nI a) len s sz steps tn (arches, cats, store, hour, drops, l2, s2, j2, b2, g2, q2) Post q i v.1 v.2.1 v.2.2.1 v.2.2.2.1 v.2.2.2.2.1 v.2.2.2.2.2.1 v.2.2.2.2.2.2.1 v.2.2.2.2.2.2.2.1 v.2.2.2.2.2.2.2.2.1 v.2.2.2.2.2.2.2.2.2.1 v.2.2.2.2.2.2.2.2.2.2) (fun j v => v.1 = (if brB R nA nC w a b j then 1 else 0) ∧ v.2.1 = nI (brC R nA nC w a b j) ∧ AV nA nC (brW R nA nC w a b j) arches cats store v.2.2.1 v.2.2.2.1 v.2.2.2.2.1 v.2.2.2.2.2.1 v.2.2.2.2.2.2.1 v.2.2.2.2.2.2.2.1 v.2.2.2.2.2.2.2.2.1 q2) t ?_ ?_ F (1, 0, hour, drops, l2, s2, j2, b2, g2, top, stack) 0 ⟨rfl, rfl, hVb⟩ (by omega) (by omega)
  · rintro q ⟨y3, y2, v1, v2, v3, v4, v5, v6, v7, v8, v9⟩ ⟨e1, e2, e3⟩
    have e2 : y2 = _ := e2
    have e3' : AV nA nC (brW R nA nC w a b t) arches cats store v1 v2 v3 v4 v5 v6 v7 q2 := e3
    subst e2
    show p_X7_trainsBorne_18 F (nI a) len s sz steps tn (arches, cats, store, hour, drops, l2, s2, j2, b2, g2, q2) Post (q + 1) (nI t) y3 _ v1 v2 v3 v4 v5 v6 v7 v8 v9
    rw [p_X7_trainsBorne_18_s, nI_clamp (n := a) (by omega), e3'.2.2.2.2.2.2.1 a (by omega)]
    exact br_t (by rw [el]; exact nI_le (Nat.le_refl _) (by omega)) (s3_anew ⟨pk_in a 6 (by omega), s3_add (RL_nil _) (by decide) (fun s6 f6 h6 => k _ _ _ _ _ _ _ _ _ _ _ _ _ _ _ h6)⟩)
  · rintro q j ⟨y3, y2, v1, v2, v3, v4, v5, v6, v7, v8, v9⟩ hj ⟨e1, e2, e3⟩ ih
    have e1 : y3 = _ := e1
    have e2 : y2 = _ := e2
    have e3' : AV nA nC (brW R nA nC w a b j) arches cats store v1 v2 v3 v4 v5 v6 v7 q2 := e3
    subst e1 e2
    show p_X7_trainsBorne_18 F (nI a) len s sz steps tn (arches, cats, store, hour, drops, l2, s2, j2, b2, g2, q2) Post (q + 1) (nI j) (if brB R nA nC w a b j then 1 else 0) (nI (brC R nA nC w a b j)) v1 v2 v3 v4 v5 v6 v7 v8 v9
    rw [p_X7_trainsBorne_18_s, nI_clamp (n := a) (by omega)]
    have i6 : vp_in (nI a) 6 := pk_in a 6 (by omega)
    have dj := hd.2.2 j hj
    have ok2 := br_OKd (okW j (by omega)) ha dj
    refine br_f (by rw [el]; exact nI_ge hj (by omega)) (s5_digit hT hj (fun _ => ⟨i6, ?_⟩) (fun y => absurd dj y))
    have av := AV_ld (c := a) (v := nI (b j - 48)) (by omega) e3'
    have go : ∀ (bb : Bool) (t1 : Int32) (t2 : Nat → Int32), brB R nA nC w a b (j + 1) = bb → p_X7_trainsBorne_81 F (nI a) sz steps (arches, cats, store, hour, drops, l2, s2, j2, b2, g2, q2) (nI (b j - 48)) (nI j) (nI (brC R nA nC w a b j)) v1 v2 v3 v4 v5 v6 v7 (p_X7_trainsBorne_18 F (nI a) len s sz steps tn (arches, cats, store, hour, drops, l2, s2, j2, b2, g2, q2) Post q) Post (if bb then 1 else 0) t1 t2 := by
      intro bb t1 t2 ebb
      unfold p_X7_trainsBorne_81 p_X7_trainsBorne_92
      rw [nI_clamp (n := a) (by omega)]
      refine ⟨fun z => s6_passHour hF hR av ok2 (fun h d t st s3 j3 g3 b3 z3 => ?_), fun z => s6_passHour hF hR av ok2 (fun h d t st s3 j3 g3 b3 z3 => ?_)⟩
      · have hb : bb = false := by cases bb <;> first | rfl | exact absurd z (by decide)
        refine ih (_, nI (brC R nA nC w a b j) + 0, _, _, _, _, _, _, _, _, _) ⟨by show (if bb then (1 : Int32) else 0) = _; rw [ebb], ?_, z3⟩
        show _ = nI (brC R nA nC w a b j + (if brB R nA nC w a b (j + 1) then 1 else 0))
        rw [ebb, hb]; exact Int32.add_zero _
      · have hb : bb = true := by cases bb <;> first | rfl | exact absurd rfl z
        refine ih (_, nI (brC R nA nC w a b j) + 1, _, _, _, _, _, _, _, _, _) ⟨by show (if bb then (1 : Int32) else 0) = _; rw [ebb], ?_, z3⟩
        show _ = nI (brC R nA nC w a b j + (if brB R nA nC w a b (j + 1) then 1 else 0))
        rw [ebb, hb]; exact nI_1 _
    rw [pk_us]
    by_cases qb : brB R nA nC w a b j = true
    · rw [qb]
      refine br_f (by decide) (s6_holdOf hF hR av hA hC ha (fun u => ⟨i6, fun z => ?_, fun z => ?_⟩))
      · unfold p_X7_trainsBorne_80
        exact go false _ _ (by rw [brB, qb]; simp [z])
      · exact go true _ _ (by rw [brB, qb]; simp [z])
    · have qb : brB R nA nC w a b j = false := by simpa using qb
      rw [qb]
      refine br_t rfl ?_
      unfold p_X7_trainsBorne_80
      exact go false _ _ (by rw [brB, qb]; rfl)
theorem s8_borne {nA nC a t rs qr : Nat} {R : (Nat → Int32) → Int32} {w f th rule asked hold tr : Nat → Int32} {b : Nat → Nat} {row : Nat → Int64} {rd : Value} {ln tp at0 wr ia dr : Int32} {u8 : Int32 × Int32 × Int32 × Int32 × Int32} {Post : Int32 → (Int32 × Int32 × Int32 × Value × Int32 × Int32 × Int32 × Int32 × Int32 × Int32 × (Nat → Int32) × (Nat → Int32) × (Nat → Int32) × (Nat → Int32) × (Nat → Int64)) → Prop} (hF : 5000 ≤ F) (hd : trOk t b) (htr : ∀ i, i < t → tr i = nI (b i - 48)) (hRM : RM F R rs rule) (hM : MV w f) (ok : OK nA nC w) (ha : a < nA) (k : ∀ s6 f6 v1 v2 v3 v4 v5 v6 v7 v8 v9 v10, RLw ([] ++ [(brW R nA nC w a b t (6 + a)).toInt64]) s6 f6 → Post (nI (brC R nA nC w a b t)) (u8.1, s6, 0, v1, v2, v3, v4, v5, v6, v7, tr, v8, v9, v10, f6)) : p_X8_lay F 0 47 f 47 th (fun u_91 => p_X8_bears_97 F (nI a) (nI nA) (nI nC) qr (nI rs) rule row u8 (nI t) tr Post F 0 1 0 rd ln tp at0 wr ia dr u_91 asked hold) := by
  have hA := ok.1
  have okW := fun j hj => brW_OK (R := R) ok ha hd.2.2 j hj
  have ht := hd.2.1
  refine s8_lay0 hF hM (fun g hg => ?_)
  refine up_loop (fun q i (v : Int32 × Int32 × Value × Int32 × Int32 × Int32 × Int32 × Int32 × Int32 × (Nat → Int32) × (Nat → Int32) × (Nat → Int32)) => p_X8_bears_97 F (nI a) (nI nA) (nI nC) qr (nI rs) rule row u8 (nI t) tr Post q i v.1 v.2.1 v.2.2.1 v.2.2.2.1 v.2.2.2.2.1 v.2.2.2.2.2.1 v.2.2.2.2.2.2.1 v.2.2.2.2.2.2.2.1 v.2.2.2.2.2.2.2.2.1 v.2.2.2.2.2.2.2.2.2.1 v.2.2.2.2.2.2.2.2.2.2.1 v.2.2.2.2.2.2.2.2.2.2.2) (fun j v => v.1 = (if brB R nA nC w a b j then 1 else 0) ∧ v.2.1 = nI (brC R nA nC w a b j) ∧ MV (brW R nA nC w a b j) v.2.2.2.2.2.2.2.2.2.1) t ?_ ?_ F (1, 0, rd, ln, tp, at0, wr, ia, dr, g, asked, hold) 0 ⟨rfl, rfl, hg⟩ (by omega) (by omega)
  · rintro q ⟨y4, y3, v1, v2, v3, v4, v5, v6, v7, g1, v8, v9⟩ ⟨e1, e2, e3⟩
    have e2 : y3 = _ := e2
    have e3' : MV (brW R nA nC w a b t) g1 := e3
    subst e2
    show p_X8_bears_97 F (nI a) (nI nA) (nI nC) qr (nI rs) rule row u8 (nI t) tr Post (q + 1) (nI t) y4 _ v1 v2 v3 v4 v5 v6 v7 g1 v8 v9
    rw [p_X8_bears_97_s, cc6 (by omega), e3' (6 + a) (by omega)]
    exact br_t (nI_le (Nat.le_refl _) (by omega)) ⟨ci6 (by omega), s8_tell (RL_nil _) (by decide) (fun s6 f6 h6 => k _ _ _ _ _ _ _ _ _ _ _ _ h6)⟩
  · rintro q j ⟨y4, y3, v1, v2, v3, v4, v5, v6, v7, g1, v8, v9⟩ hj ⟨e1, e2, e3⟩ ih
    have e1 : y4 = _ := e1
    have e2 : y3 = _ := e2
    have e3' : MV (brW R nA nC w a b j) g1 := e3
    subst e1 e2
    show p_X8_bears_97 F (nI a) (nI nA) (nI nC) qr (nI rs) rule row u8 (nI t) tr Post (q + 1) (nI j) (if brB R nA nC w a b j then 1 else 0) (nI (brC R nA nC w a b j)) v1 v2 v3 v4 v5 v6 v7 g1 v8 v9
    rw [p_X8_bears_97_s, nI_clamp (n := a) (by omega), nI_clamp (n := j) (by omega), htr j hj]
    have i47 : vp_in (nI a) 47 := pk_in a 47 (by omega)
    have dj := hd.2.2 j hj
    have ok2 := br_OKd (okW j (by omega)) ha dj
    have mv : MV (upd (brW R nA nC w a b j) a (nI (b j - 48))) (upd g1 a (nI (b j - 48))) := MV_upd e3'
    refine br_f (nI_ge hj (by omega)) ⟨pk_in j 21 (by omega), i47, ?_⟩
    have go : ∀ (bb : Bool) (w1 : Value) (w2 w3 w4 w5 w6 : Int32) (w7 : Nat → Int32), brB R nA nC w a b (j + 1) = bb → p_X8_bears_144 F (nI a) (nI nA) (nI nC) qr (nI rs) rule tr (nI j) (nI (brC R nA nC w a b j)) v7 g1 v9 (p_X8_bears_97 F (nI a) (nI nA) (nI nC) qr (nI rs) rule row u8 (nI t) tr Post q) Post (if bb then 1 else 0) w1 w2 w3 w4 w5 w6 w7 := by
      intro bb w1 w2 w3 w4 w5 w6 w7 ebb
      unfold p_X8_bears_144 p_X8_bears_157
      rw [nI_clamp (n := a) (by omega), nI_clamp (n := j) (by omega), htr j hj]
      refine ⟨fun z => s8_goHour hF hRM mv ok2 (fun x1 x2 x3 x4 x5 x6 f2 as hd z3 => ?_), fun z => s8_goHour hF hRM mv ok2 (fun x1 x2 x3 x4 x5 x6 f2 as hd z3 => ?_)⟩
      · have hb : bb = false := by cases bb <;> first | rfl | exact absurd z (by decide)
        refine ih (_, nI (brC R nA nC w a b j) + 0, _, _, _, _, _, _, _, _, _, _) ⟨by show (if bb then (1 : Int32) else 0) = _; rw [ebb], ?_, z3⟩
        show _ = nI (brC R nA nC w a b j + (if brB R nA nC w a b (j + 1) then 1 else 0))
        rw [ebb, hb]; exact Int32.add_zero _
      · have hb : bb = true := by cases bb <;> first | rfl | exact absurd rfl z
        refine ih (_, nI (brC R nA nC w a b j) + 1, _, _, _, _, _, _, _, _, _, _) ⟨by show (if bb then (1 : Int32) else 0) = _; rw [ebb], ?_, z3⟩
        show _ = nI (brC R nA nC w a b j + (if brB R nA nC w a b (j + 1) then 1 else 0))
        rw [ebb, hb]; exact nI_1 _
    rw [pk_us]
    by_cases qb : brB R nA nC w a b j = true
    · rw [qb]
      refine br_f (by decide) (s8_holdOf hF hRM mv ok2 (by omega) (fun u => ⟨i47, fun z => ?_, fun z => ?_⟩))
      · unfold p_X8_bears_143
        exact go false _ _ _ _ _ _ _ (by rw [brB, qb]; simp [z])
      · exact go true _ _ _ _ _ _ _ (by rw [brB, qb]; simp [z])
    · have qb : brB R nA nC w a b j = false := by simpa using qb
      rw [qb]
      refine br_t rfl ?_
      unfold p_X8_bears_143
      exact go false _ _ _ _ _ _ _ (by rw [brB, qb]; rfl)
/-- the model reads the trains -/
theorem s8_trains {t : Nat} {b : Nat → Nat} {p1 ar ca rm rz ia dr : Int32} {qt qr : Nat} {tx trn now th as rule hold : Nat → Int32} {row : Nat → Int64} {Post : Int32 → (Int32 × Int32 × Int32 × Value × Int32 × Int32 × Int32 × Int32 × Int32 × Int32 × (Nat → Int32) × (Nat → Int32) × (Nat → Int32) × (Nat → Int32) × (Nat → Int64)) → Prop} (hF : 5000 ≤ F) (hT : TXm t b tx) (k1 : ∀ p, trBad t b p → ∀ v1 v2 v3 v4 tr, Post (-1 - nI p) (0, rm, 0, v1, v2, v3, v4, nI p, ia, dr, tr, th, as, hold, row)) (k2 : trOk t b → ∀ v4 u tr, (∀ i, i < t → tr i = nI (b i - 48)) → p_X8_isArch F p1 ar (fun r_68 => ((¬ r_68 = 0 → (p_X8_lay F 0 47 now 47 th (fun u_91 => (p_X8_bears_97 F p1 ar ca qr rz rule row ((0 : Int32), nI t, (20 : Int32), (0 : Int32), (-1 : Int32)) (nI t) tr Post F 0 1 0 (.ref qt) (nI t) 20 v4 u ia dr u_91 as hold)))) ∧ (r_68 = 0 → (Post (-100) (0, rm, 0, .ref qt, nI t, 20, v4, u, ia, dr, tr, th, as, hold, row)))))) : p_X8_bears F p1 ar ca qt (nI t) rm qr rz ia dr tx trn now th as rule hold row Post := by
  have ht := hT.1
  unfold p_X8_bears p_X8_beginText p_X8_begin
  have e20 : (20 : Int32) = nI 20 := rfl
  have main : ∀ d j fuel (tr : Nat → Int32), j + d = 21 → d < fuel → j ≤ 20 → j ≤ t → (∀ i, i < j → isD (b i) ∧ tr i = nI (b i - 48)) → p_X8_bears_13 F p1 ar ca qt rm qr rz ia dr tx now th as rule hold row ((0 : Int32), nI t, (20 : Int32), (0 : Int32), (-1 : Int32)) Post fuel (nI j) (nI j) (-1) tr := by
    intro d
    induction d with
    | zero => intro j fuel tr h1 h2 h3; omega
    | succ d ih =>
      intro j fuel tr h1 h2 h3 h4 h5
      obtain ⟨fu, rfl⟩ : ∃ fu, fuel = fu + 1 := ⟨fuel - 1, by omega⟩
      rw [p_X8_bears_13_s]
      refine s8_fine (br_f (by decide) ?_)
      -- reading one
      have rd : (j < t ∧ j < 20 ∨ j = 0) → p_X8_bears_32 F tx ((0 : Int32), nI t, (20 : Int32), (0 : Int32), (-1 : Int32)) (nI j) (nI j) (-1) tr (p_X8_bears_13 F p1 ar ca qt rm qr rz ia dr tx now th as rule hold row ((0 : Int32), nI t, (20 : Int32), (0 : Int32), (-1 : Int32)) Post fu) Post := by
        intro hj
        unfold p_X8_bears_32
        show p_X8_oneOf F (nI 48) (nI 10) (nI t) (nI 20) (nI j) (-1) 80 tx _
        have i21 : vp_in (nI j) 21 := pk_in j 21 (by omega)
        by_cases q : j < t ∧ j < 20 ∧ 48 ≤ b j ∧ b j < 48 + 10
        · refine s8_oneOf hT q.1 q.2.1 (by omega) (by omega) (by omega) q.2.2.1 q.2.2.2 (by omega) ⟨i21, ?_⟩
          rw [nI_1, nI_clamp (n := j) (by omega)]
          refine ih (j + 1) fu _ (by omega) (by omega) (by omega) (by omega) (fun i hi => ?_)
          rw [upd_i]
          by_cases e : i = j
          · subst e; rw [if_pos rfl]; exact ⟨⟨q.2.2.1, by omega⟩, rfl⟩
          · rw [if_neg e]; exact h5 i (by omega)
        · refine s8_oneOfB hT q (by omega) (by omega) (by omega) (by omega) (by omega) (by omega) ⟨i21, ?_⟩
          have bad : trBad t b j := by
            rcases hj with hj | hj
            · exact Or.inr ⟨hj.1, by omega, fun i hi => (h5 i hi).1, Or.inr (fun y => q ⟨hj.1, hj.2, y.1, by have := y.2; omega⟩)⟩
            · subst hj
              rcases Nat.eq_zero_or_pos t with z | z
              · exact Or.inl ⟨z, rfl⟩
              · exact Or.inr ⟨z, by omega, fun i hi => absurd hi (by omega), Or.inr (fun y => q ⟨z, by omega, y.1, by have := y.2; omega⟩)⟩
          obtain ⟨fu2, rfl⟩ : ∃ fu2, fu = fu2 + 1 := ⟨fu - 1, by omega⟩
          rw [p_X8_bears_13_s]
          refine s8_fineN (m1_ne (by omega)) (br_t rfl ?_)
          unfold p_X8_bears_52
          exact s8_rightW (m1_ne (by omega)) ⟨fun z => absurd rfl z, fun _ => k1 j bad _ _ _ _ _⟩
      refine ⟨fun z => rd (Or.inr ((nI_eq (b := 0) (by omega) (by omega)).1 z)), fun z => ?_⟩
      show p_X8_here F (nI t) (nI 20) (nI j) 80 tx _
      have hj0 : j ≠ 0 := by rintro rfl; exact z rfl
      by_cases q : j < t ∧ j < 20
      · exact s8_here hT q.1 q.2 (by omega) (by omega) (by omega) ⟨fun y => absurd y (m1_ne (by have := (hT.2 j q.1).1; omega)), fun _ => rd (Or.inl q)⟩
      · refine s8_hereN (by omega) q (by omega) (by omega) (br_t rfl ?_)
        unfold p_X8_bears_52
        show p_X8_wasRight F (nI t) (nI j) (-1) _
        rcases Nat.lt_or_ge j t with y | y
        · exact s8_rightB (by omega) y ⟨fun z => absurd rfl z, fun _ => k1 j (Or.inr ⟨y, by omega, fun i hi => (h5 i hi).1, Or.inl (by omega)⟩) _ _ _ _ _⟩
        · have ejt : j = t := by omega
          subst ejt
          exact s8_right (by omega) (Nat.le_refl _) (by omega) ⟨fun _ => k2 ⟨by omega, h3, fun i hi => (h5 i hi).1⟩ _ _ _ (fun i hi => (h5 i hi).2), fun z => absurd z (by decide)⟩
  exact main 21 0 F trn rfl (by omega) (by omega) (by omega) (fun i hi => absurd hi (by omega))
theorem trBad_ok {t p : Nat} {b : Nat → Nat} (h : trBad t b p) (h2 : trOk t b) : False := by
  obtain ⟨a1, a2, a3⟩ := h2
  rcases h with ⟨z, _⟩ | ⟨z1, z2, z3, z4 | z4⟩
  · omega
  · omega
  · exact z4 (a3 p z1)
theorem trBad_u {t p q : Nat} {b : Nat → Nat} (h : trBad t b p) (h2 : trBad t b q) : p = q := by
  rcases h with ⟨z, e⟩ | ⟨z1, z2, z3, z4⟩
  · rcases h2 with ⟨_, e2⟩ | ⟨y1, _⟩ <;> omega
  · rcases h2 with ⟨y, _⟩ | ⟨y1, y2, y3, y4⟩
    · omega
    · rcases Nat.lt_trichotomy p q with l | l | l
      · rcases z4 with z4 | z4
        · omega
        · exact absurd (y3 p l) z4
      · exact l
      · rcases y4 with y4 | y4
        · omega
        · exact absurd (z3 q l) y4
theorem ob_bears (hF : 5000 ≤ F) (p1 : Int32) (h : Rel F x m) : p7_bears F p1 x (fun r x' => p8_bears F p1 am m (fun r' m' => r = r' ∧ Rel F x' m')) := by
  obtain ⟨nA, nC, R, w, ok, hV, hM, eA, eC, hT, hW, hU, hN, hE, hH, hK⟩ := h
  have hA := ok.1
  have hC := ok.2.1
  obtain ⟨hRX, rs, ers, hRM⟩ := id hU
  obtain ⟨t, b, hTc, hTm, eT⟩ := TXr_split hT
  unfold p7_bears p_X7_bears p8_bears
  rw [eA, eC, ers, eT]
  unfold p_X7_bears_40
  have ht := hTc.1
  refine s5_trains hF hTc (fun p hp => br_f (m1_ne ?_) ?_) (fun hok => br_t rfl ?_)
  · rcases hp with ⟨_, e⟩ | ⟨_, e, _⟩ <;> omega
  · refine s8_trains hF hTm (fun q hq v1 v2 v3 v4 tr => ?_) (fun hok => absurd hok (trBad_ok hp))
    rw [trBad_u hp hq]
    exact ⟨rfl, nA, nC, R, w, ok, hV, hM, rfl, rfl, TXr_0, hW, ⟨hRX, rs, rfl, hRM⟩, hN, hE, hH, hK⟩
  · rcases arg3 p1 (n := nA) (by omega) with h | ⟨a, ha, rfl⟩
    · rw [hV.1]
      refine s6_noArch h (br_t rfl (s8_trains hF hTm (fun q hq => absurd hok (trBad_ok hq)) (fun _ v4 u tr htr => s8_noArch h (by omega) ⟨fun z => absurd rfl z, fun _ => ?_⟩)))
      exact ⟨rfl, nA, nC, R, w, ok, ⟨rfl, hV.2⟩, hM, rfl, rfl, TXr_0, hW, ⟨hRX, rs, rfl, hRM⟩, hN, hE, hH, hK⟩
    · have has : ∀ Post : Int32 → Prop, Post 1 → p_X6_hasArch F (nI a) x.x_now_arches Post := fun Post kk => by rw [hV.1]; exact s6_hasArch hA ha kk
      refine has _ (br_f (by decide) (s7_borne hF hTc hok hRX hV ok ha (fun v1 v2 v3 v4 v5 v6 v7 v8 v9 v10 v11 v12 v13 s6 f6 h6 => ?_)))
      refine s8_trains hF hTm (fun q hq => absurd hok (trBad_ok hq)) (fun _ v4 u tr htr => s8_isArch ha (by omega) ⟨fun _ => s8_borne hF hok htr hRM hM ok ha (fun s7 f7 u1 u2 u3 u4 u5 u6 u7 u8 u9 u10 h7 => ?_), fun z => absurd z (by decide)⟩)
      exact ⟨rfl, nA, nC, R, w, ok, hV, hM, rfl, rfl, TXr_0, RWr_of (by show 1 ≤ 8; omega) h6 h7, ⟨hRX, rs, rfl, hRM⟩, hN, hE, hH, hK⟩
end
