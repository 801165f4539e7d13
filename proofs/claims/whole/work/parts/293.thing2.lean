/-! ===== the rule: things, and a whole text ===== -/
def loI (p : Int32) : Int32 := if p = 106 then 0 else if p = 98 then 1 else if p = 103 then 2 else if p = 107 then 3 else if p = 108 then 4 else if p = 115 then 5 else if p = 110 then 6 else -1
theorem pifm {A : Type} {c B : Prop} [Decidable c] {P : A → Prop} {a b : A} (k : P (if c then a else b)) (kb : P b → B) : (¬ c → B) ∧ (c → P a) := ⟨fun z => by rw [if_neg z] at k; exact kb k, fun z => by rw [if_pos z] at k; exact k⟩
theorem s8_lo {F : Nat} {p : Int32} {Post : Int32 → Prop} (k : Post (loI p)) : p_X8_letterOf F p Post := by
  unfold loI at k
  unfold p_X8_letterOf
  exact pifm k (fun k => pifm k (fun k => pifm k (fun k => pifm k (fun k => pifm k (fun k => pifm k (fun k => pifm k id))))))
def liN (c : Nat) : Nat := if c = 98 then 1 else if c = 103 then 2 else if c = 106 then 0 else if c = 107 then 3 else if c = 108 then 4 else if c = 115 then 5 else 6
theorem lo_let : ∀ c, c < 256 → isLet c = true → loI (nI c) = nI (liN c) ∧ liN c < 7 ∧ ¬ (48 ≤ c ∧ c ≤ 57) ∧ ¬ c = 45 ∧ ¬ c = 40 := by decide +kernel
theorem lo_no : ∀ c, c < 256 → isLet c = false → loI (nI c) = -1 := by decide +kernel
theorem lt_let {c : Nat} (hc : isLet c = true) (lt : Nat → Int32) : ltI lt (nI c) = lt (liN c) := by
  unfold isLet at hc
  simp only [Bool.or_eq_true, beq_iff_eq] at hc
  rcases hc with (((((rfl | rfl) | rfl) | rfl) | rfl) | rfl) | rfl <;> rfl
theorem ev1_letF : ∀ c, c < 256 → isLet c = true → (- nI c < 0 ∧ ¬ - nI c = -256 ∧ rkI (- - nI c) ≤ 0 ∧ - - nI c = nI c) := by decide +kernel
theorem ev1_let {c : Nat} (hc : c < 256) (h : isLet c = true) (lt : Nat → Int32) (s : List Int32) : ev1 lt (- nI c) s = lt (liN c) :: s := by
  obtain ⟨e1, e2, e3, e4⟩ := ev1_letF c hc h
  unfold ev1
  rw [if_pos e1, if_neg e2, if_pos e3, e4, lt_let h]
theorem ev1_neg (lt : Nat → Int32) (b : Int32) (s : List Int32) : ev1 lt (- nI 256) (b :: s) = (- b) :: s := by
  unfold ev1
  rw [if_pos (by decide), if_pos (by decide)]
  rfl
theorem ev1_num {v : Nat} (hv : v < 1000) (lt : Nat → Int32) (s : List Int32) : ev1 lt (nI v) s = nI v :: s := by
  unfold ev1
  rw [if_neg (nI_pos (by omega))]
section
variable {F t : Nat} {h : Nat → Nat}
theorem s8_67 {T : MP} {i N : Nat} {isA : Int32} {fr lt asked : Nat → Int32} {Post : Int32 → (Int32 × Int32) → Prop} (hT : TXm t h fr) (hN : t ≤ N) (hN2 : N < 1000) (hi : i ≤ eN t) (hA : isA = 1 → ∀ k, k < 7 → asked k = lt k)
    (kd : i < eN t → 48 ≤ h i → h i ≤ 57 → p_X8_number F 3 (nI t) 40 (nI i) (-1) N fr Post)
    (kl : i < eN t → isLet (h i) = true → ∀ v, (isA = 1 → v = lt (liN (h i))) → Post v (nI (i + 1), -1))
    (kf : ¬ (i < eN t ∧ ((48 ≤ h i ∧ h i ≤ 57) ∨ isLet (h i) = true)) → ∀ v, Post v (nI i, nI i)) :
    p_X8_thingB_67 F T (nI t) 40 (-1) isA N fr asked (nI i) (hvI t h i) Post := by
  have h40 := eN_40 t
  unfold p_X8_thingB_67
  have bad : loI (hvI t h i) = -1 → ¬ (i < eN t ∧ ((48 ≤ h i ∧ h i ≤ 57) ∨ isLet (h i) = true)) → p_X8_letterOf F (hvI t h i) (fun r_85 => (¬ r_85 = -1 → ((isA = 0 → Post 0 (nI i + 1, -1)) ∧ (¬ isA = 0 → p_X8_letterOf F (hvI t h i) (fun r_124 => vp_in r_124 7 ∧ Post (asked r_124.toNatClampNeg) (nI i + 1, -1))))) ∧ (r_85 = -1 → p_X8_fault F (nI i) (-1) (fun u_97 => Post 0 (nI i, u_97)))) := by
    intro e z
    refine s8_lo ?_
    rw [e]
    exact ⟨fun y => absurd rfl y, fun _ => s8_fault (kf z 0)⟩
  by_cases zi : i < eN t
  · have hb := (hT.2 i (eN_lt.1 zi).1).1
    have ehv : hvI t h i = nI (h i) := by unfold hvI; rw [if_pos zi]
    by_cases zd : 48 ≤ h i ∧ h i ≤ 57
    · rw [ehv]
      exact s8_in (lo := 48) (hi := 57) zd.1 zd.2 (by omega) ⟨fun y => absurd y (by decide), fun _ => kd zi zd.1 zd.2⟩
    · have nin : hvI t h i < (48 : Int32) ∨ (57 : Int32) < hvI t h i := by
        rw [ehv]
        by_cases y : 48 ≤ h i
        · exact Or.inr (nI_lt (a := 57) (by omega) (by omega))
        · exact Or.inl (nI_lt (b := 48) (by omega) (by omega))
      refine s8_nin nin ⟨fun _ => ?_, fun y => absurd rfl y⟩
      cases zl : isLet (h i) with
      | true =>
        obtain ⟨l1, l2, l3⟩ := lo_let _ hb zl
        refine s8_lo ?_
        rw [ehv, l1]
        refine ⟨fun _ => ⟨fun y => ?_, fun y => s8_lo ?_⟩, fun y => absurd y (m1_ne (by omega))⟩
        · rw [← nI_succ]
          exact kl zi zl 0 (fun w => absurd (w.symm.trans y) (by decide))
        · rw [l1, nI_clamp (n := liN (h i)) (by omega), ← nI_succ]
          exact ⟨pk_in (liN (h i)) 7 l2, kl zi zl _ (fun w => hA w _ l2)⟩
      | false => exact bad (by rw [ehv]; exact lo_no _ hb zl) (fun y => by
          rcases y.2 with w | w
          · exact zd w
          · rw [zl] at w; exact absurd w (by decide))
  · have ehv : hvI t h i = -1 := by unfold hvI; rw [if_neg zi]
    exact s8_nin (by rw [ehv]; exact Or.inl (by decide)) ⟨fun _ => bad (by rw [ehv]; decide) (fun y => zi y.1), fun y => absurd rfl y⟩
theorem thing_S (hF : 5000 ≤ F) (hb : ∀ i, i < t → h i < 256) : ∀ (n d i : Nat), d ≤ 4 → i ≤ eN t → eN t - i < n → LvS t h 5 4 (p_X8_thing F n) d i
  | 0, d, i, _, _, hn => absurd hn (Nat.not_lt_zero _)
  | n + 1, d, i, hd, hi, hn => by
    have h40 := eN_40 t
    by_cases z45 : i < eN t ∧ h i = 45
    · obtain ⟨zi, zc⟩ := z45
      obtain ⟨j, o, a1, a2, a3, a4, a5⟩ := thing_S hF hb n d (i + 1) hd (by omega) (by omega)
      have cls : ∀ st sk cm dg, Ou h t i st sk d cm dg true = Ou h t (i + 1) st (256 :: sk) d cm 0 true := by
        intro st sk cm dg
        apply Ou_s zi
        unfold tk
        rw [zc, if_neg (by omega), if_pos rfl, if_pos rfl]
      have lo5 : ∀ sk, lowR 5 sk := fun sk c s _ => Nat.lt_succ_of_le (rk_le c)
      have md : ∀ (N : Nat) (fr : Nat → Int32) (isA : Int32) (lt asked : Nat → Int32) (Post : Int32 → (Int32 × Int32) → Prop), TXm t h fr → t ≤ N → N < 1000 → (isA = 1 → ∀ k, k < 7 → asked k = lt k) → (∀ v, (∀ V, o = some V → isA = 1 → v = V lt) → Post (- v) (nI j, wrO o j)) → p_X8_thing F (n + 1) (nI d) (nI t) 40 (nI i) (-1) isA N fr asked Post := by
        intro N fr isA lt asked Post hT hN hN2 hA hk
        rw [p_X8_thing_s]
        unfold p_X8_thingB
        refine s8_ps (c := 45) hT hN hN2 hi (by omega) (fun _ _ => ⟨fun y => absurd y (by decide), fun _ => ?_⟩) (fun y => absurd ⟨zi, zc⟩ y)
        exact a3 N fr isA lt asked _ hT hN hN2 hA (fun v hv => hk v hv)
      cases o with
      | none =>
        refine ⟨j, none, by omega, a2, ?_, ?_, fun V y => absurd y (by simp)⟩
        · intro N fr isA lt asked Post hT hN hN2 hA hk
          exact md N fr isA lt asked Post hT hN hN2 hA (fun v _ => hk _ (fun V y => absurd y (by simp)))
        · intro _ st sk cm dg _ _
          rw [cls]
          exact a4 rfl _ _ _ _ (lo5 _) (fun y => by omega)
      | some V1 =>
        obtain ⟨b1, C1, pd1, b2, b3, b4⟩ := a5 V1 rfl
        refine ⟨j, some (fun lt => - V1 lt), by omega, a2, ?_, fun y => absurd y (by simp), fun V y => ⟨by omega, C1, pd1 ++ [256], fun c hc => ?_, fun lt s => ?_, fun st sk cm dg _ _ => ?_⟩⟩
        · intro N fr isA lt asked Post hT hN hN2 hA hk
          refine md N fr isA lt asked Post hT hN hN2 hA (fun v hv => hk _ (fun V y w => ?_))
          rw [Option.some.injEq] at y
          rw [← y, hv V1 rfl w]
        · rcases List.mem_append.1 hc with hc | hc
          · exact b2 c hc
          · rw [List.mem_singleton.1 hc]; decide
        · rw [Option.some.injEq] at y
          rw [← y]
          have e : C1 ++ ngs (pd1 ++ [256]) = (C1 ++ ngs pd1) ++ [- nI 256] := by unfold ngs; simp
          rw [e, ev_app, b3]
          exact ev1_neg lt _ s
        · obtain ⟨cm2, dg2, f1, f2, f3, f4, f5⟩ := b4 st (256 :: sk) cm 0 (lo5 _) (fun y => by omega)
          refine ⟨cm2, dg2, f1, f2, f3, f4, ?_⟩
          rw [cls, f5]
          simp
    · have pass : ∀ (N : Nat) (fr : Nat → Int32) (isA : Int32) (asked : Nat → Int32) (Post : Int32 → (Int32 × Int32) → Prop), TXm t h fr → t ≤ N → N < 1000 → ((¬ (i < eN t ∧ h i = 40 ∧ d < 4)) → p_X8_thingB_67 F (p_X8_thing F n) (nI t) 40 (-1) isA N fr asked (nI i) (hvI t h i) Post) → (i < eN t → h i = 40 → d < 4 → p_X8_held F (p_X8_thing F n) (nI (d + 1)) (nI t) 40 (nI (i + 1)) (-1) isA N fr asked (fun r_55 u_55 => p_X8_need F 41 (nI t) 40 u_55.1 u_55.2 N fr (fun u_62 => Post r_55 (u_62.1, u_62.2)))) → p_X8_thing F (n + 1) (nI d) (nI t) 40 (nI i) (-1) isA N fr asked Post := by
        intro N fr isA asked Post hT hN hN2 k67 kh
        rw [p_X8_thing_s]
        unfold p_X8_thingB
        refine s8_ps (c := 45) hT hN hN2 hi (by omega) (fun y1 y2 => absurd ⟨y1, y2⟩ z45) (fun _ => ⟨fun _ => s8_fine ⟨fun _ => s8_hv hT hN hN2 hi ⟨fun y => k67 (fun w => y ((hv_eq (c := 40) hT (by omega)).2 ⟨w.1, w.2.1⟩)), fun y => ⟨fun y2 => k67 (fun w => ?_), fun y2 => ?_⟩⟩, fun y => absurd y (by decide)⟩, fun y => absurd rfl y⟩)
        · exact absurd ((nI_leI (a := 4) (by omega) (by omega)).1 y2) (by omega)
        · have w := (hv_eq (c := 40) hT (by omega)).1 y
          rw [← nI_succ, ← nI_succ]
          refine kh w.1 w.2 ?_
          apply Decidable.byContradiction
          intro y3
          exact y2 (nI_le (a := 4) (by omega) (by omega))
      by_cases zi : i < eN t
      · have hc := hb i (eN_lt.1 zi).1
        have n45 : ¬ h i = 45 := fun y => z45 ⟨zi, y⟩
        by_cases z40 : h i = 40 ∧ d < 4
        · obtain ⟨zc, zd⟩ := z40
          have hT4 : ∀ j, i + 1 ≤ j → j ≤ eN t → LvS t h 5 4 (p_X8_thing F n) (d + 1) j := fun j h1 h2 => thing_S hF hb n (d + 1) j (by omega) h2 (by omega)
          have hP : ∀ j, i + 1 ≤ j → j ≤ eN t → LvS t h 3 3 (p_X8_product F (p_X8_thing F n)) (d + 1) j := fun j h1 h2 => product_S hF hb h2 (fun k h3 h4 => hT4 k (by omega) h4)
          have hS : ∀ j, i + 1 ≤ j → j ≤ eN t → LvS t h 2 2 (p_X8_sum F (p_X8_thing F n)) (d + 1) j := fun j h1 h2 => sum_S hF hb h2 (fun k h3 h4 => hP k (by omega) h4)
          obtain ⟨j, o, a1, a2, a3, a4, a5⟩ := held_S (d := d + 1) (i := i + 1) hb (by omega) hS
          have cls : ∀ st sk cm dg, Ou h t i st sk d cm dg true = Ou h t (i + 1) st (40 :: sk) (d + 1) (setB cm (d + 1) false) 0 true := by
            intro st sk cm dg
            apply Ou_s zi
            unfold tk
            rw [zc, if_neg (by omega), if_pos rfl, if_neg (by decide), if_pos rfl, if_neg (by omega)]
          have lo1 : ∀ sk : List Nat, lowR 1 (40 :: sk) := by
            intro sk c s e
            rw [List.cons.injEq] at e
            rw [← e.1]
            decide
          have sb : ∀ cm : Nat → Bool, setB cm (d + 1) false (d + 1) = false := fun cm => by unfold setB; rw [if_pos rfl]
          cases o with
          | none =>
            refine ⟨j, none, by omega, a2, ?_, ?_, fun V y => absurd y (by simp)⟩
            · intro N fr isA lt asked Post hT hN hN2 hA hk
              refine pass N fr isA asked Post hT hN hN2 (fun y => absurd ⟨zi, zc, zd⟩ y) (fun _ _ _ => a3 N fr isA lt asked _ hT hN hN2 hA (fun v _ => ?_))
              have hw : ¬ nI j = -1 := m1_ne (by omega)
              unfold p_X8_need
              exact s8_psW hw ⟨fun y => absurd rfl y, fun _ => s8_faultN hw (hk v (fun V y => absurd y (by simp)))⟩
            · intro _ st sk cm dg _ _
              rw [cls]
              exact a4 rfl _ _ _ _ (lo1 _) (fun _ => sb cm)
          | some V1 =>
            obtain ⟨b1, C1, pd1, b2, b3, b4⟩ := a5 V1 rfl
            by_cases z41 : j < eN t ∧ h j = 41
            · obtain ⟨zj, zc2⟩ := z41
              refine ⟨j + 1, some V1, by omega, by omega, ?_, fun y => absurd y (by simp), fun V y => ⟨by omega, C1 ++ ngs pd1, [], fun c hc => absurd hc (by simp), fun lt s => ?_, fun st sk cm dg _ _ => ?_⟩⟩
              · intro N fr isA lt asked Post hT hN hN2 hA hk
                refine pass N fr isA asked Post hT hN hN2 (fun y => absurd ⟨zi, zc, zd⟩ y) (fun _ _ _ => a3 N fr isA lt asked _ hT hN hN2 hA (fun v hv => ?_))
                unfold p_X8_need
                exact s8_ps (c := 41) hT hN hN2 a2 (by omega) (fun _ _ => ⟨fun _ => hk v hv, fun y => absurd y (by decide)⟩) (fun y => absurd ⟨zj, zc2⟩ y)
              · rw [Option.some.injEq] at y
                rw [← y]
                have e : C1 ++ ngs pd1 ++ ngs [] = C1 ++ ngs pd1 := by unfold ngs; simp
                rw [e]
                exact b3 lt s
              · obtain ⟨cm2, dg2, f1, f2, f3, f4, f5⟩ := b4 st (40 :: sk) (setB cm (d + 1) false) 0 (lo1 _) (fun _ => sb cm)
                have cme : ∀ e, e < d + 1 → cm2 e = cm e := by
                  intro e he
                  rw [f1 e he]
                  unfold setB
                  rw [if_neg (by omega)]
                refine ⟨cm2, 0, fun e he => cme e (by omega), fun _ => cme d (by omega), fun _ => Or.inl (Nat.lt_succ_of_le (rk_le _)), fun _ _ _ => Or.inl rfl, ?_⟩
                rw [cls, f5]
                apply Ou_s zj
                unfold tk
                rw [zc2, if_neg (by omega), if_neg (by decide), if_pos ⟨rfl, by omega⟩, settl_pd (lo1 sk) pd1 _ b2]
                simp
            · refine ⟨j, none, by omega, a2, ?_, ?_, fun V y => absurd y (by simp)⟩
              · intro N fr isA lt asked Post hT hN hN2 hA hk
                refine pass N fr isA asked Post hT hN hN2 (fun y => absurd ⟨zi, zc, zd⟩ y) (fun _ _ _ => a3 N fr isA lt asked _ hT hN hN2 hA (fun v hv => ?_))
                unfold p_X8_need
                exact s8_ps (c := 41) hT hN hN2 a2 (by omega) (fun y1 y2 => absurd ⟨y1, y2⟩ z41) (fun _ => ⟨fun y => absurd rfl y, fun _ => s8_fault (hk v (fun V y => absurd y (by simp)))⟩)
              · intro _ st sk cm dg _ _
                obtain ⟨cm2, dg2, f1, f2, f3, f4, f5⟩ := b4 st (40 :: sk) (setB cm (d + 1) false) 0 (lo1 _) (fun _ => sb cm)
                rw [cls, f5]
                by_cases zj : j < eN t
                · apply Ou_n zj
                  have n41 : ¬ h j = 41 := fun y => z41 ⟨zj, y⟩
                  unfold tk
                  by_cases zdg : 48 ≤ h j ∧ h j ≤ 57
                  · rw [if_pos zdg, if_neg (by decide), if_pos (f4 zj zdg.1 zdg.2)]
                  · rw [if_neg zdg, if_neg (by decide), if_neg (fun y => n41 y.1), if_pos]
                    rcases f3 zj with w | w
                    · exact Or.inl (by omega)
                    · exact Or.inr w
                · exact Ou_e (by omega) (fun y => absurd y.2.2 (by omega))
        · by_cases zdg : 48 ≤ h i ∧ h i ≤ 57
          · obtain ⟨j2, v2, a1, a2, a3, a4, a5⟩ := num_S (F := F) (t := t) (h := h) 2 1 (i + 1) (h i - 48) (by omega) (by omega) (by omega) (by omega)
            refine ⟨j2, some (fun _ => nI v2), by omega, a2, ?_, fun y => absurd y (by simp), fun V y => ⟨by omega, [nI v2], [], fun c hc => absurd hc (by simp), fun lt s => ?_, fun st sk cm dg _ _ => ?_⟩⟩
            · intro N fr isA lt asked Post hT hN hN2 hA hk
              refine pass N fr isA asked Post hT hN hN2 (fun _ => s8_67 hT hN hN2 hi hA (fun _ _ _ => ?_) (fun _ y => ?_) (fun y => absurd ⟨zi, Or.inl zdg⟩ y)) (fun _ y1 y2 => absurd ⟨y1, y2⟩ z40)
              · unfold p_X8_number
                refine s8_oneOf (fst := 48) (many := 10) (top := 40) hT (eN_lt.1 zi).1 (eN_lt.1 zi).2 (by omega) hN hN2 zdg.1 (by omega) (by omega) ?_
                exact a4 N fr Post F (by omega) hT hN hN2 (hk _ (fun V y _ => by
                  rw [Option.some.injEq] at y
                  rw [← y]))
              · exact absurd zdg (lo_let _ hc y).2.2.1
            · rw [Option.some.injEq] at y
              rw [← y]
              exact ev1_num a3 lt s
            · obtain ⟨dg2, g1, g2⟩ := a5 st sk d cm
              refine ⟨cm, dg2, fun _ _ => rfl, fun _ => rfl, fun _ => Or.inl (Nat.lt_succ_of_le (rk_le _)), g1, ?_⟩
              show _ = Ou h t j2 (st ++ [nI v2]) sk d cm dg2 false
              rw [← g2]
              apply Ou_s zi
              unfold tk
              rw [if_pos zdg, if_pos rfl]
          · cases zl : isLet (h i) with
            | true =>
              obtain ⟨l1, l2, l3, l4, l5⟩ := lo_let _ hc zl
              refine ⟨i + 1, some (fun lt => lt (liN (h i))), by omega, by omega, ?_, fun y => absurd y (by simp), fun V y => ⟨by omega, [- nI (h i)], [], fun c hc => absurd hc (by simp), fun lt s => ?_, fun st sk cm dg _ _ => ?_⟩⟩
              · intro N fr isA lt asked Post hT hN hN2 hA hk
                refine pass N fr isA asked Post hT hN hN2 (fun _ => s8_67 hT hN hN2 hi hA (fun _ y1 y2 => absurd ⟨y1, y2⟩ zdg) (fun _ _ v hv => hk v (fun V y w => ?_)) (fun y => absurd ⟨zi, Or.inr zl⟩ y)) (fun _ y1 y2 => absurd ⟨y1, y2⟩ z40)
                rw [Option.some.injEq] at y
                rw [← y]
                exact hv w
              · rw [Option.some.injEq] at y
                rw [← y]
                exact ev1_let hc zl lt s
              · refine ⟨cm, 0, fun _ _ => rfl, fun _ => rfl, fun _ => Or.inl (Nat.lt_succ_of_le (rk_le _)), fun _ _ _ => Or.inl rfl, ?_⟩
                apply Ou_s zi
                unfold tk
                rw [if_neg zdg, if_pos rfl, if_neg l4, if_neg l5, if_pos zl]
                rfl
            | false =>
              have nl : ¬ isLet (h i) = true := by rw [zl]; decide
              refine ⟨i, none, Nat.le_refl _, hi, ?_, ?_, fun V y => absurd y (by simp)⟩
              · intro N fr isA lt asked Post hT hN hN2 hA hk
                exact pass N fr isA asked Post hT hN hN2 (fun _ => s8_67 hT hN hN2 hi hA (fun _ y1 y2 => absurd ⟨y1, y2⟩ zdg) (fun _ y => absurd y nl) (fun _ v => hk v (fun V y => absurd y (by simp)))) (fun _ y1 y2 => absurd ⟨y1, y2⟩ z40)
              · intro _ st sk cm dg _ _
                apply Ou_n zi
                unfold tk
                rw [if_neg zdg, if_pos rfl, if_neg n45]
                by_cases y : h i = 40
                · rw [if_pos y, if_pos (by omega)]
                · rw [if_neg y, if_neg nl]
      · refine ⟨i, none, Nat.le_refl _, hi, ?_, ?_, fun V y => absurd y (by simp)⟩
        · intro N fr isA lt asked Post hT hN hN2 hA hk
          exact pass N fr isA asked Post hT hN hN2 (fun _ => s8_67 hT hN hN2 hi hA (fun y => absurd y zi) (fun y => absurd y zi) (fun _ v => hk v (fun V y => absurd y (by simp)))) (fun y => absurd y zi)
        · intro _ st sk cm dg _ _
          exact Ou_e (by omega) (fun y => absurd y.2.1 (by decide))
end
