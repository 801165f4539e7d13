/-! ===== the rule: class and model, level by level ===== -/
def eN (t : Nat) : Nat := if t ≤ 40 then t else 40
theorem eN_lt {t i : Nat} : i < eN t ↔ i < t ∧ i < 40 := by
  unfold eN
  split <;> omega
theorem eN_40 (t : Nat) : eN t ≤ 40 := by
  unfold eN
  split <;> omega
abbrev MP := Int32 → Int32 → Int32 → Int32 → Int32 → Int32 → Nat → (Nat → Int32) → (Nat → Int32) → (Int32 → (Int32 × Int32) → Prop) → Prop
def wrO (o : Option ((Nat → Int32) → Int32)) (j : Nat) : Int32 := match o with
  | some _ => -1
  | none => nI j
/-- the model's reading M from sign i on ends at j, with a value or a fault -/
def MT (t : Nat) (h : Nat → Nat) (M : MP) (d i j : Nat) (o : Option ((Nat → Int32) → Int32)) : Prop :=
  ∀ (N : Nat) (fr : Nat → Int32) (isA : Int32) (lt asked : Nat → Int32) (Post : Int32 → (Int32 × Int32) → Prop), TXm t h fr → t ≤ N → N < 1000 → (isA = 1 → ∀ k, k < 7 → asked k = lt k) → (∀ v, (∀ V, o = some V → isA = 1 → v = V lt) → Post v (nI j, wrO o j)) → M (nI d) (nI t) 40 (nI i) (-1) isA N fr asked Post
def Ou (h : Nat → Nat) (t i : Nat) (st : List Int32) (sk : List Nat) (op : Nat) (cm : Nat → Bool) (dg : Nat) (wt : Bool) : Nat × Option (List Int32) := cO h (decide (t ≤ 40)) (eN t - i) i st sk op cm dg wt
def lowR (r : Nat) (sk : List Nat) : Prop := ∀ c s, sk = c :: s → rkN c < r
def dgOK (h : Nat → Nat) (t j dg : Nat) : Prop := j < eN t → 48 ≤ h j → h j ≤ 57 → dg = 0 ∨ dg = 3
def ngs (pd : List Nat) : List Int32 := pd.map (fun c => - nI c)
theorem settl_low {r : Nat} {sk : List Nat} {st : List Int32} (h : lowR r sk) : settl r sk st = (sk, st) := by
  cases sk with
  | nil => rfl
  | cons c s => rw [settl, if_pos (h c s rfl)]
theorem settl_pd {r : Nat} {sk : List Nat} (hl : lowR r sk) : ∀ (pd : List Nat) (st : List Int32), (∀ c, c ∈ pd → r ≤ rkN c) → settl r (pd ++ sk) st = (sk, st ++ ngs pd)
  | [], st, _ => by
    show settl r sk st = _
    rw [settl_low hl]
    simp [ngs]
  | c :: pd, st, h => by
    have hc := h c List.mem_cons_self
    show settl r (c :: (pd ++ sk)) st = _
    rw [settl, if_neg (by omega), settl_pd hl pd _ (fun x hx => h x (List.mem_cons_of_mem _ hx))]
    simp [ngs]
section
variable {h : Nat → Nat} {t i : Nat} {st : List Int32} {sk : List Nat} {op : Nat} {cm : Nat → Bool} {dg : Nat} {wt : Bool}
theorem Ou_n (hi : i < eN t) (e : tk (h i) st sk op cm dg wt = none) : Ou h t i st sk op cm dg wt = (i, none) := by
  unfold Ou
  obtain ⟨n, hn⟩ : ∃ n, eN t - i = n + 1 := ⟨eN t - i - 1, by omega⟩
  rw [hn, cO, e]
theorem Ou_s {st2 : List Int32} {sk2 : List Nat} {op2 : Nat} {cm2 : Nat → Bool} {dg2 : Nat} {wt2 : Bool} (hi : i < eN t) (e : tk (h i) st sk op cm dg wt = some (st2, sk2, op2, cm2, dg2, wt2)) : Ou h t i st sk op cm dg wt = Ou h t (i + 1) st2 sk2 op2 cm2 dg2 wt2 := by
  unfold Ou
  have hn : eN t - i = (eN t - (i + 1)) + 1 := by omega
  rw [hn, cO, e]
theorem Ou_e (hi : i = eN t) (e : ¬ (decide (t ≤ 40) = true ∧ wt = false ∧ op = 0)) : Ou h t i st sk op cm dg wt = (i, none) := by
  unfold Ou
  rw [hi, Nat.sub_self, cO, if_neg e]
end
/-- a level: M reads from i on; what binds as strongly as r waits; below q what lies in front -/
def LvS (t : Nat) (h : Nat → Nat) (q r : Nat) (M : MP) (d i : Nat) : Prop := ∃ j o, i ≤ j ∧ j ≤ eN t ∧ MT t h M d i j o ∧
  (o = none → ∀ st sk cm dg, lowR q sk → (q = 1 → cm d = false) → Ou h t i st sk d cm dg true = (j, none)) ∧
  (∀ V, o = some V → i < j ∧ ∃ C pd, (∀ c, c ∈ pd → r ≤ rkN c) ∧ (∀ lt s, ev lt (C ++ ngs pd) s = V lt :: s) ∧
    ∀ st sk cm dg, lowR q sk → (q = 1 → cm d = false) → ∃ cm2 dg2, (∀ e, e < d → cm2 e = cm e) ∧ (¬ q = 1 → cm2 d = cm d) ∧ (j < eN t → rkN (h j) < q ∨ (rkN (h j) = 1 ∧ cm2 d = true)) ∧ dgOK h t j dg2 ∧ Ou h t i st sk d cm dg true = Ou h t j (st ++ C) (pd ++ sk) d cm2 dg2 false)
/-- a loop over operators of rank r, M between them -/
abbrev LPt := Nat → (Nat → Int32) → Int32 → (Nat → Int32) → (Int32 → (Int32 × Int32) → Prop) → Nat → Int32 → Int32 → Int32 → Prop
def LpS (t : Nat) (h : Nat → Nat) (r : Nat) (LP : LPt) (d j : Nat) (V : (Nat → Int32) → Int32) (C : List Int32) (pd : List Nat) : Prop := ∃ j2 o, j ≤ j2 ∧ j2 ≤ eN t ∧
  (∀ (N : Nat) (fr : Nat → Int32) (isA : Int32) (lt asked : Nat → Int32) (Post : Int32 → (Int32 × Int32) → Prop) (G : Nat) (v : Int32), eN t - j < G → TXm t h fr → t ≤ N → N < 1000 → (isA = 1 → ∀ k, k < 7 → asked k = lt k) → (isA = 1 → v = V lt) → (∀ v, (∀ V, o = some V → isA = 1 → v = V lt) → Post v (nI j2, wrO o j2)) → LP N fr isA asked Post G v (nI j) (-1)) ∧
  (o = none → ∀ st sk cm dg, lowR r sk → Ou h t j (st ++ C) (pd ++ sk) d cm dg false = (j2, none)) ∧
  (∀ V2, o = some V2 → ∃ C2 pd2, (∀ c, c ∈ pd2 → r ≤ rkN c) ∧ (∀ lt s, ev lt (C2 ++ ngs pd2) s = V2 lt :: s) ∧
    ∀ st sk cm dg, lowR r sk → dgOK h t j dg → ∃ cm2 dg2, (∀ e, e ≤ d → cm2 e = cm e) ∧ (j2 < eN t → rkN (h j2) < r) ∧ dgOK h t j2 dg2 ∧ Ou h t j (st ++ C) (pd ++ sk) d cm dg false = Ou h t j2 (st ++ C2) (pd2 ++ sk) d cm2 dg2 false)
theorem rk_dg : ∀ c, c < 256 → 0 < rkN c → ¬ (48 ≤ c ∧ c ≤ 57) ∧ ¬ c = 41 ∧ rkN c ≤ 3 := by decide +kernel
theorem ev1_op : ∀ c, c < 256 → 0 < rkN c → (- nI c < 0 ∧ ¬ - nI c = -256 ∧ ¬ rkI (- - nI c) ≤ 0 ∧ - - nI c = nI c) := by decide +kernel
theorem ev1_jn {c : Nat} (hc : c < 256) (h : 0 < rkN c) (lt : Nat → Int32) (a b : Int32) (s : List Int32) : ev1 lt (- nI c) (b :: a :: s) = jnI (nI c) a b :: s := by
  obtain ⟨e1, e2, e3, e4⟩ := ev1_op c hc h
  unfold ev1
  rw [if_pos e1, if_neg e2, if_neg e3, e4]
  rfl
section
variable {t : Nat} {h : Nat → Nat} {q1 r1 r d : Nat} {M : MP} {LP : LPt}
theorem ev_step {C C2 : List Int32} {pd pd2 : List Nat} {V V2 : (Nat → Int32) → Int32} {c : Nat} (hc : c < 256) (hr : 0 < rkN c) (h1 : ∀ lt s, ev lt (C ++ ngs pd) s = V lt :: s) (h2 : ∀ lt s, ev lt (C2 ++ ngs pd2) s = V2 lt :: s) (lt : Nat → Int32) (s : List Int32) : ev lt ((C ++ ngs pd ++ C2) ++ ngs (pd2 ++ [c])) s = jnI (nI c) (V lt) (V2 lt) :: s := by
  have e : (C ++ ngs pd ++ C2) ++ ngs (pd2 ++ [c]) = (C ++ ngs pd) ++ ((C2 ++ ngs pd2) ++ [- nI c]) := by
    unfold ngs
    simp
  rw [e, ev_app, h1, ev_app, h2]
  exact ev1_jn hc hr lt _ _ s
theorem loop_S (hb : ∀ i, i < t → h i < 256) (hr : 2 ≤ r) (hr1 : r ≤ r1) (hq : r < q1)
    (hl : ∀ j, j < eN t → rkN (h j) < q1 → ¬ rkN (h j) = r → rkN (h j) < r)
    (l0 : ∀ N fr isA asked Post G v at0 wr, ¬ wr = -1 → Post v (at0, wr) → LP N fr isA asked Post (G + 1) v at0 wr)
    (l1 : ∀ N fr isA asked Post G v j, TXm t h fr → t ≤ N → N < 1000 → j ≤ eN t → ¬ (j < eN t ∧ rkN (h j) = r) → Post v (nI j, -1) → LP N fr isA asked Post (G + 1) v (nI j) (-1))
    (l2 : ∀ N fr isA asked Post G v j, TXm t h fr → t ≤ N → N < 1000 → j < eN t → rkN (h j) = r → (∀ Q : Int32 → (Int32 × Int32) → Prop, (∀ o u, LP N fr isA asked Post G (jnI (nI (h j)) v o) u.1 u.2 → Q o u) → M (nI d) (nI t) 40 (nI (j + 1)) (-1) isA N fr asked Q) → LP N fr isA asked Post (G + 1) v (nI j) (-1)) :
    ∀ (n j : Nat), eN t - j ≤ n → j ≤ eN t → (∀ i, j < i → i ≤ eN t → LvS t h q1 r1 M d i) → (j < eN t → rkN (h j) < q1 ∨ rkN (h j) = 1) → ∀ (V : (Nat → Int32) → Int32) (C : List Int32) (pd : List Nat), (∀ c, c ∈ pd → r ≤ rkN c) → (∀ lt s, ev lt (C ++ ngs pd) s = V lt :: s) → LpS t h r LP d j V C pd
  | n, j, hn, hj, hM, hnx, V, C, pd, hpd, hev => by
    by_cases z : j < eN t ∧ rkN (h j) = r
    · obtain ⟨n', rfl⟩ : ∃ n', n = n' + 1 := ⟨n - 1, by omega⟩
      obtain ⟨zj, zr⟩ := z
      have hc := hb j (eN_lt.1 zj).1
      obtain ⟨d1, d2, d3⟩ := rk_dg (h j) hc (by omega)
      obtain ⟨j1, o1, a1, a2, a3, a4, a5⟩ := hM (j + 1) (by omega) (by omega)
      have cls : ∀ st sk cm dg, lowR r sk → Ou h t j (st ++ C) (pd ++ sk) d cm dg false = Ou h t (j + 1) (st ++ (C ++ ngs pd)) (h j :: sk) d cm 0 true := by
        intro st sk cm dg lo
        apply Ou_s zj
        unfold tk
        rw [if_neg d1, if_neg (by decide), if_neg (fun y => d2 y.1), if_neg (by omega), zr, if_neg (by omega), settl_pd lo pd _ hpd]
        rw [List.append_assoc]
      have lo2 : ∀ sk : List Nat, lowR q1 (h j :: sk) := by
        intro sk c s e
        rw [List.cons.injEq] at e
        rw [← e.1]
        omega
      cases o1 with
      | none =>
        refine ⟨j1, none, by omega, a2, ?_, ?_, fun V2 y => absurd y (by simp)⟩
        · intro N fr isA lt asked Post G v hG hT hN hN2 hA hv hk
          obtain ⟨G', rfl⟩ : ∃ G', G = G' + 1 := ⟨G - 1, by omega⟩
          refine l2 N fr isA asked Post G' v j hT hN hN2 zj zr (fun Q hQ => a3 N fr isA lt asked Q hT hN hN2 hA (fun v2 _ => hQ _ _ ?_))
          obtain ⟨G2, rfl⟩ : ∃ G2, G' = G2 + 1 := ⟨G' - 1, by omega⟩
          exact l0 _ _ _ _ _ _ _ _ _ (m1_ne (by have := eN_40 t; omega)) (hk _ (fun V2 y => absurd y (by simp)))
        · intro _ st sk cm dg lo
          rw [cls st sk cm dg lo]
          exact a4 rfl _ _ _ _ (lo2 sk) (fun y => by omega)
      | some V1 =>
        obtain ⟨b1, C1, pd1, b2, b3, b4⟩ := a5 V1 rfl
        have nx1 : j1 < eN t → rkN (h j1) < q1 ∨ rkN (h j1) = 1 := by
          intro y
          obtain ⟨_, _, _, _, w, _⟩ := b4 [] [h j] (fun _ => false) 0 (lo2 []) (fun y => by omega)
          rcases w y with w | w
          · exact Or.inl w
          · exact Or.inr w.1
        have ih := loop_S hb hr hr1 hq hl l0 l1 l2 n' j1 (by omega) a2 (fun i hi hi2 => hM i (by omega) hi2) nx1 (fun lt => jnI (nI (h j)) (V lt) (V1 lt)) (C ++ ngs pd ++ C1) (pd1 ++ [h j]) (fun c hc => by
          rcases List.mem_append.1 hc with hc | hc
          · exact Nat.le_trans hr1 (b2 c hc)
          · rw [List.mem_singleton.1 hc]; omega) (ev_step hc (by omega) hev b3)
        obtain ⟨j2, o2, e1, e2, e3, e4, e5⟩ := ih
        have cls2 : ∀ st sk cm dg, lowR r sk → ∃ cm2 dg2, (∀ e, e ≤ d → cm2 e = cm e) ∧ dgOK h t j1 dg2 ∧ Ou h t j (st ++ C) (pd ++ sk) d cm dg false = Ou h t j1 (st ++ (C ++ ngs pd ++ C1)) (pd1 ++ [h j] ++ sk) d cm2 dg2 false := by
          intro st sk cm dg lo
          obtain ⟨cm2, dg2, f1, f2, f3, f4, f5⟩ := b4 (st ++ (C ++ ngs pd)) (h j :: sk) cm 0 (lo2 sk) (fun y => by omega)
          refine ⟨cm2, dg2, fun e he => ?_, f4, ?_⟩
          · by_cases y : e = d
            · rw [y]; exact f2 (by omega)
            · exact f1 e (by omega)
          · rw [cls st sk cm dg lo, f5]
            simp
        refine ⟨j2, o2, by omega, e2, ?_, ?_, ?_⟩
        · intro N fr isA lt asked Post G v hG hT hN hN2 hA hv hk
          obtain ⟨G', rfl⟩ : ∃ G', G = G' + 1 := ⟨G - 1, by omega⟩
          refine l2 N fr isA asked Post G' v j hT hN hN2 zj zr (fun Q hQ => a3 N fr isA lt asked Q hT hN hN2 hA (fun v2 hv2 => hQ _ _ ?_))
          exact e3 N fr isA lt asked Post G' _ (by omega) hT hN hN2 hA (fun y => by rw [hv y, hv2 V1 rfl y]) hk
        · intro y st sk cm dg lo
          obtain ⟨cm2, dg2, f1, f2, f3⟩ := cls2 st sk cm dg lo
          rw [f3]
          exact e4 y st sk cm2 dg2 lo
        · intro V2 y
          obtain ⟨C2, pd2, g1, g2, g3⟩ := e5 V2 y
          refine ⟨C2, pd2, g1, g2, fun st sk cm dg lo _ => ?_⟩
          obtain ⟨cm2, dg2, f1, f2, f3⟩ := cls2 st sk cm dg lo
          obtain ⟨cm3, dg3, k1, k2, k3, k4⟩ := g3 st sk cm2 dg2 lo f2
          exact ⟨cm3, dg3, fun e he => by rw [k1 e he, f1 e he], k2, k3, by rw [f3, k4]⟩
    · refine ⟨j, some V, Nat.le_refl _, hj, ?_, fun y => absurd y (by simp), ?_⟩
      · intro N fr isA lt asked Post G v hG hT hN hN2 hA hv hk
        obtain ⟨G', rfl⟩ : ∃ G', G = G' + 1 := ⟨G - 1, by omega⟩
        exact l1 N fr isA asked Post G' v j hT hN hN2 hj z (hk v (fun V2 y e => by
          rw [Option.some.injEq] at y
          rw [← y]
          exact hv e))
      · intro V2 y
        rw [Option.some.injEq] at y
        subst y
        refine ⟨C, pd, hpd, hev, fun st sk cm dg lo dk => ⟨cm, dg, fun _ _ => rfl, fun y => ?_, dk, rfl⟩⟩
        rcases hnx y with w | w
        · exact hl j y w (fun k => z ⟨y, k⟩)
        · omega
end
