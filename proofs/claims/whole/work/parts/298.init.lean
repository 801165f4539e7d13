/-! ===== a new object, a new model ===== -/
def x0S (r1 : Int32) (g1 : Nat → Int32) (r2 : Int32) (g2 : Nat → Int32) : XS := XS.mk 0 (fun _ => 0) 0 (fun _ => 0) 0 0 30 0 0 (fun _ => 0) (fun _ => 0) (fun _ => 0) (fun _ => 0) (fun _ => 0) (fun _ => 0) 0 0 30 0 0 (fun _ => 0) (fun _ => 0) (fun _ => 0) (fun _ => 0) (fun _ => 0) (fun _ => 0) 0 0 30 0 0 (fun _ => 0) (fun _ => 0) (fun _ => 0) (fun _ => 0) (fun _ => 0) (fun _ => 0) 0 0 (fun _ => none) (fun _ => none) 10 0 (fun _ => 0) (fun _ => 0) 12 0 (fun _ => 0) (fun _ => 0) 0 (fun _ => 0) (fun _ => 0) (fun _ => 0) (fun _ => 0) r1 0 0 0 0 0 g1 (fun _ => 0) r2 0 0 0 0 0 g2 (fun _ => 0)
def m0S : MS := MS.mk 0 0 0 0 0 .null 0 0 0 0 0 0 0 0 0 0 0 0 0 (upd (fun _ => 0) (44 : Int32).toNatClampNeg (30 : Int32)) (fun _ => 0) (fun _ => 0) (fun _ => 0) (fun _ => 0) (fun _ => 0) (fun _ => 0) (fun _ => 0) (fun _ => 0) (fun _ => 0) (fun _ => 0) (fun _ => 0) (fun _ => 0) (fun _ => 0) (fun _ => 0) (fun _ => 0) (fun _ => 0) (fun _ => 0) (fun _ => 0) (fun _ => 0) (fun _ => 0) (fun _ => 0) (fun _ => 0)
def w0 : Nat → Int32 := upd (fun _ => 0) 44 30
theorem w0_0 {i : Nat} (h : ¬ i = 44) : w0 i = 0 := by
  unfold w0 upd
  rw [if_neg h]
theorem rel_init {F : Nat} {r1 r2 : Int32} {g1 g2 : Nat → Int32} (h : RX F (fun lt => lt 0 - lt 2) r1 g1) : Rel F (x0S r1 g1 r2 g2) m0S := by
  refine ⟨0, 0, fun lt => lt 0 - lt 2, w0, ?_, ?_, fun i _ => rfl, rfl, rfl, TXr_0, ⟨[], by decide, RL_nil _, RL_nil _⟩, ⟨h, 0, rfl, by omega, Or.inl ⟨rfl, fun _ => rfl⟩⟩, ?_, ?_, ?_, ?_⟩
  · exact ⟨by omega, by omega, fun i hi => ⟨0, by omega, w0_0 (by omega)⟩, fun c hc => absurd hc (by omega), ⟨0, by omega, w0_0 (by omega)⟩, fun i _ hi => w0_0 (by omega), fun i _ hi => w0_0 (by omega)⟩
  · exact ⟨rfl, rfl, rfl, rfl, rfl, fun i hi => (w0_0 (by omega)).symm, fun i hi => (w0_0 (by omega)).symm, fun i hi => (w0_0 (by omega)).symm, fun i hi => (w0_0 (by omega)).symm, fun i hi => (w0_0 (by omega)).symm, fun i hi => (w0_0 (show ¬ 36 + i = 44 by omega)).symm⟩
  · exact ⟨0, 0, fun _ => w0, by omega, by omega, fun j hj => absurd hj (by omega), ⟨rfl, rfl, fun j hj => absurd hj (by omega)⟩, ⟨rfl, fun j hj => absurd hj (by omega)⟩⟩
  · exact ⟨rfl, 0, by omega, rfl, rfl, fun i hi => absurd hi (by omega)⟩
  · exact ⟨rfl, 0, by omega, rfl, rfl, fun i hi => absurd hi (by omega)⟩
  · exact ⟨0, by omega, rfl, fun i hi => Or.inl ⟨rfl, rfl⟩⟩
theorem s4_plain {F : Nat} {Post : (Int32 × (Nat → Int32)) → Prop} (hF : 5000 ≤ F) (k : ∀ r g, RX F (fun lt => lt 0 - lt 2) r g → Post (r, g)) : p_X4_bePlain F 0 (fun _ => 0) Post := by
  unfold p_X4_bePlain
  refine s4_addStep (st := []) (by decide) (fun i hi => absurd hi (Nat.not_lt_zero _)) (fun f1 h1 => s4_addStep (st := [-106]) (by decide) h1 (fun f2 h2 => s4_addStep (st := [-106, -103]) (by decide) h2 (fun f3 h3 => k _ _ ?_)))
  exact RX_steps (c := [-106, -103, -45]) hF (by decide) h3 (fun lt => rfl)
theorem ob_init {F : Nat} (hF : 5000 ≤ F) : p_X7_init F (fun u => p_X8_init F (fun _ => Rel F (x0S u.2.2.2.2.2.2.2.2.2.2.2.2.2.2.2.2.2.2.2.2.2.2.2.2.1.2.2.1 u.2.2.2.2.2.2.2.2.2.2.2.2.2.2.2.2.2.2.2.2.2.2.2.2.1.2.2.2 u.2.2.2.2.2.2.2.2.2.2.2.2.2.2.2.2.2.2.2.2.2.2.2.2.2.2.2.2.1 u.2.2.2.2.2.2.2.2.2.2.2.2.2.2.2.2.2.2.2.2.2.2.2.2.2.2.2.2.2) m0S)) := by
  unfold p_X7_init p_X5_init p_X3_init p_X6_init p_X2_init p_X1_init10 p_X1_init12 p_X0_init p_X4_init
  intro a5 a9 a16 a20 a27 b1 b2 b3 b4 b5 b6 a38 c1 c2 c3 c4 c5 c6 a49 d1 d2 d3 d4 d5 d6 a60 a64 a72 a79 e1 e2 a92 f1 f2 a105 a118 a126 a134 a142 a148 g1 g2
  refine s4_plain hF (fun r1 s1 h1 => ?_)
  intro a159 i1 i2
  refine s4_plain hF (fun r2 s2 h2 => ?_)
  unfold p_X8_init
  intro z1 z2 z3 z4 z5 z6 z7 z8 z9 z10 z11 z12 z13 z14 z15 z16 z17 z18 z19 z20 z21 z22 z23
  exact ⟨pk_in 44 47 (by omega), rel_init h1⟩
