/-! ===== guards: the class's call ===== -/
section
variable {F nA nC : Nat} {R : (Nat → Int32) → Int32} {w alone : Nat → Int32} {arches cats store hour drops sz top : Int32} {load sag joy bowl grief place steps stack : Nat → Int32}
theorem loaded_X : loaded nA w = XiN nA w 0 := by
  apply bit_ext
  intro x
  unfold loaded XiN
  rw [bN_bit, bN_bit]
  simp
theorem bcnt_X (hA : nA ≤ 6) : bcnt (nI (XiN nA w 0)) = nI (ctN (fun a => ! decide (w a ≤ 0)) nA) := by
  rw [← loaded_X]
  exact bc_bN _ (by omega)
theorem t7_guards {tn : Nat → Int64} {Post : Int32 → (Int32 × (Nat → Int32) × (Nat → Int32) × Int32 × (Nat → Int64)) → Prop} (hF : 5000 ≤ F) (hR : RX F R sz steps) (hV : AV nA nC w arches cats store hour drops load sag joy bowl grief place) (ok : OK nA nC w) (kk : ∀ t al2 st s5 f5, RLw (guS (hlB R w) nA nC nA).2 s5 f5 → Post (nI (mu (hlB R w) nA nC nA (guS (hlB R w) nA nC 0).1.testBit) + nI nA - nI (ctN (fun a => ! decide (w a ≤ 0)) nA)) (t, al2, st, s5, f5)) : p_X7_guards F arches cats hour sz top alone load steps stack sag joy grief bowl tn Post := by
  have hA := ok.1
  have hC := ok.2.1
  have pw := pw_nC hC
  have g0 : (guS (hlB R w) nA nC 0).1 = 2 ^ nC - 1 := rfl
  have gl := guS_lt (al := hlB R w) (nA := nA) (nC := nC) 0
  unfold p_X7_guards
  refine s7_alone hF hR hV ok (fun al2 t st hal => s6_loadedArches hF hV hA ?_)
  rw [hV.1, hV.2.1, sh_nC hC, show nI (2 ^ nC) - (1 : Int32) = nI (2 ^ nC - 1) from pk_sub (b := 1) pw.1, ← g0, loaded_X]
  have e0 : nA - 0 = nA := Nat.sub_zero nA
  refine s7_mostH (R := R) (w := w) (i := 0) hF hA hC (Nat.zero_le _) gl hal (fun m8 => ?_)
  rw [e0]
  refine s_bitCount (s3_anew ?_)
  rw [bcnt_X hA]
  exact s7_gloop (R := R) (w := w) hA hC hF hal (fun s5 f5 h5 => kk t al2 st s5 f5 h5) nA 0 F 0 tn (by omega) (by omega) (RL_nil _)
end
