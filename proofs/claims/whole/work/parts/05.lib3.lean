theorem rm_f {a f lo mc ms : Nat} (h : a ≤ f) : a ≤ (rmO f lo mc ms).frames := h
theorem rm_l {a f lo mc ms : Nat} (h : a ≤ lo) : a ≤ (rmO f lo mc ms).locals := h
section LIB3
variable {p : Program} {l : Launch} {e : Env} {R : Room} {s : State} {m : MethodId} {args : Array Value} {below : List Frame} {meth : Method} {c : Code} {H : Heap} {locs : List Loc} {cells slots : Nat} {Q : State → Prop}
variable {cc : ByteArray} {pc nL : Nat} {ls : Array Slot} {rest : List Value} {D : va_G} {cT : Nat → ClassId} {A : Nat → Prop} {a : Nat} {ws : va_W} {own : String} {idx : Nat}
theorem k_max (C0 : Cx p s m args meth c D cT cc nL own) (hw : Cond.methodLink own idx yJ9_max_7cf53 ∈ gw) (hsz : ls.size = nL) (hf : 1 ≤ R.frames) (hlo : (rest.map fun v => v.category).sum + 13 ≤ R.locals) (h1 : cells ≤ R.cells) (h2 : slots ≤ R.slots) {x y : Int32} (hdg : decode cc pc = .ok (.invokestatic idx, 3))
    (kk : W p l e R s m args below meth c H locs cells slots Q (F0 m (pc + 3) ls (.int (if x < y then y else x) :: rest))) : W p l e R s m args below meth c H locs cells slots Q (F0 m pc ls (.int y :: .int x :: rest)) :=
  va_mmax C0.x C0.b (C0.ml.trans hsz.symm) C0.ow (C0.t hw) (C0.t w2_122) (C0.t w1_12) (C0.t w2_123) hf hlo h1 h2 hdg kk
theorem k_min (C0 : Cx p s m args meth c D cT cc nL own) (hw : Cond.methodLink own idx yJ9_min_7cf53 ∈ gw) (hsz : ls.size = nL) (hf : 1 ≤ R.frames) (hlo : (rest.map fun v => v.category).sum + 13 ≤ R.locals) (h1 : cells ≤ R.cells) (h2 : slots ≤ R.slots) {x y : Int32} (hdg : decode cc pc = .ok (.invokestatic idx, 3))
    (kk : W p l e R s m args below meth c H locs cells slots Q (F0 m (pc + 3) ls (.int (if y < x then y else x) :: rest))) : W p l e R s m args below meth c H locs cells slots Q (F0 m pc ls (.int y :: .int x :: rest)) :=
  va_mmin C0.x C0.b (C0.ml.trans hsz.symm) C0.ow (C0.t hw) (C0.t w2_119) (C0.t w1_12) (C0.t w2_120) hf hlo h1 h2 hdg kk
theorem k_abs (C0 : Cx p s m args meth c D cT cc nL own) (hw : Cond.methodLink own idx yJ9_abs_0f7a4 ∈ gw) (hsz : ls.size = nL) (hf : 1 ≤ R.frames) (hlo : (rest.map fun v => v.category).sum + 13 ≤ R.locals) (h1 : cells ≤ R.cells) (h2 : slots ≤ R.slots) {x : Int32} (hdg : decode cc pc = .ok (.invokestatic idx, 3))
    (kk : W p l e R s m args below meth c H locs cells slots Q (F0 m (pc + 3) ls (.int (if 0 ≤ x then x else 0 - x) :: rest))) : W p l e R s m args below meth c H locs cells slots Q (F0 m pc ls (.int x :: rest)) :=
  va_mabs C0.x C0.b (C0.ml.trans hsz.symm) C0.ow (C0.t hw) (C0.t w3_5) (C0.t w1_12) (C0.t w3_6) hf hlo h1 h2 hdg kk
theorem k_cpy (C0 : Cx p s m args meth c D cT cc nL own) (hw : Cond.methodLink own idx arraycopyName ∈ gw) (hsz : ls.size = nL) (hP : va_P D cls9 ws H) (hD : va_D A ws) (hS : va_S A s.heap H locs) (q0 q1 : Nat) {a0 n0 n1 : Nat} {f g : Nat → Int32} (ha0 : ws[q0]? = some (a0, aI cT n0 f)) (ha1 : ws[q1]? = some (a, aI cT n1 g))
    {sp dp n : Int32} (h1 : ¬ sp < 0) (h2 : ¬ dp < 0) (h3 : ¬ n < 0) (h4 : sp.toNatClampNeg + n.toNatClampNeg ≤ n0) (h5 : dp.toNatClampNeg + n.toNatClampNeg ≤ n1) {ws' : va_W} (hws : ws.set q1 (a, aI cT n1 (va_cpy f g sp.toNatClampNeg dp.toNatClampNeg n.toNatClampNeg)) = ws') (hf : 1 ≤ R.frames) (hlo : (rest.map fun v => v.category).sum + (nativeFrameWords "java/lang/System" "arraycopy" 5 + 11) ≤ R.locals) (hdg : decode cc pc = .ok (.invokestatic idx, 3))
    (kk : ∀ (H1 : Heap) (locs1 : List Loc), va_P D cls9 ws' H1 → va_D A ws' → va_S A s.heap H1 locs1 → W p l e R s m args below meth c H1 locs1 cells slots Q (F0 m (pc + 3) ls rest)) : W p l e R s m args below meth c H locs cells slots Q (F0 m pc ls (.int n :: .int dp :: .ref a :: .int sp :: .ref a0 :: rest)) := by
  subst hws
  exact va_copyi C0.x C0.b (C0.ml.trans hsz.symm) C0.ow (C0.t hw) (C0.t w2_141) (C0.t w2_140) (C0.t w1_17) C0.K hP hD hS q0 q1 0 0 ha0 ha1 rfl rfl rfl h1 h2 h3 h4 h5 (fun _ _ => rfl) hf hlo hdg kk
theorem ne_toInt {x v : Int32} {k : Int} (hk : v.toInt = k) (h : ¬ x = v) : x.toInt ≠ k := fun q => h (Int32.toInt_inj.mp (q.trans hk.symm))
theorem sw_def {x : Int32} {dflt lo hi : Int} {offs : Array Int} {len tgt : Nat} (hexec : p.tables.exec = Jvm.exec) (hb : c.code = cc) (hdg : decode cc pc = .ok (.tableswitch dflt lo hi offs, len)) (ht : (pc : Int) + dflt = (tgt : Int)) (hsz : hi + 1 = lo + (offs.size : Int)) (hd : ∀ k : Nat, k < offs.size → x.toInt = lo + (k : Int) → offs[k]? = some dflt)
    (kk : W p l e R s m args below meth c H locs cells slots Q (F0 m tgt ls rest)) : W p l e R s m args below meth c H locs cells slots Q (F0 m pc ls (.int x :: rest)) := by
  by_cases h1 : x.toInt < lo
  · exact lv_tableOut hexec hb hdg (Or.inl h1) ht kk
  · by_cases h2 : hi < x.toInt
    · exact lv_tableOut hexec hb hdg (Or.inr h2) ht kk
    · exact lv_tableIn hexec hb hdg h1 h2 (hd (x.toInt - lo).toNat (by omega) (by omega)) ht kk
end LIB3
