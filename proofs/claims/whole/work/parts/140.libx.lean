/-! ===== methods that throw, and their catching ===== -/
abbrev xN : String := "java/util/NoSuchElementException"
abbrev xNs : List String := ["java/lang/RuntimeException", "java/lang/Exception"]
def xB : List Cond := [.declares (Bundle.init0 "java/lang/RuntimeException"), .declares (Bundle.init0 "java/lang/Exception"), .declares (Bundle.init0 Bundle.tN), .castable xN xN]
def EX (U : State) : Prop := va_Nw (.declares (Bundle.init0 "java/lang/RuntimeException")) U ∧ va_Nw (.declares (Bundle.init0 "java/lang/Exception")) U ∧ va_Nw (.declares (Bundle.init0 Bundle.tN)) U ∧ va_Nw (.castable xN xN) U
theorem EX.warm {s U : State} (hW : s.WarmedH U.vm) (h : EX s) : EX U := ⟨va_Nw.warmD hW h.1, va_Nw.warmD hW h.2.1, va_Nw.warmD hW h.2.2.1, va_Nw.warmC hW h.2.2.2⟩
theorem EX.same {u U : State} (hv : u.vm = U.vm) (h : EX u) : EX U := ⟨h.1.same rfl hv, h.2.1.same rfl hv, h.2.2.1.same rfl hv, h.2.2.2.same rfl hv⟩
theorem EX.use {args : Array Value} {s : State} (h : EX s) : ∀ w ∈ xB, w.before args s = true :=
  List.forall_mem_cons.mpr ⟨h.1.use rfl, List.forall_mem_cons.mpr ⟨h.2.1.use rfl, List.forall_mem_cons.mpr ⟨h.2.2.1.use rfl, List.forall_mem_cons.mpr ⟨h.2.2.2.use rfl, fun _ h => absurd h List.not_mem_nil⟩⟩⟩⟩
def cPX (D : va_G) (cT : Nat → ClassId) (sz : Nat) (ws : va_W) (U : State) : Prop := cP D cT sz ws U ∧ EX U
theorem cPX.blind {D : va_G} {cT : Nat → ClassId} {sz : Nat} {ws : va_W} {av : List Value} : FrameBlind (va_Pc av (cPX D cT sz ws)) := fun a U g mk q => by
  obtain ⟨q0, q1, q2⟩ := q
  exact ⟨q0, (cP.blind (D := D) (cT := cT) (sz := sz) (ws := ws) (av := av) a U g mk ⟨q0, q1⟩).2, q2.same rfl⟩
abbrev xX (D : va_G) (ws : va_W) (px : Prop) (A : Nat → Prop) : String → State → State → Prop := vx_X (fun _ : Unit => px) (fun E u t => E = xN ∧ cB D A (fun _ => ws) u t) A
def MXi {S : Type} (l : Launch) (D : va_G) (cT : Nat → ClassId) (y : MethodName) (cc : ByteArray) (nL : Nat) (ret : Option FieldType) (fr lo mc ms : Nat) (av : List Value) (ws : va_W) (post : Int32 → S → Prop) (px : Prop) (w1 : S → va_W) : Prop := ∀ sz, vx_Met l y (.code y cc nL ret :: gw) (rmO fr lo mc ms) (va_Pc av (cPX D cT sz ws)) (va_Qi post (cB D (va_A ws sz) w1) (va_A ws sz)) (xX D ws px (va_A ws sz)) mc ms (va_A ws sz)
def MXl {S : Type} (l : Launch) (D : va_G) (cT : Nat → ClassId) (y : MethodName) (cc : ByteArray) (nL : Nat) (ret : Option FieldType) (fr lo mc ms : Nat) (av : List Value) (ws : va_W) (post : Int64 → S → Prop) (px : Prop) (w1 : S → va_W) : Prop := ∀ sz, vx_Met l y (.code y cc nL ret :: gw) (rmO fr lo mc ms) (va_Pc av (cPX D cT sz ws)) (va_Ql post (cB D (va_A ws sz) w1) (va_A ws sz)) (xX D ws px (va_A ws sz)) mc ms (va_A ws sz)
theorem x_good : ∀ w ∈ (vx_at0 RX7 155 xN xNs).filter goodWord, w ∈ gw := by decide +kernel
theorem x_rest : ∀ w ∈ (vx_at0 RX7 155 xN xNs).filter (fun w => !goodWord w), w ∈ xB := by decide +kernel
theorem x_ot : ∀ w ∈ Cond.classLink RX7 153 xN :: Cond.initialized xN :: vx_at0 RX7 155 xN xNs, vx_ot w = true := by decide +kernel
section XT
variable {p : Program} {l : Launch} {e : Env} {R : Room} {s : State} {m : MethodId} {args : Array Value} {below : List Frame} {meth : Method} {c : Code} {H : Heap} {locs : List Loc} {cells slots : Nat} {Q : State → Prop}
variable {cc : ByteArray} {pc nL : Nat} {ls : Array Slot} {rest : List Value} {D : va_G} {cT : Nat → ClassId} {A : Nat → Prop} {ws : va_W} {own : String}
theorem k_throw {Qc : Array Value → State → Outcome → State → Prop} {mc ms : Nat} {px : Prop} (C0 : Cx p s m args meth c D cT cc nL RX7) (hfl : l.stackTraces = false) (hE : EX s) (htab : ∀ x ∈ c.exceptionTable.toList, False) (hP : va_P D cls9 ws H) (hD : va_D A ws) (hS : va_S A s.heap H locs) (hA : AO cT s A) (hsz : ls.size = nL) (hpx : px)
    (d0 : decode cc pc = .ok (.new 153, 3)) (d3 : decode cc (pc + 3) = .ok (.dup, 1)) (d4 : decode cc (pc + 4) = .ok (.invokespecial 155, 3)) (d7 : decode cc (pc + 7) = .ok (.athrow, 1)) (h1 : 5 < R.frames) (h2 : (rest.map fun v => v.category).sum + 81 ≤ R.locals) (h3 : cells + 1 ≤ R.cells) (h4 : slots + 6 ≤ R.slots) (h5 : cells + 1 ≤ mc) (h6 : slots + 6 ≤ ms) :
    W p l e R s m args below meth c H locs cells slots (vx_MQ below Qc (xX D ws px A) args s mc ms A) (F0 m pc ls rest) :=
  vx_throw0 (A := A) C0.x C0.b hfl C0.ow (by decide) (by decide) (C0.t w4_91) (C0.t w1_16) (vx_hat (fun w h => C0.t (x_good w h)) x_rest hE.use) x_ot (C0.2.2.2.2.2.2.1.narrow hA.2) (C0.2.2.2.2.2.2.2.narrow hA.2) hS (hsz.trans C0.ml.symm) d0 d3 d4 d7 (fun x hx => (htab x hx).elim) h1 h2 h3 h4 C0.2.2.1
    (fun t _ hz hk => ⟨(), hpx, ⟨rfl, hP.kept (fun k q hq => hk q.1 (hP k q hq).lt), hD⟩, Nat.le_trans hS.1 hz, fun q h1 h2 => by rw [hk q (Nat.lt_of_lt_of_le h1 hS.1)]; exact hS.2.1 q h1 h2⟩) hS.2.2 h5 h6
end XT
section XE
variable {l : Launch} {D : va_G} {cT : Nat → ClassId} {y : MethodName} {cc : ByteArray} {nL fr lo mc ms : Nat} {ret : Option FieldType} {av : List Value} {ws : va_W} {S : Type} {w1 : S → va_W} {px : Prop}
theorem x_ofW {Qc : (Nat → Prop) → Array Value → State → Outcome → State → Prop} (hy : plainName y.cls = true) (hlen : (lg_sl av).length ≤ nL)
    (body : ∀ (p : Program) (e : Env) (s : State) (m : MethodId) (below : List Frame) (meth : Method) (c : Code) (A : Nat → Prop), AO cT s A → Cx p s m av.toArray meth c D cT cc nL y.cls → EX s → (∀ x ∈ c.exceptionTable.toList, False) → meth.sig.returnType = ret → va_P D cls9 ws s.heap → va_D A ws → ∀ ls, lv_has ls nL (lv_args 0 av) →
      W p l e (rmO fr lo mc ms) s m av.toArray below meth c s.heap [] 0 0 (vx_MQ below (Qc A) (xX D ws px A) av.toArray s mc ms A) (F0 m 0 ls [])) (sz : Nat) : vx_Met l y (.code y cc nL ret :: gw) (rmO fr lo mc ms) (va_Pc av (cPX D cT sz ws)) (Qc (va_A ws sz)) (xX D ws px (va_A ws sz)) mc ms (va_A ws sz) := by
  refine vx_ofW (cc := cc) (maxL := nL) (ret := ret) hy rfl ?_
  intro p e s m args below meth c s₁ B hml htab hv
  obtain ⟨rfl, ⟨hsz, hP, hK, hD, hz, hG⟩, hE⟩ := hv
  subst hsz
  rw [lg_entry_eq]
  exact body p e s m below meth c (va_A ws s.heap.size) ⟨fun q h => Or.inr h, fun q h => h.elim (fun ⟨k, e, hk⟩ => hD.2 k _ hk) (fun h => Nat.le_trans hz h)⟩ ⟨⟨B.exec, B.bytes, hml, findClass_of_methodNamed B.named, fun w hw => atoms_spec B.pre w (List.mem_cons_of_mem _ hw)⟩, hK, B.notSynchronized, hz, hG⟩ hE htab B.returns hP hD.self _ (lv_entry av hlen)
theorem MXi.of {post : Int32 → S → Prop} (hy : plainName y.cls = true) (hlen : (lg_sl av).length ≤ nL)
    (body : ∀ (p : Program) (e : Env) (s : State) (m : MethodId) (below : List Frame) (meth : Method) (c : Code) (A : Nat → Prop), AO cT s A → Cx p s m av.toArray meth c D cT cc nL y.cls → EX s → (∀ x ∈ c.exceptionTable.toList, False) → meth.sig.returnType = ret → va_P D cls9 ws s.heap → va_D A ws → ∀ ls, lv_has ls nL (lv_args 0 av) →
      W p l e (rmO fr lo mc ms) s m av.toArray below meth c s.heap [] 0 0 (vx_MQ below (va_Qi post (cB D A w1) A) (xX D ws px A) av.toArray s mc ms A) (F0 m 0 ls [])) : MXi l D cT y cc nL ret fr lo mc ms av ws post px w1 := fun sz => x_ofW (Qc := fun A => va_Qi post (cB D A w1) A) hy hlen body sz
theorem MXl.of {post : Int64 → S → Prop} (hy : plainName y.cls = true) (hlen : (lg_sl av).length ≤ nL)
    (body : ∀ (p : Program) (e : Env) (s : State) (m : MethodId) (below : List Frame) (meth : Method) (c : Code) (A : Nat → Prop), AO cT s A → Cx p s m av.toArray meth c D cT cc nL y.cls → EX s → (∀ x ∈ c.exceptionTable.toList, False) → meth.sig.returnType = ret → va_P D cls9 ws s.heap → va_D A ws → ∀ ls, lv_has ls nL (lv_args 0 av) →
      W p l e (rmO fr lo mc ms) s m av.toArray below meth c s.heap [] 0 0 (vx_MQ below (va_Ql post (cB D A w1) A) (xX D ws px A) av.toArray s mc ms A) (F0 m 0 ls [])) : MXl l D cT y cc nL ret fr lo mc ms av ws post px w1 := fun sz => x_ofW (Qc := fun A => va_Ql post (cB D A w1) A) hy hlen body sz
end XE
