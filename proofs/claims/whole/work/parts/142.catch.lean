/-! ===== catching: the law's own static methods with a table ===== -/
section LCR
variable {p : Program} {l : Launch} {e : Env} {R : Room} {s : State} {m : MethodId} {args : Array Value} {below : List Frame} {meth : Method} {c : Code} {H : Heap} {locs : List Loc} {cells slots : Nat} {Q : State → Prop}
variable {pc : Nat} {ls : Array Slot} {rest : List Value}
theorem vx_catch {own name : String} {E : String} {ce : Cell} {q : Addr} (hown : s.vm.findClass own = some m.cls) (pre : List ExceptionTableEntry) (x : ExceptionTableEntry) (suf : List ExceptionTableEntry) (hsplit : c.exceptionTable.toList = pre ++ x :: suf)
    (hpass : ∀ z ∈ pre, covers z pc = false ∨ (z.catchType ≠ 0 ∧ ∃ nm : String, (Cond.classLink own z.catchType nm).before args s = true ∧ va_Nc E nm s)) (hx : covers x pc = true) (h0 : x.catchType ≠ 0)
    (hlink : (Cond.classLink own x.catchType name).before args s = true) (hcast : (Cond.castable E name).before args s = true) (hcell : H[q]? = some ce) (hv : ce.vm = .none) (hcl : s.vm.findClass E = some ce.cls)
    (kk : W p l e R s m args below meth c H locs cells slots Q (F0 m x.handlerPc ls [.ref q])) : vx_W p l e R s m args below meth c H locs cells slots Q (F0 m pc ls rest) q := by
  intro T hT X
  have hpl : e.platform.magicAccessors = ({} : Platform).magicAccessors := by rw [X.admits.platform]
  obtain ⟨c3, c4, hc3, hc4, hasg⟩ := Cond.castable_spec hcast
  cases Option.some.inj (hc3.symm.trans hcl)
  obtain ⟨c5, hc5, hcl5⟩ := Cond.classLink_spec hown hlink e.platform hpl
  cases Option.some.inj (hc4.symm.trans hc5)
  obtain ⟨vm', X', st⟩ := Jvm.Stand.thenCaughtThrough X q (g := F0 m pc ls rest) rfl (Steps.refl _) (by rw [hT]; exact hcell) (by rw [hv]; rfl) (by obtain ⟨k9, h9, -⟩ := Vm.findClass_spec hcl; exact ⟨k9, h9⟩) pre x suf hsplit
    (fun z hz => by
      rcases hpass z hz with h | ⟨hz0, nm, hl1, hn1⟩
      · exact Or.inl h
      · obtain ⟨c6, hc6, hcl6⟩ := Cond.classLink_spec hown hl1 e.platform hpl
        obtain ⟨a8, b8, h1, h2, h3⟩ := hn1
        cases Option.some.inj (h1.symm.trans hcl)
        cases Option.some.inj (h2.symm.trans hc6)
        exact Or.inr ⟨hz0, _, hcl6, h3⟩) hx (Or.inr ⟨h0, c4, hcl5, hasg⟩)
  obtain ⟨t, a1, b1⟩ := kk (T.setVm vm') hT X'
  exact ⟨t, st.trans a1, b1⟩
end LCR
def MLi {S : Type} (l : Launch) (D : va_G) (cT : Nat → ClassId) (y : MethodName) (cc : ByteArray) (nL : Nat) (ret : Option FieldType) (hh : List (Nat × Nat × Nat × Nat)) (fr lo mc ms : Nat) (av : List Value) (ws : va_W) (post : Int32 → S → Prop) (w1 : S → va_W) : Prop := ∀ sz, Met l y (.codeWith y cc nL ret hh :: gw) (rmO fr lo mc ms) (va_Pc av (cPX D cT sz ws)) (va_Qi post (cB D (va_A ws sz) w1) (va_A ws sz)) mc ms (va_A ws sz)
theorem ml_ofW {l : Launch} {y : MethodName} {ws ws' : List Cond} {rm : Room} {Pc : Array Value → State → Prop} {Qc : Array Value → State → Outcome → State → Prop} {mc ms : Nat} {free : Addr → Prop} {cc : ByteArray} {maxL : Nat} {ret : Option FieldType} {hh : List (Nat × Nat × Nat × Nat)}
    (hy : plainName y.cls = true) (hw : ws = Cond.codeWith y cc maxL ret hh :: ws')
    (body : ∀ p e s m args below meth c s₁, BodyLoose p l y (headSpec ws rm) cc maxL ret e s m args below meth c s₁ → c.maxLocals = maxL → c.exceptionTable.toList = tableOf hh → Pc args s →
      W p l e (headSpec ws rm).room s m args below meth c s.heap [] 0 0 (MQ below Qc args s mc ms free) (entryFrame m args maxL)) : Met l y ws rm Pc Qc mc ms free := by
  refine MetFree.of_bodyS (code := cc) (maxLocals := maxL) (ret := ret) hy ?_ ?_
  · intro args s m h hn
    obtain ⟨m9, meth, c, hn9, h1, h2, h3, h4, -, h5, h6, -⟩ := Cond.codeWith_spec (atoms_spec (ws := ws) h _ (by rw [hw]; exact List.mem_cons_self))
    cases hn.symm.trans hn9
    exact ⟨meth, c, h1, h2, h3, h4, h5, h6⟩
  · intro p e s m args below meth c s₁ B hml hP _
    have hh0 : s₁.heap = s.heap := by rw [B.state]; rfl
    have ht : c.exceptionTable.toList = tableOf hh := vx_table (x := y) B (atoms_spec (ws := ws) B.pre _ (by rw [hw]; exact List.mem_cons_self))
    obtain ⟨t, a1, o, b1, b2, b3⟩ := body p e s m args below meth c s₁ B hml ht hP s₁ hh0 (Stand.of_body B)
    exact ⟨t, o, a1, b1, b2, ⟨b3.1, b3.2⟩⟩
section MLE
variable {l : Launch} {D : va_G} {cT : Nat → ClassId} {y : MethodName} {cc : ByteArray} {nL fr lo mc ms : Nat} {ret : Option FieldType} {av : List Value} {ws : va_W} {S : Type} {w1 : S → va_W} {hh : List (Nat × Nat × Nat × Nat)}
theorem MLi.of {post : Int32 → S → Prop} (hy : plainName y.cls = true) (hlen : (lg_sl av).length ≤ nL)
    (body : ∀ (p : Program) (e : Env) (s : State) (m : MethodId) (below : List Frame) (meth : Method) (c : Code) (A : Nat → Prop), AO cT s A → Cx p s m av.toArray meth c D cT cc nL y.cls → EX s → c.exceptionTable.toList = tableOf hh → meth.sig.returnType = ret → va_P D cls9 ws s.heap → va_D A ws → ∀ ls, lv_has ls nL (lv_args 0 av) →
      W p l e (rmO fr lo mc ms) s m av.toArray below meth c s.heap [] 0 0 (MQ below (va_Qi post (cB D A w1) A) av.toArray s mc ms A) (F0 m 0 ls [])) : MLi l D cT y cc nL ret hh fr lo mc ms av ws post w1 := by
  intro sz
  refine ml_ofW (cc := cc) (maxL := nL) (ret := ret) (hh := hh) hy rfl ?_
  intro p e s m args below meth c s₁ B hml htab hv
  obtain ⟨rfl, ⟨hsz, hP, hK, hD, hz, hG⟩, hE⟩ := hv
  subst hsz
  rw [lg_entry_eq]
  exact body p e s m below meth c (va_A ws s.heap.size) ⟨fun q h => Or.inr h, fun q h => h.elim (fun ⟨k, e, hk⟩ => hD.2 k _ hk) (fun h => Nat.le_trans hz h)⟩ ⟨⟨B.exec, B.bytes, hml, findClass_of_methodNamed B.named, fun w hw => atoms_spec B.pre w (List.mem_cons_of_mem _ hw)⟩, hK, B.notSynchronized, hz, hG⟩ hE htab B.returns hP hD.self _ (lv_entry av hlen)
end MLE
section CALLX
variable {p : Program} {l : Launch} {e : Env} {R : Room} {s : State} {m : MethodId} {args : Array Value} {below : List Frame} {meth : Method} {c : Code} {H : Heap} {locs : List Loc} {cells slots : Nat} {Q : State → Prop}
variable {cc : ByteArray} {pc nL : Nat} {ls : Array Slot} {rest st : List Value} {D : va_G} {cT : Nat → ClassId} {A : Nat → Prop} {b : Nat} {ws wc wr : va_W} {own : String}
variable {y : MethodName} {bytes : ByteArray} {maxL n idx fr lo mc ms : Nat} {ret : Option FieldType} {As : List Value} {S : Type} {w1 w2 : S → va_W} {px : Prop} {hh : List (Nat × Nat × Nat × Nat)}
theorem k_preX (C0 : Cx p s m args meth c D cT cc nL own) (hE : EX s) (hS : va_S A s.heap H locs) (hA : AO cT s A) (hP : va_P D cls9 wc H) (hD : va_D A wc) : ∀ U : State, U.heap = H → s.WarmedH U.vm → cPX D cT H.size wc U :=
  fun U hU hW => ⟨k_pre C0 hS hA hP hD U hU hW, hE.warm hW⟩
theorem k_runX {Qc : Array Value → State → Outcome → State → Prop} {XC : String → State → State → Prop} {free : Addr → Prop} (C0 : Cx p s m args meth c D cT cc nL own) (hE : EX s) (hL : LkV own idx y bytes maxL ret n) (hM : vx_Met l y (.code y bytes maxL ret :: gw) (rmO fr lo mc ms) (va_Pc (.ref b :: As) (cPX D cT H.size wc)) Qc XC mc ms free)
    (hP : va_P D cls9 ws H) (hD : va_D A ws) (hS : va_S A s.heap H locs) (hA : AO cT s A) (isC : List Nat) (hC : isC.map (fun i => ws[i]?) = wc.map some) (hnd : va_nd isC = true) {ci : Nat} {fs : List Value} {T : u_T} {N : Nat} (hrec : wc[0]? = some (b, .inr (ci, fs))) (hcl : cls9[ci]? = some (y.cls, T, N))
    (hR : fr + 1 ≤ R.frames ∧ 8 + (maxL + 11) + lo ≤ R.locals) (hn : As.length = n) (hsize : ls.size = nL) (hst : st = As.reverse ++ .ref b :: rest) (hW : (rest.map fun v => v.category).sum ≤ 8) (hdg : decode cc pc = .ok (.invokevirtual idx, 3)) (hf : cells + mc ≤ R.cells ∧ slots + ms ≤ R.slots) :
    vx_Run p l e R s m args below meth c H locs cells slots mc ms (F0 m pc ls st) rest (Qc (Value.ref b :: As).toArray) XC free := by
  obtain ⟨h1, h2, h3, h4, h5, h6⟩ := hL
  have hPc := subP hP isC hC
  have hDc := hD.sub isC hnd hC
  exact vx_runV (C := y.cls) C0.1 hM ⟨k_cb C0 h1 h4 h5 h6 hR, C0.t h2, C0.t h3⟩ ⟨cPX.blind, va_recv C0.K hPc hcl hrec, fun U hU hW => ⟨rfl, k_preX C0 hE hS hA hPc hDc U hU hW⟩⟩ rfl hn hsize hst (lv_room hW) hdg hf
theorem k_VXi {post : Int32 → S → Prop} (C0 : Cx p s m args meth c D cT cc nL own) (hE : EX s) (hL : LkV own idx y bytes maxL ret n) (hM : MXi l D cT y bytes maxL ret fr lo mc ms (.ref b :: As) wc post px w1) (hP : va_P D cls9 ws H) (hD : va_D A ws) (hS : va_S A s.heap H locs) (hA : AO cT s A) (isC isR : List Nat) (hnum : kn isC isR = true) (hC : isC.map (fun i => ws[i]?) = wc.map some) (hR : isR.map (fun i => ws[i]?) = wr.map some) (hw2 : ∀ u, wr ++ w1 u = w2 u) {wx : va_W} (hwx : wr ++ wc = wx) {ci : Nat} {fs : List Value} {T : u_T} {N : Nat} (hrec : wc[0]? = some (b, .inr (ci, fs))) (hcl : cls9[ci]? = some (y.cls, T, N)) (hRm : fr + 1 ≤ R.frames ∧ 8 + (maxL + 11) + lo ≤ R.locals) (hn : As.length = n) (hsize : ls.size = nL) (hst : st = As.reverse ++ .ref b :: rest) (hW : (rest.map fun v => v.category).sum ≤ 8) (hdg : decode cc pc = .ok (.invokevirtual idx, 3)) (hf : cells + mc ≤ R.cells ∧ slots + ms ≤ R.slots)
    (kx : ∀ (q : Nat) (ce : Cell) (H1 : Heap) (locs1 : List Loc), px → H1[q]? = some ce → ce.vm = .none → s.vm.findClass xN = some ce.cls → va_P D cls9 wx H1 → va_D A wx → va_S A s.heap H1 locs1 → vx_W p l e R s m args below meth c H1 locs1 (cells + mc) (slots + ms) Q (F0 m pc ls rest) q)
    (kk : ∀ (r : Int32) (u : S) (H1 : Heap) (locs1 : List Loc), post r u → va_P D cls9 (w2 u) H1 → va_D A (w2 u) → va_S A s.heap H1 locs1 → W p l e R s m args below meth c H1 locs1 (cells + mc) (slots + ms) Q (F0 m (pc + 3) ls (.int r :: rest))) : W p l e R s m args below meth c H locs cells slots Q (F0 m pc ls st) := by
  have hnd := hnum
  rw [kn, Bool.and_eq_true, Bool.and_eq_true] at hnd
  have hFc := va_free hD hS hA.1 isC hC
  refine vx_calli (k_runX C0 hE hL (hM H.size) hP hD hS hA isC hC (nd2_ok _ hnd.1.1) hrec hcl hRm hn hsize hst hW hdg hf) hS (fun q _ h => hFc q h) hFc (fun q _ h => hFc q h) ?_ ?_
  · intro E ce q9 u t H1 locs1 ht hvm hpx hB hz1 hk1 hS1 hce hcv hfc
    obtain ⟨rfl, hP1, hD1⟩ := hB
    rw [ht] at hP1
    obtain ⟨hP2, hD2⟩ := k_join hP hD isC isR hnum hC hR hwx hk1 hFc hP1 hD1
    exact kx q9 ce H1 locs1 hpx hce hcv hfc hP2 hD2 hS1
  · intro r u t H1 locs1 ht hvm hw hB hz1 hk1 hS1
    obtain ⟨hP1, hD1⟩ := hB
    rw [ht] at hP1
    obtain ⟨hP2, hD2⟩ := k_join hP hD isC isR hnum hC hR (hw2 u) hk1 hFc hP1 hD1
    exact kk r u H1 locs1 hw hP2 hD2 hS1
theorem k_VXl {post : Int64 → S → Prop} (C0 : Cx p s m args meth c D cT cc nL own) (hE : EX s) (hL : LkV own idx y bytes maxL ret n) (hM : MXl l D cT y bytes maxL ret fr lo mc ms (.ref b :: As) wc post px w1) (hP : va_P D cls9 ws H) (hD : va_D A ws) (hS : va_S A s.heap H locs) (hA : AO cT s A) (isC isR : List Nat) (hnum : kn isC isR = true) (hC : isC.map (fun i => ws[i]?) = wc.map some) (hR : isR.map (fun i => ws[i]?) = wr.map some) (hw2 : ∀ u, wr ++ w1 u = w2 u) {wx : va_W} (hwx : wr ++ wc = wx) {ci : Nat} {fs : List Value} {T : u_T} {N : Nat} (hrec : wc[0]? = some (b, .inr (ci, fs))) (hcl : cls9[ci]? = some (y.cls, T, N)) (hRm : fr + 1 ≤ R.frames ∧ 8 + (maxL + 11) + lo ≤ R.locals) (hn : As.length = n) (hsize : ls.size = nL) (hst : st = As.reverse ++ .ref b :: rest) (hW : (rest.map fun v => v.category).sum ≤ 8) (hdg : decode cc pc = .ok (.invokevirtual idx, 3)) (hf : cells + mc ≤ R.cells ∧ slots + ms ≤ R.slots)
    (kx : ∀ (q : Nat) (ce : Cell) (H1 : Heap) (locs1 : List Loc), px → H1[q]? = some ce → ce.vm = .none → s.vm.findClass xN = some ce.cls → va_P D cls9 wx H1 → va_D A wx → va_S A s.heap H1 locs1 → vx_W p l e R s m args below meth c H1 locs1 (cells + mc) (slots + ms) Q (F0 m pc ls rest) q)
    (kk : ∀ (r : Int64) (u : S) (H1 : Heap) (locs1 : List Loc), post r u → va_P D cls9 (w2 u) H1 → va_D A (w2 u) → va_S A s.heap H1 locs1 → W p l e R s m args below meth c H1 locs1 (cells + mc) (slots + ms) Q (F0 m (pc + 3) ls (.long r :: rest))) : W p l e R s m args below meth c H locs cells slots Q (F0 m pc ls st) := by
  have hnd := hnum
  rw [kn, Bool.and_eq_true, Bool.and_eq_true] at hnd
  have hFc := va_free hD hS hA.1 isC hC
  refine vx_calll (k_runX C0 hE hL (hM H.size) hP hD hS hA isC hC (nd2_ok _ hnd.1.1) hrec hcl hRm hn hsize hst hW hdg hf) hS (fun q _ h => hFc q h) hFc (fun q _ h => hFc q h) ?_ ?_
  · intro E ce q9 u t H1 locs1 ht hvm hpx hB hz1 hk1 hS1 hce hcv hfc
    obtain ⟨rfl, hP1, hD1⟩ := hB
    rw [ht] at hP1
    obtain ⟨hP2, hD2⟩ := k_join hP hD isC isR hnum hC hR hwx hk1 hFc hP1 hD1
    exact kx q9 ce H1 locs1 hpx hce hcv hfc hP2 hD2 hS1
  · intro r u t H1 locs1 ht hvm hw hB hz1 hk1 hS1
    obtain ⟨hP1, hD1⟩ := hB
    rw [ht] at hP1
    obtain ⟨hP2, hD2⟩ := k_join hP hD isC isR hnum hC hR (hw2 u) hk1 hFc hP1 hD1
    exact kk r u H1 locs1 hw hP2 hD2 hS1
end CALLX
section CALLL
variable {p : Program} {l : Launch} {e : Env} {R : Room} {s : State} {m : MethodId} {args : Array Value} {below : List Frame} {meth : Method} {c : Code} {H : Heap} {locs : List Loc} {cells slots : Nat} {Q : State → Prop}
variable {cc : ByteArray} {pc nL : Nat} {ls : Array Slot} {rest st : List Value} {D : va_G} {cT : Nat → ClassId} {A : Nat → Prop} {ws wc wr : va_W} {own : String}
variable {y : MethodName} {bytes : ByteArray} {maxL n idx fr lo mc ms : Nat} {ret : Option FieldType} {As : List Value} {S : Type} {w1 w2 : S → va_W} {hh : List (Nat × Nat × Nat × Nat)}
theorem gw_goodS (h1 : Cond.methodLink own idx y ∈ gw) (h2 : Cond.static y ∈ gw) (h3 : Cond.initialized y.cls ∈ gw) (h4 : Cond.codeWith y bytes maxL ret hh ∈ gw) : GoodIn gw (va_wsS own idx y (.codeWith y bytes maxL ret hh :: gw)) := fun w hw => by
  rcases List.mem_append.mp hw with h | h
  · have hm : w ∈ gw := by
      rcases List.mem_cons.mp h with h | h
      · rw [h]; exact h1
      rcases List.mem_cons.mp h with h | h
      · rw [h]; exact h2
      rcases List.mem_cons.mp h with h | h
      · rw [h]; exact h3
      cases h
    exact gw_good hm w List.mem_cons_self
  · exact gw_good h4 w h
/-- the law's call of a static method with a table -/
theorem k_SLi {post : Int32 → S → Prop} (C0 : Cx p s m args meth c D cT cc nL own) (hE : EX s) (h1 : Cond.methodLink own idx y ∈ gw) (h2 : Cond.static y ∈ gw) (h3 : Cond.initialized y.cls ∈ gw) (h4 : Cond.codeWith y bytes maxL ret hh ∈ gw) (h5 : Ld y n) (hM : MLi l D cT y bytes maxL ret hh fr lo mc ms As wc post w1) (hP : va_P D cls9 ws H) (hD : va_D A ws) (hS : va_S A s.heap H locs) (hA : AO cT s A) (isC isR : List Nat) (hnum : kn isC isR = true) (hC : isC.map (fun i => ws[i]?) = wc.map some) (hR : isR.map (fun i => ws[i]?) = wr.map some) (hw2 : ∀ u, wr ++ w1 u = w2 u) (hRm : fr + 1 ≤ R.frames ∧ 8 + (maxL + 11) + lo ≤ R.locals) (hn : As.length = n) (hsize : ls.size = nL) (hst : st = As.reverse ++ rest) (hW : (rest.map fun v => v.category).sum ≤ 8) (hdg : decode cc pc = .ok (.invokestatic idx, 3)) (hf : cells + mc ≤ R.cells ∧ slots + ms ≤ R.slots)
    (kk : ∀ (r : Int32) (u : S) (H1 : Heap) (locs1 : List Loc), post r u → va_P D cls9 (w2 u) H1 → va_D A (w2 u) → va_S A s.heap H1 locs1 → W p l e R s m args below meth c H1 locs1 (cells + mc) (slots + ms) Q (F0 m (pc + 3) ls (.int r :: rest))) : W p l e R s m args below meth c H locs cells slots Q (F0 m pc ls st) := by
  have hnd := hnum
  rw [kn, Bool.and_eq_true, Bool.and_eq_true] at hnd
  have hPc := subP hP isC hC
  have hDc := hD.sub isC (nd2_ok _ hnd.1.1) hC
  exact k_wi (vx_runSW C0.1 (hM H.size) (vx_cwSW n (fun w h => C0.t h) (gw_goodS h1 h2 h3 h4) rfl rfl rfl h5 hRm) ⟨cPX.blind, fun U hU hW => ⟨rfl, k_preX C0 hE hS hA hPc hDc U hU hW⟩⟩ rfl hn hsize hst (lv_room hW) hdg hf) hP hD hS hA isC isR hnum hC hR hw2 kk
end CALLL
