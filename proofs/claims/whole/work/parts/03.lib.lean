/-! ===== the worlds of this claim: classes, array kinds, cells ===== -/
abbrev cls9 : List vw_C := [(RX0, TX0, 1), (RX1, TX1, 4), (RX2, TX2, 3), (RX3, TX3, 2), (RX4, TX4, 8), (RX5, TX5, 2), (RX6, TX6, 11), (RX7, TX7, 16), (RX8, TX8, 42)]
abbrev ty6 (cT : Nat → ClassId) : List (ClassId × FieldType) := [(cT 0, .int), (cT 1, .byte), (cT 2, .char), (cT 3, .long), (cT 4, .boolean), (cT 5, .object RX6)]
abbrev aI (cT : Nat → ClassId) (n : Nat) (f : Nat → Int32) : va_E := .inl (cT 0, n, .inl f)
abbrev aB (cT : Nat → ClassId) (n : Nat) (f : Nat → Int32) : va_E := .inl (cT 1, n, .inl f)
abbrev aC (cT : Nat → ClassId) (n : Nat) (f : Nat → Int32) : va_E := .inl (cT 2, n, .inl f)
abbrev aJ (cT : Nat → ClassId) (n : Nat) (f : Nat → Int64) : va_E := .inl (cT 3, n, .inr (.inl f))
abbrev aZ (cT : Nat → ClassId) (n : Nat) (f : Nat → Int32) : va_E := .inl (cT 4, n, .inl f)
abbrev aV (cT : Nat → ClassId) (n : Nat) (f : Nat → Option Nat) : va_E := .inl (cT 5, n, .inr (.inr (.inr (.inr f))))
/-- the links between nest mates -/
def nestL : List (String × Nat × MethodName × String) := [(RX7, 9, yX5_init, RX7), (RX7, 18, yX3_init, RX7), (RX7, 25, yX6_init, RX7), (RX7, 38, yX2_init, RX7), (RX7, 61, yX0_init, RX7), (RX4, 93, yX7_asDigit, RX7), (RX2, 21, yX6_init, RX7), (RX5, 26, yX7_digitsOfAct, RX7)]
/-- what is known of the tables all along -/
def KK (D : va_G) (cT : Nat → ClassId) (U : State) : Prop := va_K D cls9 (ty6 cT) U ∧ (∀ q ∈ nestL, va_Nw (.methodLinkNest q.1 q.2.1 q.2.2.1 q.2.2.2) U) ∧ va_AO RX6 U
theorem KK.warm {D : va_G} {cT : Nat → ClassId} {s U : State} (hW : s.WarmedH U.vm) (h : KK D cT s) : KK D cT U := ⟨va_K.moved hW.alike h.1, fun q hq => va_Nw.warmM hW (h.2.1 q hq), va_AO.moved hW.alike h.2.2⟩
theorem KK.call {D : va_G} {cT : Nat → ClassId} {U : State} {g : JFrame} {mk : MethodId} {a : Array Value} (h : KK D cT U) : KK D cT (U.calling g mk a) := ⟨va_K.moved (u := U) (U := U.calling g mk a) (Vm.Alike.refl U.vm) h.1, fun q hq => va_Nw.same (u := U) (U := U.calling g mk a) rfl rfl (h.2.1 q hq), va_AO.moved (u := U) (U := U.calling g mk a) (Vm.Alike.refl U.vm) h.2.2⟩
/-- what the static row holds -/
def setsW : Nat → Int64 := fun j => match j with
  | 0 => 6148914691236517205
  | 1 => 3689348814741910323
  | 2 => 1085102592571150095
  | 3 => 71777214294589695
  | 4 => 281470681808895
  | _ => 4294967295
/-- the statics, below the place cT 6 from which on the law's own cells lie -/
def GS (cT : Nat → ClassId) (U : State) (H : Heap) : Prop := va_Z RX7 "SETS_WITHOUT" "[J" (.ref (cT 7)) (fun q => cT 6 ≤ q) U H ∧ va_T .long (cT 7) 6 (fun j => .long (setsW j)) (fun q => cT 6 ≤ q) U H ∧ vx_Zq Bundle.tN "UNASSIGNED_STACK" Bundle.steD (fun q => cT 6 ≤ q) U H ∧ vx_Zq Bundle.tN "SUPPRESSED_SENTINEL" Bundle.listD (fun q => cT 6 ≤ q) U H
theorem GS.moved {cT : Nat → ClassId} {u U : State} {H : Heap} (hvm : u.vm.Alike U.vm) (h : GS cT u H) : GS cT U H := ⟨h.1.moved hvm, h.2.1.moved hvm, h.2.2.1.moved hvm, h.2.2.2.moved hvm⟩
theorem GS.kept {cT : Nat → ClassId} {U : State} {H H1 : Heap} (h : GS cT U H) (hq : ∀ a : Nat, a < H.size → ¬ cT 6 ≤ a → H1[a]? = H[a]?) : GS cT U H1 := ⟨h.1.kept hq, h.2.1.kept hq, h.2.2.1.kept hq, h.2.2.2.kept hq⟩
/-- where a method may write: what it makes, and nothing below cT 6 -/
def AO (cT : Nat → ClassId) (s : State) (A : Nat → Prop) : Prop := (∀ q, s.heap.size ≤ q → A q) ∧ ∀ q, A q → cT 6 ≤ q
/-- a contract's start -/
def cP (D : va_G) (cT : Nat → ClassId) (sz : Nat) (ws : va_W) (U : State) : Prop := U.heap.size = sz ∧ va_P D cls9 ws U.heap ∧ KK D cT U ∧ va_D (fun q => cT 6 ≤ q) ws ∧ cT 6 ≤ sz ∧ GS cT U U.heap
theorem cP.blind {D : va_G} {cT : Nat → ClassId} {sz : Nat} {ws : va_W} {av : List Value} : FrameBlind (va_Pc av (cP D cT sz ws)) := fun a U g mk q => by
  obtain ⟨q0, q1, qP, qK, qD, qz, qG⟩ := q
  exact ⟨q0, q1, qP, KK.call qK, qD, qz, GS.moved (u := U) (U := U.calling g mk a) (Vm.Alike.refl U.vm) qG⟩
/-- a method that is walked -/
def Cx (p : Program) (s : State) (m : MethodId) (args : Array Value) (meth : Method) (c : Code) (D : va_G) (cT : Nat → ClassId) (cc : ByteArray) (nL : Nat) (own : String) : Prop := CallFix p m c cc nL s args gw own ∧ KK D cT s ∧ meth.locks = false ∧ cT 6 ≤ s.heap.size ∧ GS cT s s.heap
abbrev rmO (fr lo mc ms : Nat) : Room := { frames := fr, cells := mc, slots := ms, locals := lo }
/-- contracts: heap unchanged (int, long, void) -/
def MRi (l : Launch) (D : va_G) (cT : Nat → ClassId) (y : MethodName) (cc : ByteArray) (nL : Nat) (ret : Option FieldType) (fr lo : Nat) (av : List Value) (ws : va_W) (post : Int32 → Prop) : Prop := ∀ sz, Met l y (.code y cc nL ret :: gw) (rmO fr lo 0 0) (va_Pc av (cP D cT sz ws)) (vp_Si post) 0 0 (fun _ => False)
def MRl (l : Launch) (D : va_G) (cT : Nat → ClassId) (y : MethodName) (cc : ByteArray) (nL : Nat) (ret : Option FieldType) (fr lo : Nat) (av : List Value) (ws : va_W) (post : Int64 → Prop) : Prop := ∀ sz, Met l y (.code y cc nL ret :: gw) (rmO fr lo 0 0) (va_Pc av (cP D cT sz ws)) (vp_Sl post) 0 0 (fun _ => False)
/-- contracts: the world behind the method is w1 u -/
def cB {S : Type} (D : va_G) (A : Nat → Prop) (w1 : S → va_W) (u : S) (t : State) : Prop := va_P D cls9 (w1 u) t.heap ∧ va_D A (w1 u)
def MWi {S : Type} (l : Launch) (D : va_G) (cT : Nat → ClassId) (y : MethodName) (cc : ByteArray) (nL : Nat) (ret : Option FieldType) (fr lo mc ms : Nat) (av : List Value) (ws : va_W) (post : Int32 → S → Prop) (w1 : S → va_W) : Prop := ∀ sz, Met l y (.code y cc nL ret :: gw) (rmO fr lo mc ms) (va_Pc av (cP D cT sz ws)) (va_Qi post (cB D (va_A ws sz) w1) (va_A ws sz)) mc ms (va_A ws sz)
def MWl {S : Type} (l : Launch) (D : va_G) (cT : Nat → ClassId) (y : MethodName) (cc : ByteArray) (nL : Nat) (ret : Option FieldType) (fr lo mc ms : Nat) (av : List Value) (ws : va_W) (post : Int64 → S → Prop) (w1 : S → va_W) : Prop := ∀ sz, Met l y (.code y cc nL ret :: gw) (rmO fr lo mc ms) (va_Pc av (cP D cT sz ws)) (va_Ql post (cB D (va_A ws sz) w1) (va_A ws sz)) mc ms (va_A ws sz)
def MWv {S : Type} (l : Launch) (D : va_G) (cT : Nat → ClassId) (y : MethodName) (cc : ByteArray) (nL : Nat) (ret : Option FieldType) (fr lo mc ms : Nat) (av : List Value) (ws : va_W) (post : S → Prop) (w1 : S → va_W) : Prop := ∀ sz, Met l y (.code y cc nL ret :: gw) (rmO fr lo mc ms) (va_Pc av (cP D cT sz ws)) (va_Qv post (cB D (va_A ws sz) w1) (va_A ws sz)) mc ms (va_A ws sz)
/-- it answers the reference b -/
def MWr {S : Type} (l : Launch) (D : va_G) (cT : Nat → ClassId) (y : MethodName) (cc : ByteArray) (nL : Nat) (ret : Option FieldType) (fr lo mc ms : Nat) (av : List Value) (ws : va_W) (b : Nat) (post : S → Prop) (w1 : S → va_W) : Prop := ∀ sz, Met l y (.code y cc nL ret :: gw) (rmO fr lo mc ms) (va_Pc av (cP D cT sz ws)) (va_Qr post (fun u a t => a = b ∧ cB D (va_A ws sz) w1 u t) (va_A ws sz)) mc ms (va_A ws sz)
section LIB
variable {p : Program} {l : Launch} {e : Env} {R : Room} {s : State} {m : MethodId} {args : Array Value} {below : List Frame} {meth : Method} {c : Code} {H : Heap} {locs : List Loc} {cells slots : Nat} {Q : State → Prop}
variable {cc : ByteArray} {pc nL : Nat} {ls : Array Slot} {rest : List Value} {D : va_G} {cT : Nat → ClassId} {A : Nat → Prop} {a : Nat} {ws : va_W} {own : String}
theorem Cx.x (C0 : Cx p s m args meth c D cT cc nL own) : p.tables.exec = Jvm.exec := C0.1.1
theorem Cx.b (C0 : Cx p s m args meth c D cT cc nL own) : c.code = cc := C0.1.2.1
theorem Cx.ml (C0 : Cx p s m args meth c D cT cc nL own) : c.maxLocals = nL := C0.1.2.2.1
theorem Cx.ow (C0 : Cx p s m args meth c D cT cc nL own) : s.vm.findClass own = some m.cls := C0.1.2.2.2.1
theorem Cx.t (C0 : Cx p s m args meth c D cT cc nL own) {w : Cond} (h : w ∈ gw) : w.before args s = true := C0.1.2.2.2.2 w h
theorem Cx.K (C0 : Cx p s m args meth c D cT cc nL own) : va_K D cls9 (ty6 cT) s := C0.2.1.1
/-- getfield -/
theorem k_get (C0 : Cx p s m args meth c D cT cc nL own) {ref C : String} {T : u_T} {N ci index k : Nat} (hin : ∀ w ∈ u_ws C T N, w ∈ gw) (hc : cls9[ci]? = some (C, T, N)) (hk : k < N) (hl : Cond.fieldLink own index ref (T k).2.1 (T k).2.2.1 ∈ gw) (hsame : (T k).1 = ref)
    (hP : va_P D cls9 ws H) (q0 : Nat) {fs : List Value} (he : ws[q0]? = some (a, .inr (ci, fs))) {v : Value} (hv : fs[k]? = some v) (hdg : decode cc pc = .ok (.getfield index, 3))
    (kk : W p l e R s m args below meth c H locs cells slots Q (F0 m (pc + 3) ls (v :: rest))) : W p l e R s m args below meth c H locs cells slots Q (F0 m pc ls (.ref a :: rest)) :=
  va_get C0.x C0.b (fun w h => C0.t h) hin C0.ow C0.K hP q0 he hc k hk (C0.t hl) (fun x h => by rw [← hsame]; exact h) hv hdg kk
/-- putfield -/
theorem k_put (C0 : Cx p s m args meth c D cT cc nL own) {ref C : String} {T : u_T} {N ci index k : Nat} (hin : ∀ w ∈ u_ws C T N, w ∈ gw) (ty0 : Nat → FieldType) (hty : ∀ k, k < N → parseFieldDescriptor (T k).2.2.1 = some (ty0 k)) (hnm : ∀ a, a < N → ∀ b, b < N → a ≠ b → (T a).2.1 ≠ (T b).2.1) (hc : cls9[ci]? = some (C, T, N)) (hk : k < N) (hl : Cond.fieldLink own index ref (T k).2.1 (T k).2.2.1 ∈ gw) (hsame : (T k).1 = ref) (hfin : (T k).2.2.2 = false) {ty : FieldType} (hd : parseFieldDescriptor (T k).2.2.1 = some ty)
    {v : Value} (hn : narrow ty v = v) (hfit : fits ty v = true) (hP : va_P D cls9 ws H) (hD : va_D A ws) (hS : va_S A s.heap H locs) (q0 : Nat) {fs : List Value} (he : ws[q0]? = some (a, .inr (ci, fs))) (hlen : k < fs.length) {ws' : va_W} (hw : ws.set q0 (a, .inr (ci, fs.set k v)) = ws') (hdg : decode cc pc = .ok (.putfield index, 3))
    (kk : ∀ (H1 : Heap) (locs1 : List Loc), va_P D cls9 ws' H1 → va_D A ws' → va_S A s.heap H1 locs1 → W p l e R s m args below meth c H1 locs1 cells slots Q (F0 m (pc + 3) ls rest)) : W p l e R s m args below meth c H locs cells slots Q (F0 m pc ls (v :: .ref a :: rest)) := by
  subst hw
  exact va_put C0.x C0.b (fun w h => C0.t h) hin ty0 hty hnm C0.ow C0.K hP hD hS q0 he hc k hk (C0.t hl) (fun x h => by rw [← hsame]; exact h) hfin hd hn hfit hlen hdg kk
/-- arrays -/
theorem k_iald (C0 : Cx p s m args meth c D cT cc nL own) (hP : va_P D cls9 ws H) (q0 : Nat) {n : Nat} {f : Nat → Int32} (ha : ws[q0]? = some (a, aI cT n f)) {i : Int32} (hin : vp_in i n) (hdg : decode cc pc = .ok (.iaload, 1))
    (kk : W p l e R s m args below meth c H locs cells slots Q (F0 m (pc + 1) ls (.int (f i.toNatClampNeg) :: rest))) : W p l e R s m args below meth c H locs cells slots Q (F0 m pc ls (.int i :: .ref a :: rest)) := va_iald C0.x C0.b C0.K hP q0 0 ha rfl hin hdg kk
theorem k_bald (C0 : Cx p s m args meth c D cT cc nL own) (hP : va_P D cls9 ws H) (q0 : Nat) {n : Nat} {f : Nat → Int32} (ha : ws[q0]? = some (a, aB cT n f)) {i : Int32} (hin : vp_in i n) (hdg : decode cc pc = .ok (.baload, 1))
    (kk : W p l e R s m args below meth c H locs cells slots Q (F0 m (pc + 1) ls (.int (f i.toNatClampNeg) :: rest))) : W p l e R s m args below meth c H locs cells slots Q (F0 m pc ls (.int i :: .ref a :: rest)) := va_bald C0.x C0.b C0.K hP q0 1 ha rfl hin hdg kk
theorem k_cald (C0 : Cx p s m args meth c D cT cc nL own) (hP : va_P D cls9 ws H) (q0 : Nat) {n : Nat} {f : Nat → Int32} (ha : ws[q0]? = some (a, aC cT n f)) {i : Int32} (hin : vp_in i n) (hdg : decode cc pc = .ok (.caload, 1))
    (kk : W p l e R s m args below meth c H locs cells slots Q (F0 m (pc + 1) ls (.int (f i.toNatClampNeg) :: rest))) : W p l e R s m args below meth c H locs cells slots Q (F0 m pc ls (.int i :: .ref a :: rest)) := va_cald C0.x C0.b C0.K hP q0 2 ha rfl hin hdg kk
theorem k_lald (C0 : Cx p s m args meth c D cT cc nL own) (hP : va_P D cls9 ws H) (q0 : Nat) {n : Nat} {f : Nat → Int64} (ha : ws[q0]? = some (a, aJ cT n f)) {i : Int32} (hin : vp_in i n) (hdg : decode cc pc = .ok (.laload, 1))
    (kk : W p l e R s m args below meth c H locs cells slots Q (F0 m (pc + 1) ls (.long (f i.toNatClampNeg) :: rest))) : W p l e R s m args below meth c H locs cells slots Q (F0 m pc ls (.int i :: .ref a :: rest)) := va_lald C0.x C0.b C0.K hP q0 3 ha rfl hin hdg kk
theorem k_zald (C0 : Cx p s m args meth c D cT cc nL own) (hP : va_P D cls9 ws H) (q0 : Nat) {n : Nat} {f : Nat → Int32} (ha : ws[q0]? = some (a, aZ cT n f)) {i : Int32} (hin : vp_in i n) (hdg : decode cc pc = .ok (.baload, 1))
    (kk : W p l e R s m args below meth c H locs cells slots Q (F0 m (pc + 1) ls (.int (f i.toNatClampNeg) :: rest))) : W p l e R s m args below meth c H locs cells slots Q (F0 m pc ls (.int i :: .ref a :: rest)) := va_zald C0.x C0.b C0.K hP q0 4 ha rfl hin hdg kk
theorem k_alen (C0 : Cx p s m args meth c D cT cc nL own) (hP : va_P D cls9 ws H) (q0 : Nat) {n : Nat} {f : Nat → Int32} (ha : ws[q0]? = some (a, aI cT n f)) {v : Int32} (hv : Int32.ofNat n = v) (hdg : decode cc pc = .ok (.arraylength, 1))
    (kk : W p l e R s m args below meth c H locs cells slots Q (F0 m (pc + 1) ls (.int v :: rest))) : W p l e R s m args below meth c H locs cells slots Q (F0 m pc ls (.ref a :: rest)) := va_alen C0.x C0.b C0.K hP q0 0 ha rfl hv hdg kk
theorem k_iast (C0 : Cx p s m args meth c D cT cc nL own) (hP : va_P D cls9 ws H) (hD : va_D A ws) (hS : va_S A s.heap H locs) (q0 : Nat) {n : Nat} {f : Nat → Int32} (ha : ws[q0]? = some (a, aI cT n f)) {i x : Int32} (hin : vp_in i n) {ws' : va_W} (hw : ws.set q0 (a, aI cT n (upd f i.toNatClampNeg x)) = ws') (hdg : decode cc pc = .ok (.iastore, 1))
    (kk : ∀ (H1 : Heap) (locs1 : List Loc), va_P D cls9 ws' H1 → va_D A ws' → va_S A s.heap H1 locs1 → W p l e R s m args below meth c H1 locs1 cells slots Q (F0 m (pc + 1) ls rest)) : W p l e R s m args below meth c H locs cells slots Q (F0 m pc ls (.int x :: .int i :: .ref a :: rest)) := by
  subst hw
  exact va_iast C0.x C0.b C0.K hP hD hS q0 0 ha rfl hin hdg kk
theorem k_bast (C0 : Cx p s m args meth c D cT cc nL own) (hP : va_P D cls9 ws H) (hD : va_D A ws) (hS : va_S A s.heap H locs) (q0 : Nat) {n : Nat} {f : Nat → Int32} (ha : ws[q0]? = some (a, aB cT n f)) {i x : Int32} (hin : vp_in i n) {ws' : va_W} (hw : ws.set q0 (a, aB cT n (upd f i.toNatClampNeg (vp_nar .byte x))) = ws') (hdg : decode cc pc = .ok (.bastore, 1))
    (kk : ∀ (H1 : Heap) (locs1 : List Loc), va_P D cls9 ws' H1 → va_D A ws' → va_S A s.heap H1 locs1 → W p l e R s m args below meth c H1 locs1 cells slots Q (F0 m (pc + 1) ls rest)) : W p l e R s m args below meth c H locs cells slots Q (F0 m pc ls (.int x :: .int i :: .ref a :: rest)) := by
  subst hw
  exact va_bast C0.x C0.b C0.K hP hD hS q0 1 ha rfl hin hdg kk
theorem k_cast (C0 : Cx p s m args meth c D cT cc nL own) (hP : va_P D cls9 ws H) (hD : va_D A ws) (hS : va_S A s.heap H locs) (q0 : Nat) {n : Nat} {f : Nat → Int32} (ha : ws[q0]? = some (a, aC cT n f)) {i x : Int32} (hin : vp_in i n) {ws' : va_W} (hw : ws.set q0 (a, aC cT n (upd f i.toNatClampNeg (vp_nar .char x))) = ws') (hdg : decode cc pc = .ok (.castore, 1))
    (kk : ∀ (H1 : Heap) (locs1 : List Loc), va_P D cls9 ws' H1 → va_D A ws' → va_S A s.heap H1 locs1 → W p l e R s m args below meth c H1 locs1 cells slots Q (F0 m (pc + 1) ls rest)) : W p l e R s m args below meth c H locs cells slots Q (F0 m pc ls (.int x :: .int i :: .ref a :: rest)) := by
  subst hw
  exact va_cast C0.x C0.b C0.K hP hD hS q0 2 ha rfl hin hdg kk
theorem k_zast (C0 : Cx p s m args meth c D cT cc nL own) (hP : va_P D cls9 ws H) (hD : va_D A ws) (hS : va_S A s.heap H locs) (q0 : Nat) {n : Nat} {f : Nat → Int32} (ha : ws[q0]? = some (a, aZ cT n f)) {i x : Int32} (hin : vp_in i n) {ws' : va_W} (hw : ws.set q0 (a, aZ cT n (upd f i.toNatClampNeg (vp_nar .boolean x))) = ws') (hdg : decode cc pc = .ok (.bastore, 1))
    (kk : ∀ (H1 : Heap) (locs1 : List Loc), va_P D cls9 ws' H1 → va_D A ws' → va_S A s.heap H1 locs1 → W p l e R s m args below meth c H1 locs1 cells slots Q (F0 m (pc + 1) ls rest)) : W p l e R s m args below meth c H locs cells slots Q (F0 m pc ls (.int x :: .int i :: .ref a :: rest)) := by
  subst hw
  exact va_zast C0.x C0.b C0.K hP hD hS q0 4 ha rfl hin hdg kk
theorem k_last (C0 : Cx p s m args meth c D cT cc nL own) (hP : va_P D cls9 ws H) (hD : va_D A ws) (hS : va_S A s.heap H locs) (q0 : Nat) {n : Nat} {f : Nat → Int64} (ha : ws[q0]? = some (a, aJ cT n f)) {i : Int32} {x : Int64} (hin : vp_in i n) {ws' : va_W} (hw : ws.set q0 (a, aJ cT n (vp_updL f i.toNatClampNeg x)) = ws') (hdg : decode cc pc = .ok (.lastore, 1))
    (kk : ∀ (H1 : Heap) (locs1 : List Loc), va_P D cls9 ws' H1 → va_D A ws' → va_S A s.heap H1 locs1 → W p l e R s m args below meth c H1 locs1 cells slots Q (F0 m (pc + 1) ls rest)) : W p l e R s m args below meth c H locs cells slots Q (F0 m pc ls (.long x :: .int i :: .ref a :: rest)) := by
  subst hw
  exact va_last C0.x C0.b C0.K hP hD hS q0 3 ha rfl hin hdg kk
/-- the static row -/
theorem k_gets (C0 : Cx p s m args meth c D cT cc nL own) (hS : va_S A s.heap H locs) (hA : AO cT s A) {idx : Nat} (hl : Cond.fieldLink own idx RX7 "SETS_WITHOUT" "[J" ∈ gw) (hdg : decode cc pc = .ok (.getstatic idx, 3))
    (kk : W p l e R s m args below meth c H locs cells slots Q (F0 m (pc + 3) ls (.ref (cT 7) :: rest))) : W p l e R s m args below meth c H locs cells slots Q (F0 m pc ls rest) :=
  va_gets (A := A) C0.x C0.b (C0.2.2.2.2.1.narrow hA.2) hS C0.ow (C0.t hl) (fun _ h => h) hdg kk
theorem k_tl (C0 : Cx p s m args meth c D cT cc nL own) (hS : va_S A s.heap H locs) (hA : AO cT s A) {i : Int32} (hin : vp_in i 6) (hdg : decode cc pc = .ok (.laload, 1))
    (kk : W p l e R s m args below meth c H locs cells slots Q (F0 m (pc + 1) ls (.long (setsW i.toNatClampNeg) :: rest))) : W p l e R s m args below meth c H locs cells slots Q (F0 m pc ls (.int i :: .ref (cT 7) :: rest)) :=
  va_tl (A := A) C0.x C0.b (C0.2.2.2.2.2.1.narrow hA.2) hS hin rfl hdg kk
end LIB
/-! ===== links: what a call needs of the tables ===== -/
def Ld (y : MethodName) (n : Nat) : Prop := y.cls ≠ "java/lang/invoke/MethodHandle" ∧ y.cls ≠ "java/lang/invoke/VarHandle" ∧ (parseMethodDescriptor y.desc).map (fun d => d.parameters.length) = some n
def LkV (own : String) (idx : Nat) (y : MethodName) (bytes : ByteArray) (maxL : Nat) (ret : Option FieldType) (n : Nat) : Prop :=
  Cond.methodLink own idx y ∈ gw ∧ Cond.instanceMethod y ∈ gw ∧ Cond.selects y.cls y y ∈ gw ∧ Cond.initialized y.cls ∈ gw ∧ Cond.code y bytes maxL ret ∈ gw ∧ Ld y n
def LkS (own : String) (idx : Nat) (y : MethodName) (bytes : ByteArray) (maxL : Nat) (ret : Option FieldType) (n : Nat) : Prop :=
  Cond.methodLink own idx y ∈ gw ∧ Cond.static y ∈ gw ∧ Cond.initialized y.cls ∈ gw ∧ Cond.code y bytes maxL ret ∈ gw ∧ Ld y n
def LkN (own : String) (idx : Nat) (y : MethodName) (host : String) (bytes : ByteArray) (maxL : Nat) (ret : Option FieldType) (n : Nat) : Prop :=
  (own, idx, y, host) ∈ nestL ∧ Cond.static y ∈ gw ∧ Cond.initialized y.cls ∈ gw ∧ Cond.code y bytes maxL ret ∈ gw ∧ Ld y n
section CALLS
variable {p : Program} {l : Launch} {e : Env} {R : Room} {s : State} {m : MethodId} {args : Array Value} {below : List Frame} {meth : Method} {c : Code} {H : Heap} {locs : List Loc} {cells slots : Nat} {Q : State → Prop}
variable {cc : ByteArray} {pc nL : Nat} {ls : Array Slot} {rest st : List Value} {D : va_G} {cT : Nat → ClassId} {A : Nat → Prop} {b : Nat} {ws wc : va_W} {own : String}
variable {y : MethodName} {bytes : ByteArray} {maxL n idx fr lo mc ms : Nat} {ret : Option FieldType} {As : List Value} {Pc : Array Value → State → Prop} {Qc : Array Value → State → Outcome → State → Prop} {free : Addr → Prop} {host : String}
theorem k_cb (C0 : Cx p s m args meth c D cT cc nL own) (h1 : Cond.methodLink own idx y ∈ gw) (h2 : Cond.initialized y.cls ∈ gw) (h3 : Cond.code y bytes maxL ret ∈ gw) (h4 : Ld y n) (hR : fr + 1 ≤ R.frames ∧ 8 + (maxL + 11) + lo ≤ R.locals) :
    CallB R s args own idx y bytes maxL ret (.code y bytes maxL ret :: gw) (rmO fr lo mc ms) mc ms n :=
  callB_of n (fun w h => C0.t h) (gw_good h3) rfl rfl rfl (C0.t h2) (C0.t h1) h4 hR
/-- the callee's part of the world, its start -/
theorem k_pre (C0 : Cx p s m args meth c D cT cc nL own) (hS : va_S A s.heap H locs) (hA : AO cT s A) (hP : va_P D cls9 wc H) (hD : va_D A wc) : ∀ U : State, U.heap = H → s.WarmedH U.vm → cP D cT H.size wc U :=
  fun U hU hW => ⟨by rw [hU], by rw [hU]; exact hP, KK.warm hW C0.2.1, hD.weaken (fun _ _ _ h => hA.2 _ h), Nat.le_trans C0.2.2.2.1 hS.1, by rw [hU]; exact (GS.moved hW.alike C0.2.2.2.2).kept (fun a h1 h2 => hS.2.1 a h1 (fun h => h2 (hA.2 a h)))⟩
theorem subP (hP : va_P D cls9 ws H) (is : List Nat) (hC : is.map (fun i => ws[i]?) = wc.map some) : va_P D cls9 wc H := by
  intro k q hk
  have h1 : (is.map (fun i => ws[i]?))[k]? = some (some q) := by rw [hC, List.getElem?_map, hk]; rfl
  rw [List.getElem?_map] at h1
  cases hi : is[k]? with
  | none => rw [hi] at h1; cases h1
  | some i => rw [hi] at h1; exact hP i q (Option.some.inj h1)
end CALLS
section CALLS2
variable {p : Program} {l : Launch} {e : Env} {R : Room} {s : State} {m : MethodId} {args : Array Value} {below : List Frame} {meth : Method} {c : Code} {H : Heap} {locs : List Loc} {cells slots : Nat} {Q : State → Prop}
variable {cc : ByteArray} {pc nL : Nat} {ls : Array Slot} {rest st : List Value} {D : va_G} {cT : Nat → ClassId} {A : Nat → Prop} {b : Nat} {ws wc : va_W} {own : String}
variable {y : MethodName} {bytes : ByteArray} {maxL n idx fr lo mc ms : Nat} {ret : Option FieldType} {As : List Value} {Qc : Array Value → State → Outcome → State → Prop} {free : Addr → Prop} {host : String}
theorem k_runV (C0 : Cx p s m args meth c D cT cc nL own) (hL : LkV own idx y bytes maxL ret n) (hM : Met l y (.code y bytes maxL ret :: gw) (rmO fr lo mc ms) (va_Pc (.ref b :: As) (cP D cT H.size wc)) Qc mc ms free)
    (hP : va_P D cls9 ws H) (hD : va_D A ws) (hS : va_S A s.heap H locs) (hA : AO cT s A) (isC : List Nat) (hC : isC.map (fun i => ws[i]?) = wc.map some) (hnd : va_nd isC = true) {ci : Nat} {fs : List Value} {T : u_T} {N : Nat} (hrec : wc[0]? = some (b, .inr (ci, fs))) (hcl : cls9[ci]? = some (y.cls, T, N))
    (hR : fr + 1 ≤ R.frames ∧ 8 + (maxL + 11) + lo ≤ R.locals) (hn : As.length = n) (hsize : ls.size = nL) (hst : st = As.reverse ++ .ref b :: rest) (hW : (rest.map fun v => v.category).sum ≤ 8) (hdg : decode cc pc = .ok (.invokevirtual idx, 3)) (hf : cells + mc ≤ R.cells ∧ slots + ms ≤ R.slots) :
    va_Run p l e R s m args below meth c H locs cells slots mc ms (F0 m pc ls st) rest (Qc (Value.ref b :: As).toArray) free := by
  obtain ⟨h1, h2, h3, h4, h5, h6⟩ := hL
  have hPc := subP hP isC hC
  have hDc := hD.sub isC hnd hC
  exact va_runV (C := y.cls) C0.1 hM ⟨k_cb C0 h1 h4 h5 h6 hR, C0.t h2, C0.t h3⟩ ⟨cP.blind, va_recv C0.K hPc hcl hrec, fun U hU hW => ⟨rfl, k_pre C0 hS hA hPc hDc U hU hW⟩⟩ rfl hn hsize hst (lv_room hW) hdg hf
theorem k_runS (C0 : Cx p s m args meth c D cT cc nL own) (hL : LkS own idx y bytes maxL ret n) (hM : Met l y (.code y bytes maxL ret :: gw) (rmO fr lo mc ms) (va_Pc As (cP D cT H.size wc)) Qc mc ms free)
    (hP : va_P D cls9 ws H) (hD : va_D A ws) (hS : va_S A s.heap H locs) (hA : AO cT s A) (isC : List Nat) (hC : isC.map (fun i => ws[i]?) = wc.map some) (hnd : va_nd isC = true)
    (hR : fr + 1 ≤ R.frames ∧ 8 + (maxL + 11) + lo ≤ R.locals) (hn : As.length = n) (hsize : ls.size = nL) (hst : st = As.reverse ++ rest) (hW : (rest.map fun v => v.category).sum ≤ 8) (hdg : decode cc pc = .ok (.invokestatic idx, 3)) (hf : cells + mc ≤ R.cells ∧ slots + ms ≤ R.slots) :
    va_Run p l e R s m args below meth c H locs cells slots mc ms (F0 m pc ls st) rest (Qc As.toArray) free := by
  obtain ⟨h1, h2, h4, h5, h6⟩ := hL
  have hPc := subP hP isC hC
  have hDc := hD.sub isC hnd hC
  exact va_runS C0.1 hM ⟨k_cb C0 h1 h4 h5 h6 hR, C0.t h2⟩ ⟨cP.blind, fun U hU hW => ⟨rfl, k_pre C0 hS hA hPc hDc U hU hW⟩⟩ rfl hn hsize hst (lv_room hW) hdg hf
theorem k_runN (C0 : Cx p s m args meth c D cT cc nL own) (hL : LkN own idx y host bytes maxL ret n) (hM : Met l y (.code y bytes maxL ret :: gw) (rmO fr lo mc ms) (va_Pc As (cP D cT H.size wc)) Qc mc ms free)
    (hP : va_P D cls9 ws H) (hD : va_D A ws) (hS : va_S A s.heap H locs) (hA : AO cT s A) (isC : List Nat) (hC : isC.map (fun i => ws[i]?) = wc.map some) (hnd : va_nd isC = true)
    (hR : fr + 1 ≤ R.frames ∧ 8 + (maxL + 11) + lo ≤ R.locals) (hn : As.length = n) (hsize : ls.size = nL) (hst : st = As.reverse ++ rest) (hW : (rest.map fun v => v.category).sum ≤ 8) (hdg : decode cc pc = .ok (.invokestatic idx, 3)) (hf : cells + mc ≤ R.cells ∧ slots + ms ≤ R.slots) :
    va_Run p l e R s m args below meth c H locs cells slots mc ms (F0 m pc ls st) rest (Qc As.toArray) free := by
  obtain ⟨h1, h2, h4, h5, h6⟩ := hL
  have hPc := subP hP isC hC
  have hDc := hD.sub isC hnd hC
  exact va_runSN (host := host) C0.1 hM ⟨va_cnB n (fun w h => C0.t h) (gw_good h5) rfl rfl rfl (C0.2.1.2.1 _ h1) (C0.t h4) h6 hR, C0.t h2, trivial⟩ ⟨cP.blind, fun U hU hW => ⟨rfl, k_pre C0 hS hA hPc hDc U hU hW⟩⟩ rfl hn hsize hst (lv_room hW) hdg hf
/-- behind a call that leaves the heap as it is -/
theorem k_ri {post : Int32 → Prop} {a : Array Value} (hr : va_Run p l e R s m args below meth c H locs cells slots 0 0 (F0 m pc ls st) rest (vp_Si post a) (fun _ => False))
    (kk : ∀ r : Int32, post r → W p l e R s m args below meth c H locs cells slots Q (F0 m (pc + 3) ls (.int r :: rest))) : W p l e R s m args below meth c H locs cells slots Q (F0 m pc ls st) := by
  intro T hT X
  obtain ⟨v, st₀, t, T', L, h0, X', hL, e1, e2, ⟨r, hv, hp, hh⟩, st⟩ := hr T hT X
  cases hv
  obtain ⟨t2, a1, b1⟩ := kk r hp T' (by rw [e1, hh, h0]) (Stand.forget X' (fun q h => (hL q h).elim))
  exact ⟨t2, st t2 a1, b1⟩
theorem k_rl {post : Int64 → Prop} {a : Array Value} (hr : va_Run p l e R s m args below meth c H locs cells slots 0 0 (F0 m pc ls st) rest (vp_Sl post a) (fun _ => False))
    (kk : ∀ r : Int64, post r → W p l e R s m args below meth c H locs cells slots Q (F0 m (pc + 3) ls (.long r :: rest))) : W p l e R s m args below meth c H locs cells slots Q (F0 m pc ls st) := by
  intro T hT X
  obtain ⟨v, st₀, t, T', L, h0, X', hL, e1, e2, ⟨r, hv, hp, hh⟩, st⟩ := hr T hT X
  cases hv
  obtain ⟨t2, a1, b1⟩ := kk r hp T' (by rw [e1, hh, h0]) (Stand.forget X' (fun q h => (hL q h).elim))
  exact ⟨t2, st t2 a1, b1⟩
end CALLS2
/-- numbers: none twice, none of the one among the other -/
def nd2 : List Nat → Bool
  | [] => true
  | a :: l => l.all (fun b => !(Nat.beq a b)) && nd2 l
theorem nd2_ok : ∀ (l : List Nat), nd2 l = true → va_nd l = true
  | [], _ => rfl
  | a :: l, h => by
    rw [nd2, Bool.and_eq_true] at h
    rw [va_nd, Bool.and_eq_true]
    refine ⟨decide_eq_true (fun hm => ?_), nd2_ok l h.2⟩
    have h1 := List.all_eq_true.mp h.1 a hm
    rw [Nat.beq_refl a] at h1
    cases h1
def kn (isC isR : List Nat) : Bool := nd2 isC && nd2 isR && isR.all (fun i => isC.all (fun j => !(Nat.beq i j)))
theorem k_join {A : Nat → Prop} {D : va_G} {ws wc wr w1 w2 : va_W} {H H1 : Heap} (hP : va_P D cls9 ws H) (hD : va_D A ws) (isC isR : List Nat) (hnum : kn isC isR = true) (hC : isC.map (fun i => ws[i]?) = wc.map some) (hR : isR.map (fun i => ws[i]?) = wr.map some) (hw2 : wr ++ w1 = w2)
    (hk : ∀ q : Nat, q < H.size → ¬ va_A wc H.size q → H1[q]? = H[q]?) (hF : ∀ q, va_A wc H.size q → A q) (hP1 : va_P D cls9 w1 H1) (hD1 : va_D (va_A wc H.size) w1) : va_P D cls9 w2 H1 ∧ va_D A w2 := by
  rw [kn, Bool.and_eq_true, Bool.and_eq_true] at hnum
  have hdis : ∀ i ∈ isR, i ∉ isC := fun i hi h => by
    have h2 := List.all_eq_true.mp (List.all_eq_true.mp hnum.2 i hi) i h
    rw [Nat.beq_refl i] at h2
    cases h2
  subst hw2
  exact va_join hP hD isC isR hC hR (nd2_ok _ hnum.1.2) hdis hk hF hP1 hD1
section CALLS3
variable {p : Program} {l : Launch} {e : Env} {R : Room} {s : State} {m : MethodId} {args : Array Value} {below : List Frame} {meth : Method} {c : Code} {H : Heap} {locs : List Loc} {cells slots mc ms : Nat} {Q : State → Prop}
variable {cc : ByteArray} {pc nL : Nat} {ls : Array Slot} {rest st : List Value} {D : va_G} {cT : Nat → ClassId} {A : Nat → Prop} {ws wc wr : va_W} {a : Array Value} {S : Type} {w1 w2 : S → va_W}
theorem k_wi {post : Int32 → S → Prop} (hr : va_Run p l e R s m args below meth c H locs cells slots mc ms (F0 m pc ls st) rest (va_Qi post (cB D (va_A wc H.size) w1) (va_A wc H.size) a) (va_A wc H.size))
    (hP : va_P D cls9 ws H) (hD : va_D A ws) (hS : va_S A s.heap H locs) (hA : AO cT s A) (isC isR : List Nat) (hnum : kn isC isR = true) (hC : isC.map (fun i => ws[i]?) = wc.map some) (hR : isR.map (fun i => ws[i]?) = wr.map some) (hw2 : ∀ u, wr ++ w1 u = w2 u)
    (kk : ∀ (r : Int32) (u : S) (H1 : Heap) (locs1 : List Loc), post r u → va_P D cls9 (w2 u) H1 → va_D A (w2 u) → va_S A s.heap H1 locs1 → W p l e R s m args below meth c H1 locs1 (cells + mc) (slots + ms) Q (F0 m (pc + 3) ls (.int r :: rest))) : W p l e R s m args below meth c H locs cells slots Q (F0 m pc ls st) := by
  have hFc := va_free hD hS hA.1 isC hC
  refine va_calli hr hS (fun q _ h => hFc q h) hFc (fun r u t H1 locs1 ht hvm hw hB hz1 hk1 hS => ?_)
  obtain ⟨hP1, hD1⟩ := hB
  rw [ht] at hP1
  obtain ⟨hP2, hD2⟩ := k_join hP hD isC isR hnum hC hR (hw2 u) hk1 hFc hP1 hD1
  exact kk r u H1 locs1 hw hP2 hD2 hS
theorem k_wl {post : Int64 → S → Prop} (hr : va_Run p l e R s m args below meth c H locs cells slots mc ms (F0 m pc ls st) rest (va_Ql post (cB D (va_A wc H.size) w1) (va_A wc H.size) a) (va_A wc H.size))
    (hP : va_P D cls9 ws H) (hD : va_D A ws) (hS : va_S A s.heap H locs) (hA : AO cT s A) (isC isR : List Nat) (hnum : kn isC isR = true) (hC : isC.map (fun i => ws[i]?) = wc.map some) (hR : isR.map (fun i => ws[i]?) = wr.map some) (hw2 : ∀ u, wr ++ w1 u = w2 u)
    (kk : ∀ (r : Int64) (u : S) (H1 : Heap) (locs1 : List Loc), post r u → va_P D cls9 (w2 u) H1 → va_D A (w2 u) → va_S A s.heap H1 locs1 → W p l e R s m args below meth c H1 locs1 (cells + mc) (slots + ms) Q (F0 m (pc + 3) ls (.long r :: rest))) : W p l e R s m args below meth c H locs cells slots Q (F0 m pc ls st) := by
  have hFc := va_free hD hS hA.1 isC hC
  refine va_calll hr hS (fun q _ h => hFc q h) hFc (fun r u t H1 locs1 ht hvm hw hB hz1 hk1 hS => ?_)
  obtain ⟨hP1, hD1⟩ := hB
  rw [ht] at hP1
  obtain ⟨hP2, hD2⟩ := k_join hP hD isC isR hnum hC hR (hw2 u) hk1 hFc hP1 hD1
  exact kk r u H1 locs1 hw hP2 hD2 hS
theorem k_wv {post : S → Prop} (hr : va_Run p l e R s m args below meth c H locs cells slots mc ms (F0 m pc ls st) rest (va_Qv post (cB D (va_A wc H.size) w1) (va_A wc H.size) a) (va_A wc H.size))
    (hP : va_P D cls9 ws H) (hD : va_D A ws) (hS : va_S A s.heap H locs) (hA : AO cT s A) (isC isR : List Nat) (hnum : kn isC isR = true) (hC : isC.map (fun i => ws[i]?) = wc.map some) (hR : isR.map (fun i => ws[i]?) = wr.map some) (hw2 : ∀ u, wr ++ w1 u = w2 u)
    (kk : ∀ (u : S) (H1 : Heap) (locs1 : List Loc), post u → va_P D cls9 (w2 u) H1 → va_D A (w2 u) → va_S A s.heap H1 locs1 → W p l e R s m args below meth c H1 locs1 (cells + mc) (slots + ms) Q (F0 m (pc + 3) ls rest)) : W p l e R s m args below meth c H locs cells slots Q (F0 m pc ls st) := by
  have hFc := va_free hD hS hA.1 isC hC
  refine va_callv hr hS (fun q _ h => hFc q h) hFc (fun u t H1 locs1 ht hvm hw hB hz1 hk1 hS => ?_)
  obtain ⟨hP1, hD1⟩ := hB
  rw [ht] at hP1
  obtain ⟨hP2, hD2⟩ := k_join hP hD isC isR hnum hC hR (hw2 u) hk1 hFc hP1 hD1
  exact kk u H1 locs1 hw hP2 hD2 hS
theorem k_wr' {b : Nat} {post : S → Prop} (hr : va_Run p l e R s m args below meth c H locs cells slots mc ms (F0 m pc ls st) rest (va_Qr post (fun u a t => a = b ∧ cB D (va_A wc H.size) w1 u t) (va_A wc H.size) a) (va_A wc H.size))
    (hP : va_P D cls9 ws H) (hD : va_D A ws) (hS : va_S A s.heap H locs) (hA : AO cT s A) (isC isR : List Nat) (hnum : kn isC isR = true) (hC : isC.map (fun i => ws[i]?) = wc.map some) (hR : isR.map (fun i => ws[i]?) = wr.map some) (hw2 : ∀ u, wr ++ w1 u = w2 u)
    (kk : ∀ (u : S) (H1 : Heap) (locs1 : List Loc), post u → va_P D cls9 (w2 u) H1 → va_D A (w2 u) → va_S A s.heap H1 locs1 → W p l e R s m args below meth c H1 locs1 (cells + mc) (slots + ms) Q (F0 m (pc + 3) ls (.ref b :: rest))) : W p l e R s m args below meth c H locs cells slots Q (F0 m pc ls st) := by
  have hFc := va_free hD hS hA.1 isC hC
  refine va_callr hr hS (fun q _ h => hFc q h) hFc ?_
  intro u a9 t H1 locs1 ht hvm hw hB hz1 hk1 hS
  obtain ⟨rfl, hP1, hD1⟩ := hB
  rw [ht] at hP1
  obtain ⟨hP2, hD2⟩ := k_join hP hD isC isR hnum hC hR (hw2 u) hk1 hFc hP1 hD1
  exact kk u H1 locs1 hw hP2 hD2 hS
end CALLS3
section CALLS4
variable {p : Program} {l : Launch} {e : Env} {R : Room} {s : State} {m : MethodId} {args : Array Value} {below : List Frame} {meth : Method} {c : Code} {H : Heap} {locs : List Loc} {cells slots : Nat} {Q : State → Prop}
variable {cc : ByteArray} {pc nL : Nat} {ls : Array Slot} {rest st : List Value} {D : va_G} {cT : Nat → ClassId} {A : Nat → Prop} {b b9 : Nat} {ws wc wr : va_W} {own : String}
variable {y : MethodName} {bytes : ByteArray} {maxL n idx fr lo mc ms : Nat} {ret : Option FieldType} {As : List Value} {host : String} {S : Type} {w1 w2 : S → va_W}
theorem k_Vi {post : Int32 → S → Prop} (C0 : Cx p s m args meth c D cT cc nL own) (hL : LkV own idx y bytes maxL ret n) (hM : MWi l D cT y bytes maxL ret fr lo mc ms (.ref b :: As) wc post w1) (hP : va_P D cls9 ws H) (hD : va_D A ws) (hS : va_S A s.heap H locs) (hA : AO cT s A) (isC isR : List Nat) (hnum : kn isC isR = true) (hC : isC.map (fun i => ws[i]?) = wc.map some) (hR : isR.map (fun i => ws[i]?) = wr.map some) (hw2 : ∀ u, wr ++ w1 u = w2 u) {ci : Nat} {fs : List Value} {T : u_T} {N : Nat} (hrec : wc[0]? = some (b, .inr (ci, fs))) (hcl : cls9[ci]? = some (y.cls, T, N)) (hRm : fr + 1 ≤ R.frames ∧ 8 + (maxL + 11) + lo ≤ R.locals) (hn : As.length = n) (hsize : ls.size = nL) (hst : st = As.reverse ++ .ref b :: rest) (hW : (rest.map fun v => v.category).sum ≤ 8) (hdg : decode cc pc = .ok (.invokevirtual idx, 3)) (hf : cells + mc ≤ R.cells ∧ slots + ms ≤ R.slots)
    (kk : ∀ (r : Int32) (u : S) (H1 : Heap) (locs1 : List Loc), post r u → va_P D cls9 (w2 u) H1 → va_D A (w2 u) → va_S A s.heap H1 locs1 → W p l e R s m args below meth c H1 locs1 (cells + mc) (slots + ms) Q (F0 m (pc + 3) ls (.int r :: rest))) : W p l e R s m args below meth c H locs cells slots Q (F0 m pc ls st) := by
  have hnd := hnum
  rw [kn, Bool.and_eq_true, Bool.and_eq_true] at hnd
  exact k_wi (k_runV C0 hL (hM H.size) hP hD hS hA isC hC (nd2_ok _ hnd.1.1) hrec hcl hRm hn hsize hst hW hdg hf) hP hD hS hA isC isR hnum hC hR hw2 kk
theorem k_Vl {post : Int64 → S → Prop} (C0 : Cx p s m args meth c D cT cc nL own) (hL : LkV own idx y bytes maxL ret n) (hM : MWl l D cT y bytes maxL ret fr lo mc ms (.ref b :: As) wc post w1) (hP : va_P D cls9 ws H) (hD : va_D A ws) (hS : va_S A s.heap H locs) (hA : AO cT s A) (isC isR : List Nat) (hnum : kn isC isR = true) (hC : isC.map (fun i => ws[i]?) = wc.map some) (hR : isR.map (fun i => ws[i]?) = wr.map some) (hw2 : ∀ u, wr ++ w1 u = w2 u) {ci : Nat} {fs : List Value} {T : u_T} {N : Nat} (hrec : wc[0]? = some (b, .inr (ci, fs))) (hcl : cls9[ci]? = some (y.cls, T, N)) (hRm : fr + 1 ≤ R.frames ∧ 8 + (maxL + 11) + lo ≤ R.locals) (hn : As.length = n) (hsize : ls.size = nL) (hst : st = As.reverse ++ .ref b :: rest) (hW : (rest.map fun v => v.category).sum ≤ 8) (hdg : decode cc pc = .ok (.invokevirtual idx, 3)) (hf : cells + mc ≤ R.cells ∧ slots + ms ≤ R.slots)
    (kk : ∀ (r : Int64) (u : S) (H1 : Heap) (locs1 : List Loc), post r u → va_P D cls9 (w2 u) H1 → va_D A (w2 u) → va_S A s.heap H1 locs1 → W p l e R s m args below meth c H1 locs1 (cells + mc) (slots + ms) Q (F0 m (pc + 3) ls (.long r :: rest))) : W p l e R s m args below meth c H locs cells slots Q (F0 m pc ls st) := by
  have hnd := hnum
  rw [kn, Bool.and_eq_true, Bool.and_eq_true] at hnd
  exact k_wl (k_runV C0 hL (hM H.size) hP hD hS hA isC hC (nd2_ok _ hnd.1.1) hrec hcl hRm hn hsize hst hW hdg hf) hP hD hS hA isC isR hnum hC hR hw2 kk
theorem k_Vv {post : S → Prop} (C0 : Cx p s m args meth c D cT cc nL own) (hL : LkV own idx y bytes maxL ret n) (hM : MWv l D cT y bytes maxL ret fr lo mc ms (.ref b :: As) wc post w1) (hP : va_P D cls9 ws H) (hD : va_D A ws) (hS : va_S A s.heap H locs) (hA : AO cT s A) (isC isR : List Nat) (hnum : kn isC isR = true) (hC : isC.map (fun i => ws[i]?) = wc.map some) (hR : isR.map (fun i => ws[i]?) = wr.map some) (hw2 : ∀ u, wr ++ w1 u = w2 u) {ci : Nat} {fs : List Value} {T : u_T} {N : Nat} (hrec : wc[0]? = some (b, .inr (ci, fs))) (hcl : cls9[ci]? = some (y.cls, T, N)) (hRm : fr + 1 ≤ R.frames ∧ 8 + (maxL + 11) + lo ≤ R.locals) (hn : As.length = n) (hsize : ls.size = nL) (hst : st = As.reverse ++ .ref b :: rest) (hW : (rest.map fun v => v.category).sum ≤ 8) (hdg : decode cc pc = .ok (.invokevirtual idx, 3)) (hf : cells + mc ≤ R.cells ∧ slots + ms ≤ R.slots)
    (kk : ∀ (u : S) (H1 : Heap) (locs1 : List Loc), post u → va_P D cls9 (w2 u) H1 → va_D A (w2 u) → va_S A s.heap H1 locs1 → W p l e R s m args below meth c H1 locs1 (cells + mc) (slots + ms) Q (F0 m (pc + 3) ls (rest))) : W p l e R s m args below meth c H locs cells slots Q (F0 m pc ls st) := by
  have hnd := hnum
  rw [kn, Bool.and_eq_true, Bool.and_eq_true] at hnd
  exact k_wv (k_runV C0 hL (hM H.size) hP hD hS hA isC hC (nd2_ok _ hnd.1.1) hrec hcl hRm hn hsize hst hW hdg hf) hP hD hS hA isC isR hnum hC hR hw2 kk
theorem k_Vr {post : S → Prop} (C0 : Cx p s m args meth c D cT cc nL own) (hL : LkV own idx y bytes maxL ret n) (hM : MWr l D cT y bytes maxL ret fr lo mc ms (.ref b :: As) wc b9 post w1) (hP : va_P D cls9 ws H) (hD : va_D A ws) (hS : va_S A s.heap H locs) (hA : AO cT s A) (isC isR : List Nat) (hnum : kn isC isR = true) (hC : isC.map (fun i => ws[i]?) = wc.map some) (hR : isR.map (fun i => ws[i]?) = wr.map some) (hw2 : ∀ u, wr ++ w1 u = w2 u) {ci : Nat} {fs : List Value} {T : u_T} {N : Nat} (hrec : wc[0]? = some (b, .inr (ci, fs))) (hcl : cls9[ci]? = some (y.cls, T, N)) (hRm : fr + 1 ≤ R.frames ∧ 8 + (maxL + 11) + lo ≤ R.locals) (hn : As.length = n) (hsize : ls.size = nL) (hst : st = As.reverse ++ .ref b :: rest) (hW : (rest.map fun v => v.category).sum ≤ 8) (hdg : decode cc pc = .ok (.invokevirtual idx, 3)) (hf : cells + mc ≤ R.cells ∧ slots + ms ≤ R.slots)
    (kk : ∀ (u : S) (H1 : Heap) (locs1 : List Loc), post u → va_P D cls9 (w2 u) H1 → va_D A (w2 u) → va_S A s.heap H1 locs1 → W p l e R s m args below meth c H1 locs1 (cells + mc) (slots + ms) Q (F0 m (pc + 3) ls (.ref b9 :: rest))) : W p l e R s m args below meth c H locs cells slots Q (F0 m pc ls st) := by
  have hnd := hnum
  rw [kn, Bool.and_eq_true, Bool.and_eq_true] at hnd
  exact k_wr' (k_runV C0 hL (hM H.size) hP hD hS hA isC hC (nd2_ok _ hnd.1.1) hrec hcl hRm hn hsize hst hW hdg hf) hP hD hS hA isC isR hnum hC hR hw2 kk
theorem k_Vxi {post : Int32 → Prop} (C0 : Cx p s m args meth c D cT cc nL own) (hL : LkV own idx y bytes maxL ret n) (hM : MRi l D cT y bytes maxL ret fr lo (.ref b :: As) wc post) (hP : va_P D cls9 ws H) (hD : va_D A ws) (hS : va_S A s.heap H locs) (hA : AO cT s A) (isC : List Nat) (hnum : nd2 isC = true) (hC : isC.map (fun i => ws[i]?) = wc.map some) {ci : Nat} {fs : List Value} {T : u_T} {N : Nat} (hrec : wc[0]? = some (b, .inr (ci, fs))) (hcl : cls9[ci]? = some (y.cls, T, N)) (hRm : fr + 1 ≤ R.frames ∧ 8 + (maxL + 11) + lo ≤ R.locals) (hn : As.length = n) (hsize : ls.size = nL) (hst : st = As.reverse ++ .ref b :: rest) (hW : (rest.map fun v => v.category).sum ≤ 8) (hdg : decode cc pc = .ok (.invokevirtual idx, 3)) (hf : cells ≤ R.cells ∧ slots ≤ R.slots)
    (kk : ∀ r : Int32, post r → W p l e R s m args below meth c H locs cells slots Q (F0 m (pc + 3) ls (.int r :: rest))) : W p l e R s m args below meth c H locs cells slots Q (F0 m pc ls st) :=
  k_ri (k_runV C0 hL (hM H.size) hP hD hS hA isC hC (nd2_ok _ hnum) hrec hcl hRm hn hsize hst hW hdg hf) kk
theorem k_Vxl {post : Int64 → Prop} (C0 : Cx p s m args meth c D cT cc nL own) (hL : LkV own idx y bytes maxL ret n) (hM : MRl l D cT y bytes maxL ret fr lo (.ref b :: As) wc post) (hP : va_P D cls9 ws H) (hD : va_D A ws) (hS : va_S A s.heap H locs) (hA : AO cT s A) (isC : List Nat) (hnum : nd2 isC = true) (hC : isC.map (fun i => ws[i]?) = wc.map some) {ci : Nat} {fs : List Value} {T : u_T} {N : Nat} (hrec : wc[0]? = some (b, .inr (ci, fs))) (hcl : cls9[ci]? = some (y.cls, T, N)) (hRm : fr + 1 ≤ R.frames ∧ 8 + (maxL + 11) + lo ≤ R.locals) (hn : As.length = n) (hsize : ls.size = nL) (hst : st = As.reverse ++ .ref b :: rest) (hW : (rest.map fun v => v.category).sum ≤ 8) (hdg : decode cc pc = .ok (.invokevirtual idx, 3)) (hf : cells ≤ R.cells ∧ slots ≤ R.slots)
    (kk : ∀ r : Int64, post r → W p l e R s m args below meth c H locs cells slots Q (F0 m (pc + 3) ls (.long r :: rest))) : W p l e R s m args below meth c H locs cells slots Q (F0 m pc ls st) :=
  k_rl (k_runV C0 hL (hM H.size) hP hD hS hA isC hC (nd2_ok _ hnum) hrec hcl hRm hn hsize hst hW hdg hf) kk
theorem k_Si {post : Int32 → S → Prop} (C0 : Cx p s m args meth c D cT cc nL own) (hL : LkS own idx y bytes maxL ret n) (hM : MWi l D cT y bytes maxL ret fr lo mc ms As wc post w1) (hP : va_P D cls9 ws H) (hD : va_D A ws) (hS : va_S A s.heap H locs) (hA : AO cT s A) (isC isR : List Nat) (hnum : kn isC isR = true) (hC : isC.map (fun i => ws[i]?) = wc.map some) (hR : isR.map (fun i => ws[i]?) = wr.map some) (hw2 : ∀ u, wr ++ w1 u = w2 u) (hRm : fr + 1 ≤ R.frames ∧ 8 + (maxL + 11) + lo ≤ R.locals) (hn : As.length = n) (hsize : ls.size = nL) (hst : st = As.reverse ++ rest) (hW : (rest.map fun v => v.category).sum ≤ 8) (hdg : decode cc pc = .ok (.invokestatic idx, 3)) (hf : cells + mc ≤ R.cells ∧ slots + ms ≤ R.slots)
    (kk : ∀ (r : Int32) (u : S) (H1 : Heap) (locs1 : List Loc), post r u → va_P D cls9 (w2 u) H1 → va_D A (w2 u) → va_S A s.heap H1 locs1 → W p l e R s m args below meth c H1 locs1 (cells + mc) (slots + ms) Q (F0 m (pc + 3) ls (.int r :: rest))) : W p l e R s m args below meth c H locs cells slots Q (F0 m pc ls st) := by
  have hnd := hnum
  rw [kn, Bool.and_eq_true, Bool.and_eq_true] at hnd
  exact k_wi (k_runS C0 hL (hM H.size) hP hD hS hA isC hC (nd2_ok _ hnd.1.1) hRm hn hsize hst hW hdg hf) hP hD hS hA isC isR hnum hC hR hw2 kk
theorem k_Sl {post : Int64 → S → Prop} (C0 : Cx p s m args meth c D cT cc nL own) (hL : LkS own idx y bytes maxL ret n) (hM : MWl l D cT y bytes maxL ret fr lo mc ms As wc post w1) (hP : va_P D cls9 ws H) (hD : va_D A ws) (hS : va_S A s.heap H locs) (hA : AO cT s A) (isC isR : List Nat) (hnum : kn isC isR = true) (hC : isC.map (fun i => ws[i]?) = wc.map some) (hR : isR.map (fun i => ws[i]?) = wr.map some) (hw2 : ∀ u, wr ++ w1 u = w2 u) (hRm : fr + 1 ≤ R.frames ∧ 8 + (maxL + 11) + lo ≤ R.locals) (hn : As.length = n) (hsize : ls.size = nL) (hst : st = As.reverse ++ rest) (hW : (rest.map fun v => v.category).sum ≤ 8) (hdg : decode cc pc = .ok (.invokestatic idx, 3)) (hf : cells + mc ≤ R.cells ∧ slots + ms ≤ R.slots)
    (kk : ∀ (r : Int64) (u : S) (H1 : Heap) (locs1 : List Loc), post r u → va_P D cls9 (w2 u) H1 → va_D A (w2 u) → va_S A s.heap H1 locs1 → W p l e R s m args below meth c H1 locs1 (cells + mc) (slots + ms) Q (F0 m (pc + 3) ls (.long r :: rest))) : W p l e R s m args below meth c H locs cells slots Q (F0 m pc ls st) := by
  have hnd := hnum
  rw [kn, Bool.and_eq_true, Bool.and_eq_true] at hnd
  exact k_wl (k_runS C0 hL (hM H.size) hP hD hS hA isC hC (nd2_ok _ hnd.1.1) hRm hn hsize hst hW hdg hf) hP hD hS hA isC isR hnum hC hR hw2 kk
theorem k_Sv {post : S → Prop} (C0 : Cx p s m args meth c D cT cc nL own) (hL : LkS own idx y bytes maxL ret n) (hM : MWv l D cT y bytes maxL ret fr lo mc ms As wc post w1) (hP : va_P D cls9 ws H) (hD : va_D A ws) (hS : va_S A s.heap H locs) (hA : AO cT s A) (isC isR : List Nat) (hnum : kn isC isR = true) (hC : isC.map (fun i => ws[i]?) = wc.map some) (hR : isR.map (fun i => ws[i]?) = wr.map some) (hw2 : ∀ u, wr ++ w1 u = w2 u) (hRm : fr + 1 ≤ R.frames ∧ 8 + (maxL + 11) + lo ≤ R.locals) (hn : As.length = n) (hsize : ls.size = nL) (hst : st = As.reverse ++ rest) (hW : (rest.map fun v => v.category).sum ≤ 8) (hdg : decode cc pc = .ok (.invokestatic idx, 3)) (hf : cells + mc ≤ R.cells ∧ slots + ms ≤ R.slots)
    (kk : ∀ (u : S) (H1 : Heap) (locs1 : List Loc), post u → va_P D cls9 (w2 u) H1 → va_D A (w2 u) → va_S A s.heap H1 locs1 → W p l e R s m args below meth c H1 locs1 (cells + mc) (slots + ms) Q (F0 m (pc + 3) ls (rest))) : W p l e R s m args below meth c H locs cells slots Q (F0 m pc ls st) := by
  have hnd := hnum
  rw [kn, Bool.and_eq_true, Bool.and_eq_true] at hnd
  exact k_wv (k_runS C0 hL (hM H.size) hP hD hS hA isC hC (nd2_ok _ hnd.1.1) hRm hn hsize hst hW hdg hf) hP hD hS hA isC isR hnum hC hR hw2 kk
theorem k_Sr {post : S → Prop} (C0 : Cx p s m args meth c D cT cc nL own) (hL : LkS own idx y bytes maxL ret n) (hM : MWr l D cT y bytes maxL ret fr lo mc ms As wc b9 post w1) (hP : va_P D cls9 ws H) (hD : va_D A ws) (hS : va_S A s.heap H locs) (hA : AO cT s A) (isC isR : List Nat) (hnum : kn isC isR = true) (hC : isC.map (fun i => ws[i]?) = wc.map some) (hR : isR.map (fun i => ws[i]?) = wr.map some) (hw2 : ∀ u, wr ++ w1 u = w2 u) (hRm : fr + 1 ≤ R.frames ∧ 8 + (maxL + 11) + lo ≤ R.locals) (hn : As.length = n) (hsize : ls.size = nL) (hst : st = As.reverse ++ rest) (hW : (rest.map fun v => v.category).sum ≤ 8) (hdg : decode cc pc = .ok (.invokestatic idx, 3)) (hf : cells + mc ≤ R.cells ∧ slots + ms ≤ R.slots)
    (kk : ∀ (u : S) (H1 : Heap) (locs1 : List Loc), post u → va_P D cls9 (w2 u) H1 → va_D A (w2 u) → va_S A s.heap H1 locs1 → W p l e R s m args below meth c H1 locs1 (cells + mc) (slots + ms) Q (F0 m (pc + 3) ls (.ref b9 :: rest))) : W p l e R s m args below meth c H locs cells slots Q (F0 m pc ls st) := by
  have hnd := hnum
  rw [kn, Bool.and_eq_true, Bool.and_eq_true] at hnd
  exact k_wr' (k_runS C0 hL (hM H.size) hP hD hS hA isC hC (nd2_ok _ hnd.1.1) hRm hn hsize hst hW hdg hf) hP hD hS hA isC isR hnum hC hR hw2 kk
theorem k_Sxi {post : Int32 → Prop} (C0 : Cx p s m args meth c D cT cc nL own) (hL : LkS own idx y bytes maxL ret n) (hM : MRi l D cT y bytes maxL ret fr lo As wc post) (hP : va_P D cls9 ws H) (hD : va_D A ws) (hS : va_S A s.heap H locs) (hA : AO cT s A) (isC : List Nat) (hnum : nd2 isC = true) (hC : isC.map (fun i => ws[i]?) = wc.map some) (hRm : fr + 1 ≤ R.frames ∧ 8 + (maxL + 11) + lo ≤ R.locals) (hn : As.length = n) (hsize : ls.size = nL) (hst : st = As.reverse ++ rest) (hW : (rest.map fun v => v.category).sum ≤ 8) (hdg : decode cc pc = .ok (.invokestatic idx, 3)) (hf : cells ≤ R.cells ∧ slots ≤ R.slots)
    (kk : ∀ r : Int32, post r → W p l e R s m args below meth c H locs cells slots Q (F0 m (pc + 3) ls (.int r :: rest))) : W p l e R s m args below meth c H locs cells slots Q (F0 m pc ls st) :=
  k_ri (k_runS C0 hL (hM H.size) hP hD hS hA isC hC (nd2_ok _ hnum) hRm hn hsize hst hW hdg hf) kk
theorem k_Sxl {post : Int64 → Prop} (C0 : Cx p s m args meth c D cT cc nL own) (hL : LkS own idx y bytes maxL ret n) (hM : MRl l D cT y bytes maxL ret fr lo As wc post) (hP : va_P D cls9 ws H) (hD : va_D A ws) (hS : va_S A s.heap H locs) (hA : AO cT s A) (isC : List Nat) (hnum : nd2 isC = true) (hC : isC.map (fun i => ws[i]?) = wc.map some) (hRm : fr + 1 ≤ R.frames ∧ 8 + (maxL + 11) + lo ≤ R.locals) (hn : As.length = n) (hsize : ls.size = nL) (hst : st = As.reverse ++ rest) (hW : (rest.map fun v => v.category).sum ≤ 8) (hdg : decode cc pc = .ok (.invokestatic idx, 3)) (hf : cells ≤ R.cells ∧ slots ≤ R.slots)
    (kk : ∀ r : Int64, post r → W p l e R s m args below meth c H locs cells slots Q (F0 m (pc + 3) ls (.long r :: rest))) : W p l e R s m args below meth c H locs cells slots Q (F0 m pc ls st) :=
  k_rl (k_runS C0 hL (hM H.size) hP hD hS hA isC hC (nd2_ok _ hnum) hRm hn hsize hst hW hdg hf) kk
theorem k_Ni {post : Int32 → S → Prop} (C0 : Cx p s m args meth c D cT cc nL own) (hL : LkN own idx y host bytes maxL ret n) (hM : MWi l D cT y bytes maxL ret fr lo mc ms As wc post w1) (hP : va_P D cls9 ws H) (hD : va_D A ws) (hS : va_S A s.heap H locs) (hA : AO cT s A) (isC isR : List Nat) (hnum : kn isC isR = true) (hC : isC.map (fun i => ws[i]?) = wc.map some) (hR : isR.map (fun i => ws[i]?) = wr.map some) (hw2 : ∀ u, wr ++ w1 u = w2 u) (hRm : fr + 1 ≤ R.frames ∧ 8 + (maxL + 11) + lo ≤ R.locals) (hn : As.length = n) (hsize : ls.size = nL) (hst : st = As.reverse ++ rest) (hW : (rest.map fun v => v.category).sum ≤ 8) (hdg : decode cc pc = .ok (.invokestatic idx, 3)) (hf : cells + mc ≤ R.cells ∧ slots + ms ≤ R.slots)
    (kk : ∀ (r : Int32) (u : S) (H1 : Heap) (locs1 : List Loc), post r u → va_P D cls9 (w2 u) H1 → va_D A (w2 u) → va_S A s.heap H1 locs1 → W p l e R s m args below meth c H1 locs1 (cells + mc) (slots + ms) Q (F0 m (pc + 3) ls (.int r :: rest))) : W p l e R s m args below meth c H locs cells slots Q (F0 m pc ls st) := by
  have hnd := hnum
  rw [kn, Bool.and_eq_true, Bool.and_eq_true] at hnd
  exact k_wi (k_runN C0 hL (hM H.size) hP hD hS hA isC hC (nd2_ok _ hnd.1.1) hRm hn hsize hst hW hdg hf) hP hD hS hA isC isR hnum hC hR hw2 kk
theorem k_Nl {post : Int64 → S → Prop} (C0 : Cx p s m args meth c D cT cc nL own) (hL : LkN own idx y host bytes maxL ret n) (hM : MWl l D cT y bytes maxL ret fr lo mc ms As wc post w1) (hP : va_P D cls9 ws H) (hD : va_D A ws) (hS : va_S A s.heap H locs) (hA : AO cT s A) (isC isR : List Nat) (hnum : kn isC isR = true) (hC : isC.map (fun i => ws[i]?) = wc.map some) (hR : isR.map (fun i => ws[i]?) = wr.map some) (hw2 : ∀ u, wr ++ w1 u = w2 u) (hRm : fr + 1 ≤ R.frames ∧ 8 + (maxL + 11) + lo ≤ R.locals) (hn : As.length = n) (hsize : ls.size = nL) (hst : st = As.reverse ++ rest) (hW : (rest.map fun v => v.category).sum ≤ 8) (hdg : decode cc pc = .ok (.invokestatic idx, 3)) (hf : cells + mc ≤ R.cells ∧ slots + ms ≤ R.slots)
    (kk : ∀ (r : Int64) (u : S) (H1 : Heap) (locs1 : List Loc), post r u → va_P D cls9 (w2 u) H1 → va_D A (w2 u) → va_S A s.heap H1 locs1 → W p l e R s m args below meth c H1 locs1 (cells + mc) (slots + ms) Q (F0 m (pc + 3) ls (.long r :: rest))) : W p l e R s m args below meth c H locs cells slots Q (F0 m pc ls st) := by
  have hnd := hnum
  rw [kn, Bool.and_eq_true, Bool.and_eq_true] at hnd
  exact k_wl (k_runN C0 hL (hM H.size) hP hD hS hA isC hC (nd2_ok _ hnd.1.1) hRm hn hsize hst hW hdg hf) hP hD hS hA isC isR hnum hC hR hw2 kk
theorem k_Nv {post : S → Prop} (C0 : Cx p s m args meth c D cT cc nL own) (hL : LkN own idx y host bytes maxL ret n) (hM : MWv l D cT y bytes maxL ret fr lo mc ms As wc post w1) (hP : va_P D cls9 ws H) (hD : va_D A ws) (hS : va_S A s.heap H locs) (hA : AO cT s A) (isC isR : List Nat) (hnum : kn isC isR = true) (hC : isC.map (fun i => ws[i]?) = wc.map some) (hR : isR.map (fun i => ws[i]?) = wr.map some) (hw2 : ∀ u, wr ++ w1 u = w2 u) (hRm : fr + 1 ≤ R.frames ∧ 8 + (maxL + 11) + lo ≤ R.locals) (hn : As.length = n) (hsize : ls.size = nL) (hst : st = As.reverse ++ rest) (hW : (rest.map fun v => v.category).sum ≤ 8) (hdg : decode cc pc = .ok (.invokestatic idx, 3)) (hf : cells + mc ≤ R.cells ∧ slots + ms ≤ R.slots)
    (kk : ∀ (u : S) (H1 : Heap) (locs1 : List Loc), post u → va_P D cls9 (w2 u) H1 → va_D A (w2 u) → va_S A s.heap H1 locs1 → W p l e R s m args below meth c H1 locs1 (cells + mc) (slots + ms) Q (F0 m (pc + 3) ls (rest))) : W p l e R s m args below meth c H locs cells slots Q (F0 m pc ls st) := by
  have hnd := hnum
  rw [kn, Bool.and_eq_true, Bool.and_eq_true] at hnd
  exact k_wv (k_runN C0 hL (hM H.size) hP hD hS hA isC hC (nd2_ok _ hnd.1.1) hRm hn hsize hst hW hdg hf) hP hD hS hA isC isR hnum hC hR hw2 kk
theorem k_Nr {post : S → Prop} (C0 : Cx p s m args meth c D cT cc nL own) (hL : LkN own idx y host bytes maxL ret n) (hM : MWr l D cT y bytes maxL ret fr lo mc ms As wc b9 post w1) (hP : va_P D cls9 ws H) (hD : va_D A ws) (hS : va_S A s.heap H locs) (hA : AO cT s A) (isC isR : List Nat) (hnum : kn isC isR = true) (hC : isC.map (fun i => ws[i]?) = wc.map some) (hR : isR.map (fun i => ws[i]?) = wr.map some) (hw2 : ∀ u, wr ++ w1 u = w2 u) (hRm : fr + 1 ≤ R.frames ∧ 8 + (maxL + 11) + lo ≤ R.locals) (hn : As.length = n) (hsize : ls.size = nL) (hst : st = As.reverse ++ rest) (hW : (rest.map fun v => v.category).sum ≤ 8) (hdg : decode cc pc = .ok (.invokestatic idx, 3)) (hf : cells + mc ≤ R.cells ∧ slots + ms ≤ R.slots)
    (kk : ∀ (u : S) (H1 : Heap) (locs1 : List Loc), post u → va_P D cls9 (w2 u) H1 → va_D A (w2 u) → va_S A s.heap H1 locs1 → W p l e R s m args below meth c H1 locs1 (cells + mc) (slots + ms) Q (F0 m (pc + 3) ls (.ref b9 :: rest))) : W p l e R s m args below meth c H locs cells slots Q (F0 m pc ls st) := by
  have hnd := hnum
  rw [kn, Bool.and_eq_true, Bool.and_eq_true] at hnd
  exact k_wr' (k_runN C0 hL (hM H.size) hP hD hS hA isC hC (nd2_ok _ hnd.1.1) hRm hn hsize hst hW hdg hf) hP hD hS hA isC isR hnum hC hR hw2 kk
theorem k_Nxi {post : Int32 → Prop} (C0 : Cx p s m args meth c D cT cc nL own) (hL : LkN own idx y host bytes maxL ret n) (hM : MRi l D cT y bytes maxL ret fr lo As wc post) (hP : va_P D cls9 ws H) (hD : va_D A ws) (hS : va_S A s.heap H locs) (hA : AO cT s A) (isC : List Nat) (hnum : nd2 isC = true) (hC : isC.map (fun i => ws[i]?) = wc.map some) (hRm : fr + 1 ≤ R.frames ∧ 8 + (maxL + 11) + lo ≤ R.locals) (hn : As.length = n) (hsize : ls.size = nL) (hst : st = As.reverse ++ rest) (hW : (rest.map fun v => v.category).sum ≤ 8) (hdg : decode cc pc = .ok (.invokestatic idx, 3)) (hf : cells ≤ R.cells ∧ slots ≤ R.slots)
    (kk : ∀ r : Int32, post r → W p l e R s m args below meth c H locs cells slots Q (F0 m (pc + 3) ls (.int r :: rest))) : W p l e R s m args below meth c H locs cells slots Q (F0 m pc ls st) :=
  k_ri (k_runN C0 hL (hM H.size) hP hD hS hA isC hC (nd2_ok _ hnum) hRm hn hsize hst hW hdg hf) kk
theorem k_Nxl {post : Int64 → Prop} (C0 : Cx p s m args meth c D cT cc nL own) (hL : LkN own idx y host bytes maxL ret n) (hM : MRl l D cT y bytes maxL ret fr lo As wc post) (hP : va_P D cls9 ws H) (hD : va_D A ws) (hS : va_S A s.heap H locs) (hA : AO cT s A) (isC : List Nat) (hnum : nd2 isC = true) (hC : isC.map (fun i => ws[i]?) = wc.map some) (hRm : fr + 1 ≤ R.frames ∧ 8 + (maxL + 11) + lo ≤ R.locals) (hn : As.length = n) (hsize : ls.size = nL) (hst : st = As.reverse ++ rest) (hW : (rest.map fun v => v.category).sum ≤ 8) (hdg : decode cc pc = .ok (.invokestatic idx, 3)) (hf : cells ≤ R.cells ∧ slots ≤ R.slots)
    (kk : ∀ r : Int64, post r → W p l e R s m args below meth c H locs cells slots Q (F0 m (pc + 3) ls (.long r :: rest))) : W p l e R s m args below meth c H locs cells slots Q (F0 m pc ls st) :=
  k_rl (k_runN C0 hL (hM H.size) hP hD hS hA isC hC (nd2_ok _ hnum) hRm hn hsize hst hW hdg hf) kk
end CALLS4
/-! ===== a method's entry and end ===== -/
section ENTRY
variable {l : Launch} {D : va_G} {cT : Nat → ClassId} {y : MethodName} {cc : ByteArray} {nL fr lo mc ms : Nat} {ret : Option FieldType} {av : List Value} {ws : va_W} {S : Type} {w1 : S → va_W}
theorem MRi.of {post : Int32 → Prop} (hy : plainName y.cls = true) (hlen : (lg_sl av).length ≤ nL)
    (body : ∀ (p : Program) (e : Env) (s : State) (m : MethodId) (below : List Frame) (meth : Method) (c : Code), AO cT s (fun q => cT 6 ≤ q) → Cx p s m av.toArray meth c D cT cc nL y.cls → meth.sig.returnType = ret → va_P D cls9 ws s.heap → va_D (fun q => cT 6 ≤ q) ws → va_S (fun q => cT 6 ≤ q) s.heap s.heap [] → ∀ ls, lv_has ls nL (lv_args 0 av) →
      W p l e (rmO fr lo 0 0) s m av.toArray below meth c s.heap [] 0 0 (MQ below (vp_Si post) av.toArray s 0 0 (fun _ => False)) (F0 m 0 ls [])) : MRi l D cT y cc nL ret fr lo av ws post := by
  intro sz
  refine Met.ofW (cc := cc) (maxL := nL) (ret := ret) hy rfl ?_
  intro p e s m args below meth c s₁ B hml hv
  obtain ⟨rfl, hsz, hP, hK, hD, hz, hG⟩ := hv
  subst hsz
  rw [lg_entry_eq]
  exact body p e s m below meth c ⟨fun q h => Nat.le_trans hz h, fun _ h => h⟩ ⟨⟨B.exec, B.bytes, hml, findClass_of_methodNamed B.named, fun w hw => atoms_spec B.pre w (List.mem_cons_of_mem _ hw)⟩, hK, B.notSynchronized, hz, hG⟩ B.returns hP hD va_S.rf _ (lv_entry av hlen)
theorem MRl.of {post : Int64 → Prop} (hy : plainName y.cls = true) (hlen : (lg_sl av).length ≤ nL)
    (body : ∀ (p : Program) (e : Env) (s : State) (m : MethodId) (below : List Frame) (meth : Method) (c : Code), AO cT s (fun q => cT 6 ≤ q) → Cx p s m av.toArray meth c D cT cc nL y.cls → meth.sig.returnType = ret → va_P D cls9 ws s.heap → va_D (fun q => cT 6 ≤ q) ws → va_S (fun q => cT 6 ≤ q) s.heap s.heap [] → ∀ ls, lv_has ls nL (lv_args 0 av) →
      W p l e (rmO fr lo 0 0) s m av.toArray below meth c s.heap [] 0 0 (MQ below (vp_Sl post) av.toArray s 0 0 (fun _ => False)) (F0 m 0 ls [])) : MRl l D cT y cc nL ret fr lo av ws post := by
  intro sz
  refine Met.ofW (cc := cc) (maxL := nL) (ret := ret) hy rfl ?_
  intro p e s m args below meth c s₁ B hml hv
  obtain ⟨rfl, hsz, hP, hK, hD, hz, hG⟩ := hv
  subst hsz
  rw [lg_entry_eq]
  exact body p e s m below meth c ⟨fun q h => Nat.le_trans hz h, fun _ h => h⟩ ⟨⟨B.exec, B.bytes, hml, findClass_of_methodNamed B.named, fun w hw => atoms_spec B.pre w (List.mem_cons_of_mem _ hw)⟩, hK, B.notSynchronized, hz, hG⟩ B.returns hP hD va_S.rf _ (lv_entry av hlen)
theorem k_ofW {Qc : (Nat → Prop) → Array Value → State → Outcome → State → Prop} (hy : plainName y.cls = true) (hlen : (lg_sl av).length ≤ nL)
    (body : ∀ (p : Program) (e : Env) (s : State) (m : MethodId) (below : List Frame) (meth : Method) (c : Code) (A : Nat → Prop), AO cT s A → Cx p s m av.toArray meth c D cT cc nL y.cls → meth.name = y.name → meth.sig.returnType = ret → va_P D cls9 ws s.heap → va_D A ws → ∀ ls, lv_has ls nL (lv_args 0 av) →
      W p l e (rmO fr lo mc ms) s m av.toArray below meth c s.heap [] 0 0 (MQ below (Qc A) av.toArray s mc ms A) (F0 m 0 ls [])) (sz : Nat) : Met l y (.code y cc nL ret :: gw) (rmO fr lo mc ms) (va_Pc av (cP D cT sz ws)) (Qc (va_A ws sz)) mc ms (va_A ws sz) := by
  refine Met.ofW (cc := cc) (maxL := nL) (ret := ret) hy rfl ?_
  intro p e s m args below meth c s₁ B hml hv
  obtain ⟨rfl, hsz, hP, hK, hD, hz, hG⟩ := hv
  subst hsz
  rw [lg_entry_eq]
  exact body p e s m below meth c (va_A ws s.heap.size) ⟨fun q h => Or.inr h, fun q h => h.elim (fun ⟨k, e, hk⟩ => hD.2 k _ hk) (fun h => Nat.le_trans hz h)⟩ ⟨⟨B.exec, B.bytes, hml, findClass_of_methodNamed B.named, fun w hw => atoms_spec B.pre w (List.mem_cons_of_mem _ hw)⟩, hK, B.notSynchronized, hz, hG⟩ (name_of_methodNamed B.named B.method).1 B.returns hP hD.self _ (lv_entry av hlen)
theorem MWi.of {post : Int32 → S → Prop} (hy : plainName y.cls = true) (hlen : (lg_sl av).length ≤ nL)
    (body : ∀ (p : Program) (e : Env) (s : State) (m : MethodId) (below : List Frame) (meth : Method) (c : Code) (A : Nat → Prop), AO cT s A → Cx p s m av.toArray meth c D cT cc nL y.cls → meth.name = y.name → meth.sig.returnType = ret → va_P D cls9 ws s.heap → va_D A ws → ∀ ls, lv_has ls nL (lv_args 0 av) →
      W p l e (rmO fr lo mc ms) s m av.toArray below meth c s.heap [] 0 0 (MQ below (va_Qi post (cB D A w1) A) av.toArray s mc ms A) (F0 m 0 ls [])) : MWi l D cT y cc nL ret fr lo mc ms av ws post w1 :=
  fun sz => k_ofW (Qc := fun A => va_Qi post (cB D A w1) A) hy hlen body sz
theorem MWl.of {post : Int64 → S → Prop} (hy : plainName y.cls = true) (hlen : (lg_sl av).length ≤ nL)
    (body : ∀ (p : Program) (e : Env) (s : State) (m : MethodId) (below : List Frame) (meth : Method) (c : Code) (A : Nat → Prop), AO cT s A → Cx p s m av.toArray meth c D cT cc nL y.cls → meth.name = y.name → meth.sig.returnType = ret → va_P D cls9 ws s.heap → va_D A ws → ∀ ls, lv_has ls nL (lv_args 0 av) →
      W p l e (rmO fr lo mc ms) s m av.toArray below meth c s.heap [] 0 0 (MQ below (va_Ql post (cB D A w1) A) av.toArray s mc ms A) (F0 m 0 ls [])) : MWl l D cT y cc nL ret fr lo mc ms av ws post w1 :=
  fun sz => k_ofW (Qc := fun A => va_Ql post (cB D A w1) A) hy hlen body sz
theorem MWv.of {post : S → Prop} (hy : plainName y.cls = true) (hlen : (lg_sl av).length ≤ nL)
    (body : ∀ (p : Program) (e : Env) (s : State) (m : MethodId) (below : List Frame) (meth : Method) (c : Code) (A : Nat → Prop), AO cT s A → Cx p s m av.toArray meth c D cT cc nL y.cls → meth.name = y.name → meth.sig.returnType = ret → va_P D cls9 ws s.heap → va_D A ws → ∀ ls, lv_has ls nL (lv_args 0 av) →
      W p l e (rmO fr lo mc ms) s m av.toArray below meth c s.heap [] 0 0 (MQ below (va_Qv post (cB D A w1) A) av.toArray s mc ms A) (F0 m 0 ls [])) : MWv l D cT y cc nL ret fr lo mc ms av ws post w1 :=
  fun sz => k_ofW (Qc := fun A => va_Qv post (cB D A w1) A) hy hlen body sz
theorem MWr.of {b : Nat} {post : S → Prop} (hy : plainName y.cls = true) (hlen : (lg_sl av).length ≤ nL)
    (body : ∀ (p : Program) (e : Env) (s : State) (m : MethodId) (below : List Frame) (meth : Method) (c : Code) (A : Nat → Prop), AO cT s A → Cx p s m av.toArray meth c D cT cc nL y.cls → meth.name = y.name → meth.sig.returnType = ret → va_P D cls9 ws s.heap → va_D A ws → ∀ ls, lv_has ls nL (lv_args 0 av) →
      W p l e (rmO fr lo mc ms) s m av.toArray below meth c s.heap [] 0 0 (MQ below (va_Qr post (fun u a t => a = b ∧ cB D A w1 u t) A) av.toArray s mc ms A) (F0 m 0 ls [])) : MWr l D cT y cc nL ret fr lo mc ms av ws b post w1 :=
  fun sz => k_ofW (Qc := fun A => va_Qr post (fun u a t => a = b ∧ cB D A w1 u t) A) hy hlen body sz
end ENTRY
theorem bz_n {v : Int32} (h : v = 0 ∨ v = 1) : narrow .boolean (.int v) = .int v := by rcases h with rfl | rfl <;> rfl
theorem bz_f {v : Int32} (h : v = 0 ∨ v = 1) : fits .boolean (.int v) = true := by rcases h with rfl | rfl <;> rfl
section ENDS
variable {p : Program} {l : Launch} {e : Env} {R : Room} {s : State} {m : MethodId} {args : Array Value} {below : List Frame} {meth : Method} {c : Code} {H : Heap} {locs : List Loc} {cells slots : Nat}
variable {cc : ByteArray} {pc nL : Nat} {ls : Array Slot} {D : va_G} {cT : Nat → ClassId} {A : Nat → Prop} {own : String} {S : Type} {w1 : S → va_W}
theorem k_xiret {post : Int32 → Prop} (C0 : Cx p s m args meth c D cT cc nL own) (hr : meth.sig.returnType = some .int) {r : Int32} (hp : post r) (hdg : decode cc pc = .ok (.ireturn, 1)) : W p l e R s m args below meth c s.heap [] cells slots (MQ below (vp_Si post) args s cells slots (fun _ => False)) (F0 m pc ls [.int r]) :=
  W.iret C0.x C0.b hr (fun t ht _ => ⟨r, rfl, hp, ht⟩) (fun _ h => by cases h) hdg C0.2.2.1
theorem k_xzret {post : Int32 → Prop} (C0 : Cx p s m args meth c D cT cc nL own) (hr : meth.sig.returnType = some .boolean) {r : Int32} (hz : r = 0 ∨ r = 1) (hp : post r) (hdg : decode cc pc = .ok (.ireturn, 1)) : W p l e R s m args below meth c s.heap [] cells slots (MQ below (vp_Si post) args s cells slots (fun _ => False)) (F0 m pc ls [.int r]) :=
  W.zret C0.x C0.b hr (bz_n hz) (fun t ht _ => ⟨r, rfl, hp, ht⟩) (fun _ h => by cases h) hdg C0.2.2.1
theorem k_xlret {post : Int64 → Prop} (C0 : Cx p s m args meth c D cT cc nL own) (hr : meth.sig.returnType = some .long) {r : Int64} (hp : post r) (hdg : decode cc pc = .ok (.lreturn, 1)) : W p l e R s m args below meth c s.heap [] cells slots (MQ below (vp_Sl post) args s cells slots (fun _ => False)) (F0 m pc ls [.long r]) :=
  W.lret C0.x C0.b hr (fun t ht _ => ⟨r, rfl, hp, ht⟩) (fun _ h => by cases h) hdg C0.2.2.1
theorem k_iret {post : Int32 → S → Prop} (C0 : Cx p s m args meth c D cT cc nL own) (hr : meth.sig.returnType = some .int) {r : Int32} (u : S) (hp : post r u) (hP : va_P D cls9 (w1 u) H) (hD : va_D A (w1 u)) (hS : va_S A s.heap H locs) (hdg : decode cc pc = .ok (.ireturn, 1)) : W p l e R s m args below meth c H locs cells slots (MQ below (va_Qi post (cB D A w1) A) args s cells slots A) (F0 m pc ls [.int r]) :=
  W.iret C0.x C0.b hr (fun t ht _ => ⟨⟨r, u, rfl, hp, by rw [ht]; exact hP, hD⟩, hS.F ht⟩) hS.2.2 hdg C0.2.2.1
theorem k_zret {post : Int32 → S → Prop} (C0 : Cx p s m args meth c D cT cc nL own) (hr : meth.sig.returnType = some .boolean) {r : Int32} (hz : r = 0 ∨ r = 1) (u : S) (hp : post r u) (hP : va_P D cls9 (w1 u) H) (hD : va_D A (w1 u)) (hS : va_S A s.heap H locs) (hdg : decode cc pc = .ok (.ireturn, 1)) : W p l e R s m args below meth c H locs cells slots (MQ below (va_Qi post (cB D A w1) A) args s cells slots A) (F0 m pc ls [.int r]) :=
  W.zret C0.x C0.b hr (bz_n hz) (fun t ht _ => ⟨⟨r, u, rfl, hp, by rw [ht]; exact hP, hD⟩, hS.F ht⟩) hS.2.2 hdg C0.2.2.1
theorem k_lret {post : Int64 → S → Prop} (C0 : Cx p s m args meth c D cT cc nL own) (hr : meth.sig.returnType = some .long) {r : Int64} (u : S) (hp : post r u) (hP : va_P D cls9 (w1 u) H) (hD : va_D A (w1 u)) (hS : va_S A s.heap H locs) (hdg : decode cc pc = .ok (.lreturn, 1)) : W p l e R s m args below meth c H locs cells slots (MQ below (va_Ql post (cB D A w1) A) args s cells slots A) (F0 m pc ls [.long r]) :=
  W.lret C0.x C0.b hr (fun t ht _ => ⟨⟨r, u, rfl, hp, by rw [ht]; exact hP, hD⟩, hS.F ht⟩) hS.2.2 hdg C0.2.2.1
theorem k_vret {post : S → Prop} (C0 : Cx p s m args meth c D cT cc nL own) (hr : meth.sig.returnType = none) (u : S) (hp : post u) (hP : va_P D cls9 (w1 u) H) (hD : va_D A (w1 u)) (hS : va_S A s.heap H locs) (hdg : decode cc pc = .ok (.return_, 1)) : W p l e R s m args below meth c H locs cells slots (MQ below (va_Qv post (cB D A w1) A) args s cells slots A) (F0 m pc ls []) :=
  W.vret C0.x C0.b hr (fun t ht _ => ⟨⟨u, rfl, hp, by rw [ht]; exact hP, hD⟩, hS.F ht⟩) hS.2.2 hdg C0.2.2.1
theorem k_aret {b : Nat} {post : S → Prop} {n : String} (C0 : Cx p s m args meth c D cT cc nL own) (hr : meth.sig.returnType = some (.object n)) (u : S) (hp : post u) (hP : va_P D cls9 (w1 u) H) (hD : va_D A (w1 u)) (hS : va_S A s.heap H locs) (hdg : decode cc pc = .ok (.areturn, 1)) : W p l e R s m args below meth c H locs cells slots (MQ below (va_Qr post (fun u a t => a = b ∧ cB D A w1 u t) A) args s cells slots A) (F0 m pc ls [.ref b]) :=
  W.aret C0.x C0.b hr (Or.inl ⟨n, rfl⟩) (Or.inr ⟨b, rfl⟩) (fun t ht _ => ⟨⟨u, b, rfl, hp, rfl, by rw [ht]; exact hP, hD⟩, hS.F ht⟩) hS.2.2 hdg C0.2.2.1
end ENDS
