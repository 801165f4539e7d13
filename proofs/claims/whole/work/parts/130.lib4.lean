/-! ===== worlds in any order; pools of viaducts ===== -/
theorem permP {D : va_G} {ws ws' : va_W} {H : Heap} (h : va_P D cls9 ws H) (hp : ws.Perm ws') : va_P D cls9 ws' H := by
  intro k q hk
  obtain ⟨i, hi⟩ := List.getElem?_of_mem (hp.mem_iff.mpr (List.mem_of_getElem? hk))
  exact h i q hi
theorem vD_iff {A : Nat → Prop} {ws : va_W} : va_D A ws ↔ ws.Pairwise (fun x y => x.1 ≠ y.1) ∧ ∀ q ∈ ws, A q.1 := by
  constructor
  · intro h
    refine ⟨List.pairwise_iff_getElem.mpr (fun i j hi hj hij he => ?_), fun q hq => ?_⟩
    · have := h.1 i j ws[i] ws[j] (List.getElem?_eq_getElem hi) (List.getElem?_eq_getElem hj) he
      omega
    · obtain ⟨i, hi⟩ := List.getElem?_of_mem hq
      exact h.2 i q hi
  · intro h
    refine ⟨fun i j x y hi hj hxy => ?_, fun k q hk => h.2 q (List.mem_of_getElem? hk)⟩
    obtain ⟨li, ei⟩ := List.getElem?_eq_some_iff.mp hi
    obtain ⟨lj, ej⟩ := List.getElem?_eq_some_iff.mp hj
    rcases Nat.lt_trichotomy i j with hlt | heq | hgt
    · exact absurd (by rw [ei, ej]; exact hxy) (List.pairwise_iff_getElem.mp h.1 i j li lj hlt)
    · exact heq
    · exact absurd (by rw [ei, ej]; exact hxy.symm) (List.pairwise_iff_getElem.mp h.1 j i lj li hgt)
theorem permD {A : Nat → Prop} {ws ws' : va_W} (h : va_D A ws) (hp : ws.Perm ws') : va_D A ws' := by
  obtain ⟨h1, h2⟩ := vD_iff.mp h
  exact vD_iff.mpr ⟨(hp.pairwise_iff (fun h => Ne.symm h)).mp h1, fun q hq => h2 q (hp.mem_iff.mpr hq)⟩
theorem appP_l {D : va_G} {a b : va_W} {H : Heap} (h : va_P D cls9 (a ++ b) H) : va_P D cls9 a H := fun k q hk => by
  obtain ⟨i, hi⟩ := List.getElem?_of_mem (List.mem_append_left b (List.mem_of_getElem? hk))
  exact h i q hi
theorem appD_l {A : Nat → Prop} {a b : va_W} (h : va_D A (a ++ b)) : va_D A a := by
  obtain ⟨h1, h2⟩ := vD_iff.mp h
  exact vD_iff.mpr ⟨(List.pairwise_append.mp h1).1, fun q hq => h2 q (List.mem_append_left _ hq)⟩
/-- a viaduct's state, in the order of its fields -/
abbrev VSt : Type := (Nat → Int32) × (Nat → Int32) × (Nat → Int32) × (Nat → Int32) × (Nat → Int32) × (Nat → Int32) × Int32 × Int32 × Int32 × Int32 × Int32
/-- a pooled viaduct: its address, its rows', its state -/
abbrev PSl : Type := Nat × (Nat → Nat) × VSt
abbrev vcl (cT : Nat → ClassId) (q : PSl) : va_W := [(q.1, oX6 (.ref (q.2.1 0)) (.ref (q.2.1 1)) (.ref (q.2.1 2)) (.ref (q.2.1 3)) (.ref (q.2.1 4)) (.ref (q.2.1 5)) (.int q.2.2.2.2.2.2.2.2.1) (.int q.2.2.2.2.2.2.2.2.2.1) (.int q.2.2.2.2.2.2.2.2.2.2.1) (.int q.2.2.2.2.2.2.2.2.2.2.2.1) (.int q.2.2.2.2.2.2.2.2.2.2.2.2)), (q.2.1 0, aI cT 6 q.2.2.1), (q.2.1 1, aI cT 6 q.2.2.2.1), (q.2.1 2, aI cT 8 q.2.2.2.2.1), (q.2.1 3, aI cT 8 q.2.2.2.2.2.1), (q.2.1 4, aI cT 8 q.2.2.2.2.2.2.1), (q.2.1 5, aI cT 8 q.2.2.2.2.2.2.2.1)]
def plW (cT : Nat → ClassId) (n : Nat) (po : Nat → Option PSl) : va_W := (List.range n).flatMap (fun i => (po i).elim [] (vcl cT))
def rgf (po : Nat → Option PSl) : Nat → Option Nat := fun i => (po i).map (fun q => q.1)
def pset (po : Nat → Option PSl) (k : Nat) (q : PSl) : Nat → Option PSl := fun i => if i = k then some q else po i
def pdel (po : Nat → Option PSl) (k : Nat) : Nat → Option PSl := fun i => if i = k then none else po i
theorem plW_succ (cT : Nat → ClassId) (n : Nat) (po : Nat → Option PSl) : plW cT (n + 1) po = plW cT n po ++ (po n).elim [] (vcl cT) := by
  simp [plW, List.range_succ, List.flatMap_append]
theorem plW_congr (cT : Nat → ClassId) {po po' : Nat → Option PSl} : ∀ {n : Nat}, (∀ i, i < n → po i = po' i) → plW cT n po = plW cT n po'
  | 0, _ => rfl
  | n + 1, h => by rw [plW_succ, plW_succ, plW_congr cT (fun i hi => h i (by omega)), h n (by omega)]
theorem plW_split (cT : Nat → ClassId) {po : Nat → Option PSl} {k : Nat} {q : PSl} (hq : po k = some q) : ∀ {n : Nat}, k < n → (plW cT n po).Perm (vcl cT q ++ plW cT n (pdel po k))
  | 0, h => absurd h (by omega)
  | n + 1, h => by
    rw [plW_succ, plW_succ]
    by_cases hk : k = n
    · subst hk
      have e1 : pdel po k k = none := by simp [pdel]
      have e2 : plW cT k (pdel po k) = plW cT k po := plW_congr cT (fun i hi => by simp [pdel, Nat.ne_of_lt hi])
      rw [e1, e2, hq]
      simp only [Option.elim]
      rw [List.append_nil]
      exact List.perm_append_comm
    · have e1 : pdel po k n = po n := by simp [pdel, Ne.symm hk]
      rw [e1, ← List.append_assoc]
      exact (plW_split cT hq (by omega)).append_right _
theorem plW_put (cT : Nat → ClassId) {po : Nat → Option PSl} {k n : Nat} {q : PSl} (h : k < n) : (vcl cT q ++ plW cT n (pdel po k)).Perm (plW cT n (pset po k q)) := by
  have e1 : pset po k q k = some q := by simp [pset]
  have e2 : plW cT n (pdel (pset po k q) k) = plW cT n (pdel po k) := plW_congr cT (fun i _ => by by_cases hi : i = k <;> simp [pdel, pset, hi])
  rw [← e2]
  exact (plW_split cT e1 h).symm
theorem plW_none (cT : Nat → ClassId) {po : Nat → Option PSl} {k n : Nat} (h : po k = none) : plW cT n (pdel po k) = plW cT n po := plW_congr cT (fun i _ => by by_cases hi : i = k <;> simp [pdel, hi, h])
theorem pm_in {X V P P' : va_W} (h : P.Perm (V ++ P')) : (X ++ P).Perm ((V ++ X) ++ P') := (h.append_left X).trans (by rw [← List.append_assoc]; exact List.perm_append_comm.append_right _)
theorem pm_out {X V P P' : va_W} (h : (V ++ P').Perm P) : ((V ++ X) ++ P').Perm (X ++ P) := (List.perm_append_comm.append_right _).trans (by rw [List.append_assoc]; exact h.append_left X)
/-! ===== calls beside a pool ===== -/
theorem hC_app {Y pz : va_W} : ∀ {isC : List Nat} {cz : va_W}, isC.map (fun i => Y[i]?) = cz.map some → isC.map (fun i => (Y ++ pz)[i]?) = cz.map some
  | [], [], _ => rfl
  | [], _ :: _, h => by simp at h
  | _ :: _, [], h => by simp at h
  | i :: is, q :: cz, h => by
    obtain ⟨h1, h2⟩ := List.cons.inj h
    have e1 : (Y ++ pz)[i]? = some q := by
      rw [List.getElem?_append_left (List.getElem?_eq_some_iff.mp h1).1]
      exact h1
    exact congr (congrArg List.cons e1) (hC_app h2)
section POOL
variable {p : Program} {l : Launch} {e : Env} {R : Room} {s : State} {m : MethodId} {args : Array Value} {below : List Frame} {meth : Method} {c : Code} {H : Heap} {locs : List Loc} {cells slots : Nat} {Q : State → Prop}
variable {cc : ByteArray} {pc nL : Nat} {ls : Array Slot} {rest st : List Value} {D : va_G} {cT : Nat → ClassId} {A : Nat → Prop} {b b9 : Nat} {X cx wr pl : va_W} {own : String}
variable {y : MethodName} {bytes : ByteArray} {maxL n idx fr lo mc ms : Nat} {ret : Option FieldType} {As : List Value} {Qc : Array Value → State → Outcome → State → Prop} {free : Addr → Prop} {S : Type} {w1 w2 rx pl1 : S → va_W}
theorem k_runV0 {wc : va_W} (C0 : Cx p s m args meth c D cT cc nL own) (hL : LkV own idx y bytes maxL ret n) (hM : Met l y (.code y bytes maxL ret :: gw) (rmO fr lo mc ms) (va_Pc (.ref b :: As) (cP D cT H.size wc)) Qc mc ms free)
    (hPc : va_P D cls9 wc H) (hDc : va_D A wc) (hS : va_S A s.heap H locs) (hA : AO cT s A) {ci : Nat} {fs : List Value} {T : u_T} {N : Nat} (hrec : wc[0]? = some (b, .inr (ci, fs))) (hcl : cls9[ci]? = some (y.cls, T, N))
    (hR : fr + 1 ≤ R.frames ∧ 8 + (maxL + 11) + lo ≤ R.locals) (hn : As.length = n) (hsize : ls.size = nL) (hst : st = As.reverse ++ .ref b :: rest) (hW : (rest.map fun v => v.category).sum ≤ 8) (hdg : decode cc pc = .ok (.invokevirtual idx, 3)) (hf : cells + mc ≤ R.cells ∧ slots + ms ≤ R.slots) :
    va_Run p l e R s m args below meth c H locs cells slots mc ms (F0 m pc ls st) rest (Qc (Value.ref b :: As).toArray) free := by
  obtain ⟨h1, h2, h3, h4, h5, h6⟩ := hL
  exact va_runV (C := y.cls) C0.1 hM ⟨k_cb C0 h1 h4 h5 h6 hR, C0.t h2, C0.t h3⟩ ⟨cP.blind, va_recv C0.K hPc hcl hrec, fun U hU hW => ⟨rfl, k_pre C0 hS hA hPc hDc U hU hW⟩⟩ rfl hn hsize hst (lv_room hW) hdg hf
theorem kn_dis {isC isR : List Nat} (hnum : kn isC isR = true) : va_nd isC = true ∧ va_nd isR = true ∧ ∀ i ∈ isR, i ∉ isC := by
  rw [kn, Bool.and_eq_true, Bool.and_eq_true] at hnum
  refine ⟨nd2_ok _ hnum.1.1, nd2_ok _ hnum.1.2, fun i hi h => ?_⟩
  have h2 := List.all_eq_true.mp (List.all_eq_true.mp hnum.2 i hi) i h
  rw [Nat.beq_refl i] at h2
  cases h2
theorem k_Viq {post : Int32 → S → Prop} (C0 : Cx p s m args meth c D cT cc nL own) (hL : LkV own idx y bytes maxL ret n) (hM : MWi l D cT y bytes maxL ret fr lo mc ms (.ref b :: As) cx post w1) (hP : va_P D cls9 (X ++ pl) H) (hD : va_D A (X ++ pl)) (hS : va_S A s.heap H locs) (hA : AO cT s A) (isC isR : List Nat) (hnum : kn isC isR = true) (hC : isC.map (fun i => X[i]?) = cx.map some) (hR : isR.map (fun i => X[i]?) = wr.map some) (hw2 : ∀ u, wr ++ w1 u = w2 u) {ci : Nat} {fs : List Value} {T : u_T} {N : Nat} (hrec : cx[0]? = some (b, .inr (ci, fs))) (hcl : cls9[ci]? = some (y.cls, T, N)) (hRm : fr + 1 ≤ R.frames ∧ 8 + (maxL + 11) + lo ≤ R.locals) (hn : As.length = n) (hsize : ls.size = nL) (hst : st = As.reverse ++ .ref b :: rest) (hW : (rest.map fun v => v.category).sum ≤ 8) (hdg : decode cc pc = .ok (.invokevirtual idx, 3)) (hf : cells + mc ≤ R.cells ∧ slots + ms ≤ R.slots)
    (kk : ∀ (r : Int32) (u : S) (H1 : Heap) (locs1 : List Loc), post r u → va_P D cls9 (w2 u ++ pl) H1 → va_D A (w2 u ++ pl) → va_S A s.heap H1 locs1 → W p l e R s m args below meth c H1 locs1 (cells + mc) (slots + ms) Q (F0 m (pc + 3) ls (.int r :: rest))) : W p l e R s m args below meth c H locs cells slots Q (F0 m pc ls st) := by
  obtain ⟨n1, n2, n3⟩ := kn_dis hnum
  have hC2 := hC_app (pz := pl) hC
  have hFc := va_free hD hS hA.1 isC hC2
  refine va_calli (k_runV0 C0 hL (hM H.size) (subP hP isC hC2) (hD.sub isC n1 hC2) hS hA hrec hcl hRm hn hsize hst hW hdg hf) hS (fun q _ h => hFc q h) hFc ?_
  intro r u t H1 locs1 ht hvm hw hB hz1 hk1 hS
  obtain ⟨hP1, hD1⟩ := hB
  rw [ht] at hP1
  obtain ⟨hP2, hD2⟩ := va_joinQ hP hD isC isR hC hR n2 n3 hk1 hFc hP1 hD1
  rw [hw2 u] at hP2 hD2
  exact kk r u H1 locs1 hw hP2 hD2 hS
theorem k_Vip {post : Int32 → S → Prop} (C0 : Cx p s m args meth c D cT cc nL own) (hL : LkV own idx y bytes maxL ret n) (hM : MWi l D cT y bytes maxL ret fr lo mc ms (.ref b :: As) (cx ++ pl) post (fun u => rx u ++ pl1 u)) (hP : va_P D cls9 (X ++ pl) H) (hD : va_D A (X ++ pl)) (hS : va_S A s.heap H locs) (hA : AO cT s A) (isC isR : List Nat) (hnum : kn isC isR = true) (hC : isC.map (fun i => X[i]?) = cx.map some) (hR : isR.map (fun i => X[i]?) = wr.map some) (hw2 : ∀ u, wr ++ rx u = w2 u) {ci : Nat} {fs : List Value} {T : u_T} {N : Nat} (hrec : (cx ++ pl)[0]? = some (b, .inr (ci, fs))) (hcl : cls9[ci]? = some (y.cls, T, N)) (hRm : fr + 1 ≤ R.frames ∧ 8 + (maxL + 11) + lo ≤ R.locals) (hn : As.length = n) (hsize : ls.size = nL) (hst : st = As.reverse ++ .ref b :: rest) (hW : (rest.map fun v => v.category).sum ≤ 8) (hdg : decode cc pc = .ok (.invokevirtual idx, 3)) (hf : cells + mc ≤ R.cells ∧ slots + ms ≤ R.slots)
    (kk : ∀ (r : Int32) (u : S) (H1 : Heap) (locs1 : List Loc), post r u → va_P D cls9 (w2 u ++ pl1 u) H1 → va_D A (w2 u ++ pl1 u) → va_S A s.heap H1 locs1 → W p l e R s m args below meth c H1 locs1 (cells + mc) (slots + ms) Q (F0 m (pc + 3) ls (.int r :: rest))) : W p l e R s m args below meth c H locs cells slots Q (F0 m pc ls st) := by
  obtain ⟨n1, n2, n3⟩ := kn_dis hnum
  have hFc := va_freeP hD hS hA.1 isC hC
  refine va_calli (k_runV0 C0 hL (hM H.size) (hP.part isC hC) (hD.part isC n1 hC) hS hA hrec hcl hRm hn hsize hst hW hdg hf) hS (fun q _ h => hFc q h) hFc ?_
  intro r u t H1 locs1 ht hvm hw hB hz1 hk1 hS
  obtain ⟨hP1, hD1⟩ := hB
  rw [ht] at hP1
  obtain ⟨hP2, hD2⟩ := va_joinP hP hD isC isR hC hR n2 n3 hk1 hFc hP1 hD1
  rw [hw2 u] at hP2 hD2
  exact kk r u H1 locs1 hw hP2 hD2 hS
theorem k_Vvq {post : S → Prop} (C0 : Cx p s m args meth c D cT cc nL own) (hL : LkV own idx y bytes maxL ret n) (hM : MWv l D cT y bytes maxL ret fr lo mc ms (.ref b :: As) cx post w1) (hP : va_P D cls9 (X ++ pl) H) (hD : va_D A (X ++ pl)) (hS : va_S A s.heap H locs) (hA : AO cT s A) (isC isR : List Nat) (hnum : kn isC isR = true) (hC : isC.map (fun i => X[i]?) = cx.map some) (hR : isR.map (fun i => X[i]?) = wr.map some) (hw2 : ∀ u, wr ++ w1 u = w2 u) {ci : Nat} {fs : List Value} {T : u_T} {N : Nat} (hrec : cx[0]? = some (b, .inr (ci, fs))) (hcl : cls9[ci]? = some (y.cls, T, N)) (hRm : fr + 1 ≤ R.frames ∧ 8 + (maxL + 11) + lo ≤ R.locals) (hn : As.length = n) (hsize : ls.size = nL) (hst : st = As.reverse ++ .ref b :: rest) (hW : (rest.map fun v => v.category).sum ≤ 8) (hdg : decode cc pc = .ok (.invokevirtual idx, 3)) (hf : cells + mc ≤ R.cells ∧ slots + ms ≤ R.slots)
    (kk : ∀ (u : S) (H1 : Heap) (locs1 : List Loc), post u → va_P D cls9 (w2 u ++ pl) H1 → va_D A (w2 u ++ pl) → va_S A s.heap H1 locs1 → W p l e R s m args below meth c H1 locs1 (cells + mc) (slots + ms) Q (F0 m (pc + 3) ls (rest))) : W p l e R s m args below meth c H locs cells slots Q (F0 m pc ls st) := by
  obtain ⟨n1, n2, n3⟩ := kn_dis hnum
  have hC2 := hC_app (pz := pl) hC
  have hFc := va_free hD hS hA.1 isC hC2
  refine va_callv (k_runV0 C0 hL (hM H.size) (subP hP isC hC2) (hD.sub isC n1 hC2) hS hA hrec hcl hRm hn hsize hst hW hdg hf) hS (fun q _ h => hFc q h) hFc ?_
  intro u t H1 locs1 ht hvm hw hB hz1 hk1 hS
  obtain ⟨hP1, hD1⟩ := hB
  rw [ht] at hP1
  obtain ⟨hP2, hD2⟩ := va_joinQ hP hD isC isR hC hR n2 n3 hk1 hFc hP1 hD1
  rw [hw2 u] at hP2 hD2
  exact kk u H1 locs1 hw hP2 hD2 hS
theorem k_Vvp {post : S → Prop} (C0 : Cx p s m args meth c D cT cc nL own) (hL : LkV own idx y bytes maxL ret n) (hM : MWv l D cT y bytes maxL ret fr lo mc ms (.ref b :: As) (cx ++ pl) post (fun u => rx u ++ pl1 u)) (hP : va_P D cls9 (X ++ pl) H) (hD : va_D A (X ++ pl)) (hS : va_S A s.heap H locs) (hA : AO cT s A) (isC isR : List Nat) (hnum : kn isC isR = true) (hC : isC.map (fun i => X[i]?) = cx.map some) (hR : isR.map (fun i => X[i]?) = wr.map some) (hw2 : ∀ u, wr ++ rx u = w2 u) {ci : Nat} {fs : List Value} {T : u_T} {N : Nat} (hrec : (cx ++ pl)[0]? = some (b, .inr (ci, fs))) (hcl : cls9[ci]? = some (y.cls, T, N)) (hRm : fr + 1 ≤ R.frames ∧ 8 + (maxL + 11) + lo ≤ R.locals) (hn : As.length = n) (hsize : ls.size = nL) (hst : st = As.reverse ++ .ref b :: rest) (hW : (rest.map fun v => v.category).sum ≤ 8) (hdg : decode cc pc = .ok (.invokevirtual idx, 3)) (hf : cells + mc ≤ R.cells ∧ slots + ms ≤ R.slots)
    (kk : ∀ (u : S) (H1 : Heap) (locs1 : List Loc), post u → va_P D cls9 (w2 u ++ pl1 u) H1 → va_D A (w2 u ++ pl1 u) → va_S A s.heap H1 locs1 → W p l e R s m args below meth c H1 locs1 (cells + mc) (slots + ms) Q (F0 m (pc + 3) ls (rest))) : W p l e R s m args below meth c H locs cells slots Q (F0 m pc ls st) := by
  obtain ⟨n1, n2, n3⟩ := kn_dis hnum
  have hFc := va_freeP hD hS hA.1 isC hC
  refine va_callv (k_runV0 C0 hL (hM H.size) (hP.part isC hC) (hD.part isC n1 hC) hS hA hrec hcl hRm hn hsize hst hW hdg hf) hS (fun q _ h => hFc q h) hFc ?_
  intro u t H1 locs1 ht hvm hw hB hz1 hk1 hS
  obtain ⟨hP1, hD1⟩ := hB
  rw [ht] at hP1
  obtain ⟨hP2, hD2⟩ := va_joinP hP hD isC isR hC hR n2 n3 hk1 hFc hP1 hD1
  rw [hw2 u] at hP2 hD2
  exact kk u H1 locs1 hw hP2 hD2 hS
theorem k_Vrq {post : S → Prop} (C0 : Cx p s m args meth c D cT cc nL own) (hL : LkV own idx y bytes maxL ret n) (hM : MWr l D cT y bytes maxL ret fr lo mc ms (.ref b :: As) cx b9 post w1) (hP : va_P D cls9 (X ++ pl) H) (hD : va_D A (X ++ pl)) (hS : va_S A s.heap H locs) (hA : AO cT s A) (isC isR : List Nat) (hnum : kn isC isR = true) (hC : isC.map (fun i => X[i]?) = cx.map some) (hR : isR.map (fun i => X[i]?) = wr.map some) (hw2 : ∀ u, wr ++ w1 u = w2 u) {ci : Nat} {fs : List Value} {T : u_T} {N : Nat} (hrec : cx[0]? = some (b, .inr (ci, fs))) (hcl : cls9[ci]? = some (y.cls, T, N)) (hRm : fr + 1 ≤ R.frames ∧ 8 + (maxL + 11) + lo ≤ R.locals) (hn : As.length = n) (hsize : ls.size = nL) (hst : st = As.reverse ++ .ref b :: rest) (hW : (rest.map fun v => v.category).sum ≤ 8) (hdg : decode cc pc = .ok (.invokevirtual idx, 3)) (hf : cells + mc ≤ R.cells ∧ slots + ms ≤ R.slots)
    (kk : ∀ (u : S) (H1 : Heap) (locs1 : List Loc), post u → va_P D cls9 (w2 u ++ pl) H1 → va_D A (w2 u ++ pl) → va_S A s.heap H1 locs1 → W p l e R s m args below meth c H1 locs1 (cells + mc) (slots + ms) Q (F0 m (pc + 3) ls (.ref b9 :: rest))) : W p l e R s m args below meth c H locs cells slots Q (F0 m pc ls st) := by
  obtain ⟨n1, n2, n3⟩ := kn_dis hnum
  have hC2 := hC_app (pz := pl) hC
  have hFc := va_free hD hS hA.1 isC hC2
  refine va_callr (k_runV0 C0 hL (hM H.size) (subP hP isC hC2) (hD.sub isC n1 hC2) hS hA hrec hcl hRm hn hsize hst hW hdg hf) hS (fun q _ h => hFc q h) hFc ?_
  intro u a9 t H1 locs1 ht hvm hw hB hz1 hk1 hS
  obtain ⟨rfl, hP1, hD1⟩ := hB
  rw [ht] at hP1
  obtain ⟨hP2, hD2⟩ := va_joinQ hP hD isC isR hC hR n2 n3 hk1 hFc hP1 hD1
  rw [hw2 u] at hP2 hD2
  exact kk u H1 locs1 hw hP2 hD2 hS
theorem partP {X2 : va_W} (hP : va_P D cls9 (X ++ pl) H) (is : List Nat) (hC : is.map (fun i => X[i]?) = X2.map some) : va_P D cls9 (X2 ++ pl) H := hP.part is hC
theorem partD {X2 : va_W} (hD : va_D A (X ++ pl)) (is : List Nat) (hn : nd2 is = true) (hC : is.map (fun i => X[i]?) = X2.map some) : va_D A (X2 ++ pl) := hD.part is (nd2_ok _ hn) hC
end POOL
