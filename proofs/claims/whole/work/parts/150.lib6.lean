/-! ===== calls over a world split in any way; worlds in another order ===== -/
theorem perm_ix {α : Type} {ws ws' : List α} (is : List Nat) (hn : is.isPerm (List.range ws.length) = true) (h : is.map (fun i => ws[i]?) = ws'.map some) : ws.Perm ws' := by
  have h1 : (is.map (fun i => ws[i]?)).Perm ((List.range ws.length).map (fun i => ws[i]?)) := (List.isPerm_iff.mp hn).map _
  have h2 : (List.range ws.length).map (fun i => ws[i]?) = ws.map some := by
    apply List.ext_getElem?
    intro i
    rw [List.getElem?_map, List.getElem?_map]
    by_cases hi : i < ws.length
    · rw [List.getElem?_range hi, List.getElem?_eq_getElem hi]; simp [List.getElem?_eq_getElem hi]
    · rw [List.getElem?_eq_none (by rw [List.length_range]; omega), List.getElem?_eq_none (by omega)]; rfl
  rw [h, h2] at h1
  have h3 := h1.filterMap id
  rw [List.filterMap_map, List.filterMap_map] at h3
  have e : ∀ l : List α, List.filterMap (id ∘ some) l = l := fun l => by
    induction l with
    | nil => rfl
    | cons a l ih => simp [List.filterMap_cons]
  rw [e, e] at h3
  exact h3.symm
theorem gjoin {D : va_G} {A : Nat → Prop} {wr wc w1 : va_W} {H H1 : Heap} (hP : va_P D cls9 (wr ++ wc) H) (hD : va_D A (wr ++ wc)) (hk : ∀ q : Nat, q < H.size → ¬ va_A wc H.size q → H1[q]? = H[q]?) (hF : ∀ q, va_A wc H.size q → A q) (hP1 : va_P D cls9 w1 H1) (hD1 : va_D (va_A wc H.size) w1) : va_P D cls9 (wr ++ w1) H1 ∧ va_D A (wr ++ w1) := by
  have hPr : va_P D cls9 wr H := appP_l hP
  obtain ⟨hpw, hin⟩ := vD_iff.mp hD
  obtain ⟨p1, p2, p3⟩ := List.pairwise_append.mp hpw
  obtain ⟨q1, q2⟩ := vD_iff.mp hD1
  have hlt : ∀ x ∈ wr, x.1 < H.size := fun x hx => by
    obtain ⟨k, hk⟩ := List.mem_iff_getElem?.mp hx
    exact (hPr k x hk).lt
  have hno : ∀ x ∈ wr, ¬ va_A wc H.size x.1 := fun x hx h => by
    rcases h with ⟨k, e, hk⟩ | h
    · exact p3 x hx _ (List.mem_iff_getElem?.mpr ⟨k, hk⟩) rfl
    · exact Nat.lt_irrefl _ (Nat.lt_of_lt_of_le (hlt x hx) h)
  refine ⟨va_P.app (hPr.kept (fun k q hq => hk q.1 (hPr k q hq).lt (hno q (List.mem_iff_getElem?.mpr ⟨k, hq⟩)))) hP1, vD_iff.mpr ⟨List.pairwise_append.mpr ⟨p1, q1, fun x hx y hy hxy => hno x hx (hxy ▸ q2 y hy)⟩, fun q hq => ?_⟩⟩
  rcases List.mem_append.mp hq with h | h
  · exact hin q (List.mem_append_left _ h)
  · exact hF _ (q2 q h)
theorem appP_r {D : va_G} {a b : va_W} {H : Heap} (h : va_P D cls9 (a ++ b) H) : va_P D cls9 b H := appP_l (permP h List.perm_append_comm)
theorem appD_r {A : Nat → Prop} {a b : va_W} (h : va_D A (a ++ b)) : va_D A b := appD_l (permD h List.perm_append_comm)
section GC
variable {p : Program} {l : Launch} {e : Env} {R : Room} {s : State} {m : MethodId} {args : Array Value} {below : List Frame} {meth : Method} {c : Code} {H : Heap} {locs : List Loc} {cells slots : Nat} {Q : State → Prop}
variable {cc : ByteArray} {pc nL : Nat} {ls : Array Slot} {rest st : List Value} {D : va_G} {cT : Nat → ClassId} {A : Nat → Prop} {b : Nat} {Wd wc wr : va_W} {own : String}
variable {y : MethodName} {bytes : ByteArray} {maxL n idx fr lo mc ms : Nat} {ret : Option FieldType} {As : List Value} {S : Type} {w1 w2 : S → va_W} {hh : List (Nat × Nat × Nat × Nat)}
theorem gfree (hD : va_D A (wr ++ wc)) (hS : va_S A s.heap H locs) (hA : AO cT s A) : ∀ q, va_A wc H.size q → A q := fun q h => by
  rcases h with ⟨k, e, hk⟩ | h
  · exact (appD_r hD).2 k _ hk
  · exact hA.1 q (Nat.le_trans hS.1 h)
theorem k_Gi {post : Int32 → S → Prop} (C0 : Cx p s m args meth c D cT cc nL own) (hL : LkV own idx y bytes maxL ret n) (hM : MWi l D cT y bytes maxL ret fr lo mc ms (.ref b :: As) wc post w1) (hP : va_P D cls9 Wd H) (hD : va_D A Wd) (hS : va_S A s.heap H locs) (hA : AO cT s A) (hp : Wd.Perm (wr ++ wc)) (hp2 : ∀ u, (wr ++ w1 u).Perm (w2 u)) {ci : Nat} {fs : List Value} {T : u_T} {N : Nat} (hrec : wc[0]? = some (b, .inr (ci, fs))) (hcl : cls9[ci]? = some (y.cls, T, N)) (hRm : fr + 1 ≤ R.frames ∧ 8 + (maxL + 11) + lo ≤ R.locals) (hn : As.length = n) (hsize : ls.size = nL) (hst : st = As.reverse ++ .ref b :: rest) (hW : (rest.map fun v => v.category).sum ≤ 8) (hdg : decode cc pc = .ok (.invokevirtual idx, 3)) (hf : cells + mc ≤ R.cells ∧ slots + ms ≤ R.slots)
    (kk : ∀ (r : Int32) (u : S) (H1 : Heap) (locs1 : List Loc), post r u → va_P D cls9 (w2 u) H1 → va_D A (w2 u) → va_S A s.heap H1 locs1 → W p l e R s m args below meth c H1 locs1 (cells + mc) (slots + ms) Q (F0 m (pc + 3) ls (.int r :: rest))) : W p l e R s m args below meth c H locs cells slots Q (F0 m pc ls st) := by
  have hP := permP hP hp
  have hD := permD hD hp
  have hFc := gfree hD hS hA
  refine va_calli (k_runV0 C0 hL (hM H.size) (appP_r hP) (appD_r hD) hS hA hrec hcl hRm hn hsize hst hW hdg hf) hS (fun q _ h => hFc q h) hFc ?_
  intro r u t H1 locs1 ht hvm hw hB hz1 hk1 hS
  obtain ⟨hP1, hD1⟩ := hB
  rw [ht] at hP1
  obtain ⟨hP2, hD2⟩ := gjoin hP hD hk1 hFc hP1 hD1
  exact kk r u H1 locs1 hw (permP hP2 (hp2 u)) (permD hD2 (hp2 u)) hS
theorem k_Gxi {post : Int32 → Prop} (C0 : Cx p s m args meth c D cT cc nL own) (hL : LkV own idx y bytes maxL ret n) (hM : MRi l D cT y bytes maxL ret fr lo (.ref b :: As) wc post) (hP : va_P D cls9 Wd H) (hD : va_D A Wd) (hS : va_S A s.heap H locs) (hA : AO cT s A) (hp : Wd.Perm (wr ++ wc)) {ci : Nat} {fs : List Value} {T : u_T} {N : Nat} (hrec : wc[0]? = some (b, .inr (ci, fs))) (hcl : cls9[ci]? = some (y.cls, T, N)) (hRm : fr + 1 ≤ R.frames ∧ 8 + (maxL + 11) + lo ≤ R.locals) (hn : As.length = n) (hsize : ls.size = nL) (hst : st = As.reverse ++ .ref b :: rest) (hW : (rest.map fun v => v.category).sum ≤ 8) (hdg : decode cc pc = .ok (.invokevirtual idx, 3)) (hf : cells ≤ R.cells ∧ slots ≤ R.slots)
    (kk : ∀ r : Int32, post r → W p l e R s m args below meth c H locs cells slots Q (F0 m (pc + 3) ls (.int r :: rest))) : W p l e R s m args below meth c H locs cells slots Q (F0 m pc ls st) :=
  k_ri (k_runV0 C0 hL (hM H.size) (appP_r (permP hP hp)) (appD_r (permD hD hp)) hS hA hrec hcl hRm hn hsize hst hW hdg hf) kk
theorem k_Gl {post : Int64 → S → Prop} (C0 : Cx p s m args meth c D cT cc nL own) (hL : LkV own idx y bytes maxL ret n) (hM : MWl l D cT y bytes maxL ret fr lo mc ms (.ref b :: As) wc post w1) (hP : va_P D cls9 Wd H) (hD : va_D A Wd) (hS : va_S A s.heap H locs) (hA : AO cT s A) (hp : Wd.Perm (wr ++ wc)) (hp2 : ∀ u, (wr ++ w1 u).Perm (w2 u)) {ci : Nat} {fs : List Value} {T : u_T} {N : Nat} (hrec : wc[0]? = some (b, .inr (ci, fs))) (hcl : cls9[ci]? = some (y.cls, T, N)) (hRm : fr + 1 ≤ R.frames ∧ 8 + (maxL + 11) + lo ≤ R.locals) (hn : As.length = n) (hsize : ls.size = nL) (hst : st = As.reverse ++ .ref b :: rest) (hW : (rest.map fun v => v.category).sum ≤ 8) (hdg : decode cc pc = .ok (.invokevirtual idx, 3)) (hf : cells + mc ≤ R.cells ∧ slots + ms ≤ R.slots)
    (kk : ∀ (r : Int64) (u : S) (H1 : Heap) (locs1 : List Loc), post r u → va_P D cls9 (w2 u) H1 → va_D A (w2 u) → va_S A s.heap H1 locs1 → W p l e R s m args below meth c H1 locs1 (cells + mc) (slots + ms) Q (F0 m (pc + 3) ls (.long r :: rest))) : W p l e R s m args below meth c H locs cells slots Q (F0 m pc ls st) := by
  have hP := permP hP hp
  have hD := permD hD hp
  have hFc := gfree hD hS hA
  refine va_calll (k_runV0 C0 hL (hM H.size) (appP_r hP) (appD_r hD) hS hA hrec hcl hRm hn hsize hst hW hdg hf) hS (fun q _ h => hFc q h) hFc ?_
  intro r u t H1 locs1 ht hvm hw hB hz1 hk1 hS
  obtain ⟨hP1, hD1⟩ := hB
  rw [ht] at hP1
  obtain ⟨hP2, hD2⟩ := gjoin hP hD hk1 hFc hP1 hD1
  exact kk r u H1 locs1 hw (permP hP2 (hp2 u)) (permD hD2 (hp2 u)) hS
theorem k_Gxl {post : Int64 → Prop} (C0 : Cx p s m args meth c D cT cc nL own) (hL : LkV own idx y bytes maxL ret n) (hM : MRl l D cT y bytes maxL ret fr lo (.ref b :: As) wc post) (hP : va_P D cls9 Wd H) (hD : va_D A Wd) (hS : va_S A s.heap H locs) (hA : AO cT s A) (hp : Wd.Perm (wr ++ wc)) {ci : Nat} {fs : List Value} {T : u_T} {N : Nat} (hrec : wc[0]? = some (b, .inr (ci, fs))) (hcl : cls9[ci]? = some (y.cls, T, N)) (hRm : fr + 1 ≤ R.frames ∧ 8 + (maxL + 11) + lo ≤ R.locals) (hn : As.length = n) (hsize : ls.size = nL) (hst : st = As.reverse ++ .ref b :: rest) (hW : (rest.map fun v => v.category).sum ≤ 8) (hdg : decode cc pc = .ok (.invokevirtual idx, 3)) (hf : cells ≤ R.cells ∧ slots ≤ R.slots)
    (kk : ∀ r : Int64, post r → W p l e R s m args below meth c H locs cells slots Q (F0 m (pc + 3) ls (.long r :: rest))) : W p l e R s m args below meth c H locs cells slots Q (F0 m pc ls st) :=
  k_rl (k_runV0 C0 hL (hM H.size) (appP_r (permP hP hp)) (appD_r (permD hD hp)) hS hA hrec hcl hRm hn hsize hst hW hdg hf) kk
theorem k_GLi {post : Int32 → S → Prop} (C0 : Cx p s m args meth c D cT cc nL own) (hE : EX s) (h1 : Cond.methodLink own idx y ∈ gw) (h2 : Cond.static y ∈ gw) (h3 : Cond.initialized y.cls ∈ gw) (h4 : Cond.codeWith y bytes maxL ret hh ∈ gw) (h5 : Ld y n) (hM : MLi l D cT y bytes maxL ret hh fr lo mc ms As wc post w1) (hP : va_P D cls9 Wd H) (hD : va_D A Wd) (hS : va_S A s.heap H locs) (hA : AO cT s A) (hp : Wd.Perm (wr ++ wc)) (hp2 : ∀ u, (wr ++ w1 u).Perm (w2 u)) (hRm : fr + 1 ≤ R.frames ∧ 8 + (maxL + 11) + lo ≤ R.locals) (hn : As.length = n) (hsize : ls.size = nL) (hst : st = As.reverse ++ rest) (hW : (rest.map fun v => v.category).sum ≤ 8) (hdg : decode cc pc = .ok (.invokestatic idx, 3)) (hf : cells + mc ≤ R.cells ∧ slots + ms ≤ R.slots)
    (kk : ∀ (r : Int32) (u : S) (H1 : Heap) (locs1 : List Loc), post r u → va_P D cls9 (w2 u) H1 → va_D A (w2 u) → va_S A s.heap H1 locs1 → W p l e R s m args below meth c H1 locs1 (cells + mc) (slots + ms) Q (F0 m (pc + 3) ls (.int r :: rest))) : W p l e R s m args below meth c H locs cells slots Q (F0 m pc ls st) := by
  have hP := permP hP hp
  have hD := permD hD hp
  have hFc := gfree hD hS hA
  refine va_calli (vx_runSW C0.1 (hM H.size) (vx_cwSW n (fun w h => C0.t h) (gw_goodS h1 h2 h3 h4) rfl rfl rfl h5 hRm) ⟨cPX.blind, fun U hU hW => ⟨rfl, k_preX C0 hE hS hA (appP_r hP) (appD_r hD) U hU hW⟩⟩ rfl hn hsize hst (lv_room hW) hdg hf) hS (fun q _ h => hFc q h) hFc ?_
  intro r u t H1 locs1 ht hvm hw hB hz1 hk1 hS
  obtain ⟨hP1, hD1⟩ := hB
  rw [ht] at hP1
  obtain ⟨hP2, hD2⟩ := gjoin hP hD hk1 hFc hP1 hD1
  exact kk r u H1 locs1 hw (permP hP2 (hp2 u)) (permD hD2 (hp2 u)) hS
end GC
