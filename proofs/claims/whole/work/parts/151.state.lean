/-! ===== the law's state: the class's values and addresses, the model's ===== -/
structure XA where
  h : Nat
  q_text : Nat
  q_told : Nat
  q_now : Nat
  q_before : Nat
  q_trial : Nat
  q_past : Nat
  q_kept : Nat
  q_feltNotes : Nat
  q_heardNotes : Nat
  q_draws : Nat
  q_purrs : Nat
  q_alone : Nat
  q_nimbers : Nat
  q_ways : Nat
  q_ruling : Nat
  q_spare : Nat
  q_text_signs : Nat
  q_told_numbers : Nat
  q_now_load : Nat
  q_now_sag : Nat
  q_now_joy : Nat
  q_now_bowl : Nat
  q_now_grief : Nat
  q_now_place : Nat
  q_before_load : Nat
  q_before_sag : Nat
  q_before_joy : Nat
  q_before_bowl : Nat
  q_before_grief : Nat
  q_before_place : Nat
  q_trial_load : Nat
  q_trial_sag : Nat
  q_trial_joy : Nat
  q_trial_bowl : Nat
  q_trial_grief : Nat
  q_trial_place : Nat
  q_past_ring : Nat
  q_feltNotes_first : Nat
  q_feltNotes_second : Nat
  q_heardNotes_first : Nat
  q_heardNotes_second : Nat
  q_ruling_steps : Nat
  q_ruling_stack : Nat
  q_spare_steps : Nat
  q_spare_stack : Nat
structure XS where
  x_text_length : Int32
  f_text_signs : Nat → Int32
  x_told_size : Int32
  f_told_numbers : Nat → Int64
  x_now_arches : Int32
  x_now_cats : Int32
  x_now_store : Int32
  x_now_hour : Int32
  x_now_drops : Int32
  f_now_load : Nat → Int32
  f_now_sag : Nat → Int32
  f_now_joy : Nat → Int32
  f_now_bowl : Nat → Int32
  f_now_grief : Nat → Int32
  f_now_place : Nat → Int32
  x_before_arches : Int32
  x_before_cats : Int32
  x_before_store : Int32
  x_before_hour : Int32
  x_before_drops : Int32
  f_before_load : Nat → Int32
  f_before_sag : Nat → Int32
  f_before_joy : Nat → Int32
  f_before_bowl : Nat → Int32
  f_before_grief : Nat → Int32
  f_before_place : Nat → Int32
  x_trial_arches : Int32
  x_trial_cats : Int32
  x_trial_store : Int32
  x_trial_hour : Int32
  x_trial_drops : Int32
  f_trial_load : Nat → Int32
  f_trial_sag : Nat → Int32
  f_trial_joy : Nat → Int32
  f_trial_bowl : Nat → Int32
  f_trial_grief : Nat → Int32
  f_trial_place : Nat → Int32
  x_past_next : Int32
  x_past_size : Int32
  f_past_ring : Nat → Option PSl
  f_kept : Nat → Option PSl
  x_feltNotes_size : Int32
  f_feltNotes_first : Nat → Int32
  f_feltNotes_second : Nat → Int32
  x_heardNotes_size : Int32
  f_heardNotes_first : Nat → Int32
  f_heardNotes_second : Nat → Int32
  x_draws_last : Int32
  f_purrs : Nat → Int32
  f_alone : Nat → Int32
  f_nimbers : Nat → Int32
  f_ways : Nat → Int64
  x_ruling_size : Int32
  x_ruling_top : Int32
  x_ruling_open : Int32
  x_ruling_compared : Int32
  x_ruling_digits : Int32
  x_ruling_wantsThing : Int32
  f_ruling_steps : Nat → Int32
  f_ruling_stack : Nat → Int32
  x_spare_size : Int32
  x_spare_top : Int32
  x_spare_open : Int32
  x_spare_compared : Int32
  x_spare_digits : Int32
  x_spare_wantsThing : Int32
  f_spare_steps : Nat → Int32
  f_spare_stack : Nat → Int32
structure MA where
  h : Nat
  q_now : Nat
  q_text : Nat
  q_row : Nat
  q_told : Nat
  q_rule : Nat
  q_otherRule : Nat
  q_asked : Nat
  q_undos : Nat
  q_aside : Nat
  q_then : Nat
  q_hold : Nat
  q_acts : Nat
  q_guarded : Nat
  q_train : Nat
  q_feltOf : Nat
  q_feltBy : Nat
  q_many : Nat
  q_heardOf : Nat
  q_heardBy : Nat
  q_worth : Nat
  q_kept : Nat
  q_isKept : Nat
  q_keptCame : Nat
structure MS where
  x_arches : Int32
  x_cats : Int32
  x_typed : Int32
  x_rowMany : Int32
  x_thrown : Int32
  w_read : Value
  x_length : Int32
  x_top : Int32
  x_at : Int32
  x_wrong : Int32
  x_ruleSize : Int32
  x_isAsked : Int32
  x_undoMany : Int32
  x_dropped : Int32
  x_trolleyEnd : Int32
  x_feltMany : Int32
  x_heardMany : Int32
  x_drawn : Int32
  x_came : Int32
  f_now : Nat → Int32
  f_text : Nat → Int32
  f_row : Nat → Int64
  f_told : Nat → Int32
  f_rule : Nat → Int32
  f_otherRule : Nat → Int32
  f_asked : Nat → Int32
  f_undos : Nat → Int32
  f_aside : Nat → Int32
  f_then : Nat → Int32
  f_hold : Nat → Int32
  f_acts : Nat → Int32
  f_guarded : Nat → Int32
  f_train : Nat → Int32
  f_feltOf : Nat → Int32
  f_feltBy : Nat → Int32
  f_many : Nat → Int32
  f_heardOf : Nat → Int32
  f_heardBy : Nat → Int32
  f_worth : Nat → Int32
  f_kept : Nat → Int32
  f_isKept : Nat → Int32
  f_keptCame : Nat → Int32
def wX (cT : Nat → ClassId) (a : XA) (x : XS) : va_W := [(a.h, oX7 (.ref a.q_text) (.ref a.q_told) (.ref a.q_now) (.ref a.q_before) (.ref a.q_trial) (.ref a.q_past) (.ref a.q_kept) (.ref a.q_feltNotes) (.ref a.q_heardNotes) (.ref a.q_draws) (.ref a.q_purrs) (.ref a.q_alone) (.ref a.q_nimbers) (.ref a.q_ways) (.ref a.q_ruling) (.ref a.q_spare)), (a.q_text, oX5 (.ref a.q_text_signs) (.int x.x_text_length)), (a.q_text_signs, aC cT 80 x.f_text_signs), (a.q_told, oX3 (.ref a.q_told_numbers) (.int x.x_told_size)), (a.q_told_numbers, aJ cT 8 x.f_told_numbers), (a.q_now, oX6 (.ref a.q_now_load) (.ref a.q_now_sag) (.ref a.q_now_joy) (.ref a.q_now_bowl) (.ref a.q_now_grief) (.ref a.q_now_place) (.int x.x_now_arches) (.int x.x_now_cats) (.int x.x_now_store) (.int x.x_now_hour) (.int x.x_now_drops)), (a.q_now_load, aI cT 6 x.f_now_load), (a.q_now_sag, aI cT 6 x.f_now_sag), (a.q_now_joy, aI cT 8 x.f_now_joy), (a.q_now_bowl, aI cT 8 x.f_now_bowl), (a.q_now_grief, aI cT 8 x.f_now_grief), (a.q_now_place, aI cT 8 x.f_now_place), (a.q_before, oX6 (.ref a.q_before_load) (.ref a.q_before_sag) (.ref a.q_before_joy) (.ref a.q_before_bowl) (.ref a.q_before_grief) (.ref a.q_before_place) (.int x.x_before_arches) (.int x.x_before_cats) (.int x.x_before_store) (.int x.x_before_hour) (.int x.x_before_drops)), (a.q_before_load, aI cT 6 x.f_before_load), (a.q_before_sag, aI cT 6 x.f_before_sag), (a.q_before_joy, aI cT 8 x.f_before_joy), (a.q_before_bowl, aI cT 8 x.f_before_bowl), (a.q_before_grief, aI cT 8 x.f_before_grief), (a.q_before_place, aI cT 8 x.f_before_place), (a.q_trial, oX6 (.ref a.q_trial_load) (.ref a.q_trial_sag) (.ref a.q_trial_joy) (.ref a.q_trial_bowl) (.ref a.q_trial_grief) (.ref a.q_trial_place) (.int x.x_trial_arches) (.int x.x_trial_cats) (.int x.x_trial_store) (.int x.x_trial_hour) (.int x.x_trial_drops)), (a.q_trial_load, aI cT 6 x.f_trial_load), (a.q_trial_sag, aI cT 6 x.f_trial_sag), (a.q_trial_joy, aI cT 8 x.f_trial_joy), (a.q_trial_bowl, aI cT 8 x.f_trial_bowl), (a.q_trial_grief, aI cT 8 x.f_trial_grief), (a.q_trial_place, aI cT 8 x.f_trial_place), (a.q_past, oX2 (.ref a.q_past_ring) (.int x.x_past_next) (.int x.x_past_size)), (a.q_past_ring, aV cT 12 (rgf x.f_past_ring)), (a.q_kept, aV cT 2 (rgf x.f_kept)), (a.q_feltNotes, oX1 (.ref a.q_feltNotes_first) (.ref a.q_feltNotes_second) (.int x.x_feltNotes_size)), (a.q_feltNotes_first, aI cT 10 x.f_feltNotes_first), (a.q_feltNotes_second, aI cT 10 x.f_feltNotes_second), (a.q_heardNotes, oX1 (.ref a.q_heardNotes_first) (.ref a.q_heardNotes_second) (.int x.x_heardNotes_size)), (a.q_heardNotes_first, aI cT 12 x.f_heardNotes_first), (a.q_heardNotes_second, aI cT 12 x.f_heardNotes_second), (a.q_draws, oX0 (.int x.x_draws_last)), (a.q_purrs, aI cT 8 x.f_purrs), (a.q_alone, aI cT 8 x.f_alone), (a.q_nimbers, aI cT 41 x.f_nimbers), (a.q_ways, aJ cT 73 x.f_ways), (a.q_ruling, oX4 (.ref a.q_ruling_steps) (.ref a.q_ruling_stack) (.int x.x_ruling_size) (.int x.x_ruling_top) (.int x.x_ruling_open) (.int x.x_ruling_compared) (.int x.x_ruling_digits) (.int x.x_ruling_wantsThing)), (a.q_ruling_steps, aI cT 40 x.f_ruling_steps), (a.q_ruling_stack, aI cT 40 x.f_ruling_stack), (a.q_spare, oX4 (.ref a.q_spare_steps) (.ref a.q_spare_stack) (.int x.x_spare_size) (.int x.x_spare_top) (.int x.x_spare_open) (.int x.x_spare_compared) (.int x.x_spare_digits) (.int x.x_spare_wantsThing)), (a.q_spare_steps, aI cT 40 x.f_spare_steps), (a.q_spare_stack, aI cT 40 x.f_spare_stack)]
def wM (cT : Nat → ClassId) (a : MA) (x : MS) : va_W := [(a.h, oX8 (.ref a.q_now) (.int x.x_arches) (.int x.x_cats) (.ref a.q_text) (.int x.x_typed) (.ref a.q_row) (.int x.x_rowMany) (.int x.x_thrown) x.w_read (.int x.x_length) (.int x.x_top) (.int x.x_at) (.int x.x_wrong) (.ref a.q_told) (.ref a.q_rule) (.ref a.q_otherRule) (.int x.x_ruleSize) (.int x.x_isAsked) (.ref a.q_asked) (.ref a.q_undos) (.int x.x_undoMany) (.ref a.q_aside) (.ref a.q_then) (.ref a.q_hold) (.int x.x_dropped) (.ref a.q_acts) (.ref a.q_guarded) (.ref a.q_train) (.int x.x_trolleyEnd) (.ref a.q_feltOf) (.ref a.q_feltBy) (.int x.x_feltMany) (.ref a.q_many) (.ref a.q_heardOf) (.ref a.q_heardBy) (.int x.x_heardMany) (.ref a.q_worth) (.int x.x_drawn) (.int x.x_came) (.ref a.q_kept) (.ref a.q_isKept) (.ref a.q_keptCame)), (a.q_now, aI cT 47 x.f_now), (a.q_text, aB cT 80 x.f_text), (a.q_row, aJ cT 16 x.f_row), (a.q_told, aI cT 24 x.f_told), (a.q_rule, aB cT 40 x.f_rule), (a.q_otherRule, aB cT 40 x.f_otherRule), (a.q_asked, aI cT 7 x.f_asked), (a.q_undos, aI cT 564 x.f_undos), (a.q_aside, aI cT 47 x.f_aside), (a.q_then, aI cT 47 x.f_then), (a.q_hold, aI cT 6 x.f_hold), (a.q_acts, aI cT 240 x.f_acts), (a.q_guarded, aI cT 1792 x.f_guarded), (a.q_train, aI cT 21 x.f_train), (a.q_feltOf, aI cT 10 x.f_feltOf), (a.q_feltBy, aI cT 10 x.f_feltBy), (a.q_many, aI cT 73 x.f_many), (a.q_heardOf, aI cT 12 x.f_heardOf), (a.q_heardBy, aI cT 12 x.f_heardBy), (a.q_worth, aI cT 41 x.f_worth), (a.q_kept, aI cT 94 x.f_kept), (a.q_isKept, aZ cT 2 x.f_isKept), (a.q_keptCame, aI cT 2 x.f_keptCame)]
abbrev wPl (cT : Nat → ClassId) (x : XS) : va_W := plW cT 12 x.f_past_ring ++ plW cT 2 x.f_kept
theorem pmA {X xr cx Z : va_W} (h : X.Perm (xr ++ cx)) : (X ++ Z).Perm ((xr ++ Z) ++ cx) := by
  refine (h.append_right Z).trans ?_
  rw [List.append_assoc, List.append_assoc]
  exact List.perm_append_comm.append_left xr
theorem pmB {X xr w Z : va_W} (h : X.Perm (xr ++ w)) : ((xr ++ Z) ++ w).Perm (X ++ Z) := (pmA h).symm
theorem pmA2 {X xr cx Z P K : va_W} (h : X.Perm (xr ++ cx)) : (X ++ (Z ++ (P ++ K))).Perm ((xr ++ (Z ++ K)) ++ (cx ++ P)) := by
  have e : (Z ++ (P ++ K)).Perm ((Z ++ K) ++ P) := by
    rw [List.append_assoc]
    exact List.perm_append_comm.append_left Z
  refine (e.append_left X).trans ?_
  rw [← List.append_assoc, ← List.append_assoc (xr ++ (Z ++ K))]
  exact (pmA h).append_right P
theorem pmB2 {X xr w Z P K : va_W} (h : X.Perm (xr ++ w)) : ((xr ++ (Z ++ K)) ++ (w ++ P)).Perm (X ++ (Z ++ (P ++ K))) := (pmA2 h).symm
theorem pmA3 {X xr cx Z P K : va_W} (h : X.Perm (xr ++ cx)) : (X ++ (Z ++ (P ++ K))).Perm ((xr ++ (Z ++ P)) ++ (cx ++ K)) :=
  ((List.perm_append_comm.append_left Z).append_left X).trans (pmA2 h)
theorem pmB3 {X xr w Z P K : va_W} (h : X.Perm (xr ++ w)) : ((xr ++ (Z ++ P)) ++ (w ++ K)).Perm (X ++ (Z ++ (P ++ K))) := (pmA3 h).symm
theorem perm_ixn {α : Type} {ws ws' : List α} (n : Nat) (is : List Nat) (hl : ws.length = n) (hn : is.isPerm (List.range n) = true) (h : is.map (fun i => ws[i]?) = ws'.map some) : ws.Perm ws' := perm_ix is (by rw [hl]; exact hn) h
