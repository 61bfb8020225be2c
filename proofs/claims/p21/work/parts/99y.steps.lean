/-! THE STEP of this claim's law -/
def II (h : PH) : Prop := IM h ∧ GI h ∧ RLA h
theorem st_state (a1 : Int32) (h : PH) (ii : II h) : ∃ h2, pc_state a1 h = some h2 ∧ II h2 := by
  obtain ⟨rX, h1, rm, h2, e1, e2, cs, rl, ag⟩ := rl_state a1 h ii.1 ii.2.1 ii.2.2
  refine ⟨h2, ?_, cs.1, cs.2.1, rl⟩
  unfold pc_state
  rw [e1, bd2_e, e2, bd2_e]
theorem st_house (a1 a2 a3 : Int32) (h : PH) (ii : II h) : ∃ h2, pc_house a1 a2 a3 h = some h2 ∧ II h2 := by
  obtain ⟨rX, h1, rm, h2, e1, e2, cs, rl, ag⟩ := rl_house a1 a2 a3 h ii.1 ii.2.1 ii.2.2
  refine ⟨h2, ?_, cs.1, cs.2.1, rl⟩
  unfold pc_house
  rw [e1, bd2_e, e2, bd2_e]
theorem st_set (a1 a2 a3 : Int32) (h : PH) (ii : II h) : ∃ h2, pc_set a1 a2 a3 h = some h2 ∧ II h2 := by
  obtain ⟨rX, h1, rm, h2, e1, e2, cs, rl, ag⟩ := rl_set a1 a2 a3 h ii.1 ii.2.1 ii.2.2
  refine ⟨h2, ?_, cs.1, cs.2.1, rl⟩
  unfold pc_set
  rw [e1, bd2_e, e2, bd2_e]
theorem st_act (a1 a2 a3 : Int32) (h : PH) (ii : II h) : ∃ h2, pc_act a1 a2 a3 h = some h2 ∧ II h2 := by
  obtain ⟨rX, h1, rm, h2, e1, e2, cs, rl, ag⟩ := rl_act a1 a2 a3 h ii.1 ii.2.1 ii.2.2
  refine ⟨h2, ?_, cs.1, cs.2.1, rl⟩
  unfold pc_act
  rw [e1, bd2_e, e2, bd2_e]
theorem st_quarters (a1 : Int32) (h : PH) (ii : II h) : ∃ h2, pc_quarters a1 h = some h2 ∧ II h2 := by
  obtain ⟨rX, h1, rm, h2, e1, e2, cs, rl, ag⟩ := rl_quarters a1 h ii.1 ii.2.1 ii.2.2
  refine ⟨h2, ?_, cs.1, cs.2.1, rl⟩
  unfold pc_quarters
  rw [e1, bd2_e, e2, bd2_e]
theorem st_feed (a1 a2 a3 a4 a5 : Int32) (h : PH) (ii : II h) : ∃ h2, pc_feed a1 a2 a3 a4 a5 h = some h2 ∧ II h2 := by
  obtain ⟨rX, h1, rm, h2, e1, e2, cs, rl, ag⟩ := rl_feed a1 a2 a3 a4 a5 h ii.1 ii.2.1 ii.2.2
  refine ⟨h2, ?_, cs.1, cs.2.1, rl⟩
  unfold pc_feed
  rw [e1, bd2_e, e2, bd2_e]
theorem st_end (a1 : Int32) (h : PH) (ii : II h) : ∃ h2, pc_end a1 h = some h2 ∧ II h2 := by
  obtain ⟨rX, h1, rm, h2, e1, e2, cs, rl, ag⟩ := rl_end a1 h ii.1 ii.2.1 ii.2.2
  refine ⟨h2, ?_, cs.1, cs.2.1, rl⟩
  unfold pc_end
  rw [e1, bd2_e, e2, bd2_e]
theorem st_text (a1 : Int32) (h : PH) (ii : II h) : ∃ h2, pc_text a1 h = some h2 ∧ II h2 := by
  obtain ⟨rX, h1, rm, h2, e1, e2, cs, rl, ag⟩ := rl_text a1 h ii.1 ii.2.1 ii.2.2
  refine ⟨h2, ?_, cs.1, cs.2.1, rl⟩
  unfold pc_text
  rw [e1, bd2_e, e2, bd2_e]
theorem st_fault (a1 : Int32) (h : PH) (ii : II h) : ∃ h2, pc_fault a1 h = some h2 ∧ II h2 := by
  obtain ⟨rX, rm, h2, e1, e2, cs, rl, ag⟩ := rl_fault a1 h ii.1 ii.2.1 ii.2.2
  refine ⟨h2, ?_, cs.1, cs.2.1, rl⟩
  unfold pc_fault
  rw [e1, bd_e, e2, bd2_e]
theorem st_of (a1 a2 : Int32) (h : PH) (ii : II h) : ∃ h2, pc_of a1 a2 h = some h2 ∧ II h2 := by
  obtain ⟨rX, h1, rm, h2, e1, e2, cs, rl, ag⟩ := rl_of a1 a2 h ii.1 ii.2.1 ii.2.2
  refine ⟨h2, ?_, cs.1, cs.2.1, rl⟩
  unfold pc_of
  rw [e1, bd2_e, e2, bd2_e]
theorem st_book (a1 a2 : Int32) (h : PH) (ii : II h) : ∃ h2, pc_book a1 a2 h = some h2 ∧ II h2 := by
  obtain ⟨rX, rm, h2, e1, e2, cs, rl, ag⟩ := rl_book a1 a2 h ii.1 ii.2.1 ii.2.2
  refine ⟨h2, ?_, cs.1, cs.2.1, rl⟩
  unfold pc_book
  rw [e1, bd_e, e2, bd2_e]
theorem st_goes (a1 a2 : Int32) (h : PH) (ii : II h) : ∃ h2, pc_goes a1 a2 h = some h2 ∧ II h2 := by
  obtain ⟨rX, h1, rm, h2, e1, e2, cs, rl, ag⟩ := rl_goes a1 a2 h ii.1 ii.2.1 ii.2.2
  refine ⟨h2, ?_, cs.1, cs.2.1, rl⟩
  unfold pc_goes
  rw [e1, bd2_e, e2, bd2_e]
theorem st_stands (a1 : Int32) (h : PH) (ii : II h) : ∃ h2, pc_stands a1 h = some h2 ∧ II h2 := by
  obtain ⟨rX, h1, rm, h2, e1, e2, cs, rl, ag⟩ := rl_stands a1 h ii.1 ii.2.1 ii.2.2
  refine ⟨h2, ?_, cs.1, cs.2.1, rl⟩
  unfold pc_stands
  rw [e1, bd2_e, e2, bd2_e]
theorem st_hears (a1 a2 : Int32) (h : PH) (ii : II h) : ∃ h2, pc_hears a1 a2 h = some h2 ∧ II h2 := by
  obtain ⟨rX, h1, rm, h2, e1, e2, cs, rl, ag⟩ := rl_hears a1 a2 h ii.1 ii.2.1 ii.2.2
  refine ⟨h2, ?_, cs.1, cs.2.1, rl⟩
  unfold pc_hears
  rw [e1, bd2_e, e2, bd2_e]
theorem st_heard (a1 a2 : Int32) (h : PH) (ii : II h) : ∃ h2, pc_heard a1 a2 h = some h2 ∧ II h2 := by
  obtain ⟨rX, h1, rm, h2, e1, e2, cs, rl, ag⟩ := rl_heard a1 a2 h ii.1 ii.2.1 ii.2.2
  refine ⟨h2, ?_, cs.1, cs.2.1, rl⟩
  unfold pc_heard
  rw [e1, bd2_e, e2, bd2_e]
theorem st_ants (a1 a2 : Int32) (h : PH) (ii : II h) : ∃ h2, pc_ants a1 a2 h = some h2 ∧ II h2 := by
  obtain ⟨rX, h1, rm, h2, e1, e2, cs, rl, ag⟩ := rl_ants a1 a2 h ii.1 ii.2.1 ii.2.2
  refine ⟨h2, ?_, cs.1, cs.2.1, rl⟩
  unfold pc_ants
  rw [e1, bd2_e, e2, bd2_e]
theorem st_piece (a1 : Int32) (h : PH) (ii : II h) : ∃ h2, pc_piece a1 h = some h2 ∧ II h2 := by
  obtain ⟨rX, h1, rm, h2, e1, e2, cs, rl, ag⟩ := rl_piece a1 h ii.1 ii.2.1 ii.2.2
  refine ⟨h2, ?_, cs.1, cs.2.1, rl⟩
  unfold pc_piece
  rw [e1, bd2_e, e2, bd2_e]
theorem st_plate (a1 a2 : Int32) (h : PH) (ii : II h) : ∃ h2, pc_plate a1 a2 h = some h2 ∧ II h2 := by
  obtain ⟨rX, rm, h2, e1, e2, cs, rl, ag⟩ := rl_plate a1 a2 h ii.1 ii.2.1 ii.2.2
  refine ⟨h2, ?_, cs.1, cs.2.1, rl⟩
  unfold pc_plate
  rw [e1, bd_e, e2, bd2_e]
theorem st_dough (a1 : Int32) (h : PH) (ii : II h) : ∃ h2, pc_dough a1 h = some h2 ∧ II h2 := by
  obtain ⟨rX, h1, rm, h2, e1, e2, cs, rl, ag⟩ := rl_dough a1 h ii.1 ii.2.1 ii.2.2
  refine ⟨h2, ?_, cs.1, cs.2.1, rl⟩
  unfold pc_dough
  rw [e1, bd2_e, e2, bd2_e]
theorem st_pans (a1 a2 : Int32) (h : PH) (ii : II h) : ∃ h2, pc_pans a1 a2 h = some h2 ∧ II h2 := by
  obtain ⟨rX, h1, rm, h2, e1, e2, cs, rl, ag⟩ := rl_pans a1 a2 h ii.1 ii.2.1 ii.2.2
  refine ⟨h2, ?_, cs.1, cs.2.1, rl⟩
  unfold pc_pans
  rw [e1, bd2_e, e2, bd2_e, if_pos (ag_pans a1 a2 h ii.1 ii.2.2 e1 e2 cs)]
theorem st_mortgage (a1 a2 a3 a4 : Int32) (h : PH) (ii : II h) : ∃ h2, pc_mortgage a1 a2 a3 a4 h = some h2 ∧ II h2 := by
  obtain ⟨rX, rm, h2, e1, e2, cs, rl, ag⟩ := rl_mortgage a1 a2 a3 a4 h ii.1 ii.2.1 ii.2.2
  refine ⟨h2, ?_, cs.1, cs.2.1, rl⟩
  unfold pc_mortgage
  rw [e1, bd_e, e2, bd2_e]
theorem st_mark (a1 : Int32) (h : PH) (ii : II h) : ∃ h2, pc_mark a1 h = some h2 ∧ II h2 := by
  obtain ⟨rX, h1, rm, h2, e1, e2, cs, rl, ag⟩ := rl_mark a1 h ii.1 ii.2.1 ii.2.2
  refine ⟨h2, ?_, cs.1, cs.2.1, rl⟩
  unfold pc_mark
  rw [e1, bd2_e, e2, bd2_e]
theorem st_measures (a1 : Int32) (h : PH) (ii : II h) : ∃ h2, pc_measures a1 h = some h2 ∧ II h2 := by
  obtain ⟨rX, rm, h2, e1, e2, cs, rl, ag⟩ := rl_measures a1 h ii.1 ii.2.1 ii.2.2
  refine ⟨h2, ?_, cs.1, cs.2.1, rl⟩
  unfold pc_measures
  rw [e1, bd_e, e2, bd2_e]
theorem st_bite (a1 a2 : Int32) (h : PH) (ii : II h) : ∃ h2, pc_bite a1 a2 h = some h2 ∧ II h2 := by
  obtain ⟨rX, h1, rm, h2, e1, e2, cs, rl, ag⟩ := rl_bite a1 a2 h ii.1 ii.2.1 ii.2.2
  refine ⟨h2, ?_, cs.1, cs.2.1, rl⟩
  unfold pc_bite
  rw [e1, bd2_e, e2, bd2_e]
theorem st_whose (a1 a2 : Int32) (h : PH) (ii : II h) : ∃ h2, pc_whose a1 a2 h = some h2 ∧ II h2 := by
  obtain ⟨rX, rm, h2, e1, e2, cs, rl, ag⟩ := rl_whose a1 a2 h ii.1 ii.2.1 ii.2.2
  refine ⟨h2, ?_, cs.1, cs.2.1, rl⟩
  unfold pc_whose
  rw [e1, bd_e, e2, bd2_e]
theorem st_crumb (a1 : Int32) (h : PH) (ii : II h) : ∃ h2, pc_crumb a1 h = some h2 ∧ II h2 := by
  obtain ⟨rX, h1, rm, h2, e1, e2, cs, rl, ag⟩ := rl_crumb a1 h ii.1 ii.2.1 ii.2.2
  refine ⟨h2, ?_, cs.1, cs.2.1, rl⟩
  unfold pc_crumb
  rw [e1, bd2_e, e2, bd2_e]
theorem st_crumbs (a1 : Int32) (h : PH) (ii : II h) : ∃ h2, pc_crumbs a1 h = some h2 ∧ II h2 := by
  obtain ⟨rX, h1, rm, h2, e1, e2, cs, rl, ag⟩ := rl_crumbs a1 h ii.1 ii.2.1 ii.2.2
  refine ⟨h2, ?_, cs.1, cs.2.1, rl⟩
  unfold pc_crumbs
  rw [e1, bd2_e, e2, bd2_e]
theorem st_loaf (a1 a2 : Int32) (h : PH) (ii : II h) : ∃ h2, pc_loaf a1 a2 h = some h2 ∧ II h2 := by
  obtain ⟨rX, h1, rm, h2, e1, e2, cs, rl, ag⟩ := rl_loaf a1 a2 h ii.1 ii.2.1 ii.2.2
  refine ⟨h2, ?_, cs.1, cs.2.1, rl⟩
  unfold pc_loaf
  rw [e1, bd2_e, e2, bd2_e]
theorem st_ovens (a1 : Int32) (h : PH) (ii : II h) : ∃ h2, pc_ovens a1 h = some h2 ∧ II h2 := by
  obtain ⟨rX, rm, h2, e1, e2, cs, rl, ag⟩ := rl_ovens a1 h ii.1 ii.2.1 ii.2.2
  refine ⟨h2, ?_, cs.1, cs.2.1, rl⟩
  unfold pc_ovens
  rw [e1, bd_e, e2, bd2_e]
theorem st_alone (a1 : Int32) (h : PH) (ii : II h) : ∃ h2, pc_alone a1 h = some h2 ∧ II h2 := by
  obtain ⟨rX, h1, rm, h2, e1, e2, cs, rl, ag⟩ := rl_alone a1 h ii.1 ii.2.1 ii.2.2
  refine ⟨h2, ?_, cs.1, cs.2.1, rl⟩
  unfold pc_alone
  rw [e1, bd2_e, e2, bd2_e]
theorem st_heir (a1 a2 : Int32) (h : PH) (ii : II h) : ∃ h2, pc_heir a1 a2 h = some h2 ∧ II h2 := by
  obtain ⟨rX, h1, rm, h2, e1, e2, cs, rl, ag⟩ := rl_heir a1 a2 h ii.1 ii.2.1 ii.2.2
  refine ⟨h2, ?_, cs.1, cs.2.1, rl⟩
  unfold pc_heir
  rw [e1, bd2_e, e2, bd2_e]
theorem st_line (a1 a2 : Int32) (h : PH) (ii : II h) : ∃ h2, pc_line a1 a2 h = some h2 ∧ II h2 := by
  obtain ⟨rX, rm, h2, e1, e2, cs, rl, ag⟩ := rl_line a1 a2 h ii.1 ii.2.1 ii.2.2
  refine ⟨h2, ?_, cs.1, cs.2.1, rl⟩
  unfold pc_line
  rw [e1, bd_e, e2, bd2_e]
theorem st_window (a1 : Int32) (h : PH) (ii : II h) : ∃ h2, pc_window a1 h = some h2 ∧ II h2 := by
  obtain ⟨rX, rm, h2, e1, e2, cs, rl, ag⟩ := rl_window a1 h ii.1 ii.2.1 ii.2.2
  refine ⟨h2, ?_, cs.1, cs.2.1, rl⟩
  unfold pc_window
  rw [e1, bd_e, e2, bd2_e]
theorem st_member (a1 a2 : Int32) (h : PH) (ii : II h) : ∃ h2, pc_member a1 a2 h = some h2 ∧ II h2 := by
  obtain ⟨rX, h1, rm, h2, e1, e2, cs, rl, ag⟩ := rl_member a1 a2 h ii.1 ii.2.1 ii.2.2
  refine ⟨h2, ?_, cs.1, cs.2.1, rl⟩
  unfold pc_member
  rw [e1, bd2_e, e2, bd2_e]
theorem st_council (a1 : Int32) (h : PH) (ii : II h) : ∃ h2, pc_council a1 h = some h2 ∧ II h2 := by
  obtain ⟨rX, rm, h2, e1, e2, cs, rl, ag⟩ := rl_council a1 h ii.1 ii.2.1 ii.2.2
  refine ⟨h2, ?_, cs.1, cs.2.1, rl⟩
  unfold pc_council
  rw [e1, bd_e, e2, bd2_e]
theorem st_game (a1 a2 : Int32) (h : PH) (ii : II h) : ∃ h2, pc_game a1 a2 h = some h2 ∧ II h2 := by
  obtain ⟨rX, h1, rm, h2, e1, e2, cs, rl, ag⟩ := rl_game a1 a2 h ii.1 ii.2.1 ii.2.2
  refine ⟨h2, ?_, cs.1, cs.2.1, rl⟩
  unfold pc_game
  rw [e1, bd2_e, e2, bd2_e]
theorem st_undo (h : PH) (ii : II h) : ∃ h2, pc_undo h = some h2 ∧ II h2 := by
  obtain ⟨rX, h1, rm, h2, e1, e2, cs, rl, ag⟩ := rl_undo h ii.1 ii.2.1 ii.2.2
  refine ⟨h2, ?_, cs.1, cs.2.1, rl⟩
  unfold pc_undo
  rw [e1, bd2_e, e2, bd2_e]
theorem st_image (a1 : Int32) (h : PH) (ii : II h) : ∃ h2, pc_image a1 h = some h2 ∧ II h2 := by
  obtain ⟨rX, h1, rm, h2, e1, e2, cs, rl, ag⟩ := rl_image a1 h ii.1 ii.2.1 ii.2.2
  refine ⟨h2, ?_, cs.1, cs.2.1, rl⟩
  unfold pc_image
  rw [e1, bd2_e, e2, bd2_e]
theorem st_look (a1 : Int32) (h : PH) (ii : II h) : ∃ h2, pc_look a1 h = some h2 ∧ II h2 := by
  obtain ⟨rX, rm, h2, e1, e2, cs, rl, ag⟩ := rl_look a1 h ii.1 ii.2.1 ii.2.2
  refine ⟨h2, ?_, cs.1, cs.2.1, rl⟩
  unfold pc_look
  rw [e1, bd_e, e2, bd2_e]
theorem st_if {c : Prop} [Decidable c] {a b : Option PH} {P : PH → Prop} (h1 : c → ∃ h2, a = some h2 ∧ P h2) (h2 : ¬ c → ∃ h2, b = some h2 ∧ P h2) : ∃ h2, (if c then a else b) = some h2 ∧ P h2 := by
  by_cases h : c
  · rw [if_pos h]; exact h1 h
  · rw [if_neg h]; exact h2 h
theorem st_all (o a1 a2 a3 a4 a5 : Int32) (h : PH) (ii : II h) : ∃ h2, stp o a1 a2 a3 a4 a5 h = some h2 ∧ II h2 := by
  unfold stp
  refine st_if (fun _ => st_state a1 h ii) (fun _ => ?_)
  refine st_if (fun _ => st_house a1 a2 a3 h ii) (fun _ => ?_)
  refine st_if (fun _ => st_set a1 a2 a3 h ii) (fun _ => ?_)
  refine st_if (fun _ => st_act a1 a2 a3 h ii) (fun _ => ?_)
  refine st_if (fun _ => st_quarters a1 h ii) (fun _ => ?_)
  refine st_if (fun _ => st_feed a1 a2 a3 a4 a5 h ii) (fun _ => ?_)
  refine st_if (fun _ => st_end a1 h ii) (fun _ => ?_)
  refine st_if (fun _ => st_text a1 h ii) (fun _ => ?_)
  refine st_if (fun _ => st_fault a1 h ii) (fun _ => ?_)
  refine st_if (fun _ => st_of a1 a2 h ii) (fun _ => ?_)
  refine st_if (fun _ => st_book a1 a2 h ii) (fun _ => ?_)
  refine st_if (fun _ => st_goes a1 a2 h ii) (fun _ => ?_)
  refine st_if (fun _ => st_stands a1 h ii) (fun _ => ?_)
  refine st_if (fun _ => st_hears a1 a2 h ii) (fun _ => ?_)
  refine st_if (fun _ => st_heard a1 a2 h ii) (fun _ => ?_)
  refine st_if (fun _ => st_ants a1 a2 h ii) (fun _ => ?_)
  refine st_if (fun _ => st_piece a1 h ii) (fun _ => ?_)
  refine st_if (fun _ => st_plate a1 a2 h ii) (fun _ => ?_)
  refine st_if (fun _ => st_dough a1 h ii) (fun _ => ?_)
  refine st_if (fun _ => st_pans a1 a2 h ii) (fun _ => ?_)
  refine st_if (fun _ => st_mortgage a1 a2 a3 a4 h ii) (fun _ => ?_)
  refine st_if (fun _ => st_mark a1 h ii) (fun _ => ?_)
  refine st_if (fun _ => st_measures a1 h ii) (fun _ => ?_)
  refine st_if (fun _ => st_bite a1 a2 h ii) (fun _ => ?_)
  refine st_if (fun _ => st_whose a1 a2 h ii) (fun _ => ?_)
  refine st_if (fun _ => st_crumb a1 h ii) (fun _ => ?_)
  refine st_if (fun _ => st_crumbs a1 h ii) (fun _ => ?_)
  refine st_if (fun _ => st_loaf a1 a2 h ii) (fun _ => ?_)
  refine st_if (fun _ => st_ovens a1 h ii) (fun _ => ?_)
  refine st_if (fun _ => st_alone a1 h ii) (fun _ => ?_)
  refine st_if (fun _ => st_heir a1 a2 h ii) (fun _ => ?_)
  refine st_if (fun _ => st_line a1 a2 h ii) (fun _ => ?_)
  refine st_if (fun _ => st_window a1 h ii) (fun _ => ?_)
  refine st_if (fun _ => st_member a1 a2 h ii) (fun _ => ?_)
  refine st_if (fun _ => st_council a1 h ii) (fun _ => ?_)
  refine st_if (fun _ => st_game a1 a2 h ii) (fun _ => ?_)
  refine st_if (fun _ => st_undo h ii) (fun _ => ?_)
  refine st_if (fun _ => st_image a1 h ii) (fun _ => ?_)
  refine st_if (fun _ => st_look a1 h ii) (fun _ => ?_)
  exact ⟨h, rfl, ii⟩
