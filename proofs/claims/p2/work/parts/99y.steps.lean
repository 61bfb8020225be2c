/-! THE STEP of this claim's law -/
def II (k : Nat) (h : PH) : Prop := IM h ∧ GI h ∧ RLA h ∧ RLH h ∧ RTX h ∧ TWN k h
theorem st_state (k : Nat) (a1 : Int32) (h : PH) (ii : II k h) (hk : k < 512) : ∃ h2, pc_state a1 h = some h2 ∧ II (k + 1) h2 := by
  obtain ⟨rX, h1, rm, h2, e1, e2, cs, rl, ag⟩ := rl_state a1 h ii.1 ii.2.1 ii.2.2.1
  refine ⟨h2, ?_, cs.1, cs.2.1, rl, rh_state a1 h ii.1 ii.2.2.2.1 e1 e2 cs, rx_state a1 h ii.2.2.2.2.1 e1 e2, (tw_state k a1 h ii.1 ii.2.2.2.2.2 hk e1 e2 cs).1⟩
  unfold pc_state
  rw [e1, bd2_e, e2, bd2_e, if_pos ((tw_state k a1 h ii.1 ii.2.2.2.2.2 hk e1 e2 cs).2)]
theorem st_house (k : Nat) (a1 a2 a3 : Int32) (h : PH) (ii : II k h) (hk : k < 512) : ∃ h2, pc_house a1 a2 a3 h = some h2 ∧ II (k + 1) h2 := by
  obtain ⟨rX, h1, rm, h2, e1, e2, cs, rl, ag⟩ := rl_house a1 a2 a3 h ii.1 ii.2.1 ii.2.2.1
  refine ⟨h2, ?_, cs.1, cs.2.1, rl, rh_house a1 a2 a3 h ii.1 ii.2.2.2.1 e1 e2 cs, rx_house a1 a2 a3 h ii.2.2.2.2.1 e1 e2, tw_house k a1 a2 a3 h ii.1 ii.2.2.2.2.2 hk e1 e2 cs⟩
  unfold pc_house
  rw [e1, bd2_e, e2, bd2_e]
theorem st_set (k : Nat) (a1 a2 a3 : Int32) (h : PH) (ii : II k h) (hk : k < 512) : ∃ h2, pc_set a1 a2 a3 h = some h2 ∧ II (k + 1) h2 := by
  obtain ⟨rX, h1, rm, h2, e1, e2, cs, rl, ag⟩ := rl_set a1 a2 a3 h ii.1 ii.2.1 ii.2.2.1
  refine ⟨h2, ?_, cs.1, cs.2.1, rl, rh_set a1 a2 a3 h ii.1 ii.2.2.2.1 e1 e2 cs, rx_set a1 a2 a3 h ii.2.2.2.2.1 e1 e2, tw_set k a1 a2 a3 h ii.1 ii.2.2.2.2.2 hk e1 e2 cs⟩
  unfold pc_set
  rw [e1, bd2_e, e2, bd2_e]
theorem st_act (k : Nat) (a1 a2 a3 : Int32) (h : PH) (ii : II k h) (hk : k < 512) : ∃ h2, pc_act a1 a2 a3 h = some h2 ∧ II (k + 1) h2 := by
  obtain ⟨rX, h1, rm, h2, e1, e2, cs, rl, ag⟩ := rl_act a1 a2 a3 h ii.1 ii.2.1 ii.2.2.1
  refine ⟨h2, ?_, cs.1, cs.2.1, rl, rh_act a1 a2 a3 h ii.1 ii.2.2.2.1 e1 e2 cs, rx_act a1 a2 a3 h ii.2.2.2.2.1 e1 e2, (tw_act k a1 a2 a3 h ii.1 ii.2.2.2.2.2 hk e1 e2 cs).1⟩
  unfold pc_act
  rw [e1, bd2_e, e2, bd2_e]
theorem st_quarters (k : Nat) (a1 : Int32) (h : PH) (ii : II k h) (hk : k < 512) : ∃ h2, pc_quarters a1 h = some h2 ∧ II (k + 1) h2 := by
  obtain ⟨rX, h1, rm, h2, e1, e2, cs, rl, ag⟩ := rl_quarters a1 h ii.1 ii.2.1 ii.2.2.1
  refine ⟨h2, ?_, cs.1, cs.2.1, rl, rh_quarters a1 h ii.1 ii.2.2.2.1 e1 e2 cs, rx_quarters a1 h ii.2.2.2.2.1 e1 e2, (tw_quarters k a1 h ii.1 ii.2.2.2.2.2 hk e1 e2 cs).1⟩
  unfold pc_quarters
  rw [e1, bd2_e, e2, bd2_e]
theorem st_feed (k : Nat) (a1 a2 a3 a4 a5 : Int32) (h : PH) (ii : II k h) (hk : k < 512) : ∃ h2, pc_feed a1 a2 a3 a4 a5 h = some h2 ∧ II (k + 1) h2 := by
  obtain ⟨rX, h1, rm, h2, e1, e2, cs, rl, ag⟩ := rl_feed a1 a2 a3 a4 a5 h ii.1 ii.2.1 ii.2.2.1
  refine ⟨h2, ?_, cs.1, cs.2.1, rl, rh_feed a1 a2 a3 a4 a5 h ii.2.2.2.1 e1 e2, rx_feed a1 a2 a3 a4 a5 h ii.1 ii.2.2.1 ii.2.2.2.2.1 e1 e2 cs, tw_feed k a1 a2 a3 a4 a5 h ii.2.2.2.2.2 hk e1 e2⟩
  unfold pc_feed
  rw [e1, bd2_e, e2, bd2_e]
theorem st_end (k : Nat) (a1 : Int32) (h : PH) (ii : II k h) (hk : k < 512) : ∃ h2, pc_end a1 h = some h2 ∧ II (k + 1) h2 := by
  obtain ⟨rX, h1, rm, h2, e1, e2, cs, rl, ag⟩ := rl_end a1 h ii.1 ii.2.1 ii.2.2.1
  refine ⟨h2, ?_, cs.1, cs.2.1, rl, rh_end a1 h ii.2.2.2.1 e1 e2, rx_end a1 h ii.1 ii.2.2.2.2.1 e1 e2 cs, tw_end k a1 h ii.2.2.2.2.2 hk e1 e2⟩
  unfold pc_end
  rw [e1, bd2_e, e2, bd2_e]
theorem st_text (k : Nat) (a1 : Int32) (h : PH) (ii : II k h) (hk : k < 512) : ∃ h2, pc_text a1 h = some h2 ∧ II (k + 1) h2 := by
  obtain ⟨rX, h1, rm, h2, e1, e2, cs, rl, ag⟩ := rl_text a1 h ii.1 ii.2.1 ii.2.2.1
  refine ⟨h2, ?_, cs.1, cs.2.1, rl, rh_text a1 h ii.1 ii.2.2.2.1 e1 e2 cs, (ag_text a1 h ii.1 ii.2.2.1 ii.2.2.2.1 ii.2.2.2.2.1 e1 e2 cs).2, tw_text k a1 h ii.1 ii.2.2.1 ii.2.2.2.2.1 ii.2.2.2.2.2 hk e1 e2 cs⟩
  unfold pc_text
  rw [e1, bd2_e, e2, bd2_e]
theorem st_fault (k : Nat) (a1 : Int32) (h : PH) (ii : II k h) (hk : k < 512) : ∃ h2, pc_fault a1 h = some h2 ∧ II (k + 1) h2 := by
  obtain ⟨rX, rm, h2, e1, e2, cs, rl, ag⟩ := rl_fault a1 h ii.1 ii.2.1 ii.2.2.1
  refine ⟨h2, ?_, cs.1, cs.2.1, rl, rh_fault a1 h ii.2.2.2.1 e2, rx_fault a1 h ii.2.2.2.2.1 e2, tw_fault k a1 h ii.2.2.2.2.2 hk e2⟩
  unfold pc_fault
  rw [e1, bd_e, e2, bd2_e]
theorem st_of (k : Nat) (a1 a2 : Int32) (h : PH) (ii : II k h) (hk : k < 512) : ∃ h2, pc_of a1 a2 h = some h2 ∧ II (k + 1) h2 := by
  obtain ⟨rX, h1, rm, h2, e1, e2, cs, rl, ag⟩ := rl_of a1 a2 h ii.1 ii.2.1 ii.2.2.1
  refine ⟨h2, ?_, cs.1, cs.2.1, rl, rh_of a1 a2 h ii.2.2.2.1 e1 e2, rx_of a1 a2 h ii.2.2.2.2.1 e1 e2, tw_of k a1 a2 h ii.2.2.2.2.2 hk e1 e2⟩
  unfold pc_of
  rw [e1, bd2_e, e2, bd2_e]
theorem st_book (k : Nat) (a1 a2 : Int32) (h : PH) (ii : II k h) (hk : k < 512) : ∃ h2, pc_book a1 a2 h = some h2 ∧ II (k + 1) h2 := by
  obtain ⟨rX, rm, h2, e1, e2, cs, rl, ag⟩ := rl_book a1 a2 h ii.1 ii.2.1 ii.2.2.1
  refine ⟨h2, ?_, cs.1, cs.2.1, rl, rh_book a1 a2 h ii.2.2.2.1 e2, rx_book a1 a2 h ii.2.2.2.2.1 e2, tw_book k a1 a2 h ii.2.2.2.2.2 hk e2⟩
  unfold pc_book
  rw [e1, bd_e, e2, bd2_e]
theorem st_goes (k : Nat) (a1 a2 : Int32) (h : PH) (ii : II k h) (hk : k < 512) : ∃ h2, pc_goes a1 a2 h = some h2 ∧ II (k + 1) h2 := by
  obtain ⟨rX, h1, rm, h2, e1, e2, cs, rl, ag⟩ := rl_goes a1 a2 h ii.1 ii.2.1 ii.2.2.1
  refine ⟨h2, ?_, cs.1, cs.2.1, rl, rh_goes a1 a2 h ii.2.2.2.1 e1 e2, rx_goes a1 a2 h ii.2.2.2.2.1 e1 e2, tw_goes k a1 a2 h ii.2.2.2.2.2 hk e1 e2 cs⟩
  unfold pc_goes
  rw [e1, bd2_e, e2, bd2_e]
theorem st_stands (k : Nat) (a1 : Int32) (h : PH) (ii : II k h) (hk : k < 512) : ∃ h2, pc_stands a1 h = some h2 ∧ II (k + 1) h2 := by
  obtain ⟨rX, h1, rm, h2, e1, e2, cs, rl, ag⟩ := rl_stands a1 h ii.1 ii.2.1 ii.2.2.1
  refine ⟨h2, ?_, cs.1, cs.2.1, rl, rh_stands a1 h ii.2.2.2.1 e1 e2, rx_stands a1 h ii.2.2.2.2.1 e1 e2, tw_stands k a1 h ii.2.2.2.2.2 hk e1 e2 cs⟩
  unfold pc_stands
  rw [e1, bd2_e, e2, bd2_e]
theorem st_hears (k : Nat) (a1 a2 : Int32) (h : PH) (ii : II k h) (hk : k < 512) : ∃ h2, pc_hears a1 a2 h = some h2 ∧ II (k + 1) h2 := by
  obtain ⟨rX, h1, rm, h2, e1, e2, cs, rl, ag⟩ := rl_hears a1 a2 h ii.1 ii.2.1 ii.2.2.1
  refine ⟨h2, ?_, cs.1, cs.2.1, rl, rh_hears a1 a2 h ii.2.2.2.1 e1 e2, rx_hears a1 a2 h ii.2.2.2.2.1 e1 e2, tw_hears k a1 a2 h ii.2.2.2.2.2 hk e1 e2⟩
  unfold pc_hears
  rw [e1, bd2_e, e2, bd2_e]
theorem st_heard (k : Nat) (a1 a2 : Int32) (h : PH) (ii : II k h) (hk : k < 512) : ∃ h2, pc_heard a1 a2 h = some h2 ∧ II (k + 1) h2 := by
  obtain ⟨rX, h1, rm, h2, e1, e2, cs, rl, ag⟩ := rl_heard a1 a2 h ii.1 ii.2.1 ii.2.2.1
  refine ⟨h2, ?_, cs.1, cs.2.1, rl, rh_heard a1 a2 h ii.2.2.2.1 e1 e2, rx_heard a1 a2 h ii.2.2.2.2.1 e1 e2, tw_heard k a1 a2 h ii.2.2.2.2.2 hk e1 e2⟩
  unfold pc_heard
  rw [e1, bd2_e, e2, bd2_e]
theorem st_ants (k : Nat) (a1 a2 : Int32) (h : PH) (ii : II k h) (hk : k < 512) : ∃ h2, pc_ants a1 a2 h = some h2 ∧ II (k + 1) h2 := by
  obtain ⟨rX, h1, rm, h2, e1, e2, cs, rl, ag⟩ := rl_ants a1 a2 h ii.1 ii.2.1 ii.2.2.1
  refine ⟨h2, ?_, cs.1, cs.2.1, rl, rh_ants a1 a2 h ii.2.2.2.1 e1 e2, rx_ants a1 a2 h ii.2.2.2.2.1 e1 e2, tw_ants k a1 a2 h ii.2.2.2.2.2 hk e1 e2⟩
  unfold pc_ants
  rw [e1, bd2_e, e2, bd2_e]
theorem st_piece (k : Nat) (a1 : Int32) (h : PH) (ii : II k h) (hk : k < 512) : ∃ h2, pc_piece a1 h = some h2 ∧ II (k + 1) h2 := by
  obtain ⟨rX, h1, rm, h2, e1, e2, cs, rl, ag⟩ := rl_piece a1 h ii.1 ii.2.1 ii.2.2.1
  refine ⟨h2, ?_, cs.1, cs.2.1, rl, rh_piece a1 h ii.2.2.2.1 e1 e2, rx_piece a1 h ii.2.2.2.2.1 e1 e2, tw_piece k a1 h ii.2.2.2.2.2 hk e1 e2⟩
  unfold pc_piece
  rw [e1, bd2_e, e2, bd2_e]
theorem st_plate (k : Nat) (a1 a2 : Int32) (h : PH) (ii : II k h) (hk : k < 512) : ∃ h2, pc_plate a1 a2 h = some h2 ∧ II (k + 1) h2 := by
  obtain ⟨rX, rm, h2, e1, e2, cs, rl, ag⟩ := rl_plate a1 a2 h ii.1 ii.2.1 ii.2.2.1
  refine ⟨h2, ?_, cs.1, cs.2.1, rl, rh_plate a1 a2 h ii.2.2.2.1 e2, rx_plate a1 a2 h ii.2.2.2.2.1 e2, tw_plate k a1 a2 h ii.2.2.2.2.2 hk e2⟩
  unfold pc_plate
  rw [e1, bd_e, e2, bd2_e]
theorem st_dough (k : Nat) (a1 : Int32) (h : PH) (ii : II k h) (hk : k < 512) : ∃ h2, pc_dough a1 h = some h2 ∧ II (k + 1) h2 := by
  obtain ⟨rX, h1, rm, h2, e1, e2, cs, rl, ag⟩ := rl_dough a1 h ii.1 ii.2.1 ii.2.2.1
  refine ⟨h2, ?_, cs.1, cs.2.1, rl, rh_dough a1 h ii.2.2.2.1 e1 e2, rx_dough a1 h ii.2.2.2.2.1 e1 e2, tw_dough k a1 h ii.2.2.2.2.2 hk e1 e2⟩
  unfold pc_dough
  rw [e1, bd2_e, e2, bd2_e]
theorem st_pans (k : Nat) (a1 a2 : Int32) (h : PH) (ii : II k h) (hk : k < 512) : ∃ h2, pc_pans a1 a2 h = some h2 ∧ II (k + 1) h2 := by
  obtain ⟨rX, h1, rm, h2, e1, e2, cs, rl, ag⟩ := rl_pans a1 a2 h ii.1 ii.2.1 ii.2.2.1
  refine ⟨h2, ?_, cs.1, cs.2.1, rl, rh_pans a1 a2 h ii.2.2.2.1 e1 e2, rx_pans a1 a2 h ii.2.2.2.2.1 e1 e2, tw_pans k a1 a2 h ii.2.2.2.2.2 hk e1 e2⟩
  unfold pc_pans
  rw [e1, bd2_e, e2, bd2_e]
theorem st_mortgage (k : Nat) (a1 a2 a3 a4 : Int32) (h : PH) (ii : II k h) (hk : k < 512) : ∃ h2, pc_mortgage a1 a2 a3 a4 h = some h2 ∧ II (k + 1) h2 := by
  obtain ⟨rX, rm, h2, e1, e2, cs, rl, ag⟩ := rl_mortgage a1 a2 a3 a4 h ii.1 ii.2.1 ii.2.2.1
  refine ⟨h2, ?_, cs.1, cs.2.1, rl, rh_mortgage a1 a2 a3 a4 h ii.2.2.2.1 e2, rx_mortgage a1 a2 a3 a4 h ii.2.2.2.2.1 e2, tw_mortgage k a1 a2 a3 a4 h ii.2.2.2.2.2 hk e2⟩
  unfold pc_mortgage
  rw [e1, bd_e, e2, bd2_e]
theorem st_mark (k : Nat) (a1 : Int32) (h : PH) (ii : II k h) (hk : k < 512) : ∃ h2, pc_mark a1 h = some h2 ∧ II (k + 1) h2 := by
  obtain ⟨rX, h1, rm, h2, e1, e2, cs, rl, ag⟩ := rl_mark a1 h ii.1 ii.2.1 ii.2.2.1
  refine ⟨h2, ?_, cs.1, cs.2.1, rl, rh_mark a1 h ii.2.2.2.1 e1 e2, rx_mark a1 h ii.2.2.2.2.1 e1 e2, tw_mark k a1 h ii.2.2.2.2.2 hk e1 e2⟩
  unfold pc_mark
  rw [e1, bd2_e, e2, bd2_e]
theorem st_measures (k : Nat) (a1 : Int32) (h : PH) (ii : II k h) (hk : k < 512) : ∃ h2, pc_measures a1 h = some h2 ∧ II (k + 1) h2 := by
  obtain ⟨rX, rm, h2, e1, e2, cs, rl, ag⟩ := rl_measures a1 h ii.1 ii.2.1 ii.2.2.1
  refine ⟨h2, ?_, cs.1, cs.2.1, rl, rh_measures a1 h ii.2.2.2.1 e2, rx_measures a1 h ii.2.2.2.2.1 e2, tw_measures k a1 h ii.2.2.2.2.2 hk e2⟩
  unfold pc_measures
  rw [e1, bd_e, e2, bd2_e]
theorem st_bite (k : Nat) (a1 a2 : Int32) (h : PH) (ii : II k h) (hk : k < 512) : ∃ h2, pc_bite a1 a2 h = some h2 ∧ II (k + 1) h2 := by
  obtain ⟨rX, h1, rm, h2, e1, e2, cs, rl, ag⟩ := rl_bite a1 a2 h ii.1 ii.2.1 ii.2.2.1
  refine ⟨h2, ?_, cs.1, cs.2.1, rl, rh_bite a1 a2 h ii.2.2.2.1 e1 e2, rx_bite a1 a2 h ii.2.2.2.2.1 e1 e2, tw_bite k a1 a2 h ii.2.2.2.2.2 hk e1 e2⟩
  unfold pc_bite
  rw [e1, bd2_e, e2, bd2_e]
theorem st_whose (k : Nat) (a1 a2 : Int32) (h : PH) (ii : II k h) (hk : k < 512) : ∃ h2, pc_whose a1 a2 h = some h2 ∧ II (k + 1) h2 := by
  obtain ⟨rX, rm, h2, e1, e2, cs, rl, ag⟩ := rl_whose a1 a2 h ii.1 ii.2.1 ii.2.2.1
  refine ⟨h2, ?_, cs.1, cs.2.1, rl, rh_whose a1 a2 h ii.2.2.2.1 e2, rx_whose a1 a2 h ii.2.2.2.2.1 e2, tw_whose k a1 a2 h ii.2.2.2.2.2 hk e2⟩
  unfold pc_whose
  rw [e1, bd_e, e2, bd2_e]
theorem st_crumb (k : Nat) (a1 : Int32) (h : PH) (ii : II k h) (hk : k < 512) : ∃ h2, pc_crumb a1 h = some h2 ∧ II (k + 1) h2 := by
  obtain ⟨rX, h1, rm, h2, e1, e2, cs, rl, ag⟩ := rl_crumb a1 h ii.1 ii.2.1 ii.2.2.1
  refine ⟨h2, ?_, cs.1, cs.2.1, rl, rh_crumb a1 h ii.2.2.2.1 e1 e2, rx_crumb a1 h ii.2.2.2.2.1 e1 e2, tw_crumb k a1 h ii.2.2.2.2.2 hk e1 e2⟩
  unfold pc_crumb
  rw [e1, bd2_e, e2, bd2_e]
theorem st_crumbs (k : Nat) (a1 : Int32) (h : PH) (ii : II k h) (hk : k < 512) : ∃ h2, pc_crumbs a1 h = some h2 ∧ II (k + 1) h2 := by
  obtain ⟨rX, h1, rm, h2, e1, e2, cs, rl, ag⟩ := rl_crumbs a1 h ii.1 ii.2.1 ii.2.2.1
  refine ⟨h2, ?_, cs.1, cs.2.1, rl, rh_crumbs a1 h ii.2.2.2.1 e1 e2, rx_crumbs a1 h ii.2.2.2.2.1 e1 e2, tw_crumbs k a1 h ii.2.2.2.2.2 hk e1 e2⟩
  unfold pc_crumbs
  rw [e1, bd2_e, e2, bd2_e]
theorem st_loaf (k : Nat) (a1 a2 : Int32) (h : PH) (ii : II k h) (hk : k < 512) : ∃ h2, pc_loaf a1 a2 h = some h2 ∧ II (k + 1) h2 := by
  obtain ⟨rX, h1, rm, h2, e1, e2, cs, rl, ag⟩ := rl_loaf a1 a2 h ii.1 ii.2.1 ii.2.2.1
  refine ⟨h2, ?_, cs.1, cs.2.1, rl, rh_loaf a1 a2 h ii.2.2.2.1 e1 e2, rx_loaf a1 a2 h ii.2.2.2.2.1 e1 e2, tw_loaf k a1 a2 h ii.2.2.2.2.2 hk e1 e2⟩
  unfold pc_loaf
  rw [e1, bd2_e, e2, bd2_e]
theorem st_ovens (k : Nat) (a1 : Int32) (h : PH) (ii : II k h) (hk : k < 512) : ∃ h2, pc_ovens a1 h = some h2 ∧ II (k + 1) h2 := by
  obtain ⟨rX, rm, h2, e1, e2, cs, rl, ag⟩ := rl_ovens a1 h ii.1 ii.2.1 ii.2.2.1
  refine ⟨h2, ?_, cs.1, cs.2.1, rl, rh_ovens a1 h ii.2.2.2.1 e2, rx_ovens a1 h ii.2.2.2.2.1 e2, tw_ovens k a1 h ii.2.2.2.2.2 hk e2⟩
  unfold pc_ovens
  rw [e1, bd_e, e2, bd2_e]
theorem st_alone (k : Nat) (a1 : Int32) (h : PH) (ii : II k h) (hk : k < 512) : ∃ h2, pc_alone a1 h = some h2 ∧ II (k + 1) h2 := by
  obtain ⟨rX, h1, rm, h2, e1, e2, cs, rl, ag⟩ := rl_alone a1 h ii.1 ii.2.1 ii.2.2.1
  refine ⟨h2, ?_, cs.1, cs.2.1, rl, rh_alone a1 h ii.2.2.2.1 e1 e2, rx_alone a1 h ii.2.2.2.2.1 e1 e2, tw_alone k a1 h ii.2.2.2.2.2 hk e1 e2⟩
  unfold pc_alone
  rw [e1, bd2_e, e2, bd2_e]
theorem st_heir (k : Nat) (a1 a2 : Int32) (h : PH) (ii : II k h) (hk : k < 512) : ∃ h2, pc_heir a1 a2 h = some h2 ∧ II (k + 1) h2 := by
  obtain ⟨rX, h1, rm, h2, e1, e2, cs, rl, ag⟩ := rl_heir a1 a2 h ii.1 ii.2.1 ii.2.2.1
  refine ⟨h2, ?_, cs.1, cs.2.1, rl, rh_heir a1 a2 h ii.2.2.2.1 e1 e2, rx_heir a1 a2 h ii.2.2.2.2.1 e1 e2, tw_heir k a1 a2 h ii.2.2.2.2.2 hk e1 e2⟩
  unfold pc_heir
  rw [e1, bd2_e, e2, bd2_e]
theorem st_line (k : Nat) (a1 a2 : Int32) (h : PH) (ii : II k h) (hk : k < 512) : ∃ h2, pc_line a1 a2 h = some h2 ∧ II (k + 1) h2 := by
  obtain ⟨rX, rm, h2, e1, e2, cs, rl, ag⟩ := rl_line a1 a2 h ii.1 ii.2.1 ii.2.2.1
  refine ⟨h2, ?_, cs.1, cs.2.1, rl, rh_line a1 a2 h ii.2.2.2.1 e2, rx_line a1 a2 h ii.2.2.2.2.1 e2, tw_line k a1 a2 h ii.2.2.2.2.2 hk e2⟩
  unfold pc_line
  rw [e1, bd_e, e2, bd2_e]
theorem st_window (k : Nat) (a1 : Int32) (h : PH) (ii : II k h) (hk : k < 512) : ∃ h2, pc_window a1 h = some h2 ∧ II (k + 1) h2 := by
  obtain ⟨rX, rm, h2, e1, e2, cs, rl, ag⟩ := rl_window a1 h ii.1 ii.2.1 ii.2.2.1
  refine ⟨h2, ?_, cs.1, cs.2.1, rl, rh_window a1 h ii.2.2.2.1 e2, rx_window a1 h ii.2.2.2.2.1 e2, tw_window k a1 h ii.2.2.2.2.2 hk e2⟩
  unfold pc_window
  rw [e1, bd_e, e2, bd2_e]
theorem st_member (k : Nat) (a1 a2 : Int32) (h : PH) (ii : II k h) (hk : k < 512) : ∃ h2, pc_member a1 a2 h = some h2 ∧ II (k + 1) h2 := by
  obtain ⟨rX, h1, rm, h2, e1, e2, cs, rl, ag⟩ := rl_member a1 a2 h ii.1 ii.2.1 ii.2.2.1
  refine ⟨h2, ?_, cs.1, cs.2.1, rl, rh_member a1 a2 h ii.2.2.2.1 e1 e2, rx_member a1 a2 h ii.2.2.2.2.1 e1 e2, tw_member k a1 a2 h ii.2.2.2.2.2 hk e1 e2⟩
  unfold pc_member
  rw [e1, bd2_e, e2, bd2_e]
theorem st_council (k : Nat) (a1 : Int32) (h : PH) (ii : II k h) (hk : k < 512) : ∃ h2, pc_council a1 h = some h2 ∧ II (k + 1) h2 := by
  obtain ⟨rX, rm, h2, e1, e2, cs, rl, ag⟩ := rl_council a1 h ii.1 ii.2.1 ii.2.2.1
  refine ⟨h2, ?_, cs.1, cs.2.1, rl, rh_council a1 h ii.2.2.2.1 e2, rx_council a1 h ii.2.2.2.2.1 e2, tw_council k a1 h ii.2.2.2.2.2 hk e2⟩
  unfold pc_council
  rw [e1, bd_e, e2, bd2_e]
theorem st_game (k : Nat) (a1 a2 : Int32) (h : PH) (ii : II k h) (hk : k < 512) : ∃ h2, pc_game a1 a2 h = some h2 ∧ II (k + 1) h2 := by
  obtain ⟨rX, h1, rm, h2, e1, e2, cs, rl, ag⟩ := rl_game a1 a2 h ii.1 ii.2.1 ii.2.2.1
  refine ⟨h2, ?_, cs.1, cs.2.1, rl, rh_game a1 a2 h ii.2.2.2.1 e1 e2, rx_game a1 a2 h ii.2.2.2.2.1 e1 e2, tw_game k a1 a2 h ii.2.2.2.2.2 hk e1 e2⟩
  unfold pc_game
  rw [e1, bd2_e, e2, bd2_e]
theorem st_undo (k : Nat) (h : PH) (ii : II k h) (hk : k < 512) : ∃ h2, pc_undo h = some h2 ∧ II (k + 1) h2 := by
  obtain ⟨rX, h1, rm, h2, e1, e2, cs, rl, ag⟩ := rl_undo h ii.1 ii.2.1 ii.2.2.1
  refine ⟨h2, ?_, cs.1, cs.2.1, rl, rh_undo h ii.1 ii.2.2.2.1 e1 e2 cs, rx_undo h ii.2.2.2.2.1 e1 e2, (tw_undo k h ii.1 ii.2.2.2.2.2 hk e1 e2 cs).1⟩
  unfold pc_undo
  rw [e1, bd2_e, e2, bd2_e]
theorem st_image (k : Nat) (a1 : Int32) (h : PH) (ii : II k h) (hk : k < 512) : ∃ h2, pc_image a1 h = some h2 ∧ II (k + 1) h2 := by
  obtain ⟨rX, h1, rm, h2, e1, e2, cs, rl, ag⟩ := rl_image a1 h ii.1 ii.2.1 ii.2.2.1
  refine ⟨h2, ?_, cs.1, cs.2.1, rl, rh_image a1 h ii.1 ii.2.2.1 ii.2.2.2.1 e1 e2 cs, rx_image a1 h ii.2.2.2.2.1 e1 e2, tw_image k a1 h ii.1 ii.2.2.1 ii.2.2.2.2.2 hk e1 e2 cs⟩
  unfold pc_image
  rw [e1, bd2_e, e2, bd2_e]
theorem st_look (k : Nat) (a1 : Int32) (h : PH) (ii : II k h) (hk : k < 512) : ∃ h2, pc_look a1 h = some h2 ∧ II (k + 1) h2 := by
  obtain ⟨rX, rm, h2, e1, e2, cs, rl, ag⟩ := rl_look a1 h ii.1 ii.2.1 ii.2.2.1
  refine ⟨h2, ?_, cs.1, cs.2.1, rl, rh_look a1 h ii.2.2.2.1 e2, rx_look a1 h ii.2.2.2.2.1 e2, tw_look k a1 h ii.2.2.2.2.2 hk e2⟩
  unfold pc_look
  rw [e1, bd_e, e2, bd2_e]
theorem st_if {c : Prop} [Decidable c] {a b : Option PH} {P : PH → Prop} (h1 : c → ∃ h2, a = some h2 ∧ P h2) (h2 : ¬ c → ∃ h2, b = some h2 ∧ P h2) : ∃ h2, (if c then a else b) = some h2 ∧ P h2 := by
  by_cases h : c
  · rw [if_pos h]; exact h1 h
  · rw [if_neg h]; exact h2 h
theorem st_all (k : Nat) (o a1 a2 a3 a4 a5 : Int32) (h : PH) (ii : II k h) (hk : k < 512) : ∃ h2, stp o a1 a2 a3 a4 a5 h = some h2 ∧ II (k + 1) h2 := by
  unfold stp
  refine st_if (fun _ => st_state k a1 h ii hk) (fun _ => ?_)
  refine st_if (fun _ => st_house k a1 a2 a3 h ii hk) (fun _ => ?_)
  refine st_if (fun _ => st_set k a1 a2 a3 h ii hk) (fun _ => ?_)
  refine st_if (fun _ => st_act k a1 a2 a3 h ii hk) (fun _ => ?_)
  refine st_if (fun _ => st_quarters k a1 h ii hk) (fun _ => ?_)
  refine st_if (fun _ => st_feed k a1 a2 a3 a4 a5 h ii hk) (fun _ => ?_)
  refine st_if (fun _ => st_end k a1 h ii hk) (fun _ => ?_)
  refine st_if (fun _ => st_text k a1 h ii hk) (fun _ => ?_)
  refine st_if (fun _ => st_fault k a1 h ii hk) (fun _ => ?_)
  refine st_if (fun _ => st_of k a1 a2 h ii hk) (fun _ => ?_)
  refine st_if (fun _ => st_book k a1 a2 h ii hk) (fun _ => ?_)
  refine st_if (fun _ => st_goes k a1 a2 h ii hk) (fun _ => ?_)
  refine st_if (fun _ => st_stands k a1 h ii hk) (fun _ => ?_)
  refine st_if (fun _ => st_hears k a1 a2 h ii hk) (fun _ => ?_)
  refine st_if (fun _ => st_heard k a1 a2 h ii hk) (fun _ => ?_)
  refine st_if (fun _ => st_ants k a1 a2 h ii hk) (fun _ => ?_)
  refine st_if (fun _ => st_piece k a1 h ii hk) (fun _ => ?_)
  refine st_if (fun _ => st_plate k a1 a2 h ii hk) (fun _ => ?_)
  refine st_if (fun _ => st_dough k a1 h ii hk) (fun _ => ?_)
  refine st_if (fun _ => st_pans k a1 a2 h ii hk) (fun _ => ?_)
  refine st_if (fun _ => st_mortgage k a1 a2 a3 a4 h ii hk) (fun _ => ?_)
  refine st_if (fun _ => st_mark k a1 h ii hk) (fun _ => ?_)
  refine st_if (fun _ => st_measures k a1 h ii hk) (fun _ => ?_)
  refine st_if (fun _ => st_bite k a1 a2 h ii hk) (fun _ => ?_)
  refine st_if (fun _ => st_whose k a1 a2 h ii hk) (fun _ => ?_)
  refine st_if (fun _ => st_crumb k a1 h ii hk) (fun _ => ?_)
  refine st_if (fun _ => st_crumbs k a1 h ii hk) (fun _ => ?_)
  refine st_if (fun _ => st_loaf k a1 a2 h ii hk) (fun _ => ?_)
  refine st_if (fun _ => st_ovens k a1 h ii hk) (fun _ => ?_)
  refine st_if (fun _ => st_alone k a1 h ii hk) (fun _ => ?_)
  refine st_if (fun _ => st_heir k a1 a2 h ii hk) (fun _ => ?_)
  refine st_if (fun _ => st_line k a1 a2 h ii hk) (fun _ => ?_)
  refine st_if (fun _ => st_window k a1 h ii hk) (fun _ => ?_)
  refine st_if (fun _ => st_member k a1 a2 h ii hk) (fun _ => ?_)
  refine st_if (fun _ => st_council k a1 h ii hk) (fun _ => ?_)
  refine st_if (fun _ => st_game k a1 a2 h ii hk) (fun _ => ?_)
  refine st_if (fun _ => st_undo k h ii hk) (fun _ => ?_)
  refine st_if (fun _ => st_image k a1 h ii hk) (fun _ => ?_)
  refine st_if (fun _ => st_look k a1 h ii hk) (fun _ => ?_)
  exact ⟨h, rfl, ii.1, ii.2.1, ii.2.2.1, ii.2.2.2.1, ii.2.2.2.2.1, twn_fr (Nat.le_succ k) hk (fun _ _ => rfl) ⟨fun _ _ => rfl, fun _ _ => rfl, fun _ _ => rfl⟩ ii.2.2.2.2.2⟩
