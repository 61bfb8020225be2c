/-! THE FIRST CALL, whichever it is -/
theorem ex_state (a : Int32) : ∃ h2, pc_state a hI = some h2 := ⟨_, ps_state rfl⟩
theorem ex_fault (a : Int32) : ∃ h2, pc_fault a hI = some h2 := ⟨_, ps_fault rfl rfl⟩
theorem ex_end (a : Int32) : ∃ h2, pc_end a hI = some h2 := ⟨_, ps_end rfl⟩
theorem ex_mortgage (a b c d : Int32) : ∃ h2, pc_mortgage a b c d hI = some h2 := ⟨_, ps_mortgage hI a b c d⟩
theorem ex_window (a : Int32) : ∃ h2, pc_window a hI = some h2 := ps_window hI a
theorem ex_game (a b : Int32) : ∃ h2, pc_game a b hI = some h2 := by
  obtain ⟨h2, e, -⟩ := ps_game a b hI (Or.inl ⟨rfl, rfl⟩)
  exact ⟨h2, e⟩
theorem ex_undo : ∃ h2, pc_undo hI = some h2 := ex_is k_undo
theorem ex_image (a : Int32) : ∃ h2, pc_image a hI = some h2 := by
  by_cases c : a = 0
  · rw [c]; exact ex_is k_image0
  · have : pc_image a hI = pc_image 1 hI := by
      unfold pc_image
      rw [if_neg c, if_neg (show ¬ (1 : Int32) = 0 by decide)]
    rw [this]; exact ex_is k_image1
theorem ex_step (o a1 a2 a3 a4 a5 : Int32) : ∃ h2, stp o a1 a2 a3 a4 a5 hI = some h2 := by
  unfold stp
  by_cases c0 : o = 0
  · rw [if_pos c0]; exact ex_state a1
  rw [if_neg c0]
  by_cases c1 : o = 1
  · rw [if_pos c1]; exact ex_house a1 a2 a3
  rw [if_neg c1]
  by_cases c2 : o = 2
  · rw [if_pos c2]; exact ex_set a1 a2 a3
  rw [if_neg c2]
  by_cases c3 : o = 3
  · rw [if_pos c3]; exact ex_act a1 a2 a3
  rw [if_neg c3]
  by_cases c4 : o = 4
  · rw [if_pos c4]; exact ex_quarters a1
  rw [if_neg c4]
  by_cases c5 : o = 5
  · rw [if_pos c5]; exact ex_feed a1 a2 a3 a4 a5
  rw [if_neg c5]
  by_cases c6 : o = 6
  · rw [if_pos c6]; exact ex_end a1
  rw [if_neg c6]
  by_cases c7 : o = 7
  · rw [if_pos c7]; exact ex_text a1
  rw [if_neg c7]
  by_cases c8 : o = 8
  · rw [if_pos c8]; exact ex_fault a1
  rw [if_neg c8]
  by_cases c9 : o = 9
  · rw [if_pos c9]; exact ex_of a1 a2
  rw [if_neg c9]
  by_cases c10 : o = 10
  · rw [if_pos c10]; exact ex_book a1 a2
  rw [if_neg c10]
  by_cases c11 : o = 11
  · rw [if_pos c11]; exact ex_goes a1 a2
  rw [if_neg c11]
  by_cases c12 : o = 12
  · rw [if_pos c12]; exact ex_stands a1
  rw [if_neg c12]
  by_cases c13 : o = 13
  · rw [if_pos c13]; exact ex_hears a1 a2
  rw [if_neg c13]
  by_cases c14 : o = 14
  · rw [if_pos c14]; exact ex_heard a1 a2
  rw [if_neg c14]
  by_cases c15 : o = 15
  · rw [if_pos c15]; exact ex_ants a1 a2
  rw [if_neg c15]
  by_cases c16 : o = 16
  · rw [if_pos c16]; exact ex_piece a1
  rw [if_neg c16]
  by_cases c17 : o = 17
  · rw [if_pos c17]; exact ex_plate a1 a2
  rw [if_neg c17]
  by_cases c18 : o = 18
  · rw [if_pos c18]; exact ex_dough a1
  rw [if_neg c18]
  by_cases c19 : o = 19
  · rw [if_pos c19]; exact ex_pans a1 a2
  rw [if_neg c19]
  by_cases c20 : o = 20
  · rw [if_pos c20]; exact ex_mortgage a1 a2 a3 a4
  rw [if_neg c20]
  by_cases c21 : o = 21
  · rw [if_pos c21]; exact ex_mark a1
  rw [if_neg c21]
  by_cases c22 : o = 22
  · rw [if_pos c22]; exact ex_measures a1
  rw [if_neg c22]
  by_cases c23 : o = 23
  · rw [if_pos c23]; exact ex_bite a1 a2
  rw [if_neg c23]
  by_cases c24 : o = 24
  · rw [if_pos c24]; exact ex_whose a1 a2
  rw [if_neg c24]
  by_cases c25 : o = 25
  · rw [if_pos c25]; exact ex_crumb a1
  rw [if_neg c25]
  by_cases c26 : o = 26
  · rw [if_pos c26]; exact ex_crumbs a1
  rw [if_neg c26]
  by_cases c27 : o = 27
  · rw [if_pos c27]; exact ex_loaf a1 a2
  rw [if_neg c27]
  by_cases c28 : o = 28
  · rw [if_pos c28]; exact ex_ovens a1
  rw [if_neg c28]
  by_cases c29 : o = 29
  · rw [if_pos c29]; exact ex_alone a1
  rw [if_neg c29]
  by_cases c30 : o = 30
  · rw [if_pos c30]; exact ex_heir a1 a2
  rw [if_neg c30]
  by_cases c31 : o = 31
  · rw [if_pos c31]; exact ex_line a1 a2
  rw [if_neg c31]
  by_cases c32 : o = 32
  · rw [if_pos c32]; exact ex_window a1
  rw [if_neg c32]
  by_cases c33 : o = 33
  · rw [if_pos c33]; exact ex_member a1 a2
  rw [if_neg c33]
  by_cases c34 : o = 34
  · rw [if_pos c34]; exact ex_council a1
  rw [if_neg c34]
  by_cases c35 : o = 35
  · rw [if_pos c35]; exact ex_game a1 a2
  rw [if_neg c35]
  by_cases c36 : o = 36
  · rw [if_pos c36]; exact ex_undo
  rw [if_neg c36]
  by_cases c37 : o = 37
  · rw [if_pos c37]; exact ex_image a1
  rw [if_neg c37]
  by_cases c38 : o = 38
  · rw [if_pos c38]; exact ex_look a1
  rw [if_neg c38]
  exact ⟨_, rfl⟩
