/-! SAFETY of a call on both sides -/
theorem law_c {h g : PH} (i : IM h) (ig : Inv g) (e : ∀ b, 104 ≤ b → g b = h b) : IM g := by
  refine ⟨ig, ?_, ?_⟩
  · unfold LawOK
    rw [e 113 (by decide), e 115 (by decide), e 116 (by decide), e 117 (by decide), e 118 (by decide), e 119 (by decide)]
    exact i.2.1
  · unfold LawImg
    rw [e 148 (by decide)]
    exact i.2.2
theorem gi_c {h g : PH} (gi : GI h) (e1 : g 102 = h 102) (e2 : g 103 = h 103) : GI g := by
  unfold GI
  rw [e1, e2]
  exact gi
/-- what a call does: both sides end, each leaves the other's cells -/
def CS (h h1 h2 : PH) : Prop := IM h2 ∧ GI h2 ∧ Inv h1 ∧ (∀ b, 104 ≤ b → h1 b = h b) ∧ ∀ b, b < 104 → h2 b = h1 b
theorem cs_mk {S T : List Nat} {h h1 h2 : PH} (i : IM h) (gi : GI h) (i1 : Inv h1) (f1 : Fr S h1 h) (hS : ∀ b, b ∈ S → b < 102) (i2 : IM h1 → IM h2) (f2 : Fr T h2 h1) (hT : ∀ b, b ∈ T → 104 ≤ b) : CS h h1 h2 := by
  have a1 : ∀ b, 102 ≤ b → h1 b = h b := fun b hb => f1 b (fun q => by have := hS b q; omega)
  have a2 : ∀ b, b < 104 → h2 b = h1 b := fun b hb => f2 b (fun q => by have := hT b q; omega)
  exact ⟨i2 (law_c i i1 (fun b hb => a1 b (by omega))), gi_c (gi_c gi (a1 102 (by decide)) (a1 103 (by decide))) (a2 102 (by decide)) (a2 103 (by decide)), i1, fun b hb => a1 b (by omega), a2⟩
theorem cs_state (a1 : Int32) (h : PH) (i : IM h) (gi : GI h) : ∃ rX h1 rm h2, mX_state a1 h = some (rX, h1) ∧ mm_state a1 h1 = some (rm, h2) ∧ CS h h1 h2 := by
  obtain ⟨⟨rX, h1⟩, e1, q1⟩ := sf_X_state a1 i.1
  have f1 := fpX_state a1 h e1
  have hS : ∀ b, b ∈ FPdX_state a1 → b < 102 := (by decide : ∀ b, b ∈ FPdX_state 0 → b < 102)
  have i1 : IM h1 := law_c i q1.2 (fun b hb => f1 b (fun q => by have := hS b q; omega))
  obtain ⟨⟨rm, h2⟩, e2, q⟩ := sf_m_state a1 i1
  exact ⟨rX, h1, rm, h2, e1, e2, cs_mk i gi q1.2 f1 hS (fun _ => q.2) (fpm_state a1 h1 e2) (show ∀ b, b ∈ FPdm_state a1 → 104 ≤ b from (by decide : ∀ b, b ∈ FPdm_state 0 → 104 ≤ b))⟩
theorem cs_house (a1 a2 a3 : Int32) (h : PH) (i : IM h) (gi : GI h) : ∃ rX h1 rm h2, mX_house a1 a2 a3 h = some (rX, h1) ∧ mm_house a1 a2 a3 h1 = some (rm, h2) ∧ CS h h1 h2 := by
  obtain ⟨⟨rX, h1⟩, e1, q1⟩ := sf_X_house a1 a2 a3 i.1
  have f1 := fpX_house a1 a2 a3 h e1
  have hS : ∀ b, b ∈ FPdX_house a1 a2 a3 → b < 102 := (by decide : ∀ b, b ∈ FPdX_house 0 0 0 → b < 102)
  have i1 : IM h1 := law_c i q1.2 (fun b hb => f1 b (fun q => by have := hS b q; omega))
  obtain ⟨⟨rm, h2⟩, e2, q⟩ := sf_m_house a1 a2 a3 i1
  exact ⟨rX, h1, rm, h2, e1, e2, cs_mk i gi q1.2 f1 hS (fun _ => q.2) (fpm_house a1 a2 a3 h1 e2) (show ∀ b, b ∈ FPdm_house a1 a2 a3 → 104 ≤ b from (by decide : ∀ b, b ∈ FPdm_house 0 0 0 → 104 ≤ b))⟩
theorem cs_set (a1 a2 a3 : Int32) (h : PH) (i : IM h) (gi : GI h) : ∃ rX h1 rm h2, mX_set a1 a2 a3 h = some (rX, h1) ∧ mm_set a1 a2 a3 h1 = some (rm, h2) ∧ CS h h1 h2 := by
  obtain ⟨⟨rX, h1⟩, e1, q1⟩ := sf_X_set a1 a2 a3 i.1
  have f1 := fpX_set a1 a2 a3 h e1
  have hS : ∀ b, b ∈ FPdX_set a1 a2 a3 → b < 102 := (by decide : ∀ b, b ∈ FPdX_set 0 0 0 → b < 102)
  have i1 : IM h1 := law_c i q1.2 (fun b hb => f1 b (fun q => by have := hS b q; omega))
  obtain ⟨⟨rm, h2⟩, e2, q⟩ := sf_m_set a1 a2 a3 i1
  exact ⟨rX, h1, rm, h2, e1, e2, cs_mk i gi q1.2 f1 hS (fun _ => q.2) (fpm_set a1 a2 a3 h1 e2) (show ∀ b, b ∈ FPdm_set a1 a2 a3 → 104 ≤ b from (by decide : ∀ b, b ∈ FPdm_set 0 0 0 → 104 ≤ b))⟩
theorem cs_act (a1 a2 a3 : Int32) (h : PH) (i : IM h) (gi : GI h) : ∃ rX h1 rm h2, mX_act a1 a2 a3 h = some (rX, h1) ∧ mm_act a1 a2 a3 h1 = some (rm, h2) ∧ CS h h1 h2 := by
  obtain ⟨⟨rX, h1⟩, e1, q1⟩ := sf_X_act a1 a2 a3 i.1
  have f1 := fpX_act a1 a2 a3 h e1
  have hS : ∀ b, b ∈ FPdX_act a1 a2 a3 → b < 102 := (by decide : ∀ b, b ∈ FPdX_act 0 0 0 → b < 102)
  have i1 : IM h1 := law_c i q1.2 (fun b hb => f1 b (fun q => by have := hS b q; omega))
  obtain ⟨⟨rm, h2⟩, e2, q⟩ := sf_m_act a1 a2 a3 i1
  exact ⟨rX, h1, rm, h2, e1, e2, cs_mk i gi q1.2 f1 hS (fun _ => q.2) (fpm_act a1 a2 a3 h1 e2) (show ∀ b, b ∈ FPdm_act a1 a2 a3 → 104 ≤ b from (by decide : ∀ b, b ∈ FPdm_act 0 0 0 → 104 ≤ b))⟩
theorem cs_quarters (a1 : Int32) (h : PH) (i : IM h) (gi : GI h) : ∃ rX h1 rm h2, mX_quarters a1 h = some (rX, h1) ∧ mm_quarters a1 h1 = some (rm, h2) ∧ CS h h1 h2 := by
  obtain ⟨⟨rX, h1⟩, e1, q1⟩ := sf_X_quarters a1 i.1
  have f1 := fpX_quarters a1 h e1
  have hS : ∀ b, b ∈ FPdX_quarters a1 → b < 102 := (by decide : ∀ b, b ∈ FPdX_quarters 0 → b < 102)
  have i1 : IM h1 := law_c i q1.2 (fun b hb => f1 b (fun q => by have := hS b q; omega))
  obtain ⟨⟨rm, h2⟩, e2, q⟩ := sf_m_quarters a1 i1
  exact ⟨rX, h1, rm, h2, e1, e2, cs_mk i gi q1.2 f1 hS (fun _ => q.2) (fpm_quarters a1 h1 e2) (show ∀ b, b ∈ FPdm_quarters a1 → 104 ≤ b from (by decide : ∀ b, b ∈ FPdm_quarters 0 → 104 ≤ b))⟩
theorem cs_feed (a1 a2 a3 a4 a5 : Int32) (h : PH) (i : IM h) (gi : GI h) : ∃ rX h1 rm h2, mX_feed a1 a2 a3 a4 a5 h = some (rX, h1) ∧ mm_feed a1 a2 a3 a4 a5 h1 = some (rm, h2) ∧ CS h h1 h2 := by
  obtain ⟨⟨rX, h1⟩, e1, q1⟩ := sf_X_feed a1 a2 a3 a4 a5 i.1
  have f1 := fpX_feed a1 a2 a3 a4 a5 h e1
  have hS : ∀ b, b ∈ FPdX_feed a1 a2 a3 a4 a5 → b < 102 := (by decide : ∀ b, b ∈ FPdX_feed 0 0 0 0 0 → b < 102)
  have i1 : IM h1 := law_c i q1.2 (fun b hb => f1 b (fun q => by have := hS b q; omega))
  obtain ⟨⟨rm, h2⟩, e2, q⟩ := sf_m_feed a1 a2 a3 a4 a5 i1
  exact ⟨rX, h1, rm, h2, e1, e2, cs_mk i gi q1.2 f1 hS (fun _ => q.2) (fpm_feed a1 a2 a3 a4 a5 h1 e2) (show ∀ b, b ∈ FPdm_feed a1 a2 a3 a4 a5 → 104 ≤ b from (by decide : ∀ b, b ∈ FPdm_feed 0 0 0 0 0 → 104 ≤ b))⟩
theorem cs_end (a1 : Int32) (h : PH) (i : IM h) (gi : GI h) : ∃ rX h1 rm h2, mX_end a1 h = some (rX, h1) ∧ mm_end a1 h1 = some (rm, h2) ∧ CS h h1 h2 := by
  obtain ⟨⟨rX, h1⟩, e1, q1⟩ := sf_X_end a1 i.1
  have f1 := fpX_end a1 h e1
  have hS : ∀ b, b ∈ FPdX_end a1 → b < 102 := (by decide : ∀ b, b ∈ FPdX_end 0 → b < 102)
  have i1 : IM h1 := law_c i q1.2 (fun b hb => f1 b (fun q => by have := hS b q; omega))
  obtain ⟨⟨rm, h2⟩, e2, q⟩ := sf_m_end a1 i1
  exact ⟨rX, h1, rm, h2, e1, e2, cs_mk i gi q1.2 f1 hS (fun _ => q.2) (fpm_end a1 h1 e2) (show ∀ b, b ∈ FPdm_end a1 → 104 ≤ b from (by decide : ∀ b, b ∈ FPdm_end 0 → 104 ≤ b))⟩
theorem cs_text (a1 : Int32) (h : PH) (i : IM h) (gi : GI h) : ∃ rX h1 rm h2, mX_text a1 h = some (rX, h1) ∧ mm_text a1 h1 = some (rm, h2) ∧ CS h h1 h2 := by
  obtain ⟨⟨rX, h1⟩, e1, q1⟩ := sf_X_text a1 i.1
  have f1 := fpX_text a1 h e1
  have hS : ∀ b, b ∈ FPdX_text a1 → b < 102 := (by decide : ∀ b, b ∈ FPdX_text 0 → b < 102)
  have i1 : IM h1 := law_c i q1.2 (fun b hb => f1 b (fun q => by have := hS b q; omega))
  obtain ⟨⟨rm, h2⟩, e2, q⟩ := sf_m_text a1 i1
  exact ⟨rX, h1, rm, h2, e1, e2, cs_mk i gi q1.2 f1 hS (fun _ => q) (fpm_text a1 h1 e2) (show ∀ b, b ∈ FPdm_text a1 → 104 ≤ b from (by decide : ∀ b, b ∈ FPdm_text 0 → 104 ≤ b))⟩
theorem cs_fault (a1 : Int32) (h : PH) (i : IM h) (gi : GI h) : ∃ rX rm h2, mX_fault a1 h = some rX ∧ mm_fault a1 h = some (rm, h2) ∧ CS h h h2 := by
  obtain ⟨rX, e1, -⟩ := sf_X_fault a1 i.1
  obtain ⟨⟨rm, h2⟩, e2, q⟩ := sf_m_fault a1 i
  exact ⟨rX, rm, h2, e1, e2, cs_mk (S := []) i gi i.1 (fun _ _ => rfl) (fun b q => absurd q (List.not_mem_nil)) (fun _ => q.2) (fpm_fault a1 h e2) (show ∀ b, b ∈ FPdm_fault a1 → 104 ≤ b from (by decide : ∀ b, b ∈ FPdm_fault 0 → 104 ≤ b))⟩
theorem cs_of (a1 a2 : Int32) (h : PH) (i : IM h) (gi : GI h) : ∃ rX h1 rm h2, mX_of a1 a2 h = some (rX, h1) ∧ mm_of a1 a2 h1 = some (rm, h2) ∧ CS h h1 h2 := by
  obtain ⟨⟨rX, h1⟩, e1, q1⟩ := sf_X_of a1 a2 i.1
  have f1 := fpX_of a1 a2 h e1
  have hS : ∀ b, b ∈ FPdX_of a1 a2 → b < 102 := (by decide : ∀ b, b ∈ FPdX_of 0 0 → b < 102)
  have i1 : IM h1 := law_c i q1.2 (fun b hb => f1 b (fun q => by have := hS b q; omega))
  obtain ⟨⟨rm, h2⟩, e2, q⟩ := sf_m_of a1 a2 i1
  exact ⟨rX, h1, rm, h2, e1, e2, cs_mk i gi q1.2 f1 hS (fun _ => q.2) (fpm_of a1 a2 h1 e2) (show ∀ b, b ∈ FPdm_of a1 a2 → 104 ≤ b from (by decide : ∀ b, b ∈ FPdm_of 0 0 → 104 ≤ b))⟩
theorem cs_book (a1 a2 : Int32) (h : PH) (i : IM h) (gi : GI h) : ∃ rX rm h2, mX_book a1 a2 h = some rX ∧ mm_book a1 a2 h = some (rm, h2) ∧ CS h h h2 := by
  obtain ⟨rX, e1, -⟩ := sf_X_book a1 a2 i.1
  obtain ⟨⟨rm, h2⟩, e2, q⟩ := sf_m_book a1 a2 i
  exact ⟨rX, rm, h2, e1, e2, cs_mk (S := []) i gi i.1 (fun _ _ => rfl) (fun b q => absurd q (List.not_mem_nil)) (fun _ => q.2) (fpm_book a1 a2 h e2) (show ∀ b, b ∈ FPdm_book a1 a2 → 104 ≤ b from (by decide : ∀ b, b ∈ FPdm_book 0 0 → 104 ≤ b))⟩
theorem cs_goes (a1 a2 : Int32) (h : PH) (i : IM h) (gi : GI h) : ∃ rX h1 rm h2, mX_goes a1 a2 h = some (rX, h1) ∧ mm_goes a1 a2 h1 = some (rm, h2) ∧ CS h h1 h2 := by
  obtain ⟨⟨rX, h1⟩, e1, q1⟩ := sf_X_goes a1 a2 i.1
  have f1 := fpX_goes a1 a2 h e1
  have hS : ∀ b, b ∈ FPdX_goes a1 a2 → b < 102 := (by decide : ∀ b, b ∈ FPdX_goes 0 0 → b < 102)
  have i1 : IM h1 := law_c i q1.2 (fun b hb => f1 b (fun q => by have := hS b q; omega))
  obtain ⟨⟨rm, h2⟩, e2, q⟩ := sf_m_goes a1 a2 i1
  exact ⟨rX, h1, rm, h2, e1, e2, cs_mk i gi q1.2 f1 hS (fun _ => q.2) (fpm_goes a1 a2 h1 e2) (show ∀ b, b ∈ FPdm_goes a1 a2 → 104 ≤ b from (by decide : ∀ b, b ∈ FPdm_goes 0 0 → 104 ≤ b))⟩
theorem cs_stands (a1 : Int32) (h : PH) (i : IM h) (gi : GI h) : ∃ rX h1 rm h2, mX_stands a1 h = some (rX, h1) ∧ mm_stands a1 h1 = some (rm, h2) ∧ CS h h1 h2 := by
  obtain ⟨⟨rX, h1⟩, e1, q1⟩ := sf_X_stands a1 i.1
  have f1 := fpX_stands a1 h e1
  have hS : ∀ b, b ∈ FPdX_stands a1 → b < 102 := (by decide : ∀ b, b ∈ FPdX_stands 0 → b < 102)
  have i1 : IM h1 := law_c i q1.2 (fun b hb => f1 b (fun q => by have := hS b q; omega))
  obtain ⟨⟨rm, h2⟩, e2, q⟩ := sf_m_stands a1 i1
  exact ⟨rX, h1, rm, h2, e1, e2, cs_mk i gi q1.2 f1 hS (fun _ => q.2) (fpm_stands a1 h1 e2) (show ∀ b, b ∈ FPdm_stands a1 → 104 ≤ b from (by decide : ∀ b, b ∈ FPdm_stands 0 → 104 ≤ b))⟩
theorem cs_hears (a1 a2 : Int32) (h : PH) (i : IM h) (gi : GI h) : ∃ rX h1 rm h2, mX_hears a1 a2 h = some (rX, h1) ∧ mm_hears a1 a2 h1 = some (rm, h2) ∧ CS h h1 h2 := by
  obtain ⟨⟨rX, h1⟩, e1, q1⟩ := sf_X_hears a1 a2 i.1
  have f1 := fpX_hears a1 a2 h e1
  have hS : ∀ b, b ∈ FPdX_hears a1 a2 → b < 102 := (by decide : ∀ b, b ∈ FPdX_hears 0 0 → b < 102)
  have i1 : IM h1 := law_c i q1.2 (fun b hb => f1 b (fun q => by have := hS b q; omega))
  obtain ⟨⟨rm, h2⟩, e2, q⟩ := sf_m_hears a1 a2 i1
  exact ⟨rX, h1, rm, h2, e1, e2, cs_mk i gi q1.2 f1 hS (fun _ => q.2) (fpm_hears a1 a2 h1 e2) (show ∀ b, b ∈ FPdm_hears a1 a2 → 104 ≤ b from (by decide : ∀ b, b ∈ FPdm_hears 0 0 → 104 ≤ b))⟩
theorem cs_heard (a1 a2 : Int32) (h : PH) (i : IM h) (gi : GI h) : ∃ rX h1 rm h2, mX_heard a1 a2 h = some (rX, h1) ∧ mm_heard a1 a2 h1 = some (rm, h2) ∧ CS h h1 h2 := by
  obtain ⟨⟨rX, h1⟩, e1, q1⟩ := sf_X_heard a1 a2 i.1
  have f1 := fpX_heard a1 a2 h e1
  have hS : ∀ b, b ∈ FPdX_heard a1 a2 → b < 102 := (by decide : ∀ b, b ∈ FPdX_heard 0 0 → b < 102)
  have i1 : IM h1 := law_c i q1.2 (fun b hb => f1 b (fun q => by have := hS b q; omega))
  obtain ⟨⟨rm, h2⟩, e2, q⟩ := sf_m_heard a1 a2 i1
  exact ⟨rX, h1, rm, h2, e1, e2, cs_mk i gi q1.2 f1 hS (fun _ => q.2) (fpm_heard a1 a2 h1 e2) (show ∀ b, b ∈ FPdm_heard a1 a2 → 104 ≤ b from (by decide : ∀ b, b ∈ FPdm_heard 0 0 → 104 ≤ b))⟩
theorem cs_ants (a1 a2 : Int32) (h : PH) (i : IM h) (gi : GI h) : ∃ rX h1 rm h2, mX_ants a1 a2 h = some (rX, h1) ∧ mm_ants a1 a2 h1 = some (rm, h2) ∧ CS h h1 h2 := by
  obtain ⟨⟨rX, h1⟩, e1, q1⟩ := sf_X_ants a1 a2 i.1
  have f1 := fpX_ants a1 a2 h e1
  have hS : ∀ b, b ∈ FPdX_ants a1 a2 → b < 102 := (by decide : ∀ b, b ∈ FPdX_ants 0 0 → b < 102)
  have i1 : IM h1 := law_c i q1.2 (fun b hb => f1 b (fun q => by have := hS b q; omega))
  obtain ⟨⟨rm, h2⟩, e2, q⟩ := sf_m_ants a1 a2 i1
  exact ⟨rX, h1, rm, h2, e1, e2, cs_mk i gi q1.2 f1 hS (fun _ => q.2) (fpm_ants a1 a2 h1 e2) (show ∀ b, b ∈ FPdm_ants a1 a2 → 104 ≤ b from (by decide : ∀ b, b ∈ FPdm_ants 0 0 → 104 ≤ b))⟩
theorem cs_piece (a1 : Int32) (h : PH) (i : IM h) (gi : GI h) : ∃ rX h1 rm h2, mX_piece a1 h = some (rX, h1) ∧ mm_piece a1 h1 = some (rm, h2) ∧ CS h h1 h2 := by
  obtain ⟨⟨rX, h1⟩, e1, q1⟩ := sf_X_piece a1 i.1
  have f1 := fpX_piece a1 h e1
  have hS : ∀ b, b ∈ FPdX_piece a1 → b < 102 := (by decide : ∀ b, b ∈ FPdX_piece 0 → b < 102)
  have i1 : IM h1 := law_c i q1.2 (fun b hb => f1 b (fun q => by have := hS b q; omega))
  obtain ⟨⟨rm, h2⟩, e2, q⟩ := sf_m_piece a1 i1
  exact ⟨rX, h1, rm, h2, e1, e2, cs_mk i gi q1.2 f1 hS (fun _ => q.2) (fpm_piece a1 h1 e2) (show ∀ b, b ∈ FPdm_piece a1 → 104 ≤ b from (by decide : ∀ b, b ∈ FPdm_piece 0 → 104 ≤ b))⟩
theorem cs_plate (a1 a2 : Int32) (h : PH) (i : IM h) (gi : GI h) : ∃ rX rm h2, mX_plate a1 a2 h = some rX ∧ mm_plate a1 a2 h = some (rm, h2) ∧ CS h h h2 := by
  obtain ⟨rX, e1, -⟩ := sf_X_plate a1 a2 i.1
  obtain ⟨⟨rm, h2⟩, e2, q⟩ := sf_m_plate a1 a2 i
  exact ⟨rX, rm, h2, e1, e2, cs_mk (S := []) i gi i.1 (fun _ _ => rfl) (fun b q => absurd q (List.not_mem_nil)) (fun _ => q.2) (fpm_plate a1 a2 h e2) (show ∀ b, b ∈ FPdm_plate a1 a2 → 104 ≤ b from (by decide : ∀ b, b ∈ FPdm_plate 0 0 → 104 ≤ b))⟩
theorem cs_dough (a1 : Int32) (h : PH) (i : IM h) (gi : GI h) : ∃ rX h1 rm h2, mX_dough a1 h = some (rX, h1) ∧ mm_dough a1 h1 = some (rm, h2) ∧ CS h h1 h2 := by
  obtain ⟨⟨rX, h1⟩, e1, q1⟩ := sf_X_dough a1 i.1
  have f1 := fpX_dough a1 h e1
  have hS : ∀ b, b ∈ FPdX_dough a1 → b < 102 := (by decide : ∀ b, b ∈ FPdX_dough 0 → b < 102)
  have i1 : IM h1 := law_c i q1.2 (fun b hb => f1 b (fun q => by have := hS b q; omega))
  obtain ⟨⟨rm, h2⟩, e2, q⟩ := sf_m_dough a1 i1
  exact ⟨rX, h1, rm, h2, e1, e2, cs_mk i gi q1.2 f1 hS (fun _ => q.2) (fpm_dough a1 h1 e2) (show ∀ b, b ∈ FPdm_dough a1 → 104 ≤ b from (by decide : ∀ b, b ∈ FPdm_dough 0 → 104 ≤ b))⟩
theorem cs_pans (a1 a2 : Int32) (h : PH) (i : IM h) (gi : GI h) : ∃ rX h1 rm h2, mX_pans a1 a2 h = some (rX, h1) ∧ mm_pans a1 a2 h1 = some (rm, h2) ∧ CS h h1 h2 := by
  obtain ⟨⟨rX, h1⟩, e1, q1⟩ := sf_X_pans a1 a2 i.1
  have f1 := fpX_pans a1 a2 h e1
  have hS : ∀ b, b ∈ FPdX_pans a1 a2 → b < 102 := (by decide : ∀ b, b ∈ FPdX_pans 0 0 → b < 102)
  have i1 : IM h1 := law_c i q1.2 (fun b hb => f1 b (fun q => by have := hS b q; omega))
  obtain ⟨⟨rm, h2⟩, e2, q⟩ := sf_m_pans a1 a2 i1
  exact ⟨rX, h1, rm, h2, e1, e2, cs_mk i gi q1.2 f1 hS (fun _ => q.2) (fpm_pans a1 a2 h1 e2) (show ∀ b, b ∈ FPdm_pans a1 a2 → 104 ≤ b from (by decide : ∀ b, b ∈ FPdm_pans 0 0 → 104 ≤ b))⟩
theorem cs_mortgage (a1 a2 a3 a4 : Int32) (h : PH) (i : IM h) (gi : GI h) : ∃ rX rm h2, mX_mortgage a1 a2 a3 a4 h = some rX ∧ mm_mortgage a1 a2 a3 a4 h = some (rm, h2) ∧ CS h h h2 := by
  obtain ⟨rX, e1, -⟩ := sf_X_mortgage a1 a2 a3 a4 i.1
  obtain ⟨⟨rm, h2⟩, e2, q⟩ := sf_m_mortgage a1 a2 a3 a4 i
  exact ⟨rX, rm, h2, e1, e2, cs_mk (S := []) i gi i.1 (fun _ _ => rfl) (fun b q => absurd q (List.not_mem_nil)) (fun _ => q.2) (fpm_mortgage a1 a2 a3 a4 h e2) (show ∀ b, b ∈ FPdm_mortgage a1 a2 a3 a4 → 104 ≤ b from (by decide : ∀ b, b ∈ FPdm_mortgage 0 0 0 0 → 104 ≤ b))⟩
theorem cs_mark (a1 : Int32) (h : PH) (i : IM h) (gi : GI h) : ∃ rX h1 rm h2, mX_mark a1 h = some (rX, h1) ∧ mm_mark a1 h1 = some (rm, h2) ∧ CS h h1 h2 := by
  obtain ⟨⟨rX, h1⟩, e1, q1⟩ := sf_X_mark a1 i.1
  have f1 := fpX_mark a1 h e1
  have hS : ∀ b, b ∈ FPdX_mark a1 → b < 102 := (by decide : ∀ b, b ∈ FPdX_mark 0 → b < 102)
  have i1 : IM h1 := law_c i q1.2 (fun b hb => f1 b (fun q => by have := hS b q; omega))
  obtain ⟨⟨rm, h2⟩, e2, q⟩ := sf_m_mark a1 i1
  exact ⟨rX, h1, rm, h2, e1, e2, cs_mk i gi q1.2 f1 hS (fun _ => q.2) (fpm_mark a1 h1 e2) (show ∀ b, b ∈ FPdm_mark a1 → 104 ≤ b from (by decide : ∀ b, b ∈ FPdm_mark 0 → 104 ≤ b))⟩
theorem cs_measures (a1 : Int32) (h : PH) (i : IM h) (gi : GI h) : ∃ rX rm h2, mX_measures a1 h = some rX ∧ mm_measures a1 h = some (rm, h2) ∧ CS h h h2 := by
  obtain ⟨rX, e1, -⟩ := sf_X_measures a1 i.1
  obtain ⟨⟨rm, h2⟩, e2, q⟩ := sf_m_measures a1 i
  exact ⟨rX, rm, h2, e1, e2, cs_mk (S := []) i gi i.1 (fun _ _ => rfl) (fun b q => absurd q (List.not_mem_nil)) (fun _ => q.2) (fpm_measures a1 h e2) (show ∀ b, b ∈ FPdm_measures a1 → 104 ≤ b from (by decide : ∀ b, b ∈ FPdm_measures 0 → 104 ≤ b))⟩
theorem cs_bite (a1 a2 : Int32) (h : PH) (i : IM h) (gi : GI h) : ∃ rX h1 rm h2, mX_bite a1 a2 h = some (rX, h1) ∧ mm_bite a1 a2 h1 = some (rm, h2) ∧ CS h h1 h2 := by
  obtain ⟨⟨rX, h1⟩, e1, q1⟩ := sf_X_bite a1 a2 i.1
  have f1 := fpX_bite a1 a2 h e1
  have hS : ∀ b, b ∈ FPdX_bite a1 a2 → b < 102 := (by decide : ∀ b, b ∈ FPdX_bite 0 0 → b < 102)
  have i1 : IM h1 := law_c i q1.2 (fun b hb => f1 b (fun q => by have := hS b q; omega))
  obtain ⟨⟨rm, h2⟩, e2, q⟩ := sf_m_bite a1 a2 i1
  exact ⟨rX, h1, rm, h2, e1, e2, cs_mk i gi q1.2 f1 hS (fun _ => q.2) (fpm_bite a1 a2 h1 e2) (show ∀ b, b ∈ FPdm_bite a1 a2 → 104 ≤ b from (by decide : ∀ b, b ∈ FPdm_bite 0 0 → 104 ≤ b))⟩
theorem cs_whose (a1 a2 : Int32) (h : PH) (i : IM h) (gi : GI h) : ∃ rX rm h2, mX_whose a1 a2 h = some rX ∧ mm_whose a1 a2 h = some (rm, h2) ∧ CS h h h2 := by
  obtain ⟨rX, e1, -⟩ := sf_X_whose a1 a2 i.1
  obtain ⟨⟨rm, h2⟩, e2, q⟩ := sf_m_whose a1 a2 i
  exact ⟨rX, rm, h2, e1, e2, cs_mk (S := []) i gi i.1 (fun _ _ => rfl) (fun b q => absurd q (List.not_mem_nil)) (fun _ => q.2) (fpm_whose a1 a2 h e2) (show ∀ b, b ∈ FPdm_whose a1 a2 → 104 ≤ b from (by decide : ∀ b, b ∈ FPdm_whose 0 0 → 104 ≤ b))⟩
theorem cs_crumb (a1 : Int32) (h : PH) (i : IM h) (gi : GI h) : ∃ rX h1 rm h2, mX_crumb a1 h = some (rX, h1) ∧ mm_crumb a1 h1 = some (rm, h2) ∧ CS h h1 h2 := by
  obtain ⟨⟨rX, h1⟩, e1, q1⟩ := sf_X_crumb a1 i.1
  have f1 := fpX_crumb a1 h e1
  have hS : ∀ b, b ∈ FPdX_crumb a1 → b < 102 := (by decide : ∀ b, b ∈ FPdX_crumb 0 → b < 102)
  have i1 : IM h1 := law_c i q1.2 (fun b hb => f1 b (fun q => by have := hS b q; omega))
  obtain ⟨⟨rm, h2⟩, e2, q⟩ := sf_m_crumb a1 i1
  exact ⟨rX, h1, rm, h2, e1, e2, cs_mk i gi q1.2 f1 hS (fun _ => q.2) (fpm_crumb a1 h1 e2) (show ∀ b, b ∈ FPdm_crumb a1 → 104 ≤ b from (by decide : ∀ b, b ∈ FPdm_crumb 0 → 104 ≤ b))⟩
theorem cs_crumbs (a1 : Int32) (h : PH) (i : IM h) (gi : GI h) : ∃ rX h1 rm h2, mX_crumbs a1 h = some (rX, h1) ∧ mm_crumbs a1 h1 = some (rm, h2) ∧ CS h h1 h2 := by
  obtain ⟨⟨rX, h1⟩, e1, q1⟩ := sf_X_crumbs a1 i.1
  have f1 := fpX_crumbs a1 h e1
  have hS : ∀ b, b ∈ FPdX_crumbs a1 → b < 102 := (by decide : ∀ b, b ∈ FPdX_crumbs 0 → b < 102)
  have i1 : IM h1 := law_c i q1.2 (fun b hb => f1 b (fun q => by have := hS b q; omega))
  obtain ⟨⟨rm, h2⟩, e2, q⟩ := sf_m_crumbs a1 i1
  exact ⟨rX, h1, rm, h2, e1, e2, cs_mk i gi q1.2 f1 hS (fun _ => q.2) (fpm_crumbs a1 h1 e2) (show ∀ b, b ∈ FPdm_crumbs a1 → 104 ≤ b from (by decide : ∀ b, b ∈ FPdm_crumbs 0 → 104 ≤ b))⟩
theorem cs_loaf (a1 a2 : Int32) (h : PH) (i : IM h) (gi : GI h) : ∃ rX h1 rm h2, mX_loaf a1 a2 h = some (rX, h1) ∧ mm_loaf a1 a2 h1 = some (rm, h2) ∧ CS h h1 h2 := by
  obtain ⟨⟨rX, h1⟩, e1, q1⟩ := sf_X_loaf a1 a2 i.1
  have f1 := fpX_loaf a1 a2 h e1
  have hS : ∀ b, b ∈ FPdX_loaf a1 a2 → b < 102 := (by decide : ∀ b, b ∈ FPdX_loaf 0 0 → b < 102)
  have i1 : IM h1 := law_c i q1.2 (fun b hb => f1 b (fun q => by have := hS b q; omega))
  obtain ⟨⟨rm, h2⟩, e2, q⟩ := sf_m_loaf a1 a2 i1
  exact ⟨rX, h1, rm, h2, e1, e2, cs_mk i gi q1.2 f1 hS (fun _ => q.2) (fpm_loaf a1 a2 h1 e2) (show ∀ b, b ∈ FPdm_loaf a1 a2 → 104 ≤ b from (by decide : ∀ b, b ∈ FPdm_loaf 0 0 → 104 ≤ b))⟩
theorem cs_ovens (a1 : Int32) (h : PH) (i : IM h) (gi : GI h) : ∃ rX rm h2, mX_ovens a1 h = some rX ∧ mm_ovens a1 h = some (rm, h2) ∧ CS h h h2 := by
  obtain ⟨rX, e1, -⟩ := sf_X_ovens a1 i.1
  obtain ⟨⟨rm, h2⟩, e2, q⟩ := sf_m_ovens a1 i
  exact ⟨rX, rm, h2, e1, e2, cs_mk (S := []) i gi i.1 (fun _ _ => rfl) (fun b q => absurd q (List.not_mem_nil)) (fun _ => q.2) (fpm_ovens a1 h e2) (show ∀ b, b ∈ FPdm_ovens a1 → 104 ≤ b from (by decide : ∀ b, b ∈ FPdm_ovens 0 → 104 ≤ b))⟩
theorem cs_alone (a1 : Int32) (h : PH) (i : IM h) (gi : GI h) : ∃ rX h1 rm h2, mX_alone a1 h = some (rX, h1) ∧ mm_alone a1 h1 = some (rm, h2) ∧ CS h h1 h2 := by
  obtain ⟨⟨rX, h1⟩, e1, q1⟩ := sf_X_alone a1 i.1
  have f1 := fpX_alone a1 h e1
  have hS : ∀ b, b ∈ FPdX_alone a1 → b < 102 := (by decide : ∀ b, b ∈ FPdX_alone 0 → b < 102)
  have i1 : IM h1 := law_c i q1.2 (fun b hb => f1 b (fun q => by have := hS b q; omega))
  obtain ⟨⟨rm, h2⟩, e2, q⟩ := sf_m_alone a1 i1
  exact ⟨rX, h1, rm, h2, e1, e2, cs_mk i gi q1.2 f1 hS (fun _ => q.2) (fpm_alone a1 h1 e2) (show ∀ b, b ∈ FPdm_alone a1 → 104 ≤ b from (by decide : ∀ b, b ∈ FPdm_alone 0 → 104 ≤ b))⟩
theorem cs_heir (a1 a2 : Int32) (h : PH) (i : IM h) (gi : GI h) : ∃ rX h1 rm h2, mX_heir a1 a2 h = some (rX, h1) ∧ mm_heir a1 a2 h1 = some (rm, h2) ∧ CS h h1 h2 := by
  obtain ⟨⟨rX, h1⟩, e1, q1⟩ := sf_X_heir a1 a2 i.1
  have f1 := fpX_heir a1 a2 h e1
  have hS : ∀ b, b ∈ FPdX_heir a1 a2 → b < 102 := (by decide : ∀ b, b ∈ FPdX_heir 0 0 → b < 102)
  have i1 : IM h1 := law_c i q1.2 (fun b hb => f1 b (fun q => by have := hS b q; omega))
  obtain ⟨⟨rm, h2⟩, e2, q⟩ := sf_m_heir a1 a2 i1
  exact ⟨rX, h1, rm, h2, e1, e2, cs_mk i gi q1.2 f1 hS (fun _ => q.2) (fpm_heir a1 a2 h1 e2) (show ∀ b, b ∈ FPdm_heir a1 a2 → 104 ≤ b from (by decide : ∀ b, b ∈ FPdm_heir 0 0 → 104 ≤ b))⟩
theorem cs_line (a1 a2 : Int32) (h : PH) (i : IM h) (gi : GI h) : ∃ rX rm h2, mX_line a1 a2 h = some rX ∧ mm_line a1 a2 h = some (rm, h2) ∧ CS h h h2 := by
  obtain ⟨rX, e1, -⟩ := sf_X_line a1 a2 i.1
  obtain ⟨⟨rm, h2⟩, e2, q⟩ := sf_m_line a1 a2 i
  exact ⟨rX, rm, h2, e1, e2, cs_mk (S := []) i gi i.1 (fun _ _ => rfl) (fun b q => absurd q (List.not_mem_nil)) (fun _ => q.2) (fpm_line a1 a2 h e2) (show ∀ b, b ∈ FPdm_line a1 a2 → 104 ≤ b from (by decide : ∀ b, b ∈ FPdm_line 0 0 → 104 ≤ b))⟩
theorem cs_window (a1 : Int32) (h : PH) (i : IM h) (gi : GI h) : ∃ rX rm h2, mX_window a1 h = some rX ∧ mm_window a1 h = some (rm, h2) ∧ CS h h h2 := by
  obtain ⟨rX, e1, -⟩ := sf_X_window a1 i.1
  obtain ⟨⟨rm, h2⟩, e2, q⟩ := sf_m_window a1 i
  exact ⟨rX, rm, h2, e1, e2, cs_mk (S := []) i gi i.1 (fun _ _ => rfl) (fun b q => absurd q (List.not_mem_nil)) (fun _ => q.2) (fpm_window a1 h e2) (show ∀ b, b ∈ FPdm_window a1 → 104 ≤ b from (by decide : ∀ b, b ∈ FPdm_window 0 → 104 ≤ b))⟩
theorem cs_member (a1 a2 : Int32) (h : PH) (i : IM h) (gi : GI h) : ∃ rX h1 rm h2, mX_member a1 a2 h = some (rX, h1) ∧ mm_member a1 a2 h1 = some (rm, h2) ∧ CS h h1 h2 := by
  obtain ⟨⟨rX, h1⟩, e1, q1⟩ := sf_X_member a1 a2 i.1
  have f1 := fpX_member a1 a2 h e1
  have hS : ∀ b, b ∈ FPdX_member a1 a2 → b < 102 := (by decide : ∀ b, b ∈ FPdX_member 0 0 → b < 102)
  have i1 : IM h1 := law_c i q1.2 (fun b hb => f1 b (fun q => by have := hS b q; omega))
  obtain ⟨⟨rm, h2⟩, e2, q⟩ := sf_m_member a1 a2 i1
  exact ⟨rX, h1, rm, h2, e1, e2, cs_mk i gi q1.2 f1 hS (fun _ => q.2) (fpm_member a1 a2 h1 e2) (show ∀ b, b ∈ FPdm_member a1 a2 → 104 ≤ b from (by decide : ∀ b, b ∈ FPdm_member 0 0 → 104 ≤ b))⟩
theorem cs_council (a1 : Int32) (h : PH) (i : IM h) (gi : GI h) : ∃ rX rm h2, mX_council a1 h = some rX ∧ mm_council a1 h = some (rm, h2) ∧ CS h h h2 := by
  obtain ⟨rX, e1, -⟩ := sf_X_council a1 i.1
  obtain ⟨⟨rm, h2⟩, e2, q⟩ := sf_m_council a1 i
  exact ⟨rX, rm, h2, e1, e2, cs_mk (S := []) i gi i.1 (fun _ _ => rfl) (fun b q => absurd q (List.not_mem_nil)) (fun _ => q.2) (fpm_council a1 h e2) (show ∀ b, b ∈ FPdm_council a1 → 104 ≤ b from (by decide : ∀ b, b ∈ FPdm_council 0 → 104 ≤ b))⟩
theorem cs_game (a1 a2 : Int32) (h : PH) (i : IM h) (gi : GI h) : ∃ rX h1 rm h2, mX_game a1 a2 h = some (rX, h1) ∧ mm_game a1 a2 h1 = some (rm, h2) ∧ CS h h1 h2 := by
  obtain ⟨⟨rX, h1⟩, e1, j1, j2, -, -⟩ := game_class a1 a2 h i.1 gi
  have f1 := fpX_game a1 a2 h e1
  have a1' : ∀ b, 104 ≤ b → h1 b = h b := fun b hb => f1 b (fun q => by have : ∀ b, b ∈ FPdX_game a1 a2 → b < 104 := (by decide : ∀ b, b ∈ FPdX_game 0 0 → b < 104); have := this b q; omega)
  obtain ⟨⟨rm, h2⟩, e2, k1, -, -⟩ := game_model a1 a2 h1 (law_c i j1 a1')
  have f2 := fpm_game a1 a2 h1 e2
  have a2' : ∀ b, b < 104 → h2 b = h1 b := fun b hb => f2 b (fun q => by have : ∀ b, b ∈ FPdm_game a1 a2 → 104 ≤ b := (by decide : ∀ b, b ∈ FPdm_game 0 0 → 104 ≤ b); have := this b q; omega)
  exact ⟨rX, h1, rm, h2, e1, e2, k1, gi_c j2 (a2' 102 (by decide)) (a2' 103 (by decide)), j1, a1', a2'⟩
theorem cs_undo (h : PH) (i : IM h) (gi : GI h) : ∃ rX h1 rm h2, mX_undo h = some (rX, h1) ∧ mm_undo h1 = some (rm, h2) ∧ CS h h1 h2 := by
  obtain ⟨⟨rX, h1⟩, e1, q1⟩ := sf_X_undo i.1
  have f1 := fpX_undo h e1
  have hS : ∀ b, b ∈ FPdX_undo → b < 102 := (by decide : ∀ b, b ∈ FPdX_undo → b < 102)
  have i1 : IM h1 := law_c i q1.2 (fun b hb => f1 b (fun q => by have := hS b q; omega))
  obtain ⟨⟨rm, h2⟩, e2, q⟩ := sf_m_undo i1
  exact ⟨rX, h1, rm, h2, e1, e2, cs_mk i gi q1.2 f1 hS (fun _ => q.2) (fpm_undo h1 e2) (show ∀ b, b ∈ FPdm_undo → 104 ≤ b from (by decide : ∀ b, b ∈ FPdm_undo → 104 ≤ b))⟩
theorem cs_image (a1 : Int32) (h : PH) (i : IM h) (gi : GI h) : ∃ rX h1 rm h2, mX_image (if a1 = 0 then 0 else 1) h = some (rX, h1) ∧ mm_image (if a1 = 0 then 0 else 1) h1 = some (rm, h2) ∧ CS h h1 h2 := by
  obtain ⟨⟨rX, h1⟩, e1, q1⟩ := sf_X_image (if a1 = 0 then 0 else 1) i.1
  have f1 := fpX_image (if a1 = 0 then 0 else 1) h e1
  have hS : ∀ b, b ∈ FPdX_image (if a1 = 0 then 0 else 1) → b < 102 := (by decide : ∀ b, b ∈ FPdX_image 0 → b < 102)
  have i1 : IM h1 := law_c i q1.2 (fun b hb => f1 b (fun q => by have := hS b q; omega))
  obtain ⟨⟨rm, h2⟩, e2, q⟩ := sf_m_image (if a1 = 0 then 0 else 1) (by split; exact Or.inl rfl; exact Or.inr rfl) i1
  exact ⟨rX, h1, rm, h2, e1, e2, cs_mk i gi q1.2 f1 hS (fun _ => q.2) (fpm_image (if a1 = 0 then 0 else 1) h1 e2) (show ∀ b, b ∈ FPdm_image (if a1 = 0 then 0 else 1) → 104 ≤ b from (by decide : ∀ b, b ∈ FPdm_image 0 → 104 ≤ b))⟩
theorem cs_look (a1 : Int32) (h : PH) (i : IM h) (gi : GI h) : ∃ rX rm h2, mX_look a1 h = some rX ∧ mm_look a1 h = some (rm, h2) ∧ CS h h h2 := by
  obtain ⟨rX, e1, -⟩ := sf_X_look a1 i.1
  obtain ⟨⟨rm, h2⟩, e2, q⟩ := sf_m_look a1 i
  exact ⟨rX, rm, h2, e1, e2, cs_mk (S := []) i gi i.1 (fun _ _ => rfl) (fun b q => absurd q (List.not_mem_nil)) (fun _ => q.2) (fpm_look a1 h e2) (show ∀ b, b ∈ FPdm_look a1 → 104 ≤ b from (by decide : ∀ b, b ∈ FPdm_look 0 → 104 ≤ b))⟩
