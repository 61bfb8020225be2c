/-! SAFETY of the model's reader: a unit -/
/-- the reader's state: c codes are written, k more are owed to tokens that were read -/
def RS (c k : Nat) (h : PH) : Prop := IM h ∧ h 104 25 = nI c ∧ (h 104 12).toInt ≤ (h 104 11).toInt ∧ (h 104 13).toInt ≤ (h 104 12).toInt ∧ (h 104 14 = 0 ∨ (h 104 13).toInt + 1 ≤ (h 104 12).toInt) ∧ (c : Int) + (k : Int) ≤ (h 104 13).toInt
theorem rs_reads {c k : Nat} {h : PH} (i : IM h) (e : h 104 25 = nI c) (ht : (h 104 12).toInt ≤ (h 104 11).toInt) (hs : (c : Int) + (k : Int) ≤ (h 104 12).toInt) : Sf (mm_reads h) (fun g => RS c k g ∧ FR4 h g) := by
  refine s_w (sf_m_reads h i ht) (fun g q => ?_)
  obtain ⟨i2, fr, q1, q2, q3, q4⟩ := q
  exact ⟨⟨i2, by rw [fr.2 25 (by decide) (by decide) (by decide) (by decide)]; exact e, q3, q2, q4, by omega⟩, fr⟩
/-- what a piece of code leaves as it was -/
def FRc (c : Nat) (h g : PH) : Prop := (∀ b, b ≠ 104 → b ≠ 118 → b ≠ 119 → g b = h b) ∧ (∀ q, q < c → dOp g q = dOp h q ∧ dAr g q = dAr h q) ∧ ∀ j, j ≠ 12 → j ≠ 13 → j ≠ 14 → j ≠ 15 → j ≠ 25 → j ≠ 29 → j ≠ 30 → g 104 j = h 104 j
theorem frc_emit {h g : PH} {c : Nat} {x v : Int32} (fr : FR4 (emO h c x v) g) : FRc c h g := by
  refine ⟨fun b h1 h2 h3 => by rw [fr.1 b h1]; exact emO_b b h1 h2 h3, fun q hq => ?_, fun j h1 h2 h3 h4 h5 _ _ => by rw [fr.2 j h1 h2 h3 h4]; exact emO_104 h5⟩
  unfold dOp dAr
  rw [fr.1 118 (by decide), fr.1 119 (by decide)]
  exact emO_lo q hq
theorem sf_errs (p : Int32) {h : PH} (i : IM h) : Sf (mm_errs p h) (fun r => r.1 = -1 ∧ IM r.2) := by
  unfold mm_errs
  rw [lt_e, lt_e]
  exact s_some ⟨rfl, im_put (im_put i (show sp 104 29 = (-2147483648, 2147483647) from rfl) (r_full _) (by decide)) (show sp 104 30 = (-2147483648, 2147483647) from rfl) (r_full _) (by decide)⟩
def UnitQ (c k : Nat) (h : PH) (r : Int32 × PH) : Prop := (r.1 = -1 ∧ IM r.2) ∨ (r.1 = 0 ∧ RS (c + 1) k r.2 ∧ FRc c h r.2 ∧ (dOp r.2 c = 0 ∨ (dOp r.2 c = 1 ∧ 0 ≤ dAr r.2 c ∧ dAr r.2 c ≤ 11)) ∧ (h 104 14 = 3 → dOp r.2 c = 0 ∧ dAr r.2 c = h 104 15))
theorem unit_go {c k : Nat} {h : PH} (st : RS c k h) (nz : ¬ h 104 14 = 0) (x v : Int32) (hx : x = 0 ∨ (x = 1 ∧ 0 ≤ v ∧ v ≤ 11)) (h3 : h 104 14 = 3 → x = 0 ∧ v = h 104 15) : Sf (bd (mm_emits x v h) fun h8 => bd (mm_reads h8) fun h9 => some ((0 : Int32), h9)) (UnitQ c k h) := by
  obtain ⟨i, e, s1, s2, s3, s4⟩ := st
  have s5 : (h 104 13).toInt + 1 ≤ (h 104 12).toInt := by
    rcases s3 with q | q
    · exact absurd q nz
    · exact q
  have t4 := (rtp i).2
  rw [emits_at h c (by omega) e, bd_e]
  have e12 : emO h c x v 104 12 = h 104 12 := emO_104 (by decide)
  have e11 : emO h c x v 104 11 = h 104 11 := emO_104 (by decide)
  refine s_bd (rs_reads (c := c + 1) (k := k) (im_emO i c x v) emO_c (by rw [e12, e11]; exact s1) (by rw [e12]; omega)) (fun h9 q => ?_)
  obtain ⟨rs, fr⟩ := q
  have o1 : dOp h9 c = x ∧ dAr h9 c = v := by
    unfold dOp dAr
    rw [fr.1 118 (by decide), fr.1 119 (by decide)]
    exact emO_op
  refine s_some (Or.inr ⟨rfl, rs, frc_emit fr, ?_, fun q => ?_⟩)
  · show dOp h9 c = 0 ∨ _
    rw [o1.1, o1.2]; exact hx
  · show dOp h9 c = 0 ∧ dAr h9 c = _
    rw [o1.1, o1.2]; exact h3 q
theorem sf_m_readUnit {c k : Nat} {h : PH} (st : RS c k h) : Sf (mm_readUnit h) (UnitQ c k h) := by
  unfold mm_readUnit
  have err : Sf (bd2 (mm_errs 1 h) fun r10 h11 => some (r10, h11)) (UnitQ c k h) := s_bd2 (sf_errs 1 st.1) (fun r g q => s_some (Or.inl q))
  refine s_jn1 (P := fun x2 => x2 = 0 ∨ (x2 = 1 ∧ h 104 14 = 2 ∧ 7 ≤ h 104 15 ∧ h 104 15 ≤ 18)) (fun x2 hx => ?_) (fun j1 kj => ?_)
  · rcases hx with q | ⟨q, t2, v1, v2⟩
    · subst q
      rw [jn0_e, if_pos rfl]
      refine s_if (fun c3 => ?_) (fun _ => err)
      rw [jn1_e, if_pos rfl]
      dsimp only
      rw [jn1_e, if_pos rfl]
      dsimp only
      exact unit_go st (by rw [c3]; decide) 0 _ (Or.inl rfl) (fun _ => ⟨rfl, rfl⟩)
    · subst q
      have n1 : ¬ (1 : Int32) = 0 := by decide
      rw [jn0_e, if_neg n1, jn1_e, if_neg n1]
      dsimp only
      rw [jn1_e, if_neg n1]
      dsimp only
      have f : R 7 18 (h 104 15) := le_hi (le_lo (show R 7 7 (7 : Int32) from ⟨by decide, by decide⟩) (r_full _) v1) (show R 18 18 (18 : Int32) from ⟨by decide, by decide⟩) v2
      have f2 : R 0 11 (h 104 15 - 7) := r_sub f (show R 7 7 (7 : Int32) from ⟨by decide, by decide⟩) (by decide)
      refine unit_go st (by rw [t2]; decide) 1 _ (Or.inr ⟨rfl, ?_, ?_⟩) (fun q => by rw [t2] at q; exact absurd q (by decide))
      · rw [Int32.le_iff_toInt_le]; exact f2.1
      · rw [Int32.le_iff_toInt_le]; exact f2.2
  · refine s_if (fun t2 => ?_) (fun _ => kj _ (Or.inl rfl))
    refine s_bd (P := fun r => ¬ r = 0 → 7 ≤ h 104 15 ∧ h 104 15 ≤ 18) ?_ (fun r12 hr => ?_)
    · unfold mm_canAsk
      exact s_isin (fun r1 _ w => s_some (fun q => w (fun z => q (by rw [z]; rfl))))
    · exact s_if (fun _ => kj _ (Or.inl rfl)) (fun n => kj _ (Or.inr ⟨rfl, t2, hr n⟩))
