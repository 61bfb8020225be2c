section
/-! SAFETY of the model's reader: the draft -/
theorem im_draft {h : PH} {c j : Nat} (v : Int32) (i : IM h) (hc : ((c = 118 ∨ c = 119) ∧ 400 ≤ j) ∨ ((114 ≤ c ∧ c ≤ 117) ∧ 16 ≤ j)) : IM (up h c j v) := by
  obtain ⟨i1, i2, i3⟩ := i
  have hs : sp c j = rF := by
    have h6 : c = 114 ∨ c = 115 ∨ c = 116 ∨ c = 117 ∨ c = 118 ∨ c = 119 := by omega
    rcases h6 with q | q | q | q | q | q <;> subst q <;> rfl
  have at1 : ∀ x l, (x = c → l ≠ j) → up h c j v x l = h x l := fun x l hx => by
    by_cases q : x = c
    · subst q; exact up_oj (hx rfl)
    · exact up_oc q
  have lmr : R 0 16 (h 113 0) := inv_rng i1 rfl
  refine ⟨inv_up i1 (by rw [hs]; exact r_full v), LawF_c i2 lmr.2 (at1 113 0 (fun q => by omega)) (fun l hl => ⟨at1 115 l (fun q => by omega), at1 116 l (fun q => by omega), at1 117 l (fun q => by omega)⟩) (fun k hk => ⟨at1 118 k (fun q => by omega), at1 119 k (fun q => by omega)⟩), ?_⟩
  have e : up h c j v 148 = h 148 := funext fun q => at1 148 q (fun w => by omega)
  unfold LawImg
  rw [e]
  exact i3
/-- one code is written behind the draft -/
def emO (h : PH) (c : Nat) (x v : Int32) : PH := up (up (up h 118 (800 + c) x) 119 (800 + c) v) 104 25 (nI (c + 1))
theorem emits_at (h : PH) (c : Nat) (hc : c < 400) (e : h 104 25 = nI c) (x v : Int32) : mm_emits x v h = some (emO h c x v) := by
  unfold mm_emits
  have e8 : 800 + nI c = nI (800 + c) := nI_add 800 c
  have ixc : ix (nI (800 + c)) = 800 + c := nI_clamp (by omega)
  have e1 : up h 118 (800 + c) x 104 25 = nI c := by rw [up_oc (by decide)]; exact e
  have e2 : up (up h 118 (800 + c) x) 119 (800 + c) v 104 25 = nI c := by rw [up_oc (by decide)]; exact e1
  rw [e, e8, ck_nI (by omega) (by omega), lt_e, ixc, e1, e8, ck_nI (by omega) (by omega), lt_e, ixc, lt_e, e2, nI_1]
  rfl
theorem im_emO {h : PH} (i : IM h) (c : Nat) (x v : Int32) : IM (emO h c x v) := im_put (im_draft v (im_draft x i (Or.inl ⟨Or.inl rfl, by omega⟩)) (Or.inl ⟨Or.inr rfl, by omega⟩)) (show sp 104 25 = (-2147483648, 2147483647) from rfl) (r_full _) (by decide)
theorem emO_c {h : PH} {c : Nat} {x v : Int32} : emO h c x v 104 25 = nI (c + 1) := up_same
theorem emO_104 {h : PH} {c : Nat} {x v : Int32} {j : Nat} (hj : j ≠ 25) : emO h c x v 104 j = h 104 j := by
  unfold emO
  rw [up_oj hj, up_oc (by decide), up_oc (by decide)]
theorem emO_op {h : PH} {c : Nat} {x v : Int32} : emO h c x v 118 (800 + c) = x ∧ emO h c x v 119 (800 + c) = v := by
  unfold emO
  constructor
  · rw [up_oc (by decide), up_oc (by decide), up_same]
  · rw [up_oc (by decide), up_same]
theorem emO_lo {h : PH} {c : Nat} {x v : Int32} (k : Nat) (hk : k < c) : emO h c x v 118 (800 + k) = h 118 (800 + k) ∧ emO h c x v 119 (800 + k) = h 119 (800 + k) := by
  unfold emO
  constructor
  · rw [up_oc (by decide), up_oc (by decide), up_oj (by omega)]
  · rw [up_oc (by decide), up_oj (by omega), up_oc (by decide)]
theorem emO_b {h : PH} {c : Nat} {x v : Int32} (b : Nat) (h1 : b ≠ 104) (h2 : b ≠ 118) (h3 : b ≠ 119) : emO h c x v b = h b := by
  unfold emO
  funext j
  rw [up_oc h1, up_oc h3, up_oc h2]
/-- the draft's code from f on brings the stack from nothing to d -/
def dOp (h : PH) : Nat → Int32 := fun k => h 118 (800 + k)
def dAr (h : PH) : Nat → Int32 := fun k => h 119 (800 + k)
theorem dep_app (op arg : Nat → Int32) (f : Nat) : ∀ (m n k d : Nat), dep op arg f (m + n) k d = bd (dep op arg f m k d) fun d' => dep op arg f n (k + m) d' := by
  intro m
  induction m with
  | zero => intro n k d; rw [Nat.zero_add, Nat.add_zero]; rfl
  | succ m ih =>
    intro n k d
    rw [show m + 1 + n = m + n + 1 by omega, dep, dep]
    cases stC op arg f k d with
    | none => rfl
    | some d1 =>
      rw [bd_e, bd_e, ih, show k + 1 + m = k + (m + 1) by omega]
theorem dep_one {op arg : Nat → Int32} {f m k d d1 d2 : Nat} (h : dep op arg f m k d = some d1) (hs : stC op arg f (k + m) d1 = some d2) : dep op arg f (m + 1) k d = some d2 := by
  rw [dep_app, h, bd_e, dep, hs]
  rfl
end
section
/-! SAFETY of the model's reader: a unit -/
/-- the reader's state: c codes are written, k more are owed to tokens that were read -/
def RS (c k : Nat) (h : PH) : Prop := IM h ∧ h 104 25 = nI c ∧ (h 104 12).toInt ≤ (h 104 11).toInt ∧ (h 104 13).toInt ≤ (h 104 12).toInt ∧ (h 104 14 = 0 ∨ (h 104 13).toInt + 1 ≤ (h 104 12).toInt) ∧ (c : Int) + (k : Int) ≤ (h 104 13).toInt
theorem rs_reads {c k : Nat} {h : PH} (i : IM h) (e : h 104 25 = nI c) (ht : (h 104 12).toInt ≤ (h 104 11).toInt) (hs : (c : Int) + (k : Int) ≤ (h 104 12).toInt) : Sf (mm_reads h) (fun g => RS c k g ∧ FR4 h g) := by
  refine s_w (sf_m_reads h i ht) (fun g q => ?_)
  obtain ⟨i2, fr, q1, q2, q3, q4⟩ := q
  exact ⟨⟨i2, by rw [fr.2 25 (by decide) (by decide) (by decide) (by decide)]; exact e, q3, q2, q4, by omega⟩, fr⟩
/-- what a piece of code leaves as it was -/
def FRc (c : Nat) (h g : PH) : Prop := (∀ b, b ≠ 104 → b ≠ 118 → b ≠ 119 → g b = h b) ∧ (∀ q, q < c → dOp g q = dOp h q ∧ dAr g q = dAr h q) ∧ ∀ j, j ≠ 12 → j ≠ 13 → j ≠ 14 → j ≠ 15 → j ≠ 25 → j ≠ 29 → j ≠ 30 → g 104 j = h 104 j
theorem frc_emit {h g : PH} {c : Nat} {x v : Int32} (fr : FR4 (emO h c x v) g) : FRc c h g := by
  refine ⟨fun b h1 h2 h3 => by rw [fr.1 b h1]; exact emO_b b h1 h2 h3, fun q hq => ?_, fun j h1 h2 h3 h4 h5 _ _ => by rw [fr.2 j h1 h2 h3 h4]; exact emO_104 h5⟩
  unfold dOp dAr
  rw [fr.1 118 (by decide), fr.1 119 (by decide)]
  exact emO_lo q hq
theorem sf_errs (p : Int32) {h : PH} (i : IM h) : Sf (mm_errs p h) (fun r => r.1 = -1 ∧ IM r.2) := by
  unfold mm_errs
  rw [lt_e, lt_e]
  exact s_some ⟨rfl, im_put (im_put i (show sp 104 29 = (-2147483648, 2147483647) from rfl) (r_full _) (by decide)) (show sp 104 30 = (-2147483648, 2147483647) from rfl) (r_full _) (by decide)⟩
def UnitQ (c k : Nat) (h : PH) (r : Int32 × PH) : Prop := (r.1 = -1 ∧ IM r.2) ∨ (r.1 = 0 ∧ RS (c + 1) k r.2 ∧ FRc c h r.2 ∧ (dOp r.2 c = 0 ∨ (dOp r.2 c = 1 ∧ 0 ≤ dAr r.2 c ∧ dAr r.2 c ≤ 11)) ∧ (h 104 14 = 3 → dOp r.2 c = 0 ∧ dAr r.2 c = h 104 15))
theorem unit_go {c k : Nat} {h : PH} (st : RS c k h) (nz : ¬ h 104 14 = 0) (x v : Int32) (hx : x = 0 ∨ (x = 1 ∧ 0 ≤ v ∧ v ≤ 11)) (h3 : h 104 14 = 3 → x = 0 ∧ v = h 104 15) : Sf (bd (mm_emits x v h) fun h8 => bd (mm_reads h8) fun h9 => some ((0 : Int32), h9)) (UnitQ c k h) := by
  obtain ⟨i, e, s1, s2, s3, s4⟩ := st
  have s5 : (h 104 13).toInt + 1 ≤ (h 104 12).toInt := by
    rcases s3 with q | q
    · exact absurd q nz
    · exact q
  have t4 := (rtp i).2
  rw [emits_at h c (by omega) e, bd_e]
  have e12 : emO h c x v 104 12 = h 104 12 := emO_104 (by decide)
  have e11 : emO h c x v 104 11 = h 104 11 := emO_104 (by decide)
  refine s_bd (rs_reads (c := c + 1) (k := k) (im_emO i c x v) emO_c (by rw [e12, e11]; exact s1) (by rw [e12]; omega)) (fun h9 q => ?_)
  obtain ⟨rs, fr⟩ := q
  have o1 : dOp h9 c = x ∧ dAr h9 c = v := by
    unfold dOp dAr
    rw [fr.1 118 (by decide), fr.1 119 (by decide)]
    exact emO_op
  refine s_some (Or.inr ⟨rfl, rs, frc_emit fr, ?_, fun q => ?_⟩)
  · show dOp h9 c = 0 ∨ _
    rw [o1.1, o1.2]; exact hx
  · show dOp h9 c = 0 ∧ dAr h9 c = _
    rw [o1.1, o1.2]; exact h3 q
theorem sf_m_readUnit {c k : Nat} {h : PH} (st : RS c k h) : Sf (mm_readUnit h) (UnitQ c k h) := by
  unfold mm_readUnit
  have err : Sf (bd2 (mm_errs 1 h) fun r10 h11 => some (r10, h11)) (UnitQ c k h) := s_bd2 (sf_errs 1 st.1) (fun r g q => s_some (Or.inl q))
  refine s_jn1 (P := fun x2 => x2 = 0 ∨ (x2 = 1 ∧ h 104 14 = 2 ∧ 7 ≤ h 104 15 ∧ h 104 15 ≤ 18)) (fun x2 hx => ?_) (fun j1 kj => ?_)
  · rcases hx with q | ⟨q, t2, v1, v2⟩
    · subst q
      rw [jn0_e, if_pos rfl]
      refine s_if (fun c3 => ?_) (fun _ => err)
      rw [jn1_e, if_pos rfl]
      dsimp only
      rw [jn1_e, if_pos rfl]
      dsimp only
      exact unit_go st (by rw [c3]; decide) 0 _ (Or.inl rfl) (fun _ => ⟨rfl, rfl⟩)
    · subst q
      have n1 : ¬ (1 : Int32) = 0 := by decide
      rw [jn0_e, if_neg n1, jn1_e, if_neg n1]
      dsimp only
      rw [jn1_e, if_neg n1]
      dsimp only
      have f : R 7 18 (h 104 15) := le_hi (le_lo (show R 7 7 (7 : Int32) from ⟨by decide, by decide⟩) (r_full _) v1) (show R 18 18 (18 : Int32) from ⟨by decide, by decide⟩) v2
      have f2 : R 0 11 (h 104 15 - 7) := r_sub f (show R 7 7 (7 : Int32) from ⟨by decide, by decide⟩) (by decide)
      refine unit_go st (by rw [t2]; decide) 1 _ (Or.inr ⟨rfl, ?_, ?_⟩) (fun q => by rw [t2] at q; exact absurd q (by decide))
      · rw [Int32.le_iff_toInt_le]; exact f2.1
      · rw [Int32.le_iff_toInt_le]; exact f2.2
  · refine s_if (fun t2 => ?_) (fun _ => kj _ (Or.inl rfl))
    refine s_bd (P := fun r => ¬ r = 0 → 7 ≤ h 104 15 ∧ h 104 15 ≤ 18) ?_ (fun r12 hr => ?_)
    · unfold mm_canAsk
      exact s_isin (fun r1 _ w => s_some (fun q => w (fun z => q (by rw [z]; rfl))))
    · exact s_if (fun _ => kj _ (Or.inl rfl)) (fun n => kj _ (Or.inr ⟨rfl, t2, hr n⟩))
end
section
/-! SAFETY of the model's reader: products and sums -/
theorem frc_tr {c c1 : Nat} {h g f : PH} (hc : c ≤ c1) (a : FRc c h g) (b : FRc c1 g f) : FRc c h f :=
  ⟨fun x h1 h2 h3 => by rw [b.1 x h1 h2 h3]; exact a.1 x h1 h2 h3, fun q hq => by
    obtain ⟨u1, u2⟩ := b.2.1 q (by omega)
    obtain ⟨w1, w2⟩ := a.2.1 q hq
    exact ⟨u1.trans w1, u2.trans w2⟩, fun j h1 h2 h3 h4 h5 h6 h7 => by rw [b.2.2 j h1 h2 h3 h4 h5 h6 h7]; exact a.2.2 j h1 h2 h3 h4 h5 h6 h7⟩
theorem frc_4 {c : Nat} {h g : PH} (a : FR4 h g) : FRc c h g :=
  ⟨fun x h1 _ _ => a.1 x h1, fun q _ => by unfold dOp dAr; rw [a.1 118 (by decide), a.1 119 (by decide)]; exact ⟨rfl, rfl⟩, fun j h1 h2 h3 h4 _ _ _ => a.2 j h1 h2 h3 h4⟩
theorem frc_emO {c : Nat} {h : PH} {x v : Int32} : FRc c h (emO h c x v) :=
  ⟨fun b h1 h2 h3 => emO_b b h1 h2 h3, fun q hq => emO_lo q hq, fun j _ _ _ _ h5 _ _ => emO_104 h5⟩
/-- code below c1 says the same on both heaps -/
theorem dep_lo {h g : PH} {c1 : Nat} (fr : FRc c1 h g) (f : Nat) : ∀ (m k d : Nat), k + m ≤ c1 → dep (dOp g) (dAr g) f m k d = dep (dOp h) (dAr h) f m k d := by
  intro m
  induction m with
  | zero => intro k d _; rfl
  | succ m ih =>
    intro k d hk
    obtain ⟨u1, u2⟩ := fr.2.1 k (by omega)
    obtain ⟨w1, w2⟩ := fr.2.1 (k - 1) (by omega)
    rw [dep, dep]
    have e : stC (dOp g) (dAr g) f k d = stC (dOp h) (dAr h) f k d := by
      unfold stC
      rw [u1, u2, w1, w2]
    rw [e]
    congr 1
    funext d'
    exact ih (k + 1) d' (by omega)
def Up1 (c c' : Nat) (h : PH) : Prop := ∀ f d, f ≤ c → dep (dOp h) (dAr h) f (c' - c) c d = some (d + 1)
def ExpQ (c k : Nat) (h : PH) (r : Int32 × PH) : Prop := (r.1 = -1 ∧ IM r.2) ∨ (r.1 = 0 ∧ ∃ c', c < c' ∧ RS c' k r.2 ∧ FRc c h r.2 ∧ Up1 c c' r.2)
theorem rs_emit {c k : Nat} {h : PH} (st : RS c (k + 1) h) (x v : Int32) : mm_emits x v h = some (emO h c x v) ∧ RS (c + 1) k (emO h c x v) := by
  obtain ⟨i, e, s1, s2, s3, s4⟩ := st
  have t4 := (rtp i).2
  have e12 : emO h c x v 104 12 = h 104 12 := emO_104 (by decide)
  have e11 : emO h c x v 104 11 = h 104 11 := emO_104 (by decide)
  have e13 : emO h c x v 104 13 = h 104 13 := emO_104 (by decide)
  have e14 : emO h c x v 104 14 = h 104 14 := emO_104 (by decide)
  refine ⟨emits_at h c (by omega) e x v, im_emO i c x v, emO_c, by rw [e12, e11]; exact s1, by rw [e13, e12]; exact s2, by rw [e14, e13, e12]; exact s3, ?_⟩
  rw [e13]
  omega
theorem up_unit {c k : Nat} {h : PH} {r : Int32 × PH} (q : RS (c + 1) k r.2) (o : dOp r.2 c = 0 ∨ (dOp r.2 c = 1 ∧ 0 ≤ dAr r.2 c ∧ dAr r.2 c ≤ 11)) (f d : Nat) : stC (dOp r.2) (dAr r.2) f c d = some (d + 1) := by
  unfold stC
  rcases o with w | ⟨w, w1⟩
  · rw [if_pos w]
  · rw [if_neg (by rw [w]; decide), if_pos w, if_pos w1]
end
section
/-! SAFETY of the model's reader: products, sums, comparisons -/
theorem s_sign {ρ : Type} {Q : ρ → Prop} {p : Int32} {h : PH} {f : Int32 → Option ρ} (hf : ∀ r, (¬ r = 0 → h 104 14 = 4) → Sf (f r) Q) : Sf (bd (mm_isSign p h) f) Q := by
  unfold mm_isSign
  by_cases c : h 104 14 = 4
  · rw [if_pos c]
    by_cases c2 : h 104 15 = p
    · rw [if_pos c2, bd_e]; exact hf 1 (fun _ => c)
    · rw [if_neg c2, bd_e]; exact hf 0 (fun q => absurd rfl q)
  · rw [if_neg c, bd_e]; exact hf 0 (fun q => absurd rfl q)
theorem s_word {ρ : Type} {Q : ρ → Prop} {p : Int32} {h : PH} {f : Int32 → Option ρ} (hf : ∀ r, (¬ r = 0 → h 104 14 = 2 ∧ h 104 15 = p) → Sf (f r) Q) : Sf (bd (mm_isWord p h) f) Q := by
  unfold mm_isWord
  by_cases c : h 104 14 = 2
  · rw [if_pos c]
    by_cases c2 : h 104 15 = p
    · rw [if_pos c2, bd_e]; exact hf 1 (fun _ => ⟨c, c2⟩)
    · rw [if_neg c2, bd_e]; exact hf 0 (fun q => absurd rfl q)
  · rw [if_neg c, bd_e]; exact hf 0 (fun q => absurd rfl q)
theorem rfm {h : PH} (i : IM h) : R 0 400 (h 104 13) := inv_rng i.1 rfl
theorem rs_le {c k : Nat} {h : PH} (st : RS c k h) : c + k ≤ 400 := by
  have h1 := (rfm st.1).2
  have h2 := st.2.2.2.2.2
  omega
/-- a token that is one is read: one credit more -/
theorem rs_take {c k : Nat} {h : PH} (st : RS c k h) (nz : ¬ h 104 14 = 0) : Sf (mm_reads h) (fun g => RS c (k + 1) g ∧ FR4 h g) := by
  obtain ⟨i, e, s1, s2, s3, s4⟩ := st
  have s5 : (h 104 13).toInt + 1 ≤ (h 104 12).toInt := by
    rcases s3 with q | q
    · exact absurd q nz
    · exact q
  exact rs_reads (k := k + 1) i e s1 (by omega)
theorem stC_bin {op arg : Nat → Int32} {f k d : Nat} (h0 : ¬ op k = 0) (h1 : ¬ op k = 1) (h9 : ¬ op k = 9) (h5 : op k = 5 → f < k ∧ op (k - 1) = 0 ∧ ¬ arg (k - 1) = 0) : stC op arg f k (d + 2) = some (d + 1) := by
  unfold stC
  rw [if_neg h0, if_neg h1, if_neg h9, if_pos ⟨by omega, h5⟩]
  rfl
theorem up_frc {c c' c1 : Nat} {h g : PH} (fr : FRc c1 h g) (hc : c ≤ c') (hc1 : c' ≤ c1) (u : Up1 c c' h) : Up1 c c' g := fun f d hf => by
  rw [dep_lo fr f (c' - c) c d (by omega)]
  exact u f d hf
theorem up_bin {c0 c1 c2 : Nat} {g : PH} (x : Int32) (a : c0 < c1) (b : c1 < c2) (u1 : Up1 c0 c1 g) (u2 : Up1 c1 c2 g) (x0 : ¬ x = 0) (x1 : ¬ x = 1) (x9 : ¬ x = 9) (h5 : x = 5 → dOp g (c2 - 1) = 0 ∧ ¬ dAr g (c2 - 1) = 0) : Up1 c0 (c2 + 1) (emO g c2 x 0) := by
  intro f d hf
  have fr : FRc c2 g (emO g c2 x 0) := frc_emO
  rw [show c2 + 1 - c0 = (c1 - c0) + ((c2 - c1) + 1) by omega, dep_app, dep_lo fr f (c1 - c0) c0 d (by omega), u1 f d hf, bd_e, show c0 + (c1 - c0) = c1 by omega]
  refine dep_one (d1 := d + 2) ?_ ?_
  · rw [dep_lo fr f (c2 - c1) c1 (d + 1) (by omega)]
    exact u2 f (d + 1) (by omega)
  · rw [show c1 + (c2 - c1) = c2 by omega]
    have o : dOp (emO g c2 x 0) c2 = x := emO_op.1
    obtain ⟨w1, w2⟩ := fr.2.1 (c2 - 1) (by omega)
    refine stC_bin (by rw [o]; exact x0) (by rw [o]; exact x1) (by rw [o]; exact x9) (fun q => ?_)
    rw [o] at q
    rw [w1, w2]
    exact ⟨by omega, h5 q⟩
theorem up_one {c : Nat} {g : PH} (o : dOp g c = 0 ∨ (dOp g c = 1 ∧ 0 ≤ dAr g c ∧ dAr g c ≤ 11)) : Up1 c (c + 1) g := fun f d _ => by
  rw [show c + 1 - c = 0 + 1 by omega]
  refine dep_one (d1 := d) rfl ?_
  unfold stC
  rcases o with w | ⟨w, w1⟩
  · rw [Nat.add_zero, if_pos w]
  · rw [Nat.add_zero, if_neg (by rw [w]; decide), if_pos w, if_pos w1]
def ErQ (r : Int32 × PH) : Prop := r.1 = -1 ∧ IM r.2
theorem er_bd (p : Int32) {h : PH} (i : IM h) : Sf (bd2 (mm_errs p h) fun r g => some (r, g)) ErQ := s_bd2 (sf_errs p i) (fun r g q => s_some q)
theorem pr_go (c0 k : Nat) (h0 : PH) (k0 k1 : PH → Option (Int32 × PH)) (e0 : ∀ g, IM g → Sf (k0 g) ErQ) (e1 : ∀ g, IM g → Sf (k1 g) ErQ) : ∀ (n c : Nat) (hv : PH), 400 < n + c → c0 < c → RS c k hv → FRc c0 h0 hv → Up1 c0 c hv → Sf (mm_readProduct_L10 k0 k1 n hv) (ExpQ c0 k h0) := by
  intro n
  induction n with
  | zero => intro c hv h1 h2 st; have := rs_le st; omega
  | succ n ih =>
    intro c hv h1 h2 st fr u
    rw [mm_readProduct_L10]
    refine s_sign (fun r3 w3 => ?_)
    have body : hv 104 14 = 4 → Sf (bd (mm_isSign 42 hv) fun r5 => bd (mm_reads hv) fun h6 => jn0 (jn0 (bd2 (mm_readUnit h6) fun r9 h10 => if r9 = (-1) then some ((-1), h10) else jn1 (fun (x12 : Int32) => bd (mm_emits x12 0 h10) fun h13 => mm_readProduct_L10 k0 k1 n h13) fun j11 => if r5 = 0 then j11 5 else j11 4) fun j8 => if r5 = 0 then if (h6 104 15) = 0 then k1 h6 else j8 else j8) fun j7 => if r5 = 0 then if (h6 104 14) = 3 then j7 else k0 h6 else j7) (ExpQ c0 k h0) := fun t4 => by
      refine s_sign (fun r5 _ => ?_)
      refine s_bd (rs_take st (by rw [t4]; decide)) (fun h6 q6 => ?_)
      obtain ⟨st6, fr6⟩ := q6
      rw [jn0_e, jn0_e]
      have main : (r5 = 0 → h6 104 14 = 3 ∧ ¬ h6 104 15 = 0) → Sf (bd2 (mm_readUnit h6) fun r9 h10 => if r9 = (-1) then some ((-1), h10) else jn1 (fun (x12 : Int32) => bd (mm_emits x12 0 h10) fun h13 => mm_readProduct_L10 k0 k1 n h13) fun j11 => if r5 = 0 then j11 5 else j11 4) (ExpQ c0 k h0) := fun hr5 => by
        refine s_bd2 (sf_m_readUnit st6) (fun r9 h10 q => ?_)
        rcases q with ⟨q1, q2⟩ | ⟨q1, q2, q3, q4, q5⟩
        · have q1 : r9 = -1 := q1
          rw [if_pos q1]
          exact s_some (Or.inl ⟨rfl, q2⟩)
        · have q1 : r9 = 0 := q1
          have st10 : RS (c + 1) (k + 1) h10 := q2
          have fr10 : FRc c h6 h10 := q3
          rw [if_neg (by rw [q1]; decide)]
          have fA : FRc c hv h10 := frc_tr (Nat.le_refl _) (frc_4 fr6) fr10
          have fB : FRc c0 h0 h10 := frc_tr (Nat.le_refl _) fr (frc_tr (c1 := c) (by omega) (frc_4 fr6) fr10)
          have uA : Up1 c0 c h10 := up_frc fA (by omega) (Nat.le_refl _) u
          have fin : ∀ x : Int32, ¬ x = 0 → ¬ x = 1 → ¬ x = 9 → (x = 5 → r5 = 0) → Sf (bd (mm_emits x 0 h10) fun h13 => mm_readProduct_L10 k0 k1 n h13) (ExpQ c0 k h0) := fun x x0 x1 x9 x5 => by
            obtain ⟨em, st13⟩ := rs_emit st10 x 0
            rw [em, bd_e]
            refine ih (c + 1 + 1) _ (by omega) (by omega) st13 (frc_tr (c1 := c + 1) (by omega) fB frc_emO) (up_bin x h2 (by omega) uA (up_one q4) x0 x1 x9 (fun z => ?_))
            obtain ⟨y1, y2⟩ := hr5 (x5 z)
            obtain ⟨y3, y4⟩ := q5 y1
            have y3 : dOp h10 c = 0 := y3
            have y4 : dAr h10 c = h6 104 15 := y4
            rw [Nat.add_sub_cancel, y4]
            exact ⟨y3, y2⟩
          rw [jn1_e]
          by_cases z : r5 = 0
          · rw [if_pos z]
            exact fin 5 (by decide) (by decide) (by decide) (fun _ => z)
          · rw [if_neg z]
            exact fin 4 (by decide) (by decide) (by decide) (fun w => absurd w (by decide))
      by_cases z : r5 = 0
      · rw [if_pos z]
        refine s_if (fun t3 => ?_) (fun _ => s_w (e0 h6 st6.1) (fun r q => Or.inl q))
        rw [if_pos z]
        exact s_if (fun _ => s_w (e1 h6 st6.1) (fun r q => Or.inl q)) (fun nv => main (fun _ => ⟨t3, nv⟩))
      · rw [if_neg z, if_neg z]
        exact main (fun w => absurd w z)
    rw [jn0_e]
    refine s_if (fun _ => ?_) (fun z => body (w3 z))
    refine s_sign (fun r14 w14 => ?_)
    exact s_if (fun _ => s_some (Or.inr ⟨rfl, c, h2, st, fr, u⟩)) (fun z => body (w14 z))
theorem sf_m_readProduct {c k : Nat} {h : PH} (st : RS c k h) : Sf (mm_readProduct h) (ExpQ c k h) := by
  unfold mm_readProduct
  refine s_bd2 (sf_m_readUnit st) (fun r1 h2 q => ?_)
  rcases q with ⟨q1, q2⟩ | ⟨q1, q2, q3, q4, q5⟩
  · have q1 : r1 = -1 := q1
    rw [if_pos q1]
    exact s_some (Or.inl ⟨rfl, q2⟩)
  · have q1 : r1 = 0 := q1
    rw [if_neg (by rw [q1]; decide)]
    exact pr_go c k h _ _ (fun g ig => er_bd 1 ig) (fun g ig => er_bd 2 ig) FU (c + 1) h2 (by unfold FU; omega) (by omega) q2 q3 (up_one q4)
theorem su_go (c0 k : Nat) (h0 : PH) : ∀ (n c : Nat) (hv : PH), 400 < n + c → c0 < c → RS c k hv → FRc c0 h0 hv → Up1 c0 c hv → Sf (mm_readSum_L10 n hv) (ExpQ c0 k h0) := by
  intro n
  induction n with
  | zero => intro c hv h1 h2 st; have := rs_le st; omega
  | succ n ih =>
    intro c hv h1 h2 st fr u
    rw [mm_readSum_L10]
    refine s_sign (fun r3 w3 => ?_)
    have fin : hv 104 14 = 4 → ∀ x : Int32, ¬ x = 0 → ¬ x = 1 → ¬ x = 9 → ¬ x = 5 → Sf (bd (mm_reads hv) fun h7 => bd2 (mm_readProduct h7) fun r8 h9 => if r8 = (-1) then some ((-1), h9) else bd (mm_emits x 0 h9) fun h10 => mm_readSum_L10 n h10) (ExpQ c0 k h0) := fun t4 x x0 x1 x9 x5 => by
      refine s_bd (rs_take st (by rw [t4]; decide)) (fun h7 q7 => ?_)
      obtain ⟨st7, fr7⟩ := q7
      refine s_bd2 (sf_m_readProduct st7) (fun r8 h9 q => ?_)
      rcases q with ⟨q1, q2⟩ | ⟨q1, c', q2, q3, q4, q5⟩
      · have q1 : r8 = -1 := q1
        rw [if_pos q1]
        exact s_some (Or.inl ⟨rfl, q2⟩)
      · have q1 : r8 = 0 := q1
        have st9 : RS c' (k + 1) h9 := q3
        have fr9 : FRc c h7 h9 := q4
        rw [if_neg (by rw [q1]; decide)]
        obtain ⟨em, st10⟩ := rs_emit st9 x 0
        rw [em, bd_e]
        have fA : FRc c hv h9 := frc_tr (Nat.le_refl _) (frc_4 fr7) fr9
        exact ih (c' + 1) _ (by omega) (by omega) st10 (frc_tr (c1 := c') (by omega) (frc_tr (c1 := c) (by omega) fr fA) frc_emO) (up_bin x h2 q2 (up_frc fA (by omega) (Nat.le_refl _) u) q5 x0 x1 x9 (fun z => absurd z x5))
    have body : hv 104 14 = 4 → Sf (jn1 (fun (x6 : Int32) => bd (mm_reads hv) fun h7 => bd2 (mm_readProduct h7) fun r8 h9 => if r8 = (-1) then some ((-1), h9) else bd (mm_emits x6 0 h9) fun h10 => mm_readSum_L10 n h10) fun j5 => if (hv 104 15) = 43 then j5 2 else j5 3) (ExpQ c0 k h0) := fun t4 => by
      rw [jn1_e]
      exact s_if (fun _ => fin t4 2 (by decide) (by decide) (by decide) (by decide)) (fun _ => fin t4 3 (by decide) (by decide) (by decide) (by decide))
    rw [jn0_e]
    refine s_if (fun _ => ?_) (fun z => body (w3 z))
    refine s_sign (fun r14 w14 => ?_)
    exact s_if (fun _ => s_some (Or.inr ⟨rfl, c, h2, st, fr, u⟩)) (fun z => body (w14 z))
theorem sf_m_readSum {c k : Nat} {h : PH} (st : RS c k h) : Sf (mm_readSum h) (ExpQ c k h) := by
  unfold mm_readSum
  refine s_bd2 (sf_m_readProduct st) (fun r1 h2 q => ?_)
  rcases q with ⟨q1, q2⟩ | ⟨q1, c', q2, q3, q4, q5⟩
  · have q1 : r1 = -1 := q1
    rw [if_pos q1]
    exact s_some (Or.inl ⟨rfl, q2⟩)
  · have q1 : r1 = 0 := q1
    rw [if_neg (by rw [q1]; decide)]
    exact su_go c k h FU c' h2 (by unfold FU; omega) q2 q3 q4 q5
theorem sf_m_readCompared {c k : Nat} {h : PH} (st : RS c k h) : Sf (mm_readCompared h) (ExpQ c k h) := by
  unfold mm_readCompared
  refine s_bd2 (sf_m_readSum st) (fun r1 h2 q => ?_)
  rcases q with ⟨q1, q2⟩ | ⟨q1, c', q2, q3, q4, q5⟩
  · have q1 : r1 = -1 := q1
    rw [if_pos q1]
    exact s_some (Or.inl ⟨rfl, q2⟩)
  · have q1 : r1 = 0 := q1
    have st2 : RS c' k h2 := q3
    have fr2 : FRc c h h2 := q4
    have u2 : Up1 c c' h2 := q5
    rw [if_neg (by rw [q1]; decide)]
    have fin : h2 104 14 = 4 → ∀ x : Int32, ¬ x = 0 → ¬ x = 1 → ¬ x = 9 → ¬ x = 5 → Sf (bd (mm_reads h2) fun h7 => bd2 (mm_readSum h7) fun r8 h9 => if r8 = (-1) then some ((-1), h9) else bd (mm_emits x 0 h9) fun h10 => some (0, h10)) (ExpQ c k h) := fun t4 x x0 x1 x9 x5 => by
      refine s_bd (rs_take st2 (by rw [t4]; decide)) (fun h7 q7 => ?_)
      obtain ⟨st7, fr7⟩ := q7
      refine s_bd2 (sf_m_readSum st7) (fun r8 h9 q => ?_)
      rcases q with ⟨p1, p2⟩ | ⟨p1, c2, p2, p3, p4, p5⟩
      · have p1 : r8 = -1 := p1
        rw [if_pos p1]
        exact s_some (Or.inl ⟨rfl, p2⟩)
      · have p1 : r8 = 0 := p1
        have st9 : RS c2 (k + 1) h9 := p3
        have fr9 : FRc c' h7 h9 := p4
        rw [if_neg (by rw [p1]; decide)]
        obtain ⟨em, st10⟩ := rs_emit st9 x 0
        rw [em, bd_e]
        have fA : FRc c' h2 h9 := frc_tr (Nat.le_refl _) (frc_4 fr7) fr9
        exact s_some (Or.inr ⟨rfl, c2 + 1, by omega, st10, frc_tr (c1 := c2) (by omega) (frc_tr (c1 := c') (by omega) fr2 fA) frc_emO, up_bin x q2 p2 (up_frc fA (by omega) (Nat.le_refl _) u2) p5 x0 x1 x9 (fun z => absurd z x5)⟩)
    have body : h2 104 14 = 4 → Sf (jn1 (fun (x6 : Int32) => bd (mm_reads h2) fun h7 => bd2 (mm_readSum h7) fun r8 h9 => if r8 = (-1) then some ((-1), h9) else bd (mm_emits x6 0 h9) fun h10 => some (0, h10)) fun j5 => if (h2 104 15) = 60 then j5 6 else if (h2 104 15) = 61 then j5 7 else j5 8) (ExpQ c k h) := fun t4 => by
      rw [jn1_e]
      exact s_if (fun _ => fin t4 6 (by decide) (by decide) (by decide) (by decide)) (fun _ => s_if (fun _ => fin t4 7 (by decide) (by decide) (by decide) (by decide)) (fun _ => fin t4 8 (by decide) (by decide) (by decide) (by decide)))
    refine s_sign (fun r3 w3 => ?_)
    rw [jn0_e]
    refine s_if (fun _ => ?_) (fun z => body (w3 z))
    refine s_sign (fun r11 w11 => ?_)
    refine s_if (fun _ => ?_) (fun z => body (w11 z))
    refine s_sign (fun r12 w12 => ?_)
    exact s_if (fun _ => s_w (er_bd 1 st2.1) (fun r q => Or.inl q)) (fun z => body (w12 z))
end
section
/-! SAFETY of the model's reader: what is pending (9 not, 10 and, 11 or, 12 a bracket; the latest first) -/
def Pd : List Int32 → PH → Prop
  | [], _ => True
  | q :: r, h => h 120 r.length = q ∧ Pd r h
def cO : List Int32 → Nat
  | [] => 0
  | q :: r => (if q = 9 ∨ q = 12 then 1 else 0) + cO r
def cB : List Int32 → Nat
  | [] => 0
  | q :: r => (if q = 12 then 1 else 0) + cB r
def cE : List Int32 → Nat
  | [] => 0
  | q :: r => (if q = 12 then 0 else 1) + cE r
def cD : List Int32 → Nat
  | [] => 0
  | q :: r => (if q = 10 ∨ q = 11 then 1 else 0) + cD r
def Gm : List Int32 → Nat → Prop
  | [], _ => True
  | q :: r, m => (q = 12 ∧ Gm r 0) ∨ (m = 0 ∧ q = 9 ∧ Gm r 0) ∨ (m = 0 ∧ q = 10 ∧ Gm r 1) ∨ (m ≤ 1 ∧ q = 11 ∧ Gm r 2)
def dr (p : Int32) : List Int32 → List Int32
  | [] => []
  | q :: r => if q = p then dr p r else q :: r
theorem gm_len : ∀ (ps : List Int32) (m : Nat), Gm ps m → ps.length ≤ 3 * cO ps + (2 - m) := by
  intro ps
  induction ps with
  | nil => intro m _; simp
  | cons q r ih =>
    intro m g
    rw [List.length_cons]
    rcases g with ⟨rfl, g⟩ | ⟨rfl, rfl, g⟩ | ⟨rfl, rfl, g⟩ | ⟨hm, rfl, g⟩
    · have := ih 0 g
      have e : cO (12 :: r) = 1 + cO r := rfl
      omega
    · have := ih 0 g
      have e : cO (9 :: r) = 1 + cO r := rfl
      omega
    · have := ih 1 g
      have e : cO (10 :: r) = 0 + cO r := rfl
      omega
    · have := ih 2 g
      have e : cO (11 :: r) = 0 + cO r := rfl
      omega
theorem gm_dr9 : ∀ ps : List Int32, Gm ps 0 → Gm (dr 9 ps) 0 ∧ ∀ r, ¬ dr 9 ps = 9 :: r := by
  intro ps
  induction ps with
  | nil => intro _; exact ⟨trivial, fun r q => by cases q⟩
  | cons q r ih =>
    intro g
    by_cases e : q = 9
    · rw [dr, if_pos e]
      rcases g with ⟨h1, g⟩ | ⟨-, -, g⟩ | ⟨-, h1, g⟩ | ⟨-, h1, g⟩
      · rw [e] at h1; exact absurd h1 (by decide)
      · exact ih g
      · rw [e] at h1; exact absurd h1 (by decide)
      · rw [e] at h1; exact absurd h1 (by decide)
    · rw [dr, if_neg e]
      exact ⟨g, fun r2 z => e (List.cons.inj z).1⟩
theorem gm_dr10 (ps : List Int32) (g : Gm ps 0) (n9 : ∀ r, ¬ ps = 9 :: r) : Gm (dr 10 ps) 1 := by
  cases ps with
  | nil => trivial
  | cons q r =>
    rcases g with ⟨rfl, g⟩ | ⟨-, rfl, g⟩ | ⟨-, rfl, g⟩ | ⟨-, rfl, g⟩
    · rw [dr, if_neg (by decide)]; exact Or.inl ⟨rfl, g⟩
    · exact absurd rfl (n9 r)
    · rw [dr, if_pos rfl]
      cases r with
      | nil => trivial
      | cons q2 r2 =>
        rcases g with ⟨rfl, g⟩ | ⟨z, -⟩ | ⟨z, -⟩ | ⟨-, rfl, g⟩
        · rw [dr, if_neg (by decide)]; exact Or.inl ⟨rfl, g⟩
        · cases z
        · cases z
        · rw [dr, if_neg (by decide)]; exact Or.inr (Or.inr (Or.inr ⟨by decide, rfl, g⟩))
    · rw [dr, if_neg (by decide)]; exact Or.inr (Or.inr (Or.inr ⟨by decide, rfl, g⟩))
theorem gm_dr11 (ps : List Int32) (g : Gm ps 1) : Gm (dr 11 ps) 2 := by
  cases ps with
  | nil => trivial
  | cons q r =>
    rcases g with ⟨rfl, g⟩ | ⟨z, -⟩ | ⟨z, -⟩ | ⟨-, rfl, g⟩
    · rw [dr, if_neg (by decide)]; exact Or.inl ⟨rfl, g⟩
    · cases z
    · cases z
    · rw [dr, if_pos rfl]
      cases r with
      | nil => trivial
      | cons q2 r2 =>
        rcases g with ⟨rfl, g⟩ | ⟨z, -⟩ | ⟨z, -⟩ | ⟨z, -⟩
        · rw [dr, if_neg (by decide)]; exact Or.inl ⟨rfl, g⟩
        · cases z
        · cases z
        · omega
theorem gm_2 (ps : List Int32) (g : Gm ps 2) : ps = [] ∨ ∃ r, ps = 12 :: r ∧ Gm r 0 := by
  cases ps with
  | nil => exact Or.inl rfl
  | cons q r =>
    rcases g with ⟨rfl, g⟩ | ⟨z, -⟩ | ⟨z, -⟩ | ⟨z, -⟩
    · exact Or.inr ⟨r, rfl, g⟩
    · cases z
    · cases z
    · omega
theorem cB_dr (p : Int32) (hp : ¬ p = 12) : ∀ ps, cB (dr p ps) = cB ps := by
  intro ps
  induction ps with
  | nil => rfl
  | cons q r ih =>
    by_cases e : q = p
    · rw [dr, if_pos e, ih, cB, if_neg (by rw [e]; exact hp), Nat.zero_add]
    · rw [dr, if_neg e]
theorem cO_dr (p : Int32) : ∀ ps, cO (dr p ps) ≤ cO ps := by
  intro ps
  induction ps with
  | nil => exact Nat.le_refl _
  | cons q r ih =>
    by_cases e : q = p
    · rw [dr, if_pos e, cO]; omega
    · rw [dr, if_neg e]; exact Nat.le_refl _
theorem cB_cO : ∀ ps, cB ps ≤ cO ps := by
  intro ps
  induction ps with
  | nil => exact Nat.le_refl _
  | cons q r ih =>
    rw [cB, cO]
    by_cases e : q = 12
    · rw [if_pos e, if_pos (Or.inr e)]; omega
    · rw [if_neg e]; split <;> omega
theorem pd_fr {h g : PH} : ∀ (ps : List Int32), (∀ j, j < ps.length → g 120 j = h 120 j) → Pd ps h → Pd ps g := by
  intro ps
  induction ps with
  | nil => intro _ _; trivial
  | cons q r ih =>
    intro hj hp
    exact ⟨by rw [hj r.length (by rw [List.length_cons]; omega)]; exact hp.1, ih (fun j hj2 => hj j (by rw [List.length_cons]; omega)) hp.2⟩
def FRa (c : Nat) (h g : PH) : Prop := (∀ b, b ≠ 104 → b ≠ 118 → b ≠ 119 → b ≠ 120 → g b = h b) ∧ (∀ q, q < c → dOp g q = dOp h q ∧ dAr g q = dAr h q) ∧ ∀ j, j ≠ 12 → j ≠ 13 → j ≠ 14 → j ≠ 15 → j ≠ 25 → j ≠ 26 → j ≠ 28 → j ≠ 29 → j ≠ 30 → g 104 j = h 104 j
theorem fra_c {c c1 : Nat} {h g : PH} (hc : c ≤ c1) (f : FRc c1 h g) : FRa c h g :=
  ⟨fun b h1 h2 h3 _ => f.1 b h1 h2 h3, fun q hq => f.2.1 q (by omega), fun j h1 h2 h3 h4 h5 _ _ h8 h9 => f.2.2 j h1 h2 h3 h4 h5 h8 h9⟩
theorem fra_tr {c : Nat} {h g f : PH} (a : FRa c h g) (b : FRa c g f) : FRa c h f :=
  ⟨fun x h1 h2 h3 h4 => by rw [b.1 x h1 h2 h3 h4]; exact a.1 x h1 h2 h3 h4, fun q hq => by
    obtain ⟨u1, u2⟩ := b.2.1 q hq
    obtain ⟨w1, w2⟩ := a.2.1 q hq
    exact ⟨u1.trans w1, u2.trans w2⟩, fun j h1 h2 h3 h4 h5 h6 h7 h8 h9 => by rw [b.2.2 j h1 h2 h3 h4 h5 h6 h7 h8 h9]; exact a.2.2 j h1 h2 h3 h4 h5 h6 h7 h8 h9⟩
theorem dOp_up {h : PH} {b j : Nat} {v : Int32} (hb : b ≠ 118) : dOp (up h b j v) = dOp h := funext fun k => up_oc (fun q => hb q.symm)
theorem dAr_up {h : PH} {b j : Nat} {v : Int32} (hb : b ≠ 119) : dAr (up h b j v) = dAr h := funext fun k => up_oc (fun q => hb q.symm)
theorem fra_104 {c : Nat} {h : PH} {j : Nat} {v : Int32} (hj : j = 26 ∨ j = 28) : FRa c h (up h 104 j v) :=
  ⟨fun b h1 _ _ _ => funext fun q => up_oc h1, fun q _ => by rw [dOp_up (by decide), dAr_up (by decide)]; exact ⟨rfl, rfl⟩, fun i h1 h2 h3 h4 h5 h6 h7 h8 h9 => up_oj (by omega)⟩
theorem fra_120 {c : Nat} {h : PH} {j : Nat} {v : Int32} : FRa c h (up h 120 j v) :=
  ⟨fun b h1 _ _ h4 => funext fun q => up_oc h4, fun q _ => by rw [dOp_up (by decide), dAr_up (by decide)]; exact ⟨rfl, rfl⟩, fun i h1 h2 h3 h4 h5 h6 h7 h8 h9 => up_oc (by decide)⟩
theorem rs_wk {c k k' : Nat} {h : PH} (st : RS c k h) (hk : k' ≤ k) : RS c k' h := ⟨st.1, st.2.1, st.2.2.1, st.2.2.2.1, st.2.2.2.2.1, by have := st.2.2.2.2.2; omega⟩
theorem rs_104 {c k : Nat} {h : PH} (st : RS c k h) {j : Nat} (hj : j = 26 ∨ j = 28) (v : Int32) : RS c k (up h 104 j v) := by
  obtain ⟨i, e, s1, s2, s3, s4⟩ := st
  have i2 : IM (up h 104 j v) := by
    rcases hj with rfl | rfl
    · exact im_put i (show sp 104 26 = (-2147483648, 2147483647) from rfl) (r_full v) (by decide)
    · exact im_put i (show sp 104 28 = (-2147483648, 2147483647) from rfl) (r_full v) (by decide)
  have q : ∀ x, x ≠ 26 → x ≠ 28 → up h 104 j v 104 x = h 104 x := fun x h1 h2 => up_oj (by omega)
  refine ⟨i2, ?_, ?_, ?_, ?_, ?_⟩
  · rw [q 25 (by decide) (by decide)]; exact e
  · rw [q 12 (by decide) (by decide), q 11 (by decide) (by decide)]; exact s1
  · rw [q 13 (by decide) (by decide), q 12 (by decide) (by decide)]; exact s2
  · rw [q 14 (by decide) (by decide), q 13 (by decide) (by decide), q 12 (by decide) (by decide)]; exact s3
  · rw [q 13 (by decide) (by decide)]; exact s4
theorem rs_120 {c k : Nat} {h : PH} (st : RS c k h) {j : Nat} (v : Int32) : RS c k (up h 120 j v) := by
  obtain ⟨i, e, s1, s2, s3, s4⟩ := st
  have i2 : IM (up h 120 j v) := im_put i (show sp 120 j = (-2147483648, 2147483647) from rfl) (r_full v) (by decide)
  have q : ∀ x, up h 120 j v 104 x = h 104 x := fun x => up_oc (by decide)
  refine ⟨i2, ?_, ?_, ?_, ?_, ?_⟩
  · rw [q]; exact e
  · rw [q, q]; exact s1
  · rw [q, q]; exact s2
  · rw [q, q, q]; exact s3
  · rw [q]; exact s4
def AS (c0 c k e : Nat) (ps : List Int32) (h0 h : PH) : Prop := RS c k h ∧ h 104 28 = nI ps.length ∧ Pd ps h ∧ h 104 26 = nI (cO ps) ∧ c0 ≤ c ∧ dep (dOp h) (dAr h) c0 (c - c0) c0 0 = some (cD ps + e) ∧ FRa c0 h0 h
theorem as_reads {c0 c k e : Nat} {ps : List Int32} {h0 h : PH} (st : AS c0 c k e ps h0 h) (nz : ¬ h 104 14 = 0) : Sf (mm_reads h) (fun g => AS c0 c (k + 1) e ps h0 g) := by
  obtain ⟨s1, s2, s3, s4, s5, s6, s7⟩ := st
  refine s_w (rs_take s1 nz) (fun g q => ?_)
  obtain ⟨q1, q2⟩ := q
  have f : FRc c h g := frc_4 q2
  refine ⟨q1, ?_, ?_, ?_, s5, ?_, fra_tr s7 (fra_c s5 f)⟩
  · rw [q2.2 28 (by decide) (by decide) (by decide) (by decide)]; exact s2
  · exact pd_fr ps (fun j _ => by rw [q2.1 120 (by decide)]) s3
  · rw [q2.2 26 (by decide) (by decide) (by decide) (by decide)]; exact s4
  · rw [dep_lo f c0 (c - c0) c0 0 (by omega)]; exact s6
theorem waits_at (h : PH) (m : Nat) (hm : m < 40) (e : h 104 28 = nI m) (p : Int32) : mm_waits p h = some (up (up h 120 m p) 104 28 (nI (m + 1))) := by
  unfold mm_waits
  rw [e, ck_nI hm (by decide), lt_e, show ix (nI m) = m from nI_clamp (by omega), lt_e]
  rw [show up h 120 m p 104 28 = h 104 28 from up_oc (by decide), e, nI_1]
theorem as_and {c0 c k : Nat} {ps : List Int32} {h0 h : PH} (st : AS c0 c k 1 ps h0 h) (p : Int32) (hp : p = 10 ∨ p = 11) (hl : ps.length < 40) : ∃ g, mm_waits p h = some g ∧ AS c0 c k 0 (p :: ps) h0 g ∧ g 104 14 = h 104 14 := by
  obtain ⟨s1, s2, s3, s4, s5, s6, s7⟩ := st
  refine ⟨_, waits_at h ps.length hl s2 p, ⟨rs_104 (rs_120 s1 p) (Or.inr rfl) _, up_same, ⟨?_, ?_⟩, ?_, s5, ?_, ?_⟩, ?_⟩
  · rw [up_oc (by decide), up_same]
  · exact pd_fr ps (fun j hj => by rw [up_oc (by decide), up_oj (by omega)]) s3
  · rw [up_oj (by decide), up_oc (by decide), s4, cO, if_neg (by rcases hp with rfl | rfl <;> decide), Nat.zero_add]
  · rw [dOp_up (by decide), dOp_up (by decide), dAr_up (by decide), dAr_up (by decide), s6, cD, if_pos hp, Nat.add_comm]
    rfl
  · exact fra_tr s7 (fra_tr fra_120 (fra_104 (Or.inr rfl)))
  · rw [up_oj (by decide), up_oc (by decide)]
theorem as_open {c0 c k : Nat} {ps : List Int32} {h0 h : PH} (st : AS c0 c k 0 ps h0 h) (p : Int32) (hp : p = 9 ∨ p = 12) (hl : ps.length < 40) : ∃ g, mm_waits p (up h 104 26 (h 104 26 + 1)) = some g ∧ AS c0 c k 0 (p :: ps) h0 g ∧ g 104 14 = h 104 14 := by
  obtain ⟨s1, s2, s3, s4, s5, s6, s7⟩ := st
  have s2' : up h 104 26 (h 104 26 + 1) 104 28 = nI ps.length := by rw [up_oj (by decide)]; exact s2
  refine ⟨_, waits_at _ ps.length hl s2' p, ⟨rs_104 (rs_120 (rs_104 s1 (Or.inl rfl) _) p) (Or.inr rfl) _, up_same, ⟨?_, ?_⟩, ?_, s5, ?_, ?_⟩, ?_⟩
  · rw [up_oc (by decide), up_same]
  · exact pd_fr ps (fun j hj => by rw [up_oc (by decide), up_oj (by omega), up_oc (by decide)]) s3
  · rw [up_oj (by decide), up_oc (by decide), up_same, s4, nI_1, cO, if_pos hp, Nat.add_comm]
  · rw [dOp_up (by decide), dOp_up (by decide), dOp_up (by decide), dAr_up (by decide), dAr_up (by decide), dAr_up (by decide), s6, cD, if_neg (by rcases hp with rfl | rfl <;> decide), Nat.zero_add]
  · exact fra_tr s7 (fra_tr (fra_104 (Or.inl rfl)) (fra_tr fra_120 (fra_104 (Or.inr rfl))))
  · rw [up_oj (by decide), up_oc (by decide), up_oj (by decide)]
def SetQ (c0 c k : Nat) (ps : List Int32) (h0 h g : PH) : Prop := ∃ c' k', c' + k' = c + k ∧ cE ps ≤ k' ∧ AS c0 c' k' 1 ps h0 g ∧ g 104 14 = h 104 14 ∧ g 104 15 = h 104 15
theorem settle_go (c0 : Nat) (h0 : PH) (p : Int32) (hp : p = 9 ∨ p = 10 ∨ p = 11) : ∀ (ps : List Int32) (n c k : Nat) (hv : PH), ps.length < n → ps.length ≤ 40 → cE ps ≤ k → AS c0 c k 1 ps h0 hv → Sf (mm_settles_L0 p n hv) (SetQ c0 c k (dr p ps) h0 hv) := by
  intro ps
  induction ps with
  | nil =>
    intro n c k hv hn hl he st
    obtain ⟨m, rfl⟩ : ∃ m, n = m + 1 := ⟨n - 1, by omega⟩
    rw [mm_settles_L0]
    have e : hv 104 28 = 0 := st.2.1
    rw [e, if_pos (by decide)]
    exact s_some ⟨c, k, rfl, he, st, rfl, rfl⟩
  | cons q r ih =>
    intro n c k hv hn hl he st
    have st0 := st
    obtain ⟨s1, s2, s3, s4, s5, s6, s7⟩ := st
    obtain ⟨m, rfl⟩ : ∃ m, n = m + 1 := ⟨n - 1, by omega⟩
    rw [List.length_cons] at hn hl s2
    rw [mm_settles_L0, s2, if_neg (by
      rw [Int32.le_iff_toInt_le, nI_toInt (by omega)]
      simp only [show (0 : Int32).toInt = 0 from rfl]
      omega), nI_pred, ck_nI (by omega) (by decide), show ix (nI r.length) = r.length from nI_clamp (by omega), s3.1]
    by_cases e : q = p
    · subst e
      rw [if_pos rfl, lt_e, dr, if_pos rfl]
      have n12 : ¬ q = 12 := by rcases hp with rfl | rfl | rfl <;> decide
      rw [cE, if_neg n12] at he
      obtain ⟨k', rfl⟩ : ∃ k', k = k' + 1 := ⟨k - 1, by omega⟩
      obtain ⟨em, st2⟩ := rs_emit (rs_104 s1 (Or.inr rfl) (nI r.length)) q 0
      rw [em, bd_e]
      have fA : FRc c (up hv 104 28 (nI r.length)) (emO (up hv 104 28 (nI r.length)) c q 0) := frc_emO
      have fr : FRa c0 h0 (emO (up hv 104 28 (nI r.length)) c q 0) := fra_tr s7 (fra_tr (fra_104 (Or.inr rfl)) (fra_c s5 fA))
      have g28 : emO (up hv 104 28 (nI r.length)) c q 0 104 28 = nI r.length := by rw [emO_104 (by decide), up_same]
      have g26 : emO (up hv 104 28 (nI r.length)) c q 0 104 26 = nI (cO (q :: r)) := by rw [emO_104 (by decide), up_oj (by decide)]; exact s4
      have gp : Pd r (emO (up hv 104 28 (nI r.length)) c q 0) := pd_fr r (fun j _ => by rw [emO_b 120 (by decide) (by decide) (by decide), up_oc (by decide)]) s3.2
      have g14 : emO (up hv 104 28 (nI r.length)) c q 0 104 14 = hv 104 14 := by rw [emO_104 (by decide), up_oj (by decide)]
      have g15 : emO (up hv 104 28 (nI r.length)) c q 0 104 15 = hv 104 15 := by rw [emO_104 (by decide), up_oj (by decide)]
      have gd : dep (dOp (emO (up hv 104 28 (nI r.length)) c q 0)) (dAr (emO (up hv 104 28 (nI r.length)) c q 0)) c0 (c + 1 - c0) c0 0 = some (cD r + 1) := by
        rw [show c + 1 - c0 = (c - c0) + 1 by omega]
        have o : dOp (emO (up hv 104 28 (nI r.length)) c q 0) c = q := emO_op.1
        refine dep_one (d1 := cD (q :: r) + 1) ?_ ?_
        · rw [dep_lo fA c0 (c - c0) c0 0 (by omega), dOp_up (by decide), dAr_up (by decide)]; exact s6
        · rw [show c0 + (c - c0) = c by omega]
          by_cases e9 : q = 9
          · unfold stC
            rw [o, if_neg (by rw [e9]; decide), if_neg (by rw [e9]; decide), if_pos e9, if_pos (by omega), cD, if_neg (by rw [e9]; decide), Nat.zero_add]
          · have h2 : q = 10 ∨ q = 11 := by
              rcases hp with z | z | z
              · exact absurd z e9
              · exact Or.inl z
              · exact Or.inr z
            rw [cD, if_pos h2, show 1 + cD r + 1 = cD r + 2 by omega]
            refine stC_bin (by rw [o]; rcases h2 with z | z <;> rw [z] <;> decide) (by rw [o]; rcases h2 with z | z <;> rw [z] <;> decide) (by rw [o]; exact e9) (fun z => ?_)
            rw [o] at z
            rcases h2 with w | w <;> rw [w] at z <;> exact absurd z (by decide)
      generalize emO (up hv 104 28 (nI r.length)) c q 0 = g at st2 fr g28 g26 gp g14 g15 gd ⊢
      by_cases e9 : q = 9
      · rw [if_pos e9, lt_e]
        rw [cO, if_pos (Or.inl e9), Nat.add_comm] at g26
        refine s_w (ih m (c + 1) k' _ (by omega) (by omega) (by omega) ⟨rs_104 st2 (Or.inl rfl) _, ?_, ?_, ?_, by omega, ?_, fra_tr fr (fra_104 (Or.inl rfl))⟩) (fun g2 w => ?_)
        · rw [up_oj (by decide)]; exact g28
        · exact pd_fr r (fun j _ => by rw [up_oc (by decide)]) gp
        · rw [up_same, g26, nI_pred]
        · rw [dOp_up (by decide), dAr_up (by decide)]; exact gd
        · obtain ⟨c', k2, w1, w2, w3, w4, w5⟩ := w
          exact ⟨c', k2, by omega, w2, w3, by rw [w4, up_oj (by decide)]; exact g14, by rw [w5, up_oj (by decide)]; exact g15⟩
      · rw [if_neg e9]
        rw [cO, if_neg (by intro z; rcases z with z | z; exact e9 z; exact n12 z), Nat.zero_add] at g26
        refine s_w (ih m (c + 1) k' _ (by omega) (by omega) (by omega) ⟨st2, g28, gp, g26, by omega, gd, fr⟩) (fun g2 w => ?_)
        obtain ⟨c', k2, w1, w2, w3, w4, w5⟩ := w
        exact ⟨c', k2, by omega, w2, w3, by rw [w4]; exact g14, by rw [w5]; exact g15⟩
    · rw [if_neg e, dr, if_neg e]
      exact s_some ⟨c, k, rfl, he, st0, rfl, rfl⟩
theorem sf_m_settles {c0 c k : Nat} {h0 hv : PH} (p : Int32) (hp : p = 9 ∨ p = 10 ∨ p = 11) {ps : List Int32} (hl : ps.length ≤ 40) (he : cE ps ≤ k) (st : AS c0 c k 1 ps h0 hv) : Sf (mm_settles p hv) (SetQ c0 c k (dr p ps) h0 hv) := by
  unfold mm_settles
  exact settle_go c0 h0 p hp ps FU c k hv (by unfold FU; omega) hl he st
end
section
/-! SAFETY of the model's reader: conditions -/
def AnyQ (c0 : Nat) (h0 : PH) (r : Int32 × PH) : Prop := (r.1 = -1 ∧ IM r.2) ∨ (r.1 = 0 ∧ ∃ c k, AS c0 c k 1 [] h0 r.2)
theorem as_close {c0 c k : Nat} {r : List Int32} {h0 h : PH} (st : AS c0 c k 1 (12 :: r) h0 h) : AS c0 c k 1 r h0 (up (up h 104 28 (h 104 28 - 1)) 104 26 (up h 104 28 (h 104 28 - 1) 104 26 - 1)) := by
  obtain ⟨s1, s2, s3, s4, s5, s6, s7⟩ := st
  refine ⟨rs_104 (rs_104 s1 (Or.inr rfl) _) (Or.inl rfl) _, ?_, ?_, ?_, s5, ?_, fra_tr s7 (fra_tr (fra_104 (Or.inr rfl)) (fra_104 (Or.inl rfl)))⟩
  · rw [up_oj (by decide), up_same, s2, List.length_cons, nI_pred]
  · exact pd_fr r (fun j _ => by rw [up_oc (by decide), up_oc (by decide)]) s3.2
  · rw [up_same, up_oj (by decide), s4, cO, if_pos (Or.inr rfl), Nat.add_comm, nI_pred]
  · rw [dOp_up (by decide), dOp_up (by decide), dAr_up (by decide), dAr_up (by decide), s6, cD, if_neg (by decide), Nat.zero_add]
theorem as_exp {c0 c c' k : Nat} {ps : List Int32} {h0 h g : PH} (st : AS c0 c k 0 ps h0 h) (hc : c < c') (s : RS c' k g) (fr : FRc c h g) (u : Up1 c c' g) : AS c0 c' k 1 ps h0 g := by
  obtain ⟨s1, s2, s3, s4, s5, s6, s7⟩ := st
  refine ⟨s, ?_, ?_, ?_, by omega, ?_, fra_tr s7 (fra_c s5 fr)⟩
  · rw [fr.2.2 28 (by decide) (by decide) (by decide) (by decide) (by decide) (by decide) (by decide)]; exact s2
  · exact pd_fr ps (fun j _ => by rw [fr.1 120 (by decide) (by decide) (by decide)]) s3
  · rw [fr.2.2 26 (by decide) (by decide) (by decide) (by decide) (by decide) (by decide) (by decide)]; exact s4
  · rw [show c' - c0 = (c - c0) + (c' - c) by omega, dep_app, dep_lo fr c0 (c - c0) c0 0 (by omega), s6, bd_e, show c0 + (c - c0) = c by omega]
    exact u c0 _ s5
theorem nI_eq8 {m : Nat} (hm : m ≤ 8) (n : ¬ nI m = 8) : m < 8 := by
  by_cases e : m = 8
  · subst e; exact absurd rfl n
  · omega
theorem any_go (c0 : Nat) (h0 : PH) (k0 k1 : PH → Option (Int32 × PH)) (e0 : ∀ g, IM g → Sf (k0 g) ErQ) (e1 : ∀ g, IM g → Sf (k1 g) ErQ) : ∀ (n c k e : Nat) (ps : List Int32) (v1 v2 : Int32) (hv : PH), 400 < n + (c + k) → AS c0 c k e ps h0 hv → Gm ps 0 → cE ps ≤ k → cO ps ≤ 8 → v1 = nI (cB ps) → ((e = 0 ∧ v2 = 1) ∨ (e = 1 ∧ v2 = 0 ∧ ∀ r, ¬ ps = 9 :: r)) → Sf (mm_readAny_L9 k0 k1 n v1 v2 hv) (AnyQ c0 h0) := by
  intro n
  induction n with
  | zero => intro c k e ps v1 v2 hv hn st; have := rs_le st.1; omega
  | succ n ih =>
    intro c k e ps v1 v2 hv hn st hg he ho hv1 hm
    have hl := gm_len ps 0 hg
    rw [mm_readAny_L9]
    rcases hm with ⟨rfl, rfl⟩ | ⟨rfl, rfl, n9⟩
    · rw [if_neg (by decide)]
      refine s_word (fun r19 w19 => ?_)
      have body : ¬ hv 104 14 = 0 → Sf (if (hv 104 26) = 8 then k0 hv else lt (up hv 104 26 ((hv 104 26) + 1)) fun h21 => jn1 (fun (x23 : Int32) => jn1 (fun (x25 : Int32) => bd (mm_waits x25 h21) fun h26 => bd (mm_reads h26) fun h27 => mm_readAny_L9 k0 k1 n x23 1 h27) fun j24 => if r19 = 0 then j24 12 else j24 9) fun j22 => if r19 = 0 then lt (v1 + 1) fun x28 => j22 x28 else j22 v1) (AnyQ c0 h0) := fun nz => by
        refine s_if (fun _ => s_w (e0 hv st.1.1) (fun r q => Or.inl q)) (fun n8 => ?_)
        rw [st.2.2.2.1] at n8
        have o8 := nI_eq8 ho n8
        rw [lt_e]
        have fin : ∀ (p : Int32), (p = 9 ∨ p = 12) → ∀ x : Int32, x = nI (cB (p :: ps)) → Sf (bd (mm_waits p (up hv 104 26 ((hv 104 26) + 1))) fun h26 => bd (mm_reads h26) fun h27 => mm_readAny_L9 k0 k1 n x 1 h27) (AnyQ c0 h0) := fun p hp x hx => by
          obtain ⟨g, w1, w2, w3⟩ := as_open st p hp (by omega)
          rw [w1, bd_e]
          refine s_bd (as_reads w2 (by rw [w3]; exact nz)) (fun h27 q => ?_)
          refine ih c (k + 1) 0 (p :: ps) x 1 h27 (by omega) q ?_ ?_ ?_ hx (Or.inl ⟨rfl, rfl⟩)
          · rcases hp with rfl | rfl
            · exact Or.inr (Or.inl ⟨rfl, rfl, hg⟩)
            · exact Or.inl ⟨rfl, hg⟩
          · rw [cE]; split <;> omega
          · rw [cO, if_pos hp]; omega
        rw [jn1_e]
        by_cases z : r19 = 0
        · rw [if_pos z, lt_e]
          dsimp only
          rw [jn1_e, if_pos z]
          refine fin 12 (Or.inr rfl) _ ?_
          rw [hv1, nI_1, cB, if_pos rfl, Nat.add_comm]
        · rw [if_neg z]
          dsimp only
          rw [jn1_e, if_neg z]
          refine fin 9 (Or.inl rfl) _ ?_
          rw [hv1, cB, if_neg (by decide), Nat.zero_add]
      rw [jn0_e]
      refine s_if (fun _ => ?_) (fun z => body (by rw [(w19 z).1]; decide))
      refine s_sign (fun r29 w29 => ?_)
      refine s_if (fun _ => ?_) (fun z => body (by rw [w29 z]; decide))
      refine s_bd2 (sf_m_readCompared st.1) (fun r30 h31 q => ?_)
      rcases q with ⟨q1, q2⟩ | ⟨q1, c', q2, q3, q4, q5⟩
      · have q1 : r30 = -1 := q1
        rw [if_pos q1]
        exact s_some (Or.inl ⟨rfl, q2⟩)
      · have q1 : r30 = 0 := q1
        rw [if_neg (by rw [q1]; decide)]
        have st31 : AS c0 c' k 1 ps h0 h31 := as_exp st q2 q3 q4 q5
        refine s_bd (sf_m_settles 9 (Or.inl rfl) (by omega) he st31) (fun h32 w => ?_)
        obtain ⟨c2, k2, w1, w2, w3, w4, w5⟩ := w
        obtain ⟨g1, g2⟩ := gm_dr9 ps hg
        exact ih c2 k2 1 (dr 9 ps) v1 0 h32 (by omega) w3 g1 w2 (by have := cO_dr 9 ps; omega) (by rw [cB_dr 9 (by decide)]; exact hv1) (Or.inr ⟨rfl, rfl, g2⟩)
    · rw [if_pos rfl]
      have d10 := gm_dr10 ps hg n9
      have d11 := gm_dr11 _ d10
      have o10 := cO_dr 10 ps
      have o11 := cO_dr 11 (dr 10 ps)
      have l10 := gm_len _ 1 d10
      have l11 := gm_len _ 2 d11
      have b11 : cB (dr 11 (dr 10 ps)) = cB ps := by rw [cB_dr 11 (by decide), cB_dr 10 (by decide)]
      refine s_word (fun r2 w2 => ?_)
      refine s_if (fun _ => ?_) (fun z => ?_)
      · refine s_word (fun r3 w3 => ?_)
        refine s_if (fun _ => ?_) (fun z => ?_)
        · refine s_bd (sf_m_settles 10 (Or.inr (Or.inl rfl)) (by omega) he st) (fun h4 w => ?_)
          obtain ⟨c4, k4, x1, x2, x3, x4, x5⟩ := w
          refine s_bd (sf_m_settles 11 (Or.inr (Or.inr rfl)) (by omega) x2 x3) (fun h5 w => ?_)
          obtain ⟨c5, k5, y1, y2, y3, y4, y5⟩ := w
          have bo := cB_cO ps
          rcases gm_2 _ d11 with en | ⟨r, er, gr⟩
          · rw [en] at y3 b11
            have b0 : cB ps = 0 := b11.symm
            rw [if_pos (by rw [hv1, b0]; rfl)]
            exact s_some (Or.inr ⟨rfl, c5, k5, y3⟩)
          · rw [er] at y2 y3 b11 l11 o11
            have eb : cB (12 :: r) = cB r + 1 := by rw [cB, if_pos rfl, Nat.add_comm]
            have eo : cO (12 :: r) = cO r + 1 := by rw [cO, if_pos (Or.inr rfl), Nat.add_comm]
            have ee : cE (12 :: r) = cE r := by rw [cE, if_pos rfl, Nat.zero_add]
            rw [if_neg (by
              rw [hv1]
              intro q
              have q2 : (nI (cB ps)).toInt = 0 := by rw [q]; rfl
              rw [nI_toInt (by omega)] at q2
              omega)]
            refine s_sign (fun r6 w6 => ?_)
            refine s_if (fun _ => s_w (e1 h5 y3.1.1) (fun r q => Or.inl q)) (fun z6 => ?_)
            rw [lt_e, lt_e, lt_e]
            have st9 := as_close y3
            have t9 : up (up h5 104 28 (h5 104 28 - 1)) 104 26 (up h5 104 28 (h5 104 28 - 1) 104 26 - 1) 104 14 = 4 := by rw [up_oj (by decide), up_oj (by decide)]; exact w6 z6
            generalize up (up h5 104 28 (h5 104 28 - 1)) 104 26 (up h5 104 28 (h5 104 28 - 1) 104 26 - 1) = h9 at st9 t9 ⊢
            rw [List.length_cons] at l11
            refine s_bd (sf_m_settles 9 (Or.inl rfl) (by omega) (by omega) st9) (fun h10 w => ?_)
            obtain ⟨c6, k6, u1, u2, u3, u4, u5⟩ := w
            refine s_bd (as_reads u3 (by rw [u4, t9]; decide)) (fun h11 q => ?_)
            obtain ⟨g1, g2⟩ := gm_dr9 r gr
            refine ih c6 (k6 + 1) 1 (dr 9 r) _ 0 h11 (by omega) q g1 (by omega) (by have := cO_dr 9 r; omega) ?_ (Or.inr ⟨rfl, rfl, g2⟩)
            rw [cB_dr 9 (by decide), hv1, ← b11, eb, nI_pred]
        · refine s_bd (sf_m_settles 10 (Or.inr (Or.inl rfl)) (by omega) he st) (fun h4 w => ?_)
          obtain ⟨c4, k4, x1, x2, x3, x4, x5⟩ := w
          refine s_bd (sf_m_settles 11 (Or.inr (Or.inr rfl)) (by omega) x2 x3) (fun h5 w => ?_)
          obtain ⟨c5, k5, y1, y2, y3, y4, y5⟩ := w
          obtain ⟨g, u1, u2, u3⟩ := as_and y3 11 (Or.inr rfl) (by omega)
          rw [u1, bd_e]
          refine s_bd (as_reads u2 (by rw [u3, y4, x4, (w3 z).1]; decide)) (fun h15 q => ?_)
          refine ih c5 (k5 + 1) 0 (11 :: dr 11 (dr 10 ps)) v1 1 h15 (by omega) q (Or.inr (Or.inr (Or.inr ⟨by decide, rfl, d11⟩))) ?_ ?_ ?_ (Or.inl ⟨rfl, rfl⟩)
          · rw [cE, if_neg (by decide)]; omega
          · rw [cO, if_neg (by decide)]; omega
          · rw [cB, if_neg (by decide), Nat.zero_add, b11]; exact hv1
      · refine s_bd (sf_m_settles 10 (Or.inr (Or.inl rfl)) (by omega) he st) (fun h4 w => ?_)
        obtain ⟨c4, k4, x1, x2, x3, x4, x5⟩ := w
        obtain ⟨g, u1, u2, u3⟩ := as_and x3 10 (Or.inl rfl) (by omega)
        rw [u1, bd_e]
        refine s_bd (as_reads u2 (by rw [u3, x4, (w2 z).1]; decide)) (fun h18 q => ?_)
        refine ih c4 (k4 + 1) 0 (10 :: dr 10 ps) v1 1 h18 (by omega) q (Or.inr (Or.inr (Or.inl ⟨rfl, rfl, d10⟩))) ?_ ?_ ?_ (Or.inl ⟨rfl, rfl⟩)
        · rw [cE, if_neg (by decide)]; omega
        · rw [cO, if_neg (by decide)]; omega
        · rw [cB, if_neg (by decide), Nat.zero_add, cB_dr 10 (by decide)]; exact hv1
theorem sf_m_readAny {c k : Nat} {h : PH} (st : RS c k h) (ho : h 104 26 = 0) : Sf (mm_readAny h) (AnyQ c h) := by
  unfold mm_readAny
  rw [lt_e]
  refine any_go c h _ _ (fun g ig => er_bd 3 ig) (fun g ig => er_bd 1 ig) FU c k 0 [] 0 1 _ (by unfold FU; omega) ⟨rs_104 st (Or.inr rfl) 0, up_same, trivial, ?_, Nat.le_refl _, ?_, fra_104 (Or.inr rfl)⟩ trivial (by exact Nat.zero_le _) (by exact Nat.zero_le _) rfl (Or.inl ⟨rfl, rfl⟩)
  · rw [up_oj (by decide)]; exact ho
  · rw [Nat.sub_self]; rfl
end
section
/-! SAFETY of the model's reader: THE LAW, read and taken -/
theorem dep_x {op arg op' arg' : Nat → Int32} {c : Nat} (hc : ∀ q, q < c → op' q = op q ∧ arg' q = arg q) (f : Nat) : ∀ (m k d : Nat), k + m ≤ c → dep op' arg' f m k d = dep op arg f m k d := by
  intro m
  induction m with
  | zero => intro k d _; rfl
  | succ m ih =>
    intro k d hk
    obtain ⟨u1, u2⟩ := hc k (by omega)
    obtain ⟨w1, w2⟩ := hc (k - 1) (by omega)
    rw [dep, dep]
    have e : stC op' arg' f k d = stC op arg f k d := by
      unfold stC
      rw [u1, u2, w1, w2]
    rw [e]
    congr 1
    funext d'
    exact ih (k + 1) d' (by omega)
theorem seg_x {op arg op' arg' : Nat → Int32} {c a b : Nat} (hc : ∀ q, q < c → op' q = op q ∧ arg' q = arg q) (hab : a ≤ b) (hb : b ≤ c) (s : SegOK op arg a b) : SegOK op' arg' a b := by
  obtain ⟨d, hd⟩ := s
  exact ⟨d, by rw [dep_x hc a (b - a) a 0 (by omega)]; exact hd⟩
/-- line l of the draft is good, its code below c -/
def DL (l c : Nat) (h : PH) : Prop := ∃ a b e : Nat, h 115 (32 + l) = nI a ∧ h 116 (32 + l) = nI b ∧ h 117 (32 + l) = nI e ∧ a ≤ b ∧ b ≤ e ∧ e ≤ c ∧ SegOK (dOp h) (dAr h) a b ∧ SegOK (dOp h) (dAr h) b e
def LawQ (r : Int32 × PH) : Prop := (r.1 = -1 ∧ IM r.2) ∨ (∃ k c, r.1 = nI k ∧ k ≤ 16 ∧ RS c 0 r.2 ∧ r.2 104 24 = 0 ∧ ∀ l, l < k → DL l c r.2)
theorem rs_draft {c k : Nat} {h : PH} (st : RS c k h) {b j : Nat} (hb : 114 ≤ b ∧ b ≤ 117) (hj : 16 ≤ j) (v : Int32) : RS c k (up h b j v) := by
  obtain ⟨i, e, s1, s2, s3, s4⟩ := st
  have q : ∀ x, up h b j v 104 x = h 104 x := fun x => up_oc (by omega)
  refine ⟨im_draft v i (Or.inr ⟨hb, hj⟩), ?_, ?_, ?_, ?_, ?_⟩
  · rw [q]; exact e
  · rw [q, q]; exact s1
  · rw [q, q]; exact s2
  · rw [q, q, q]; exact s3
  · rw [q]; exact s4
theorem up_cell {h : PH} {b j x : Nat} {v : Int32} (hx : x ≠ b) : up h b j v x = h x := funext fun q => up_oc hx
theorem law_go (k0 k1 : PH → Option (Int32 × PH)) (k2 : Int32 → PH → Option (Int32 × PH)) (e0 : ∀ g, IM g → Sf (k0 g) ErQ) (e1 : ∀ g, IM g → Sf (k1 g) ErQ) (e2 : ∀ (k c : Nat) (g : PH), k ≤ 16 → RS c 0 g → g 104 24 = 0 → (∀ l, l < k → DL l c g) → Sf (k2 (nI k) g) LawQ) : ∀ (n k c : Nat) (hv : PH), 16 < n + k → k ≤ 16 → RS c 0 hv → hv 104 24 = 0 → hv 104 26 = 0 → (∀ l, l < k → DL l c hv) → Sf (mm_readLaw_L2 k0 k1 k2 n (nI k) hv) LawQ := by
  intro n
  induction n with
  | zero => intro k c hv h1 h2; omega
  | succ n ih =>
    intro k c hv hn hk st w24 w26 dl
    rw [mm_readLaw_L2]
    refine s_bd (P := fun r => ¬ r = 0 → hv 104 14 = 2) ?_ (fun r1 hr1 => ?_)
    · unfold mm_isLineWord
      refine s_if (fun t => ?_) (fun _ => s_some (fun q => absurd rfl q))
      exact s_isin (fun r _ _ => s_if (fun _ => s_some (fun q => absurd rfl q)) (fun _ => s_some (fun _ => t)))
    · refine s_if (fun _ => e2 k c hv hk st w24 dl) (fun z => ?_)
      have t2 := hr1 z
      refine s_if (fun _ => s_w (e0 hv st.1) (fun r q => Or.inl q)) (fun n16 => ?_)
      have hk2 : k < 16 := by
        by_cases e : k = 16
        · subst e; exact absurd rfl n16
        · omega
      have e32 : (32 : Int32) + nI k = nI (32 + k) := nI_add 32 k
      rw [lt_e, e32, ck_nI (by omega) (by decide), show ix (nI (32 + k)) = 32 + k from nI_clamp (by omega), lt_e]
      have st3 : RS c 0 (up hv 114 (32 + k) (hv 104 15)) := rs_draft st (by omega) (by omega) _
      have t3 : up hv 114 (32 + k) (hv 104 15) 104 14 = 2 := by rw [up_oc (by decide)]; exact t2
      refine s_bd (rs_take st3 (by rw [t3]; decide)) (fun h4 q => ?_)
      obtain ⟨st4, fr4⟩ := q
      rw [ck_nI (by omega) (by decide), lt_e, st4.2.1]
      have st5 : RS c 1 (up h4 115 (32 + k) (nI c)) := rs_draft st4 (by omega) (by omega) _
      refine s_bd2 (sf_m_readSum st5) (fun r6 h7 q => ?_)
      rcases q with ⟨q1, q2⟩ | ⟨q1, c', q2, q3, q4, q5⟩
      · have q1 : r6 = -1 := q1
        rw [if_pos q1]
        exact s_some (Or.inl ⟨rfl, q2⟩)
      have q1 : r6 = 0 := q1
      have st7 : RS c' 1 h7 := q3
      have fr7 : FRc c (up h4 115 (32 + k) (nI c)) h7 := q4
      have u7 : Up1 c c' h7 := q5
      rw [if_neg (by rw [q1]; decide), ck_nI (by omega) (by decide), lt_e, st7.2.1]
      have st8 : RS c' 1 (up h7 116 (32 + k) (nI c')) := rs_draft st7 (by omega) (by omega) _
      have o8 : dOp (up h7 116 (32 + k) (nI c')) = dOp h7 := dOp_up (by decide)
      have a8 : dAr (up h7 116 (32 + k) (nI c')) = dAr h7 := dAr_up (by decide)
      have x24 : up h7 116 (32 + k) (nI c') 104 24 = 0 := by rw [up_oc (by decide), fr7.2.2 24 (by decide) (by decide) (by decide) (by decide) (by decide) (by decide) (by decide), up_oc (by decide), fr4.2 24 (by decide) (by decide) (by decide) (by decide), up_oc (by decide)]; exact w24
      have x26 : up h7 116 (32 + k) (nI c') 104 26 = 0 := by rw [up_oc (by decide), fr7.2.2 26 (by decide) (by decide) (by decide) (by decide) (by decide) (by decide) (by decide), up_oc (by decide), fr4.2 26 (by decide) (by decide) (by decide) (by decide), up_oc (by decide)]; exact w26
      have p115 : up h7 116 (32 + k) (nI c') 115 = up h4 115 (32 + k) (nI c) 115 := by rw [up_cell (by decide), fr7.1 115 (by decide) (by decide) (by decide)]
      have p4 : ∀ x, 115 ≤ x → x ≤ 117 → h4 x = hv x := fun x _ _ => by rw [fr4.1 x (by omega), up_cell (by omega)]
      have p116 : h7 116 = hv 116 := by rw [fr7.1 116 (by decide) (by decide) (by decide), up_cell (by decide), p4 116 (by decide) (by decide)]
      have p117 : up h7 116 (32 + k) (nI c') 117 = hv 117 := by rw [up_cell (by decide), fr7.1 117 (by decide) (by decide) (by decide), up_cell (by decide), p4 117 (by decide) (by decide)]
      have d8 : ∀ q, q < c → dOp h7 q = dOp hv q ∧ dAr h7 q = dAr hv q := fun q hq => by
        obtain ⟨y1, y2⟩ := fr7.2.1 q hq
        rw [dOp_up (by decide)] at y1
        rw [dAr_up (by decide)] at y2
        have y3 : dOp h4 = dOp hv := by
          unfold dOp
          rw [fr4.1 118 (by decide), up_cell (by decide)]
        have y4 : dAr h4 = dAr hv := by
          unfold dAr
          rw [fr4.1 119 (by decide), up_cell (by decide)]
        rw [y1, y2, y3, y4]
        exact ⟨rfl, rfl⟩
      have s8 : SegOK (dOp h7) (dAr h7) c c' := ⟨0 + 1, u7 c 0 (Nat.le_refl _)⟩
      have b16 : up h7 116 (32 + k) (nI c') 116 (32 + k) = nI c' := up_same
      have b16l : ∀ l, l < k → up h7 116 (32 + k) (nI c') 116 (32 + l) = hv 116 (32 + l) := fun l hl => by rw [up_oj (by omega), p116]
      generalize up h7 116 (32 + k) (nI c') = h8 at st8 o8 a8 x24 x26 p115 p117 b16 b16l ⊢
      refine s_word (fun r9 w9 => ?_)
      have fin : ∀ (h11 : PH) (e : Nat), RS e 0 h11 → c' ≤ e → SegOK (dOp h11) (dAr h11) c' e → FRa c' h8 h11 → h11 104 26 = 0 → Sf (ck (nI (32 + k)) 48 <| lt (up h11 117 (32 + k) (h11 104 25)) fun h12 => bd (mm_isSign 59 h12) fun r13 => if r13 = 0 then k1 h12 else bd (mm_reads h12) fun h14 => lt (nI k + 1) fun x15 => mm_readLaw_L2 k0 k1 k2 n x15 h14) LawQ := fun h11 e st11 ce sg fr11 z26 => by
        rw [ck_nI (by omega) (by decide), lt_e, st11.2.1]
        have st12 : RS e 0 (up h11 117 (32 + k) (nI e)) := rs_draft st11 (by omega) (by omega) _
        have o12 : dOp (up h11 117 (32 + k) (nI e)) = dOp h11 := dOp_up (by decide)
        have a12 : dAr (up h11 117 (32 + k) (nI e)) = dAr h11 := dAr_up (by decide)
        refine s_sign (fun r13 w13 => ?_)
        refine s_if (fun _ => s_w (e1 _ st12.1) (fun r q => Or.inl q)) (fun z13 => ?_)
        refine s_bd (rs_take st12 (by rw [w13 z13]; decide)) (fun h14 q => ?_)
        obtain ⟨st14, fr14⟩ := q
        rw [lt_e, nI_1]
        have o14 : dOp h14 = dOp h11 := by
          rw [← o12]
          unfold dOp
          rw [fr14.1 118 (by decide)]
        have a14 : dAr h14 = dAr h11 := by
          rw [← a12]
          unfold dAr
          rw [fr14.1 119 (by decide)]
        have v24 : h14 104 24 = 0 := by rw [fr14.2 24 (by decide) (by decide) (by decide) (by decide), up_oc (by decide), fr11.2.2 24 (by decide) (by decide) (by decide) (by decide) (by decide) (by decide) (by decide) (by decide) (by decide)]; exact x24
        have v26 : h14 104 26 = 0 := by rw [fr14.2 26 (by decide) (by decide) (by decide) (by decide), up_oc (by decide)]; exact z26
        have l115 : h14 115 = up h4 115 (32 + k) (nI c) 115 := by rw [fr14.1 115 (by decide), up_cell (by decide), fr11.1 115 (by decide) (by decide) (by decide) (by decide), p115]
        have l116 : h14 116 = h8 116 := by rw [fr14.1 116 (by decide), up_cell (by decide), fr11.1 116 (by decide) (by decide) (by decide) (by decide)]
        have l117 : h14 117 = up h11 117 (32 + k) (nI e) 117 := by rw [fr14.1 117 (by decide)]
        have m117 : h11 117 = hv 117 := by rw [fr11.1 117 (by decide) (by decide) (by decide) (by decide), p117]
        have dc : ∀ q, q < c' → dOp h14 q = dOp h7 q ∧ dAr h14 q = dAr h7 q := fun q hq => by
          obtain ⟨y1, y2⟩ := fr11.2.1 q hq
          rw [o14, a14, y1, y2, o8, a8]
          exact ⟨rfl, rfl⟩
        have dc0 : ∀ q, q < c → dOp h14 q = dOp hv q ∧ dAr h14 q = dAr hv q := fun q hq => by
          obtain ⟨y1, y2⟩ := dc q (by omega)
          obtain ⟨y3, y4⟩ := d8 q hq
          exact ⟨y1.trans y3, y2.trans y4⟩
        refine ih (k + 1) e h14 (by omega) (by omega) (rs_wk st14 (by omega)) v24 v26 (fun l hl => ?_)
        by_cases el : l = k
        · subst el
          refine ⟨c, c', e, ?_, ?_, ?_, by omega, ce, Nat.le_refl _, seg_x dc (by omega) (Nat.le_refl _) s8, ?_⟩
          · rw [l115, up_same]
          · rw [l116, b16]
          · rw [l117, up_same]
          · rw [o14, a14]; exact sg
        · obtain ⟨a, b, e3, y1, y2, y3, y4, y5, y6, y7, y8⟩ := dl l (by omega)
          refine ⟨a, b, e3, ?_, ?_, ?_, y4, y5, by omega, seg_x dc0 y4 (by omega) y7, seg_x dc0 y5 (by omega) y8⟩
          · rw [l115, up_oj (by omega), p4 115 (by decide) (by decide)]; exact y1
          · rw [l116, b16l l (by omega)]; exact y2
          · rw [l117, up_oj (by omega), m117]; exact y3
      rw [jn1_e]
      refine s_if (fun _ => ?_) (fun z9 => ?_)
      · exact fin h8 c' (rs_wk st8 (by omega)) (Nat.le_refl _) ⟨0, by rw [Nat.sub_self]; rfl⟩ ⟨fun _ _ _ _ _ => rfl, fun _ _ => ⟨rfl, rfl⟩, fun _ _ _ _ _ _ _ _ _ _ => rfl⟩ x26
      · refine s_bd (rs_take st8 (by rw [(w9 z9).1]; decide)) (fun h16 q => ?_)
        obtain ⟨st16, fr16⟩ := q
        have y26 : h16 104 26 = 0 := by rw [fr16.2 26 (by decide) (by decide) (by decide) (by decide)]; exact x26
        refine s_bd2 (sf_m_readAny st16 y26) (fun r17 h18 q => ?_)
        rcases q with ⟨q1, q2⟩ | ⟨q1, e, ke, q2⟩
        · have q1 : r17 = -1 := q1
          rw [if_pos q1]
          exact s_some (Or.inl ⟨rfl, q2⟩)
        · have q1 : r17 = 0 := q1
          rw [if_neg (by rw [q1]; decide)]
          obtain ⟨y1, y2, y3, y4, y5, y6, y7⟩ := q2
          have y1 : RS e ke h18 := y1
          have y7 : FRa c' h16 h18 := y7
          exact fin h18 e (rs_wk y1 (by omega)) y5 ⟨_, y6⟩ (fra_tr (fra_c (Nat.le_refl _) (frc_4 fr16)) y7) y4
theorem sf_m_readLaw {c : Nat} {h : PH} (st : RS c 0 h) (w24 : h 104 24 = 0) (w26 : h 104 26 = 0) : Sf (mm_readLaw h) LawQ := by
  unfold mm_readLaw
  have := law_go (fun (h19 : PH) => bd2 (mm_errs 3 h19) fun r20 h21 => some (r20, h21)) (fun (h22 : PH) => bd2 (mm_errs 1 h22) fun r23 h24 => some (r23, h24)) (fun (x25 : Int32) (h26 : PH) => if (h26 104 14) = 0 then some (x25, h26) else bd2 (mm_errs 1 h26) fun r27 h28 => some (r27, h28)) (fun g ig => er_bd 3 ig) (fun g ig => er_bd 1 ig) (fun k c g hk st w dl => by
    refine s_if (fun _ => s_some (Or.inr ⟨k, c, rfl, hk, st, w, dl⟩)) (fun _ => s_w (er_bd 1 st.1) (fun r q => Or.inl q))) FU 0 c h (by unfold FU; omega) (by omega) st w24 w26 (fun l hl => by omega)
  rw [nI_0] at this
  exact this
/-! the taking -/
def TL (o h : PH) (c : Nat) : Prop := Inv h ∧ h 148 = o 148 ∧ h 104 24 = 0 ∧ h 104 25 = nI c
theorem tl_put {o h : PH} {c b j : Nat} {v : Int32} (st : TL o h c) (hb : 114 ≤ b ∧ b ≤ 119) : TL o (up h b j v) c := by
  obtain ⟨i, e1, e2, e3⟩ := st
  have hs : sp b j = rF := by
    have h6 : b = 114 ∨ b = 115 ∨ b = 116 ∨ b = 117 ∨ b = 118 ∨ b = 119 := by omega
    rcases h6 with q | q | q | q | q | q <;> subst q <;> rfl
  exact ⟨inv_up i (by rw [hs]; exact r_full v), by rw [up_cell (by omega)]; exact e1, by rw [up_oc (by omega)]; exact e2, by rw [up_oc (by omega)]; exact e3⟩
def TB (o h : PH) (b m w t : Nat) : Prop := (∀ q, m ≤ q → h b q = o b q) ∧ ∀ q, q < t → h b q = o b (w + q)
theorem tb_put {o h : PH} {b m w t : Nat} (st : TB o h b m w t) (ht : t < m) : TB o (up h b t (o b (w + t))) b m w (t + 1) := by
  refine ⟨fun q hq => by rw [up_oj (by omega)]; exact st.1 q hq, fun q hq => ?_⟩
  by_cases e : q = t
  · subst e; exact up_same
  · rw [up_oj e]; exact st.2 q (by omega)
theorem tb_oc {o h : PH} {b m w t c j : Nat} {v : Int32} (st : TB o h b m w t) (hc : b ≠ c) : TB o (up h c j v) b m w t := ⟨fun q hq => by rw [up_oc hc]; exact st.1 q hq, fun q hq => by rw [up_oc hc]; exact st.2 q hq⟩
theorem tk2 (o : PH) (c k : Nat) (hk : k ≤ 16) (k0 : PH → Option PH) {Q : PH → Prop} (hk0 : ∀ g, TL o g c → (∀ b, 115 ≤ b → b ≤ 117 → TB o g b 32 32 k) → g 118 = o 118 → g 119 = o 119 → Sf (k0 g) Q) : ∀ (n t : Nat) (h : PH), 16 < n + t → t ≤ k → TL o h c → (∀ b, 115 ≤ b → b ≤ 117 → TB o h b 32 32 t) → h 118 = o 118 → h 119 = o 119 → (∀ q, 32 ≤ q → h 114 q = o 114 q) → Sf (mm_takesLaw_L2 (nI k) k0 n (nI t) h) Q := by
  intro n
  induction n with
  | zero => intro t h h1 h2; omega
  | succ n ih =>
    intro t h hn ht st tb e8 e9 e4
    rw [mm_takesLaw_L2]
    by_cases etk : t = k
    · subst etk
      rw [if_pos (nI_le (Nat.le_refl _) (by omega))]
      exact hk0 h st tb e8 e9
    · rw [if_neg (nI_ge (by omega) (by omega))]
      have e32 : (32 : Int32) + nI t = nI (32 + t) := nI_add 32 t
      have z : ∀ g : PH, g 104 24 = 0 → (16 : Int32) * g 104 24 + nI t = nI t := fun g hg => by rw [hg, show (16 : Int32) * 0 = 0 from rfl, Int32.zero_add]
      have i32 : ix (nI (32 + t)) = 32 + t := nI_clamp (by omega)
      have it : ix (nI t) = t := nI_clamp (by omega)
      have c32 : ∀ {ρ : Type} (q : Option ρ), ck (nI (32 + t)) 48 q = q := fun q => ck_nI (by omega) (by decide)
      have ct : ∀ {ρ : Type} (q : Option ρ), ck (nI t) 48 q = q := fun q => ck_nI (by omega) (by decide)
      have s1 := tl_put (j := t) (v := h 114 (32 + t)) st (b := 114) (by decide)
      have b1 : ∀ b, 115 ≤ b → b ≤ 117 → TB o (up h 114 t (h 114 (32 + t))) b 32 32 t := fun b h1 h2 => tb_oc (tb b h1 h2) (by omega)
      rw [e32, z h st.2.2.1, c32, ct, i32, it, lt_e, z _ s1.2.2.1, c32, ct, it]
      have f1 : up h 114 t (h 114 (32 + t)) 118 = o 118 := by rw [up_cell (by decide)]; exact e8
      have f2 : up h 114 t (h 114 (32 + t)) 119 = o 119 := by rw [up_cell (by decide)]; exact e9
      have f3 : ∀ q, 32 ≤ q → up h 114 t (h 114 (32 + t)) 114 q = o 114 q := fun q hq => by rw [up_oj (by omega)]; exact e4 q hq
      generalize up h 114 t (h 114 (32 + t)) = g1 at s1 b1 f1 f2 f3 ⊢
      rw [(b1 115 (by decide) (by decide)).1 (32 + t) (by omega), lt_e]
      have s2 := tl_put (j := t) (v := o 115 (32 + t)) s1 (b := 115) (by decide)
      have b2 : TB o (up g1 115 t (o 115 (32 + t))) 115 32 32 (t + 1) := tb_put (b1 115 (by decide) (by decide)) (by omega)
      have b2' : ∀ b, 116 ≤ b → b ≤ 117 → TB o (up g1 115 t (o 115 (32 + t))) b 32 32 t := fun b h1 h2 => tb_oc (b1 b (by omega) h2) (by omega)
      have f4 : up g1 115 t (o 115 (32 + t)) 118 = o 118 := by rw [up_cell (by decide)]; exact f1
      have f5 : up g1 115 t (o 115 (32 + t)) 119 = o 119 := by rw [up_cell (by decide)]; exact f2
      have f6 : ∀ q, 32 ≤ q → up g1 115 t (o 115 (32 + t)) 114 q = o 114 q := fun q hq => by rw [up_oc (by decide)]; exact f3 q hq
      generalize up g1 115 t (o 115 (32 + t)) = g2 at s2 b2 b2' f4 f5 f6 ⊢
      rw [z _ s2.2.2.1, c32, ct, it, (b2' 116 (by decide) (by decide)).1 (32 + t) (by omega), lt_e]
      have s3 := tl_put (j := t) (v := o 116 (32 + t)) s2 (b := 116) (by decide)
      have b3 : TB o (up g2 116 t (o 116 (32 + t))) 115 32 32 (t + 1) := tb_oc b2 (by decide)
      have b3' : TB o (up g2 116 t (o 116 (32 + t))) 116 32 32 (t + 1) := tb_put (b2' 116 (by decide) (by decide)) (by omega)
      have b3'' : TB o (up g2 116 t (o 116 (32 + t))) 117 32 32 t := tb_oc (b2' 117 (by decide) (by decide)) (by decide)
      have f7 : up g2 116 t (o 116 (32 + t)) 118 = o 118 := by rw [up_cell (by decide)]; exact f4
      have f8 : up g2 116 t (o 116 (32 + t)) 119 = o 119 := by rw [up_cell (by decide)]; exact f5
      have f9 : ∀ q, 32 ≤ q → up g2 116 t (o 116 (32 + t)) 114 q = o 114 q := fun q hq => by rw [up_oc (by decide)]; exact f6 q hq
      generalize up g2 116 t (o 116 (32 + t)) = g3 at s3 b3 b3' b3'' f7 f8 f9 ⊢
      rw [z _ s3.2.2.1, c32, ct, it, b3''.1 (32 + t) (by omega), lt_e, nI_1]
      refine ih (t + 1) _ (by omega) (by omega) (tl_put s3 (by decide)) (fun b h1 h2 => ?_) (by rw [up_cell (by decide)]; exact f7) (by rw [up_cell (by decide)]; exact f8) (fun q hq => by rw [up_oc (by decide)]; exact f9 q hq)
      have h3 : b = 115 ∨ b = 116 ∨ b = 117 := by omega
      rcases h3 with rfl | rfl | rfl
      · exact tb_oc b3 (by decide)
      · exact tb_oc b3' (by decide)
      · exact tb_put b3'' (by omega)
theorem tk107 (o : PH) (c k : Nat) (hc : c ≤ 400) (p1 : Int32) (k0 : PH → Option PH) {Q : PH → Prop} (hk0 : ∀ g, TL o g c → (∀ b, 115 ≤ b → b ≤ 117 → TB o g b 32 32 k) → TB o g 118 800 800 c → TB o g 119 800 800 c → Sf (k0 g) Q) : ∀ (n t : Nat) (h : PH), 400 < n + t → t ≤ c → TL o h c → (∀ b, 115 ≤ b → b ≤ 117 → TB o h b 32 32 k) → TB o h 118 800 800 t → TB o h 119 800 800 t → Sf (mm_takesLaw_L107 p1 k0 n (nI t) h) Q := by
  intro n
  induction n with
  | zero => intro t h h1 h2; omega
  | succ n ih =>
    intro t h hn ht st tb b8 b9
    rw [mm_takesLaw_L107, st.2.2.2]
    by_cases etk : t = c
    · subst etk
      rw [if_pos (nI_le (Nat.le_refl _) (by omega))]
      exact hk0 h st tb b8 b9
    · rw [if_neg (nI_ge (by omega) (by omega))]
      have e8 : (800 : Int32) + nI t = nI (800 + t) := nI_add 800 t
      have z : ∀ g : PH, g 104 24 = 0 → (400 : Int32) * g 104 24 + nI t = nI t := fun g hg => by rw [hg, show (400 : Int32) * 0 = 0 from rfl, Int32.zero_add]
      have i8 : ix (nI (800 + t)) = 800 + t := nI_clamp (by omega)
      have it : ix (nI t) = t := nI_clamp (by omega)
      have c8 : ∀ {ρ : Type} (q : Option ρ), ck (nI (800 + t)) 1200 q = q := fun q => ck_nI (by omega) (by decide)
      have ct : ∀ {ρ : Type} (q : Option ρ), ck (nI t) 1200 q = q := fun q => ck_nI (by omega) (by decide)
      rw [e8, z h st.2.2.1, c8, ct, i8, it, b8.1 (800 + t) (by omega), lt_e]
      have s1 := tl_put (j := t) (v := o 118 (800 + t)) st (b := 118) (by decide)
      have n8 : TB o (up h 118 t (o 118 (800 + t))) 118 800 800 (t + 1) := tb_put b8 (by omega)
      have n9 : TB o (up h 118 t (o 118 (800 + t))) 119 800 800 t := tb_oc b9 (by decide)
      have nb : ∀ b, 115 ≤ b → b ≤ 117 → TB o (up h 118 t (o 118 (800 + t))) b 32 32 k := fun b h1 h2 => tb_oc (tb b h1 h2) (by omega)
      generalize up h 118 t (o 118 (800 + t)) = g1 at s1 n8 n9 nb ⊢
      rw [z _ s1.2.2.1, c8, ct, it, n9.1 (800 + t) (by omega), lt_e, nI_1]
      exact ih (t + 1) _ (by omega) (by omega) (tl_put s1 (by decide)) (fun b h1 h2 => tb_oc (nb b h1 h2) (by omega)) (tb_oc n8 (by decide)) (tb_put n9 (by omega))
theorem sf_m_takesLaw (k c : Nat) (hk : k ≤ 16) (hc : c ≤ 400) (o : PH) (i : IM o) (e25 : o 104 25 = nI c) (e24 : o 104 24 = 0) (dl : ∀ l, l < k → DL l c o) : Sf (mm_takesLaw (nI k) o) IM := by
  unfold mm_takesLaw
  have key := tk2 o c k hk (fun (h5 : PH) => mm_takesLaw_L107 (nI k) (fun (h8 : PH) => ck (h8 104 24) 2 <| lt (up h8 113 (ix (h8 104 24)) (nI k)) fun h9 => some h9) FU 0 h5) (Q := IM) (fun g st tb e8 e9 => by
    have := tk107 o c k hc (nI k) (fun (h8 : PH) => ck (h8 104 24) 2 <| lt (up h8 113 (ix (h8 104 24)) (nI k)) fun h9 => some h9) (Q := IM) (fun g st tb b8 b9 => by
      rw [st.2.2.1, c0_2, lt_e, show ix (0 : Int32) = 0 from rfl]
      refine s_some ⟨inv_up st.1 (show R 0 16 (nI k) from ⟨by rw [nI_toInt (by omega)]; omega, by rw [nI_toInt (by omega)]; omega⟩), ?_, ?_⟩
      · intro l hl
        rw [up_same, nI_toInt (by omega)] at hl
        rw [up_cell (by decide), up_cell (by decide), up_cell (by decide), up_cell (by decide), up_cell (by decide)]
        obtain ⟨a, b, e, y1, y2, y3, y4, y5, y6, y7, y8⟩ := dl l (by omega)
        have hq : ∀ q, q < c → g 118 q = dOp o q ∧ g 119 q = dAr o q := fun q hq => ⟨b8.2 q hq, b9.2 q hq⟩
        exact ⟨a, b, e, by rw [(tb 115 (by decide) (by decide)).2 l (by omega)]; exact y1, by rw [(tb 116 (by decide) (by decide)).2 l (by omega)]; exact y2, by rw [(tb 117 (by decide) (by decide)).2 l (by omega)]; exact y3, y4, y5, by omega, seg_x hq y4 (by omega) y7, seg_x hq y5 (by omega) y8⟩
      · unfold LawImg
        rw [up_cell (by decide), st.2.1]
        exact i.2.2) FU 0 g (by unfold FU; omega) (by omega) st tb ⟨fun q _ => by rw [e8], fun q hq => by omega⟩ ⟨fun q _ => by rw [e9], fun q hq => by omega⟩
    rw [nI_0] at this
    exact this) FU 0 o (by unfold FU; omega) (by omega) ⟨i.1, rfl, e24, e25⟩ (fun b _ _ => ⟨fun _ _ => rfl, fun q hq => by omega⟩) rfl rfl (fun _ _ => rfl)
  rw [nI_0] at key
  exact key
end
