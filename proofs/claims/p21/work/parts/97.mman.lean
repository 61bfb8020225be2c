/-! SAFETY of the model, by hand: copies of rows, deeds, the tape -/
theorem deed2 {h : PH} {x : Int32} (hI : Inv h) (hk : ∃ k : Nat, k < 16 ∧ x = nI (5 * k)) : R 0 11 (h 122 (ix (x + 2))) := by
  obtain ⟨k, hk, rfl⟩ := hk
  have e : ix (nI (5 * k) + 2) = 5 * k + 2 := by rw [show nI (5 * k) + 2 = nI (5 * k + 2) from nI_add (5 * k) 2]; exact nI_clamp (by omega)
  rw [e]
  refine inv_rng hI ?_
  show spD (5 * k + 2) = _
  unfold spD
  rw [if_pos (by omega)]
theorem deed3 {h : PH} {x : Int32} (hI : Inv h) (hk : ∃ k : Nat, k < 16 ∧ x = nI (5 * k)) : R 0 3 (h 122 (ix (x + 3))) := by
  obtain ⟨k, hk, rfl⟩ := hk
  have e : ix (nI (5 * k) + 3) = 5 * k + 3 := by rw [show nI (5 * k) + 3 = nI (5 * k + 3) from nI_add (5 * k) 3]; exact nI_clamp (by omega)
  rw [e]
  refine inv_rng hI ?_
  show spD (5 * k + 3) = _
  unfold spD
  rw [if_neg (by omega), if_pos (by omega)]
theorem spW_at (u k : Nat) (hk : k < 115) : spW (115 * u + k) = if k = 2 then (0, 150) else rF := by
  unfold spW
  rw [Nat.mul_add_mod, Nat.mod_eq_of_lt hk]
theorem now_rng {h : PH} (hI : Inv h) (k : Nat) : R (if k = 2 then ((0, 150) : Int × Int) else rF).1 (if k = 2 then ((0, 150) : Int × Int) else rF).2 (h 105 k) := hI 105 k
theorem im55 (k0 : PH → Option PH) (u : Nat) (hu : u ≤ 5) {Q : PH → Prop} (hk : ∀ g, IM g → g 104 3 = nI u → Sf (k0 g) Q) : ∀ (n k : Nat) (h : PH), 115 < n + k → k ≤ 115 → IM h → h 104 3 = nI u → Sf (mm_keepsAhead_L55 k0 n (nI k) h) Q := by
  intro n
  induction n with
  | zero => intro k h h1 h2; omega
  | succ n ih =>
    intro k h h1 h2 i e
    rw [mm_keepsAhead_L55]
    by_cases hk1 : k = 115
    · subst hk1
      rw [if_pos (show (115 : Int32) ≤ nI 115 by decide)]
      exact hk h i e
    · rw [if_neg (show ¬ (115 : Int32) ≤ nI k from nI_ge (b := 115) (by omega) (by omega))]
      have e3 : 115 * h 104 3 + nI k = nI (115 * u + k) := by
        rw [e, ← nI_add]
        congr 1
        exact (Int32.ofNat_mul 115 u).symm
      rw [ck_nI (by omega) (by omega), e3, ck_nI (by omega) (by omega), lt_e, nI_1, show ix (nI (115 * u + k)) = 115 * u + k from nI_clamp (by omega), show ix (nI k) = k from nI_clamp (by omega)]
      refine ih (k + 1) _ (by omega) (by omega) (im_put i (a := (if k = 2 then ((0, 150) : Int × Int) else rF).1) (b := (if k = 2 then ((0, 150) : Int × Int) else rF).2) (show sp 106 (115 * u + k) = _ from spW_at u k (by omega)) (now_rng i.1 k) (by decide)) (by rw [up_oc (by decide)]; exact e)
theorem im21 (k0 : PH → Option PH) {Q : PH → Prop} (hk : ∀ g, IM g → g 104 3 = nI 5 → Sf (k0 g) Q) : ∀ (n k : Nat) (h : PH), 575 < n + k → k ≤ 575 → IM h → h 104 3 = nI 5 → Sf (mm_keepsAhead_L21 k0 n (nI k) h) Q := by
  intro n
  induction n with
  | zero => intro k h h1 h2; omega
  | succ n ih =>
    intro k h h1 h2 i e
    rw [mm_keepsAhead_L21]
    have e3 : 115 * h 104 3 = nI 575 := by rw [e]; decide
    rw [e3]
    by_cases hk1 : k = 575
    · subst hk1
      rw [if_pos (nI_le (Nat.le_refl _) (by omega))]
      exact hk h i e
    · rw [if_neg (nI_ge (by omega) (by omega))]
      have e4 : nI k + 115 = nI (k + 115) := nI_add k 115
      rw [e4, ck_nI (by omega) (by omega), ck_nI (by omega) (by omega), lt_e, nI_1, show ix (nI (k + 115)) = k + 115 from nI_clamp (by omega), show ix (nI k) = k from nI_clamp (by omega)]
      refine ih (k + 1) _ (by omega) (by omega) ?_ (by rw [up_oc (by decide)]; exact e)
      have hv := i.1 106 (k + 115)
      have es : sp 106 (k + 115) = sp 106 k := by
        show spW (k + 115) = spW k
        unfold spW
        rw [Nat.add_mod_right]
      rw [es] at hv
      exact im_put i (a := (sp 106 k).1) (b := (sp 106 k).2) rfl hv (by decide)
theorem sf_m_keepsAhead {h0 : PH} (i : IM h0) : Sf (mm_keepsAhead h0) (fun h => IM h) := by
  have f3 : R 0 6 (h0 104 3) := inv_rng i.1 rfl
  have fin : ∀ (u : Nat) (g : PH), u ≤ 5 → IM g → g 104 3 = nI u → Sf (mm_keepsAhead_L55 (fun h4 => lt (up h4 104 3 (h4 104 3 + 1)) fun h5 => some h5) FU 0 g) (fun h => IM h) := fun u g hu ig eg => by
    have := im55 (fun h4 => lt (up h4 104 3 (h4 104 3 + 1)) fun h5 => some h5) u hu (Q := fun h => IM h) (fun g2 i2 e2 => s_lt (fun h5 e5 => s_some (by
      rw [e5, e2, nI_1]
      exact im_put i2 (show sp 104 3 = (0, 6) from rfl) ⟨by rw [nI_toInt (by omega)]; omega, by rw [nI_toInt (by omega)]; omega⟩ (by decide)))) FU 0 g (by unfold FU; omega) (by omega) ig eg
    rw [nI_0] at this
    exact this
  obtain ⟨u, h1, h2, eu⟩ := nat_of f3 (by decide)
  unfold mm_keepsAhead
  rw [jn1_e]
  by_cases c : h0 104 3 = 6
  · rw [if_pos c]
    have e5 : h0 104 3 - 1 = nI 5 := by rw [c]; decide
    rw [lt_e, e5]
    have := im21 (fun h8 => mm_keepsAhead_L55 (fun h4 => lt (up h4 104 3 (h4 104 3 + 1)) fun h5 => some h5) FU 0 h8) (Q := fun h => IM h) (fun g ig eg => fin 5 g (by omega) ig eg) FU 0 (up h0 104 3 (nI 5)) (by unfold FU; omega) (by omega) (im_put i (show sp 104 3 = (0, 6) from rfl) ⟨by decide, by decide⟩ (by decide)) up_same
    rw [nI_0] at this
    exact this
  · rw [if_neg c]
    refine fin u h0 ?_ i eu
    rcases Nat.lt_or_ge u 6 with q | q
    · omega
    · exfalso; apply c; rw [eu, show u = 6 by omega]; rfl
theorem sp105_at (k : Nat) : sp 105 k = if k = 2 then (0, 150) else rF := rfl
theorem sp107_at (k : Nat) : sp 107 k = if k = 2 then (0, 150) else rF := rfl
theorem im26 (u : Nat) (hu : u ≤ 5) : ∀ (n k : Nat) (h : PH), 115 < n + k → k ≤ 115 → IM h → h 104 3 = nI u → Sf (mm_undo_L26 n (nI k) h) (fun r => R 0 1 r.1 ∧ IM r.2) := by
  intro n
  induction n with
  | zero => intro k h h1 h2; omega
  | succ n ih =>
    intro k h h1 h2 i e
    rw [mm_undo_L26]
    by_cases hk1 : k = 115
    · subst hk1
      rw [if_pos (show (115 : Int32) ≤ nI 115 by decide)]
      exact s_some ⟨(show R 0 1 (1 : Int32) from ⟨by decide, by decide⟩), i⟩
    · rw [if_neg (show ¬ (115 : Int32) ≤ nI k from nI_ge (b := 115) (by omega) (by omega))]
      have e3 : 115 * h 104 3 + nI k = nI (115 * u + k) := by
        rw [e, ← nI_add]
        congr 1
        exact (Int32.ofNat_mul 115 u).symm
      rw [e3, ck_nI (by omega) (by omega), ck_nI (by omega) (by omega), lt_e, nI_1, show ix (nI (115 * u + k)) = 115 * u + k from nI_clamp (by omega), show ix (nI k) = k from nI_clamp (by omega)]
      have hv := i.1 106 (115 * u + k)
      rw [show sp 106 (115 * u + k) = _ from spW_at u k (by omega)] at hv
      exact ih (k + 1) _ (by omega) (by omega) (im_put i (a := (if k = 2 then ((0, 150) : Int × Int) else rF).1) (b := (if k = 2 then ((0, 150) : Int × Int) else rF).2) (sp105_at k) hv (by decide)) (by rw [up_oc (by decide)]; exact e)
theorem sf_m_undo {h0 : PH} (i : IM h0) : Sf (mm_undo h0) (fun r => R 0 1 r.1 ∧ IM r.2) := by
  unfold mm_undo
  rw [lt_e]
  have i1 : IM (up h0 104 0 0) := im_put i (show sp 104 0 = (-2147483648, 2147483647) from rfl) (r_full _) (by decide)
  have f3 : R 0 6 (up h0 104 0 0 104 3) := inv_rng i1.1 rfl
  refine s_if (fun c => s_some ⟨(show R 0 1 (0 : Int32) from ⟨by decide, by decide⟩), i1⟩) (fun c => ?_)
  obtain ⟨u, h1, h2, eu⟩ := nat_of f3 (by decide)
  have u0 : 0 < u := by
    rcases Nat.eq_zero_or_pos u with q | q
    · exfalso; apply c; rw [eu, q]; exact nI_0
    · exact q
  obtain ⟨v, rfl⟩ : ∃ v, u = v + 1 := ⟨u - 1, by omega⟩
  rw [eu, nI_pred, lt_e]
  have := im26 v (by omega) FU 0 (up (up h0 104 0 0) 104 3 (nI v)) (by unfold FU; omega) (by omega) (im_put i1 (show sp 104 3 = (0, 6) from rfl) ⟨by rw [nI_toInt (by omega)]; omega, by rw [nI_toInt (by omega)]; omega⟩ (by decide)) up_same
  rw [nI_0] at this
  exact this
theorem imth (k0 : PH → Option PH) {Q : PH → Prop} (hk : ∀ g, IM g → Sf (k0 g) Q) : ∀ (n k : Nat) (h : PH), 115 < n + k → k ≤ 115 → IM h → Sf (mm_thinks_L2 k0 n (nI k) h) Q := by
  intro n
  induction n with
  | zero => intro k h h1 h2; omega
  | succ n ih =>
    intro k h h1 h2 i
    rw [mm_thinks_L2]
    by_cases hk1 : k = 115
    · subst hk1
      rw [if_pos (show (115 : Int32) ≤ nI 115 by decide)]
      exact hk h i
    · rw [if_neg (show ¬ (115 : Int32) ≤ nI k from nI_ge (b := 115) (by omega) (by omega)), ck_nI (by omega) (by omega), ck_nI (by omega) (by omega), lt_e, nI_1, show ix (nI k) = k from nI_clamp (by omega)]
      exact ih (k + 1) _ (by omega) (by omega) (im_put i (a := (if k = 2 then ((0, 150) : Int × Int) else rF).1) (b := (if k = 2 then ((0, 150) : Int × Int) else rF).2) (sp107_at k) (now_rng i.1 k) (by decide))
theorem sf_m_thinks {h0 : PH} (i : IM h0) : Sf (mm_thinks h0) (fun h => IM h) := by
  unfold mm_thinks
  have := imth (fun h2 => lt (up h2 104 5 1) fun h3 => some h3) (Q := fun h => IM h) (fun g ig => s_lt (fun h3 e3 => s_some (by rw [e3]; exact im_put ig (show sp 104 5 = (0, 1) from rfl) ⟨by decide, by decide⟩ (by decide)))) FU 0 h0 (by unfold FU; omega) (by omega) i
  rw [nI_0] at this
  exact this
theorem imet (k0 : PH → Option PH) {Q : PH → Prop} (hk : ∀ g, IM g → Sf (k0 g) Q) : ∀ (n k : Nat) (h : PH), 115 < n + k → k ≤ 115 → IM h → Sf (mm_endsThought_L2 k0 n (nI k) h) Q := by
  intro n
  induction n with
  | zero => intro k h h1 h2; omega
  | succ n ih =>
    intro k h h1 h2 i
    rw [mm_endsThought_L2]
    by_cases hk1 : k = 115
    · subst hk1
      rw [if_pos (show (115 : Int32) ≤ nI 115 by decide)]
      exact hk h i
    · rw [if_neg (show ¬ (115 : Int32) ≤ nI k from nI_ge (b := 115) (by omega) (by omega)), ck_nI (by omega) (by omega), ck_nI (by omega) (by omega), lt_e, nI_1, show ix (nI k) = k from nI_clamp (by omega)]
      have hv := i.1 107 k
      rw [sp107_at] at hv
      exact ih (k + 1) _ (by omega) (by omega) (im_put i (a := (if k = 2 then ((0, 150) : Int × Int) else rF).1) (b := (if k = 2 then ((0, 150) : Int × Int) else rF).2) (sp105_at k) hv (by decide))
theorem sf_m_endsThought {h0 : PH} (i : IM h0) : Sf (mm_endsThought h0) (fun h => IM h) := by
  unfold mm_endsThought
  have := imet (fun h2 => lt (up h2 104 5 0) fun h3 => some h3) (Q := fun h => IM h) (fun g ig => s_lt (fun h3 e3 => s_some (by rw [e3]; exact im_put ig (show sp 104 5 = (0, 1) from rfl) ⟨by decide, by decide⟩ (by decide)))) FU 0 h0 (by unfold FU; omega) (by omega) i
  rw [nI_0] at this
  exact this
/-- the tape -/
theorem im_types (p : Int32) (g : PH) (l : Nat) (i : IM g) (e : g 104 11 = nI l) (hl : l + 4 ≤ 400) : ∃ g', mm_types p g = some g' ∧ g' 104 11 = nI (l + 4) ∧ IM g' := by
  have st : ∀ (h : PH) (v : Int32) (m : Nat), IM h → m < 400 → IM (up (up h 111 m v) 104 11 (nI (m + 1))) := fun h v m ih hm => im_put (im_put ih (show sp 111 m = (-2147483648, 2147483647) from rfl) (r_full v) (by decide)) (show sp 104 11 = (0, 400) from rfl) ⟨by rw [nI_toInt (by omega)]; omega, by rw [nI_toInt (by omega)]; omega⟩ (by decide)
  unfold mm_types
  rw [show FU = 99995 + 1 + 1 + 1 + 1 + 1 from rfl]
  rw [ty_step (by decide) e (by omega), ty_step (l := l + 1) (by decide) (by simp [up_at]) (by omega), ty_step (l := l + 1 + 1) (by decide) (by simp [up_at]) (by omega), ty_step (l := l + 1 + 1 + 1) (by decide) (by simp [up_at]) (by omega), mm_types_L3, if_pos (by decide)]
  exact ⟨_, rfl, by simp [up_at], st _ _ _ (st _ _ _ (st _ _ _ (st _ _ _ i (by omega)) (by omega)) (by omega)) (by omega)⟩
theorem sf_m_feed (a b c d e : Int32) {h0 : PH} (i : IM h0) : Sf (mm_feed a b c d e h0) (fun r => R (-2147483648) 2147483647 r.1 ∧ IM r.2) := by
  unfold mm_feed
  rw [lt_e]
  have i1 : IM (up h0 104 0 0) := im_put i (show sp 104 0 = (-2147483648, 2147483647) from rfl) (r_full _) (by decide)
  have f3 : R 0 400 (up h0 104 0 0 104 11) := inv_rng i1.1 rfl
  refine s_if (fun cc => ?_) (fun _ => s_some ⟨r_full _, i1⟩)
  obtain ⟨l, l1, l2, el⟩ := nat_of (le_hi f3 (show R 380 380 (380 : Int32) from ⟨by decide, by decide⟩) cc) (by decide)
  obtain ⟨h1, p1, q1, j1⟩ := im_types a _ l i1 el (by omega)
  obtain ⟨h2, p2, q2, j2⟩ := im_types b h1 (l + 4) j1 q1 (by omega)
  obtain ⟨h3, p3, q3, j3⟩ := im_types c h2 (l + 4 + 4) j2 q2 (by omega)
  obtain ⟨h4, p4, q4, j4⟩ := im_types d h3 (l + 4 + 4 + 4) j3 q3 (by omega)
  obtain ⟨h5, p5, q5, j5⟩ := im_types e h4 (l + 4 + 4 + 4 + 4) j4 q4 (by omega)
  rw [p1, bd_e, p2, bd_e, p3, bd_e, p4, bd_e, p5, bd_e]
  exact s_some ⟨r_full _, j5⟩
