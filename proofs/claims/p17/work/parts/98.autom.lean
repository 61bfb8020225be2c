/-! SAFETY of the mirrors, by ranges. Printed by wip/gen/drive.py -/
theorem sf_m_isIn (p1 : Int32) (p2 : Int32) (p3 : Int32) {h0 : PH} (i_h0 : IM h0) : Sf (mm_isIn p1 p2 p3 h0) (fun r => R 0 1 r) := by
  unfold mm_isIn
  refine s_if (fun c1 => ?_) (fun c1 => ?_)
  ·
    have f2 : R (-2147483648) 2147483646 p1 := lt_hi (r_full p1) (r_full p2) c1 (by decide)
    have f3 : R (-2147483647) 2147483647 p2 := lt_lo (r_full p1) (r_full p2) c1 (by decide)
    exact s_some (r_w (⟨by decide, by decide⟩ : R 0 0 (0 : Int32)) (by decide))
  ·
    refine s_if (fun c4 => ?_) (fun c4 => ?_)
    ·
      have f5 : R (-2147483648) 2147483646 p3 := lt_hi (r_full p3) (r_full p1) c4 (by decide)
      have f6 : R (-2147483647) 2147483647 p1 := lt_lo (r_full p3) (r_full p1) c4 (by decide)
      exact s_some (r_w (⟨by decide, by decide⟩ : R 0 0 (0 : Int32)) (by decide))
    ·
      exact s_some (r_w (⟨by decide, by decide⟩ : R 1 1 (1 : Int32)) (by decide))
theorem sf_m_held (p1 : Int32) (p2 : Int32) (p3 : Int32) {h0 : PH} (i_h0 : IM h0) : Sf (mm_held p1 p2 p3 h0) (fun r => R (-2147483648) 2147483647 r) := by
  unfold mm_held
  refine s_if (fun c1 => ?_) (fun c1 => ?_)
  ·
    refine s_if (fun c2 => ?_) (fun c2 => ?_)
    ·
      exact s_some (r_w (r_full p1) (by decide))
    ·
      have f3 : R (-2147483648) 2147483646 p3 := lt_hi (r_full p3) (r_full p1) (nle_lt c2) (by decide)
      have f4 : R (-2147483647) 2147483647 p1 := lt_lo (r_full p3) (r_full p1) (nle_lt c2) (by decide)
      exact s_some (r_w f3 (by decide))
  ·
    have f5 : R (-2147483648) 2147483646 p1 := lt_hi (r_full p1) (r_full p2) (nle_lt c1) (by decide)
    have f6 : R (-2147483647) 2147483647 p2 := lt_lo (r_full p1) (r_full p2) (nle_lt c1) (by decide)
    exact s_some (r_w f6 (by decide))
theorem sf_m_greater (p1 : Int32) (p2 : Int32) {h0 : PH} (i_h0 : IM h0) : Sf (mm_greater p1 p2 h0) (fun r => R (-2147483648) 2147483647 r) := by
  unfold mm_greater
  refine s_if (fun c1 => ?_) (fun c1 => ?_)
  ·
    exact s_some (r_w (r_full p2) (by decide))
  ·
    have f2 : R (-2147483648) 2147483646 p2 := lt_hi (r_full p2) (r_full p1) (nle_lt c1) (by decide)
    have f3 : R (-2147483647) 2147483647 p1 := lt_lo (r_full p2) (r_full p1) (nle_lt c1) (by decide)
    exact s_some (r_w f3 (by decide))
theorem sf_m_lesser (p1 : Int32) (p2 : Int32) {h0 : PH} (i_h0 : IM h0) : Sf (mm_lesser p1 p2 h0) (fun r => R (-2147483648) 2147483647 r) := by
  unfold mm_lesser
  refine s_if (fun c1 => ?_) (fun c1 => ?_)
  ·
    exact s_some (r_w (r_full p2) (by decide))
  ·
    have f2 : R (-2147483648) 2147483646 p1 := lt_hi (r_full p1) (r_full p2) (nle_lt c1) (by decide)
    have f3 : R (-2147483647) 2147483647 p2 := lt_lo (r_full p1) (r_full p2) (nle_lt c1) (by decide)
    exact s_some (r_w f2 (by decide))
theorem sf_m_apart (p1 : Int32) (p2 : Int32) {h0 : PH} (i_h0 : IM h0) : Sf (mm_apart p1 p2 h0) (fun r => R (-2147483648) 2147483647 r) := by
  unfold mm_apart
  refine s_if (fun c1 => ?_) (fun c1 => ?_)
  ·
    exact s_some (r_w (r_full (p2 - p1)) (by decide))
  ·
    have f2 : R (-2147483648) 2147483646 p2 := lt_hi (r_full p2) (r_full p1) (nle_lt c1) (by decide)
    have f3 : R (-2147483647) 2147483647 p1 := lt_lo (r_full p2) (r_full p1) (nle_lt c1) (by decide)
    exact s_some (r_w (r_full (p1 - p2)) (by decide))
theorem sf_m_has (p1 : Int32) (p2 : Int32) {h0 : PH} (i_h0 : IM h0) : Sf (mm_has p1 p2 h0) (fun r => R 0 1 r) := by
  unfold mm_has
  refine s_if (fun c1 => ?_) (fun c1 => ?_)
  ·
    have f2 : R 1 1 ((p1 >>> (p2 &&& 31)) &&& 1) := r_eq (⟨by decide, by decide⟩ : R 1 1 (1 : Int32)) c1
    exact s_some (r_w (⟨by decide, by decide⟩ : R 1 1 (1 : Int32)) (by decide))
  ·
    have f3 : R 0 0 ((p1 >>> (p2 &&& 31)) &&& 1) := r_ne_hi (r_and (⟨by decide, by decide⟩ : R 1 1 (1 : Int32)) (by decide) : R 0 1 ((p1 >>> (p2 &&& 31)) &&& 1)) (⟨by decide, by decide⟩ : R 1 1 (1 : Int32)) c1 (by decide)
    exact s_some (r_w (⟨by decide, by decide⟩ : R 0 0 (0 : Int32)) (by decide))
theorem sf_m_state (p1 : Int32) {h0 : PH} (i_h0 : IM h0) : Sf (mm_state p1 h0) (fun r => R (-2147483648) 2147483647 r.1 ∧ IM r.2) := by
  unfold mm_state
  refine s_lt (fun h1 e1 => ?_)
  have i2 : IM h1 := by rw [e1]; exact im_put i_h0 rfl (r_w (⟨by decide, by decide⟩ : R 0 0 (0 : Int32)) (by decide)) (by decide)
  refine s_ck (⟨by decide, by decide⟩ : R 1 1 (1 : Int32)) (by decide) ?_
  refine s_lt (fun x2 e3 => ?_)
  refine s_ck (⟨by decide, by decide⟩ : R 1 1 (1 : Int32)) (by decide) ?_
  refine s_lt (fun h3 e4 => ?_)
  have i5 : IM h3 := by rw [e4]; exact im_put i2 rfl (r_w (r_full p1) (by decide)) (by decide)
  refine s_lt (fun h4 e6 => ?_)
  have i7 : IM h4 := by rw [e6]; exact im_put i5 rfl (r_w (⟨by decide, by decide⟩ : R 0 0 (0 : Int32)) (by decide)) (by decide)
  exact s_some ⟨r_w (r_full x2) (by decide), i7⟩
theorem sf_m_draw (p1 : Int32) (f_p1 : R 1 1000 p1) {h0 : PH} (i_h0 : IM h0) : Sf (mm_draw p1 h0) (fun r => R (-2147483648) 2147483647 r.1 ∧ IM r.2) := by
  unfold mm_draw
  refine s_ck (⟨by decide, by decide⟩ : R 1 1 (1 : Int32)) (by decide) ?_
  refine s_ck (⟨by decide, by decide⟩ : R 1 1 (1 : Int32)) (by decide) ?_
  refine s_lt (fun h1 e1 => ?_)
  have i2 : IM h1 := by rw [e1]; exact im_put i_h0 rfl (r_w (r_full ((1664525 * (h0 105 (ix 1))) + 1013904223)) (by decide)) (by decide)
  refine s_ck (⟨by decide, by decide⟩ : R 1 1 (1 : Int32)) (by decide) ?_
  refine s_dz f_p1 (by decide) ?_
  exact s_some ⟨r_w (r_full (irm (ushr (h1 105 (ix 1)) 8) p1)) (by decide), i2⟩
theorem sf_m_isHouse (p1 : Int32) {h0 : PH} (i_h0 : IM h0) : Sf (mm_isHouse p1 h0) (fun r => R 0 1 r) := by
  unfold mm_isHouse
  refine s_if (fun c1 => ?_) (fun c1 => ?_)
  ·
    have f2 : R (-2147483648) (-1) p1 := lt_hi (r_full p1) (⟨by decide, by decide⟩ : R 0 0 (0 : Int32)) c1 (by decide)
    exact s_some (r_w (⟨by decide, by decide⟩ : R 0 0 (0 : Int32)) (by decide))
  ·
    have f3 : R 0 2147483647 p1 := le_lo (⟨by decide, by decide⟩ : R 0 0 (0 : Int32)) (r_full p1) (nlt_le c1)
    refine s_if (fun c4 => ?_) (fun c4 => ?_)
    ·
      exact s_some (r_w (⟨by decide, by decide⟩ : R 0 0 (0 : Int32)) (by decide))
    ·
      have f5 : R 0 11 p1 := lt_hi f3 (inv_rng (i_h0).1 rfl : R 0 12 (h0 104 6)) (nle_lt c4) (by decide)
      have f6 : R 1 12 (h0 104 6) := lt_lo f3 (inv_rng (i_h0).1 rfl : R 0 12 (h0 104 6)) (nle_lt c4) (by decide)
      exact s_some (r_w (⟨by decide, by decide⟩ : R 1 1 (1 : Int32)) (by decide))
theorem sf_m_wallOf (p1 : Int32) (p2 : Int32) (f_p1 : R 0 11 p1) (f_p2 : R 0 3 p2) {h0 : PH} (i_h0 : IM h0) : Sf (mm_wallOf p1 p2 h0) (fun r => R (-2147483648) 2147483647 r) := by
  unfold mm_wallOf
  refine s_ck (r_add (r_add (⟨by decide, by decide⟩ : R 7 7 (7 : Int32)) (r_mul (⟨by decide, by decide⟩ : R 4 4 (4 : Int32)) f_p1 (by decide) : R 0 44 (4 * p1)) (by decide) : R 7 51 (7 + (4 * p1))) f_p2 (by decide) : R 7 54 ((7 + (4 * p1)) + p2)) (by decide) ?_
  exact s_some (r_w (r_full (h0 105 (ix ((7 + (4 * p1)) + p2)))) (by decide))
theorem sf_m_hasWall (p1 : Int32) (p2 : Int32) (p3 : Int32) (f_p1 : R 0 11 p1) (f_p2 : R 0 3 p2) {h0 : PH} (i_h0 : IM h0) : Sf (mm_hasWall p1 p2 p3 h0) (fun h => IM h) := by
  unfold mm_hasWall
  refine s_bd (sf_m_held p3 0 99 i_h0) (fun r1 f1 => ?_)
  refine s_ck (r_add (r_add (⟨by decide, by decide⟩ : R 7 7 (7 : Int32)) (r_mul (⟨by decide, by decide⟩ : R 4 4 (4 : Int32)) f_p1 (by decide) : R 0 44 (4 * p1)) (by decide) : R 7 51 (7 + (4 * p1))) f_p2 (by decide) : R 7 54 ((7 + (4 * p1)) + p2)) (by decide) ?_
  refine s_lt (fun h2 e2 => ?_)
  have i3 : IM h2 := by rw [e2]; exact im_put i_h0 (sp_ne105 (r_add (r_add (⟨by decide, by decide⟩ : R 7 7 (7 : Int32)) (r_mul (⟨by decide, by decide⟩ : R 4 4 (4 : Int32)) f_p1 (by decide) : R 0 44 (4 * p1)) (by decide) : R 7 51 (7 + (4 * p1))) f_p2 (by decide) : R 7 54 ((7 + (4 * p1)) + p2)) (by decide)) (r_w (r_full r1) (by decide)) (by decide)
  exact s_some i3
theorem sf_m_sumOf (p1 : Int32) (f_p1 : R 0 11 p1) {h0 : PH} (i_h0 : IM h0) : Sf (mm_sumOf p1 h0) (fun r => R (-2147483648) 2147483647 r) := by
  unfold mm_sumOf
  refine s_bd (sf_m_wallOf p1 0 (r_w f_p1 (by decide)) (r_w (⟨by decide, by decide⟩ : R 0 0 (0 : Int32)) (by decide)) i_h0) (fun r1 f1 => ?_)
  refine s_bd (sf_m_wallOf p1 1 (r_w f_p1 (by decide)) (r_w (⟨by decide, by decide⟩ : R 1 1 (1 : Int32)) (by decide)) i_h0) (fun r2 f2 => ?_)
  refine s_bd (sf_m_wallOf p1 2 (r_w f_p1 (by decide)) (r_w (⟨by decide, by decide⟩ : R 2 2 (2 : Int32)) (by decide)) i_h0) (fun r3 f3 => ?_)
  refine s_bd (sf_m_wallOf p1 3 (r_w f_p1 (by decide)) (r_w (⟨by decide, by decide⟩ : R 3 3 (3 : Int32)) (by decide)) i_h0) (fun r4 f4 => ?_)
  exact s_some (r_w (r_full (((r1 + r2) + r3) + r4)) (by decide))
theorem sf_m_doesStand (p1 : Int32) (f_p1 : R 0 11 p1) {h0 : PH} (i_h0 : IM h0) : Sf (mm_doesStand p1 h0) (fun r => R 0 1 r) := by
  unfold mm_doesStand
  refine s_bd (sf_m_sumOf p1 (r_w f_p1 (by decide)) i_h0) (fun r1 f1 => ?_)
  refine s_if (fun c2 => ?_) (fun c2 => ?_)
  ·
    have f3 : R (-2147483648) 0 r1 := le_hi (r_full r1) (⟨by decide, by decide⟩ : R 0 0 (0 : Int32)) c2
    exact s_some (r_w (⟨by decide, by decide⟩ : R 0 0 (0 : Int32)) (by decide))
  ·
    have f4 : R 1 2147483647 r1 := lt_lo (⟨by decide, by decide⟩ : R 0 0 (0 : Int32)) (r_full r1) (nle_lt c2) (by decide)
    exact s_some (r_w (⟨by decide, by decide⟩ : R 1 1 (1 : Int32)) (by decide))
theorem sl_m_thickest_L4 (p1 : Int32) (h0 : PH) (f_p1 : R 0 11 p1) (i_h0 : IM h0) : ∀ (n : Nat) (v2 : Int32) (v3 : Int32), 4 - v3.toInt < (n : Int) → R 0 3 v2 → R 1 4 v3 → Sf (mm_thickest_L4 p1 h0 n v2 v3) (fun r => R 0 3 r) := by
  intro n
  induction n with
  | zero =>
    intro v2 v3 hfu f_v2 f_v3
    have := f_v3.2
    omega
  | succ n ih =>
    intro v2 v3 hfu f_v2 f_v3
    rw [mm_thickest_L4]
    refine s_if (fun c1 => ?_) (fun c1 => ?_)
    ·
      have f2 : R 4 4 v3 := le_lo (⟨by decide, by decide⟩ : R 4 4 (4 : Int32)) f_v3 c1
      exact s_some (r_w f_v2 (by decide))
    ·
      have f3 : R 1 3 v3 := lt_hi f_v3 (⟨by decide, by decide⟩ : R 4 4 (4 : Int32)) (nle_lt c1) (by decide)
      refine s_bd (sf_m_wallOf p1 v3 (r_w f_p1 (by decide)) (r_w f3 (by decide)) i_h0) (fun r1 f4 => ?_)
      refine s_bd (sf_m_wallOf p1 v2 (r_w f_p1 (by decide)) (r_w f_v2 (by decide)) i_h0) (fun r2 f5 => ?_)
      refine s_if (fun c6 => ?_) (fun c6 => ?_)
      ·
        exact ih v2 (v3 + 1) (fu_su hfu (i_inc f3 (k := 1) rfl (by decide)) (by decide)) (r_w f_v2 (by decide)) (r_w (r_add f3 (⟨by decide, by decide⟩ : R 1 1 (1 : Int32)) (by decide) : R 2 4 (v3 + 1)) (by decide))
      ·
        have f7 : R (-2147483648) 2147483646 r2 := lt_hi (r_full r2) (r_full r1) (nle_lt c6) (by decide)
        have f8 : R (-2147483647) 2147483647 r1 := lt_lo (r_full r2) (r_full r1) (nle_lt c6) (by decide)
        exact ih v3 (v3 + 1) (fu_su hfu (i_inc f3 (k := 1) rfl (by decide)) (by decide)) (r_w f3 (by decide)) (r_w (r_add f3 (⟨by decide, by decide⟩ : R 1 1 (1 : Int32)) (by decide) : R 2 4 (v3 + 1)) (by decide))
theorem sf_m_thickest (p1 : Int32) (f_p1 : R 0 11 p1) {h0 : PH} (i_h0 : IM h0) : Sf (mm_thickest p1 h0) (fun r => R 0 3 r) := by
  unfold mm_thickest
  refine sl_m_thickest_L4 p1 h0 (r_w f_p1 (by decide)) i_h0 FU 0 1 (fu_up (⟨by decide, by decide⟩ : R 1 1 (1 : Int32)) (by decide)) (r_w (⟨by decide, by decide⟩ : R 0 0 (0 : Int32)) (by decide)) (r_w (⟨by decide, by decide⟩ : R 1 1 (1 : Int32)) (by decide))
theorem sl_m_standingSet_L4 (h0 : PH) (i_h0 : IM h0) : ∀ (n : Nat) (v1 : Int32) (v2 : Int32), 12 - v2.toInt < (n : Int) → R 0 4095 v1 → R 0 12 v2 → Sf (mm_standingSet_L4 h0 n v1 v2) (fun r => R 0 4095 r) := by
  intro n
  induction n with
  | zero =>
    intro v1 v2 hfu f_v1 f_v2
    have := f_v2.2
    omega
  | succ n ih =>
    intro v1 v2 hfu f_v1 f_v2
    rw [mm_standingSet_L4]
    refine s_if (fun c1 => ?_) (fun c1 => ?_)
    ·
      exact s_some (r_w f_v1 (by decide))
    ·
      have f2 : R 0 11 v2 := lt_hi f_v2 (inv_rng (i_h0).1 rfl : R 0 12 (h0 104 6)) (nle_lt c1) (by decide)
      have f3 : R 1 12 (h0 104 6) := lt_lo f_v2 (inv_rng (i_h0).1 rfl : R 0 12 (h0 104 6)) (nle_lt c1) (by decide)
      refine s_bd (sf_m_doesStand v2 (r_w f2 (by decide)) i_h0) (fun r1 f4 => ?_)
      refine s_if (fun c5 => ?_) (fun c5 => ?_)
      ·
        have f6 : R 0 0 r1 := r_eq (⟨by decide, by decide⟩ : R 0 0 (0 : Int32)) c5
        exact ih v1 (v2 + 1) (fu_su hfu (i_inc f2 (k := 1) rfl (by decide)) (by decide)) (r_w f_v1 (by decide)) (r_w (r_add f2 (⟨by decide, by decide⟩ : R 1 1 (1 : Int32)) (by decide) : R 1 12 (v2 + 1)) (by decide))
      ·
        have f7 : R 1 1 r1 := r_ne_lo f4 (⟨by decide, by decide⟩ : R 0 0 (0 : Int32)) c5 (by decide)
        refine s_lt (fun x2 e8 => ?_)
        have f9 : R 0 4095 x2 := by rw [e8]; exact (r_or 12 (r_w f_v1 (by decide)) (r_w (r_shl f2 (by decide) : R 1 2048 (1 <<< (v2 &&& 31))) (by decide)) (by decide) : R 0 4095 (v1 ||| (1 <<< (v2 &&& 31))))
        exact ih x2 (v2 + 1) (fu_su hfu (i_inc f2 (k := 1) rfl (by decide)) (by decide)) (r_w f9 (by decide)) (r_w (r_add f2 (⟨by decide, by decide⟩ : R 1 1 (1 : Int32)) (by decide) : R 1 12 (v2 + 1)) (by decide))
theorem sf_m_standingSet {h0 : PH} (i_h0 : IM h0) : Sf (mm_standingSet h0) (fun r => R 0 4095 r) := by
  unfold mm_standingSet
  refine sl_m_standingSet_L4 h0 i_h0 FU 0 0 (fu_up (⟨by decide, by decide⟩ : R 0 0 (0 : Int32)) (by decide)) (r_w (⟨by decide, by decide⟩ : R 0 0 (0 : Int32)) (by decide)) (r_w (⟨by decide, by decide⟩ : R 0 0 (0 : Int32)) (by decide))
theorem sl_m_house_L52 (p1 : Int32) (p2 : Int32) (p3 : Int32) (k0 : PH → Option (Int32 × PH)) (f_p1 : R 0 99 p1) (f_p2 : R 0 9 p2) (f_p3 : R 0 9 p3) (hk_k0 : ∀ (y0 : PH), IM y0 → R 0 11 (y0 104 6) → Sf (k0 y0) (fun r => R (-1) 11 r.1 ∧ IM r.2)) : ∀ (n : Nat) (v4 : Int32) (hv : PH), 4 - v4.toInt < (n : Int) → R 0 4 v4 → IM hv → R 0 11 (hv 104 6) → Sf (mm_house_L52 p1 p2 p3 k0 n v4 hv) (fun r => R (-1) 11 r.1 ∧ IM r.2) := by
  intro n
  induction n with
  | zero =>
    intro v4 hv hfu f_v4 i_hv f_hv_104_6
    have := f_v4.2
    omega
  | succ n ih =>
    intro v4 hv hfu f_v4 i_hv f_hv_104_6
    rw [mm_house_L52]
    refine s_if (fun c1 => ?_) (fun c1 => ?_)
    ·
      have f2 : R 4 4 v4 := le_lo (⟨by decide, by decide⟩ : R 4 4 (4 : Int32)) f_v4 c1
      exact hk_k0 _ (i_hv) ((r_w f_hv_104_6 (by decide)))
    ·
      have f3 : R 0 3 v4 := lt_hi f_v4 (⟨by decide, by decide⟩ : R 4 4 (4 : Int32)) (nle_lt c1) (by decide)
      refine s_ck (r_add (r_add (⟨by decide, by decide⟩ : R 7 7 (7 : Int32)) (r_mul (⟨by decide, by decide⟩ : R 4 4 (4 : Int32)) f_hv_104_6 (by decide) : R 0 44 (4 * (hv 104 6))) (by decide) : R 7 51 (7 + (4 * (hv 104 6)))) f3 (by decide) : R 7 54 ((7 + (4 * (hv 104 6))) + v4)) (by decide) ?_
      refine s_lt (fun h5 e4 => ?_)
      have i5 : IM h5 := by rw [e4]; exact im_put i_hv (sp_ne105 (r_add (r_add (⟨by decide, by decide⟩ : R 7 7 (7 : Int32)) (r_mul (⟨by decide, by decide⟩ : R 4 4 (4 : Int32)) f_hv_104_6 (by decide) : R 0 44 (4 * (hv 104 6))) (by decide) : R 7 51 (7 + (4 * (hv 104 6)))) f3 (by decide) : R 7 54 ((7 + (4 * (hv 104 6))) + v4)) (by decide)) (r_w f_p1 (by decide)) (by decide)
      have f6 : R 0 11 (h5 104 6) := by rw [e4, up_oc (by decide)]; exact f_hv_104_6
      exact ih (v4 + 1) h5 (fu_su hfu (i_inc f3 (k := 1) rfl (by decide)) (by decide)) (r_w (r_add f3 (⟨by decide, by decide⟩ : R 1 1 (1 : Int32)) (by decide) : R 1 4 (v4 + 1)) (by decide)) i5 (r_w f6 (by decide))
theorem sf_m_house (p1 : Int32) (p2 : Int32) (p3 : Int32) {h0 : PH} (i_h0 : IM h0) : Sf (mm_house p1 p2 p3 h0) (fun r => R (-1) 11 r.1 ∧ IM r.2) := by
  unfold mm_house
  refine s_lt (fun h1 e1 => ?_)
  have i2 : IM h1 := by rw [e1]; exact im_put i_h0 rfl (r_w (⟨by decide, by decide⟩ : R 0 0 (0 : Int32)) (by decide)) (by decide)
  refine s_isin (fun r2 f4 c3 => ?_)
  refine s_if (fun c5 => ?_) (fun c5 => ?_)
  ·
    have f6 : R 0 0 r2 := r_eq (⟨by decide, by decide⟩ : R 0 0 (0 : Int32)) c5
    exact s_some ⟨r_w (⟨by decide, by decide⟩ : R (-1) (-1) (-1 : Int32)) (by decide), i2⟩
  ·
    have f7 : R 1 1 r2 := r_ne_lo f4 (⟨by decide, by decide⟩ : R 0 0 (0 : Int32)) c5 (by decide)
    have q8 := c3 c5
    have f9 : R 0 2147483647 p1 := le_lo (⟨by decide, by decide⟩ : R 0 0 (0 : Int32)) (r_full p1) q8.1
    have f10 : R 0 99 p1 := le_hi f9 (⟨by decide, by decide⟩ : R 99 99 (99 : Int32)) q8.2
    refine s_isin (fun r3 f12 c11 => ?_)
    refine s_if (fun c13 => ?_) (fun c13 => ?_)
    ·
      have f14 : R 0 0 r3 := r_eq (⟨by decide, by decide⟩ : R 0 0 (0 : Int32)) c13
      exact s_some ⟨r_w (⟨by decide, by decide⟩ : R (-1) (-1) (-1 : Int32)) (by decide), i2⟩
    ·
      have f15 : R 1 1 r3 := r_ne_lo f12 (⟨by decide, by decide⟩ : R 0 0 (0 : Int32)) c13 (by decide)
      have q16 := c11 c13
      have f17 : R 0 2147483647 p2 := le_lo (⟨by decide, by decide⟩ : R 0 0 (0 : Int32)) (r_full p2) q16.1
      have f18 : R 0 9 p2 := le_hi f17 (⟨by decide, by decide⟩ : R 9 9 (9 : Int32)) q16.2
      refine s_isin (fun r4 f20 c19 => ?_)
      refine s_if (fun c21 => ?_) (fun c21 => ?_)
      ·
        have f22 : R 0 0 r4 := r_eq (⟨by decide, by decide⟩ : R 0 0 (0 : Int32)) c21
        exact s_some ⟨r_w (⟨by decide, by decide⟩ : R (-1) (-1) (-1 : Int32)) (by decide), i2⟩
      ·
        have f23 : R 1 1 r4 := r_ne_lo f20 (⟨by decide, by decide⟩ : R 0 0 (0 : Int32)) c21 (by decide)
        have q24 := c19 c21
        have f25 : R 0 2147483647 p3 := le_lo (⟨by decide, by decide⟩ : R 0 0 (0 : Int32)) (r_full p3) q24.1
        have f26 : R 0 9 p3 := le_hi f25 (⟨by decide, by decide⟩ : R 9 9 (9 : Int32)) q24.2
        refine s_if (fun c27 => ?_) (fun c27 => ?_)
        ·
          have f28 : R 12 12 (h1 104 6) := r_eq (⟨by decide, by decide⟩ : R 12 12 (12 : Int32)) c27
          exact s_some ⟨r_w (⟨by decide, by decide⟩ : R (-1) (-1) (-1 : Int32)) (by decide), i2⟩
        ·
          have f29 : R 0 11 (h1 104 6) := r_ne_hi (inv_rng (i2).1 rfl : R 0 12 (h1 104 6)) (⟨by decide, by decide⟩ : R 12 12 (12 : Int32)) c27 (by decide)
          refine sl_m_house_L52 p1 p2 p3 _ (r_w f10 (by decide)) (r_w f18 (by decide)) (r_w f26 (by decide)) ?_ FU 0 h1 (fu_up (⟨by decide, by decide⟩ : R 0 0 (0 : Int32)) (by decide)) (r_w (⟨by decide, by decide⟩ : R 0 0 (0 : Int32)) (by decide)) i2 (r_w f29 (by decide))
          ·
            intro h6 f30 f31
            refine s_ck (r_add (⟨by decide, by decide⟩ : R 55 55 (55 : Int32)) f31 (by decide) : R 55 66 (55 + (h6 104 6))) (by decide) ?_
            refine s_lt (fun h7 e32 => ?_)
            have i33 : IM h7 := by rw [e32]; exact im_put f30 (sp_ne105 (r_add (⟨by decide, by decide⟩ : R 55 55 (55 : Int32)) f31 (by decide) : R 55 66 (55 + (h6 104 6))) (by decide)) (r_w (⟨by decide, by decide⟩ : R 0 0 (0 : Int32)) (by decide)) (by decide)
            have f34 : R 0 11 (h7 104 6) := by rw [e32, up_oc (by decide)]; exact f31
            refine s_ck (r_add (⟨by decide, by decide⟩ : R 67 67 (67 : Int32)) f34 (by decide) : R 67 78 (67 + (h7 104 6))) (by decide) ?_
            refine s_lt (fun h8 e35 => ?_)
            have i36 : IM h8 := by rw [e35]; exact im_put i33 (sp_ne105 (r_add (⟨by decide, by decide⟩ : R 67 67 (67 : Int32)) f34 (by decide) : R 67 78 (67 + (h7 104 6))) (by decide)) (r_w (⟨by decide, by decide⟩ : R 0 0 (0 : Int32)) (by decide)) (by decide)
            have f37 : R 0 11 (h8 104 6) := by rw [e35, up_oc (by decide)]; exact f34
            refine s_ck (r_add (⟨by decide, by decide⟩ : R 79 79 (79 : Int32)) f37 (by decide) : R 79 90 (79 + (h8 104 6))) (by decide) ?_
            refine s_lt (fun h9 e38 => ?_)
            have i39 : IM h9 := by rw [e38]; exact im_put i36 (sp_ne105 (r_add (⟨by decide, by decide⟩ : R 79 79 (79 : Int32)) f37 (by decide) : R 79 90 (79 + (h8 104 6))) (by decide)) (r_w (⟨by decide, by decide⟩ : R 1 1 (1 : Int32)) (by decide)) (by decide)
            have f40 : R 0 11 (h9 104 6) := by rw [e38, up_oc (by decide)]; exact f37
            refine s_ck (r_add (⟨by decide, by decide⟩ : R 91 91 (91 : Int32)) f40 (by decide) : R 91 102 (91 + (h9 104 6))) (by decide) ?_
            refine s_lt (fun h10 e41 => ?_)
            have i42 : IM h10 := by rw [e41]; exact im_put i39 (sp_ne105 (r_add (⟨by decide, by decide⟩ : R 91 91 (91 : Int32)) f40 (by decide) : R 91 102 (91 + (h9 104 6))) (by decide)) (r_w (⟨by decide, by decide⟩ : R 0 0 (0 : Int32)) (by decide)) (by decide)
            have f43 : R 0 11 (h10 104 6) := by rw [e41, up_oc (by decide)]; exact f40
            refine s_ck (r_add (⟨by decide, by decide⟩ : R 103 103 (103 : Int32)) f43 (by decide) : R 103 114 (103 + (h10 104 6))) (by decide) ?_
            refine s_lt (fun h11 e44 => ?_)
            have i45 : IM h11 := by rw [e44]; exact im_put i42 (sp_ne105 (r_add (⟨by decide, by decide⟩ : R 103 103 (103 : Int32)) f43 (by decide) : R 103 114 (103 + (h10 104 6))) (by decide)) (r_w (⟨by decide, by decide⟩ : R 0 0 (0 : Int32)) (by decide)) (by decide)
            have f46 : R 0 11 (h11 104 6) := by rw [e44, up_oc (by decide)]; exact f43
            refine s_ck f46 (by decide) ?_
            refine s_lt (fun h12 e47 => ?_)
            have i48 : IM h12 := by rw [e47]; exact im_put i45 rfl (r_w f18 (by decide)) (by decide)
            have f49 : R 0 11 (h12 104 6) := by rw [e47, up_oc (by decide)]; exact f46
            refine s_ck f49 (by decide) ?_
            refine s_lt (fun h13 e50 => ?_)
            have i51 : IM h13 := by rw [e50]; exact im_put i48 rfl (r_w f26 (by decide)) (by decide)
            have f52 : R 0 11 (h13 104 6) := by rw [e50, up_oc (by decide)]; exact f49
            refine s_lt (fun h14 e53 => ?_)
            have i54 : IM h14 := by rw [e53]; exact im_put i51 rfl (r_w (r_add f52 (⟨by decide, by decide⟩ : R 1 1 (1 : Int32)) (by decide) : R 1 12 ((h13 104 6) + 1)) (by decide)) (by decide)
            have f55 : R 1 12 (h14 104 6) := by rw [e53, up_same]; exact (r_add f52 (⟨by decide, by decide⟩ : R 1 1 (1 : Int32)) (by decide) : R 1 12 ((h13 104 6) + 1))
            refine s_lt (fun h15 e56 => ?_)
            have i57 : IM h15 := by rw [e56]; exact im_put i54 rfl (r_w (⟨by decide, by decide⟩ : R 0 0 (0 : Int32)) (by decide)) (by decide)
            have f58 : R 1 12 (h15 104 6) := by rw [e56, up_oj (by decide)]; exact f55
            exact s_some ⟨r_w (r_sub f58 (⟨by decide, by decide⟩ : R 1 1 (1 : Int32)) (by decide) : R 0 11 ((h15 104 6) - 1)) (by decide), i57⟩
theorem sf_m_canSet (p1 : Int32) (p2 : Int32) (p3 : Int32) {h0 : PH} (i_h0 : IM h0) : Sf (mm_canSet p1 p2 p3 h0) (fun r => R 0 1 r) := by
  unfold mm_canSet
  refine s_if (fun c1 => ?_) (fun c1 => ?_)
  ·
    have f2 : R 8 8 p1 := r_eq (⟨by decide, by decide⟩ : R 8 8 (8 : Int32)) c1
    refine s_isin (fun r1 f4 c3 => ?_)
    exact s_some (r_w (r_nb r1) (by decide))
  ·
    refine s_isin (fun r2 f6 c5 => ?_)
    refine s_if (fun c7 => ?_) (fun c7 => ?_)
    ·
      have f8 : R 0 0 r2 := r_eq (⟨by decide, by decide⟩ : R 0 0 (0 : Int32)) c7
      exact s_some (r_w (⟨by decide, by decide⟩ : R 0 0 (0 : Int32)) (by decide))
    ·
      have f9 : R 1 1 r2 := r_ne_lo f6 (⟨by decide, by decide⟩ : R 0 0 (0 : Int32)) c7 (by decide)
      have q10 := c5 c7
      have f11 : R 0 2147483647 p1 := le_lo (⟨by decide, by decide⟩ : R 0 0 (0 : Int32)) (r_full p1) q10.1
      have f12 : R 0 7 p1 := le_hi f11 (⟨by decide, by decide⟩ : R 7 7 (7 : Int32)) q10.2
      refine s_house (i_h0).1 (fun r3 f14 c13 => ?_)
      refine s_if (fun c15 => ?_) (fun c15 => ?_)
      ·
        have f16 : R 0 0 r3 := r_eq (⟨by decide, by decide⟩ : R 0 0 (0 : Int32)) c15
        exact s_some (r_w (⟨by decide, by decide⟩ : R 0 0 (0 : Int32)) (by decide))
      ·
        have f17 : R 1 1 r3 := r_ne_lo f14 (⟨by decide, by decide⟩ : R 0 0 (0 : Int32)) c15 (by decide)
        have f18 : R 0 11 p2 := c13 c15
        refine s_isin (fun r4 f20 c19 => ?_)
        refine s_jn1 (P := fun (x6 : Int32) => R 9 99 x6) (fun x6 f27 => ?_) (fun j5 kj5 => ?_)
        ·
          refine s_isin (fun r7 f29 c28 => ?_)
          refine s_if (fun c30 => ?_) (fun c30 => ?_)
          ·
            have f31 : R 0 0 r7 := r_eq (⟨by decide, by decide⟩ : R 0 0 (0 : Int32)) c30
            exact s_some (r_w (⟨by decide, by decide⟩ : R 0 0 (0 : Int32)) (by decide))
          ·
            have f32 : R 1 1 r7 := r_ne_lo f29 (⟨by decide, by decide⟩ : R 0 0 (0 : Int32)) c30 (by decide)
            have q33 := c28 c30
            have f34 : R 0 2147483647 p3 := le_lo (⟨by decide, by decide⟩ : R 0 0 (0 : Int32)) (r_full p3) q33.1
            have f35 : R 0 99 p3 := le_hi f34 f27 q33.2
            exact s_some (r_w (⟨by decide, by decide⟩ : R 1 1 (1 : Int32)) (by decide))
        ·
          refine s_if (fun c36 => ?_) (fun c36 => ?_)
          ·
            have f37 : R 0 0 r4 := r_eq (⟨by decide, by decide⟩ : R 0 0 (0 : Int32)) c36
            exact kj5 _ (r_w (⟨by decide, by decide⟩ : R 99 99 (99 : Int32)) (by decide))
          ·
            have f38 : R 1 1 r4 := r_ne_lo f20 (⟨by decide, by decide⟩ : R 0 0 (0 : Int32)) c36 (by decide)
            have q39 := c19 c36
            have f40 : R 4 7 p1 := le_lo (⟨by decide, by decide⟩ : R 4 4 (4 : Int32)) f12 q39.1
            have f41 : R 4 6 p1 := le_hi f40 (⟨by decide, by decide⟩ : R 6 6 (6 : Int32)) q39.2
            exact kj5 _ (r_w (⟨by decide, by decide⟩ : R 9 9 (9 : Int32)) (by decide))
theorem sf_m_end (p1 : Int32) {h0 : PH} (i_h0 : IM h0) : Sf (mm_end p1 h0) (fun r => R 0 1 r.1 ∧ IM r.2) := by
  unfold mm_end
  refine s_lt (fun h1 e1 => ?_)
  have i2 : IM h1 := by rw [e1]; exact im_put i_h0 rfl (r_w (⟨by decide, by decide⟩ : R 0 0 (0 : Int32)) (by decide)) (by decide)
  refine s_isin (fun r2 f4 c3 => ?_)
  refine s_if (fun c5 => ?_) (fun c5 => ?_)
  ·
    have f6 : R 0 0 r2 := r_eq (⟨by decide, by decide⟩ : R 0 0 (0 : Int32)) c5
    exact s_some ⟨r_w (⟨by decide, by decide⟩ : R 0 0 (0 : Int32)) (by decide), i2⟩
  ·
    have f7 : R 1 1 r2 := r_ne_lo f4 (⟨by decide, by decide⟩ : R 0 0 (0 : Int32)) c5 (by decide)
    have q8 := c3 c5
    have f9 : R 0 2147483647 p1 := le_lo (⟨by decide, by decide⟩ : R 0 0 (0 : Int32)) (r_full p1) q8.1
    have f10 : R 0 400 p1 := le_hi f9 (inv_rng (i2).1 rfl : R 0 400 (h1 104 11)) q8.2
    refine s_lt (fun h3 e11 => ?_)
    have i12 : IM h3 := by rw [e11]; exact im_put i2 rfl (r_w f10 (by decide)) (by decide)
    exact s_some ⟨r_w (⟨by decide, by decide⟩ : R 1 1 (1 : Int32)) (by decide), i12⟩
theorem sf_m_fault (p1 : Int32) {h0 : PH} (i_h0 : IM h0) : Sf (mm_fault p1 h0) (fun r => R (-2147483648) 2147483647 r.1 ∧ IM r.2) := by
  unfold mm_fault
  refine s_lt (fun h1 e1 => ?_)
  have i2 : IM h1 := by rw [e1]; exact im_put i_h0 rfl (r_w (⟨by decide, by decide⟩ : R 0 0 (0 : Int32)) (by decide)) (by decide)
  refine s_if (fun c3 => ?_) (fun c3 => ?_)
  ·
    have f4 : R 0 0 p1 := r_eq (⟨by decide, by decide⟩ : R 0 0 (0 : Int32)) c3
    exact s_some ⟨r_w (r_full (h1 104 31)) (by decide), i2⟩
  ·
    refine s_if (fun c5 => ?_) (fun c5 => ?_)
    ·
      have f6 : R 1 1 p1 := r_eq (⟨by decide, by decide⟩ : R 1 1 (1 : Int32)) c5
      exact s_some ⟨r_w (r_full (h1 104 32)) (by decide), i2⟩
    ·
      exact s_some ⟨r_w (⟨by decide, by decide⟩ : R (-1) (-1) (-1 : Int32)) (by decide), i2⟩
theorem sf_m_asks (p1 : Int32) (p2 : Int32) (f_p1 : R 0 11 p1) {h0 : PH} (i_h0 : IM h0) : Sf (mm_asks p1 p2 h0) (fun h => IM h) := by
  unfold mm_asks
  refine s_ck (⟨by decide, by decide⟩ : R 0 0 (0 : Int32)) (by decide) ?_
  refine s_lt (fun h1 e1 => ?_)
  have i2 : IM h1 := by rw [e1]; exact im_put i_h0 rfl (r_w (r_full p2) (by decide)) (by decide)
  refine s_bd (sf_m_sumOf p1 (r_w f_p1 (by decide)) i2) (fun r2 f3 => ?_)
  refine s_ck (⟨by decide, by decide⟩ : R 1 1 (1 : Int32)) (by decide) ?_
  refine s_lt (fun h3 e4 => ?_)
  have i5 : IM h3 := by rw [e4]; exact im_put i2 rfl (r_w (r_full r2) (by decide)) (by decide)
  refine s_ck f_p1 (by decide) ?_
  refine s_ck (⟨by decide, by decide⟩ : R 2 2 (2 : Int32)) (by decide) ?_
  refine s_lt (fun h4 e6 => ?_)
  have i7 : IM h4 := by rw [e6]; exact im_put i5 rfl (r_w (r_full (h3 108 (ix p1))) (by decide)) (by decide)
  refine s_ck f_p1 (by decide) ?_
  refine s_ck (⟨by decide, by decide⟩ : R 3 3 (3 : Int32)) (by decide) ?_
  refine s_lt (fun h5 e8 => ?_)
  have i9 : IM h5 := by rw [e8]; exact im_put i7 rfl (r_w (r_full (h4 109 (ix p1))) (by decide)) (by decide)
  refine s_ck (r_add (⟨by decide, by decide⟩ : R 55 55 (55 : Int32)) f_p1 (by decide) : R 55 66 (55 + p1)) (by decide) ?_
  refine s_ck (⟨by decide, by decide⟩ : R 4 4 (4 : Int32)) (by decide) ?_
  refine s_lt (fun h6 e10 => ?_)
  have i11 : IM h6 := by rw [e10]; exact im_put i9 rfl (r_w (r_full (h5 105 (ix (55 + p1)))) (by decide)) (by decide)
  refine s_ck (r_add (⟨by decide, by decide⟩ : R 67 67 (67 : Int32)) f_p1 (by decide) : R 67 78 (67 + p1)) (by decide) ?_
  refine s_ck (⟨by decide, by decide⟩ : R 5 5 (5 : Int32)) (by decide) ?_
  refine s_lt (fun h7 e12 => ?_)
  have i13 : IM h7 := by rw [e12]; exact im_put i11 rfl (r_w (r_full (h6 105 (ix (67 + p1)))) (by decide)) (by decide)
  refine s_ck (r_add (⟨by decide, by decide⟩ : R 79 79 (79 : Int32)) f_p1 (by decide) : R 79 90 (79 + p1)) (by decide) ?_
  refine s_ck (⟨by decide, by decide⟩ : R 6 6 (6 : Int32)) (by decide) ?_
  refine s_lt (fun h8 e14 => ?_)
  have i15 : IM h8 := by rw [e14]; exact im_put i13 rfl (r_w (r_full (h7 105 (ix (79 + p1)))) (by decide)) (by decide)
  refine s_ck (r_add (⟨by decide, by decide⟩ : R 91 91 (91 : Int32)) f_p1 (by decide) : R 91 102 (91 + p1)) (by decide) ?_
  refine s_ck (⟨by decide, by decide⟩ : R 7 7 (7 : Int32)) (by decide) ?_
  refine s_lt (fun h9 e16 => ?_)
  have i17 : IM h9 := by rw [e16]; exact im_put i15 rfl (r_w (r_full (h8 105 (ix (91 + p1)))) (by decide)) (by decide)
  refine s_ck (r_add (⟨by decide, by decide⟩ : R 103 103 (103 : Int32)) f_p1 (by decide) : R 103 114 (103 + p1)) (by decide) ?_
  refine s_ck (⟨by decide, by decide⟩ : R 8 8 (8 : Int32)) (by decide) ?_
  refine s_lt (fun h10 e18 => ?_)
  have i19 : IM h10 := by rw [e18]; exact im_put i17 rfl (r_w (r_full (h9 105 (ix (103 + p1)))) (by decide)) (by decide)
  refine s_ck (⟨by decide, by decide⟩ : R 3 3 (3 : Int32)) (by decide) ?_
  refine s_ck (⟨by decide, by decide⟩ : R 9 9 (9 : Int32)) (by decide) ?_
  refine s_lt (fun h11 e20 => ?_)
  have i21 : IM h11 := by rw [e20]; exact im_put i19 rfl (r_w (r_full (h10 105 (ix 3))) (by decide)) (by decide)
  refine s_ck (⟨by decide, by decide⟩ : R 4 4 (4 : Int32)) (by decide) ?_
  refine s_ck (⟨by decide, by decide⟩ : R 10 10 (10 : Int32)) (by decide) ?_
  refine s_lt (fun h12 e22 => ?_)
  have i23 : IM h12 := by rw [e22]; exact im_put i21 rfl (r_w (r_full (h11 105 (ix 4))) (by decide)) (by decide)
  refine s_ck (⟨by decide, by decide⟩ : R 0 0 (0 : Int32)) (by decide) ?_
  refine s_ck (⟨by decide, by decide⟩ : R 11 11 (11 : Int32)) (by decide) ?_
  refine s_lt (fun h13 e24 => ?_)
  have i25 : IM h13 := by rw [e24]; exact im_put i23 rfl (r_w (r_full (h12 105 (ix 0))) (by decide)) (by decide)
  exact s_some i25
theorem sf_m_notes (p1 : Int32) (p2 : Int32) (p3 : Int32) {h0 : PH} (i_h0 : IM h0) : Sf (mm_notes p1 p2 p3 h0) (fun h => IM h) := by
  unfold mm_notes
  refine s_if (fun c1 => ?_) (fun c1 => ?_)
  ·
    have f2 : R 0 0 (h0 104 5) := r_eq (⟨by decide, by decide⟩ : R 0 0 (0 : Int32)) c1
    refine s_ck (⟨by decide, by decide⟩ : R 2 2 (2 : Int32)) (by decide) ?_
    refine s_if (fun c3 => ?_) (fun c3 => ?_)
    ·
      have f4 : R 150 150 (h0 105 (ix 2)) := r_eq (⟨by decide, by decide⟩ : R 150 150 (150 : Int32)) c3
      exact s_some i_h0
    ·
      have f5 : R 0 149 (h0 105 (ix 2)) := r_ne_hi (inv_rng (i_h0).1 rfl : R 0 150 (h0 105 (ix 2))) (⟨by decide, by decide⟩ : R 150 150 (150 : Int32)) c3 (by decide)
      refine s_ck (⟨by decide, by decide⟩ : R 2 2 (2 : Int32)) (by decide) ?_
      refine s_lt (fun x1 e6 => ?_)
      have f7 : R 0 596 x1 := by rw [e6]; exact (r_mul (⟨by decide, by decide⟩ : R 4 4 (4 : Int32)) f5 (by decide) : R 0 596 (4 * (h0 105 (ix 2))))
      refine s_ck (⟨by decide, by decide⟩ : R 0 0 (0 : Int32)) (by decide) ?_
      refine s_ck f7 (by decide) ?_
      refine s_lt (fun h2 e8 => ?_)
      have i9 : IM h2 := by rw [e8]; exact im_put i_h0 rfl (r_w (r_full (h0 105 (ix 0))) (by decide)) (by decide)
      have f10 : R 0 0 (h2 104 5) := by rw [e8, up_oc (by decide)]; exact f2
      have f11 : R 0 149 (h2 105 (ix 2)) := by rw [e8, up_oc (by decide)]; exact f5
      refine s_ck (r_add f7 (⟨by decide, by decide⟩ : R 1 1 (1 : Int32)) (by decide) : R 1 597 (x1 + 1)) (by decide) ?_
      refine s_lt (fun h3 e12 => ?_)
      have i13 : IM h3 := by rw [e12]; exact im_put i9 rfl (r_w (r_full p1) (by decide)) (by decide)
      have f14 : R 0 0 (h3 104 5) := by rw [e12, up_oc (by decide)]; exact f10
      have f15 : R 0 149 (h3 105 (ix 2)) := by rw [e12, up_oc (by decide)]; exact f11
      refine s_ck (r_add f7 (⟨by decide, by decide⟩ : R 2 2 (2 : Int32)) (by decide) : R 2 598 (x1 + 2)) (by decide) ?_
      refine s_lt (fun h4 e16 => ?_)
      have i17 : IM h4 := by rw [e16]; exact im_put i13 rfl (r_w (r_full p2) (by decide)) (by decide)
      have f18 : R 0 0 (h4 104 5) := by rw [e16, up_oc (by decide)]; exact f14
      have f19 : R 0 149 (h4 105 (ix 2)) := by rw [e16, up_oc (by decide)]; exact f15
      refine s_ck (r_add f7 (⟨by decide, by decide⟩ : R 3 3 (3 : Int32)) (by decide) : R 3 599 (x1 + 3)) (by decide) ?_
      refine s_lt (fun h5 e20 => ?_)
      have i21 : IM h5 := by rw [e20]; exact im_put i17 rfl (r_w (r_full p3) (by decide)) (by decide)
      have f22 : R 0 0 (h5 104 5) := by rw [e20, up_oc (by decide)]; exact f18
      have f23 : R 0 149 (h5 105 (ix 2)) := by rw [e20, up_oc (by decide)]; exact f19
      refine s_ck (⟨by decide, by decide⟩ : R 2 2 (2 : Int32)) (by decide) ?_
      refine s_ck (⟨by decide, by decide⟩ : R 2 2 (2 : Int32)) (by decide) ?_
      refine s_lt (fun h6 e24 => ?_)
      have i25 : IM h6 := by rw [e24]; exact im_put i21 rfl (r_w (r_add f23 (⟨by decide, by decide⟩ : R 1 1 (1 : Int32)) (by decide) : R 1 150 ((h5 105 (ix 2)) + 1)) (by decide)) (by decide)
      have f26 : R 0 0 (h6 104 5) := by rw [e24, up_oc (by decide)]; exact f22
      have f27 : R 1 150 (h6 105 (ix 2)) := by rw [e24, up_same]; exact (r_add f23 (⟨by decide, by decide⟩ : R 1 1 (1 : Int32)) (by decide) : R 1 150 ((h5 105 (ix 2)) + 1))
      exact s_some i25
  ·
    have f28 : R 1 1 (h0 104 5) := r_ne_lo (inv_rng (i_h0).1 rfl : R 0 1 (h0 104 5)) (⟨by decide, by decide⟩ : R 0 0 (0 : Int32)) c1 (by decide)
    exact s_some i_h0
theorem sf_m_lodgersGo (p1 : Int32) (p2 : Int32) (f_p1 : R 0 11 p1) (f_p2 : R (-1) 11 p2) {h0 : PH} (i_h0 : IM h0) : Sf (mm_lodgersGo p1 p2 h0) (fun h => IM h) := by
  unfold mm_lodgersGo
  refine s_bd (sf_m_notes 4 p1 p2 i_h0) (fun h1 f1 => ?_)
  refine s_ck (r_add (⟨by decide, by decide⟩ : R 79 79 (79 : Int32)) f_p1 (by decide) : R 79 90 (79 + p1)) (by decide) ?_
  refine s_lt (fun x2 e2 => ?_)
  refine s_ck (r_add (⟨by decide, by decide⟩ : R 79 79 (79 : Int32)) f_p1 (by decide) : R 79 90 (79 + p1)) (by decide) ?_
  refine s_lt (fun h3 e3 => ?_)
  have i4 : IM h3 := by rw [e3]; exact im_put f1 (sp_ne105 (r_add (⟨by decide, by decide⟩ : R 79 79 (79 : Int32)) f_p1 (by decide) : R 79 90 (79 + p1)) (by decide)) (r_w (⟨by decide, by decide⟩ : R 0 0 (0 : Int32)) (by decide)) (by decide)
  refine s_if (fun c5 => ?_) (fun c5 => ?_)
  ·
    have f6 : R (-1) (-1) p2 := r_eq (⟨by decide, by decide⟩ : R (-1) (-1) (-1 : Int32)) c5
    exact s_some i4
  ·
    have f7 : R 0 11 p2 := r_ne_lo f_p2 (⟨by decide, by decide⟩ : R (-1) (-1) (-1 : Int32)) c5 (by decide)
    refine s_ck (r_add (⟨by decide, by decide⟩ : R 79 79 (79 : Int32)) f7 (by decide) : R 79 90 (79 + p2)) (by decide) ?_
    refine s_ck (r_add (⟨by decide, by decide⟩ : R 79 79 (79 : Int32)) f7 (by decide) : R 79 90 (79 + p2)) (by decide) ?_
    refine s_lt (fun h4 e8 => ?_)
    have i9 : IM h4 := by rw [e8]; exact im_put i4 (sp_ne105 (r_add (⟨by decide, by decide⟩ : R 79 79 (79 : Int32)) f7 (by decide) : R 79 90 (79 + p2)) (by decide)) (r_w (r_full ((h3 105 (ix (79 + p2))) + x2)) (by decide)) (by decide)
    exact s_some i9
theorem sl_m_areOut_L30 (p1 : Int32) (h0 : PH) (k0 : Int32 → Option (PH)) (f_p1 : R 0 11 p1) (i_h0 : IM h0) (hk_k0 : ∀ (y0 : Int32), R (-1) 11 y0 → Sf (k0 y0) (fun h => IM h)) : ∀ (n : Nat) (v2 : Int32) (v3 : Int32), v3.toInt - (-1) < (n : Int) → R (-1) 11 v2 → R (-1) 11 v3 → Sf (mm_areOut_L30 p1 h0 k0 n v2 v3) (fun h => IM h) := by
  intro n
  induction n with
  | zero =>
    intro v2 v3 hfu f_v2 f_v3
    have := f_v3.1
    omega
  | succ n ih =>
    intro v2 v3 hfu f_v2 f_v3
    rw [mm_areOut_L30]
    refine s_if (fun c1 => ?_) (fun c1 => ?_)
    ·
      have f2 : R (-1) (-1) v3 := lt_hi f_v3 (⟨by decide, by decide⟩ : R 0 0 (0 : Int32)) c1 (by decide)
      exact hk_k0 _ (r_w f_v2 (by decide))
    ·
      have f3 : R 0 11 v3 := le_lo (⟨by decide, by decide⟩ : R 0 0 (0 : Int32)) f_v3 (nlt_le c1)
      refine s_ck f_p1 (by decide) ?_
      refine s_bd (sf_m_has (h0 123 (ix p1)) v3 i_h0) (fun r3 f4 => ?_)
      refine s_if (fun c5 => ?_) (fun c5 => ?_)
      ·
        have f6 : R 0 0 r3 := r_eq (⟨by decide, by decide⟩ : R 0 0 (0 : Int32)) c5
        exact ih v2 (v3 + (-1)) (fu_sd hfu (i_inc f3 (k := (-1)) rfl (by decide)) (by decide)) (r_w f_v2 (by decide)) (r_w (r_add f3 (⟨by decide, by decide⟩ : R (-1) (-1) (-1 : Int32)) (by decide) : R (-1) 10 (v3 + (-1))) (by decide))
      ·
        have f7 : R 1 1 r3 := r_ne_lo f4 (⟨by decide, by decide⟩ : R 0 0 (0 : Int32)) c5 (by decide)
        refine s_bd (sf_m_doesStand v3 (r_w f3 (by decide)) i_h0) (fun r4 f8 => ?_)
        refine s_if (fun c9 => ?_) (fun c9 => ?_)
        ·
          have f10 : R 0 0 r4 := r_eq (⟨by decide, by decide⟩ : R 0 0 (0 : Int32)) c9
          exact ih v2 (v3 + (-1)) (fu_sd hfu (i_inc f3 (k := (-1)) rfl (by decide)) (by decide)) (r_w f_v2 (by decide)) (r_w (r_add f3 (⟨by decide, by decide⟩ : R (-1) (-1) (-1 : Int32)) (by decide) : R (-1) 10 (v3 + (-1))) (by decide))
        ·
          have f11 : R 1 1 r4 := r_ne_lo f8 (⟨by decide, by decide⟩ : R 0 0 (0 : Int32)) c9 (by decide)
          exact ih v3 (v3 + (-1)) (fu_sd hfu (i_inc f3 (k := (-1)) rfl (by decide)) (by decide)) (r_w f3 (by decide)) (r_w (r_add f3 (⟨by decide, by decide⟩ : R (-1) (-1) (-1 : Int32)) (by decide) : R (-1) 10 (v3 + (-1))) (by decide))
theorem sf_m_areOut (p1 : Int32) (f_p1 : R 0 11 p1) {h0 : PH} (i_h0 : IM h0) : Sf (mm_areOut p1 h0) (fun h => IM h) := by
  unfold mm_areOut
  refine s_bd (sf_m_doesStand p1 (r_w f_p1 (by decide)) i_h0) (fun r1 f1 => ?_)
  refine s_if (fun c2 => ?_) (fun c2 => ?_)
  ·
    have f3 : R 0 0 r1 := r_eq (⟨by decide, by decide⟩ : R 0 0 (0 : Int32)) c2
    refine s_ck (r_add (⟨by decide, by decide⟩ : R 79 79 (79 : Int32)) f_p1 (by decide) : R 79 90 (79 + p1)) (by decide) ?_
    refine s_if (fun c4 => ?_) (fun c4 => ?_)
    ·
      have f5 : R 0 0 (h0 105 (ix (79 + p1))) := r_eq (⟨by decide, by decide⟩ : R 0 0 (0 : Int32)) c4
      exact s_some i_h0
    ·
      refine s_lt (fun x2 e6 => ?_)
      have f7 : R (-1) 11 x2 := by rw [e6]; exact (r_sub (inv_rng (i_h0).1 rfl : R 0 12 (h0 104 6)) (⟨by decide, by decide⟩ : R 1 1 (1 : Int32)) (by decide) : R (-1) 11 ((h0 104 6) - 1))
      refine sl_m_areOut_L30 p1 h0 _ (r_w f_p1 (by decide)) i_h0 ?_ FU (-1) x2 (fu_dn f7 (by decide)) (r_w (⟨by decide, by decide⟩ : R (-1) (-1) (-1 : Int32)) (by decide)) (r_w f7 (by decide))
      ·
        intro x5 f8
        refine s_bd (sf_m_lodgersGo p1 x5 (r_w f_p1 (by decide)) (r_w f8 (by decide)) i_h0) (fun h6 f9 => ?_)
        exact s_some f9
  ·
    have f10 : R 1 1 r1 := r_ne_lo f1 (⟨by decide, by decide⟩ : R 0 0 (0 : Int32)) c2 (by decide)
    exact s_some i_h0
theorem sf_m_isWed (p1 : Int32) (f_p1 : R 0 11 p1) {h0 : PH} (i_h0 : IM h0) : Sf (mm_isWed p1 h0) (fun h => IM h) := by
  unfold mm_isWed
  refine s_bd (sf_m_thickest p1 (r_w f_p1 (by decide)) i_h0) (fun r1 f1 => ?_)
  refine s_ck (r_add (⟨by decide, by decide⟩ : R 91 91 (91 : Int32)) f_p1 (by decide) : R 91 102 (91 + p1)) (by decide) ?_
  refine s_lt (fun h2 e2 => ?_)
  have i3 : IM h2 := by rw [e2]; exact im_put i_h0 (sp_ne105 (r_add (⟨by decide, by decide⟩ : R 91 91 (91 : Int32)) f_p1 (by decide) : R 91 102 (91 + p1)) (by decide)) (r_w (⟨by decide, by decide⟩ : R 1 1 (1 : Int32)) (by decide)) (by decide)
  refine s_bd (sf_m_wallOf p1 r1 (r_w f_p1 (by decide)) (r_w f1 (by decide)) i3) (fun r3 f4 => ?_)
  refine s_bd (sf_m_hasWall p1 r1 (r3 - 10) (r_w f_p1 (by decide)) (r_w f1 (by decide)) i3) (fun h4 f5 => ?_)
  refine s_ck (r_add (⟨by decide, by decide⟩ : R 79 79 (79 : Int32)) f_p1 (by decide) : R 79 90 (79 + p1)) (by decide) ?_
  refine s_ck (r_add (⟨by decide, by decide⟩ : R 79 79 (79 : Int32)) f_p1 (by decide) : R 79 90 (79 + p1)) (by decide) ?_
  refine s_lt (fun h5 e6 => ?_)
  have i7 : IM h5 := by rw [e6]; exact im_put f5 (sp_ne105 (r_add (⟨by decide, by decide⟩ : R 79 79 (79 : Int32)) f_p1 (by decide) : R 79 90 (79 + p1)) (by decide)) (r_w (r_full ((h4 105 (ix (79 + p1))) + 1)) (by decide)) (by decide)
  refine s_ck (r_add (⟨by decide, by decide⟩ : R 79 79 (79 : Int32)) f_p1 (by decide) : R 79 90 (79 + p1)) (by decide) ?_
  refine s_bd (sf_m_notes 5 p1 (h5 105 (ix (79 + p1))) i7) (fun h6 f8 => ?_)
  refine s_bd (sf_m_areOut p1 (r_w f_p1 (by decide)) f8) (fun h7 f9 => ?_)
  exact s_some f9
theorem sf_m_canWed (p1 : Int32) (f_p1 : R 0 11 p1) {h0 : PH} (i_h0 : IM h0) : Sf (mm_canWed p1 h0) (fun r => R 0 1 r) := by
  unfold mm_canWed
  refine s_bd (sf_m_doesStand p1 (r_w f_p1 (by decide)) i_h0) (fun r1 f1 => ?_)
  refine s_if (fun c2 => ?_) (fun c2 => ?_)
  ·
    have f3 : R 0 0 r1 := r_eq (⟨by decide, by decide⟩ : R 0 0 (0 : Int32)) c2
    exact s_some (r_w (⟨by decide, by decide⟩ : R 0 0 (0 : Int32)) (by decide))
  ·
    have f4 : R 1 1 r1 := r_ne_lo f1 (⟨by decide, by decide⟩ : R 0 0 (0 : Int32)) c2 (by decide)
    refine s_ck (r_add (⟨by decide, by decide⟩ : R 91 91 (91 : Int32)) f_p1 (by decide) : R 91 102 (91 + p1)) (by decide) ?_
    refine s_if (fun c5 => ?_) (fun c5 => ?_)
    ·
      have f6 : R 0 0 (h0 105 (ix (91 + p1))) := r_eq (⟨by decide, by decide⟩ : R 0 0 (0 : Int32)) c5
      refine s_ck (r_add (⟨by decide, by decide⟩ : R 79 79 (79 : Int32)) f_p1 (by decide) : R 79 90 (79 + p1)) (by decide) ?_
      refine s_if (fun c7 => ?_) (fun c7 => ?_)
      ·
        have f8 : R (-2147483648) 0 (h0 105 (ix (79 + p1))) := le_hi (r_full (h0 105 (ix (79 + p1)))) (⟨by decide, by decide⟩ : R 0 0 (0 : Int32)) c7
        exact s_some (r_w (⟨by decide, by decide⟩ : R 0 0 (0 : Int32)) (by decide))
      ·
        have f9 : R 1 2147483647 (h0 105 (ix (79 + p1))) := lt_lo (⟨by decide, by decide⟩ : R 0 0 (0 : Int32)) (r_full (h0 105 (ix (79 + p1)))) (nle_lt c7) (by decide)
        exact s_some (r_w (⟨by decide, by decide⟩ : R 1 1 (1 : Int32)) (by decide))
    ·
      exact s_some (r_w (⟨by decide, by decide⟩ : R 0 0 (0 : Int32)) (by decide))
theorem sl_m_isRazed_L2 (p1 : Int32) (k0 : PH → Option (PH)) (f_p1 : R 0 11 p1) (hk_k0 : ∀ (y0 : PH), IM y0 → Sf (k0 y0) (fun h => IM h)) : ∀ (n : Nat) (v2 : Int32) (hv : PH), 4 - v2.toInt < (n : Int) → R 0 4 v2 → IM hv → Sf (mm_isRazed_L2 p1 k0 n v2 hv) (fun h => IM h) := by
  intro n
  induction n with
  | zero =>
    intro v2 hv hfu f_v2 i_hv
    have := f_v2.2
    omega
  | succ n ih =>
    intro v2 hv hfu f_v2 i_hv
    rw [mm_isRazed_L2]
    refine s_if (fun c1 => ?_) (fun c1 => ?_)
    ·
      have f2 : R 4 4 v2 := le_lo (⟨by decide, by decide⟩ : R 4 4 (4 : Int32)) f_v2 c1
      exact hk_k0 _ (i_hv)
    ·
      have f3 : R 0 3 v2 := lt_hi f_v2 (⟨by decide, by decide⟩ : R 4 4 (4 : Int32)) (nle_lt c1) (by decide)
      refine s_bd (sf_m_hasWall p1 v2 0 (r_w f_p1 (by decide)) (r_w f3 (by decide)) i_hv) (fun h1 f4 => ?_)
      exact ih (v2 + 1) h1 (fu_su hfu (i_inc f3 (k := 1) rfl (by decide)) (by decide)) (r_w (r_add f3 (⟨by decide, by decide⟩ : R 1 1 (1 : Int32)) (by decide) : R 1 4 (v2 + 1)) (by decide)) f4
theorem sf_m_isRazed (p1 : Int32) (f_p1 : R 0 11 p1) {h0 : PH} (i_h0 : IM h0) : Sf (mm_isRazed p1 h0) (fun h => IM h) := by
  unfold mm_isRazed
  refine sl_m_isRazed_L2 p1 _ (r_w f_p1 (by decide)) ?_ FU 0 h0 (fu_up (⟨by decide, by decide⟩ : R 0 0 (0 : Int32)) (by decide)) (r_w (⟨by decide, by decide⟩ : R 0 0 (0 : Int32)) (by decide)) i_h0
  ·
    intro h2 f1
    refine s_bd (sf_m_areOut p1 (r_w f_p1 (by decide)) f1) (fun h3 f2 => ?_)
    exact s_some f2
theorem sf_m_canAct (p1 : Int32) (p2 : Int32) (p3 : Int32) {h0 : PH} (i_h0 : IM h0) : Sf (mm_canAct p1 p2 p3 h0) (fun r => R 0 1 r) := by
  unfold mm_canAct
  refine s_house (i_h0).1 (fun r1 f2 c1 => ?_)
  refine s_if (fun c3 => ?_) (fun c3 => ?_)
  ·
    have f4 : R 0 0 r1 := r_eq (⟨by decide, by decide⟩ : R 0 0 (0 : Int32)) c3
    exact s_some (r_w (⟨by decide, by decide⟩ : R 0 0 (0 : Int32)) (by decide))
  ·
    have f5 : R 1 1 r1 := r_ne_lo f2 (⟨by decide, by decide⟩ : R 0 0 (0 : Int32)) c3 (by decide)
    have f6 : R 0 11 p2 := c1 c3
    refine s_isin (fun r2 f8 c7 => ?_)
    refine s_if (fun c9 => ?_) (fun c9 => ?_)
    ·
      have f10 : R 0 0 r2 := r_eq (⟨by decide, by decide⟩ : R 0 0 (0 : Int32)) c9
      refine s_isin (fun r3 f12 c11 => ?_)
      refine s_if (fun c13 => ?_) (fun c13 => ?_)
      ·
        have f14 : R 0 0 r3 := r_eq (⟨by decide, by decide⟩ : R 0 0 (0 : Int32)) c13
        refine s_if (fun c15 => ?_) (fun c15 => ?_)
        ·
          have f16 : R 20 20 p1 := r_eq (⟨by decide, by decide⟩ : R 20 20 (20 : Int32)) c15
          refine s_bd (sf_m_canWed p2 (r_w f6 (by decide)) i_h0) (fun r4 f17 => ?_)
          exact s_some (r_w (r_nb r4) (by decide))
        ·
          refine s_if (fun c18 => ?_) (fun c18 => ?_)
          ·
            have f19 : R 21 21 p1 := r_eq (⟨by decide, by decide⟩ : R 21 21 (21 : Int32)) c18
            refine s_ck (r_add (⟨by decide, by decide⟩ : R 79 79 (79 : Int32)) f6 (by decide) : R 79 90 (79 + p2)) (by decide) ?_
            refine s_if (fun c20 => ?_) (fun c20 => ?_)
            ·
              have f21 : R (-2147483648) 0 (h0 105 (ix (79 + p2))) := le_hi (r_full (h0 105 (ix (79 + p2)))) (⟨by decide, by decide⟩ : R 0 0 (0 : Int32)) c20
              exact s_some (r_w (⟨by decide, by decide⟩ : R 0 0 (0 : Int32)) (by decide))
            ·
              have f22 : R 1 2147483647 (h0 105 (ix (79 + p2))) := lt_lo (⟨by decide, by decide⟩ : R 0 0 (0 : Int32)) (r_full (h0 105 (ix (79 + p2)))) (nle_lt c20) (by decide)
              refine s_house (i_h0).1 (fun r5 f24 c23 => ?_)
              refine s_if (fun c25 => ?_) (fun c25 => ?_)
              ·
                have f26 : R 0 0 r5 := r_eq (⟨by decide, by decide⟩ : R 0 0 (0 : Int32)) c25
                exact s_some (r_w (⟨by decide, by decide⟩ : R 0 0 (0 : Int32)) (by decide))
              ·
                have f27 : R 1 1 r5 := r_ne_lo f24 (⟨by decide, by decide⟩ : R 0 0 (0 : Int32)) c25 (by decide)
                have f28 : R 0 11 p3 := c23 c25
                refine s_if (fun c29 => ?_) (fun c29 => ?_)
                ·
                  exact s_some (r_w (⟨by decide, by decide⟩ : R 0 0 (0 : Int32)) (by decide))
                ·
                  refine s_bd (sf_m_doesStand p3 (r_w f28 (by decide)) i_h0) (fun r6 f30 => ?_)
                  refine s_if (fun c31 => ?_) (fun c31 => ?_)
                  ·
                    have f32 : R 0 0 r6 := r_eq (⟨by decide, by decide⟩ : R 0 0 (0 : Int32)) c31
                    exact s_some (r_w (⟨by decide, by decide⟩ : R 0 0 (0 : Int32)) (by decide))
                  ·
                    have f33 : R 1 1 r6 := r_ne_lo f30 (⟨by decide, by decide⟩ : R 0 0 (0 : Int32)) c31 (by decide)
                    exact s_some (r_w (⟨by decide, by decide⟩ : R 1 1 (1 : Int32)) (by decide))
          ·
            refine s_if (fun c34 => ?_) (fun c34 => ?_)
            ·
              have f35 : R 22 22 p1 := r_eq (⟨by decide, by decide⟩ : R 22 22 (22 : Int32)) c34
              refine s_bd (sf_m_doesStand p2 (r_w f6 (by decide)) i_h0) (fun r7 f36 => ?_)
              refine s_if (fun c37 => ?_) (fun c37 => ?_)
              ·
                have f38 : R 0 0 r7 := r_eq (⟨by decide, by decide⟩ : R 0 0 (0 : Int32)) c37
                exact s_some (r_w (⟨by decide, by decide⟩ : R 0 0 (0 : Int32)) (by decide))
              ·
                have f39 : R 1 1 r7 := r_ne_lo f36 (⟨by decide, by decide⟩ : R 0 0 (0 : Int32)) c37 (by decide)
                exact s_some (r_w (⟨by decide, by decide⟩ : R 1 1 (1 : Int32)) (by decide))
            ·
              exact s_some (r_w (⟨by decide, by decide⟩ : R 0 0 (0 : Int32)) (by decide))
      ·
        have f40 : R 1 1 r3 := r_ne_lo f12 (⟨by decide, by decide⟩ : R 0 0 (0 : Int32)) c13 (by decide)
        have q41 := c11 c13
        have f42 : R 10 2147483647 p1 := le_lo (⟨by decide, by decide⟩ : R 10 10 (10 : Int32)) (r_full p1) q41.1
        have f43 : R 10 13 p1 := le_hi f42 (⟨by decide, by decide⟩ : R 13 13 (13 : Int32)) q41.2
        refine s_isin (fun r8 f45 c44 => ?_)
        exact s_some (r_w (r_nb r8) (by decide))
    ·
      have f46 : R 1 1 r2 := r_ne_lo f8 (⟨by decide, by decide⟩ : R 0 0 (0 : Int32)) c9 (by decide)
      have q47 := c7 c9
      have f48 : R 0 2147483647 p1 := le_lo (⟨by decide, by decide⟩ : R 0 0 (0 : Int32)) (r_full p1) q47.1
      have f49 : R 0 3 p1 := le_hi f48 (⟨by decide, by decide⟩ : R 3 3 (3 : Int32)) q47.2
      refine s_bd (sf_m_wallOf p2 p1 (r_w f6 (by decide)) (r_w f49 (by decide)) i_h0) (fun r9 f50 => ?_)
      refine s_isin (fun r10 f52 c51 => ?_)
      exact s_some (r_w (r_nb r10) (by decide))
theorem sl_m_skyOf_L2 : ∀ (n : Nat) (v1 : Int32) (hv : PH), 50 - v1.toInt < (n : Int) → R 0 50 v1 → IM hv → Sf (mm_skyOf_L2  n v1 hv) (fun h => IM h) := by
  intro n
  induction n with
  | zero =>
    intro v1 hv hfu f_v1 i_hv
    have := f_v1.2
    omega
  | succ n ih =>
    intro v1 hv hfu f_v1 i_hv
    rw [mm_skyOf_L2]
    refine s_if (fun c1 => ?_) (fun c1 => ?_)
    ·
      exact s_some i_hv
    ·
      have f2 : R 0 47 v1 := lt_hi f_v1 (r_mul (⟨by decide, by decide⟩ : R 3 3 (3 : Int32)) (inv_rng (i_hv).1 rfl : R 0 16 (hv 104 33)) (by decide) : R 0 48 (3 * (hv 104 33))) (nle_lt c1) (by decide)
      have f3 : R 1 48 (3 * (hv 104 33)) := lt_lo f_v1 (r_mul (⟨by decide, by decide⟩ : R 3 3 (3 : Int32)) (inv_rng (i_hv).1 rfl : R 0 16 (hv 104 33)) (by decide) : R 0 48 (3 * (hv 104 33))) (nle_lt c1) (by decide)
      refine s_ck f2 (by decide) ?_
      refine s_ck (⟨by decide, by decide⟩ : R 0 0 (0 : Int32)) (by decide) ?_
      refine s_if (fun c4 => ?_) (fun c4 => ?_)
      ·
        refine s_ck (r_add f2 (⟨by decide, by decide⟩ : R 1 1 (1 : Int32)) (by decide) : R 1 48 (v1 + 1)) (by decide) ?_
        refine s_if (fun c5 => ?_) (fun c5 => ?_)
        ·
          have f6 : R 0 0 (hv 121 (ix (v1 + 1))) := r_eq (⟨by decide, by decide⟩ : R 0 0 (0 : Int32)) c5
          refine s_ck (r_add f2 (⟨by decide, by decide⟩ : R 2 2 (2 : Int32)) (by decide) : R 2 49 (v1 + 2)) (by decide) ?_
          refine s_ck (⟨by decide, by decide⟩ : R 3 3 (3 : Int32)) (by decide) ?_
          refine s_lt (fun h1 e7 => ?_)
          have i8 : IM h1 := by rw [e7]; exact im_put i_hv rfl (r_w (r_full (hv 121 (ix (v1 + 2)))) (by decide)) (by decide)
          refine s_lt (fun x2 e9 => ?_)
          have f10 : R 3 50 x2 := by rw [e9]; exact (r_add f2 (⟨by decide, by decide⟩ : R 3 3 (3 : Int32)) (by decide) : R 3 50 (v1 + 3))
          exact ih x2 h1 (fu_su hfu (by rw [e9]; exact (i_inc f2 (k := 3) rfl (by decide))) (by decide)) (r_w f10 (by decide)) i8
        ·
          refine s_ck (r_add f2 (⟨by decide, by decide⟩ : R 1 1 (1 : Int32)) (by decide) : R 1 48 (v1 + 1)) (by decide) ?_
          refine s_jn1 (P := fun (x4 : Int32) => R 0 1 x4) (fun x4 f13 => ?_) (fun j3 kj3 => ?_)
          ·
            refine s_ck (⟨by decide, by decide⟩ : R 4 4 (4 : Int32)) (by decide) ?_
            refine s_lt (fun h5 e14 => ?_)
            have i15 : IM h5 := by rw [e14]; exact im_put i_hv rfl (r_w f13 (by decide)) (by decide)
            refine s_lt (fun x6 e16 => ?_)
            have f17 : R 3 50 x6 := by rw [e16]; exact (r_add f2 (⟨by decide, by decide⟩ : R 3 3 (3 : Int32)) (by decide) : R 3 50 (v1 + 3))
            exact ih x6 h5 (fu_su hfu (by rw [e16]; exact (i_inc f2 (k := 3) rfl (by decide))) (by decide)) (r_w f17 (by decide)) i15
          ·
            refine s_if (fun c18 => ?_) (fun c18 => ?_)
            ·
              have f19 : R 1 1 (hv 121 (ix (v1 + 1))) := r_eq (⟨by decide, by decide⟩ : R 1 1 (1 : Int32)) c18
              exact kj3 _ (r_w (⟨by decide, by decide⟩ : R 1 1 (1 : Int32)) (by decide))
            ·
              exact kj3 _ (r_w (⟨by decide, by decide⟩ : R 0 0 (0 : Int32)) (by decide))
      ·
        refine s_lt (fun x7 e20 => ?_)
        have f21 : R 3 50 x7 := by rw [e20]; exact (r_add f2 (⟨by decide, by decide⟩ : R 3 3 (3 : Int32)) (by decide) : R 3 50 (v1 + 3))
        exact ih x7 hv (fu_su hfu (by rw [e20]; exact (i_inc f2 (k := 3) rfl (by decide))) (by decide)) (r_w f21 (by decide)) i_hv
theorem sf_m_skyOf {h0 : PH} (i_h0 : IM h0) : Sf (mm_skyOf h0) (fun h => IM h) := by
  unfold mm_skyOf
  refine sl_m_skyOf_L2  FU 0 h0 (fu_up (⟨by decide, by decide⟩ : R 0 0 (0 : Int32)) (by decide)) (r_w (⟨by decide, by decide⟩ : R 0 0 (0 : Int32)) (by decide)) i_h0
theorem sf_m_book (p1 : Int32) (p2 : Int32) {h0 : PH} (i_h0 : IM h0) : Sf (mm_book p1 p2 h0) (fun r => R (-2147483648) 2147483647 r.1 ∧ IM r.2) := by
  unfold mm_book
  refine s_lt (fun h1 e1 => ?_)
  have i2 : IM h1 := by rw [e1]; exact im_put i_h0 rfl (r_w (⟨by decide, by decide⟩ : R 0 0 (0 : Int32)) (by decide)) (by decide)
  refine s_ck (⟨by decide, by decide⟩ : R 2 2 (2 : Int32)) (by decide) ?_
  refine s_isin (fun r2 f4 c3 => ?_)
  refine s_if (fun c5 => ?_) (fun c5 => ?_)
  ·
    have f6 : R 0 0 r2 := r_eq (⟨by decide, by decide⟩ : R 0 0 (0 : Int32)) c5
    exact s_some ⟨r_w (⟨by decide, by decide⟩ : R (-2) (-2) (-2 : Int32)) (by decide), i2⟩
  ·
    have f7 : R 1 1 r2 := r_ne_lo f4 (⟨by decide, by decide⟩ : R 0 0 (0 : Int32)) c5 (by decide)
    have q8 := c3 c5
    have f9 : R 0 2147483647 p1 := le_lo (⟨by decide, by decide⟩ : R 0 0 (0 : Int32)) (r_full p1) q8.1
    have f10 : R 0 149 p1 := le_hi f9 (r_sub (inv_rng (i2).1 rfl : R 0 150 (h1 105 (ix 2))) (⟨by decide, by decide⟩ : R 1 1 (1 : Int32)) (by decide) : R (-1) 149 ((h1 105 (ix 2)) - 1)) q8.2
    have f11 : R 0 149 ((h1 105 (ix 2)) - 1) := le_lo f9 (r_sub (inv_rng (i2).1 rfl : R 0 150 (h1 105 (ix 2))) (⟨by decide, by decide⟩ : R 1 1 (1 : Int32)) (by decide) : R (-1) 149 ((h1 105 (ix 2)) - 1)) q8.2
    refine s_isin (fun r3 f13 c12 => ?_)
    refine s_if (fun c14 => ?_) (fun c14 => ?_)
    ·
      have f15 : R 0 0 r3 := r_eq (⟨by decide, by decide⟩ : R 0 0 (0 : Int32)) c14
      exact s_some ⟨r_w (⟨by decide, by decide⟩ : R (-2) (-2) (-2 : Int32)) (by decide), i2⟩
    ·
      have f16 : R 1 1 r3 := r_ne_lo f13 (⟨by decide, by decide⟩ : R 0 0 (0 : Int32)) c14 (by decide)
      have q17 := c12 c14
      have f18 : R 0 2147483647 p2 := le_lo (⟨by decide, by decide⟩ : R 0 0 (0 : Int32)) (r_full p2) q17.1
      have f19 : R 0 3 p2 := le_hi f18 (⟨by decide, by decide⟩ : R 3 3 (3 : Int32)) q17.2
      refine s_ck (r_add (r_mul (⟨by decide, by decide⟩ : R 4 4 (4 : Int32)) f10 (by decide) : R 0 596 (4 * p1)) f19 (by decide) : R 0 599 ((4 * p1) + p2)) (by decide) ?_
      exact s_some ⟨r_w (r_full (h1 110 (ix ((4 * p1) + p2)))) (by decide), i2⟩
theorem sl_m_allOf_L4 (p1 : Int32) (h0 : PH) (f_p1 : R 67 79 p1) (i_h0 : IM h0) : ∀ (n : Nat) (v2 : Int32) (v3 : Int32), 12 - v3.toInt < (n : Int) → R (-2147483648) 2147483647 v2 → R 0 12 v3 → Sf (mm_allOf_L4 p1 h0 n v2 v3) (fun r => R (-2147483648) 2147483647 r) := by
  intro n
  induction n with
  | zero =>
    intro v2 v3 hfu f_v2 f_v3
    have := f_v3.2
    omega
  | succ n ih =>
    intro v2 v3 hfu f_v2 f_v3
    rw [mm_allOf_L4]
    refine s_if (fun c1 => ?_) (fun c1 => ?_)
    ·
      exact s_some (r_w f_v2 (by decide))
    ·
      have f2 : R 0 11 v3 := lt_hi f_v3 (inv_rng (i_h0).1 rfl : R 0 12 (h0 104 6)) (nle_lt c1) (by decide)
      have f3 : R 1 12 (h0 104 6) := lt_lo f_v3 (inv_rng (i_h0).1 rfl : R 0 12 (h0 104 6)) (nle_lt c1) (by decide)
      refine s_ck (r_add f_p1 f2 (by decide) : R 67 90 (p1 + v3)) (by decide) ?_
      refine s_lt (fun x1 e4 => ?_)
      exact ih x1 (v3 + 1) (fu_su hfu (i_inc f2 (k := 1) rfl (by decide)) (by decide)) (r_w (r_full x1) (by decide)) (r_w (r_add f2 (⟨by decide, by decide⟩ : R 1 1 (1 : Int32)) (by decide) : R 1 12 (v3 + 1)) (by decide))
theorem sf_m_allOf (p1 : Int32) (f_p1 : R 67 79 p1) {h0 : PH} (i_h0 : IM h0) : Sf (mm_allOf p1 h0) (fun r => R (-2147483648) 2147483647 r) := by
  unfold mm_allOf
  refine sl_m_allOf_L4 p1 h0 (r_w f_p1 (by decide)) i_h0 FU 0 0 (fu_up (⟨by decide, by decide⟩ : R 0 0 (0 : Int32)) (by decide)) (r_w (⟨by decide, by decide⟩ : R 0 0 (0 : Int32)) (by decide)) (r_w (⟨by decide, by decide⟩ : R 0 0 (0 : Int32)) (by decide))
theorem sf_m_stepCost (p1 : Int32) (p2 : Int32) (f_p1 : R 0 11 p1) (f_p2 : R 0 11 p2) {h0 : PH} (i_h0 : IM h0) : Sf (mm_stepCost p1 p2 h0) (fun r => R (-2147483648) 2147483647 r) := by
  unfold mm_stepCost
  refine s_bd (sf_m_sumOf p1 (r_w f_p1 (by decide)) i_h0) (fun r1 f1 => ?_)
  refine s_bd (sf_m_sumOf p2 (r_w f_p2 (by decide)) i_h0) (fun r2 f2 => ?_)
  exact s_some (r_w (r_full (r1 + r2)) (by decide))
theorem sl_m_findsCosts_L2 (p1 : Int32) (p2 : Int32) (k0 : PH → Option (PH)) (f_p1 : R (-2147483648) 2147483647 p1) (f_p2 : R (-2147483648) 2147483647 p2) (hk_k0 : ∀ (y0 : PH), IM y0 → Sf (k0 y0) (fun h => IM h)) : ∀ (n : Nat) (v3 : Int32) (hv : PH), 12 - v3.toInt < (n : Int) → R 0 12 v3 → IM hv → Sf (mm_findsCosts_L2 p1 p2 k0 n v3 hv) (fun h => IM h) := by
  intro n
  induction n with
  | zero =>
    intro v3 hv hfu f_v3 i_hv
    have := f_v3.2
    omega
  | succ n ih =>
    intro v3 hv hfu f_v3 i_hv
    rw [mm_findsCosts_L2]
    refine s_if (fun c1 => ?_) (fun c1 => ?_)
    ·
      exact hk_k0 _ (i_hv)
    ·
      have f2 : R 0 11 v3 := lt_hi f_v3 (inv_rng (i_hv).1 rfl : R 0 12 (hv 104 6)) (nle_lt c1) (by decide)
      have f3 : R 1 12 (hv 104 6) := lt_lo f_v3 (inv_rng (i_hv).1 rfl : R 0 12 (hv 104 6)) (nle_lt c1) (by decide)
      refine s_jn1 (P := fun (x2 : Int32) => R 0 100000000 x2) (fun x2 f6 => ?_) (fun j1 kj1 => ?_)
      ·
        refine s_ck f2 (by decide) ?_
        refine s_lt (fun h3 e7 => ?_)
        have i8 : IM h3 := by rw [e7]; exact im_put i_hv rfl (r_w f6 (by decide)) (by decide)
        have f9 : R 1 12 (h3 104 6) := by rw [e7, up_oc (by decide)]; exact f3
        exact ih (v3 + 1) h3 (fu_su hfu (i_inc f2 (k := 1) rfl (by decide)) (by decide)) (r_w (r_add f2 (⟨by decide, by decide⟩ : R 1 1 (1 : Int32)) (by decide) : R 1 12 (v3 + 1)) (by decide)) i8
      ·
        refine s_if (fun c10 => ?_) (fun c10 => ?_)
        ·
          have f11 : R 0 11 p1 := r_eq f2 c10.symm
          exact kj1 _ (r_w (⟨by decide, by decide⟩ : R 0 0 (0 : Int32)) (by decide))
        ·
          exact kj1 _ (r_w (⟨by decide, by decide⟩ : R 100000000 100000000 (100000000 : Int32)) (by decide))
theorem sl_m_findsCosts_L59 (p2 : Int32) (p3 : Int32) (p4 : Int32) (k0 : PH → Option (PH)) (f_p2 : R (-2147483648) 2147483647 p2) (f_p3 : R 0 11 p3) (f_p4 : R 0 11 p4) (hk_k0 : ∀ (y0 : PH), IM y0 → R 1 12 (y0 104 6) → Sf (k0 y0) (fun h => IM h)) : ∀ (n : Nat) (v5 : Int32) (hv : PH), 12 - v5.toInt < (n : Int) → R 0 12 v5 → IM hv → R 1 12 (hv 104 6) → Sf (mm_findsCosts_L59 p2 p3 p4 k0 n v5 hv) (fun h => IM h) := by
  intro n
  induction n with
  | zero =>
    intro v5 hv hfu f_v5 i_hv f_hv_104_6
    have := f_v5.2
    omega
  | succ n ih =>
    intro v5 hv hfu f_v5 i_hv f_hv_104_6
    rw [mm_findsCosts_L59]
    refine s_if (fun c1 => ?_) (fun c1 => ?_)
    ·
      have f2 : R 1 12 v5 := le_lo f_hv_104_6 f_v5 c1
      exact hk_k0 _ (i_hv) ((r_w f_hv_104_6 (by decide)))
    ·
      have f3 : R 0 11 v5 := lt_hi f_v5 f_hv_104_6 (nle_lt c1) (by decide)
      refine s_ck f_p4 (by decide) ?_
      refine s_bd (sf_m_has (hv 123 (ix p4)) v5 i_hv) (fun r5 f4 => ?_)
      refine s_if (fun c5 => ?_) (fun c5 => ?_)
      ·
        have f6 : R 0 0 r5 := r_eq (⟨by decide, by decide⟩ : R 0 0 (0 : Int32)) c5
        exact ih (v5 + 1) hv (fu_su hfu (i_inc f3 (k := 1) rfl (by decide)) (by decide)) (r_w (r_add f3 (⟨by decide, by decide⟩ : R 1 1 (1 : Int32)) (by decide) : R 1 12 (v5 + 1)) (by decide)) i_hv (r_w f_hv_104_6 (by decide))
      ·
        have f7 : R 1 1 r5 := r_ne_lo f4 (⟨by decide, by decide⟩ : R 0 0 (0 : Int32)) c5 (by decide)
        refine s_ck f_p4 (by decide) ?_
        refine s_if (fun c8 => ?_) (fun c8 => ?_)
        ·
          have f9 : R 100000000 100000000 (hv 126 (ix p4)) := r_eq (⟨by decide, by decide⟩ : R 100000000 100000000 (100000000 : Int32)) c8
          exact ih (v5 + 1) hv (fu_su hfu (i_inc f3 (k := 1) rfl (by decide)) (by decide)) (r_w (r_add f3 (⟨by decide, by decide⟩ : R 1 1 (1 : Int32)) (by decide) : R 1 12 (v5 + 1)) (by decide)) i_hv (r_w f_hv_104_6 (by decide))
        ·
          refine s_jn1 (P := fun (x7 : Int32) => R (-2147483648) 2147483647 x7) (fun x7 f15 => ?_) (fun j6 kj6 => ?_)
          ·
            refine s_ck f3 (by decide) ?_
            refine s_bd (sf_m_lesser (hv 126 (ix v5)) x7 i_hv) (fun r8 f16 => ?_)
            refine s_ck f3 (by decide) ?_
            refine s_lt (fun h9 e17 => ?_)
            have i18 : IM h9 := by rw [e17]; exact im_put i_hv rfl (r_w (r_full r8) (by decide)) (by decide)
            have f19 : R 1 12 (h9 104 6) := by rw [e17, up_oc (by decide)]; exact f_hv_104_6
            exact ih (v5 + 1) h9 (fu_su hfu (i_inc f3 (k := 1) rfl (by decide)) (by decide)) (r_w (r_add f3 (⟨by decide, by decide⟩ : R 1 1 (1 : Int32)) (by decide) : R 1 12 (v5 + 1)) (by decide)) i18 (r_w f19 (by decide))
          ·
            refine s_if (fun c20 => ?_) (fun c20 => ?_)
            ·
              have f21 : R 0 0 p2 := r_eq (⟨by decide, by decide⟩ : R 0 0 (0 : Int32)) c20
              refine s_ck f_p4 (by decide) ?_
              refine s_bd (sf_m_stepCost p4 v5 (r_w f_p4 (by decide)) (r_w f3 (by decide)) i_hv) (fun r10 f22 => ?_)
              exact kj6 _ (r_w (r_full ((hv 126 (ix p4)) + r10)) (by decide))
            ·
              refine s_ck f_p4 (by decide) ?_
              refine s_bd (sf_m_stepCost p4 v5 (r_w f_p4 (by decide)) (r_w f3 (by decide)) i_hv) (fun r11 f23 => ?_)
              refine s_bd (sf_m_greater (hv 126 (ix p4)) r11 i_hv) (fun r12 f24 => ?_)
              exact kj6 _ (r_w (r_full r12) (by decide))
theorem sl_m_findsCosts_L47 (p2 : Int32) (p3 : Int32) (k0 : PH → Option (PH)) (f_p2 : R (-2147483648) 2147483647 p2) (f_p3 : R 0 11 p3) (hk_k0 : ∀ (y0 : PH), IM y0 → R 1 12 (y0 104 6) → Sf (k0 y0) (fun h => IM h)) : ∀ (n : Nat) (v4 : Int32) (hv : PH), 12 - v4.toInt < (n : Int) → R 0 12 v4 → IM hv → R 1 12 (hv 104 6) → Sf (mm_findsCosts_L47 p2 p3 k0 n v4 hv) (fun h => IM h) := by
  intro n
  induction n with
  | zero =>
    intro v4 hv hfu f_v4 i_hv f_hv_104_6
    have := f_v4.2
    omega
  | succ n ih =>
    intro v4 hv hfu f_v4 i_hv f_hv_104_6
    rw [mm_findsCosts_L47]
    refine s_if (fun c1 => ?_) (fun c1 => ?_)
    ·
      have f2 : R 1 12 v4 := le_lo f_hv_104_6 f_v4 c1
      exact hk_k0 _ (i_hv) ((r_w f_hv_104_6 (by decide)))
    ·
      have f3 : R 0 11 v4 := lt_hi f_v4 f_hv_104_6 (nle_lt c1) (by decide)
      refine sl_m_findsCosts_L59 p2 p3 v4 _ (r_w f_p2 (by decide)) (r_w f_p3 (by decide)) (r_w f3 (by decide)) ?_ FU 0 hv (fu_up (⟨by decide, by decide⟩ : R 0 0 (0 : Int32)) (by decide)) (r_w (⟨by decide, by decide⟩ : R 0 0 (0 : Int32)) (by decide)) i_hv (r_w f_hv_104_6 (by decide))
      ·
        intro h13 f4 f5
        exact ih (v4 + 1) h13 (fu_su hfu (i_inc f3 (k := 1) rfl (by decide)) (by decide)) (r_w (r_add f3 (⟨by decide, by decide⟩ : R 1 1 (1 : Int32)) (by decide) : R 1 12 (v4 + 1)) (by decide)) f4 (r_w f5 (by decide))
theorem sl_m_findsCosts_L36 (p2 : Int32) (f_p2 : R (-2147483648) 2147483647 p2) : ∀ (n : Nat) (v3 : Int32) (hv : PH), 12 - v3.toInt < (n : Int) → R 0 12 v3 → IM hv → Sf (mm_findsCosts_L36 p2 n v3 hv) (fun h => IM h) := by
  intro n
  induction n with
  | zero =>
    intro v3 hv hfu f_v3 i_hv
    have := f_v3.2
    omega
  | succ n ih =>
    intro v3 hv hfu f_v3 i_hv
    rw [mm_findsCosts_L36]
    refine s_if (fun c1 => ?_) (fun c1 => ?_)
    ·
      exact s_some i_hv
    ·
      have f2 : R 0 11 v3 := lt_hi f_v3 (inv_rng (i_hv).1 rfl : R 0 12 (hv 104 6)) (nle_lt c1) (by decide)
      have f3 : R 1 12 (hv 104 6) := lt_lo f_v3 (inv_rng (i_hv).1 rfl : R 0 12 (hv 104 6)) (nle_lt c1) (by decide)
      refine sl_m_findsCosts_L47 p2 v3 _ (r_w f_p2 (by decide)) (r_w f2 (by decide)) ?_ FU 0 hv (fu_up (⟨by decide, by decide⟩ : R 0 0 (0 : Int32)) (by decide)) (r_w (⟨by decide, by decide⟩ : R 0 0 (0 : Int32)) (by decide)) i_hv (r_w f3 (by decide))
      ·
        intro h14 f4 f5
        exact ih (v3 + 1) h14 (fu_su hfu (i_inc f2 (k := 1) rfl (by decide)) (by decide)) (r_w (r_add f2 (⟨by decide, by decide⟩ : R 1 1 (1 : Int32)) (by decide) : R 1 12 (v3 + 1)) (by decide)) f4
theorem sf_m_findsCosts (p1 : Int32) (p2 : Int32) {h0 : PH} (i_h0 : IM h0) : Sf (mm_findsCosts p1 p2 h0) (fun h => IM h) := by
  unfold mm_findsCosts
  refine sl_m_findsCosts_L2 p1 p2 _ (r_w (r_full p1) (by decide)) (r_w (r_full p2) (by decide)) ?_ FU 0 h0 (fu_up (⟨by decide, by decide⟩ : R 0 0 (0 : Int32)) (by decide)) (r_w (⟨by decide, by decide⟩ : R 0 0 (0 : Int32)) (by decide)) i_h0
  ·
    intro h4 f1
    refine sl_m_findsCosts_L36 p2 (r_w (r_full p2) (by decide)) FU 0 h4 (fu_up (⟨by decide, by decide⟩ : R 0 0 (0 : Int32)) (by decide)) (r_w (⟨by decide, by decide⟩ : R 0 0 (0 : Int32)) (by decide)) f1
theorem sf_m_costOf (p1 : Int32) (p2 : Int32) (p3 : Int32) {h0 : PH} (i_h0 : IM h0) : Sf (mm_costOf p1 p2 p3 h0) (fun r => R (-2147483648) 2147483647 r.1 ∧ IM r.2) := by
  unfold mm_costOf
  refine s_house (i_h0).1 (fun r1 f2 c1 => ?_)
  refine s_if (fun c3 => ?_) (fun c3 => ?_)
  ·
    have f4 : R 0 0 r1 := r_eq (⟨by decide, by decide⟩ : R 0 0 (0 : Int32)) c3
    exact s_some ⟨r_w (⟨by decide, by decide⟩ : R (-1) (-1) (-1 : Int32)) (by decide), i_h0⟩
  ·
    have f5 : R 1 1 r1 := r_ne_lo f2 (⟨by decide, by decide⟩ : R 0 0 (0 : Int32)) c3 (by decide)
    have f6 : R 0 11 p1 := c1 c3
    refine s_house (i_h0).1 (fun r2 f8 c7 => ?_)
    refine s_if (fun c9 => ?_) (fun c9 => ?_)
    ·
      have f10 : R 0 0 r2 := r_eq (⟨by decide, by decide⟩ : R 0 0 (0 : Int32)) c9
      exact s_some ⟨r_w (⟨by decide, by decide⟩ : R (-1) (-1) (-1 : Int32)) (by decide), i_h0⟩
    ·
      have f11 : R 1 1 r2 := r_ne_lo f8 (⟨by decide, by decide⟩ : R 0 0 (0 : Int32)) c9 (by decide)
      have f12 : R 0 11 p2 := c7 c9
      refine s_bd (sf_m_findsCosts p1 p3 i_h0) (fun h3 f13 => ?_)
      refine s_ck f12 (by decide) ?_
      refine s_if (fun c14 => ?_) (fun c14 => ?_)
      ·
        have f15 : R 100000000 100000000 (h3 126 (ix p2)) := r_eq (⟨by decide, by decide⟩ : R 100000000 100000000 (100000000 : Int32)) c14
        exact s_some ⟨r_w (⟨by decide, by decide⟩ : R (-1) (-1) (-1 : Int32)) (by decide), f13⟩
      ·
        refine s_ck f12 (by decide) ?_
        exact s_some ⟨r_w (r_full (h3 126 (ix p2))) (by decide), f13⟩
theorem sf_m_hears (p1 : Int32) (p2 : Int32) {h0 : PH} (i_h0 : IM h0) : Sf (mm_hears p1 p2 h0) (fun r => R (-2147483648) 2147483647 r.1 ∧ IM r.2) := by
  unfold mm_hears
  refine s_lt (fun h1 e1 => ?_)
  have i2 : IM h1 := by rw [e1]; exact im_put i_h0 rfl (r_w (⟨by decide, by decide⟩ : R 0 0 (0 : Int32)) (by decide)) (by decide)
  refine s_bd2 (sf_m_costOf p1 p2 1 i2) (fun r2 h3 f3 => ?_)
  exact s_some ⟨r_w f3.1 (by decide), f3.2⟩
theorem sl_m_heard_L38 (p1 : Int32) (p2 : Int32) (h0 : PH) (f_p1 : R 0 11 p1) (f_p2 : R 0 800 p2) (i_h0 : IM h0) : ∀ (n : Nat) (v3 : Int32) (v4 : Int32), 12 - v4.toInt < (n : Int) → R (-2147483648) 2147483647 v3 → R 0 12 v4 → Sf (mm_heard_L38 p1 p2 h0 n v3 v4) (fun r => R (-2147483648) 2147483647 r.1 ∧ IM r.2) := by
  intro n
  induction n with
  | zero =>
    intro v3 v4 hfu f_v3 f_v4
    have := f_v4.2
    omega
  | succ n ih =>
    intro v3 v4 hfu f_v3 f_v4
    rw [mm_heard_L38]
    refine s_if (fun c1 => ?_) (fun c1 => ?_)
    ·
      exact s_some ⟨r_w f_v3 (by decide), i_h0⟩
    ·
      have f2 : R 0 11 v4 := lt_hi f_v4 (inv_rng (i_h0).1 rfl : R 0 12 (h0 104 6)) (nle_lt c1) (by decide)
      have f3 : R 1 12 (h0 104 6) := lt_lo f_v4 (inv_rng (i_h0).1 rfl : R 0 12 (h0 104 6)) (nle_lt c1) (by decide)
      refine s_if (fun c4 => ?_) (fun c4 => ?_)
      ·
        exact ih v3 (v4 + 1) (fu_su hfu (i_inc f2 (k := 1) rfl (by decide)) (by decide)) (r_w f_v3 (by decide)) (r_w (r_add f2 (⟨by decide, by decide⟩ : R 1 1 (1 : Int32)) (by decide) : R 1 12 (v4 + 1)) (by decide))
      ·
        refine s_ck f2 (by decide) ?_
        refine s_if (fun c5 => ?_) (fun c5 => ?_)
        ·
          have f6 : R 1 2147483647 (h0 126 (ix v4)) := lt_lo f_p2 (r_full (h0 126 (ix v4))) c5 (by decide)
          exact ih v3 (v4 + 1) (fu_su hfu (i_inc f2 (k := 1) rfl (by decide)) (by decide)) (r_w f_v3 (by decide)) (r_w (r_add f2 (⟨by decide, by decide⟩ : R 1 1 (1 : Int32)) (by decide) : R 1 12 (v4 + 1)) (by decide))
        ·
          have f7 : R (-2147483648) 800 (h0 126 (ix v4)) := le_hi (r_full (h0 126 (ix v4))) f_p2 (nlt_le c5)
          refine s_lt (fun x5 e8 => ?_)
          exact ih x5 (v4 + 1) (fu_su hfu (i_inc f2 (k := 1) rfl (by decide)) (by decide)) (r_w (r_full x5) (by decide)) (r_w (r_add f2 (⟨by decide, by decide⟩ : R 1 1 (1 : Int32)) (by decide) : R 1 12 (v4 + 1)) (by decide))
theorem sf_m_heard (p1 : Int32) (p2 : Int32) {h0 : PH} (i_h0 : IM h0) : Sf (mm_heard p1 p2 h0) (fun r => R (-2147483648) 2147483647 r.1 ∧ IM r.2) := by
  unfold mm_heard
  refine s_lt (fun h1 e1 => ?_)
  have i2 : IM h1 := by rw [e1]; exact im_put i_h0 rfl (r_w (⟨by decide, by decide⟩ : R 0 0 (0 : Int32)) (by decide)) (by decide)
  refine s_house (i2).1 (fun r2 f4 c3 => ?_)
  refine s_if (fun c5 => ?_) (fun c5 => ?_)
  ·
    have f6 : R 0 0 r2 := r_eq (⟨by decide, by decide⟩ : R 0 0 (0 : Int32)) c5
    exact s_some ⟨r_w (⟨by decide, by decide⟩ : R (-1) (-1) (-1 : Int32)) (by decide), i2⟩
  ·
    have f7 : R 1 1 r2 := r_ne_lo f4 (⟨by decide, by decide⟩ : R 0 0 (0 : Int32)) c5 (by decide)
    have f8 : R 0 11 p1 := c3 c5
    refine s_isin (fun r3 f10 c9 => ?_)
    refine s_if (fun c11 => ?_) (fun c11 => ?_)
    ·
      have f12 : R 0 0 r3 := r_eq (⟨by decide, by decide⟩ : R 0 0 (0 : Int32)) c11
      exact s_some ⟨r_w (⟨by decide, by decide⟩ : R (-1) (-1) (-1 : Int32)) (by decide), i2⟩
    ·
      have f13 : R 1 1 r3 := r_ne_lo f10 (⟨by decide, by decide⟩ : R 0 0 (0 : Int32)) c11 (by decide)
      have q14 := c9 c11
      have f15 : R 0 2147483647 p2 := le_lo (⟨by decide, by decide⟩ : R 0 0 (0 : Int32)) (r_full p2) q14.1
      have f16 : R 0 800 p2 := le_hi f15 (⟨by decide, by decide⟩ : R 800 800 (800 : Int32)) q14.2
      refine s_bd (sf_m_findsCosts p1 1 i2) (fun h4 f17 => ?_)
      refine sl_m_heard_L38 p1 p2 h4 (r_w f8 (by decide)) (r_w f16 (by decide)) f17 FU 0 0 (fu_up (⟨by decide, by decide⟩ : R 0 0 (0 : Int32)) (by decide)) (r_w (⟨by decide, by decide⟩ : R 0 0 (0 : Int32)) (by decide)) (r_w (⟨by decide, by decide⟩ : R 0 0 (0 : Int32)) (by decide))
theorem sf_m_ants (p1 : Int32) (p2 : Int32) {h0 : PH} (i_h0 : IM h0) : Sf (mm_ants p1 p2 h0) (fun r => R (-2147483648) 2147483647 r.1 ∧ IM r.2) := by
  unfold mm_ants
  refine s_lt (fun h1 e1 => ?_)
  have i2 : IM h1 := by rw [e1]; exact im_put i_h0 rfl (r_w (⟨by decide, by decide⟩ : R 0 0 (0 : Int32)) (by decide)) (by decide)
  refine s_bd2 (sf_m_costOf p1 p2 0 i2) (fun r2 h3 f3 => ?_)
  exact s_some ⟨r_w f3.1 (by decide), f3.2⟩
theorem sf_m_piece (p1 : Int32) {h0 : PH} (i_h0 : IM h0) : Sf (mm_piece p1 h0) (fun r => R (-1) 9 r.1 ∧ IM r.2) := by
  unfold mm_piece
  refine s_lt (fun h1 e1 => ?_)
  have i2 : IM h1 := by rw [e1]; exact im_put i_h0 rfl (r_w (⟨by decide, by decide⟩ : R 0 0 (0 : Int32)) (by decide)) (by decide)
  refine s_if (fun c3 => ?_) (fun c3 => ?_)
  ·
    have f4 : R (-1) (-1) p1 := r_eq (⟨by decide, by decide⟩ : R (-1) (-1) (-1 : Int32)) c3
    refine s_lt (fun h2 e5 => ?_)
    have i6 : IM h2 := by rw [e5]; exact im_put i2 rfl (r_w (⟨by decide, by decide⟩ : R 0 0 (0 : Int32)) (by decide)) (by decide)
    have f7 : R 0 0 (h2 104 42) := by rw [e5, up_same]; exact (⟨by decide, by decide⟩ : R 0 0 (0 : Int32))
    exact s_some ⟨r_w (⟨by decide, by decide⟩ : R 0 0 (0 : Int32)) (by decide), i6⟩
  ·
    refine s_isin (fun r3 f9 c8 => ?_)
    refine s_if (fun c10 => ?_) (fun c10 => ?_)
    ·
      have f11 : R 0 0 r3 := r_eq (⟨by decide, by decide⟩ : R 0 0 (0 : Int32)) c10
      exact s_some ⟨r_w (⟨by decide, by decide⟩ : R (-1) (-1) (-1 : Int32)) (by decide), i2⟩
    ·
      have f12 : R 1 1 r3 := r_ne_lo f9 (⟨by decide, by decide⟩ : R 0 0 (0 : Int32)) c10 (by decide)
      have q13 := c8 c10
      have f14 : R 0 2147483647 p1 := le_lo (⟨by decide, by decide⟩ : R 0 0 (0 : Int32)) (r_full p1) q13.1
      have f15 : R 0 99 p1 := le_hi f14 (⟨by decide, by decide⟩ : R 99 99 (99 : Int32)) q13.2
      refine s_if (fun c16 => ?_) (fun c16 => ?_)
      ·
        have f17 : R 9 9 (h1 104 42) := r_eq (⟨by decide, by decide⟩ : R 9 9 (9 : Int32)) c16
        exact s_some ⟨r_w (⟨by decide, by decide⟩ : R (-1) (-1) (-1 : Int32)) (by decide), i2⟩
      ·
        have f18 : R 0 8 (h1 104 42) := r_ne_hi (inv_rng (i2).1 rfl : R 0 9 (h1 104 42)) (⟨by decide, by decide⟩ : R 9 9 (9 : Int32)) c16 (by decide)
        refine s_ck f18 (by decide) ?_
        refine s_lt (fun h4 e19 => ?_)
        have i20 : IM h4 := by rw [e19]; exact im_put i2 rfl (r_w f15 (by decide)) (by decide)
        have f21 : R 0 8 (h4 104 42) := by rw [e19, up_oc (by decide)]; exact f18
        refine s_lt (fun h5 e22 => ?_)
        have i23 : IM h5 := by rw [e22]; exact im_put i20 rfl (r_w (r_add f21 (⟨by decide, by decide⟩ : R 1 1 (1 : Int32)) (by decide) : R 1 9 ((h4 104 42) + 1)) (by decide)) (by decide)
        have f24 : R 1 9 (h5 104 42) := by rw [e22, up_same]; exact (r_add f21 (⟨by decide, by decide⟩ : R 1 1 (1 : Int32)) (by decide) : R 1 9 ((h4 104 42) + 1))
        exact s_some ⟨r_w f24 (by decide), i23⟩
theorem sl_m_piecesOver_L5 (p2 : Int32) (h0 : PH) (f_p2 : R 0 9 p2) (i_h0 : IM h0) : ∀ (n : Nat) (v3 : Int32) (v4 : Int32), 9 - v4.toInt < (n : Int) → R (-2147483648) 2147483647 v3 → R 0 9 v4 → Sf (mm_piecesOver_L5 p2 h0 n v3 v4) (fun r => R (-2147483648) 2147483647 r) := by
  intro n
  induction n with
  | zero =>
    intro v3 v4 hfu f_v3 f_v4
    have := f_v4.2
    omega
  | succ n ih =>
    intro v3 v4 hfu f_v3 f_v4
    rw [mm_piecesOver_L5]
    refine s_if (fun c1 => ?_) (fun c1 => ?_)
    ·
      exact s_some (r_w f_v3 (by decide))
    ·
      have f2 : R 0 8 v4 := lt_hi f_v4 f_p2 (nle_lt c1) (by decide)
      have f3 : R 1 9 p2 := lt_lo f_v4 f_p2 (nle_lt c1) (by decide)
      refine s_ck f2 (by decide) ?_
      refine s_lt (fun x1 e4 => ?_)
      exact ih x1 (v4 + 1) (fu_su hfu (i_inc f2 (k := 1) rfl (by decide)) (by decide)) (r_w (r_full x1) (by decide)) (r_w (r_add f2 (⟨by decide, by decide⟩ : R 1 1 (1 : Int32)) (by decide) : R 1 9 (v4 + 1)) (by decide))
theorem sf_m_piecesOver (p1 : Int32) (p2 : Int32) (f_p1 : R 0 9 p1) (f_p2 : R 0 9 p2) {h0 : PH} (i_h0 : IM h0) : Sf (mm_piecesOver p1 p2 h0) (fun r => R (-2147483648) 2147483647 r) := by
  unfold mm_piecesOver
  refine sl_m_piecesOver_L5 p2 h0 (r_w f_p2 (by decide)) i_h0 FU 0 p1 (fu_up f_p1 (by decide)) (r_w (⟨by decide, by decide⟩ : R 0 0 (0 : Int32)) (by decide)) (r_w f_p1 (by decide))
theorem sl_m_findsShares_L43 (p1 : Int32) (p2 : Int32) (h0 : PH) (k0 : Int32 → Option (PH)) (f_p1 : R 0 9 p1) (f_p2 : R 0 9 p2) (i_h0 : IM h0) (hk_k0 : ∀ (y0 : Int32), R (-2147483648) 2147483647 y0 → Sf (k0 y0) (fun h => IM h)) : ∀ (n : Nat) (v3 : Int32) (v4 : Int32), 10 - v4.toInt < (n : Int) → R (-2147483648) 2147483647 v3 → R 1 10 v4 → Sf (mm_findsShares_L43 p1 p2 h0 k0 n v3 v4) (fun h => IM h) := by
  intro n
  induction n with
  | zero =>
    intro v3 v4 hfu f_v3 f_v4
    have := f_v4.2
    omega
  | succ n ih =>
    intro v3 v4 hfu f_v3 f_v4
    rw [mm_findsShares_L43]
    refine s_if (fun c1 => ?_) (fun c1 => ?_)
    ·
      exact hk_k0 _ (r_w f_v3 (by decide))
    ·
      have f2 : R 1 9 v4 := le_hi f_v4 (inv_rng (i_h0).1 rfl : R 0 9 (h0 104 42)) (nlt_le c1)
      have f3 : R 1 9 (h0 104 42) := le_lo f_v4 (inv_rng (i_h0).1 rfl : R 0 9 (h0 104 42)) (nlt_le c1)
      refine s_if (fun c4 => ?_) (fun c4 => ?_)
      ·
        have f5 : R 0 0 p1 := le_hi f_p1 (⟨by decide, by decide⟩ : R 0 0 (0 : Int32)) c4
        exact hk_k0 _ (r_w f_v3 (by decide))
      ·
        have f6 : R 1 9 p1 := lt_lo (⟨by decide, by decide⟩ : R 0 0 (0 : Int32)) f_p1 (nle_lt c4) (by decide)
        refine s_bd (sf_m_piecesOver p2 v4 (r_w f_p2 (by decide)) (r_w f2 (by decide)) i_h0) (fun r4 f7 => ?_)
        refine s_ck (r_add (r_mul (⟨by decide, by decide⟩ : R 10 10 (10 : Int32)) (r_sub f6 (⟨by decide, by decide⟩ : R 1 1 (1 : Int32)) (by decide) : R 0 8 (p1 - 1)) (by decide) : R 0 80 (10 * (p1 - 1))) f2 (by decide) : R 1 89 ((10 * (p1 - 1)) + v4)) (by decide) ?_
        refine s_bd (sf_m_lesser r4 (h0 128 (ix ((10 * (p1 - 1)) + v4))) i_h0) (fun r5 f8 => ?_)
        refine s_bd (sf_m_greater v3 r5 i_h0) (fun r6 f9 => ?_)
        exact ih r6 (v4 + 1) (fu_su hfu (i_inc f2 (k := 1) rfl (by decide)) (by decide)) (r_w (r_full r6) (by decide)) (r_w (r_add f2 (⟨by decide, by decide⟩ : R 1 1 (1 : Int32)) (by decide) : R 2 10 (v4 + 1)) (by decide))
theorem sl_m_findsShares_L10 (p1 : Int32) (k0 : PH → Option (PH)) (f_p1 : R 0 9 p1) (hk_k0 : ∀ (y0 : PH), IM y0 → Sf (k0 y0) (fun h => IM h)) : ∀ (n : Nat) (v2 : Int32) (hv : PH), 10 - v2.toInt < (n : Int) → R 0 10 v2 → IM hv → Sf (mm_findsShares_L10 p1 k0 n v2 hv) (fun h => IM h) := by
  intro n
  induction n with
  | zero =>
    intro v2 hv hfu f_v2 i_hv
    have := f_v2.2
    omega
  | succ n ih =>
    intro v2 hv hfu f_v2 i_hv
    rw [mm_findsShares_L10]
    refine s_if (fun c1 => ?_) (fun c1 => ?_)
    ·
      have f2 : R 1 10 v2 := lt_lo (inv_rng (i_hv).1 rfl : R 0 9 (hv 104 42)) f_v2 c1 (by decide)
      exact hk_k0 _ (i_hv)
    ·
      have f3 : R 0 9 v2 := le_hi f_v2 (inv_rng (i_hv).1 rfl : R 0 9 (hv 104 42)) (nlt_le c1)
      refine s_jn1 (P := fun (x2 : Int32) => R (-1) 100000000 x2) (fun x2 f8 => ?_) (fun j1 kj1 => ?_)
      ·
        refine s_lt (fun x3 e9 => ?_)
        have f10 : R 1 10 x3 := by rw [e9]; exact (r_add f3 (⟨by decide, by decide⟩ : R 1 1 (1 : Int32)) (by decide) : R 1 10 (v2 + 1))
        refine sl_m_findsShares_L43 p1 v2 hv _ (r_w f_p1 (by decide)) (r_w f3 (by decide)) i_hv ?_ FU x2 x3 (fu_up f10 (by decide)) (r_w f8 (by decide)) (r_w f10 (by decide))
        ·
          intro x7 f11
          refine s_ck (r_add (r_mul (⟨by decide, by decide⟩ : R 10 10 (10 : Int32)) f_p1 (by decide) : R 0 90 (10 * p1)) f3 (by decide) : R 0 99 ((10 * p1) + v2)) (by decide) ?_
          refine s_lt (fun h8 e12 => ?_)
          have i13 : IM h8 := by rw [e12]; exact im_put i_hv rfl (r_w (r_full x7) (by decide)) (by decide)
          exact ih (v2 + 1) h8 (fu_su hfu (i_inc f3 (k := 1) rfl (by decide)) (by decide)) (r_w (r_add f3 (⟨by decide, by decide⟩ : R 1 1 (1 : Int32)) (by decide) : R 1 10 (v2 + 1)) (by decide)) i13
      ·
        refine s_if (fun c14 => ?_) (fun c14 => ?_)
        ·
          have f15 : R 0 0 p1 := r_eq (⟨by decide, by decide⟩ : R 0 0 (0 : Int32)) c14
          refine s_if (fun c16 => ?_) (fun c16 => ?_)
          ·
            exact kj1 _ (r_w (⟨by decide, by decide⟩ : R 100000000 100000000 (100000000 : Int32)) (by decide))
          ·
            exact kj1 _ (r_w (⟨by decide, by decide⟩ : R (-1) (-1) (-1 : Int32)) (by decide))
        ·
          have f17 : R 1 9 p1 := r_ne_lo f_p1 (⟨by decide, by decide⟩ : R 0 0 (0 : Int32)) c14 (by decide)
          exact kj1 _ (r_w (⟨by decide, by decide⟩ : R (-1) (-1) (-1 : Int32)) (by decide))
theorem sl_m_findsShares_L2 : ∀ (n : Nat) (v1 : Int32) (hv : PH), 10 - v1.toInt < (n : Int) → R 0 10 v1 → IM hv → Sf (mm_findsShares_L2  n v1 hv) (fun h => IM h) := by
  intro n
  induction n with
  | zero =>
    intro v1 hv hfu f_v1 i_hv
    have := f_v1.2
    omega
  | succ n ih =>
    intro v1 hv hfu f_v1 i_hv
    rw [mm_findsShares_L2]
    refine s_if (fun c1 => ?_) (fun c1 => ?_)
    ·
      have f2 : R 10 10 v1 := le_lo (⟨by decide, by decide⟩ : R 10 10 (10 : Int32)) f_v1 c1
      exact s_some i_hv
    ·
      have f3 : R 0 9 v1 := lt_hi f_v1 (⟨by decide, by decide⟩ : R 10 10 (10 : Int32)) (nle_lt c1) (by decide)
      refine sl_m_findsShares_L10 v1 _ (r_w f3 (by decide)) ?_ FU 0 hv (fu_up (⟨by decide, by decide⟩ : R 0 0 (0 : Int32)) (by decide)) (r_w (⟨by decide, by decide⟩ : R 0 0 (0 : Int32)) (by decide)) i_hv
      ·
        intro h9 f4
        exact ih (v1 + 1) h9 (fu_su hfu (i_inc f3 (k := 1) rfl (by decide)) (by decide)) (r_w (r_add f3 (⟨by decide, by decide⟩ : R 1 1 (1 : Int32)) (by decide) : R 1 10 (v1 + 1)) (by decide)) f4
theorem sf_m_findsShares {h0 : PH} (i_h0 : IM h0) : Sf (mm_findsShares h0) (fun h => IM h) := by
  unfold mm_findsShares
  refine sl_m_findsShares_L2  FU 0 h0 (fu_up (⟨by decide, by decide⟩ : R 0 0 (0 : Int32)) (by decide)) (r_w (⟨by decide, by decide⟩ : R 0 0 (0 : Int32)) (by decide)) i_h0
theorem sl_m_plate_L53 (p1 : Int32) (p3 : Int32) (h0 : PH) (f_p1 : R 1 9 p1) (f_p3 : R (-2147483648) 2147483647 p3) (i_h0 : IM h0) : ∀ (n : Nat) (v4 : Int32), 9 - v4.toInt < (n : Int) → R 1 9 v4 → Sf (mm_plate_L53 p1 p3 h0 n v4) (fun r => R (-2147483648) 2147483647 r.1 ∧ IM r.2) := by
  intro n
  induction n with
  | zero =>
    intro v4 hfu f_v4
    have := f_v4.2
    omega
  | succ n ih =>
    intro v4 hfu f_v4
    rw [mm_plate_L53]
    refine s_if (fun c1 => ?_) (fun c1 => ?_)
    ·
      exact s_some ⟨r_w (⟨by decide, by decide⟩ : R (-1) (-1) (-1 : Int32)) (by decide), i_h0⟩
    ·
      have f2 : R 1 8 v4 := lt_hi f_v4 (inv_rng (i_h0).1 rfl : R 0 9 (h0 104 42)) (nle_lt c1) (by decide)
      have f3 : R 2 9 (h0 104 42) := lt_lo f_v4 (inv_rng (i_h0).1 rfl : R 0 9 (h0 104 42)) (nle_lt c1) (by decide)
      refine s_if (fun c4 => ?_) (fun c4 => ?_)
      ·
        have f5 : R 1 1 p1 := le_hi f_p1 (⟨by decide, by decide⟩ : R 1 1 (1 : Int32)) c4
        exact s_some ⟨r_w (⟨by decide, by decide⟩ : R (-1) (-1) (-1 : Int32)) (by decide), i_h0⟩
      ·
        have f6 : R 2 9 p1 := lt_lo (⟨by decide, by decide⟩ : R 1 1 (1 : Int32)) f_p1 (nle_lt c4) (by decide)
        refine s_bd (sf_m_piecesOver 0 v4 (r_w (⟨by decide, by decide⟩ : R 0 0 (0 : Int32)) (by decide)) (r_w f2 (by decide)) i_h0) (fun r6 f7 => ?_)
        refine s_ck (r_add (r_mul (⟨by decide, by decide⟩ : R 10 10 (10 : Int32)) (r_sub f6 (⟨by decide, by decide⟩ : R 1 1 (1 : Int32)) (by decide) : R 1 8 (p1 - 1)) (by decide) : R 10 80 (10 * (p1 - 1))) f2 (by decide) : R 11 88 ((10 * (p1 - 1)) + v4)) (by decide) ?_
        refine s_bd (sf_m_lesser r6 (h0 128 (ix ((10 * (p1 - 1)) + v4))) i_h0) (fun r7 f8 => ?_)
        refine s_if (fun c9 => ?_) (fun c9 => ?_)
        ·
          exact s_some ⟨r_w f2 (by decide), i_h0⟩
        ·
          exact ih (v4 + 1) (fu_su hfu (i_inc f2 (k := 1) rfl (by decide)) (by decide)) (r_w (r_add f2 (⟨by decide, by decide⟩ : R 1 1 (1 : Int32)) (by decide) : R 2 9 (v4 + 1)) (by decide))
theorem sf_m_plate (p1 : Int32) (p2 : Int32) {h0 : PH} (i_h0 : IM h0) : Sf (mm_plate p1 p2 h0) (fun r => R (-2147483648) 2147483647 r.1 ∧ IM r.2) := by
  unfold mm_plate
  refine s_lt (fun h1 e1 => ?_)
  have i2 : IM h1 := by rw [e1]; exact im_put i_h0 rfl (r_w (⟨by decide, by decide⟩ : R 0 0 (0 : Int32)) (by decide)) (by decide)
  refine s_isin (fun r2 f4 c3 => ?_)
  refine s_if (fun c5 => ?_) (fun c5 => ?_)
  ·
    have f6 : R 0 0 r2 := r_eq (⟨by decide, by decide⟩ : R 0 0 (0 : Int32)) c5
    exact s_some ⟨r_w (⟨by decide, by decide⟩ : R (-1) (-1) (-1 : Int32)) (by decide), i2⟩
  ·
    have f7 : R 1 1 r2 := r_ne_lo f4 (⟨by decide, by decide⟩ : R 0 0 (0 : Int32)) c5 (by decide)
    have q8 := c3 c5
    have f9 : R 1 2147483647 p1 := le_lo (⟨by decide, by decide⟩ : R 1 1 (1 : Int32)) (r_full p1) q8.1
    have f10 : R 1 9 p1 := le_hi f9 (inv_rng (i2).1 rfl : R 0 9 (h1 104 42)) q8.2
    have f11 : R 1 9 (h1 104 42) := le_lo f9 (inv_rng (i2).1 rfl : R 0 9 (h1 104 42)) q8.2
    refine s_isin (fun r3 f13 c12 => ?_)
    refine s_if (fun c14 => ?_) (fun c14 => ?_)
    ·
      have f15 : R 0 0 r3 := r_eq (⟨by decide, by decide⟩ : R 0 0 (0 : Int32)) c14
      exact s_some ⟨r_w (⟨by decide, by decide⟩ : R (-1) (-1) (-1 : Int32)) (by decide), i2⟩
    ·
      have f16 : R 1 1 r3 := r_ne_lo f13 (⟨by decide, by decide⟩ : R 0 0 (0 : Int32)) c14 (by decide)
      have q17 := c12 c14
      have f18 : R 0 2147483647 p2 := le_lo (⟨by decide, by decide⟩ : R 0 0 (0 : Int32)) (r_full p2) q17.1
      have f19 : R 0 1 p2 := le_hi f18 (⟨by decide, by decide⟩ : R 1 1 (1 : Int32)) q17.2
      refine s_bd (sf_m_findsShares i2) (fun h4 f20 => ?_)
      refine s_ck (r_mul (⟨by decide, by decide⟩ : R 10 10 (10 : Int32)) f10 (by decide) : R 10 90 (10 * p1)) (by decide) ?_
      refine s_lt (fun x5 e21 => ?_)
      refine s_if (fun c22 => ?_) (fun c22 => ?_)
      ·
        have f23 : R 0 0 p2 := r_eq (⟨by decide, by decide⟩ : R 0 0 (0 : Int32)) c22
        exact s_some ⟨r_w (r_full x5) (by decide), f20⟩
      ·
        have f24 : R 1 1 p2 := r_ne_lo f19 (⟨by decide, by decide⟩ : R 0 0 (0 : Int32)) c22 (by decide)
        refine sl_m_plate_L53 p1 x5 h4 (r_w f10 (by decide)) (r_w (r_full x5) (by decide)) f20 FU 1 (fu_up (⟨by decide, by decide⟩ : R 1 1 (1 : Int32)) (by decide)) (r_w (⟨by decide, by decide⟩ : R 1 1 (1 : Int32)) (by decide))
theorem sf_m_dough (p1 : Int32) {h0 : PH} (i_h0 : IM h0) : Sf (mm_dough p1 h0) (fun r => R (-1) 8 r.1 ∧ IM r.2) := by
  unfold mm_dough
  refine s_lt (fun h1 e1 => ?_)
  have i2 : IM h1 := by rw [e1]; exact im_put i_h0 rfl (r_w (⟨by decide, by decide⟩ : R 0 0 (0 : Int32)) (by decide)) (by decide)
  refine s_if (fun c3 => ?_) (fun c3 => ?_)
  ·
    have f4 : R (-1) (-1) p1 := r_eq (⟨by decide, by decide⟩ : R (-1) (-1) (-1 : Int32)) c3
    refine s_lt (fun h2 e5 => ?_)
    have i6 : IM h2 := by rw [e5]; exact im_put i2 rfl (r_w (⟨by decide, by decide⟩ : R 0 0 (0 : Int32)) (by decide)) (by decide)
    have f7 : R 0 0 (h2 104 45) := by rw [e5, up_same]; exact (⟨by decide, by decide⟩ : R 0 0 (0 : Int32))
    exact s_some ⟨r_w (⟨by decide, by decide⟩ : R 0 0 (0 : Int32)) (by decide), i6⟩
  ·
    refine s_isin (fun r3 f9 c8 => ?_)
    refine s_if (fun c10 => ?_) (fun c10 => ?_)
    ·
      have f11 : R 0 0 r3 := r_eq (⟨by decide, by decide⟩ : R 0 0 (0 : Int32)) c10
      exact s_some ⟨r_w (⟨by decide, by decide⟩ : R (-1) (-1) (-1 : Int32)) (by decide), i2⟩
    ·
      have f12 : R 1 1 r3 := r_ne_lo f9 (⟨by decide, by decide⟩ : R 0 0 (0 : Int32)) c10 (by decide)
      have q13 := c8 c10
      have f14 : R 1 2147483647 p1 := le_lo (⟨by decide, by decide⟩ : R 1 1 (1 : Int32)) (r_full p1) q13.1
      have f15 : R 1 30 p1 := le_hi f14 (⟨by decide, by decide⟩ : R 30 30 (30 : Int32)) q13.2
      refine s_if (fun c16 => ?_) (fun c16 => ?_)
      ·
        have f17 : R 8 8 (h1 104 45) := r_eq (⟨by decide, by decide⟩ : R 8 8 (8 : Int32)) c16
        exact s_some ⟨r_w (⟨by decide, by decide⟩ : R (-1) (-1) (-1 : Int32)) (by decide), i2⟩
      ·
        have f18 : R 0 7 (h1 104 45) := r_ne_hi (inv_rng (i2).1 rfl : R 0 8 (h1 104 45)) (⟨by decide, by decide⟩ : R 8 8 (8 : Int32)) c16 (by decide)
        refine s_ck f18 (by decide) ?_
        refine s_lt (fun h4 e19 => ?_)
        have i20 : IM h4 := by rw [e19]; exact im_put i2 rfl (r_w f15 (by decide)) (by decide)
        have f21 : R 0 7 (h4 104 45) := by rw [e19, up_oc (by decide)]; exact f18
        refine s_lt (fun h5 e22 => ?_)
        have i23 : IM h5 := by rw [e22]; exact im_put i20 rfl (r_w (r_add f21 (⟨by decide, by decide⟩ : R 1 1 (1 : Int32)) (by decide) : R 1 8 ((h4 104 45) + 1)) (by decide)) (by decide)
        have f24 : R 1 8 (h5 104 45) := by rw [e22, up_same]; exact (r_add f21 (⟨by decide, by decide⟩ : R 1 1 (1 : Int32)) (by decide) : R 1 8 ((h4 104 45) + 1))
        exact s_some ⟨r_w f24 (by decide), i23⟩
theorem sf_m_withDough (p1 : Int32) (p2 : Int32) (p3 : Int32) {h0 : PH} (i_h0 : IM h0) : Sf (mm_withDough p1 p2 p3 h0) (fun r => R (-2147483648) 2147483647 r) := by
  unfold mm_withDough
  refine s_dz (⟨by decide, by decide⟩ : R 100 100 (100 : Int32)) (by decide) ?_
  refine s_lt (fun x1 e1 => ?_)
  refine s_dz (⟨by decide, by decide⟩ : R 100 100 (100 : Int32)) (by decide) ?_
  refine s_lt (fun x2 e2 => ?_)
  refine s_if (fun c3 => ?_) (fun c3 => ?_)
  ·
    have f4 : R (-2147483648) 0 x1 := le_hi (r_full x1) (⟨by decide, by decide⟩ : R 0 0 (0 : Int32)) c3
    exact s_some (r_w (r_full ((100 * (x1 + 1)) + p2)) (by decide))
  ·
    have f5 : R 1 2147483647 x1 := lt_lo (⟨by decide, by decide⟩ : R 0 0 (0 : Int32)) (r_full x1) (nle_lt c3) (by decide)
    refine s_if (fun c6 => ?_) (fun c6 => ?_)
    ·
      have f7 : R (-2147483648) 2147483646 p3 := lt_hi (r_full p3) (r_full (x2 + p2)) c6 (by decide)
      have f8 : R (-2147483647) 2147483647 (x2 + p2) := lt_lo (r_full p3) (r_full (x2 + p2)) c6 (by decide)
      exact s_some (r_w (r_full ((100 * (x1 + 1)) + p2)) (by decide))
    ·
      exact s_some (r_w (r_full (((100 * x1) + x2) + p2)) (by decide))
theorem sl_m_fewestPans_L30 (p1 : Int32) (p2 : Int32) (k0 : PH → Option (Int32 × PH)) (f_p1 : R (-2147483648) 2147483647 p1) (f_p2 : R 1 255 p2) (hk_k0 : ∀ (y0 : PH), IM y0 → Sf (k0 y0) (fun r => R (-2147483648) 2147483647 r.1 ∧ IM r.2)) : ∀ (n : Nat) (v3 : Int32) (hv : PH), 8 - v3.toInt < (n : Int) → R 0 8 v3 → IM hv → Sf (mm_fewestPans_L30 p1 p2 k0 n v3 hv) (fun r => R (-2147483648) 2147483647 r.1 ∧ IM r.2) := by
  intro n
  induction n with
  | zero =>
    intro v3 hv hfu f_v3 i_hv
    have := f_v3.2
    omega
  | succ n ih =>
    intro v3 hv hfu f_v3 i_hv
    rw [mm_fewestPans_L30]
    refine s_if (fun c1 => ?_) (fun c1 => ?_)
    ·
      exact hk_k0 _ (i_hv)
    ·
      have f2 : R 0 7 v3 := lt_hi f_v3 (inv_rng (i_hv).1 rfl : R 0 8 (hv 104 45)) (nle_lt c1) (by decide)
      have f3 : R 1 8 (hv 104 45) := lt_lo f_v3 (inv_rng (i_hv).1 rfl : R 0 8 (hv 104 45)) (nle_lt c1) (by decide)
      refine s_bd (sf_m_has p2 v3 i_hv) (fun r3 f4 => ?_)
      refine s_if (fun c5 => ?_) (fun c5 => ?_)
      ·
        have f6 : R 0 0 r3 := r_eq (⟨by decide, by decide⟩ : R 0 0 (0 : Int32)) c5
        exact ih (v3 + 1) hv (fu_su hfu (i_inc f2 (k := 1) rfl (by decide)) (by decide)) (r_w (r_add f2 (⟨by decide, by decide⟩ : R 1 1 (1 : Int32)) (by decide) : R 1 8 (v3 + 1)) (by decide)) i_hv
      ·
        have f7 : R 1 1 r3 := r_ne_lo f4 (⟨by decide, by decide⟩ : R 0 0 (0 : Int32)) c5 (by decide)
        refine s_ck f_p2 (by decide) ?_
        refine s_ck (r_andl f_p2 (by decide) : R 0 255 (p2 &&& ((1 <<< (v3 &&& 31)) ^^^ (-1)))) (by decide) ?_
        refine s_ck f2 (by decide) ?_
        refine s_bd (sf_m_withDough (hv 130 (ix (p2 &&& ((1 <<< (v3 &&& 31)) ^^^ (-1))))) (hv 129 (ix v3)) p1 i_hv) (fun r4 f8 => ?_)
        refine s_bd (sf_m_lesser (hv 130 (ix p2)) r4 i_hv) (fun r5 f9 => ?_)
        refine s_ck f_p2 (by decide) ?_
        refine s_lt (fun h6 e10 => ?_)
        have i11 : IM h6 := by rw [e10]; exact im_put i_hv rfl (r_w (r_full r5) (by decide)) (by decide)
        have f12 : R 1 8 (h6 104 45) := by rw [e10, up_oc (by decide)]; exact f3
        exact ih (v3 + 1) h6 (fu_su hfu (i_inc f2 (k := 1) rfl (by decide)) (by decide)) (r_w (r_add f2 (⟨by decide, by decide⟩ : R 1 1 (1 : Int32)) (by decide) : R 1 8 (v3 + 1)) (by decide)) i11
theorem sl_m_fewestPans_L9 (p1 : Int32) (k0 : PH → Option (Int32 × PH)) (f_p1 : R (-2147483648) 2147483647 p1) (hk_k0 : ∀ (y0 : PH), IM y0 → Sf (k0 y0) (fun r => R (-2147483648) 2147483647 r.1 ∧ IM r.2)) : ∀ (n : Nat) (v2 : Int32) (hv : PH), 256 - v2.toInt < (n : Int) → R 1 256 v2 → IM hv → Sf (mm_fewestPans_L9 p1 k0 n v2 hv) (fun r => R (-2147483648) 2147483647 r.1 ∧ IM r.2) := by
  intro n
  induction n with
  | zero =>
    intro v2 hv hfu f_v2 i_hv
    have := f_v2.2
    omega
  | succ n ih =>
    intro v2 hv hfu f_v2 i_hv
    rw [mm_fewestPans_L9]
    refine s_if (fun c1 => ?_) (fun c1 => ?_)
    ·
      exact hk_k0 _ (i_hv)
    ·
      have f2 : R 1 255 v2 := lt_hi f_v2 (r_shl (inv_rng (i_hv).1 rfl : R 0 8 (hv 104 45)) (by decide) : R 1 256 (1 <<< ((hv 104 45) &&& 31))) (nle_lt c1) (by decide)
      have f3 : R 2 256 (1 <<< ((hv 104 45) &&& 31)) := lt_lo f_v2 (r_shl (inv_rng (i_hv).1 rfl : R 0 8 (hv 104 45)) (by decide) : R 1 256 (1 <<< ((hv 104 45) &&& 31))) (nle_lt c1) (by decide)
      refine s_ck f2 (by decide) ?_
      refine s_lt (fun h2 e4 => ?_)
      have i5 : IM h2 := by rw [e4]; exact im_put i_hv rfl (r_w (⟨by decide, by decide⟩ : R 100000000 100000000 (100000000 : Int32)) (by decide)) (by decide)
      refine sl_m_fewestPans_L30 p1 v2 _ (r_w f_p1 (by decide)) (r_w f2 (by decide)) ?_ FU 0 h2 (fu_up (⟨by decide, by decide⟩ : R 0 0 (0 : Int32)) (by decide)) (r_w (⟨by decide, by decide⟩ : R 0 0 (0 : Int32)) (by decide)) i5
      ·
        intro h7 f6
        exact ih (v2 + 1) h7 (fu_su hfu (i_inc f2 (k := 1) rfl (by decide)) (by decide)) (r_w (r_add f2 (⟨by decide, by decide⟩ : R 1 1 (1 : Int32)) (by decide) : R 2 256 (v2 + 1)) (by decide)) f6
theorem sf_m_fewestPans (p1 : Int32) {h0 : PH} (i_h0 : IM h0) : Sf (mm_fewestPans p1 h0) (fun r => R (-2147483648) 2147483647 r.1 ∧ IM r.2) := by
  unfold mm_fewestPans
  refine s_ck (⟨by decide, by decide⟩ : R 0 0 (0 : Int32)) (by decide) ?_
  refine s_lt (fun h1 e1 => ?_)
  have i2 : IM h1 := by rw [e1]; exact im_put i_h0 rfl (r_w (⟨by decide, by decide⟩ : R 0 0 (0 : Int32)) (by decide)) (by decide)
  refine sl_m_fewestPans_L9 p1 _ (r_w (r_full p1) (by decide)) ?_ FU 1 h1 (fu_up (⟨by decide, by decide⟩ : R 1 1 (1 : Int32)) (by decide)) (r_w (⟨by decide, by decide⟩ : R 1 1 (1 : Int32)) (by decide)) i2
  ·
    intro h8 f3
    refine s_ck (r_sub (r_shl (inv_rng (f3).1 rfl : R 0 8 (h8 104 45)) (by decide) : R 1 256 (1 <<< ((h8 104 45) &&& 31))) (⟨by decide, by decide⟩ : R 1 1 (1 : Int32)) (by decide) : R 0 255 ((1 <<< ((h8 104 45) &&& 31)) - 1)) (by decide) ?_
    refine s_dz (⟨by decide, by decide⟩ : R 100 100 (100 : Int32)) (by decide) ?_
    exact s_some ⟨r_w (r_full ((h8 130 (ix ((1 <<< ((h8 104 45) &&& 31)) - 1))) / 100)) (by decide), f3⟩
theorem sf_m_mark (p1 : Int32) {h0 : PH} (i_h0 : IM h0) : Sf (mm_mark p1 h0) (fun r => R (-1) 5 r.1 ∧ IM r.2) := by
  unfold mm_mark
  refine s_lt (fun h1 e1 => ?_)
  have i2 : IM h1 := by rw [e1]; exact im_put i_h0 rfl (r_w (⟨by decide, by decide⟩ : R 0 0 (0 : Int32)) (by decide)) (by decide)
  refine s_if (fun c3 => ?_) (fun c3 => ?_)
  ·
    have f4 : R (-1) (-1) p1 := r_eq (⟨by decide, by decide⟩ : R (-1) (-1) (-1 : Int32)) c3
    refine s_lt (fun h2 e5 => ?_)
    have i6 : IM h2 := by rw [e5]; exact im_put i2 rfl (r_w (⟨by decide, by decide⟩ : R 0 0 (0 : Int32)) (by decide)) (by decide)
    have f7 : R 0 0 (h2 104 49) := by rw [e5, up_same]; exact (⟨by decide, by decide⟩ : R 0 0 (0 : Int32))
    exact s_some ⟨r_w (⟨by decide, by decide⟩ : R 0 0 (0 : Int32)) (by decide), i6⟩
  ·
    refine s_isin (fun r3 f9 c8 => ?_)
    refine s_if (fun c10 => ?_) (fun c10 => ?_)
    ·
      have f11 : R 0 0 r3 := r_eq (⟨by decide, by decide⟩ : R 0 0 (0 : Int32)) c10
      exact s_some ⟨r_w (⟨by decide, by decide⟩ : R (-1) (-1) (-1 : Int32)) (by decide), i2⟩
    ·
      have f12 : R 1 1 r3 := r_ne_lo f9 (⟨by decide, by decide⟩ : R 0 0 (0 : Int32)) c10 (by decide)
      have q13 := c8 c10
      have f14 : R 1 2147483647 p1 := le_lo (⟨by decide, by decide⟩ : R 1 1 (1 : Int32)) (r_full p1) q13.1
      have f15 : R 1 60 p1 := le_hi f14 (⟨by decide, by decide⟩ : R 60 60 (60 : Int32)) q13.2
      refine s_if (fun c16 => ?_) (fun c16 => ?_)
      ·
        have f17 : R 5 5 (h1 104 49) := r_eq (⟨by decide, by decide⟩ : R 5 5 (5 : Int32)) c16
        exact s_some ⟨r_w (⟨by decide, by decide⟩ : R (-1) (-1) (-1 : Int32)) (by decide), i2⟩
      ·
        have f18 : R 0 4 (h1 104 49) := r_ne_hi (inv_rng (i2).1 rfl : R 0 5 (h1 104 49)) (⟨by decide, by decide⟩ : R 5 5 (5 : Int32)) c16 (by decide)
        refine s_ck f18 (by decide) ?_
        refine s_lt (fun h4 e19 => ?_)
        have i20 : IM h4 := by rw [e19]; exact im_put i2 rfl (r_w f15 (by decide)) (by decide)
        have f21 : R 0 4 (h4 104 49) := by rw [e19, up_oc (by decide)]; exact f18
        refine s_lt (fun h5 e22 => ?_)
        have i23 : IM h5 := by rw [e22]; exact im_put i20 rfl (r_w (r_add f21 (⟨by decide, by decide⟩ : R 1 1 (1 : Int32)) (by decide) : R 1 5 ((h4 104 49) + 1)) (by decide)) (by decide)
        have f24 : R 1 5 (h5 104 49) := by rw [e22, up_same]; exact (r_add f21 (⟨by decide, by decide⟩ : R 1 1 (1 : Int32)) (by decide) : R 1 5 ((h4 104 49) + 1))
        exact s_some ⟨r_w f24 (by decide), i23⟩
theorem sl_m_isMeasured_L24 (p1 : Int32) (p2 : Int32) (h0 : PH) (k0 : Option (Int32)) (f_p1 : R (-2147483648) 2147483647 p1) (f_p2 : R 0 4 p2) (i_h0 : IM h0) (f_h0_104_49 : R 1 5 (h0 104 49)) (hk_k0 : Sf k0 (fun r => R 0 1 r)) : ∀ (n : Nat) (v3 : Int32), 4 - v3.toInt < (n : Int) → R 0 4 v3 → Sf (mm_isMeasured_L24 p1 p2 h0 k0 n v3) (fun r => R 0 1 r) := by
  intro n
  induction n with
  | zero =>
    intro v3 hfu f_v3
    have := f_v3.2
    omega
  | succ n ih =>
    intro v3 hfu f_v3
    rw [mm_isMeasured_L24]
    refine s_if (fun c1 => ?_) (fun c1 => ?_)
    ·
      exact hk_k0
    ·
      have f2 : R 0 3 v3 := lt_hi f_v3 f_p2 (nle_lt c1) (by decide)
      have f3 : R 1 4 p2 := lt_lo f_v3 f_p2 (nle_lt c1) (by decide)
      refine s_ck f3 (by decide) ?_
      refine s_ck f2 (by decide) ?_
      refine s_bd (sf_m_apart (h0 132 (ix p2)) (h0 132 (ix v3)) i_h0) (fun r1 f4 => ?_)
      refine s_if (fun c5 => ?_) (fun c5 => ?_)
      ·
        exact s_some (r_w (⟨by decide, by decide⟩ : R 1 1 (1 : Int32)) (by decide))
      ·
        exact ih (v3 + 1) (fu_su hfu (i_inc f2 (k := 1) rfl (by decide)) (by decide)) (r_w (r_add f2 (⟨by decide, by decide⟩ : R 1 1 (1 : Int32)) (by decide) : R 1 4 (v3 + 1)) (by decide))
theorem sl_m_isMeasured_L2 (p1 : Int32) (h0 : PH) (f_p1 : R (-2147483648) 2147483647 p1) (i_h0 : IM h0) : ∀ (n : Nat) (v2 : Int32), 5 - v2.toInt < (n : Int) → R 0 5 v2 → Sf (mm_isMeasured_L2 p1 h0 n v2) (fun r => R 0 1 r) := by
  intro n
  induction n with
  | zero =>
    intro v2 hfu f_v2
    have := f_v2.2
    omega
  | succ n ih =>
    intro v2 hfu f_v2
    rw [mm_isMeasured_L2]
    refine s_if (fun c1 => ?_) (fun c1 => ?_)
    ·
      exact s_some (r_w (⟨by decide, by decide⟩ : R 0 0 (0 : Int32)) (by decide))
    ·
      have f2 : R 0 4 v2 := lt_hi f_v2 (inv_rng (i_h0).1 rfl : R 0 5 (h0 104 49)) (nle_lt c1) (by decide)
      have f3 : R 1 5 (h0 104 49) := lt_lo f_v2 (inv_rng (i_h0).1 rfl : R 0 5 (h0 104 49)) (nle_lt c1) (by decide)
      refine s_ck f2 (by decide) ?_
      refine s_if (fun c4 => ?_) (fun c4 => ?_)
      ·
        exact s_some (r_w (⟨by decide, by decide⟩ : R 1 1 (1 : Int32)) (by decide))
      ·
        refine sl_m_isMeasured_L24 p1 v2 h0 _ (r_w f_p1 (by decide)) (r_w f2 (by decide)) i_h0 (r_w f3 (by decide)) ?_ FU 0 (fu_up (⟨by decide, by decide⟩ : R 0 0 (0 : Int32)) (by decide)) (r_w (⟨by decide, by decide⟩ : R 0 0 (0 : Int32)) (by decide))
        ·
          exact ih (v2 + 1) (fu_su hfu (i_inc f2 (k := 1) rfl (by decide)) (by decide)) (r_w (r_add f2 (⟨by decide, by decide⟩ : R 1 1 (1 : Int32)) (by decide) : R 1 5 (v2 + 1)) (by decide))
theorem sf_m_isMeasured (p1 : Int32) {h0 : PH} (i_h0 : IM h0) : Sf (mm_isMeasured p1 h0) (fun r => R 0 1 r) := by
  unfold mm_isMeasured
  refine sl_m_isMeasured_L2 p1 h0 (r_w (r_full p1) (by decide)) i_h0 FU 0 (fu_up (⟨by decide, by decide⟩ : R 0 0 (0 : Int32)) (by decide)) (r_w (⟨by decide, by decide⟩ : R 0 0 (0 : Int32)) (by decide))
theorem sl_m_measures_L21 (p1 : Int32) (h0 : PH) (k0 : Int32 → Option (Int32 × PH)) (f_p1 : R 0 1 p1) (i_h0 : IM h0) (hk_k0 : ∀ (y0 : Int32), R (-2147483648) 2147483647 y0 → Sf (k0 y0) (fun r => R (-2147483648) 2147483647 r.1 ∧ IM r.2)) : ∀ (n : Nat) (v2 : Int32) (v3 : Int32), 61 - v3.toInt < (n : Int) → R (-2147483648) 2147483647 v2 → R 1 61 v3 → Sf (mm_measures_L21 p1 h0 k0 n v2 v3) (fun r => R (-2147483648) 2147483647 r.1 ∧ IM r.2) := by
  intro n
  induction n with
  | zero =>
    intro v2 v3 hfu f_v2 f_v3
    have := f_v3.2
    omega
  | succ n ih =>
    intro v2 v3 hfu f_v2 f_v3
    rw [mm_measures_L21]
    refine s_if (fun c1 => ?_) (fun c1 => ?_)
    ·
      have f2 : R 61 61 v3 := lt_lo (⟨by decide, by decide⟩ : R 60 60 (60 : Int32)) f_v3 c1 (by decide)
      exact hk_k0 _ (r_w f_v2 (by decide))
    ·
      have f3 : R 1 60 v3 := le_hi f_v3 (⟨by decide, by decide⟩ : R 60 60 (60 : Int32)) (nlt_le c1)
      refine s_bd (sf_m_isMeasured v3 i_h0) (fun r3 f4 => ?_)
      refine s_if (fun c5 => ?_) (fun c5 => ?_)
      ·
        have f6 : R 0 0 r3 := r_eq (⟨by decide, by decide⟩ : R 0 0 (0 : Int32)) c5
        refine s_if (fun c7 => ?_) (fun c7 => ?_)
        ·
          have f8 : R 1 1 p1 := r_eq (⟨by decide, by decide⟩ : R 1 1 (1 : Int32)) c7
          exact s_some ⟨r_w f3 (by decide), i_h0⟩
        ·
          have f9 : R 0 0 p1 := r_ne_hi f_p1 (⟨by decide, by decide⟩ : R 1 1 (1 : Int32)) c7 (by decide)
          exact ih v2 (v3 + 1) (fu_su hfu (i_inc f3 (k := 1) rfl (by decide)) (by decide)) (r_w f_v2 (by decide)) (r_w (r_add f3 (⟨by decide, by decide⟩ : R 1 1 (1 : Int32)) (by decide) : R 2 61 (v3 + 1)) (by decide))
      ·
        have f10 : R 1 1 r3 := r_ne_lo f4 (⟨by decide, by decide⟩ : R 0 0 (0 : Int32)) c5 (by decide)
        refine s_lt (fun x4 e11 => ?_)
        exact ih x4 (v3 + 1) (fu_su hfu (i_inc f3 (k := 1) rfl (by decide)) (by decide)) (r_w (r_full x4) (by decide)) (r_w (r_add f3 (⟨by decide, by decide⟩ : R 1 1 (1 : Int32)) (by decide) : R 2 61 (v3 + 1)) (by decide))
theorem sf_m_measures (p1 : Int32) {h0 : PH} (i_h0 : IM h0) : Sf (mm_measures p1 h0) (fun r => R (-2147483648) 2147483647 r.1 ∧ IM r.2) := by
  unfold mm_measures
  refine s_lt (fun h1 e1 => ?_)
  have i2 : IM h1 := by rw [e1]; exact im_put i_h0 rfl (r_w (⟨by decide, by decide⟩ : R 0 0 (0 : Int32)) (by decide)) (by decide)
  refine s_isin (fun r2 f4 c3 => ?_)
  refine s_if (fun c5 => ?_) (fun c5 => ?_)
  ·
    have f6 : R 0 0 r2 := r_eq (⟨by decide, by decide⟩ : R 0 0 (0 : Int32)) c5
    exact s_some ⟨r_w (⟨by decide, by decide⟩ : R (-1) (-1) (-1 : Int32)) (by decide), i2⟩
  ·
    have f7 : R 1 1 r2 := r_ne_lo f4 (⟨by decide, by decide⟩ : R 0 0 (0 : Int32)) c5 (by decide)
    have q8 := c3 c5
    have f9 : R 0 2147483647 p1 := le_lo (⟨by decide, by decide⟩ : R 0 0 (0 : Int32)) (r_full p1) q8.1
    have f10 : R 0 1 p1 := le_hi f9 (⟨by decide, by decide⟩ : R 1 1 (1 : Int32)) q8.2
    refine sl_m_measures_L21 p1 h1 _ (r_w f10 (by decide)) i2 ?_ FU 0 1 (fu_up (⟨by decide, by decide⟩ : R 1 1 (1 : Int32)) (by decide)) (r_w (⟨by decide, by decide⟩ : R 0 0 (0 : Int32)) (by decide)) (r_w (⟨by decide, by decide⟩ : R 1 1 (1 : Int32)) (by decide))
    ·
      intro x5 f11
      refine s_if (fun c12 => ?_) (fun c12 => ?_)
      ·
        have f13 : R 0 0 p1 := r_eq (⟨by decide, by decide⟩ : R 0 0 (0 : Int32)) c12
        exact s_some ⟨r_w (r_full x5) (by decide), i2⟩
      ·
        have f14 : R 1 1 p1 := r_ne_lo f10 (⟨by decide, by decide⟩ : R 0 0 (0 : Int32)) c12 (by decide)
        exact s_some ⟨r_w (⟨by decide, by decide⟩ : R (-1) (-1) (-1 : Int32)) (by decide), i2⟩
theorem sf_m_bite (p1 : Int32) (p2 : Int32) {h0 : PH} (i_h0 : IM h0) : Sf (mm_bite p1 p2 h0) (fun r => R (-1) 8 r.1 ∧ IM r.2) := by
  unfold mm_bite
  refine s_lt (fun h1 e1 => ?_)
  have i2 : IM h1 := by rw [e1]; exact im_put i_h0 rfl (r_w (⟨by decide, by decide⟩ : R 0 0 (0 : Int32)) (by decide)) (by decide)
  refine s_if (fun c3 => ?_) (fun c3 => ?_)
  ·
    have f4 : R (-1) (-1) p1 := r_eq (⟨by decide, by decide⟩ : R (-1) (-1) (-1 : Int32)) c3
    refine s_lt (fun h2 e5 => ?_)
    have i6 : IM h2 := by rw [e5]; exact im_put i2 rfl (r_w (⟨by decide, by decide⟩ : R 0 0 (0 : Int32)) (by decide)) (by decide)
    have f7 : R 0 0 (h2 104 51) := by rw [e5, up_same]; exact (⟨by decide, by decide⟩ : R 0 0 (0 : Int32))
    exact s_some ⟨r_w (⟨by decide, by decide⟩ : R 0 0 (0 : Int32)) (by decide), i6⟩
  ·
    refine s_isin (fun r3 f9 c8 => ?_)
    refine s_if (fun c10 => ?_) (fun c10 => ?_)
    ·
      have f11 : R 0 0 r3 := r_eq (⟨by decide, by decide⟩ : R 0 0 (0 : Int32)) c10
      exact s_some ⟨r_w (⟨by decide, by decide⟩ : R (-1) (-1) (-1 : Int32)) (by decide), i2⟩
    ·
      have f12 : R 1 1 r3 := r_ne_lo f9 (⟨by decide, by decide⟩ : R 0 0 (0 : Int32)) c10 (by decide)
      have q13 := c8 c10
      have f14 : R 0 2147483647 p1 := le_lo (⟨by decide, by decide⟩ : R 0 0 (0 : Int32)) (r_full p1) q13.1
      have f15 : R 0 255 p1 := le_hi f14 (⟨by decide, by decide⟩ : R 255 255 (255 : Int32)) q13.2
      refine s_isin (fun r4 f17 c16 => ?_)
      refine s_if (fun c18 => ?_) (fun c18 => ?_)
      ·
        have f19 : R 0 0 r4 := r_eq (⟨by decide, by decide⟩ : R 0 0 (0 : Int32)) c18
        exact s_some ⟨r_w (⟨by decide, by decide⟩ : R (-1) (-1) (-1 : Int32)) (by decide), i2⟩
      ·
        have f20 : R 1 1 r4 := r_ne_lo f17 (⟨by decide, by decide⟩ : R 0 0 (0 : Int32)) c18 (by decide)
        have q21 := c16 c18
        have f22 : R 0 2147483647 p2 := le_lo (⟨by decide, by decide⟩ : R 0 0 (0 : Int32)) (r_full p2) q21.1
        have f23 : R 0 9 p2 := le_hi f22 (⟨by decide, by decide⟩ : R 9 9 (9 : Int32)) q21.2
        refine s_if (fun c24 => ?_) (fun c24 => ?_)
        ·
          have f25 : R 8 8 (h1 104 51) := r_eq (⟨by decide, by decide⟩ : R 8 8 (8 : Int32)) c24
          exact s_some ⟨r_w (⟨by decide, by decide⟩ : R (-1) (-1) (-1 : Int32)) (by decide), i2⟩
        ·
          have f26 : R 0 7 (h1 104 51) := r_ne_hi (inv_rng (i2).1 rfl : R 0 8 (h1 104 51)) (⟨by decide, by decide⟩ : R 8 8 (8 : Int32)) c24 (by decide)
          refine s_ck f26 (by decide) ?_
          refine s_lt (fun h5 e27 => ?_)
          have i28 : IM h5 := by rw [e27]; exact im_put i2 rfl (r_w f15 (by decide)) (by decide)
          have f29 : R 0 7 (h5 104 51) := by rw [e27, up_oc (by decide)]; exact f26
          refine s_ck f29 (by decide) ?_
          refine s_lt (fun h6 e30 => ?_)
          have i31 : IM h6 := by rw [e30]; exact im_put i28 rfl (r_w f23 (by decide)) (by decide)
          have f32 : R 0 7 (h6 104 51) := by rw [e30, up_oc (by decide)]; exact f29
          refine s_lt (fun h7 e33 => ?_)
          have i34 : IM h7 := by rw [e33]; exact im_put i31 rfl (r_w (r_add f32 (⟨by decide, by decide⟩ : R 1 1 (1 : Int32)) (by decide) : R 1 8 ((h6 104 51) + 1)) (by decide)) (by decide)
          have f35 : R 1 8 (h7 104 51) := by rw [e33, up_same]; exact (r_add f32 (⟨by decide, by decide⟩ : R 1 1 (1 : Int32)) (by decide) : R 1 8 ((h6 104 51) + 1))
          exact s_some ⟨r_w f35 (by decide), i34⟩
theorem sl_m_whose_L35 (p1 : Int32) (p2 : Int32) (h0 : PH) (f_p1 : R 0 255 p1) (f_p2 : R 0 9 p2) (i_h0 : IM h0) : ∀ (n : Nat) (v3 : Int32) (v4 : Int32), 8 - v4.toInt < (n : Int) → R 0 255 v3 → R 0 8 v4 → Sf (mm_whose_L35 p1 p2 h0 n v3 v4) (fun r => R (-1) 255 r.1 ∧ IM r.2) := by
  intro n
  induction n with
  | zero =>
    intro v3 v4 hfu f_v3 f_v4
    have := f_v4.2
    omega
  | succ n ih =>
    intro v3 v4 hfu f_v3 f_v4
    rw [mm_whose_L35]
    refine s_if (fun c1 => ?_) (fun c1 => ?_)
    ·
      exact s_some ⟨r_w f_v3 (by decide), i_h0⟩
    ·
      have f2 : R 0 7 v4 := lt_hi f_v4 (inv_rng (i_h0).1 rfl : R 0 8 (h0 104 51)) (nle_lt c1) (by decide)
      have f3 : R 1 8 (h0 104 51) := lt_lo f_v4 (inv_rng (i_h0).1 rfl : R 0 8 (h0 104 51)) (nle_lt c1) (by decide)
      refine s_ck f2 (by decide) ?_
      refine s_if (fun c4 => ?_) (fun c4 => ?_)
      ·
        have f5 : R 0 0 (p1 &&& ((h0 133 (ix v4)) ^^^ (-1))) := r_eq (⟨by decide, by decide⟩ : R 0 0 (0 : Int32)) c4
        refine s_ck f2 (by decide) ?_
        refine s_if (fun c6 => ?_) (fun c6 => ?_)
        ·
          have f7 : R (-2147483648) 8 (h0 134 (ix v4)) := lt_hi (r_full (h0 134 (ix v4))) f_p2 c6 (by decide)
          exact ih v3 (v4 + 1) (fu_su hfu (i_inc f2 (k := 1) rfl (by decide)) (by decide)) (r_w f_v3 (by decide)) (r_w (r_add f2 (⟨by decide, by decide⟩ : R 1 1 (1 : Int32)) (by decide) : R 1 8 (v4 + 1)) (by decide))
        ·
          have f8 : R 0 2147483647 (h0 134 (ix v4)) := le_lo f_p2 (r_full (h0 134 (ix v4))) (nlt_le c6)
          refine s_lt (fun x4 e9 => ?_)
          have f10 : R 0 255 x4 := by rw [e9]; exact (r_or 8 (r_w f_v3 (by decide)) (r_w (r_shl f2 (by decide) : R 1 128 (1 <<< (v4 &&& 31))) (by decide)) (by decide) : R 0 255 (v3 ||| (1 <<< (v4 &&& 31))))
          exact ih x4 (v4 + 1) (fu_su hfu (i_inc f2 (k := 1) rfl (by decide)) (by decide)) (r_w f10 (by decide)) (r_w (r_add f2 (⟨by decide, by decide⟩ : R 1 1 (1 : Int32)) (by decide) : R 1 8 (v4 + 1)) (by decide))
      ·
        have f11 : R 1 255 (p1 &&& ((h0 133 (ix v4)) ^^^ (-1))) := r_ne_lo (r_andl f_p1 (by decide) : R 0 255 (p1 &&& ((h0 133 (ix v4)) ^^^ (-1)))) (⟨by decide, by decide⟩ : R 0 0 (0 : Int32)) c4 (by decide)
        exact ih v3 (v4 + 1) (fu_su hfu (i_inc f2 (k := 1) rfl (by decide)) (by decide)) (r_w f_v3 (by decide)) (r_w (r_add f2 (⟨by decide, by decide⟩ : R 1 1 (1 : Int32)) (by decide) : R 1 8 (v4 + 1)) (by decide))
theorem sf_m_whose (p1 : Int32) (p2 : Int32) {h0 : PH} (i_h0 : IM h0) : Sf (mm_whose p1 p2 h0) (fun r => R (-1) 255 r.1 ∧ IM r.2) := by
  unfold mm_whose
  refine s_lt (fun h1 e1 => ?_)
  have i2 : IM h1 := by rw [e1]; exact im_put i_h0 rfl (r_w (⟨by decide, by decide⟩ : R 0 0 (0 : Int32)) (by decide)) (by decide)
  refine s_isin (fun r2 f4 c3 => ?_)
  refine s_if (fun c5 => ?_) (fun c5 => ?_)
  ·
    have f6 : R 0 0 r2 := r_eq (⟨by decide, by decide⟩ : R 0 0 (0 : Int32)) c5
    exact s_some ⟨r_w (⟨by decide, by decide⟩ : R (-1) (-1) (-1 : Int32)) (by decide), i2⟩
  ·
    have f7 : R 1 1 r2 := r_ne_lo f4 (⟨by decide, by decide⟩ : R 0 0 (0 : Int32)) c5 (by decide)
    have q8 := c3 c5
    have f9 : R 0 2147483647 p1 := le_lo (⟨by decide, by decide⟩ : R 0 0 (0 : Int32)) (r_full p1) q8.1
    have f10 : R 0 255 p1 := le_hi f9 (⟨by decide, by decide⟩ : R 255 255 (255 : Int32)) q8.2
    refine s_isin (fun r3 f12 c11 => ?_)
    refine s_if (fun c13 => ?_) (fun c13 => ?_)
    ·
      have f14 : R 0 0 r3 := r_eq (⟨by decide, by decide⟩ : R 0 0 (0 : Int32)) c13
      exact s_some ⟨r_w (⟨by decide, by decide⟩ : R (-1) (-1) (-1 : Int32)) (by decide), i2⟩
    ·
      have f15 : R 1 1 r3 := r_ne_lo f12 (⟨by decide, by decide⟩ : R 0 0 (0 : Int32)) c13 (by decide)
      have q16 := c11 c13
      have f17 : R 0 2147483647 p2 := le_lo (⟨by decide, by decide⟩ : R 0 0 (0 : Int32)) (r_full p2) q16.1
      have f18 : R 0 9 p2 := le_hi f17 (⟨by decide, by decide⟩ : R 9 9 (9 : Int32)) q16.2
      refine sl_m_whose_L35 p1 p2 h1 (r_w f10 (by decide)) (r_w f18 (by decide)) i2 FU 0 0 (fu_up (⟨by decide, by decide⟩ : R 0 0 (0 : Int32)) (by decide)) (r_w (⟨by decide, by decide⟩ : R 0 0 (0 : Int32)) (by decide)) (r_w (⟨by decide, by decide⟩ : R 0 0 (0 : Int32)) (by decide))
theorem sf_m_crumb (p1 : Int32) {h0 : PH} (i_h0 : IM h0) : Sf (mm_crumb p1 h0) (fun r => R (-1) 16 r.1 ∧ IM r.2) := by
  unfold mm_crumb
  refine s_lt (fun h1 e1 => ?_)
  have i2 : IM h1 := by rw [e1]; exact im_put i_h0 rfl (r_w (⟨by decide, by decide⟩ : R 0 0 (0 : Int32)) (by decide)) (by decide)
  refine s_if (fun c3 => ?_) (fun c3 => ?_)
  ·
    have f4 : R (-1) (-1) p1 := r_eq (⟨by decide, by decide⟩ : R (-1) (-1) (-1 : Int32)) c3
    refine s_lt (fun h2 e5 => ?_)
    have i6 : IM h2 := by rw [e5]; exact im_put i2 rfl (r_w (⟨by decide, by decide⟩ : R 0 0 (0 : Int32)) (by decide)) (by decide)
    have f7 : R 0 0 (h2 104 54) := by rw [e5, up_same]; exact (⟨by decide, by decide⟩ : R 0 0 (0 : Int32))
    exact s_some ⟨r_w (⟨by decide, by decide⟩ : R 0 0 (0 : Int32)) (by decide), i6⟩
  ·
    refine s_isin (fun r3 f9 c8 => ?_)
    refine s_if (fun c10 => ?_) (fun c10 => ?_)
    ·
      have f11 : R 0 0 r3 := r_eq (⟨by decide, by decide⟩ : R 0 0 (0 : Int32)) c10
      exact s_some ⟨r_w (⟨by decide, by decide⟩ : R (-1) (-1) (-1 : Int32)) (by decide), i2⟩
    ·
      have f12 : R 1 1 r3 := r_ne_lo f9 (⟨by decide, by decide⟩ : R 0 0 (0 : Int32)) c10 (by decide)
      have q13 := c8 c10
      have f14 : R 0 2147483647 p1 := le_lo (⟨by decide, by decide⟩ : R 0 0 (0 : Int32)) (r_full p1) q13.1
      have f15 : R 0 3 p1 := le_hi f14 (⟨by decide, by decide⟩ : R 3 3 (3 : Int32)) q13.2
      refine s_if (fun c16 => ?_) (fun c16 => ?_)
      ·
        have f17 : R 16 16 (h1 104 54) := r_eq (⟨by decide, by decide⟩ : R 16 16 (16 : Int32)) c16
        exact s_some ⟨r_w (⟨by decide, by decide⟩ : R (-1) (-1) (-1 : Int32)) (by decide), i2⟩
      ·
        have f18 : R 0 15 (h1 104 54) := r_ne_hi (inv_rng (i2).1 rfl : R 0 16 (h1 104 54)) (⟨by decide, by decide⟩ : R 16 16 (16 : Int32)) c16 (by decide)
        refine s_ck f18 (by decide) ?_
        refine s_lt (fun h4 e19 => ?_)
        have i20 : IM h4 := by rw [e19]; exact im_put i2 rfl (r_w f15 (by decide)) (by decide)
        have f21 : R 0 15 (h4 104 54) := by rw [e19, up_oc (by decide)]; exact f18
        refine s_lt (fun h5 e22 => ?_)
        have i23 : IM h5 := by rw [e22]; exact im_put i20 rfl (r_w (r_add f21 (⟨by decide, by decide⟩ : R 1 1 (1 : Int32)) (by decide) : R 1 16 ((h4 104 54) + 1)) (by decide)) (by decide)
        have f24 : R 1 16 (h5 104 54) := by rw [e22, up_same]; exact (r_add f21 (⟨by decide, by decide⟩ : R 1 1 (1 : Int32)) (by decide) : R 1 16 ((h4 104 54) + 1))
        exact s_some ⟨r_w f24 (by decide), i23⟩
theorem sf_m_loaf (p1 : Int32) (p2 : Int32) {h0 : PH} (i_h0 : IM h0) : Sf (mm_loaf p1 p2 h0) (fun r => R (-1) 6 r.1 ∧ IM r.2) := by
  unfold mm_loaf
  refine s_lt (fun h1 e1 => ?_)
  have i2 : IM h1 := by rw [e1]; exact im_put i_h0 rfl (r_w (⟨by decide, by decide⟩ : R 0 0 (0 : Int32)) (by decide)) (by decide)
  refine s_if (fun c3 => ?_) (fun c3 => ?_)
  ·
    have f4 : R (-1) (-1) p1 := r_eq (⟨by decide, by decide⟩ : R (-1) (-1) (-1 : Int32)) c3
    refine s_lt (fun h2 e5 => ?_)
    have i6 : IM h2 := by rw [e5]; exact im_put i2 rfl (r_w (⟨by decide, by decide⟩ : R 0 0 (0 : Int32)) (by decide)) (by decide)
    have f7 : R 0 0 (h2 104 57) := by rw [e5, up_same]; exact (⟨by decide, by decide⟩ : R 0 0 (0 : Int32))
    exact s_some ⟨r_w (⟨by decide, by decide⟩ : R 0 0 (0 : Int32)) (by decide), i6⟩
  ·
    refine s_isin (fun r3 f9 c8 => ?_)
    refine s_if (fun c10 => ?_) (fun c10 => ?_)
    ·
      have f11 : R 0 0 r3 := r_eq (⟨by decide, by decide⟩ : R 0 0 (0 : Int32)) c10
      exact s_some ⟨r_w (⟨by decide, by decide⟩ : R (-1) (-1) (-1 : Int32)) (by decide), i2⟩
    ·
      have f12 : R 1 1 r3 := r_ne_lo f9 (⟨by decide, by decide⟩ : R 0 0 (0 : Int32)) c10 (by decide)
      have q13 := c8 c10
      have f14 : R 1 2147483647 p1 := le_lo (⟨by decide, by decide⟩ : R 1 1 (1 : Int32)) (r_full p1) q13.1
      have f15 : R 1 30 p1 := le_hi f14 (⟨by decide, by decide⟩ : R 30 30 (30 : Int32)) q13.2
      refine s_isin (fun r4 f17 c16 => ?_)
      refine s_if (fun c18 => ?_) (fun c18 => ?_)
      ·
        have f19 : R 0 0 r4 := r_eq (⟨by decide, by decide⟩ : R 0 0 (0 : Int32)) c18
        exact s_some ⟨r_w (⟨by decide, by decide⟩ : R (-1) (-1) (-1 : Int32)) (by decide), i2⟩
      ·
        have f20 : R 1 1 r4 := r_ne_lo f17 (⟨by decide, by decide⟩ : R 0 0 (0 : Int32)) c18 (by decide)
        have q21 := c16 c18
        have f22 : R 1 2147483647 p2 := le_lo (⟨by decide, by decide⟩ : R 1 1 (1 : Int32)) (r_full p2) q21.1
        have f23 : R 1 30 p2 := le_hi f22 (⟨by decide, by decide⟩ : R 30 30 (30 : Int32)) q21.2
        refine s_if (fun c24 => ?_) (fun c24 => ?_)
        ·
          have f25 : R 6 6 (h1 104 57) := r_eq (⟨by decide, by decide⟩ : R 6 6 (6 : Int32)) c24
          exact s_some ⟨r_w (⟨by decide, by decide⟩ : R (-1) (-1) (-1 : Int32)) (by decide), i2⟩
        ·
          have f26 : R 0 5 (h1 104 57) := r_ne_hi (inv_rng (i2).1 rfl : R 0 6 (h1 104 57)) (⟨by decide, by decide⟩ : R 6 6 (6 : Int32)) c24 (by decide)
          refine s_ck f26 (by decide) ?_
          refine s_lt (fun h5 e27 => ?_)
          have i28 : IM h5 := by rw [e27]; exact im_put i2 rfl (r_w f15 (by decide)) (by decide)
          have f29 : R 0 5 (h5 104 57) := by rw [e27, up_oc (by decide)]; exact f26
          refine s_ck f29 (by decide) ?_
          refine s_lt (fun h6 e30 => ?_)
          have i31 : IM h6 := by rw [e30]; exact im_put i28 rfl (r_w f23 (by decide)) (by decide)
          have f32 : R 0 5 (h6 104 57) := by rw [e30, up_oc (by decide)]; exact f29
          refine s_lt (fun h7 e33 => ?_)
          have i34 : IM h7 := by rw [e33]; exact im_put i31 rfl (r_w (r_add f32 (⟨by decide, by decide⟩ : R 1 1 (1 : Int32)) (by decide) : R 1 6 ((h6 104 57) + 1)) (by decide)) (by decide)
          have f35 : R 1 6 (h7 104 57) := by rw [e33, up_same]; exact (r_add f32 (⟨by decide, by decide⟩ : R 1 1 (1 : Int32)) (by decide) : R 1 6 ((h6 104 57) + 1))
          exact s_some ⟨r_w f35 (by decide), i34⟩
theorem sl_m_areAlone_L2 (p1 : Int32) (h0 : PH) (f_p1 : R (-2147483648) 2147483647 p1) (i_h0 : IM h0) : ∀ (n : Nat) (v2 : Int32), 12 - v2.toInt < (n : Int) → R 0 12 v2 → Sf (mm_areAlone_L2 p1 h0 n v2) (fun r => R 0 1 r) := by
  intro n
  induction n with
  | zero =>
    intro v2 hfu f_v2
    have := f_v2.2
    omega
  | succ n ih =>
    intro v2 hfu f_v2
    rw [mm_areAlone_L2]
    refine s_if (fun c1 => ?_) (fun c1 => ?_)
    ·
      exact s_some (r_w (⟨by decide, by decide⟩ : R 1 1 (1 : Int32)) (by decide))
    ·
      have f2 : R 0 11 v2 := lt_hi f_v2 (inv_rng (i_h0).1 rfl : R 0 12 (h0 104 6)) (nle_lt c1) (by decide)
      have f3 : R 1 12 (h0 104 6) := lt_lo f_v2 (inv_rng (i_h0).1 rfl : R 0 12 (h0 104 6)) (nle_lt c1) (by decide)
      refine s_bd (sf_m_has p1 v2 i_h0) (fun r1 f4 => ?_)
      refine s_if (fun c5 => ?_) (fun c5 => ?_)
      ·
        have f6 : R 0 0 r1 := r_eq (⟨by decide, by decide⟩ : R 0 0 (0 : Int32)) c5
        exact ih (v2 + 1) (fu_su hfu (i_inc f2 (k := 1) rfl (by decide)) (by decide)) (r_w (r_add f2 (⟨by decide, by decide⟩ : R 1 1 (1 : Int32)) (by decide) : R 1 12 (v2 + 1)) (by decide))
      ·
        have f7 : R 1 1 r1 := r_ne_lo f4 (⟨by decide, by decide⟩ : R 0 0 (0 : Int32)) c5 (by decide)
        refine s_ck f2 (by decide) ?_
        refine s_if (fun c8 => ?_) (fun c8 => ?_)
        ·
          have f9 : R 0 0 ((h0 123 (ix v2)) &&& p1) := r_eq (⟨by decide, by decide⟩ : R 0 0 (0 : Int32)) c8
          exact ih (v2 + 1) (fu_su hfu (i_inc f2 (k := 1) rfl (by decide)) (by decide)) (r_w (r_add f2 (⟨by decide, by decide⟩ : R 1 1 (1 : Int32)) (by decide) : R 1 12 (v2 + 1)) (by decide))
        ·
          exact s_some (r_w (⟨by decide, by decide⟩ : R 0 0 (0 : Int32)) (by decide))
theorem sf_m_areAlone (p1 : Int32) {h0 : PH} (i_h0 : IM h0) : Sf (mm_areAlone p1 h0) (fun r => R 0 1 r) := by
  unfold mm_areAlone
  refine sl_m_areAlone_L2 p1 h0 (r_w (r_full p1) (by decide)) i_h0 FU 0 (fu_up (⟨by decide, by decide⟩ : R 0 0 (0 : Int32)) (by decide)) (r_w (⟨by decide, by decide⟩ : R 0 0 (0 : Int32)) (by decide))
theorem sl_m_heir_L17 : ∀ (n : Nat) (v3 : Int32) (hv : PH), 12 - v3.toInt < (n : Int) → R 0 12 v3 → IM hv → R 0 0 (hv 104 62) → Sf (mm_heir_L17  n v3 hv) (fun r => R (-1) 12 r.1 ∧ IM r.2) := by
  intro n
  induction n with
  | zero =>
    intro v3 hv hfu f_v3 i_hv f_hv_104_62
    have := f_v3.2
    omega
  | succ n ih =>
    intro v3 hv hfu f_v3 i_hv f_hv_104_62
    rw [mm_heir_L17]
    refine s_if (fun c1 => ?_) (fun c1 => ?_)
    ·
      have f2 : R 12 12 v3 := le_lo (⟨by decide, by decide⟩ : R 12 12 (12 : Int32)) f_v3 c1
      exact s_some ⟨r_w (⟨by decide, by decide⟩ : R 0 0 (0 : Int32)) (by decide), i_hv⟩
    ·
      have f3 : R 0 11 v3 := lt_hi f_v3 (⟨by decide, by decide⟩ : R 12 12 (12 : Int32)) (nle_lt c1) (by decide)
      refine s_ck f3 (by decide) ?_
      refine s_lt (fun h3 e4 => ?_)
      have i5 : IM h3 := by rw [e4]; exact im_put i_hv rfl (r_w (⟨by decide, by decide⟩ : R 0 0 (0 : Int32)) (by decide)) (by decide)
      have f6 : R 0 0 (h3 104 62) := by rw [e4, up_oc (by decide)]; exact f_hv_104_62
      exact ih (v3 + 1) h3 (fu_su hfu (i_inc f3 (k := 1) rfl (by decide)) (by decide)) (r_w (r_add f3 (⟨by decide, by decide⟩ : R 1 1 (1 : Int32)) (by decide) : R 1 12 (v3 + 1)) (by decide)) i5 (r_w f6 (by decide))
theorem sf_m_heir (p1 : Int32) (p2 : Int32) {h0 : PH} (i_h0 : IM h0) : Sf (mm_heir p1 p2 h0) (fun r => R (-1) 12 r.1 ∧ IM r.2) := by
  unfold mm_heir
  refine s_lt (fun h1 e1 => ?_)
  have i2 : IM h1 := by rw [e1]; exact im_put i_h0 rfl (r_w (⟨by decide, by decide⟩ : R 0 0 (0 : Int32)) (by decide)) (by decide)
  refine s_if (fun c3 => ?_) (fun c3 => ?_)
  ·
    have f4 : R (-1) (-1) p1 := r_eq (⟨by decide, by decide⟩ : R (-1) (-1) (-1 : Int32)) c3
    refine s_lt (fun h2 e5 => ?_)
    have i6 : IM h2 := by rw [e5]; exact im_put i2 rfl (r_w (⟨by decide, by decide⟩ : R 0 0 (0 : Int32)) (by decide)) (by decide)
    have f7 : R 0 0 (h2 104 62) := by rw [e5, up_same]; exact (⟨by decide, by decide⟩ : R 0 0 (0 : Int32))
    refine sl_m_heir_L17  FU 0 h2 (fu_up (⟨by decide, by decide⟩ : R 0 0 (0 : Int32)) (by decide)) (r_w (⟨by decide, by decide⟩ : R 0 0 (0 : Int32)) (by decide)) i6 (r_w f7 (by decide))
  ·
    refine s_isin (fun r4 f9 c8 => ?_)
    refine s_if (fun c10 => ?_) (fun c10 => ?_)
    ·
      have f11 : R 0 0 r4 := r_eq (⟨by decide, by decide⟩ : R 0 0 (0 : Int32)) c10
      exact s_some ⟨r_w (⟨by decide, by decide⟩ : R (-1) (-1) (-1 : Int32)) (by decide), i2⟩
    ·
      have f12 : R 1 1 r4 := r_ne_lo f9 (⟨by decide, by decide⟩ : R 0 0 (0 : Int32)) c10 (by decide)
      have q13 := c8 c10
      have f14 : R 0 2147483647 p1 := le_lo (⟨by decide, by decide⟩ : R 0 0 (0 : Int32)) (r_full p1) q13.1
      have f15 : R 0 11 p1 := le_hi f14 (⟨by decide, by decide⟩ : R 11 11 (11 : Int32)) q13.2
      refine s_isin (fun r5 f17 c16 => ?_)
      refine s_if (fun c18 => ?_) (fun c18 => ?_)
      ·
        have f19 : R 0 0 r5 := r_eq (⟨by decide, by decide⟩ : R 0 0 (0 : Int32)) c18
        exact s_some ⟨r_w (⟨by decide, by decide⟩ : R (-1) (-1) (-1 : Int32)) (by decide), i2⟩
      ·
        have f20 : R 1 1 r5 := r_ne_lo f17 (⟨by decide, by decide⟩ : R 0 0 (0 : Int32)) c18 (by decide)
        have q21 := c16 c18
        have f22 : R 0 2147483647 p2 := le_lo (⟨by decide, by decide⟩ : R 0 0 (0 : Int32)) (r_full p2) q21.1
        have f23 : R 0 11 p2 := le_hi f22 (⟨by decide, by decide⟩ : R 11 11 (11 : Int32)) q21.2
        refine s_if (fun c24 => ?_) (fun c24 => ?_)
        ·
          exact s_some ⟨r_w (⟨by decide, by decide⟩ : R (-1) (-1) (-1 : Int32)) (by decide), i2⟩
        ·
          refine s_if (fun c25 => ?_) (fun c25 => ?_)
          ·
            have f26 : R 12 12 (h1 104 62) := r_eq (⟨by decide, by decide⟩ : R 12 12 (12 : Int32)) c25
            exact s_some ⟨r_w (⟨by decide, by decide⟩ : R (-1) (-1) (-1 : Int32)) (by decide), i2⟩
          ·
            have f27 : R 0 11 (h1 104 62) := r_ne_hi (inv_rng (i2).1 rfl : R 0 12 (h1 104 62)) (⟨by decide, by decide⟩ : R 12 12 (12 : Int32)) c25 (by decide)
            refine s_ck f15 (by decide) ?_
            refine s_jn1 (P := fun (h7 : PH) => IM h7 ∧ R 0 11 (h7 104 62)) (fun h7 f34 => ?_) (fun j6 kj6 => ?_)
            ·
              refine s_lt (fun h8 e35 => ?_)
              have i36 : IM h8 := by rw [e35]; exact im_put f34.1 rfl (r_w (r_add f34.2 (⟨by decide, by decide⟩ : R 1 1 (1 : Int32)) (by decide) : R 1 12 ((h7 104 62) + 1)) (by decide)) (by decide)
              have f37 : R 1 12 (h8 104 62) := by rw [e35, up_same]; exact (r_add f34.2 (⟨by decide, by decide⟩ : R 1 1 (1 : Int32)) (by decide) : R 1 12 ((h7 104 62) + 1))
              exact s_some ⟨r_w f37 (by decide), i36⟩
            ·
              refine s_if (fun c38 => ?_) (fun c38 => ?_)
              ·
                have f39 : R 0 0 (h1 141 (ix p1)) := r_eq (⟨by decide, by decide⟩ : R 0 0 (0 : Int32)) c38
                refine s_ck f15 (by decide) ?_
                refine s_lt (fun h9 e40 => ?_)
                have i41 : IM h9 := by rw [e40]; exact im_put i2 rfl (r_w (r_add f23 (⟨by decide, by decide⟩ : R 1 1 (1 : Int32)) (by decide) : R 1 12 (p2 + 1)) (by decide)) (by decide)
                have f42 : R 0 11 (h9 104 62) := by rw [e40, up_oc (by decide)]; exact f27
                exact kj6 _ ⟨i41, (r_w f42 (by decide))⟩
              ·
                have f43 : R 1 12 (h1 141 (ix p1)) := r_ne_lo (inv_rng (i2).1 rfl : R 0 12 (h1 141 (ix p1))) (⟨by decide, by decide⟩ : R 0 0 (0 : Int32)) c38 (by decide)
                exact kj6 _ ⟨i2, (r_w f27 (by decide))⟩
theorem sl_m_line_L33 (p2 : Int32) (h0 : PH) (k0 : Int32 → Int32 → Option (Int32 × PH)) (f_p2 : R 0 1 p2) (i_h0 : IM h0) (hk_k0 : ∀ (y0 : Int32) (y1 : Int32), R 0 11 y0 → R 0 11 y1 → Sf (k0 y0 y1) (fun r => R (-1) 11 r.1 ∧ IM r.2)) : ∀ (n : Nat) (v3 : Int32) (v4 : Int32), 12 - v4.toInt < (n : Int) → R 0 11 v3 → R 0 12 v4 → Sf (mm_line_L33 p2 h0 k0 n v3 v4) (fun r => R (-1) 11 r.1 ∧ IM r.2) := by
  intro n
  induction n with
  | zero =>
    intro v3 v4 hfu f_v3 f_v4
    have := f_v4.2
    omega
  | succ n ih =>
    intro v3 v4 hfu f_v3 f_v4
    rw [mm_line_L33]
    refine s_if (fun c1 => ?_) (fun c1 => ?_)
    ·
      have f2 : R 12 12 v4 := le_lo (⟨by decide, by decide⟩ : R 12 12 (12 : Int32)) f_v4 c1
      exact s_some ⟨r_w (⟨by decide, by decide⟩ : R (-1) (-1) (-1 : Int32)) (by decide), i_h0⟩
    ·
      have f3 : R 0 11 v4 := lt_hi f_v4 (⟨by decide, by decide⟩ : R 12 12 (12 : Int32)) (nle_lt c1) (by decide)
      refine s_ck f_v3 (by decide) ?_
      refine s_if (fun c4 => ?_) (fun c4 => ?_)
      ·
        have f5 : R 0 0 (h0 141 (ix v3)) := r_eq (⟨by decide, by decide⟩ : R 0 0 (0 : Int32)) c4
        exact hk_k0 _ _ (r_w f_v3 (by decide)) (r_w f3 (by decide))
      ·
        have f6 : R 1 12 (h0 141 (ix v3)) := r_ne_lo (inv_rng (i_h0).1 rfl : R 0 12 (h0 141 (ix v3))) (⟨by decide, by decide⟩ : R 0 0 (0 : Int32)) c4 (by decide)
        refine s_ck f_v3 (by decide) ?_
        refine s_lt (fun x4 e7 => ?_)
        have f8 : R 0 11 x4 := by rw [e7]; exact (r_sub f6 (⟨by decide, by decide⟩ : R 1 1 (1 : Int32)) (by decide) : R 0 11 ((h0 141 (ix v3)) - 1))
        exact ih x4 (v4 + 1) (fu_su hfu (i_inc f3 (k := 1) rfl (by decide)) (by decide)) (r_w f8 (by decide)) (r_w (r_add f3 (⟨by decide, by decide⟩ : R 1 1 (1 : Int32)) (by decide) : R 1 12 (v4 + 1)) (by decide))
theorem sf_m_line (p1 : Int32) (p2 : Int32) {h0 : PH} (i_h0 : IM h0) : Sf (mm_line p1 p2 h0) (fun r => R (-1) 11 r.1 ∧ IM r.2) := by
  unfold mm_line
  refine s_lt (fun h1 e1 => ?_)
  have i2 : IM h1 := by rw [e1]; exact im_put i_h0 rfl (r_w (⟨by decide, by decide⟩ : R 0 0 (0 : Int32)) (by decide)) (by decide)
  refine s_isin (fun r2 f4 c3 => ?_)
  refine s_if (fun c5 => ?_) (fun c5 => ?_)
  ·
    have f6 : R 0 0 r2 := r_eq (⟨by decide, by decide⟩ : R 0 0 (0 : Int32)) c5
    exact s_some ⟨r_w (⟨by decide, by decide⟩ : R (-1) (-1) (-1 : Int32)) (by decide), i2⟩
  ·
    have f7 : R 1 1 r2 := r_ne_lo f4 (⟨by decide, by decide⟩ : R 0 0 (0 : Int32)) c5 (by decide)
    have q8 := c3 c5
    have f9 : R 0 2147483647 p1 := le_lo (⟨by decide, by decide⟩ : R 0 0 (0 : Int32)) (r_full p1) q8.1
    have f10 : R 0 11 p1 := le_hi f9 (⟨by decide, by decide⟩ : R 11 11 (11 : Int32)) q8.2
    refine s_isin (fun r3 f12 c11 => ?_)
    refine s_if (fun c13 => ?_) (fun c13 => ?_)
    ·
      have f14 : R 0 0 r3 := r_eq (⟨by decide, by decide⟩ : R 0 0 (0 : Int32)) c13
      exact s_some ⟨r_w (⟨by decide, by decide⟩ : R (-1) (-1) (-1 : Int32)) (by decide), i2⟩
    ·
      have f15 : R 1 1 r3 := r_ne_lo f12 (⟨by decide, by decide⟩ : R 0 0 (0 : Int32)) c13 (by decide)
      have q16 := c11 c13
      have f17 : R 0 2147483647 p2 := le_lo (⟨by decide, by decide⟩ : R 0 0 (0 : Int32)) (r_full p2) q16.1
      have f18 : R 0 1 p2 := le_hi f17 (⟨by decide, by decide⟩ : R 1 1 (1 : Int32)) q16.2
      refine sl_m_line_L33 p2 h1 _ (r_w f18 (by decide)) i2 ?_ FU p1 0 (fu_up (⟨by decide, by decide⟩ : R 0 0 (0 : Int32)) (by decide)) (r_w f10 (by decide)) (r_w (⟨by decide, by decide⟩ : R 0 0 (0 : Int32)) (by decide))
      ·
        intro x5 x6 f19 f20
        refine s_if (fun c21 => ?_) (fun c21 => ?_)
        ·
          have f22 : R 0 0 p2 := r_eq (⟨by decide, by decide⟩ : R 0 0 (0 : Int32)) c21
          exact s_some ⟨r_w f20 (by decide), i2⟩
        ·
          have f23 : R 1 1 p2 := r_ne_lo f18 (⟨by decide, by decide⟩ : R 0 0 (0 : Int32)) c21 (by decide)
          exact s_some ⟨r_w f19 (by decide), i2⟩
theorem sl_m_window_L20 (p1 : Int32) (k0 : PH → Option (Int32 × PH)) (f_p1 : R 1 20 p1) (hk_k0 : ∀ (y0 : PH), IM y0 → Sf (k0 y0) (fun r => R (-2147483648) 2147483647 r.1 ∧ IM r.2)) : ∀ (n : Nat) (v2 : Int32) (hv : PH), 21 - v2.toInt < (n : Int) → R 0 21 v2 → IM hv → Sf (mm_window_L20 p1 k0 n v2 hv) (fun r => R (-2147483648) 2147483647 r.1 ∧ IM r.2) := by
  intro n
  induction n with
  | zero =>
    intro v2 hv hfu f_v2 i_hv
    have := f_v2.2
    omega
  | succ n ih =>
    intro v2 hv hfu f_v2 i_hv
    rw [mm_window_L20]
    refine s_if (fun c1 => ?_) (fun c1 => ?_)
    ·
      have f2 : R 2 21 v2 := lt_lo f_p1 f_v2 c1 (by decide)
      exact hk_k0 _ (i_hv)
    ·
      have f3 : R 0 20 v2 := le_hi f_v2 f_p1 (nlt_le c1)
      refine s_jn1 (P := fun (x4 : Int32) => R (-2147483648) 2147483647 x4) (fun x4 f7 => ?_) (fun j3 kj3 => ?_)
      ·
        refine s_ck f3 (by decide) ?_
        refine s_lt (fun h5 e8 => ?_)
        have i9 : IM h5 := by rw [e8]; exact im_put i_hv rfl (r_w (r_full x4) (by decide)) (by decide)
        refine s_jn1 (P := fun (h7 : PH) => IM h7) (fun h7 f15 => ?_) (fun j6 kj6 => ?_)
        ·
          refine s_jn1 (P := fun (x9 : Int32) => R (-2147483648) 2147483647 x9) (fun x9 f19 => ?_) (fun j8 kj8 => ?_)
          ·
            refine s_ck f3 (by decide) ?_
            refine s_lt (fun h10 e20 => ?_)
            have i21 : IM h10 := by rw [e20]; exact im_put f15 rfl (r_w (r_full x9) (by decide)) (by decide)
            exact ih (v2 + 1) h10 (fu_su hfu (i_inc f3 (k := 1) rfl (by decide)) (by decide)) (r_w (r_add f3 (⟨by decide, by decide⟩ : R 1 1 (1 : Int32)) (by decide) : R 1 21 (v2 + 1)) (by decide)) i21
          ·
            refine s_if (fun c22 => ?_) (fun c22 => ?_)
            ·
              have f23 : R 0 2 v2 := le_hi f3 (⟨by decide, by decide⟩ : R 2 2 (2 : Int32)) c22
              exact kj8 _ (r_w (⟨by decide, by decide⟩ : R 0 0 (0 : Int32)) (by decide))
            ·
              have f24 : R 3 20 v2 := lt_lo (⟨by decide, by decide⟩ : R 2 2 (2 : Int32)) f3 (nle_lt c22) (by decide)
              refine s_ck (r_sub f24 (⟨by decide, by decide⟩ : R 3 3 (3 : Int32)) (by decide) : R 0 17 (v2 - 3)) (by decide) ?_
              exact kj8 _ (r_w (r_full (h7 142 (ix (v2 - 3)))) (by decide))
        ·
          refine s_if (fun c25 => ?_) (fun c25 => ?_)
          ·
            have f26 : R 0 1 v2 := le_hi f3 (⟨by decide, by decide⟩ : R 1 1 (1 : Int32)) c25
            exact kj6 _ (i9)
          ·
            have f27 : R 2 20 v2 := lt_lo (⟨by decide, by decide⟩ : R 1 1 (1 : Int32)) f3 (nle_lt c25) (by decide)
            refine s_ck f27 (by decide) ?_
            refine s_ck (r_sub f27 (⟨by decide, by decide⟩ : R 2 2 (2 : Int32)) (by decide) : R 0 18 (v2 - 2)) (by decide) ?_
            refine s_ck (r_sub f27 (⟨by decide, by decide⟩ : R 2 2 (2 : Int32)) (by decide) : R 0 18 (v2 - 2)) (by decide) ?_
            refine s_ck f27 (by decide) ?_
            refine s_lt (fun h11 e28 => ?_)
            have i29 : IM h11 := by rw [e28]; exact im_put i9 rfl (r_w (r_full (((h5 142 (ix v2)) + (h5 142 (ix (v2 - 2)))) + (h5 143 (ix (v2 - 2))))) (by decide)) (by decide)
            exact kj6 _ (i29)
      ·
        refine s_if (fun c30 => ?_) (fun c30 => ?_)
        ·
          have f31 : R 0 0 v2 := r_eq (⟨by decide, by decide⟩ : R 0 0 (0 : Int32)) c30
          exact kj3 _ (r_w (⟨by decide, by decide⟩ : R 1 1 (1 : Int32)) (by decide))
        ·
          have f32 : R 1 20 v2 := r_ne_lo f3 (⟨by decide, by decide⟩ : R 0 0 (0 : Int32)) c30 (by decide)
          refine s_ck (r_sub f32 (⟨by decide, by decide⟩ : R 1 1 (1 : Int32)) (by decide) : R 0 19 (v2 - 1)) (by decide) ?_
          refine s_ck (r_sub f32 (⟨by decide, by decide⟩ : R 1 1 (1 : Int32)) (by decide) : R 0 19 (v2 - 1)) (by decide) ?_
          exact kj3 _ (r_w (r_full ((hv 142 (ix (v2 - 1))) + (hv 143 (ix (v2 - 1))))) (by decide))
theorem sf_m_window (p1 : Int32) {h0 : PH} (i_h0 : IM h0) : Sf (mm_window p1 h0) (fun r => R (-2147483648) 2147483647 r.1 ∧ IM r.2) := by
  unfold mm_window
  refine s_lt (fun h1 e1 => ?_)
  have i2 : IM h1 := by rw [e1]; exact im_put i_h0 rfl (r_w (⟨by decide, by decide⟩ : R 0 0 (0 : Int32)) (by decide)) (by decide)
  refine s_isin (fun r2 f4 c3 => ?_)
  refine s_if (fun c5 => ?_) (fun c5 => ?_)
  ·
    have f6 : R 0 0 r2 := r_eq (⟨by decide, by decide⟩ : R 0 0 (0 : Int32)) c5
    exact s_some ⟨r_w (⟨by decide, by decide⟩ : R (-1) (-1) (-1 : Int32)) (by decide), i2⟩
  ·
    have f7 : R 1 1 r2 := r_ne_lo f4 (⟨by decide, by decide⟩ : R 0 0 (0 : Int32)) c5 (by decide)
    have q8 := c3 c5
    have f9 : R 1 2147483647 p1 := le_lo (⟨by decide, by decide⟩ : R 1 1 (1 : Int32)) (r_full p1) q8.1
    have f10 : R 1 20 p1 := le_hi f9 (⟨by decide, by decide⟩ : R 20 20 (20 : Int32)) q8.2
    refine sl_m_window_L20 p1 _ (r_w f10 (by decide)) ?_ FU 0 h1 (fu_up (⟨by decide, by decide⟩ : R 0 0 (0 : Int32)) (by decide)) (r_w (⟨by decide, by decide⟩ : R 0 0 (0 : Int32)) (by decide)) i2
    ·
      intro h12 f11
      refine s_ck f10 (by decide) ?_
      refine s_ck f10 (by decide) ?_
      exact s_some ⟨r_w (r_full ((h12 142 (ix p1)) + (h12 143 (ix p1)))) (by decide), f11⟩
theorem sf_m_member (p1 : Int32) (p2 : Int32) {h0 : PH} (i_h0 : IM h0) : Sf (mm_member p1 p2 h0) (fun r => R (-1) 8 r.1 ∧ IM r.2) := by
  unfold mm_member
  refine s_lt (fun h1 e1 => ?_)
  have i2 : IM h1 := by rw [e1]; exact im_put i_h0 rfl (r_w (⟨by decide, by decide⟩ : R 0 0 (0 : Int32)) (by decide)) (by decide)
  refine s_if (fun c3 => ?_) (fun c3 => ?_)
  ·
    have f4 : R (-1) (-1) p1 := r_eq (⟨by decide, by decide⟩ : R (-1) (-1) (-1 : Int32)) c3
    refine s_lt (fun h2 e5 => ?_)
    have i6 : IM h2 := by rw [e5]; exact im_put i2 rfl (r_w (⟨by decide, by decide⟩ : R 0 0 (0 : Int32)) (by decide)) (by decide)
    have f7 : R 0 0 (h2 104 66) := by rw [e5, up_same]; exact (⟨by decide, by decide⟩ : R 0 0 (0 : Int32))
    exact s_some ⟨r_w (⟨by decide, by decide⟩ : R 0 0 (0 : Int32)) (by decide), i6⟩
  ·
    refine s_isin (fun r3 f9 c8 => ?_)
    refine s_if (fun c10 => ?_) (fun c10 => ?_)
    ·
      have f11 : R 0 0 r3 := r_eq (⟨by decide, by decide⟩ : R 0 0 (0 : Int32)) c10
      exact s_some ⟨r_w (⟨by decide, by decide⟩ : R (-1) (-1) (-1 : Int32)) (by decide), i2⟩
    ·
      have f12 : R 1 1 r3 := r_ne_lo f9 (⟨by decide, by decide⟩ : R 0 0 (0 : Int32)) c10 (by decide)
      have q13 := c8 c10
      have f14 : R 0 2147483647 p1 := le_lo (⟨by decide, by decide⟩ : R 0 0 (0 : Int32)) (r_full p1) q13.1
      have f15 : R 0 4095 p1 := le_hi f14 (⟨by decide, by decide⟩ : R 4095 4095 (4095 : Int32)) q13.2
      refine s_isin (fun r4 f17 c16 => ?_)
      refine s_if (fun c18 => ?_) (fun c18 => ?_)
      ·
        have f19 : R 0 0 r4 := r_eq (⟨by decide, by decide⟩ : R 0 0 (0 : Int32)) c18
        exact s_some ⟨r_w (⟨by decide, by decide⟩ : R (-1) (-1) (-1 : Int32)) (by decide), i2⟩
      ·
        have f20 : R 1 1 r4 := r_ne_lo f17 (⟨by decide, by decide⟩ : R 0 0 (0 : Int32)) c18 (by decide)
        have q21 := c16 c18
        have f22 : R 1 2147483647 p2 := le_lo (⟨by decide, by decide⟩ : R 1 1 (1 : Int32)) (r_full p2) q21.1
        have f23 : R 1 9 p2 := le_hi f22 (⟨by decide, by decide⟩ : R 9 9 (9 : Int32)) q21.2
        refine s_if (fun c24 => ?_) (fun c24 => ?_)
        ·
          have f25 : R 8 8 (h1 104 66) := r_eq (⟨by decide, by decide⟩ : R 8 8 (8 : Int32)) c24
          exact s_some ⟨r_w (⟨by decide, by decide⟩ : R (-1) (-1) (-1 : Int32)) (by decide), i2⟩
        ·
          have f26 : R 0 7 (h1 104 66) := r_ne_hi (inv_rng (i2).1 rfl : R 0 8 (h1 104 66)) (⟨by decide, by decide⟩ : R 8 8 (8 : Int32)) c24 (by decide)
          refine s_ck f26 (by decide) ?_
          refine s_lt (fun h5 e27 => ?_)
          have i28 : IM h5 := by rw [e27]; exact im_put i2 rfl (r_w f15 (by decide)) (by decide)
          have f29 : R 0 7 (h5 104 66) := by rw [e27, up_oc (by decide)]; exact f26
          refine s_ck f29 (by decide) ?_
          refine s_lt (fun h6 e30 => ?_)
          have i31 : IM h6 := by rw [e30]; exact im_put i28 rfl (r_w f23 (by decide)) (by decide)
          have f32 : R 0 7 (h6 104 66) := by rw [e30, up_oc (by decide)]; exact f29
          refine s_lt (fun h7 e33 => ?_)
          have i34 : IM h7 := by rw [e33]; exact im_put i31 rfl (r_w (r_add f32 (⟨by decide, by decide⟩ : R 1 1 (1 : Int32)) (by decide) : R 1 8 ((h6 104 66) + 1)) (by decide)) (by decide)
          have f35 : R 1 8 (h7 104 66) := by rw [e33, up_same]; exact (r_add f32 (⟨by decide, by decide⟩ : R 1 1 (1 : Int32)) (by decide) : R 1 8 ((h6 104 66) + 1))
          exact s_some ⟨r_w f35 (by decide), i34⟩
theorem sl_m_moreOf_L4 (p1 : Int32) (h0 : PH) (f_p1 : R (-2147483648) 2147483647 p1) (i_h0 : IM h0) : ∀ (n : Nat) (v2 : Int32) (v3 : Int32), 8 - v3.toInt < (n : Int) → R (-2147483648) 2147483647 v2 → R 0 8 v3 → Sf (mm_moreOf_L4 p1 h0 n v2 v3) (fun r => R (-2147483648) 2147483647 r) := by
  intro n
  induction n with
  | zero =>
    intro v2 v3 hfu f_v2 f_v3
    have := f_v3.2
    omega
  | succ n ih =>
    intro v2 v3 hfu f_v2 f_v3
    rw [mm_moreOf_L4]
    refine s_if (fun c1 => ?_) (fun c1 => ?_)
    ·
      exact s_some (r_w f_v2 (by decide))
    ·
      have f2 : R 0 7 v3 := lt_hi f_v3 (inv_rng (i_h0).1 rfl : R 0 8 (h0 104 66)) (nle_lt c1) (by decide)
      have f3 : R 1 8 (h0 104 66) := lt_lo f_v3 (inv_rng (i_h0).1 rfl : R 0 8 (h0 104 66)) (nle_lt c1) (by decide)
      refine s_bd (sf_m_has p1 v3 i_h0) (fun r1 f4 => ?_)
      refine s_if (fun c5 => ?_) (fun c5 => ?_)
      ·
        have f6 : R 0 0 r1 := r_eq (⟨by decide, by decide⟩ : R 0 0 (0 : Int32)) c5
        refine s_ck f2 (by decide) ?_
        refine s_lt (fun x2 e7 => ?_)
        exact ih x2 (v3 + 1) (fu_su hfu (i_inc f2 (k := 1) rfl (by decide)) (by decide)) (r_w (r_full x2) (by decide)) (r_w (r_add f2 (⟨by decide, by decide⟩ : R 1 1 (1 : Int32)) (by decide) : R 1 8 (v3 + 1)) (by decide))
      ·
        have f8 : R 1 1 r1 := r_ne_lo f4 (⟨by decide, by decide⟩ : R 0 0 (0 : Int32)) c5 (by decide)
        refine s_ck f2 (by decide) ?_
        refine s_lt (fun x3 e9 => ?_)
        exact ih x3 (v3 + 1) (fu_su hfu (i_inc f2 (k := 1) rfl (by decide)) (by decide)) (r_w (r_full x3) (by decide)) (r_w (r_add f2 (⟨by decide, by decide⟩ : R 1 1 (1 : Int32)) (by decide) : R 1 8 (v3 + 1)) (by decide))
theorem sf_m_moreOf (p1 : Int32) {h0 : PH} (i_h0 : IM h0) : Sf (mm_moreOf p1 h0) (fun r => R (-2147483648) 2147483647 r) := by
  unfold mm_moreOf
  refine sl_m_moreOf_L4 p1 h0 (r_w (r_full p1) (by decide)) i_h0 FU 0 0 (fu_up (⟨by decide, by decide⟩ : R 0 0 (0 : Int32)) (by decide)) (r_w (⟨by decide, by decide⟩ : R 0 0 (0 : Int32)) (by decide)) (r_w (⟨by decide, by decide⟩ : R 0 0 (0 : Int32)) (by decide))
theorem sf_m_look (p1 : Int32) {h0 : PH} (i_h0 : IM h0) : Sf (mm_look p1 h0) (fun r => R (-2147483648) 2147483647 r.1 ∧ IM r.2) := by
  unfold mm_look
  refine s_lt (fun h1 e1 => ?_)
  have i2 : IM h1 := by rw [e1]; exact im_put i_h0 rfl (r_w (⟨by decide, by decide⟩ : R 0 0 (0 : Int32)) (by decide)) (by decide)
  refine s_if (fun c3 => ?_) (fun c3 => ?_)
  ·
    have f4 : R 0 0 p1 := r_eq (⟨by decide, by decide⟩ : R 0 0 (0 : Int32)) c3
    exact s_some ⟨r_w (inv_rng (i2).1 rfl : R 0 12 (h1 104 6)) (by decide), i2⟩
  ·
    refine s_if (fun c5 => ?_) (fun c5 => ?_)
    ·
      have f6 : R 1 1 p1 := r_eq (⟨by decide, by decide⟩ : R 1 1 (1 : Int32)) c5
      refine s_ck (⟨by decide, by decide⟩ : R 3 3 (3 : Int32)) (by decide) ?_
      exact s_some ⟨r_w (r_full (h1 105 (ix 3))) (by decide), i2⟩
    ·
      refine s_if (fun c7 => ?_) (fun c7 => ?_)
      ·
        have f8 : R 2 2 p1 := r_eq (⟨by decide, by decide⟩ : R 2 2 (2 : Int32)) c7
        refine s_ck (⟨by decide, by decide⟩ : R 4 4 (4 : Int32)) (by decide) ?_
        exact s_some ⟨r_w (r_full (h1 105 (ix 4))) (by decide), i2⟩
      ·
        refine s_if (fun c9 => ?_) (fun c9 => ?_)
        ·
          have f10 : R 3 3 p1 := r_eq (⟨by decide, by decide⟩ : R 3 3 (3 : Int32)) c9
          refine s_ck (⟨by decide, by decide⟩ : R 5 5 (5 : Int32)) (by decide) ?_
          exact s_some ⟨r_w (r_full (h1 105 (ix 5))) (by decide), i2⟩
        ·
          refine s_if (fun c11 => ?_) (fun c11 => ?_)
          ·
            have f12 : R 4 4 p1 := r_eq (⟨by decide, by decide⟩ : R 4 4 (4 : Int32)) c11
            refine s_ck (⟨by decide, by decide⟩ : R 6 6 (6 : Int32)) (by decide) ?_
            exact s_some ⟨r_w (r_full (h1 105 (ix 6))) (by decide), i2⟩
          ·
            refine s_if (fun c13 => ?_) (fun c13 => ?_)
            ·
              have f14 : R 5 5 p1 := r_eq (⟨by decide, by decide⟩ : R 5 5 (5 : Int32)) c13
              refine s_ck (⟨by decide, by decide⟩ : R 0 0 (0 : Int32)) (by decide) ?_
              exact s_some ⟨r_w (r_full (h1 105 (ix 0))) (by decide), i2⟩
            ·
              refine s_if (fun c15 => ?_) (fun c15 => ?_)
              ·
                have f16 : R 6 6 p1 := r_eq (⟨by decide, by decide⟩ : R 6 6 (6 : Int32)) c15
                refine s_bd (sf_m_standingSet i2) (fun r2 f17 => ?_)
                exact s_some ⟨r_w f17 (by decide), i2⟩
              ·
                refine s_if (fun c18 => ?_) (fun c18 => ?_)
                ·
                  have f19 : R 7 7 p1 := r_eq (⟨by decide, by decide⟩ : R 7 7 (7 : Int32)) c18
                  refine s_ck (⟨by decide, by decide⟩ : R 2 2 (2 : Int32)) (by decide) ?_
                  exact s_some ⟨r_w (inv_rng (i2).1 rfl : R 0 150 (h1 105 (ix 2))) (by decide), i2⟩
                ·
                  refine s_if (fun c20 => ?_) (fun c20 => ?_)
                  ·
                    have f21 : R 8 8 p1 := r_eq (⟨by decide, by decide⟩ : R 8 8 (8 : Int32)) c20
                    refine s_ck (⟨by decide, by decide⟩ : R 1 1 (1 : Int32)) (by decide) ?_
                    exact s_some ⟨r_w (r_full (h1 105 (ix 1))) (by decide), i2⟩
                  ·
                    refine s_if (fun c22 => ?_) (fun c22 => ?_)
                    ·
                      have f23 : R 9 9 p1 := r_eq (⟨by decide, by decide⟩ : R 9 9 (9 : Int32)) c22
                      refine s_ck (⟨by decide, by decide⟩ : R 0 0 (0 : Int32)) (by decide) ?_
                      exact s_some ⟨r_w (inv_rng (i2).1 rfl : R 0 16 (h1 113 (ix 0))) (by decide), i2⟩
                    ·
                      refine s_if (fun c24 => ?_) (fun c24 => ?_)
                      ·
                        have f25 : R 10 10 p1 := r_eq (⟨by decide, by decide⟩ : R 10 10 (10 : Int32)) c24
                        exact s_some ⟨r_w (inv_rng (i2).1 rfl : R 0 16 (h1 104 33)) (by decide), i2⟩
                      ·
                        refine s_if (fun c26 => ?_) (fun c26 => ?_)
                        ·
                          have f27 : R 11 11 p1 := r_eq (⟨by decide, by decide⟩ : R 11 11 (11 : Int32)) c26
                          exact s_some ⟨r_w (inv_rng (i2).1 rfl : R 0 16 (h1 104 35)) (by decide), i2⟩
                        ·
                          refine s_if (fun c28 => ?_) (fun c28 => ?_)
                          ·
                            have f29 : R 12 12 p1 := r_eq (⟨by decide, by decide⟩ : R 12 12 (12 : Int32)) c28
                            exact s_some ⟨r_w (inv_rng (i2).1 rfl : R 0 16 (h1 104 37)) (by decide), i2⟩
                          ·
                            refine s_if (fun c30 => ?_) (fun c30 => ?_)
                            ·
                              have f31 : R 13 13 p1 := r_eq (⟨by decide, by decide⟩ : R 13 13 (13 : Int32)) c30
                              exact s_some ⟨r_w (inv_rng (i2).1 rfl : R 0 6 (h1 104 3)) (by decide), i2⟩
                            ·
                              exact s_some ⟨r_w (⟨by decide, by decide⟩ : R (-1) (-1) (-1 : Int32)) (by decide), i2⟩
theorem sl_m_mortgage_L62 (p2 : Int32) (p3 : Int32) (p4 : Int32) (h0 : PH) (k0 : Int32 → Int32 → Option (Int32 × PH)) (f_p2 : R 0 50 p2) (f_p3 : R 1 999 p3) (f_p4 : R 0 1 p4) (i_h0 : IM h0) (hk_k0 : ∀ (y0 : Int32) (y1 : Int32), R (-2147483648) 2147483647 y0 → R 1 400 y1 → Sf (k0 y0 y1) (fun r => R (-2147483648) 2147483647 r.1 ∧ IM r.2)) : ∀ (n : Nat) (v5 : Int32) (v6 : Int32) (v7 : Int32), 401 - v7.toInt < (n : Int) → R (-2147483648) 9999 v5 → R (-2147483648) 2147483647 v6 → R 1 401 v7 → Sf (mm_mortgage_L62 p2 p3 p4 h0 k0 n v5 v6 v7) (fun r => R (-2147483648) 2147483647 r.1 ∧ IM r.2) := by
  intro n
  induction n with
  | zero =>
    intro v5 v6 v7 hfu f_v5 f_v6 f_v7
    have := f_v7.2
    omega
  | succ n ih =>
    intro v5 v6 v7 hfu f_v5 f_v6 f_v7
    rw [mm_mortgage_L62]
    refine s_if (fun c1 => ?_) (fun c1 => ?_)
    ·
      have f2 : R 401 401 v7 := lt_lo (⟨by decide, by decide⟩ : R 400 400 (400 : Int32)) f_v7 c1 (by decide)
      exact s_some ⟨r_w (⟨by decide, by decide⟩ : R (-1) (-1) (-1 : Int32)) (by decide), i_h0⟩
    ·
      have f3 : R 1 400 v7 := le_hi f_v7 (⟨by decide, by decide⟩ : R 400 400 (400 : Int32)) (nlt_le c1)
      refine s_dz (⟨by decide, by decide⟩ : R 100 100 (100 : Int32)) (by decide) ?_
      refine s_lt (fun x6 e4 => ?_)
      refine s_bd (sf_m_lesser x6 p3 i_h0) (fun r7 f5 => ?_)
      refine s_lt (fun x8 e6 => ?_)
      refine s_if (fun c7 => ?_) (fun c7 => ?_)
      ·
        exact hk_k0 _ _ (r_w (r_full x8) (by decide)) (r_w f3 (by decide))
      ·
        refine s_if (fun c8 => ?_) (fun c8 => ?_)
        ·
          have f9 : R (-2147483648) 9998 (x6 - r7) := lt_hi (r_full (x6 - r7)) f_v5 c8 (by decide)
          have f10 : R (-2147483647) 9999 v5 := lt_lo (r_full (x6 - r7)) f_v5 c8 (by decide)
          refine s_lt (fun x9 e11 => ?_)
          have f12 : R (-2147483648) 9998 x9 := by rw [e11]; exact f9
          exact ih x9 x8 (v7 + 1) (fu_su hfu (i_inc f3 (k := 1) rfl (by decide)) (by decide)) (r_w f12 (by decide)) (r_w (r_full x8) (by decide)) (r_w (r_add f3 (⟨by decide, by decide⟩ : R 1 1 (1 : Int32)) (by decide) : R 2 401 (v7 + 1)) (by decide))
        ·
          exact s_some ⟨r_w (⟨by decide, by decide⟩ : R (-1) (-1) (-1 : Int32)) (by decide), i_h0⟩
theorem sf_m_mortgage (p1 : Int32) (p2 : Int32) (p3 : Int32) (p4 : Int32) {h0 : PH} (i_h0 : IM h0) : Sf (mm_mortgage p1 p2 p3 p4 h0) (fun r => R (-2147483648) 2147483647 r.1 ∧ IM r.2) := by
  unfold mm_mortgage
  refine s_lt (fun h1 e1 => ?_)
  have i2 : IM h1 := by rw [e1]; exact im_put i_h0 rfl (r_w (⟨by decide, by decide⟩ : R 0 0 (0 : Int32)) (by decide)) (by decide)
  refine s_isin (fun r2 f4 c3 => ?_)
  refine s_if (fun c5 => ?_) (fun c5 => ?_)
  ·
    have f6 : R 0 0 r2 := r_eq (⟨by decide, by decide⟩ : R 0 0 (0 : Int32)) c5
    exact s_some ⟨r_w (⟨by decide, by decide⟩ : R (-1) (-1) (-1 : Int32)) (by decide), i2⟩
  ·
    have f7 : R 1 1 r2 := r_ne_lo f4 (⟨by decide, by decide⟩ : R 0 0 (0 : Int32)) c5 (by decide)
    have q8 := c3 c5
    have f9 : R 1 2147483647 p1 := le_lo (⟨by decide, by decide⟩ : R 1 1 (1 : Int32)) (r_full p1) q8.1
    have f10 : R 1 9999 p1 := le_hi f9 (⟨by decide, by decide⟩ : R 9999 9999 (9999 : Int32)) q8.2
    refine s_isin (fun r3 f12 c11 => ?_)
    refine s_if (fun c13 => ?_) (fun c13 => ?_)
    ·
      have f14 : R 0 0 r3 := r_eq (⟨by decide, by decide⟩ : R 0 0 (0 : Int32)) c13
      exact s_some ⟨r_w (⟨by decide, by decide⟩ : R (-1) (-1) (-1 : Int32)) (by decide), i2⟩
    ·
      have f15 : R 1 1 r3 := r_ne_lo f12 (⟨by decide, by decide⟩ : R 0 0 (0 : Int32)) c13 (by decide)
      have q16 := c11 c13
      have f17 : R 0 2147483647 p2 := le_lo (⟨by decide, by decide⟩ : R 0 0 (0 : Int32)) (r_full p2) q16.1
      have f18 : R 0 50 p2 := le_hi f17 (⟨by decide, by decide⟩ : R 50 50 (50 : Int32)) q16.2
      refine s_isin (fun r4 f20 c19 => ?_)
      refine s_if (fun c21 => ?_) (fun c21 => ?_)
      ·
        have f22 : R 0 0 r4 := r_eq (⟨by decide, by decide⟩ : R 0 0 (0 : Int32)) c21
        exact s_some ⟨r_w (⟨by decide, by decide⟩ : R (-1) (-1) (-1 : Int32)) (by decide), i2⟩
      ·
        have f23 : R 1 1 r4 := r_ne_lo f20 (⟨by decide, by decide⟩ : R 0 0 (0 : Int32)) c21 (by decide)
        have q24 := c19 c21
        have f25 : R 1 2147483647 p3 := le_lo (⟨by decide, by decide⟩ : R 1 1 (1 : Int32)) (r_full p3) q24.1
        have f26 : R 1 999 p3 := le_hi f25 (⟨by decide, by decide⟩ : R 999 999 (999 : Int32)) q24.2
        refine s_isin (fun r5 f28 c27 => ?_)
        refine s_if (fun c29 => ?_) (fun c29 => ?_)
        ·
          have f30 : R 0 0 r5 := r_eq (⟨by decide, by decide⟩ : R 0 0 (0 : Int32)) c29
          exact s_some ⟨r_w (⟨by decide, by decide⟩ : R (-1) (-1) (-1 : Int32)) (by decide), i2⟩
        ·
          have f31 : R 1 1 r5 := r_ne_lo f28 (⟨by decide, by decide⟩ : R 0 0 (0 : Int32)) c29 (by decide)
          have q32 := c27 c29
          have f33 : R 0 2147483647 p4 := le_lo (⟨by decide, by decide⟩ : R 0 0 (0 : Int32)) (r_full p4) q32.1
          have f34 : R 0 1 p4 := le_hi f33 (⟨by decide, by decide⟩ : R 1 1 (1 : Int32)) q32.2
          refine sl_m_mortgage_L62 p2 p3 p4 h1 _ (r_w f18 (by decide)) (r_w f26 (by decide)) (r_w f34 (by decide)) i2 ?_ FU p1 0 1 (fu_up (⟨by decide, by decide⟩ : R 1 1 (1 : Int32)) (by decide)) (r_w f10 (by decide)) (r_w (⟨by decide, by decide⟩ : R 0 0 (0 : Int32)) (by decide)) (r_w (⟨by decide, by decide⟩ : R 1 1 (1 : Int32)) (by decide))
          ·
            intro x10 x11 f35 f36
            refine s_if (fun c37 => ?_) (fun c37 => ?_)
            ·
              have f38 : R 0 0 p4 := r_eq (⟨by decide, by decide⟩ : R 0 0 (0 : Int32)) c37
              exact s_some ⟨r_w f36 (by decide), i2⟩
            ·
              have f39 : R 1 1 p4 := r_ne_lo f34 (⟨by decide, by decide⟩ : R 0 0 (0 : Int32)) c37 (by decide)
              exact s_some ⟨r_w (r_full x10) (by decide), i2⟩
theorem sf_m_rentOf (p1 : Int32) (f_p1 : R 0 11 p1) {h0 : PH} (i_h0 : IM h0) : Sf (mm_rentOf p1 h0) (fun r => R 0 1000 r.1 ∧ IM r.2) := by
  unfold mm_rentOf
  refine s_bd (sf_m_thickest p1 (r_w f_p1 (by decide)) i_h0) (fun r1 f1 => ?_)
  refine s_bd (sf_m_wallOf p1 r1 (r_w f_p1 (by decide)) (r_w f1 (by decide)) i_h0) (fun r2 f2 => ?_)
  refine s_bd (sf_m_asks p1 r2 (r_w f_p1 (by decide)) i_h0) (fun h3 f3 => ?_)
  refine s_ck (r_add (⟨by decide, by decide⟩ : R 79 79 (79 : Int32)) f_p1 (by decide) : R 79 90 (79 + p1)) (by decide) ?_
  refine s_bd2 (sf_m_lawTells 0 (4 + (2 * (h3 105 (ix (79 + p1))))) 99 (r_w (⟨by decide, by decide⟩ : R 99 99 (99 : Int32)) (by decide)) f3) (fun r4 h5 f4 => ?_)
  exact s_some ⟨r_w f4.1 (by decide), f4.2⟩
theorem sf_m_gnawsOf (p1 : Int32) (p2 : Int32) (f_p1 : R 0 11 p1) (f_p2 : R 0 3 p2) {h0 : PH} (i_h0 : IM h0) : Sf (mm_gnawsOf p1 p2 h0) (fun r => R 0 1000 r.1 ∧ IM r.2) := by
  unfold mm_gnawsOf
  refine s_bd (sf_m_wallOf p1 p2 (r_w f_p1 (by decide)) (r_w f_p2 (by decide)) i_h0) (fun r1 f1 => ?_)
  refine s_bd (sf_m_asks p1 r1 (r_w f_p1 (by decide)) i_h0) (fun h2 f2 => ?_)
  refine s_ck (r_add (⟨by decide, by decide⟩ : R 55 55 (55 : Int32)) f_p1 (by decide) : R 55 66 (55 + p1)) (by decide) ?_
  refine s_bd2 (sf_m_lawTells 1 (300 - (30 * (h2 105 (ix (55 + p1))))) 1000 (r_w (⟨by decide, by decide⟩ : R 1000 1000 (1000 : Int32)) (by decide)) f2) (fun r3 h4 f3 => ?_)
  exact s_some ⟨r_w f3.1 (by decide), f3.2⟩
theorem sf_m_meltsOf (p1 : Int32) (p2 : Int32) (f_p1 : R 0 11 p1) (f_p2 : R 0 3 p2) {h0 : PH} (i_h0 : IM h0) : Sf (mm_meltsOf p1 p2 h0) (fun r => R 0 1000 r.1 ∧ IM r.2) := by
  unfold mm_meltsOf
  refine s_bd (sf_m_wallOf p1 p2 (r_w f_p1 (by decide)) (r_w f_p2 (by decide)) i_h0) (fun r1 f1 => ?_)
  refine s_bd (sf_m_asks p1 r1 (r_w f_p1 (by decide)) i_h0) (fun h2 f2 => ?_)
  refine s_ck (⟨by decide, by decide⟩ : R 3 3 (3 : Int32)) (by decide) ?_
  refine s_ck (r_add (⟨by decide, by decide⟩ : R 55 55 (55 : Int32)) f_p1 (by decide) : R 55 66 (55 + p1)) (by decide) ?_
  refine s_bd2 (sf_m_lawTells 2 ((h2 105 (ix 3)) - (h2 105 (ix (55 + p1)))) 99 (r_w (⟨by decide, by decide⟩ : R 99 99 (99 : Int32)) (by decide)) f2) (fun r3 h4 f3 => ?_)
  exact s_some ⟨r_w f3.1 (by decide), f3.2⟩
theorem sf_m_does (p1 : Int32) (f_p1 : R 0 75 p1) (hk : ∃ k : Nat, k < 16 ∧ p1 = nI (5 * k)) {h0 : PH} (i_h0 : IM h0) : Sf (mm_does p1 h0) (fun h => IM h) := by
  unfold mm_does
  refine s_ck (r_add f_p1 (⟨by decide, by decide⟩ : R 1 1 (1 : Int32)) (by decide) : R 1 76 (p1 + 1)) (by decide) ?_
  refine s_lt (fun x1 e1 => ?_)
  refine s_ck (r_add f_p1 (⟨by decide, by decide⟩ : R 2 2 (2 : Int32)) (by decide) : R 2 77 (p1 + 2)) (by decide) ?_
  refine s_lt (fun x2 e2 => ?_)
  have f3 : R 0 11 x2 := by rw [e2]; exact (deed2 (i_h0).1 hk)
  refine s_ck (r_add f_p1 (⟨by decide, by decide⟩ : R 4 4 (4 : Int32)) (by decide) : R 4 79 (p1 + 4)) (by decide) ?_
  refine s_lt (fun x3 e4 => ?_)
  refine s_jn1 (P := fun (h5 : PH) => IM h5) (fun h5 f10 => ?_) (fun j4 kj4 => ?_)
  ·
    refine s_jn1 (P := fun (h7 : PH) => IM h7) (fun h7 f15 => ?_) (fun j6 kj6 => ?_)
    ·
      refine s_jn1 (P := fun (h9 : PH) => IM h9) (fun h9 f23 => ?_) (fun j8 kj8 => ?_)
      ·
        refine s_if (fun c24 => ?_) (fun c24 => ?_)
        ·
          have f25 : R 3 3 x1 := r_eq (⟨by decide, by decide⟩ : R 3 3 (3 : Int32)) c24
          refine s_bd (sf_m_doesStand x2 (r_w f3 (by decide)) f23) (fun r10 f26 => ?_)
          refine s_if (fun c27 => ?_) (fun c27 => ?_)
          ·
            have f28 : R 0 0 r10 := r_eq (⟨by decide, by decide⟩ : R 0 0 (0 : Int32)) c27
            exact s_some f23
          ·
            have f29 : R 1 1 r10 := r_ne_lo f26 (⟨by decide, by decide⟩ : R 0 0 (0 : Int32)) c27 (by decide)
            refine s_bd (sf_m_isRazed x2 (r_w f3 (by decide)) f23) (fun h11 f30 => ?_)
            exact s_some f30
        ·
          exact s_some f23
      ·
        refine s_if (fun c31 => ?_) (fun c31 => ?_)
        ·
          have f32 : R 2 2 x1 := r_eq (⟨by decide, by decide⟩ : R 2 2 (2 : Int32)) c31
          refine s_bd (sf_m_canWed x2 (r_w f3 (by decide)) f15) (fun r12 f33 => ?_)
          refine s_if (fun c34 => ?_) (fun c34 => ?_)
          ·
            have f35 : R 0 0 r12 := r_eq (⟨by decide, by decide⟩ : R 0 0 (0 : Int32)) c34
            exact kj8 _ (f15)
          ·
            have f36 : R 1 1 r12 := r_ne_lo f33 (⟨by decide, by decide⟩ : R 0 0 (0 : Int32)) c34 (by decide)
            refine s_bd (sf_m_isWed x2 (r_w f3 (by decide)) f15) (fun h13 f37 => ?_)
            exact kj8 _ (f37)
        ·
          exact kj8 _ (f15)
    ·
      refine s_if (fun c38 => ?_) (fun c38 => ?_)
      ·
        have f39 : R 1 1 x1 := r_eq (⟨by decide, by decide⟩ : R 1 1 (1 : Int32)) c38
        refine s_ck (r_add f_p1 (⟨by decide, by decide⟩ : R 3 3 (3 : Int32)) (by decide) : R 3 78 (p1 + 3)) (by decide) ?_
        refine s_ck (r_add f_p1 (⟨by decide, by decide⟩ : R 3 3 (3 : Int32)) (by decide) : R 3 78 (p1 + 3)) (by decide) ?_
        refine s_bd (sf_m_wallOf x2 (h5 122 (ix (p1 + 3))) (r_w f3 (by decide)) (r_w (deed3 (f10).1 hk) (by decide)) f10) (fun r14 f40 => ?_)
        refine s_bd (sf_m_hasWall x2 (h5 122 (ix (p1 + 3))) (r14 + x3) (r_w f3 (by decide)) (r_w (deed3 (f10).1 hk) (by decide)) f10) (fun h15 f41 => ?_)
        exact kj6 _ (f41)
      ·
        exact kj6 _ (f10)
  ·
    refine s_if (fun c42 => ?_) (fun c42 => ?_)
    ·
      have f43 : R 0 0 x1 := r_eq (⟨by decide, by decide⟩ : R 0 0 (0 : Int32)) c42
      refine s_ck (r_add (⟨by decide, by decide⟩ : R 67 67 (67 : Int32)) f3 (by decide) : R 67 78 (67 + x2)) (by decide) ?_
      refine s_bd (sf_m_greater 0 ((h0 105 (ix (67 + x2))) - x3) i_h0) (fun r16 f44 => ?_)
      refine s_ck (r_add (⟨by decide, by decide⟩ : R 67 67 (67 : Int32)) f3 (by decide) : R 67 78 (67 + x2)) (by decide) ?_
      refine s_lt (fun h17 e45 => ?_)
      have i46 : IM h17 := by rw [e45]; exact im_put i_h0 (sp_ne105 (r_add (⟨by decide, by decide⟩ : R 67 67 (67 : Int32)) f3 (by decide) : R 67 78 (67 + x2)) (by decide)) (r_w (r_full r16) (by decide)) (by decide)
      exact kj4 _ (i46)
    ·
      exact kj4 _ (i_h0)
theorem imL6 (k0 : PH → Option (Int32 × PH)) {Q : Int32 × PH → Prop} (hk : ∀ g, IM g → Sf (k0 g) Q) : ∀ (n j : Nat) (h : PH), 16 < n + j → j ≤ 16 → IM h → Sf (mm_goesBy_L6 k0 n (nI (5 * j)) h) Q := by
  intro n
  induction n with
  | zero => intro j h h1 h2; omega
  | succ n ih =>
    intro j h h1 h2 i
    rw [mm_goesBy_L6]
    have f5 : R 0 16 (h 104 35) := inv_rng i.1 rfl
    have m5 : R 5 5 (5 : Int32) := ⟨by decide, by decide⟩
    refine s_if (fun c => hk h i) (fun c => ?_)
    have hj : j < 16 := by
      rcases Nat.lt_or_ge j 16 with q | q
      · exact q
      · exfalso
        apply c
        have e16 : j = 16 := by omega
        subst e16
        have f6 : R 0 80 (5 * h 104 35) := r_mul m5 f5 (by decide)
        rw [Int32.le_iff_toInt_le]
        exact f6.2
    have e5 : nI (5 * j) + 5 = nI (5 * (j + 1)) := by rw [show nI (5 * j) + 5 = nI (5 * j + 5) from nI_add (5 * j) 5]; rfl
    have fj : R 0 75 (nI (5 * j)) := ⟨by rw [nI_toInt (by omega)]; omega, by rw [nI_toInt (by omega)]; omega⟩
    refine s_ck fj (by decide) (s_ck (show R 0 0 (0 : Int32) from ⟨by decide, by decide⟩) (by decide) ?_)
    refine s_if (fun c2 => ?_) (fun c2 => ?_)
    · refine s_bd (sf_m_does (nI (5 * j)) fj ⟨j, hj, rfl⟩ i) (fun h2 i2 => ?_)
      rw [lt_e, e5]
      exact ih (j + 1) h2 (by omega) (by omega) i2
    · rw [lt_e, e5]
      exact ih (j + 1) h (by omega) (by omega) i
theorem sl_m_goesBy_L6 (k0 : PH → Option (Int32 × PH)) {Q : Int32 × PH → Prop} (hk : ∀ g, IM g → Sf (k0 g) Q) {h : PH} (i : IM h) : Sf (mm_goesBy_L6 k0 FU 0 h) Q := by
  have := imL6 k0 hk FU 0 h (by unfold FU; omega) (by omega) i
  rw [show nI (5 * 0) = 0 from nI_0] at this
  exact this
/-! what may be told, and what may be done -/
theorem can_set (p1 p2 p3 : Int32) {h : PH} (i : IM h) : Sf (mm_canSet p1 p2 p3 h) (fun r => R 0 1 r ∧ (¬ r = 0 → R 8 8 p1 ∨ (R 0 7 p1 ∧ R 0 11 p2))) := by
  have z : ∀ {P : Prop}, ¬ (0 : Int32) = 0 → P := fun q => absurd rfl q
  have m0 : R 0 1 (0 : Int32) := ⟨by decide, by decide⟩
  have m1 : R 0 1 (1 : Int32) := ⟨by decide, by decide⟩
  unfold mm_canSet
  refine s_if (fun c => ?_) (fun c => ?_)
  · exact s_isin (fun r f _ => s_some ⟨r_nb r, fun _ => Or.inl (r_eq (show R 8 8 (8 : Int32) from ⟨by decide, by decide⟩) c)⟩)
  · refine s_isin (fun r2 f2 c2 => ?_)
    refine s_if (fun _ => s_some ⟨m0, z⟩) (fun n2 => ?_)
    have q := c2 n2
    have g1 : R 0 7 p1 := le_hi (le_lo (show R 0 0 (0 : Int32) from ⟨by decide, by decide⟩) (r_full p1) q.1) (show R 7 7 (7 : Int32) from ⟨by decide, by decide⟩) q.2
    refine s_house i.1 (fun r3 f3 c3 => ?_)
    refine s_if (fun _ => s_some ⟨m0, z⟩) (fun n3 => ?_)
    refine s_isin (fun r4 f4 c4 => ?_)
    refine s_jn1 (P := fun _ => True) (fun x _ => ?_) (fun j kj => ?_)
    · refine s_isin (fun r7 f7 c7 => ?_)
      exact s_if (fun _ => s_some ⟨m0, z⟩) (fun _ => s_some ⟨m1, fun _ => Or.inr ⟨g1, c3 n3⟩⟩)
    · exact s_if (fun _ => kj _ trivial) (fun _ => kj _ trivial)
theorem s_canset {ρ : Type} {Q : ρ → Prop} {p1 p2 p3 : Int32} {h : PH} {f : Int32 → Option ρ} (i : IM h) (hf : ∀ r, R 0 1 r → (¬ r = 0 → R 8 8 p1 ∨ (R 0 7 p1 ∧ R 0 11 p2)) → Sf (f r) Q) : Sf (bd (mm_canSet p1 p2 p3 h) f) Q := s_bd (can_set p1 p2 p3 i) (fun r q => hf r q.1 q.2)
theorem can_act (p1 p2 p3 : Int32) {h : PH} (i : IM h) : Sf (mm_canAct p1 p2 p3 h) (fun r => R 0 1 r ∧ (¬ r = 0 → R 0 11 p2 ∧ (R 0 3 p1 ∨ R 10 13 p1 ∨ R 20 20 p1 ∨ (R 21 21 p1 ∧ R 0 11 p3) ∨ R 22 22 p1))) := by
  have z : ∀ {P : Prop}, ¬ (0 : Int32) = 0 → P := fun q => absurd rfl q
  have m0 : R 0 1 (0 : Int32) := ⟨by decide, by decide⟩
  have m1 : R 0 1 (1 : Int32) := ⟨by decide, by decide⟩
  unfold mm_canAct
  refine s_house i.1 (fun r1 f1 c1 => ?_)
  refine s_if (fun _ => s_some ⟨m0, z⟩) (fun n1 => ?_)
  have g2 := c1 n1
  refine s_isin (fun r2 f2 c2 => ?_)
  refine s_if (fun _ => ?_) (fun n2 => ?_)
  · refine s_isin (fun r3 f3 c3 => ?_)
    refine s_if (fun _ => ?_) (fun n3 => ?_)
    · refine s_if (fun c20 => ?_) (fun _ => ?_)
      · exact s_bd (sf_m_canWed p2 g2 i) (fun r4 f4 => s_some ⟨r_nb r4, fun _ => ⟨g2, Or.inr (Or.inr (Or.inl (r_eq (show R 20 20 (20 : Int32) from ⟨by decide, by decide⟩) c20)))⟩⟩)
      · refine s_if (fun c21 => ?_) (fun _ => ?_)
        · refine s_ck (r_add (show R 79 79 (79 : Int32) from ⟨by decide, by decide⟩) g2 (e := 79) (f := 90) (by decide)) (by decide) ?_
          refine s_if (fun _ => s_some ⟨m0, z⟩) (fun _ => ?_)
          refine s_house i.1 (fun r5 f5 c5 => ?_)
          refine s_if (fun _ => s_some ⟨m0, z⟩) (fun n5 => ?_)
          refine s_if (fun _ => s_some ⟨m0, z⟩) (fun _ => ?_)
          refine s_bd (sf_m_doesStand p3 (c5 n5) i) (fun r6 f6 => ?_)
          exact s_if (fun _ => s_some ⟨m0, z⟩) (fun _ => s_some ⟨m1, fun _ => ⟨g2, Or.inr (Or.inr (Or.inr (Or.inl ⟨r_eq (show R 21 21 (21 : Int32) from ⟨by decide, by decide⟩) c21, c5 n5⟩)))⟩⟩)
        · refine s_if (fun c22 => ?_) (fun _ => s_some ⟨m0, z⟩)
          refine s_bd (sf_m_doesStand p2 g2 i) (fun r7 f7 => ?_)
          exact s_if (fun _ => s_some ⟨m0, z⟩) (fun _ => s_some ⟨m1, fun _ => ⟨g2, Or.inr (Or.inr (Or.inr (Or.inr (r_eq (show R 22 22 (22 : Int32) from ⟨by decide, by decide⟩) c22))))⟩⟩)
    · have q := c3 n3
      have g1 : R 10 13 p1 := le_hi (le_lo (show R 10 10 (10 : Int32) from ⟨by decide, by decide⟩) (r_full p1) q.1) (show R 13 13 (13 : Int32) from ⟨by decide, by decide⟩) q.2
      exact s_isin (fun r8 f8 _ => s_some ⟨r_nb r8, fun _ => ⟨g2, Or.inr (Or.inl g1)⟩⟩)
  · have q := c2 n2
    have g1 : R 0 3 p1 := le_hi (le_lo (show R 0 0 (0 : Int32) from ⟨by decide, by decide⟩) (r_full p1) q.1) (show R 3 3 (3 : Int32) from ⟨by decide, by decide⟩) q.2
    refine s_bd (sf_m_wallOf p2 p1 g2 g1 i) (fun r9 f9 => ?_)
    exact s_isin (fun r10 f10 _ => s_some ⟨r_nb r10, fun _ => ⟨g2, Or.inl g1⟩⟩)
theorem s_canact {ρ : Type} {Q : ρ → Prop} {p1 p2 p3 : Int32} {h : PH} {f : Int32 → Option ρ} (i : IM h) (hf : ∀ r, R 0 1 r → (¬ r = 0 → R 0 11 p2 ∧ (R 0 3 p1 ∨ R 10 13 p1 ∨ R 20 20 p1 ∨ (R 21 21 p1 ∧ R 0 11 p3) ∨ R 22 22 p1)) → Sf (f r) Q) : Sf (bd (mm_canAct p1 p2 p3 h) f) Q := s_bd (can_act p1 p2 p3 i) (fun r q => hf r q.1 q.2)
theorem ones_go (h : PH) : ∀ (n : Nat) (v2 v3 : Int32), R 0 4095 v3 → v3.toInt < (n : Int) → Sf (mm_onesOf_L4 h n v2 v3) (fun r => R (-2147483648) 2147483647 r) := by
  intro n
  induction n with
  | zero => intro v2 v3 f hn; have := f.1; omega
  | succ n ih =>
    intro v2 v3 f hn
    rw [mm_onesOf_L4]
    refine s_if (fun _ => s_some (r_full _)) (fun c => ?_)
    rw [lt_e, lt_e]
    have f1 : R 1 4095 v3 := r_ne_lo f (show R 0 0 (0 : Int32) from ⟨by decide, by decide⟩) c (by decide)
    have m1 : R 1 1 (1 : Int32) := ⟨by decide, by decide⟩
    have e1 := i_sub f1 m1 (by decide)
    simp only [show (1 : Int32).toInt = 1 from rfl] at e1
    have f2 : R (v3.toInt - 1) (v3.toInt - 1) (v3 - 1) := ⟨by omega, by omega⟩
    have f1a := f1.1
    have f1b := f1.2
    have f3 : R 0 (v3.toInt - 1) (v3 &&& (v3 - 1)) := r_and f2 ⟨by omega, rfl, rfl⟩
    exact ih _ _ (r_w f3 ⟨by omega, by omega⟩) (by have := f3.2; omega)
theorem sf_m_onesOf (p1 : Int32) (f : R 0 4095 p1) {h0 : PH} (i : IM h0) : Sf (mm_onesOf p1 h0) (fun r => R (-2147483648) 2147483647 r) := ones_go h0 FU 0 p1 f (by have := f.2; have e : ((FU : Nat) : Int) = 100000 := rfl; omega)
theorem sl_m_paysRent_L8 (p1 : Int32) (p2 : Int32) (k0 : Int32 → PH → Option (PH)) (f_p1 : R 0 11 p1) (f_p2 : R 0 1000 p2) (hk_k0 : ∀ (y0 : Int32) (y1 : PH), R 0 1000 y0 → IM y1 → Sf (k0 y0 y1) (fun h => IM h)) : ∀ (n : Nat) (v3 : Int32) (hv : PH), 1000 - v3.toInt < (n : Int) → R 0 1000 v3 → IM hv → Sf (mm_paysRent_L8 p1 p2 k0 n v3 hv) (fun h => IM h) := by
  intro n
  induction n with
  | zero =>
    intro v3 hv hfu f_v3 i_hv
    have := f_v3.2
    omega
  | succ n ih =>
    intro v3 hv hfu f_v3 i_hv
    rw [mm_paysRent_L8]
    refine s_if (fun c1 => ?_) (fun c1 => ?_)
    ·
      exact hk_k0 _ _ (r_w f_v3 (by decide)) (i_hv)
    ·
      have f2 : R 0 999 v3 := lt_hi f_v3 f_p2 (nle_lt c1) (by decide)
      have f3 : R 1 1000 p2 := lt_lo f_v3 f_p2 (nle_lt c1) (by decide)
      refine s_bd (sf_m_doesStand p1 (r_w f_p1 (by decide)) i_hv) (fun r3 f4 => ?_)
      refine s_if (fun c5 => ?_) (fun c5 => ?_)
      ·
        have f6 : R 0 0 r3 := r_eq (⟨by decide, by decide⟩ : R 0 0 (0 : Int32)) c5
        exact hk_k0 _ _ (r_w f2 (by decide)) (i_hv)
      ·
        have f7 : R 1 1 r3 := r_ne_lo f4 (⟨by decide, by decide⟩ : R 0 0 (0 : Int32)) c5 (by decide)
        refine s_bd (sf_m_thickest p1 (r_w f_p1 (by decide)) i_hv) (fun r4 f8 => ?_)
        refine s_bd (sf_m_wallOf p1 r4 (r_w f_p1 (by decide)) (r_w f8 (by decide)) i_hv) (fun r5 f9 => ?_)
        refine s_bd (sf_m_hasWall p1 r4 (r5 - 1) (r_w f_p1 (by decide)) (r_w f8 (by decide)) i_hv) (fun h6 f10 => ?_)
        refine s_lt (fun x7 e11 => ?_)
        have f12 : R 1 1000 x7 := by rw [e11]; exact (r_add f2 (⟨by decide, by decide⟩ : R 1 1 (1 : Int32)) (by decide) : R 1 1000 (v3 + 1))
        exact ih x7 h6 (fu_su hfu (by rw [e11]; exact (i_inc f2 (k := 1) rfl (by decide))) (by decide)) (r_w f12 (by decide)) f10
theorem sf_m_paysRent (p1 : Int32) (f_p1 : R 0 11 p1) {h0 : PH} (i_h0 : IM h0) : Sf (mm_paysRent p1 h0) (fun h => IM h) := by
  unfold mm_paysRent
  refine s_bd2 (sf_m_rentOf p1 (r_w f_p1 (by decide)) i_h0) (fun r1 h2 f1 => ?_)
  refine sl_m_paysRent_L8 p1 r1 _ (r_w f_p1 (by decide)) (r_w f1.1 (by decide)) ?_ FU 0 h2 (fu_up (⟨by decide, by decide⟩ : R 0 0 (0 : Int32)) (by decide)) (r_w (⟨by decide, by decide⟩ : R 0 0 (0 : Int32)) (by decide)) f1.2
  ·
    intro x8 h9 f2 f3
    refine s_ck (⟨by decide, by decide⟩ : R 5 5 (5 : Int32)) (by decide) ?_
    refine s_ck (⟨by decide, by decide⟩ : R 5 5 (5 : Int32)) (by decide) ?_
    refine s_lt (fun h10 e4 => ?_)
    have i5 : IM h10 := by rw [e4]; exact im_put f3 rfl (r_w (r_full ((h9 105 (ix 5)) + x8)) (by decide)) (by decide)
    refine s_jn1 (P := fun (h12 : PH) => IM h12) (fun h12 f10 => ?_) (fun j11 kj11 => ?_)
    ·
      refine s_ck (r_add (⟨by decide, by decide⟩ : R 67 67 (67 : Int32)) f_p1 (by decide) : R 67 78 (67 + p1)) (by decide) ?_
      refine s_ck (r_add (⟨by decide, by decide⟩ : R 67 67 (67 : Int32)) f_p1 (by decide) : R 67 78 (67 + p1)) (by decide) ?_
      refine s_lt (fun h13 e11 => ?_)
      have i12 : IM h13 := by rw [e11]; exact im_put f10 (sp_ne105 (r_add (⟨by decide, by decide⟩ : R 67 67 (67 : Int32)) f_p1 (by decide) : R 67 78 (67 + p1)) (by decide)) (r_w (r_full (((h12 105 (ix (67 + p1))) + r1) - x8)) (by decide)) (by decide)
      refine s_jn1 (P := fun (h15 : PH) => IM h15) (fun h15 f17 => ?_) (fun j14 kj14 => ?_)
      ·
        refine s_bd (sf_m_areOut p1 (r_w f_p1 (by decide)) f17) (fun h16 f18 => ?_)
        exact s_some f18
      ·
        refine s_if (fun c19 => ?_) (fun c19 => ?_)
        ·
          exact kj14 _ (i12)
        ·
          have f20 : R 0 999 x8 := lt_hi f2 f1.1 (nle_lt c19) (by decide)
          have f21 : R 1 1000 r1 := lt_lo f2 f1.1 (nle_lt c19) (by decide)
          refine s_bd (sf_m_notes 1 p1 (r1 - x8) i12) (fun h17 f22 => ?_)
          exact kj14 _ (f22)
    ·
      refine s_if (fun c23 => ?_) (fun c23 => ?_)
      ·
        have f24 : R 0 0 x8 := le_hi f2 (⟨by decide, by decide⟩ : R 0 0 (0 : Int32)) c23
        exact kj11 _ (i5)
      ·
        have f25 : R 1 1000 x8 := lt_lo (⟨by decide, by decide⟩ : R 0 0 (0 : Int32)) f2 (nle_lt c23) (by decide)
        refine s_bd (sf_m_notes 0 p1 x8 i5) (fun h18 f26 => ?_)
        exact kj11 _ (f26)
theorem sl_m_isGnawed_L4 (p1 : Int32) (k0 : Int32 → PH → Option (PH)) (f_p1 : R 0 11 p1) (hk_k0 : ∀ (y0 : Int32) (y1 : PH), R (-2147483648) 2147483647 y0 → IM y1 → Sf (k0 y0 y1) (fun h => IM h)) : ∀ (n : Nat) (v2 : Int32) (v3 : Int32) (hv : PH), 4 - v3.toInt < (n : Int) → R (-2147483648) 2147483647 v2 → R 0 4 v3 → IM hv → Sf (mm_isGnawed_L4 p1 k0 n v2 v3 hv) (fun h => IM h) := by
  intro n
  induction n with
  | zero =>
    intro v2 v3 hv hfu f_v2 f_v3 i_hv
    have := f_v3.2
    omega
  | succ n ih =>
    intro v2 v3 hv hfu f_v2 f_v3 i_hv
    rw [mm_isGnawed_L4]
    refine s_if (fun c1 => ?_) (fun c1 => ?_)
    ·
      have f2 : R 4 4 v3 := le_lo (⟨by decide, by decide⟩ : R 4 4 (4 : Int32)) f_v3 c1
      exact hk_k0 _ _ (r_w f_v2 (by decide)) (i_hv)
    ·
      have f3 : R 0 3 v3 := lt_hi f_v3 (⟨by decide, by decide⟩ : R 4 4 (4 : Int32)) (nle_lt c1) (by decide)
      refine s_bd (sf_m_wallOf p1 v3 (r_w f_p1 (by decide)) (r_w f3 (by decide)) i_hv) (fun r1 f4 => ?_)
      refine s_if (fun c5 => ?_) (fun c5 => ?_)
      ·
        have f6 : R 0 0 r1 := r_eq (⟨by decide, by decide⟩ : R 0 0 (0 : Int32)) c5
        exact ih v2 (v3 + 1) hv (fu_su hfu (i_inc f3 (k := 1) rfl (by decide)) (by decide)) (r_w f_v2 (by decide)) (r_w (r_add f3 (⟨by decide, by decide⟩ : R 1 1 (1 : Int32)) (by decide) : R 1 4 (v3 + 1)) (by decide)) i_hv
      ·
        refine s_bd2 (sf_m_gnawsOf p1 v3 (r_w f_p1 (by decide)) (r_w f3 (by decide)) i_hv) (fun r2 h3 f7 => ?_)
        refine s_jn2 (P := fun (x5 : Int32) (h6 : PH) => R 0 1 x5 ∧ IM h6) (fun x5 h6 f21 => ?_) (fun j4 kj4 => ?_)
        ·
          refine s_if (fun c22 => ?_) (fun c22 => ?_)
          ·
            have f23 : R 0 0 x5 := r_eq (⟨by decide, by decide⟩ : R 0 0 (0 : Int32)) c22
            exact ih v2 (v3 + 1) h6 (fu_su hfu (i_inc f3 (k := 1) rfl (by decide)) (by decide)) (r_w f_v2 (by decide)) (r_w (r_add f3 (⟨by decide, by decide⟩ : R 1 1 (1 : Int32)) (by decide) : R 1 4 (v3 + 1)) (by decide)) f21.2
          ·
            have f24 : R 1 1 x5 := r_ne_lo f21.1 (⟨by decide, by decide⟩ : R 0 0 (0 : Int32)) c22 (by decide)
            refine s_bd (sf_m_wallOf p1 v3 (r_w f_p1 (by decide)) (r_w f3 (by decide)) f21.2) (fun r7 f25 => ?_)
            refine s_bd (sf_m_hasWall p1 v3 (r7 - 1) (r_w f_p1 (by decide)) (r_w f3 (by decide)) f21.2) (fun h8 f26 => ?_)
            refine s_lt (fun x9 e27 => ?_)
            exact ih x9 (v3 + 1) h8 (fu_su hfu (i_inc f3 (k := 1) rfl (by decide)) (by decide)) (r_w (r_full x9) (by decide)) (r_w (r_add f3 (⟨by decide, by decide⟩ : R 1 1 (1 : Int32)) (by decide) : R 1 4 (v3 + 1)) (by decide)) f26
        ·
          refine s_if (fun c28 => ?_) (fun c28 => ?_)
          ·
            have f29 : R 0 0 (h3 104 5) := r_eq (⟨by decide, by decide⟩ : R 0 0 (0 : Int32)) c28
            refine s_if (fun c30 => ?_) (fun c30 => ?_)
            ·
              have f31 : R 0 0 r2 := le_hi f7.1 (⟨by decide, by decide⟩ : R 0 0 (0 : Int32)) c30
              exact kj4 _ _ ⟨r_w (⟨by decide, by decide⟩ : R 0 0 (0 : Int32)) (by decide), f7.2⟩
            ·
              have f32 : R 1 1000 r2 := lt_lo (⟨by decide, by decide⟩ : R 0 0 (0 : Int32)) f7.1 (nle_lt c30) (by decide)
              refine s_bd2 (sf_m_draw 1000 (r_w (⟨by decide, by decide⟩ : R 1000 1000 (1000 : Int32)) (by decide)) f7.2) (fun r10 h11 f33 => ?_)
              refine s_if (fun c34 => ?_) (fun c34 => ?_)
              ·
                have f35 : R 1 2147483647 r10 := le_lo f32 f33.1 c34
                exact kj4 _ _ ⟨r_w (⟨by decide, by decide⟩ : R 0 0 (0 : Int32)) (by decide), f33.2⟩
              ·
                have f36 : R (-2147483648) 999 r10 := lt_hi f33.1 f32 (nle_lt c34) (by decide)
                exact kj4 _ _ ⟨r_w (⟨by decide, by decide⟩ : R 1 1 (1 : Int32)) (by decide), f33.2⟩
          ·
            have f37 : R 1 1 (h3 104 5) := r_ne_lo (inv_rng (f7.2).1 rfl : R 0 1 (h3 104 5)) (⟨by decide, by decide⟩ : R 0 0 (0 : Int32)) c28 (by decide)
            refine s_if (fun c38 => ?_) (fun c38 => ?_)
            ·
              have f39 : R 0 999 (2 * r2) := lt_hi (r_mul (⟨by decide, by decide⟩ : R 2 2 (2 : Int32)) f7.1 (by decide) : R 0 2000 (2 * r2)) (⟨by decide, by decide⟩ : R 1000 1000 (1000 : Int32)) c38 (by decide)
              exact kj4 _ _ ⟨r_w (⟨by decide, by decide⟩ : R 0 0 (0 : Int32)) (by decide), f7.2⟩
            ·
              have f40 : R 1000 2000 (2 * r2) := le_lo (⟨by decide, by decide⟩ : R 1000 1000 (1000 : Int32)) (r_mul (⟨by decide, by decide⟩ : R 2 2 (2 : Int32)) f7.1 (by decide) : R 0 2000 (2 * r2)) (nlt_le c38)
              exact kj4 _ _ ⟨r_w (⟨by decide, by decide⟩ : R 1 1 (1 : Int32)) (by decide), f7.2⟩
theorem sf_m_isGnawed (p1 : Int32) (f_p1 : R 0 11 p1) {h0 : PH} (i_h0 : IM h0) : Sf (mm_isGnawed p1 h0) (fun h => IM h) := by
  unfold mm_isGnawed
  refine sl_m_isGnawed_L4 p1 _ (r_w f_p1 (by decide)) ?_ FU 0 0 h0 (fu_up (⟨by decide, by decide⟩ : R 0 0 (0 : Int32)) (by decide)) (r_w (⟨by decide, by decide⟩ : R 0 0 (0 : Int32)) (by decide)) (r_w (⟨by decide, by decide⟩ : R 0 0 (0 : Int32)) (by decide)) i_h0
  ·
    intro x12 h13 f1 f2
    refine s_ck (⟨by decide, by decide⟩ : R 6 6 (6 : Int32)) (by decide) ?_
    refine s_ck (⟨by decide, by decide⟩ : R 6 6 (6 : Int32)) (by decide) ?_
    refine s_lt (fun h14 e3 => ?_)
    have i4 : IM h14 := by rw [e3]; exact im_put f2 rfl (r_w (r_full ((h13 105 (ix 6)) + x12)) (by decide)) (by decide)
    refine s_if (fun c5 => ?_) (fun c5 => ?_)
    ·
      have f6 : R (-2147483648) 0 x12 := le_hi (r_full x12) (⟨by decide, by decide⟩ : R 0 0 (0 : Int32)) c5
      exact s_some i4
    ·
      have f7 : R 1 2147483647 x12 := lt_lo (⟨by decide, by decide⟩ : R 0 0 (0 : Int32)) (r_full x12) (nle_lt c5) (by decide)
      refine s_bd (sf_m_notes 2 p1 x12 i4) (fun h15 f8 => ?_)
      exact s_some f8
theorem sl_m_doesMelt_L4 (p1 : Int32) (k0 : Int32 → PH → Option (PH)) (f_p1 : R 0 11 p1) (hk_k0 : ∀ (y0 : Int32) (y1 : PH), R (-2147483648) 2147483647 y0 → IM y1 → Sf (k0 y0 y1) (fun h => IM h)) : ∀ (n : Nat) (v2 : Int32) (v3 : Int32) (hv : PH), 4 - v3.toInt < (n : Int) → R (-2147483648) 2147483647 v2 → R 0 4 v3 → IM hv → Sf (mm_doesMelt_L4 p1 k0 n v2 v3 hv) (fun h => IM h) := by
  intro n
  induction n with
  | zero =>
    intro v2 v3 hv hfu f_v2 f_v3 i_hv
    have := f_v3.2
    omega
  | succ n ih =>
    intro v2 v3 hv hfu f_v2 f_v3 i_hv
    rw [mm_doesMelt_L4]
    refine s_if (fun c1 => ?_) (fun c1 => ?_)
    ·
      have f2 : R 4 4 v3 := le_lo (⟨by decide, by decide⟩ : R 4 4 (4 : Int32)) f_v3 c1
      exact hk_k0 _ _ (r_w f_v2 (by decide)) (i_hv)
    ·
      have f3 : R 0 3 v3 := lt_hi f_v3 (⟨by decide, by decide⟩ : R 4 4 (4 : Int32)) (nle_lt c1) (by decide)
      refine s_ck (⟨by decide, by decide⟩ : R 4 4 (4 : Int32)) (by decide) ?_
      refine s_if (fun c4 => ?_) (fun c4 => ?_)
      ·
        have f5 : R 0 0 (hv 105 (ix 4)) := r_eq (⟨by decide, by decide⟩ : R 0 0 (0 : Int32)) c4
        refine s_bd (sf_m_wallOf p1 v3 (r_w f_p1 (by decide)) (r_w f3 (by decide)) i_hv) (fun r1 f6 => ?_)
        refine s_jn2 (P := fun (x3 : Int32) (h4 : PH) => R (-2147483648) 2147483647 x3 ∧ IM h4) (fun x3 h4 f12 => ?_) (fun j2 kj2 => ?_)
        ·
          refine s_bd (sf_m_wallOf p1 v3 (r_w f_p1 (by decide)) (r_w f3 (by decide)) f12.2) (fun r5 f13 => ?_)
          refine s_bd (sf_m_hasWall p1 v3 (r5 - x3) (r_w f_p1 (by decide)) (r_w f3 (by decide)) f12.2) (fun h6 f14 => ?_)
          refine s_lt (fun x7 e15 => ?_)
          exact ih x7 (v3 + 1) h6 (fu_su hfu (i_inc f3 (k := 1) rfl (by decide)) (by decide)) (r_w (r_full x7) (by decide)) (r_w (r_add f3 (⟨by decide, by decide⟩ : R 1 1 (1 : Int32)) (by decide) : R 1 4 (v3 + 1)) (by decide)) f14
        ·
          refine s_if (fun c16 => ?_) (fun c16 => ?_)
          ·
            have f17 : R 0 0 r1 := r_eq (⟨by decide, by decide⟩ : R 0 0 (0 : Int32)) c16
            exact kj2 _ _ ⟨r_w (⟨by decide, by decide⟩ : R 0 0 (0 : Int32)) (by decide), i_hv⟩
          ·
            refine s_bd (sf_m_wallOf p1 v3 (r_w f_p1 (by decide)) (r_w f3 (by decide)) i_hv) (fun r8 f18 => ?_)
            refine s_bd2 (sf_m_meltsOf p1 v3 (r_w f_p1 (by decide)) (r_w f3 (by decide)) i_hv) (fun r9 h10 f19 => ?_)
            refine s_bd (sf_m_lesser r8 r9 f19.2) (fun r11 f20 => ?_)
            exact kj2 _ _ ⟨r_w (r_full r11) (by decide), f19.2⟩
      ·
        exact hk_k0 _ _ (r_w f_v2 (by decide)) (i_hv)
theorem sf_m_doesMelt (p1 : Int32) (f_p1 : R 0 11 p1) {h0 : PH} (i_h0 : IM h0) : Sf (mm_doesMelt p1 h0) (fun h => IM h) := by
  unfold mm_doesMelt
  refine sl_m_doesMelt_L4 p1 _ (r_w f_p1 (by decide)) ?_ FU 0 0 h0 (fu_up (⟨by decide, by decide⟩ : R 0 0 (0 : Int32)) (by decide)) (r_w (⟨by decide, by decide⟩ : R 0 0 (0 : Int32)) (by decide)) (r_w (⟨by decide, by decide⟩ : R 0 0 (0 : Int32)) (by decide)) i_h0
  ·
    intro x12 h13 f1 f2
    refine s_if (fun c3 => ?_) (fun c3 => ?_)
    ·
      have f4 : R (-2147483648) 0 x12 := le_hi (r_full x12) (⟨by decide, by decide⟩ : R 0 0 (0 : Int32)) c3
      exact s_some f2
    ·
      have f5 : R 1 2147483647 x12 := lt_lo (⟨by decide, by decide⟩ : R 0 0 (0 : Int32)) (r_full x12) (nle_lt c3) (by decide)
      refine s_bd (sf_m_notes 3 p1 x12 f2) (fun h14 f6 => ?_)
      exact s_some f6
theorem sl_m_goesBy_L50 (p1 : Int32) (k0 : PH → Option (Int32 × PH)) (f_p1 : R 0 4095 p1) (hk_k0 : ∀ (y0 : PH), IM y0 → Sf (k0 y0) (fun r => R (-2147483648) 2147483647 r.1 ∧ IM r.2)) : ∀ (n : Nat) (v2 : Int32) (hv : PH), 12 - v2.toInt < (n : Int) → R 0 12 v2 → IM hv → Sf (mm_goesBy_L50 p1 k0 n v2 hv) (fun r => R (-2147483648) 2147483647 r.1 ∧ IM r.2) := by
  intro n
  induction n with
  | zero =>
    intro v2 hv hfu f_v2 i_hv
    have := f_v2.2
    omega
  | succ n ih =>
    intro v2 hv hfu f_v2 i_hv
    rw [mm_goesBy_L50]
    refine s_if (fun c1 => ?_) (fun c1 => ?_)
    ·
      exact hk_k0 _ (i_hv)
    ·
      have f2 : R 0 11 v2 := lt_hi f_v2 (inv_rng (i_hv).1 rfl : R 0 12 (hv 104 6)) (nle_lt c1) (by decide)
      have f3 : R 1 12 (hv 104 6) := lt_lo f_v2 (inv_rng (i_hv).1 rfl : R 0 12 (hv 104 6)) (nle_lt c1) (by decide)
      refine s_bd (sf_m_doesStand v2 (r_w f2 (by decide)) i_hv) (fun r7 f4 => ?_)
      refine s_if (fun c5 => ?_) (fun c5 => ?_)
      ·
        have f6 : R 0 0 r7 := r_eq (⟨by decide, by decide⟩ : R 0 0 (0 : Int32)) c5
        exact ih (v2 + 1) hv (fu_su hfu (i_inc f2 (k := 1) rfl (by decide)) (by decide)) (r_w (r_add f2 (⟨by decide, by decide⟩ : R 1 1 (1 : Int32)) (by decide) : R 1 12 (v2 + 1)) (by decide)) i_hv
      ·
        have f7 : R 1 1 r7 := r_ne_lo f4 (⟨by decide, by decide⟩ : R 0 0 (0 : Int32)) c5 (by decide)
        refine s_ck (r_add (⟨by decide, by decide⟩ : R 79 79 (79 : Int32)) f2 (by decide) : R 79 90 (79 + v2)) (by decide) ?_
        refine s_if (fun c8 => ?_) (fun c8 => ?_)
        ·
          have f9 : R (-2147483648) 0 (hv 105 (ix (79 + v2))) := le_hi (r_full (hv 105 (ix (79 + v2)))) (⟨by decide, by decide⟩ : R 0 0 (0 : Int32)) c8
          exact ih (v2 + 1) hv (fu_su hfu (i_inc f2 (k := 1) rfl (by decide)) (by decide)) (r_w (r_add f2 (⟨by decide, by decide⟩ : R 1 1 (1 : Int32)) (by decide) : R 1 12 (v2 + 1)) (by decide)) i_hv
        ·
          have f10 : R 1 2147483647 (hv 105 (ix (79 + v2))) := lt_lo (⟨by decide, by decide⟩ : R 0 0 (0 : Int32)) (r_full (hv 105 (ix (79 + v2)))) (nle_lt c8) (by decide)
          refine s_bd (sf_m_paysRent v2 (r_w f2 (by decide)) i_hv) (fun h8 f11 => ?_)
          exact ih (v2 + 1) h8 (fu_su hfu (i_inc f2 (k := 1) rfl (by decide)) (by decide)) (r_w (r_add f2 (⟨by decide, by decide⟩ : R 1 1 (1 : Int32)) (by decide) : R 1 12 (v2 + 1)) (by decide)) f11
theorem sl_m_goesBy_L91 (p1 : Int32) (k0 : PH → Option (Int32 × PH)) (f_p1 : R 0 4095 p1) (hk_k0 : ∀ (y0 : PH), IM y0 → Sf (k0 y0) (fun r => R (-2147483648) 2147483647 r.1 ∧ IM r.2)) : ∀ (n : Nat) (v2 : Int32) (hv : PH), 12 - v2.toInt < (n : Int) → R 0 12 v2 → IM hv → Sf (mm_goesBy_L91 p1 k0 n v2 hv) (fun r => R (-2147483648) 2147483647 r.1 ∧ IM r.2) := by
  intro n
  induction n with
  | zero =>
    intro v2 hv hfu f_v2 i_hv
    have := f_v2.2
    omega
  | succ n ih =>
    intro v2 hv hfu f_v2 i_hv
    rw [mm_goesBy_L91]
    refine s_if (fun c1 => ?_) (fun c1 => ?_)
    ·
      exact hk_k0 _ (i_hv)
    ·
      have f2 : R 0 11 v2 := lt_hi f_v2 (inv_rng (i_hv).1 rfl : R 0 12 (hv 104 6)) (nle_lt c1) (by decide)
      have f3 : R 1 12 (hv 104 6) := lt_lo f_v2 (inv_rng (i_hv).1 rfl : R 0 12 (hv 104 6)) (nle_lt c1) (by decide)
      refine s_bd (sf_m_isGnawed v2 (r_w f2 (by decide)) i_hv) (fun h10 f4 => ?_)
      exact ih (v2 + 1) h10 (fu_su hfu (i_inc f2 (k := 1) rfl (by decide)) (by decide)) (r_w (r_add f2 (⟨by decide, by decide⟩ : R 1 1 (1 : Int32)) (by decide) : R 1 12 (v2 + 1)) (by decide)) f4
theorem sl_m_goesBy_L112 (p1 : Int32) (k0 : PH → Option (Int32 × PH)) (f_p1 : R 0 4095 p1) (hk_k0 : ∀ (y0 : PH), IM y0 → Sf (k0 y0) (fun r => R (-2147483648) 2147483647 r.1 ∧ IM r.2)) : ∀ (n : Nat) (v2 : Int32) (hv : PH), 12 - v2.toInt < (n : Int) → R 0 12 v2 → IM hv → Sf (mm_goesBy_L112 p1 k0 n v2 hv) (fun r => R (-2147483648) 2147483647 r.1 ∧ IM r.2) := by
  intro n
  induction n with
  | zero =>
    intro v2 hv hfu f_v2 i_hv
    have := f_v2.2
    omega
  | succ n ih =>
    intro v2 hv hfu f_v2 i_hv
    rw [mm_goesBy_L112]
    refine s_if (fun c1 => ?_) (fun c1 => ?_)
    ·
      exact hk_k0 _ (i_hv)
    ·
      have f2 : R 0 11 v2 := lt_hi f_v2 (inv_rng (i_hv).1 rfl : R 0 12 (hv 104 6)) (nle_lt c1) (by decide)
      have f3 : R 1 12 (hv 104 6) := lt_lo f_v2 (inv_rng (i_hv).1 rfl : R 0 12 (hv 104 6)) (nle_lt c1) (by decide)
      refine s_bd (sf_m_doesMelt v2 (r_w f2 (by decide)) i_hv) (fun h12 f4 => ?_)
      exact ih (v2 + 1) h12 (fu_su hfu (i_inc f2 (k := 1) rfl (by decide)) (by decide)) (r_w (r_add f2 (⟨by decide, by decide⟩ : R 1 1 (1 : Int32)) (by decide) : R 1 12 (v2 + 1)) (by decide)) f4
theorem sl_m_goesBy_L133 (p1 : Int32) (k0 : PH → Option (Int32 × PH)) (f_p1 : R 0 4095 p1) (hk_k0 : ∀ (y0 : PH), IM y0 → Sf (k0 y0) (fun r => R (-2147483648) 2147483647 r.1 ∧ IM r.2)) : ∀ (n : Nat) (v2 : Int32) (hv : PH), 12 - v2.toInt < (n : Int) → R 0 12 v2 → IM hv → Sf (mm_goesBy_L133 p1 k0 n v2 hv) (fun r => R (-2147483648) 2147483647 r.1 ∧ IM r.2) := by
  intro n
  induction n with
  | zero =>
    intro v2 hv hfu f_v2 i_hv
    have := f_v2.2
    omega
  | succ n ih =>
    intro v2 hv hfu f_v2 i_hv
    rw [mm_goesBy_L133]
    refine s_if (fun c1 => ?_) (fun c1 => ?_)
    ·
      exact hk_k0 _ (i_hv)
    ·
      have f2 : R 0 11 v2 := lt_hi f_v2 (inv_rng (i_hv).1 rfl : R 0 12 (hv 104 6)) (nle_lt c1) (by decide)
      have f3 : R 1 12 (hv 104 6) := lt_lo f_v2 (inv_rng (i_hv).1 rfl : R 0 12 (hv 104 6)) (nle_lt c1) (by decide)
      refine s_ck (⟨by decide, by decide⟩ : R 4 4 (4 : Int32)) (by decide) ?_
      refine s_if (fun c4 => ?_) (fun c4 => ?_)
      ·
        have f5 : R 1 1 (hv 105 (ix 4)) := r_eq (⟨by decide, by decide⟩ : R 1 1 (1 : Int32)) c4
        refine s_bd (sf_m_doesStand v2 (r_w f2 (by decide)) i_hv) (fun r14 f6 => ?_)
        refine s_if (fun c7 => ?_) (fun c7 => ?_)
        ·
          have f8 : R 0 0 r14 := r_eq (⟨by decide, by decide⟩ : R 0 0 (0 : Int32)) c7
          exact ih (v2 + 1) hv (fu_su hfu (i_inc f2 (k := 1) rfl (by decide)) (by decide)) (r_w (r_add f2 (⟨by decide, by decide⟩ : R 1 1 (1 : Int32)) (by decide) : R 1 12 (v2 + 1)) (by decide)) i_hv
        ·
          have f9 : R 1 1 r14 := r_ne_lo f6 (⟨by decide, by decide⟩ : R 0 0 (0 : Int32)) c7 (by decide)
          refine s_ck (r_add (⟨by decide, by decide⟩ : R 55 55 (55 : Int32)) f2 (by decide) : R 55 66 (55 + v2)) (by decide) ?_
          refine s_bd (sf_m_lesser 9 ((hv 105 (ix (55 + v2))) + 1) i_hv) (fun r15 f10 => ?_)
          refine s_ck (r_add (⟨by decide, by decide⟩ : R 55 55 (55 : Int32)) f2 (by decide) : R 55 66 (55 + v2)) (by decide) ?_
          refine s_lt (fun h16 e11 => ?_)
          have i12 : IM h16 := by rw [e11]; exact im_put i_hv (sp_ne105 (r_add (⟨by decide, by decide⟩ : R 55 55 (55 : Int32)) f2 (by decide) : R 55 66 (55 + v2)) (by decide)) (r_w (r_full r15) (by decide)) (by decide)
          have f13 : R 1 12 (h16 104 6) := by rw [e11, up_oc (by decide)]; exact f3
          exact ih (v2 + 1) h16 (fu_su hfu (i_inc f2 (k := 1) rfl (by decide)) (by decide)) (r_w (r_add f2 (⟨by decide, by decide⟩ : R 1 1 (1 : Int32)) (by decide) : R 1 12 (v2 + 1)) (by decide)) i12
      ·
        exact ih (v2 + 1) hv (fu_su hfu (i_inc f2 (k := 1) rfl (by decide)) (by decide)) (r_w (r_add f2 (⟨by decide, by decide⟩ : R 1 1 (1 : Int32)) (by decide) : R 1 12 (v2 + 1)) (by decide)) i_hv
theorem sl_m_goesBy_L193 (p1 : Int32) (k0 : PH → Option (Int32 × PH)) (f_p1 : R 0 4095 p1) (hk_k0 : ∀ (y0 : PH), IM y0 → Sf (k0 y0) (fun r => R (-2147483648) 2147483647 r.1 ∧ IM r.2)) : ∀ (n : Nat) (v2 : Int32) (hv : PH), 12 - v2.toInt < (n : Int) → R 0 12 v2 → IM hv → Sf (mm_goesBy_L193 p1 k0 n v2 hv) (fun r => R (-2147483648) 2147483647 r.1 ∧ IM r.2) := by
  intro n
  induction n with
  | zero =>
    intro v2 hv hfu f_v2 i_hv
    have := f_v2.2
    omega
  | succ n ih =>
    intro v2 hv hfu f_v2 i_hv
    rw [mm_goesBy_L193]
    refine s_if (fun c1 => ?_) (fun c1 => ?_)
    ·
      exact hk_k0 _ (i_hv)
    ·
      have f2 : R 0 11 v2 := lt_hi f_v2 (inv_rng (i_hv).1 rfl : R 0 12 (hv 104 6)) (nle_lt c1) (by decide)
      have f3 : R 1 12 (hv 104 6) := lt_lo f_v2 (inv_rng (i_hv).1 rfl : R 0 12 (hv 104 6)) (nle_lt c1) (by decide)
      refine s_bd (sf_m_areOut v2 (r_w f2 (by decide)) i_hv) (fun h18 f4 => ?_)
      refine s_bd (sf_m_doesStand v2 (r_w f2 (by decide)) f4) (fun r19 f5 => ?_)
      refine s_if (fun c6 => ?_) (fun c6 => ?_)
      ·
        have f7 : R 0 0 r19 := r_eq (⟨by decide, by decide⟩ : R 0 0 (0 : Int32)) c6
        exact ih (v2 + 1) h18 (fu_su hfu (i_inc f2 (k := 1) rfl (by decide)) (by decide)) (r_w (r_add f2 (⟨by decide, by decide⟩ : R 1 1 (1 : Int32)) (by decide) : R 1 12 (v2 + 1)) (by decide)) f4
      ·
        have f8 : R 1 1 r19 := r_ne_lo f5 (⟨by decide, by decide⟩ : R 0 0 (0 : Int32)) c6 (by decide)
        refine s_ck (r_add (⟨by decide, by decide⟩ : R 103 103 (103 : Int32)) f2 (by decide) : R 103 114 (103 + v2)) (by decide) ?_
        refine s_bd (sf_m_lesser 9999 ((h18 105 (ix (103 + v2))) + 1) f4) (fun r20 f9 => ?_)
        refine s_ck (r_add (⟨by decide, by decide⟩ : R 103 103 (103 : Int32)) f2 (by decide) : R 103 114 (103 + v2)) (by decide) ?_
        refine s_lt (fun h21 e10 => ?_)
        have i11 : IM h21 := by rw [e10]; exact im_put f4 (sp_ne105 (r_add (⟨by decide, by decide⟩ : R 103 103 (103 : Int32)) f2 (by decide) : R 103 114 (103 + v2)) (by decide)) (r_w (r_full r20) (by decide)) (by decide)
        exact ih (v2 + 1) h21 (fu_su hfu (i_inc f2 (k := 1) rfl (by decide)) (by decide)) (r_w (r_add f2 (⟨by decide, by decide⟩ : R 1 1 (1 : Int32)) (by decide) : R 1 12 (v2 + 1)) (by decide)) i11
theorem sf_m_goesBy {h0 : PH} (i_h0 : IM h0) : Sf (mm_goesBy h0) (fun r => R (-2147483648) 2147483647 r.1 ∧ IM r.2) := by
  unfold mm_goesBy
  refine s_bd (sf_m_skyOf i_h0) (fun h1 f1 => ?_)
  refine sl_m_goesBy_L6 _ (fun h5 f2 => ?_) f1
  refine s_bd (sf_m_standingSet f2) (fun r6 f3 => ?_)
  refine sl_m_goesBy_L50 r6 _ (r_w f3 (by decide)) ?_ FU 0 h5 (fu_up (⟨by decide, by decide⟩ : R 0 0 (0 : Int32)) (by decide)) (r_w (⟨by decide, by decide⟩ : R 0 0 (0 : Int32)) (by decide)) f2
  ·
    intro h9 f4
    refine sl_m_goesBy_L91 r6 _ (r_w f3 (by decide)) ?_ FU 0 h9 (fu_up (⟨by decide, by decide⟩ : R 0 0 (0 : Int32)) (by decide)) (r_w (⟨by decide, by decide⟩ : R 0 0 (0 : Int32)) (by decide)) f4
    ·
      intro h11 f5
      refine sl_m_goesBy_L112 r6 _ (r_w f3 (by decide)) ?_ FU 0 h11 (fu_up (⟨by decide, by decide⟩ : R 0 0 (0 : Int32)) (by decide)) (r_w (⟨by decide, by decide⟩ : R 0 0 (0 : Int32)) (by decide)) f5
      ·
        intro h13 f6
        refine sl_m_goesBy_L133 r6 _ (r_w f3 (by decide)) ?_ FU 0 h13 (fu_up (⟨by decide, by decide⟩ : R 0 0 (0 : Int32)) (by decide)) (r_w (⟨by decide, by decide⟩ : R 0 0 (0 : Int32)) (by decide)) f6
        ·
          intro h17 f7
          refine sl_m_goesBy_L193 r6 _ (r_w f3 (by decide)) ?_ FU 0 h17 (fu_up (⟨by decide, by decide⟩ : R 0 0 (0 : Int32)) (by decide)) (r_w (⟨by decide, by decide⟩ : R 0 0 (0 : Int32)) (by decide)) f7
          ·
            intro h22 f8
            refine s_ck (⟨by decide, by decide⟩ : R 0 0 (0 : Int32)) (by decide) ?_
            refine s_ck (⟨by decide, by decide⟩ : R 0 0 (0 : Int32)) (by decide) ?_
            refine s_lt (fun h23 e9 => ?_)
            have i10 : IM h23 := by rw [e9]; exact im_put f8 rfl (r_w (r_full ((h22 105 (ix 0)) + 1)) (by decide)) (by decide)
            refine s_bd (sf_m_standingSet i10) (fun r24 f11 => ?_)
            refine s_bd (sf_m_onesOf (r6 &&& (r24 ^^^ (-1))) (r_w (r_andl f3 (by decide) : R 0 4095 (r6 &&& (r24 ^^^ (-1)))) (by decide)) i10) (fun r25 f12 => ?_)
            exact s_some ⟨r_w (r_full r25) (by decide), i10⟩
theorem sl_m_quarters_L36 (p1 : Int32) (f_p1 : R 1 60 p1) : ∀ (n : Nat) (v2 : Int32) (v3 : Int32) (hv : PH), 60 - v3.toInt < (n : Int) → R (-2147483648) 2147483647 v2 → R 0 60 v3 → IM hv → Sf (mm_quarters_L36 p1 n v2 v3 hv) (fun r => R (-2147483648) 2147483647 r.1 ∧ IM r.2) := by
  intro n
  induction n with
  | zero =>
    intro v2 v3 hv hfu f_v2 f_v3 i_hv
    have := f_v3.2
    omega
  | succ n ih =>
    intro v2 v3 hv hfu f_v2 f_v3 i_hv
    rw [mm_quarters_L36]
    refine s_if (fun c1 => ?_) (fun c1 => ?_)
    ·
      have f2 : R 1 60 v3 := le_lo f_p1 f_v3 c1
      exact s_some ⟨r_w f_v2 (by decide), i_hv⟩
    ·
      have f3 : R 0 59 v3 := lt_hi f_v3 f_p1 (nle_lt c1) (by decide)
      refine s_bd (sf_m_keepsAhead i_hv) (fun h3 f4 => ?_)
      refine s_bd2 (sf_m_goesBy f4) (fun r4 h5 f5 => ?_)
      refine s_lt (fun x6 e6 => ?_)
      exact ih x6 (v3 + 1) h5 (fu_su hfu (i_inc f3 (k := 1) rfl (by decide)) (by decide)) (r_w (r_full x6) (by decide)) (r_w (r_add f3 (⟨by decide, by decide⟩ : R 1 1 (1 : Int32)) (by decide) : R 1 60 (v3 + 1)) (by decide)) f5.2
theorem sf_m_quarters (p1 : Int32) {h0 : PH} (i_h0 : IM h0) : Sf (mm_quarters p1 h0) (fun r => R (-2147483648) 2147483647 r.1 ∧ IM r.2) := by
  unfold mm_quarters
  refine s_lt (fun h1 e1 => ?_)
  have i2 : IM h1 := by rw [e1]; exact im_put i_h0 rfl (r_w (⟨by decide, by decide⟩ : R 0 0 (0 : Int32)) (by decide)) (by decide)
  refine s_isin (fun r2 f4 c3 => ?_)
  refine s_if (fun c5 => ?_) (fun c5 => ?_)
  ·
    have f6 : R 0 0 r2 := r_eq (⟨by decide, by decide⟩ : R 0 0 (0 : Int32)) c5
    exact s_some ⟨r_w (⟨by decide, by decide⟩ : R (-1) (-1) (-1 : Int32)) (by decide), i2⟩
  ·
    have f7 : R 1 1 r2 := r_ne_lo f4 (⟨by decide, by decide⟩ : R 0 0 (0 : Int32)) c5 (by decide)
    have q8 := c3 c5
    have f9 : R 1 2147483647 p1 := le_lo (⟨by decide, by decide⟩ : R 1 1 (1 : Int32)) (r_full p1) q8.1
    have f10 : R 1 60 p1 := le_hi f9 (⟨by decide, by decide⟩ : R 60 60 (60 : Int32)) q8.2
    refine s_ck (⟨by decide, by decide⟩ : R 0 0 (0 : Int32)) (by decide) ?_
    refine s_if (fun c11 => ?_) (fun c11 => ?_)
    ·
      have f12 : R (-2147483648) 9999 ((h1 105 (ix 0)) + p1) := le_hi (r_full ((h1 105 (ix 0)) + p1)) (⟨by decide, by decide⟩ : R 9999 9999 (9999 : Int32)) c11
      refine sl_m_quarters_L36 p1 (r_w f10 (by decide)) FU 0 0 h1 (fu_up (⟨by decide, by decide⟩ : R 0 0 (0 : Int32)) (by decide)) (r_w (⟨by decide, by decide⟩ : R 0 0 (0 : Int32)) (by decide)) (r_w (⟨by decide, by decide⟩ : R 0 0 (0 : Int32)) (by decide)) i2
    ·
      have f13 : R 10000 2147483647 ((h1 105 (ix 0)) + p1) := lt_lo (⟨by decide, by decide⟩ : R 9999 9999 (9999 : Int32)) (r_full ((h1 105 (ix 0)) + p1)) (nle_lt c11) (by decide)
      exact s_some ⟨r_w (⟨by decide, by decide⟩ : R (-1) (-1) (-1 : Int32)) (by decide), i2⟩
theorem sf_m_of (p1 : Int32) (p2 : Int32) {h0 : PH} (i_h0 : IM h0) : Sf (mm_of p1 p2 h0) (fun r => R (-2147483648) 2147483647 r.1 ∧ IM r.2) := by
  unfold mm_of
  refine s_lt (fun h1 e1 => ?_)
  have i2 : IM h1 := by rw [e1]; exact im_put i_h0 rfl (r_w (⟨by decide, by decide⟩ : R 0 0 (0 : Int32)) (by decide)) (by decide)
  refine s_house (i2).1 (fun r2 f4 c3 => ?_)
  refine s_if (fun c5 => ?_) (fun c5 => ?_)
  ·
    have f6 : R 0 0 r2 := r_eq (⟨by decide, by decide⟩ : R 0 0 (0 : Int32)) c5
    exact s_some ⟨r_w (⟨by decide, by decide⟩ : R (-1) (-1) (-1 : Int32)) (by decide), i2⟩
  ·
    have f7 : R 1 1 r2 := r_ne_lo f4 (⟨by decide, by decide⟩ : R 0 0 (0 : Int32)) c5 (by decide)
    have f8 : R 0 11 p1 := c3 c5
    refine s_isin (fun r3 f10 c9 => ?_)
    refine s_if (fun c11 => ?_) (fun c11 => ?_)
    ·
      have f12 : R 0 0 r3 := r_eq (⟨by decide, by decide⟩ : R 0 0 (0 : Int32)) c11
      refine s_isin (fun r4 f14 c13 => ?_)
      refine s_if (fun c15 => ?_) (fun c15 => ?_)
      ·
        have f16 : R 0 0 r4 := r_eq (⟨by decide, by decide⟩ : R 0 0 (0 : Int32)) c15
        refine s_isin (fun r5 f18 c17 => ?_)
        refine s_if (fun c19 => ?_) (fun c19 => ?_)
        ·
          have f20 : R 0 0 r5 := r_eq (⟨by decide, by decide⟩ : R 0 0 (0 : Int32)) c19
          refine s_if (fun c21 => ?_) (fun c21 => ?_)
          ·
            have f22 : R 4 4 p2 := r_eq (⟨by decide, by decide⟩ : R 4 4 (4 : Int32)) c21
            refine s_ck f8 (by decide) ?_
            exact s_some ⟨r_w (r_full (h1 108 (ix p1))) (by decide), i2⟩
          ·
            refine s_if (fun c23 => ?_) (fun c23 => ?_)
            ·
              have f24 : R 5 5 p2 := r_eq (⟨by decide, by decide⟩ : R 5 5 (5 : Int32)) c23
              refine s_ck f8 (by decide) ?_
              exact s_some ⟨r_w (r_full (h1 109 (ix p1))) (by decide), i2⟩
            ·
              refine s_if (fun c25 => ?_) (fun c25 => ?_)
              ·
                have f26 : R 6 6 p2 := r_eq (⟨by decide, by decide⟩ : R 6 6 (6 : Int32)) c25
                refine s_ck (r_add (⟨by decide, by decide⟩ : R 55 55 (55 : Int32)) f8 (by decide) : R 55 66 (55 + p1)) (by decide) ?_
                exact s_some ⟨r_w (r_full (h1 105 (ix (55 + p1)))) (by decide), i2⟩
              ·
                refine s_if (fun c27 => ?_) (fun c27 => ?_)
                ·
                  have f28 : R 7 7 p2 := r_eq (⟨by decide, by decide⟩ : R 7 7 (7 : Int32)) c27
                  refine s_ck (r_add (⟨by decide, by decide⟩ : R 79 79 (79 : Int32)) f8 (by decide) : R 79 90 (79 + p1)) (by decide) ?_
                  exact s_some ⟨r_w (r_full (h1 105 (ix (79 + p1)))) (by decide), i2⟩
                ·
                  refine s_if (fun c29 => ?_) (fun c29 => ?_)
                  ·
                    have f30 : R 8 8 p2 := r_eq (⟨by decide, by decide⟩ : R 8 8 (8 : Int32)) c29
                    refine s_ck (r_add (⟨by decide, by decide⟩ : R 67 67 (67 : Int32)) f8 (by decide) : R 67 78 (67 + p1)) (by decide) ?_
                    exact s_some ⟨r_w (r_full (h1 105 (ix (67 + p1)))) (by decide), i2⟩
                  ·
                    refine s_if (fun c31 => ?_) (fun c31 => ?_)
                    ·
                      have f32 : R 9 9 p2 := r_eq (⟨by decide, by decide⟩ : R 9 9 (9 : Int32)) c31
                      refine s_ck (r_add (⟨by decide, by decide⟩ : R 91 91 (91 : Int32)) f8 (by decide) : R 91 102 (91 + p1)) (by decide) ?_
                      exact s_some ⟨r_w (r_full (h1 105 (ix (91 + p1)))) (by decide), i2⟩
                    ·
                      refine s_if (fun c33 => ?_) (fun c33 => ?_)
                      ·
                        have f34 : R 10 10 p2 := r_eq (⟨by decide, by decide⟩ : R 10 10 (10 : Int32)) c33
                        refine s_ck (r_add (⟨by decide, by decide⟩ : R 103 103 (103 : Int32)) f8 (by decide) : R 103 114 (103 + p1)) (by decide) ?_
                        exact s_some ⟨r_w (r_full (h1 105 (ix (103 + p1)))) (by decide), i2⟩
                      ·
                        refine s_if (fun c35 => ?_) (fun c35 => ?_)
                        ·
                          have f36 : R 11 11 p2 := r_eq (⟨by decide, by decide⟩ : R 11 11 (11 : Int32)) c35
                          refine s_bd2 (sf_m_rentOf p1 (r_w f8 (by decide)) i2) (fun r6 h7 f37 => ?_)
                          exact s_some ⟨r_w f37.1 (by decide), f37.2⟩
                        ·
                          refine s_if (fun c38 => ?_) (fun c38 => ?_)
                          ·
                            have f39 : R 12 12 p2 := r_eq (⟨by decide, by decide⟩ : R 12 12 (12 : Int32)) c38
                            refine s_ck f8 (by decide) ?_
                            exact s_some ⟨r_w (r_full (h1 123 (ix p1))) (by decide), i2⟩
                          ·
                            exact s_some ⟨r_w (⟨by decide, by decide⟩ : R (-1) (-1) (-1 : Int32)) (by decide), i2⟩
        ·
          have f40 : R 1 1 r5 := r_ne_lo f18 (⟨by decide, by decide⟩ : R 0 0 (0 : Int32)) c19 (by decide)
          have q41 := c17 c19
          have f42 : R 30 2147483647 p2 := le_lo (⟨by decide, by decide⟩ : R 30 30 (30 : Int32)) (r_full p2) q41.1
          have f43 : R 30 33 p2 := le_hi f42 (⟨by decide, by decide⟩ : R 33 33 (33 : Int32)) q41.2
          refine s_bd2 (sf_m_meltsOf p1 (p2 - 30) (r_w f8 (by decide)) (r_w (r_sub f43 (⟨by decide, by decide⟩ : R 30 30 (30 : Int32)) (by decide) : R 0 3 (p2 - 30)) (by decide)) i2) (fun r8 h9 f44 => ?_)
          exact s_some ⟨r_w f44.1 (by decide), f44.2⟩
      ·
        have f45 : R 1 1 r4 := r_ne_lo f14 (⟨by decide, by decide⟩ : R 0 0 (0 : Int32)) c15 (by decide)
        have q46 := c13 c15
        have f47 : R 20 2147483647 p2 := le_lo (⟨by decide, by decide⟩ : R 20 20 (20 : Int32)) (r_full p2) q46.1
        have f48 : R 20 23 p2 := le_hi f47 (⟨by decide, by decide⟩ : R 23 23 (23 : Int32)) q46.2
        refine s_bd2 (sf_m_gnawsOf p1 (p2 - 20) (r_w f8 (by decide)) (r_w (r_sub f48 (⟨by decide, by decide⟩ : R 20 20 (20 : Int32)) (by decide) : R 0 3 (p2 - 20)) (by decide)) i2) (fun r10 h11 f49 => ?_)
        exact s_some ⟨r_w f49.1 (by decide), f49.2⟩
    ·
      have f50 : R 1 1 r3 := r_ne_lo f10 (⟨by decide, by decide⟩ : R 0 0 (0 : Int32)) c11 (by decide)
      have q51 := c9 c11
      have f52 : R 0 2147483647 p2 := le_lo (⟨by decide, by decide⟩ : R 0 0 (0 : Int32)) (r_full p2) q51.1
      have f53 : R 0 3 p2 := le_hi f52 (⟨by decide, by decide⟩ : R 3 3 (3 : Int32)) q51.2
      refine s_bd (sf_m_wallOf p1 p2 (r_w f8 (by decide)) (r_w f53 (by decide)) i2) (fun r12 f54 => ?_)
      exact s_some ⟨r_w (r_full r12) (by decide), i2⟩
theorem sl_m_goes_L34 (p1 : Int32) (p2 : Int32) (k0 : PH → Option (Int32 × PH)) (f_p1 : R 1 60 p1) (f_p2 : R 0 3 p2) (hk_k0 : ∀ (y0 : PH), IM y0 → Sf (k0 y0) (fun r => R (-2147483648) 2147483647 r.1 ∧ IM r.2)) : ∀ (n : Nat) (v3 : Int32) (hv : PH), 60 - v3.toInt < (n : Int) → R 0 60 v3 → IM hv → Sf (mm_goes_L34 p1 p2 k0 n v3 hv) (fun r => R (-2147483648) 2147483647 r.1 ∧ IM r.2) := by
  intro n
  induction n with
  | zero =>
    intro v3 hv hfu f_v3 i_hv
    have := f_v3.2
    omega
  | succ n ih =>
    intro v3 hv hfu f_v3 i_hv
    rw [mm_goes_L34]
    refine s_if (fun c1 => ?_) (fun c1 => ?_)
    ·
      have f2 : R 1 60 v3 := le_lo f_p1 f_v3 c1
      exact hk_k0 _ (i_hv)
    ·
      have f3 : R 0 59 v3 := lt_hi f_v3 f_p1 (nle_lt c1) (by decide)
      refine s_bd2 (sf_m_goesBy i_hv) (fun r5 h6 f4 => ?_)
      exact ih (v3 + 1) h6 (fu_su hfu (i_inc f3 (k := 1) rfl (by decide)) (by decide)) (r_w (r_add f3 (⟨by decide, by decide⟩ : R 1 1 (1 : Int32)) (by decide) : R 1 60 (v3 + 1)) (by decide)) f4.2
theorem sf_m_goes (p1 : Int32) (p2 : Int32) {h0 : PH} (i_h0 : IM h0) : Sf (mm_goes p1 p2 h0) (fun r => R (-2147483648) 2147483647 r.1 ∧ IM r.2) := by
  unfold mm_goes
  refine s_lt (fun h1 e1 => ?_)
  have i2 : IM h1 := by rw [e1]; exact im_put i_h0 rfl (r_w (⟨by decide, by decide⟩ : R 0 0 (0 : Int32)) (by decide)) (by decide)
  refine s_isin (fun r2 f4 c3 => ?_)
  refine s_if (fun c5 => ?_) (fun c5 => ?_)
  ·
    have f6 : R 0 0 r2 := r_eq (⟨by decide, by decide⟩ : R 0 0 (0 : Int32)) c5
    exact s_some ⟨r_w (⟨by decide, by decide⟩ : R (-1) (-1) (-1 : Int32)) (by decide), i2⟩
  ·
    have f7 : R 1 1 r2 := r_ne_lo f4 (⟨by decide, by decide⟩ : R 0 0 (0 : Int32)) c5 (by decide)
    have q8 := c3 c5
    have f9 : R 1 2147483647 p1 := le_lo (⟨by decide, by decide⟩ : R 1 1 (1 : Int32)) (r_full p1) q8.1
    have f10 : R 1 60 p1 := le_hi f9 (⟨by decide, by decide⟩ : R 60 60 (60 : Int32)) q8.2
    refine s_isin (fun r3 f12 c11 => ?_)
    refine s_if (fun c13 => ?_) (fun c13 => ?_)
    ·
      have f14 : R 0 0 r3 := r_eq (⟨by decide, by decide⟩ : R 0 0 (0 : Int32)) c13
      exact s_some ⟨r_w (⟨by decide, by decide⟩ : R (-1) (-1) (-1 : Int32)) (by decide), i2⟩
    ·
      have f15 : R 1 1 r3 := r_ne_lo f12 (⟨by decide, by decide⟩ : R 0 0 (0 : Int32)) c13 (by decide)
      have q16 := c11 c13
      have f17 : R 0 2147483647 p2 := le_lo (⟨by decide, by decide⟩ : R 0 0 (0 : Int32)) (r_full p2) q16.1
      have f18 : R 0 3 p2 := le_hi f17 (⟨by decide, by decide⟩ : R 3 3 (3 : Int32)) q16.2
      refine s_bd (sf_m_thinks i2) (fun h4 f19 => ?_)
      refine sl_m_goes_L34 p1 p2 _ (r_w f10 (by decide)) (r_w f18 (by decide)) ?_ FU 0 h4 (fu_up (⟨by decide, by decide⟩ : R 0 0 (0 : Int32)) (by decide)) (r_w (⟨by decide, by decide⟩ : R 0 0 (0 : Int32)) (by decide)) f19
      ·
        intro h7 f20
        refine s_jn1 (P := fun (x9 : Int32) => R (-2147483648) 2147483647 x9) (fun x9 f37 => ?_) (fun j8 kj8 => ?_)
        ·
          refine s_bd (sf_m_endsThought f20) (fun h10 f38 => ?_)
          exact s_some ⟨r_w (r_full x9) (by decide), f38⟩
        ·
          refine s_if (fun c39 => ?_) (fun c39 => ?_)
          ·
            have f40 : R 0 0 p2 := r_eq (⟨by decide, by decide⟩ : R 0 0 (0 : Int32)) c39
            refine s_ck (⟨by decide, by decide⟩ : R 5 5 (5 : Int32)) (by decide) ?_
            exact kj8 _ (r_w (r_full (h7 105 (ix 5))) (by decide))
          ·
            have f41 : R 1 3 p2 := r_ne_lo f18 (⟨by decide, by decide⟩ : R 0 0 (0 : Int32)) c39 (by decide)
            refine s_if (fun c42 => ?_) (fun c42 => ?_)
            ·
              have f43 : R 1 1 p2 := r_eq (⟨by decide, by decide⟩ : R 1 1 (1 : Int32)) c42
              refine s_bd (sf_m_standingSet f20) (fun r11 f44 => ?_)
              refine s_bd (sf_m_onesOf r11 (r_w f44 (by decide)) f20) (fun r12 f45 => ?_)
              exact kj8 _ (r_w (r_full r12) (by decide))
            ·
              have f46 : R 2 3 p2 := r_ne_lo f41 (⟨by decide, by decide⟩ : R 1 1 (1 : Int32)) c42 (by decide)
              refine s_jn1 (P := fun (x14 : Int32) => R 67 79 x14) (fun x14 f50 => ?_) (fun j13 kj13 => ?_)
              ·
                refine s_bd (sf_m_allOf x14 (r_w f50 (by decide)) f20) (fun r15 f51 => ?_)
                exact kj8 _ (r_w (r_full r15) (by decide))
              ·
                refine s_if (fun c52 => ?_) (fun c52 => ?_)
                ·
                  have f53 : R 2 2 p2 := r_eq (⟨by decide, by decide⟩ : R 2 2 (2 : Int32)) c52
                  exact kj13 _ (r_w (⟨by decide, by decide⟩ : R 67 67 (67 : Int32)) (by decide))
                ·
                  have f54 : R 3 3 p2 := r_ne_lo f46 (⟨by decide, by decide⟩ : R 2 2 (2 : Int32)) c52 (by decide)
                  exact kj13 _ (r_w (⟨by decide, by decide⟩ : R 79 79 (79 : Int32)) (by decide))
theorem sl_m_stands_L22 (p1 : Int32) (k0 : Int32 → PH → Option (Int32 × PH)) (f_p1 : R 0 11 p1) (hk_k0 : ∀ (y0 : Int32) (y1 : PH), R 0 201 y0 → IM y1 → Sf (k0 y0 y1) (fun r => R (-2) 200 r.1 ∧ IM r.2)) : ∀ (n : Nat) (v2 : Int32) (hv : PH), 201 - v2.toInt < (n : Int) → R 0 201 v2 → IM hv → Sf (mm_stands_L22 p1 k0 n v2 hv) (fun r => R (-2) 200 r.1 ∧ IM r.2) := by
  intro n
  induction n with
  | zero =>
    intro v2 hv hfu f_v2 i_hv
    have := f_v2.2
    omega
  | succ n ih =>
    intro v2 hv hfu f_v2 i_hv
    rw [mm_stands_L22]
    refine s_bd (sf_m_doesStand p1 (r_w f_p1 (by decide)) i_hv) (fun r4 f1 => ?_)
    refine s_if (fun c2 => ?_) (fun c2 => ?_)
    ·
      have f3 : R 0 0 r4 := r_eq (⟨by decide, by decide⟩ : R 0 0 (0 : Int32)) c2
      exact hk_k0 _ _ (r_w f_v2 (by decide)) (i_hv)
    ·
      have f4 : R 1 1 r4 := r_ne_lo f1 (⟨by decide, by decide⟩ : R 0 0 (0 : Int32)) c2 (by decide)
      refine s_if (fun c5 => ?_) (fun c5 => ?_)
      ·
        have f6 : R 201 201 v2 := lt_lo (⟨by decide, by decide⟩ : R 200 200 (200 : Int32)) f_v2 c5 (by decide)
        exact hk_k0 _ _ (r_w f6 (by decide)) (i_hv)
      ·
        have f7 : R 0 200 v2 := le_hi f_v2 (⟨by decide, by decide⟩ : R 200 200 (200 : Int32)) (nlt_le c5)
        refine s_bd2 (sf_m_goesBy i_hv) (fun r5 h6 f8 => ?_)
        refine s_lt (fun x7 e9 => ?_)
        have f10 : R 1 201 x7 := by rw [e9]; exact (r_add f7 (⟨by decide, by decide⟩ : R 1 1 (1 : Int32)) (by decide) : R 1 201 (v2 + 1))
        exact ih x7 h6 (fu_su hfu (by rw [e9]; exact (i_inc f7 (k := 1) rfl (by decide))) (by decide)) (r_w f10 (by decide)) f8.2
theorem sf_m_stands (p1 : Int32) {h0 : PH} (i_h0 : IM h0) : Sf (mm_stands p1 h0) (fun r => R (-2) 200 r.1 ∧ IM r.2) := by
  unfold mm_stands
  refine s_lt (fun h1 e1 => ?_)
  have i2 : IM h1 := by rw [e1]; exact im_put i_h0 rfl (r_w (⟨by decide, by decide⟩ : R 0 0 (0 : Int32)) (by decide)) (by decide)
  refine s_house (i2).1 (fun r2 f4 c3 => ?_)
  refine s_if (fun c5 => ?_) (fun c5 => ?_)
  ·
    have f6 : R 0 0 r2 := r_eq (⟨by decide, by decide⟩ : R 0 0 (0 : Int32)) c5
    exact s_some ⟨r_w (⟨by decide, by decide⟩ : R (-2) (-2) (-2 : Int32)) (by decide), i2⟩
  ·
    have f7 : R 1 1 r2 := r_ne_lo f4 (⟨by decide, by decide⟩ : R 0 0 (0 : Int32)) c5 (by decide)
    have f8 : R 0 11 p1 := c3 c5
    refine s_bd (sf_m_thinks i2) (fun h3 f9 => ?_)
    refine sl_m_stands_L22 p1 _ (r_w f8 (by decide)) ?_ FU 0 h3 (fu_up (⟨by decide, by decide⟩ : R 0 0 (0 : Int32)) (by decide)) (r_w (⟨by decide, by decide⟩ : R 0 0 (0 : Int32)) (by decide)) f9
    ·
      intro x8 h9 f10 f11
      refine s_bd (sf_m_endsThought f11) (fun h10 f12 => ?_)
      refine s_if (fun c13 => ?_) (fun c13 => ?_)
      ·
        have f14 : R 0 200 x8 := le_hi f10 (⟨by decide, by decide⟩ : R 200 200 (200 : Int32)) c13
        exact s_some ⟨r_w f14 (by decide), f12⟩
      ·
        have f15 : R 201 201 x8 := lt_lo (⟨by decide, by decide⟩ : R 200 200 (200 : Int32)) f10 (nle_lt c13) (by decide)
        exact s_some ⟨r_w (⟨by decide, by decide⟩ : R (-1) (-1) (-1 : Int32)) (by decide), f12⟩
theorem sf_m_set (p1 : Int32) (p2 : Int32) (p3 : Int32) {h0 : PH} (i_h0 : IM h0) : Sf (mm_set p1 p2 p3 h0) (fun r => R 0 1 r.1 ∧ IM r.2) := by
  unfold mm_set
  refine s_lt (fun h1 e1 => ?_)
  have i2 : IM h1 := by rw [e1]; exact im_put i_h0 rfl (r_w (⟨by decide, by decide⟩ : R 0 0 (0 : Int32)) (by decide)) (by decide)
  refine s_canset i2 (fun r2 f4 c3 => ?_)
  refine s_if (fun c5 => ?_) (fun c5 => ?_)
  ·
    have f6 : R 0 0 r2 := r_eq (⟨by decide, by decide⟩ : R 0 0 (0 : Int32)) c5
    exact s_some ⟨r_w (⟨by decide, by decide⟩ : R 0 0 (0 : Int32)) (by decide), i2⟩
  ·
    rcases c3 c5 with qa | ⟨qa, qb⟩
    ·
      refine s_jn1 (P := fun (h4 : PH) => IM h4) (fun h4 f9 => ?_) (fun j3 kj3 => ?_)
      ·
        refine s_jn1 (P := fun (h6 : PH) => IM h6) (fun h6 f12 => ?_) (fun j5 kj5 => ?_)
        ·
          refine s_jn1 (P := fun (h8 : PH) => IM h8) (fun h8 f15 => ?_) (fun j7 kj7 => ?_)
          ·
            refine s_jn1 (P := fun (h10 : PH) => IM h10) (fun h10 f18 => ?_) (fun j9 kj9 => ?_)
            ·
              refine s_jn1 (P := fun (h12 : PH) => IM h12) (fun h12 f21 => ?_) (fun j11 kj11 => ?_)
              ·
                refine s_jn1 (P := fun (h14 : PH) => IM h14) (fun h14 f26 => ?_) (fun j13 kj13 => ?_)
                ·
                  refine s_lt (fun h15 e27 => ?_)
                  have i28 : IM h15 := by rw [e27]; exact im_put f26 rfl (r_w (⟨by decide, by decide⟩ : R 0 0 (0 : Int32)) (by decide)) (by decide)
                  exact s_some ⟨r_w (⟨by decide, by decide⟩ : R 1 1 (1 : Int32)) (by decide), i28⟩
                ·
                  refine s_if (fun c29 => ?_) (fun c29 => ?_)
                  ·
                    refine s_ck (⟨by decide, by decide⟩ : R 3 3 (3 : Int32)) (by decide) ?_
                    refine s_lt (fun h16 e30 => ?_)
                    have i31 : IM h16 := by rw [e30]; exact im_put f21 rfl (r_w (r_full p3) (by decide)) (by decide)
                    exact kj13 _ (i31)
                  ·
                    have f32 : R 9 8 p1 := r_ne_lo qa (⟨by decide, by decide⟩ : R 8 8 (8 : Int32)) c29 (by decide)
                    exact r_no f32 (by decide)
              ·
                refine s_if (fun c33 => ?_) (fun c33 => ?_)
                ·
                  have f34 : R 8 7 p1 := r_mix (r_eq (⟨by decide, by decide⟩ : R 7 7 (7 : Int32)) c33) qa
                  exact r_no f34 (by decide)
                ·
                  exact kj11 _ (f18)
            ·
              refine s_if (fun c35 => ?_) (fun c35 => ?_)
              ·
                have f36 : R 8 6 p1 := r_mix (r_eq (⟨by decide, by decide⟩ : R 6 6 (6 : Int32)) c35) qa
                exact r_no f36 (by decide)
              ·
                exact kj9 _ (f15)
          ·
            refine s_if (fun c37 => ?_) (fun c37 => ?_)
            ·
              have f38 : R 8 5 p1 := r_mix (r_eq (⟨by decide, by decide⟩ : R 5 5 (5 : Int32)) c37) qa
              exact r_no f38 (by decide)
            ·
              exact kj7 _ (f12)
        ·
          refine s_if (fun c39 => ?_) (fun c39 => ?_)
          ·
            have f40 : R 8 4 p1 := r_mix (r_eq (⟨by decide, by decide⟩ : R 4 4 (4 : Int32)) c39) qa
            exact r_no f40 (by decide)
          ·
            exact kj5 _ (f9)
      ·
        refine s_if (fun c41 => ?_) (fun c41 => ?_)
        ·
          exact kj3 _ (i2)
        ·
          have f42 : R 8 3 p1 := lt_hi qa (⟨by decide, by decide⟩ : R 4 4 (4 : Int32)) (nle_lt c41) (by decide)
          exact r_no f42 (by decide)
    ·
      refine s_jn1 (P := fun (h4 : PH) => IM h4) (fun h4 f47 => ?_) (fun j3 kj3 => ?_)
      ·
        refine s_jn1 (P := fun (h6 : PH) => IM h6) (fun h6 f52 => ?_) (fun j5 kj5 => ?_)
        ·
          refine s_jn1 (P := fun (h8 : PH) => IM h8) (fun h8 f57 => ?_) (fun j7 kj7 => ?_)
          ·
            refine s_jn1 (P := fun (h10 : PH) => IM h10) (fun h10 f62 => ?_) (fun j9 kj9 => ?_)
            ·
              refine s_jn1 (P := fun (h12 : PH) => IM h12) (fun h12 f68 => ?_) (fun j11 kj11 => ?_)
              ·
                refine s_jn1 (P := fun (h14 : PH) => IM h14) (fun h14 f71 => ?_) (fun j13 kj13 => ?_)
                ·
                  refine s_lt (fun h15 e72 => ?_)
                  have i73 : IM h15 := by rw [e72]; exact im_put f71 rfl (r_w (⟨by decide, by decide⟩ : R 0 0 (0 : Int32)) (by decide)) (by decide)
                  exact s_some ⟨r_w (⟨by decide, by decide⟩ : R 1 1 (1 : Int32)) (by decide), i73⟩
                ·
                  refine s_if (fun c74 => ?_) (fun c74 => ?_)
                  ·
                    have f75 : R 8 7 p1 := r_mix qa (r_eq (⟨by decide, by decide⟩ : R 8 8 (8 : Int32)) c74)
                    exact r_no f75 (by decide)
                  ·
                    exact kj13 _ (f68)
              ·
                refine s_if (fun c76 => ?_) (fun c76 => ?_)
                ·
                  have f77 : R 7 7 p1 := r_eq (⟨by decide, by decide⟩ : R 7 7 (7 : Int32)) c76
                  refine s_ck (r_add (⟨by decide, by decide⟩ : R 79 79 (79 : Int32)) qb (by decide) : R 79 90 (79 + p2)) (by decide) ?_
                  refine s_lt (fun h17 e78 => ?_)
                  have i79 : IM h17 := by rw [e78]; exact im_put f62 (sp_ne105 (r_add (⟨by decide, by decide⟩ : R 79 79 (79 : Int32)) qb (by decide) : R 79 90 (79 + p2)) (by decide)) (r_w (r_full p3) (by decide)) (by decide)
                  exact kj11 _ (i79)
                ·
                  have f80 : R 0 6 p1 := r_ne_hi qa (⟨by decide, by decide⟩ : R 7 7 (7 : Int32)) c76 (by decide)
                  exact kj11 _ (f62)
            ·
              refine s_if (fun c81 => ?_) (fun c81 => ?_)
              ·
                have f82 : R 6 6 p1 := r_eq (⟨by decide, by decide⟩ : R 6 6 (6 : Int32)) c81
                refine s_ck (r_add (⟨by decide, by decide⟩ : R 55 55 (55 : Int32)) qb (by decide) : R 55 66 (55 + p2)) (by decide) ?_
                refine s_lt (fun h18 e83 => ?_)
                have i84 : IM h18 := by rw [e83]; exact im_put f57 (sp_ne105 (r_add (⟨by decide, by decide⟩ : R 55 55 (55 : Int32)) qb (by decide) : R 55 66 (55 + p2)) (by decide)) (r_w (r_full p3) (by decide)) (by decide)
                exact kj9 _ (i84)
              ·
                exact kj9 _ (f57)
          ·
            refine s_if (fun c85 => ?_) (fun c85 => ?_)
            ·
              have f86 : R 5 5 p1 := r_eq (⟨by decide, by decide⟩ : R 5 5 (5 : Int32)) c85
              refine s_ck qb (by decide) ?_
              refine s_lt (fun h19 e87 => ?_)
              have i88 : IM h19 := by rw [e87]; exact im_put f52 rfl (r_w (r_full p3) (by decide)) (by decide)
              exact kj7 _ (i88)
            ·
              exact kj7 _ (f52)
        ·
          refine s_if (fun c89 => ?_) (fun c89 => ?_)
          ·
            have f90 : R 4 4 p1 := r_eq (⟨by decide, by decide⟩ : R 4 4 (4 : Int32)) c89
            refine s_ck qb (by decide) ?_
            refine s_lt (fun h20 e91 => ?_)
            have i92 : IM h20 := by rw [e91]; exact im_put f47 rfl (r_w (r_full p3) (by decide)) (by decide)
            exact kj5 _ (i92)
          ·
            exact kj5 _ (f47)
      ·
        refine s_if (fun c93 => ?_) (fun c93 => ?_)
        ·
          have f94 : R 4 7 p1 := le_lo (⟨by decide, by decide⟩ : R 4 4 (4 : Int32)) qa c93
          exact kj3 _ (i2)
        ·
          have f95 : R 0 3 p1 := lt_hi qa (⟨by decide, by decide⟩ : R 4 4 (4 : Int32)) (nle_lt c93) (by decide)
          refine s_bd (sf_m_hasWall p2 p1 p3 (r_w qb (by decide)) (r_w f95 (by decide)) i2) (fun h21 f96 => ?_)
          exact kj3 _ (f96)
theorem sf_m_act (p1 : Int32) (p2 : Int32) (p3 : Int32) {h0 : PH} (i_h0 : IM h0) : Sf (mm_act p1 p2 p3 h0) (fun r => R 0 1 r.1 ∧ IM r.2) := by
  unfold mm_act
  refine s_lt (fun h1 e1 => ?_)
  have i2 : IM h1 := by rw [e1]; exact im_put i_h0 rfl (r_w (⟨by decide, by decide⟩ : R 0 0 (0 : Int32)) (by decide)) (by decide)
  refine s_canact i2 (fun r2 f4 c3 => ?_)
  refine s_if (fun c5 => ?_) (fun c5 => ?_)
  ·
    have f6 : R 0 0 r2 := r_eq (⟨by decide, by decide⟩ : R 0 0 (0 : Int32)) c5
    exact s_some ⟨r_w (⟨by decide, by decide⟩ : R 0 0 (0 : Int32)) (by decide), i2⟩
  ·
    rcases c3 c5 with ⟨qz, qa | qa | qa | ⟨qa, qb⟩ | qa⟩
    ·
      refine s_bd (sf_m_keepsAhead i2) (fun h3 f7 => ?_)
      refine s_jn1 (P := fun (h5 : PH) => IM h5) (fun h5 f16 => ?_) (fun j4 kj4 => ?_)
      ·
        refine s_isin (fun r6 f18 c17 => ?_)
        refine s_jn1 (P := fun (h8 : PH) => IM h8) (fun h8 f24 => ?_) (fun j7 kj7 => ?_)
        ·
          refine s_jn1 (P := fun (h10 : PH) => IM h10) (fun h10 f27 => ?_) (fun j9 kj9 => ?_)
          ·
            refine s_jn1 (P := fun (h12 : PH) => IM h12) (fun h12 f30 => ?_) (fun j11 kj11 => ?_)
            ·
              refine s_if (fun c31 => ?_) (fun c31 => ?_)
              ·
                have f32 : R 22 3 p1 := r_mix qa (r_eq (⟨by decide, by decide⟩ : R 22 22 (22 : Int32)) c31)
                exact r_no f32 (by decide)
              ·
                exact s_some ⟨r_w (⟨by decide, by decide⟩ : R 1 1 (1 : Int32)) (by decide), f30⟩
            ·
              refine s_if (fun c33 => ?_) (fun c33 => ?_)
              ·
                have f34 : R 21 3 p1 := r_mix qa (r_eq (⟨by decide, by decide⟩ : R 21 21 (21 : Int32)) c33)
                exact r_no f34 (by decide)
              ·
                exact kj11 _ (f27)
          ·
            refine s_if (fun c35 => ?_) (fun c35 => ?_)
            ·
              have f36 : R 20 3 p1 := r_mix qa (r_eq (⟨by decide, by decide⟩ : R 20 20 (20 : Int32)) c35)
              exact r_no f36 (by decide)
            ·
              exact kj9 _ (f24)
        ·
          refine s_if (fun c37 => ?_) (fun c37 => ?_)
          ·
            have f38 : R 0 0 r6 := r_eq (⟨by decide, by decide⟩ : R 0 0 (0 : Int32)) c37
            exact kj7 _ (f16)
          ·
            have f39 : R 1 1 r6 := r_ne_lo f18 (⟨by decide, by decide⟩ : R 0 0 (0 : Int32)) c37 (by decide)
            have q40 := c17 c37
            have f41 : R 10 3 10 := le_hi (⟨by decide, by decide⟩ : R 10 10 (10 : Int32)) qa q40.1
            exact r_no f41 (by decide)
      ·
        refine s_if (fun c42 => ?_) (fun c42 => ?_)
        ·
          have f43 : R 4 3 4 := le_hi (⟨by decide, by decide⟩ : R 4 4 (4 : Int32)) qa c42
          exact r_no f43 (by decide)
        ·
          refine s_bd (sf_m_wallOf p2 p1 (r_w qz (by decide)) (r_w qa (by decide)) f7) (fun r18 f44 => ?_)
          refine s_bd (sf_m_hasWall p2 p1 (r18 - p3) (r_w qz (by decide)) (r_w qa (by decide)) f7) (fun h19 f45 => ?_)
          refine s_ck (⟨by decide, by decide⟩ : R 5 5 (5 : Int32)) (by decide) ?_
          refine s_ck (⟨by decide, by decide⟩ : R 5 5 (5 : Int32)) (by decide) ?_
          refine s_lt (fun h20 e46 => ?_)
          have i47 : IM h20 := by rw [e46]; exact im_put f45 rfl (r_w (r_full ((h19 105 (ix 5)) + p3)) (by decide)) (by decide)
          refine s_bd (sf_m_notes 0 p2 p3 i47) (fun h21 f48 => ?_)
          refine s_bd (sf_m_areOut p2 (r_w qz (by decide)) f48) (fun h22 f49 => ?_)
          exact kj4 _ (f49)
    ·
      refine s_bd (sf_m_keepsAhead i2) (fun h3 f50 => ?_)
      refine s_jn1 (P := fun (h5 : PH) => IM h5) (fun h5 f53 => ?_) (fun j4 kj4 => ?_)
      ·
        refine s_isin (fun r6 f55 c54 => ?_)
        refine s_jn1 (P := fun (h8 : PH) => IM h8) (fun h8 f62 => ?_) (fun j7 kj7 => ?_)
        ·
          refine s_jn1 (P := fun (h10 : PH) => IM h10) (fun h10 f65 => ?_) (fun j9 kj9 => ?_)
          ·
            refine s_jn1 (P := fun (h12 : PH) => IM h12) (fun h12 f68 => ?_) (fun j11 kj11 => ?_)
            ·
              refine s_if (fun c69 => ?_) (fun c69 => ?_)
              ·
                have f70 : R 22 13 p1 := r_mix qa (r_eq (⟨by decide, by decide⟩ : R 22 22 (22 : Int32)) c69)
                exact r_no f70 (by decide)
              ·
                exact s_some ⟨r_w (⟨by decide, by decide⟩ : R 1 1 (1 : Int32)) (by decide), f68⟩
            ·
              refine s_if (fun c71 => ?_) (fun c71 => ?_)
              ·
                have f72 : R 21 13 p1 := r_mix qa (r_eq (⟨by decide, by decide⟩ : R 21 21 (21 : Int32)) c71)
                exact r_no f72 (by decide)
              ·
                exact kj11 _ (f65)
          ·
            refine s_if (fun c73 => ?_) (fun c73 => ?_)
            ·
              have f74 : R 20 13 p1 := r_mix qa (r_eq (⟨by decide, by decide⟩ : R 20 20 (20 : Int32)) c73)
              exact r_no f74 (by decide)
            ·
              exact kj9 _ (f62)
        ·
          refine s_if (fun c75 => ?_) (fun c75 => ?_)
          ·
            have f76 : R 0 0 r6 := r_eq (⟨by decide, by decide⟩ : R 0 0 (0 : Int32)) c75
            exact kj7 _ (f53)
          ·
            have f77 : R 1 1 r6 := r_ne_lo f55 (⟨by decide, by decide⟩ : R 0 0 (0 : Int32)) c75 (by decide)
            have q78 := c54 c75
            refine s_bd (sf_m_wallOf p2 (p1 - 10) (r_w qz (by decide)) (r_w (r_sub qa (⟨by decide, by decide⟩ : R 10 10 (10 : Int32)) (by decide) : R 0 3 (p1 - 10)) (by decide)) f53) (fun r16 f79 => ?_)
            refine s_bd (sf_m_hasWall p2 (p1 - 10) (r16 + p3) (r_w qz (by decide)) (r_w (r_sub qa (⟨by decide, by decide⟩ : R 10 10 (10 : Int32)) (by decide) : R 0 3 (p1 - 10)) (by decide)) f53) (fun h17 f80 => ?_)
            exact kj7 _ (f80)
      ·
        refine s_if (fun c81 => ?_) (fun c81 => ?_)
        ·
          exact kj4 _ (f50)
        ·
          have f82 : R 10 3 p1 := lt_hi qa (⟨by decide, by decide⟩ : R 4 4 (4 : Int32)) (nle_lt c81) (by decide)
          exact r_no f82 (by decide)
    ·
      refine s_bd (sf_m_keepsAhead i2) (fun h3 f83 => ?_)
      refine s_jn1 (P := fun (h5 : PH) => IM h5) (fun h5 f86 => ?_) (fun j4 kj4 => ?_)
      ·
        refine s_isin (fun r6 f88 c87 => ?_)
        refine s_jn1 (P := fun (h8 : PH) => IM h8) (fun h8 f94 => ?_) (fun j7 kj7 => ?_)
        ·
          refine s_jn1 (P := fun (h10 : PH) => IM h10) (fun h10 f98 => ?_) (fun j9 kj9 => ?_)
          ·
            refine s_jn1 (P := fun (h12 : PH) => IM h12) (fun h12 f101 => ?_) (fun j11 kj11 => ?_)
            ·
              refine s_if (fun c102 => ?_) (fun c102 => ?_)
              ·
                have f103 : R 22 20 p1 := r_mix qa (r_eq (⟨by decide, by decide⟩ : R 22 22 (22 : Int32)) c102)
                exact r_no f103 (by decide)
              ·
                exact s_some ⟨r_w (⟨by decide, by decide⟩ : R 1 1 (1 : Int32)) (by decide), f101⟩
            ·
              refine s_if (fun c104 => ?_) (fun c104 => ?_)
              ·
                have f105 : R 21 20 p1 := r_mix qa (r_eq (⟨by decide, by decide⟩ : R 21 21 (21 : Int32)) c104)
                exact r_no f105 (by decide)
              ·
                exact kj11 _ (f98)
          ·
            refine s_if (fun c106 => ?_) (fun c106 => ?_)
            ·
              refine s_bd (sf_m_isWed p2 (r_w qz (by decide)) f94) (fun h15 f107 => ?_)
              exact kj9 _ (f107)
            ·
              have f108 : R 21 20 p1 := r_ne_lo qa (⟨by decide, by decide⟩ : R 20 20 (20 : Int32)) c106 (by decide)
              exact r_no f108 (by decide)
        ·
          refine s_if (fun c109 => ?_) (fun c109 => ?_)
          ·
            have f110 : R 0 0 r6 := r_eq (⟨by decide, by decide⟩ : R 0 0 (0 : Int32)) c109
            exact kj7 _ (f86)
          ·
            have f111 : R 1 1 r6 := r_ne_lo f88 (⟨by decide, by decide⟩ : R 0 0 (0 : Int32)) c109 (by decide)
            have q112 := c87 c109
            have f113 : R 20 13 p1 := le_hi qa (⟨by decide, by decide⟩ : R 13 13 (13 : Int32)) q112.2
            exact r_no f113 (by decide)
      ·
        refine s_if (fun c114 => ?_) (fun c114 => ?_)
        ·
          exact kj4 _ (f83)
        ·
          have f115 : R 20 3 p1 := lt_hi qa (⟨by decide, by decide⟩ : R 4 4 (4 : Int32)) (nle_lt c114) (by decide)
          exact r_no f115 (by decide)
    ·
      refine s_bd (sf_m_keepsAhead i2) (fun h3 f116 => ?_)
      refine s_jn1 (P := fun (h5 : PH) => IM h5) (fun h5 f119 => ?_) (fun j4 kj4 => ?_)
      ·
        refine s_isin (fun r6 f121 c120 => ?_)
        refine s_jn1 (P := fun (h8 : PH) => IM h8) (fun h8 f127 => ?_) (fun j7 kj7 => ?_)
        ·
          refine s_jn1 (P := fun (h10 : PH) => IM h10) (fun h10 f130 => ?_) (fun j9 kj9 => ?_)
          ·
            refine s_jn1 (P := fun (h12 : PH) => IM h12) (fun h12 f134 => ?_) (fun j11 kj11 => ?_)
            ·
              refine s_if (fun c135 => ?_) (fun c135 => ?_)
              ·
                have f136 : R 22 21 p1 := r_mix qa (r_eq (⟨by decide, by decide⟩ : R 22 22 (22 : Int32)) c135)
                exact r_no f136 (by decide)
              ·
                exact s_some ⟨r_w (⟨by decide, by decide⟩ : R 1 1 (1 : Int32)) (by decide), f134⟩
            ·
              refine s_if (fun c137 => ?_) (fun c137 => ?_)
              ·
                refine s_bd (sf_m_lodgersGo p2 p3 (r_w qz (by decide)) (r_w qb (by decide)) f130) (fun h14 f138 => ?_)
                exact kj11 _ (f138)
              ·
                have f139 : R 22 21 p1 := r_ne_lo qa (⟨by decide, by decide⟩ : R 21 21 (21 : Int32)) c137 (by decide)
                exact r_no f139 (by decide)
          ·
            refine s_if (fun c140 => ?_) (fun c140 => ?_)
            ·
              have f141 : R 21 20 p1 := r_mix (r_eq (⟨by decide, by decide⟩ : R 20 20 (20 : Int32)) c140) qa
              exact r_no f141 (by decide)
            ·
              exact kj9 _ (f127)
        ·
          refine s_if (fun c142 => ?_) (fun c142 => ?_)
          ·
            have f143 : R 0 0 r6 := r_eq (⟨by decide, by decide⟩ : R 0 0 (0 : Int32)) c142
            exact kj7 _ (f119)
          ·
            have f144 : R 1 1 r6 := r_ne_lo f121 (⟨by decide, by decide⟩ : R 0 0 (0 : Int32)) c142 (by decide)
            have q145 := c120 c142
            have f146 : R 21 13 p1 := le_hi qa (⟨by decide, by decide⟩ : R 13 13 (13 : Int32)) q145.2
            exact r_no f146 (by decide)
      ·
        refine s_if (fun c147 => ?_) (fun c147 => ?_)
        ·
          exact kj4 _ (f116)
        ·
          have f148 : R 21 3 p1 := lt_hi qa (⟨by decide, by decide⟩ : R 4 4 (4 : Int32)) (nle_lt c147) (by decide)
          exact r_no f148 (by decide)
    ·
      refine s_bd (sf_m_keepsAhead i2) (fun h3 f149 => ?_)
      refine s_jn1 (P := fun (h5 : PH) => IM h5) (fun h5 f152 => ?_) (fun j4 kj4 => ?_)
      ·
        refine s_isin (fun r6 f154 c153 => ?_)
        refine s_jn1 (P := fun (h8 : PH) => IM h8) (fun h8 f160 => ?_) (fun j7 kj7 => ?_)
        ·
          refine s_jn1 (P := fun (h10 : PH) => IM h10) (fun h10 f163 => ?_) (fun j9 kj9 => ?_)
          ·
            refine s_jn1 (P := fun (h12 : PH) => IM h12) (fun h12 f166 => ?_) (fun j11 kj11 => ?_)
            ·
              refine s_if (fun c167 => ?_) (fun c167 => ?_)
              ·
                refine s_bd (sf_m_isRazed p2 (r_w qz (by decide)) f166) (fun h13 f168 => ?_)
                exact s_some ⟨r_w (⟨by decide, by decide⟩ : R 1 1 (1 : Int32)) (by decide), f168⟩
              ·
                have f169 : R 23 22 p1 := r_ne_lo qa (⟨by decide, by decide⟩ : R 22 22 (22 : Int32)) c167 (by decide)
                exact r_no f169 (by decide)
            ·
              refine s_if (fun c170 => ?_) (fun c170 => ?_)
              ·
                have f171 : R 22 21 p1 := r_mix (r_eq (⟨by decide, by decide⟩ : R 21 21 (21 : Int32)) c170) qa
                exact r_no f171 (by decide)
              ·
                exact kj11 _ (f163)
          ·
            refine s_if (fun c172 => ?_) (fun c172 => ?_)
            ·
              have f173 : R 22 20 p1 := r_mix (r_eq (⟨by decide, by decide⟩ : R 20 20 (20 : Int32)) c172) qa
              exact r_no f173 (by decide)
            ·
              exact kj9 _ (f160)
        ·
          refine s_if (fun c174 => ?_) (fun c174 => ?_)
          ·
            have f175 : R 0 0 r6 := r_eq (⟨by decide, by decide⟩ : R 0 0 (0 : Int32)) c174
            exact kj7 _ (f152)
          ·
            have f176 : R 1 1 r6 := r_ne_lo f154 (⟨by decide, by decide⟩ : R 0 0 (0 : Int32)) c174 (by decide)
            have q177 := c153 c174
            have f178 : R 22 13 p1 := le_hi qa (⟨by decide, by decide⟩ : R 13 13 (13 : Int32)) q177.2
            exact r_no f178 (by decide)
      ·
        refine s_if (fun c179 => ?_) (fun c179 => ?_)
        ·
          exact kj4 _ (f149)
        ·
          have f180 : R 22 3 p1 := lt_hi qa (⟨by decide, by decide⟩ : R 4 4 (4 : Int32)) (nle_lt c179) (by decide)
          exact r_no f180 (by decide)
theorem sl_m_alone_L27 (p1 : Int32) (p2 : Int32) (h0 : PH) (k0 : Int32 → Option (Int32 × PH)) (f_p1 : R 0 1 p1) (f_p2 : R 0 4095 p2) (i_h0 : IM h0) (hk_k0 : ∀ (y0 : Int32), R 0 4095 y0 → Sf (k0 y0) (fun r => R (-2147483648) 2147483647 r.1 ∧ IM r.2)) : ∀ (n : Nat) (v3 : Int32) (v4 : Int32), 4096 - v4.toInt < (n : Int) → R 0 4095 v3 → R 1 4096 v4 → Sf (mm_alone_L27 p1 p2 h0 k0 n v3 v4) (fun r => R (-2147483648) 2147483647 r.1 ∧ IM r.2) := by
  intro n
  induction n with
  | zero =>
    intro v3 v4 hfu f_v3 f_v4
    have := f_v4.2
    omega
  | succ n ih =>
    intro v3 v4 hfu f_v3 f_v4
    rw [mm_alone_L27]
    refine s_if (fun c1 => ?_) (fun c1 => ?_)
    ·
      exact hk_k0 _ (r_w f_v3 (by decide))
    ·
      have f2 : R 1 4095 v4 := le_hi f_v4 f_p2 (nlt_le c1)
      have f3 : R 1 4095 p2 := le_lo f_v4 f_p2 (nlt_le c1)
      refine s_if (fun c4 => ?_) (fun c4 => ?_)
      ·
        have f5 : R 0 0 (v4 &&& (p2 ^^^ (-1))) := r_eq (⟨by decide, by decide⟩ : R 0 0 (0 : Int32)) c4
        refine s_bd (sf_m_onesOf v4 (r_w f2 (by decide)) i_h0) (fun r4 f6 => ?_)
        refine s_bd (sf_m_onesOf v3 (r_w f_v3 (by decide)) i_h0) (fun r5 f7 => ?_)
        refine s_if (fun c8 => ?_) (fun c8 => ?_)
        ·
          exact ih v3 (v4 + 1) (fu_su hfu (i_inc f2 (k := 1) rfl (by decide)) (by decide)) (r_w f_v3 (by decide)) (r_w (r_add f2 (⟨by decide, by decide⟩ : R 1 1 (1 : Int32)) (by decide) : R 2 4096 (v4 + 1)) (by decide))
        ·
          have f9 : R (-2147483648) 2147483646 r5 := lt_hi (r_full r5) (r_full r4) (nle_lt c8) (by decide)
          have f10 : R (-2147483647) 2147483647 r4 := lt_lo (r_full r5) (r_full r4) (nle_lt c8) (by decide)
          refine s_bd (sf_m_areAlone v4 i_h0) (fun r6 f11 => ?_)
          refine s_if (fun c12 => ?_) (fun c12 => ?_)
          ·
            have f13 : R 0 0 r6 := r_eq (⟨by decide, by decide⟩ : R 0 0 (0 : Int32)) c12
            exact ih v3 (v4 + 1) (fu_su hfu (i_inc f2 (k := 1) rfl (by decide)) (by decide)) (r_w f_v3 (by decide)) (r_w (r_add f2 (⟨by decide, by decide⟩ : R 1 1 (1 : Int32)) (by decide) : R 2 4096 (v4 + 1)) (by decide))
          ·
            have f14 : R 1 1 r6 := r_ne_lo f11 (⟨by decide, by decide⟩ : R 0 0 (0 : Int32)) c12 (by decide)
            exact ih v4 (v4 + 1) (fu_su hfu (i_inc f2 (k := 1) rfl (by decide)) (by decide)) (r_w f2 (by decide)) (r_w (r_add f2 (⟨by decide, by decide⟩ : R 1 1 (1 : Int32)) (by decide) : R 2 4096 (v4 + 1)) (by decide))
      ·
        have f15 : R 1 4095 (v4 &&& (p2 ^^^ (-1))) := r_ne_lo (r_andl f2 (by decide) : R 0 4095 (v4 &&& (p2 ^^^ (-1)))) (⟨by decide, by decide⟩ : R 0 0 (0 : Int32)) c4 (by decide)
        exact ih v3 (v4 + 1) (fu_su hfu (i_inc f2 (k := 1) rfl (by decide)) (by decide)) (r_w f_v3 (by decide)) (r_w (r_add f2 (⟨by decide, by decide⟩ : R 1 1 (1 : Int32)) (by decide) : R 2 4096 (v4 + 1)) (by decide))
theorem sf_m_alone (p1 : Int32) {h0 : PH} (i_h0 : IM h0) : Sf (mm_alone p1 h0) (fun r => R (-2147483648) 2147483647 r.1 ∧ IM r.2) := by
  unfold mm_alone
  refine s_lt (fun h1 e1 => ?_)
  have i2 : IM h1 := by rw [e1]; exact im_put i_h0 rfl (r_w (⟨by decide, by decide⟩ : R 0 0 (0 : Int32)) (by decide)) (by decide)
  refine s_isin (fun r2 f4 c3 => ?_)
  refine s_if (fun c5 => ?_) (fun c5 => ?_)
  ·
    have f6 : R 0 0 r2 := r_eq (⟨by decide, by decide⟩ : R 0 0 (0 : Int32)) c5
    exact s_some ⟨r_w (⟨by decide, by decide⟩ : R (-1) (-1) (-1 : Int32)) (by decide), i2⟩
  ·
    have f7 : R 1 1 r2 := r_ne_lo f4 (⟨by decide, by decide⟩ : R 0 0 (0 : Int32)) c5 (by decide)
    have q8 := c3 c5
    have f9 : R 0 2147483647 p1 := le_lo (⟨by decide, by decide⟩ : R 0 0 (0 : Int32)) (r_full p1) q8.1
    have f10 : R 0 1 p1 := le_hi f9 (⟨by decide, by decide⟩ : R 1 1 (1 : Int32)) q8.2
    refine s_bd (sf_m_standingSet i2) (fun r3 f11 => ?_)
    refine sl_m_alone_L27 p1 r3 h1 _ (r_w f10 (by decide)) (r_w f11 (by decide)) i2 ?_ FU 0 1 (fu_up (⟨by decide, by decide⟩ : R 1 1 (1 : Int32)) (by decide)) (r_w (⟨by decide, by decide⟩ : R 0 0 (0 : Int32)) (by decide)) (r_w (⟨by decide, by decide⟩ : R 1 1 (1 : Int32)) (by decide))
    ·
      intro x7 f12
      refine s_if (fun c13 => ?_) (fun c13 => ?_)
      ·
        have f14 : R 0 0 p1 := r_eq (⟨by decide, by decide⟩ : R 0 0 (0 : Int32)) c13
        refine s_bd (sf_m_onesOf x7 (r_w f12 (by decide)) i2) (fun r8 f15 => ?_)
        exact s_some ⟨r_w (r_full r8) (by decide), i2⟩
      ·
        have f16 : R 1 1 p1 := r_ne_lo f10 (⟨by decide, by decide⟩ : R 0 0 (0 : Int32)) c13 (by decide)
        exact s_some ⟨r_w f12 (by decide), i2⟩
theorem sl_m_council_L29 (h0 : PH) (i_h0 : IM h0) : ∀ (n : Nat) (v2 : Int32) (v3 : Int32), 256 - v3.toInt < (n : Int) → R (-2147483648) 2147483647 v2 → R 0 256 v3 → Sf (mm_council_L29 h0 n v2 v3) (fun r => R (-2147483648) 2147483647 r.1 ∧ IM r.2) := by
  intro n
  induction n with
  | zero =>
    intro v2 v3 hfu f_v2 f_v3
    have := f_v3.2
    omega
  | succ n ih =>
    intro v2 v3 hfu f_v2 f_v3
    rw [mm_council_L29]
    refine s_if (fun c1 => ?_) (fun c1 => ?_)
    ·
      have f2 : R 1 256 v3 := le_lo (r_shl (inv_rng (i_h0).1 rfl : R 0 8 (h0 104 66)) (by decide) : R 1 256 (1 <<< ((h0 104 66) &&& 31))) f_v3 c1
      exact s_some ⟨r_w f_v2 (by decide), i_h0⟩
    ·
      have f3 : R 0 255 v3 := lt_hi f_v3 (r_shl (inv_rng (i_h0).1 rfl : R 0 8 (h0 104 66)) (by decide) : R 1 256 (1 <<< ((h0 104 66) &&& 31))) (nle_lt c1) (by decide)
      refine s_bd (sf_m_onesOf v3 (r_w f3 (by decide)) i_h0) (fun r4 f4 => ?_)
      refine s_if (fun c5 => ?_) (fun c5 => ?_)
      ·
        exact ih v2 (v3 + 1) (fu_su hfu (i_inc f3 (k := 1) rfl (by decide)) (by decide)) (r_w f_v2 (by decide)) (r_w (r_add f3 (⟨by decide, by decide⟩ : R 1 1 (1 : Int32)) (by decide) : R 1 256 (v3 + 1)) (by decide))
      ·
        have f6 : R (-2147483648) 2147483646 r4 := lt_hi (r_full r4) f_v2 (nle_lt c5) (by decide)
        have f7 : R (-2147483647) 2147483647 v2 := lt_lo (r_full r4) f_v2 (nle_lt c5) (by decide)
        refine s_bd (sf_m_moreOf v3 i_h0) (fun r5 f8 => ?_)
        refine s_if (fun c9 => ?_) (fun c9 => ?_)
        ·
          have f10 : R (-2147483648) 0 r5 := le_hi (r_full r5) (⟨by decide, by decide⟩ : R 0 0 (0 : Int32)) c9
          exact ih v2 (v3 + 1) (fu_su hfu (i_inc f3 (k := 1) rfl (by decide)) (by decide)) (r_w f7 (by decide)) (r_w (r_add f3 (⟨by decide, by decide⟩ : R 1 1 (1 : Int32)) (by decide) : R 1 256 (v3 + 1)) (by decide))
        ·
          have f11 : R 1 2147483647 r5 := lt_lo (⟨by decide, by decide⟩ : R 0 0 (0 : Int32)) (r_full r5) (nle_lt c9) (by decide)
          refine s_bd (sf_m_onesOf v3 (r_w f3 (by decide)) i_h0) (fun r6 f12 => ?_)
          exact ih r6 (v3 + 1) (fu_su hfu (i_inc f3 (k := 1) rfl (by decide)) (by decide)) (r_w (r_full r6) (by decide)) (r_w (r_add f3 (⟨by decide, by decide⟩ : R 1 1 (1 : Int32)) (by decide) : R 1 256 (v3 + 1)) (by decide))
theorem sl_m_council_L86 (p2 : Int32) (p3 : Int32) (h0 : PH) (k0 : Int32 → Option (Int32 × PH)) (f_p2 : R 0 4095 p2) (f_p3 : R 0 11 p3) (i_h0 : IM h0) (hk_k0 : ∀ (y0 : Int32), R 0 255 y0 → Sf (k0 y0) (fun r => R (-2147483648) 2147483647 r.1 ∧ IM r.2)) : ∀ (n : Nat) (v4 : Int32) (v5 : Int32), 8 - v5.toInt < (n : Int) → R 0 255 v4 → R 0 8 v5 → Sf (mm_council_L86 p2 p3 h0 k0 n v4 v5) (fun r => R (-2147483648) 2147483647 r.1 ∧ IM r.2) := by
  intro n
  induction n with
  | zero =>
    intro v4 v5 hfu f_v4 f_v5
    have := f_v5.2
    omega
  | succ n ih =>
    intro v4 v5 hfu f_v4 f_v5
    rw [mm_council_L86]
    refine s_if (fun c1 => ?_) (fun c1 => ?_)
    ·
      exact hk_k0 _ (r_w f_v4 (by decide))
    ·
      have f2 : R 0 7 v5 := lt_hi f_v5 (inv_rng (i_h0).1 rfl : R 0 8 (h0 104 66)) (nle_lt c1) (by decide)
      have f3 : R 1 8 (h0 104 66) := lt_lo f_v5 (inv_rng (i_h0).1 rfl : R 0 8 (h0 104 66)) (nle_lt c1) (by decide)
      refine s_ck f2 (by decide) ?_
      refine s_bd (sf_m_has (h0 144 (ix v5)) p3 i_h0) (fun r7 f4 => ?_)
      refine s_if (fun c5 => ?_) (fun c5 => ?_)
      ·
        have f6 : R 0 0 r7 := r_eq (⟨by decide, by decide⟩ : R 0 0 (0 : Int32)) c5
        exact ih v4 (v5 + 1) (fu_su hfu (i_inc f2 (k := 1) rfl (by decide)) (by decide)) (r_w f_v4 (by decide)) (r_w (r_add f2 (⟨by decide, by decide⟩ : R 1 1 (1 : Int32)) (by decide) : R 1 8 (v5 + 1)) (by decide))
      ·
        have f7 : R 1 1 r7 := r_ne_lo f4 (⟨by decide, by decide⟩ : R 0 0 (0 : Int32)) c5 (by decide)
        refine s_lt (fun x8 e8 => ?_)
        have f9 : R 0 255 x8 := by rw [e8]; exact (r_or 8 (r_w f_v4 (by decide)) (r_w (r_shl f2 (by decide) : R 1 128 (1 <<< (v5 &&& 31))) (by decide)) (by decide) : R 0 255 (v4 ||| (1 <<< (v5 &&& 31))))
        exact ih x8 (v5 + 1) (fu_su hfu (i_inc f2 (k := 1) rfl (by decide)) (by decide)) (r_w f9 (by decide)) (r_w (r_add f2 (⟨by decide, by decide⟩ : R 1 1 (1 : Int32)) (by decide) : R 1 8 (v5 + 1)) (by decide))
theorem sl_m_council_L74 (h0 : PH) (i_h0 : IM h0) : ∀ (n : Nat) (v2 : Int32) (v3 : Int32), 12 - v3.toInt < (n : Int) → R 0 4095 v2 → R 0 12 v3 → Sf (mm_council_L74 h0 n v2 v3) (fun r => R (-2147483648) 2147483647 r.1 ∧ IM r.2) := by
  intro n
  induction n with
  | zero =>
    intro v2 v3 hfu f_v2 f_v3
    have := f_v3.2
    omega
  | succ n ih =>
    intro v2 v3 hfu f_v2 f_v3
    rw [mm_council_L74]
    refine s_if (fun c1 => ?_) (fun c1 => ?_)
    ·
      have f2 : R 12 12 v3 := le_lo (⟨by decide, by decide⟩ : R 12 12 (12 : Int32)) f_v3 c1
      exact s_some ⟨r_w f_v2 (by decide), i_h0⟩
    ·
      have f3 : R 0 11 v3 := lt_hi f_v3 (⟨by decide, by decide⟩ : R 12 12 (12 : Int32)) (nle_lt c1) (by decide)
      refine sl_m_council_L86 v2 v3 h0 _ (r_w f_v2 (by decide)) (r_w f3 (by decide)) i_h0 ?_ FU 0 0 (fu_up (⟨by decide, by decide⟩ : R 0 0 (0 : Int32)) (by decide)) (r_w (⟨by decide, by decide⟩ : R 0 0 (0 : Int32)) (by decide)) (r_w (⟨by decide, by decide⟩ : R 0 0 (0 : Int32)) (by decide))
      ·
        intro x9 f4
        refine s_bd (sf_m_moreOf x9 i_h0) (fun r10 f5 => ?_)
        refine s_if (fun c6 => ?_) (fun c6 => ?_)
        ·
          have f7 : R (-2147483648) 0 r10 := le_hi (r_full r10) (⟨by decide, by decide⟩ : R 0 0 (0 : Int32)) c6
          exact ih v2 (v3 + 1) (fu_su hfu (i_inc f3 (k := 1) rfl (by decide)) (by decide)) (r_w f_v2 (by decide)) (r_w (r_add f3 (⟨by decide, by decide⟩ : R 1 1 (1 : Int32)) (by decide) : R 1 12 (v3 + 1)) (by decide))
        ·
          have f8 : R 1 2147483647 r10 := lt_lo (⟨by decide, by decide⟩ : R 0 0 (0 : Int32)) (r_full r10) (nle_lt c6) (by decide)
          refine s_lt (fun x11 e9 => ?_)
          have f10 : R 0 4095 x11 := by rw [e9]; exact (r_or 12 (r_w f_v2 (by decide)) (r_w (r_shl f3 (by decide) : R 1 2048 (1 <<< (v3 &&& 31))) (by decide)) (by decide) : R 0 4095 (v2 ||| (1 <<< (v3 &&& 31))))
          exact ih x11 (v3 + 1) (fu_su hfu (i_inc f3 (k := 1) rfl (by decide)) (by decide)) (r_w f10 (by decide)) (r_w (r_add f3 (⟨by decide, by decide⟩ : R 1 1 (1 : Int32)) (by decide) : R 1 12 (v3 + 1)) (by decide))
theorem sf_m_council (p1 : Int32) {h0 : PH} (i_h0 : IM h0) : Sf (mm_council p1 h0) (fun r => R (-2147483648) 2147483647 r.1 ∧ IM r.2) := by
  unfold mm_council
  refine s_lt (fun h1 e1 => ?_)
  have i2 : IM h1 := by rw [e1]; exact im_put i_h0 rfl (r_w (⟨by decide, by decide⟩ : R 0 0 (0 : Int32)) (by decide)) (by decide)
  refine s_isin (fun r2 f4 c3 => ?_)
  refine s_if (fun c5 => ?_) (fun c5 => ?_)
  ·
    have f6 : R 0 0 r2 := r_eq (⟨by decide, by decide⟩ : R 0 0 (0 : Int32)) c5
    exact s_some ⟨r_w (⟨by decide, by decide⟩ : R (-1) (-1) (-1 : Int32)) (by decide), i2⟩
  ·
    have f7 : R 1 1 r2 := r_ne_lo f4 (⟨by decide, by decide⟩ : R 0 0 (0 : Int32)) c5 (by decide)
    have q8 := c3 c5
    have f9 : R 0 2147483647 p1 := le_lo (⟨by decide, by decide⟩ : R 0 0 (0 : Int32)) (r_full p1) q8.1
    have f10 : R 0 1 p1 := le_hi f9 (⟨by decide, by decide⟩ : R 1 1 (1 : Int32)) q8.2
    refine s_if (fun c11 => ?_) (fun c11 => ?_)
    ·
      have f12 : R 1 1 p1 := r_eq (⟨by decide, by decide⟩ : R 1 1 (1 : Int32)) c11
      refine s_lt (fun x3 e13 => ?_)
      have f14 : R 0 8 x3 := by rw [e13]; exact (inv_rng (i2).1 rfl : R 0 8 (h1 104 66))
      refine sl_m_council_L29 h1 i2 FU x3 0 (fu_up (⟨by decide, by decide⟩ : R 0 0 (0 : Int32)) (by decide)) (r_w f14 (by decide)) (r_w (⟨by decide, by decide⟩ : R 0 0 (0 : Int32)) (by decide))
    ·
      have f15 : R 0 0 p1 := r_ne_hi f10 (⟨by decide, by decide⟩ : R 1 1 (1 : Int32)) c11 (by decide)
      refine sl_m_council_L74 h1 i2 FU 0 0 (fu_up (⟨by decide, by decide⟩ : R 0 0 (0 : Int32)) (by decide)) (r_w (⟨by decide, by decide⟩ : R 0 0 (0 : Int32)) (by decide)) (r_w (⟨by decide, by decide⟩ : R 0 0 (0 : Int32)) (by decide))
