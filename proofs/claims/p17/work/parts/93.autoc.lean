/-! SAFETY of the mirrors, by ranges. Printed by wip/gen/drive.py -/
theorem sf_H_canEncode (p0 : Int32) {h0 : PH} (i_h0 : Inv h0) : Sf (mH_canEncode p0 h0) (fun r => R 0 1 r) := by
  unfold mH_canEncode
  refine s_if (fun c1 => ?_) (fun c1 => ?_)
  ·
    have f2 : R (-2147483648) (-1) p0 := lt_hi (r_full p0) (⟨by decide, by decide⟩ : R 0 0 (0 : Int32)) c1 (by decide)
    exact s_some (r_w (⟨by decide, by decide⟩ : R 0 0 (0 : Int32)) (by decide))
  ·
    have f3 : R 0 2147483647 p0 := le_lo (⟨by decide, by decide⟩ : R 0 0 (0 : Int32)) (r_full p0) (nlt_le c1)
    refine s_if (fun c4 => ?_) (fun c4 => ?_)
    ·
      have f5 : R 256 2147483647 p0 := lt_lo (⟨by decide, by decide⟩ : R 255 255 (255 : Int32)) f3 c4 (by decide)
      exact s_some (r_w (⟨by decide, by decide⟩ : R 0 0 (0 : Int32)) (by decide))
    ·
      have f6 : R 0 255 p0 := le_hi f3 (⟨by decide, by decide⟩ : R 255 255 (255 : Int32)) (nlt_le c4)
      exact s_some (r_w (⟨by decide, by decide⟩ : R 1 1 (1 : Int32)) (by decide))
theorem sl_H_indexOfChar_L7_4 (p3 : Int32) (p4 : Int32) (h0 : PH) (f_p3 : R 0 10 p3) (f_p4 : R (-2147483648) 2147483647 p4) (i_h0 : Inv h0) : ∀ (n : Nat) (v5 : Int32), 10 - v5.toInt < (n : Int) → R 0 10 v5 → Sf (mH_indexOfChar_L7 4 p3 p4 h0 n v5) (fun r => R (-1) 9 r) := by
  intro n
  induction n with
  | zero =>
    intro v5 hfu f_v5
    have := f_v5.2
    omega
  | succ n ih =>
    intro v5 hfu f_v5
    rw [mH_indexOfChar_L7]
    refine s_if (fun c1 => ?_) (fun c1 => ?_)
    ·
      exact s_some (r_w (⟨by decide, by decide⟩ : R (-1) (-1) (-1 : Int32)) (by decide))
    ·
      have f2 : R 0 9 v5 := lt_hi f_v5 f_p3 (nle_lt c1) (by decide)
      have f3 : R 1 10 p3 := lt_lo f_v5 f_p3 (nle_lt c1) (by decide)
      refine s_ck f2 (by decide) ?_
      refine s_if (fun c4 => ?_) (fun c4 => ?_)
      ·
        exact s_some (r_w f2 (by decide))
      ·
        exact ih (v5 + 1) (fu_su hfu (i_inc f2 (k := 1) rfl (by decide)) (by decide)) (r_w (r_add f2 (⟨by decide, by decide⟩ : R 1 1 (1 : Int32)) (by decide) : R 1 10 (v5 + 1)) (by decide))
theorem sf_H_indexOfChar_4 (p1 : Int32) (p2 : Int32) (p3 : Int32) (f_p2 : R 0 9 p2) (f_p3 : R 0 10 p3) {h0 : PH} (i_h0 : Inv h0) : Sf (mH_indexOfChar 4 p1 p2 p3 h0) (fun r => R (-1) 9 r) := by
  unfold mH_indexOfChar
  refine s_lt (fun x1 e1 => ?_)
  refine sl_H_indexOfChar_L7_4 p3 x1 h0 (r_w f_p3 (by decide)) (r_w (r_full x1) (by decide)) i_h0 FU p2 (fu_up f_p2 (by decide)) (r_w f_p2 (by decide))
theorem sf_H_indexOf_4 (p1 : Int32) (p2 : Int32) (p3 : Int32) {h0 : PH} (i_h0 : Inv h0) : Sf (mH_indexOf 4 p1 p2 p3 h0) (fun r => R (-1) 9 r) := by
  unfold mH_indexOf
  refine s_bd (sf_H_canEncode p1 i_h0) (fun r1 f1 => ?_)
  refine s_if (fun c2 => ?_) (fun c2 => ?_)
  ·
    have f3 : R 0 0 r1 := r_eq (⟨by decide, by decide⟩ : R 0 0 (0 : Int32)) c2
    exact s_some (r_w (⟨by decide, by decide⟩ : R (-1) (-1) (-1 : Int32)) (by decide))
  ·
    have f4 : R 1 1 r1 := r_ne_lo f1 (⟨by decide, by decide⟩ : R 0 0 (0 : Int32)) c2 (by decide)
    refine s_lt (fun x2 e5 => ?_)
    have f6 : R 0 2147483647 x2 := by rw [e5]; exact (r_max (r_full p2) (⟨by decide, by decide⟩ : R 0 0 (0 : Int32)) (by decide) : R 0 2147483647 (imax p2 0))
    refine s_lt (fun x3 e7 => ?_)
    have f8 : R (-2147483648) 10 x3 := by rw [e7]; exact (r_min (r_full p3) (⟨by decide, by decide⟩ : R 10 10 (Int32.ofNat (sln 4))) (by decide) : R (-2147483648) 10 (imin p3 (Int32.ofNat (sln 4))))
    refine s_if (fun c9 => ?_) (fun c9 => ?_)
    ·
      have f10 : R 0 9 x2 := lt_hi f6 f8 c9 (by decide)
      have f11 : R 1 10 x3 := lt_lo f6 f8 c9 (by decide)
      refine s_bd (sf_H_indexOfChar_4 p1 x2 x3 (r_w f10 (by decide)) (r_w f11 (by decide)) i_h0) (fun r4 f12 => ?_)
      exact s_some (r_w f12 (by decide))
    ·
      exact s_some (r_w (⟨by decide, by decide⟩ : R (-1) (-1) (-1 : Int32)) (by decide))
theorem sf_G_indexOf2_4 (p1 : Int32) (p2 : Int32) {h0 : PH} (i_h0 : Inv h0) : Sf (mG_indexOf2 4 p1 p2 h0) (fun r => R (-1) 9 r) := by
  unfold mG_indexOf2
  refine s_bd (sf_G_isLatin1 (4) i_h0) (fun r1 f1 => ?_)
  refine s_if (fun c2 => ?_) (fun c2 => ?_)
  ·
    have f3 : R 1 0 r1 := r_mix (r_eq (⟨by decide, by decide⟩ : R 0 0 (0 : Int32)) c2) f1
    exact r_no f3 (by decide)
  ·
    refine s_bd (sf_G_length_4 i_h0) (fun r3 f4 => ?_)
    refine s_bd (sf_H_indexOf_4 p1 p2 r3 i_h0) (fun r4 f5 => ?_)
    exact s_some (r_w f5 (by decide))
theorem sf_G_indexOf_4 (p1 : Int32) {h0 : PH} (i_h0 : Inv h0) : Sf (mG_indexOf 4 p1 h0) (fun r => R (-1) 9 r) := by
  unfold mG_indexOf
  refine s_bd (sf_G_indexOf2_4 p1 0 i_h0) (fun r1 f1 => ?_)
  exact s_some (r_w f1 (by decide))
theorem sf_J_bitCount (p0 : Int32) {h0 : PH} (i_h0 : Inv h0) : Sf (mJ_bitCount p0 h0) (fun r => R 0 63 r) := by
  unfold mJ_bitCount
  refine s_lt (fun x1 e1 => ?_)
  refine s_lt (fun x2 e2 => ?_)
  have f3 : R 0 1717986918 x2 := by rw [e2]; exact (r_add (r_and (⟨by decide, by decide⟩ : R 858993459 858993459 (858993459 : Int32)) (by decide) : R 0 858993459 (x1 &&& 858993459)) (r_and (⟨by decide, by decide⟩ : R 858993459 858993459 (858993459 : Int32)) (by decide) : R 0 858993459 ((ushr x1 2) &&& 858993459)) (by decide) : R 0 1717986918 ((x1 &&& 858993459) + ((ushr x1 2) &&& 858993459)))
  refine s_lt (fun x3 e4 => ?_)
  have f5 : R 0 252645135 x3 := by rw [e4]; exact (r_and (⟨by decide, by decide⟩ : R 252645135 252645135 (252645135 : Int32)) (by decide) : R 0 252645135 ((x2 + (ushr x2 4)) &&& 252645135))
  refine s_lt (fun x4 e6 => ?_)
  refine s_lt (fun x5 e7 => ?_)
  exact s_some (r_w (r_and (⟨by decide, by decide⟩ : R 63 63 (63 : Int32)) (by decide) : R 0 63 (x5 &&& 63)) (by decide))
theorem sf_B_has (a0 : Nat) (p1 : Int32) (hb_a0 : isB a0) {h0 : PH} (i_h0 : Inv h0) : Sf (mB_has a0 p1 h0) (fun r => R 0 1 r) := by
  unfold mB_has
  refine s_if (fun c1 => ?_) (fun c1 => ?_)
  ·
    have f2 : R (-2147483648) (-1) p1 := lt_hi (r_full p1) (⟨by decide, by decide⟩ : R 0 0 (0 : Int32)) c1 (by decide)
    exact s_some (r_w (⟨by decide, by decide⟩ : R 0 0 (0 : Int32)) (by decide))
  ·
    have f3 : R 0 2147483647 p1 := le_lo (⟨by decide, by decide⟩ : R 0 0 (0 : Int32)) (r_full p1) (nlt_le c1)
    refine s_if (fun c4 => ?_) (fun c4 => ?_)
    ·
      exact s_some (r_w (⟨by decide, by decide⟩ : R 0 0 (0 : Int32)) (by decide))
    ·
      have f5 : R 0 11 p1 := lt_hi f3 (inv_rng i_h0 (congrFun hb_a0.1 1) : R 0 12 (h0 a0 1)) (nle_lt c4) (by decide)
      have f6 : R 1 12 (h0 a0 1) := lt_lo f3 (inv_rng i_h0 (congrFun hb_a0.1 1) : R 0 12 (h0 a0 1)) (nle_lt c4) (by decide)
      exact s_some (r_w (⟨by decide, by decide⟩ : R 1 1 (1 : Int32)) (by decide))
theorem sf_B_read (a0 : Nat) (p1 : Int32) (p2 : Int32) (hb_a0 : isB a0) {h0 : PH} (i_h0 : Inv h0) : Sf (mB_read a0 p1 p2 h0) (fun r => R (-2147483648) 2147483647 r) := by
  unfold mB_read
  refine s_if (fun c1 => ?_) (fun c1 => ?_)
  ·
    have f2 : R (-2147483648) (-1) p1 := lt_hi (r_full p1) (⟨by decide, by decide⟩ : R 0 0 (0 : Int32)) c1 (by decide)
    exact s_some (r_w (⟨by decide, by decide⟩ : R 0 0 (0 : Int32)) (by decide))
  ·
    have f3 : R 0 2147483647 p1 := le_lo (⟨by decide, by decide⟩ : R 0 0 (0 : Int32)) (r_full p1) (nlt_le c1)
    refine s_if (fun c4 => ?_) (fun c4 => ?_)
    ·
      exact s_some (r_w (⟨by decide, by decide⟩ : R 0 0 (0 : Int32)) (by decide))
    ·
      have f5 : R 0 11 p1 := lt_hi f3 (inv_rng i_h0 (congrFun hb_a0.1 1) : R 0 12 (h0 a0 1)) (nle_lt c4) (by decide)
      have f6 : R 1 12 (h0 a0 1) := lt_lo f3 (inv_rng i_h0 (congrFun hb_a0.1 1) : R 0 12 (h0 a0 1)) (nle_lt c4) (by decide)
      refine s_if (fun c7 => ?_) (fun c7 => ?_)
      ·
        have f8 : R (-2147483648) (-1) p2 := lt_hi (r_full p2) (⟨by decide, by decide⟩ : R 0 0 (0 : Int32)) c7 (by decide)
        exact s_some (r_w (⟨by decide, by decide⟩ : R 0 0 (0 : Int32)) (by decide))
      ·
        have f9 : R 0 2147483647 p2 := le_lo (⟨by decide, by decide⟩ : R 0 0 (0 : Int32)) (r_full p2) (nlt_le c7)
        refine s_if (fun c10 => ?_) (fun c10 => ?_)
        ·
          have f11 : R 0 10 p2 := lt_hi f9 (⟨by decide, by decide⟩ : R 11 11 (11 : Int32)) c10 (by decide)
          refine s_ck (r_add (r_mul f5 (⟨by decide, by decide⟩ : R 11 11 (11 : Int32)) (by decide) : R 0 121 (p1 * 11)) f11 (by decide) : R 0 131 ((p1 * 11) + p2)) (by decide) ?_
          exact s_some (r_w (r_full (h0 (a0 + 1) (ix ((p1 * 11) + p2)))) (by decide))
        ·
          have f12 : R 11 2147483647 p2 := le_lo (⟨by decide, by decide⟩ : R 11 11 (11 : Int32)) f9 (nlt_le c10)
          exact s_some (r_w (⟨by decide, by decide⟩ : R 0 0 (0 : Int32)) (by decide))
theorem sf_B_write (a0 : Nat) (p1 : Int32) (p2 : Int32) (p3 : Int32) (hb_a0 : isB a0) {h0 : PH} (i_h0 : Inv h0) : Sf (mB_write a0 p1 p2 p3 h0) (fun h => Inv h) := by
  unfold mB_write
  refine s_if (fun c1 => ?_) (fun c1 => ?_)
  ·
    have f2 : R (-2147483648) (-1) p1 := lt_hi (r_full p1) (⟨by decide, by decide⟩ : R 0 0 (0 : Int32)) c1 (by decide)
    exact s_some i_h0
  ·
    have f3 : R 0 2147483647 p1 := le_lo (⟨by decide, by decide⟩ : R 0 0 (0 : Int32)) (r_full p1) (nlt_le c1)
    refine s_if (fun c4 => ?_) (fun c4 => ?_)
    ·
      exact s_some i_h0
    ·
      have f5 : R 0 11 p1 := lt_hi f3 (inv_rng i_h0 (congrFun hb_a0.1 1) : R 0 12 (h0 a0 1)) (nle_lt c4) (by decide)
      have f6 : R 1 12 (h0 a0 1) := lt_lo f3 (inv_rng i_h0 (congrFun hb_a0.1 1) : R 0 12 (h0 a0 1)) (nle_lt c4) (by decide)
      refine s_if (fun c7 => ?_) (fun c7 => ?_)
      ·
        have f8 : R (-2147483648) (-1) p2 := lt_hi (r_full p2) (⟨by decide, by decide⟩ : R 0 0 (0 : Int32)) c7 (by decide)
        exact s_some i_h0
      ·
        have f9 : R 0 2147483647 p2 := le_lo (⟨by decide, by decide⟩ : R 0 0 (0 : Int32)) (r_full p2) (nlt_le c7)
        refine s_if (fun c10 => ?_) (fun c10 => ?_)
        ·
          have f11 : R 11 2147483647 p2 := le_lo (⟨by decide, by decide⟩ : R 11 11 (11 : Int32)) f9 c10
          exact s_some i_h0
        ·
          have f12 : R 0 10 p2 := lt_hi f9 (⟨by decide, by decide⟩ : R 11 11 (11 : Int32)) (nle_lt c10) (by decide)
          refine s_ck (r_add (r_mul f5 (⟨by decide, by decide⟩ : R 11 11 (11 : Int32)) (by decide) : R 0 121 (p1 * 11)) f12 (by decide) : R 0 131 ((p1 * 11) + p2)) (by decide) ?_
          refine s_lt (fun h1 e13 => ?_)
          have i14 : Inv h1 := by rw [e13]; exact inv_put i_h0 (congrFun hb_a0.2 _) (r_w (r_full p3) (by decide))
          exact s_some i14
theorem sf_B_sumOf (a0 : Nat) (p1 : Int32) (hb_a0 : isB a0) {h0 : PH} (i_h0 : Inv h0) : Sf (mB_sumOf a0 p1 h0) (fun r => R (-2147483648) 2147483647 r) := by
  unfold mB_sumOf
  refine s_if (fun c1 => ?_) (fun c1 => ?_)
  ·
    have f2 : R (-2147483648) (-1) p1 := lt_hi (r_full p1) (⟨by decide, by decide⟩ : R 0 0 (0 : Int32)) c1 (by decide)
    exact s_some (r_w (⟨by decide, by decide⟩ : R 0 0 (0 : Int32)) (by decide))
  ·
    have f3 : R 0 2147483647 p1 := le_lo (⟨by decide, by decide⟩ : R 0 0 (0 : Int32)) (r_full p1) (nlt_le c1)
    refine s_if (fun c4 => ?_) (fun c4 => ?_)
    ·
      have f5 : R 0 11 p1 := lt_hi f3 (inv_rng i_h0 (congrFun hb_a0.1 1) : R 0 12 (h0 a0 1)) c4 (by decide)
      have f6 : R 1 12 (h0 a0 1) := lt_lo f3 (inv_rng i_h0 (congrFun hb_a0.1 1) : R 0 12 (h0 a0 1)) c4 (by decide)
      refine s_lt (fun x1 e7 => ?_)
      have f8 : R 0 121 x1 := by rw [e7]; exact (r_mul f5 (⟨by decide, by decide⟩ : R 11 11 (11 : Int32)) (by decide) : R 0 121 (p1 * 11))
      refine s_ck f8 (by decide) ?_
      refine s_ck (r_add f8 (⟨by decide, by decide⟩ : R 1 1 (1 : Int32)) (by decide) : R 1 122 (x1 + 1)) (by decide) ?_
      refine s_ck (r_add f8 (⟨by decide, by decide⟩ : R 2 2 (2 : Int32)) (by decide) : R 2 123 (x1 + 2)) (by decide) ?_
      refine s_ck (r_add f8 (⟨by decide, by decide⟩ : R 3 3 (3 : Int32)) (by decide) : R 3 124 (x1 + 3)) (by decide) ?_
      exact s_some (r_w (r_full ((((h0 (a0 + 1) (ix x1)) + (h0 (a0 + 1) (ix (x1 + 1)))) + (h0 (a0 + 1) (ix (x1 + 2)))) + (h0 (a0 + 1) (ix (x1 + 3))))) (by decide))
    ·
      exact s_some (r_w (⟨by decide, by decide⟩ : R 0 0 (0 : Int32)) (by decide))
theorem sf_B_isUp (a0 : Nat) (p1 : Int32) (hb_a0 : isB a0) {h0 : PH} (i_h0 : Inv h0) : Sf (mB_isUp a0 p1 h0) (fun r => R 0 1 r) := by
  unfold mB_isUp
  refine s_bd (sf_B_sumOf (a0) p1 hb_a0 i_h0) (fun r1 f1 => ?_)
  refine s_if (fun c2 => ?_) (fun c2 => ?_)
  ·
    have f3 : R (-2147483648) 0 r1 := le_hi (r_full r1) (⟨by decide, by decide⟩ : R 0 0 (0 : Int32)) c2
    exact s_some (r_w (⟨by decide, by decide⟩ : R 0 0 (0 : Int32)) (by decide))
  ·
    have f4 : R 1 2147483647 r1 := lt_lo (⟨by decide, by decide⟩ : R 0 0 (0 : Int32)) (r_full r1) (nle_lt c2) (by decide)
    exact s_some (r_w (⟨by decide, by decide⟩ : R 1 1 (1 : Int32)) (by decide))
theorem sl_B_thickest_L4 (a0 : Nat) (p1 : Int32) (h0 : PH) (hb_a0 : isB a0) (f_p1 : R (-2147483648) 2147483647 p1) (i_h0 : Inv h0) : ∀ (n : Nat) (v2 : Int32) (v3 : Int32), 4 - v3.toInt < (n : Int) → R 0 3 v2 → R 1 4 v3 → Sf (mB_thickest_L4 a0 p1 h0 n v2 v3) (fun r => R 0 3 r) := by
  intro n
  induction n with
  | zero =>
    intro v2 v3 hfu f_v2 f_v3
    have := f_v3.2
    omega
  | succ n ih =>
    intro v2 v3 hfu f_v2 f_v3
    rw [mB_thickest_L4]
    refine s_if (fun c1 => ?_) (fun c1 => ?_)
    ·
      have f2 : R 4 4 v3 := le_lo (⟨by decide, by decide⟩ : R 4 4 (4 : Int32)) f_v3 c1
      exact s_some (r_w f_v2 (by decide))
    ·
      have f3 : R 1 3 v3 := lt_hi f_v3 (⟨by decide, by decide⟩ : R 4 4 (4 : Int32)) (nle_lt c1) (by decide)
      refine s_bd (sf_B_read (a0) p1 v3 hb_a0 i_h0) (fun r1 f4 => ?_)
      refine s_bd (sf_B_read (a0) p1 v2 hb_a0 i_h0) (fun r2 f5 => ?_)
      refine s_if (fun c6 => ?_) (fun c6 => ?_)
      ·
        exact ih v2 (v3 + 1) (fu_su hfu (i_inc f3 (k := 1) rfl (by decide)) (by decide)) (r_w f_v2 (by decide)) (r_w (r_add f3 (⟨by decide, by decide⟩ : R 1 1 (1 : Int32)) (by decide) : R 2 4 (v3 + 1)) (by decide))
      ·
        have f7 : R (-2147483648) 2147483646 r2 := lt_hi (r_full r2) (r_full r1) (nle_lt c6) (by decide)
        have f8 : R (-2147483647) 2147483647 r1 := lt_lo (r_full r2) (r_full r1) (nle_lt c6) (by decide)
        exact ih v3 (v3 + 1) (fu_su hfu (i_inc f3 (k := 1) rfl (by decide)) (by decide)) (r_w f3 (by decide)) (r_w (r_add f3 (⟨by decide, by decide⟩ : R 1 1 (1 : Int32)) (by decide) : R 2 4 (v3 + 1)) (by decide))
theorem sf_B_thickest (a0 : Nat) (p1 : Int32) (hb_a0 : isB a0) {h0 : PH} (i_h0 : Inv h0) : Sf (mB_thickest a0 p1 h0) (fun r => R 0 3 r) := by
  unfold mB_thickest
  refine sl_B_thickest_L4 (a0) p1 h0 hb_a0 (r_w (r_full p1) (by decide)) i_h0 FU 0 1 (fu_up (⟨by decide, by decide⟩ : R 1 1 (1 : Int32)) (by decide)) (r_w (⟨by decide, by decide⟩ : R 0 0 (0 : Int32)) (by decide)) (r_w (⟨by decide, by decide⟩ : R 1 1 (1 : Int32)) (by decide))
theorem sl_B_upSet_L4 (a0 : Nat) (h0 : PH) (hb_a0 : isB a0) (i_h0 : Inv h0) : ∀ (n : Nat) (v1 : Int32) (v2 : Int32), 12 - v2.toInt < (n : Int) → R 0 4095 v1 → R 0 12 v2 → Sf (mB_upSet_L4 a0 h0 n v1 v2) (fun r => R 0 4095 r) := by
  intro n
  induction n with
  | zero =>
    intro v1 v2 hfu f_v1 f_v2
    have := f_v2.2
    omega
  | succ n ih =>
    intro v1 v2 hfu f_v1 f_v2
    rw [mB_upSet_L4]
    refine s_if (fun c1 => ?_) (fun c1 => ?_)
    ·
      exact s_some (r_w f_v1 (by decide))
    ·
      have f2 : R 0 11 v2 := lt_hi f_v2 (inv_rng i_h0 (congrFun hb_a0.1 1) : R 0 12 (h0 a0 1)) (nle_lt c1) (by decide)
      have f3 : R 1 12 (h0 a0 1) := lt_lo f_v2 (inv_rng i_h0 (congrFun hb_a0.1 1) : R 0 12 (h0 a0 1)) (nle_lt c1) (by decide)
      refine s_bd (sf_B_isUp (a0) v2 hb_a0 i_h0) (fun r1 f4 => ?_)
      refine s_if (fun c5 => ?_) (fun c5 => ?_)
      ·
        have f6 : R 0 0 r1 := r_eq (⟨by decide, by decide⟩ : R 0 0 (0 : Int32)) c5
        exact ih v1 (v2 + 1) (fu_su hfu (i_inc f2 (k := 1) rfl (by decide)) (by decide)) (r_w f_v1 (by decide)) (r_w (r_add f2 (⟨by decide, by decide⟩ : R 1 1 (1 : Int32)) (by decide) : R 1 12 (v2 + 1)) (by decide))
      ·
        have f7 : R 1 1 r1 := r_ne_lo f4 (⟨by decide, by decide⟩ : R 0 0 (0 : Int32)) c5 (by decide)
        refine s_lt (fun x2 e8 => ?_)
        have f9 : R 0 4095 x2 := by rw [e8]; exact (r_or 12 (r_w f_v1 (by decide)) (r_w (r_shl f2 (by decide) : R 1 2048 (1 <<< (v2 &&& 31))) (by decide)) (by decide) : R 0 4095 (v1 ||| (1 <<< (v2 &&& 31))))
        exact ih x2 (v2 + 1) (fu_su hfu (i_inc f2 (k := 1) rfl (by decide)) (by decide)) (r_w f9 (by decide)) (r_w (r_add f2 (⟨by decide, by decide⟩ : R 1 1 (1 : Int32)) (by decide) : R 1 12 (v2 + 1)) (by decide))
theorem sf_B_upSet (a0 : Nat) (hb_a0 : isB a0) {h0 : PH} (i_h0 : Inv h0) : Sf (mB_upSet a0 h0) (fun r => R 0 4095 r) := by
  unfold mB_upSet
  refine sl_B_upSet_L4 (a0) h0 hb_a0 i_h0 FU 0 0 (fu_up (⟨by decide, by decide⟩ : R 0 0 (0 : Int32)) (by decide)) (r_w (⟨by decide, by decide⟩ : R 0 0 (0 : Int32)) (by decide)) (r_w (⟨by decide, by decide⟩ : R 0 0 (0 : Int32)) (by decide))
theorem sf_B_countUp (a0 : Nat) (hb_a0 : isB a0) {h0 : PH} (i_h0 : Inv h0) : Sf (mB_countUp a0 h0) (fun r => R 0 63 r) := by
  unfold mB_countUp
  refine s_bd (sf_B_upSet (a0) hb_a0 i_h0) (fun r1 f1 => ?_)
  refine s_bd (sf_J_bitCount r1 i_h0) (fun r2 f2 => ?_)
  exact s_some (r_w f2 (by decide))
theorem sl_B_total_L4 (a0 : Nat) (p1 : Int32) (h0 : PH) (hb_a0 : isB a0) (f_p1 : R (-2147483648) 2147483647 p1) (i_h0 : Inv h0) : ∀ (n : Nat) (v2 : Int32) (v3 : Int32), 12 - v3.toInt < (n : Int) → R (-2147483648) 2147483647 v2 → R 0 12 v3 → Sf (mB_total_L4 a0 p1 h0 n v2 v3) (fun r => R (-2147483648) 2147483647 r) := by
  intro n
  induction n with
  | zero =>
    intro v2 v3 hfu f_v2 f_v3
    have := f_v3.2
    omega
  | succ n ih =>
    intro v2 v3 hfu f_v2 f_v3
    rw [mB_total_L4]
    refine s_if (fun c1 => ?_) (fun c1 => ?_)
    ·
      exact s_some (r_w f_v2 (by decide))
    ·
      have f2 : R 0 11 v3 := lt_hi f_v3 (inv_rng i_h0 (congrFun hb_a0.1 1) : R 0 12 (h0 a0 1)) (nle_lt c1) (by decide)
      have f3 : R 1 12 (h0 a0 1) := lt_lo f_v3 (inv_rng i_h0 (congrFun hb_a0.1 1) : R 0 12 (h0 a0 1)) (nle_lt c1) (by decide)
      refine s_bd (sf_B_read (a0) v3 p1 hb_a0 i_h0) (fun r1 f4 => ?_)
      refine s_lt (fun x2 e5 => ?_)
      exact ih x2 (v3 + 1) (fu_su hfu (i_inc f2 (k := 1) rfl (by decide)) (by decide)) (r_w (r_full x2) (by decide)) (r_w (r_add f2 (⟨by decide, by decide⟩ : R 1 1 (1 : Int32)) (by decide) : R 1 12 (v3 + 1)) (by decide))
theorem sf_B_total (a0 : Nat) (p1 : Int32) (hb_a0 : isB a0) {h0 : PH} (i_h0 : Inv h0) : Sf (mB_total a0 p1 h0) (fun r => R (-2147483648) 2147483647 r) := by
  unfold mB_total
  refine sl_B_total_L4 (a0) p1 h0 hb_a0 (r_w (r_full p1) (by decide)) i_h0 FU 0 0 (fu_up (⟨by decide, by decide⟩ : R 0 0 (0 : Int32)) (by decide)) (r_w (⟨by decide, by decide⟩ : R 0 0 (0 : Int32)) (by decide)) (r_w (⟨by decide, by decide⟩ : R 0 0 (0 : Int32)) (by decide))
theorem sf_B_thin (a0 : Nat) (p1 : Int32) (p2 : Int32) (p3 : Int32) (hb_a0 : isB a0) {h0 : PH} (i_h0 : Inv h0) : Sf (mB_thin a0 p1 p2 p3 h0) (fun r => R (-2147483648) 2147483647 r.1 ∧ Inv r.2) := by
  unfold mB_thin
  refine s_bd (sf_B_read (a0) p1 p2 hb_a0 i_h0) (fun r1 f1 => ?_)
  refine s_lt (fun x2 e2 => ?_)
  refine s_bd (sf_B_write (a0) p1 p2 (r1 - x2) hb_a0 i_h0) (fun h3 f3 => ?_)
  exact s_some ⟨r_w (r_full x2) (by decide), f3⟩
theorem sf_B_thicken (a0 : Nat) (p1 : Int32) (p2 : Int32) (p3 : Int32) (hb_a0 : isB a0) {h0 : PH} (i_h0 : Inv h0) : Sf (mB_thicken a0 p1 p2 p3 h0) (fun h => Inv h) := by
  unfold mB_thicken
  refine s_bd (sf_B_read (a0) p1 p2 hb_a0 i_h0) (fun r1 f1 => ?_)
  refine s_bd (sf_B_write (a0) p1 p2 (imin 99 (r1 + p3)) hb_a0 i_h0) (fun h2 f2 => ?_)
  exact s_some f2
theorem sf_B_draw (a0 : Nat) (p1 : Int32) (hb_a0 : isB a0) {h0 : PH} (i_h0 : Inv h0) : Sf (mB_draw a0 p1 h0) (fun r => R (-2147483648) 2147483647 r.1 ∧ Inv r.2) := by
  unfold mB_draw
  refine s_lt (fun h1 e1 => ?_)
  have i2 : Inv h1 := by rw [e1]; exact inv_put i_h0 (congrFun hb_a0.1 7) (r_w (r_full ((1664525 * (h0 a0 7)) + 1013904223)) (by decide))
  refine s_if (fun c3 => ?_) (fun c3 => ?_)
  ·
    have f4 : R (-2147483648) 0 p1 := le_hi (r_full p1) (⟨by decide, by decide⟩ : R 0 0 (0 : Int32)) c3
    exact s_some ⟨r_w (⟨by decide, by decide⟩ : R 0 0 (0 : Int32)) (by decide), i2⟩
  ·
    have f5 : R 1 2147483647 p1 := lt_lo (⟨by decide, by decide⟩ : R 0 0 (0 : Int32)) (r_full p1) (nle_lt c3) (by decide)
    refine s_dz f5 (by decide) ?_
    exact s_some ⟨r_w (r_full (irm (ushr (h1 a0 7) 8) p1)) (by decide), i2⟩
theorem sf_L_lengthOf (p0 : Int32) (p1 : Int32) {h0 : PH} (i_h0 : Inv h0) : Sf (mL_lengthOf p0 p1 h0) (fun r => R 0 7 r) := by
  unfold mL_lengthOf
  exact s_some (r_w (r_and (⟨by decide, by decide⟩ : R 7 7 (7 : Int32)) (by decide) : R 0 7 ((p0 >>> ((p1 * 3) &&& 31)) &&& 7)) (by decide))
theorem sl_L_isShape_L5 (p0 : Int32) (h0 : PH) (f_p0 : R (-2147483648) 2147483647 p0) (i_h0 : Inv h0) : ∀ (n : Nat) (v1 : Int32) (v2 : Int32), 5 - v2.toInt < (n : Int) → R 0 6 v1 → R 0 5 v2 → Sf (mL_isShape_L5 p0 h0 n v1 v2) (fun r => R 0 1 r) := by
  intro n
  induction n with
  | zero =>
    intro v1 v2 hfu f_v1 f_v2
    have := f_v2.2
    omega
  | succ n ih =>
    intro v1 v2 hfu f_v1 f_v2
    rw [mL_isShape_L5]
    refine s_if (fun c1 => ?_) (fun c1 => ?_)
    ·
      have f2 : R 5 5 v2 := le_lo (⟨by decide, by decide⟩ : R 5 5 (5 : Int32)) f_v2 c1
      exact s_some (r_w (⟨by decide, by decide⟩ : R 1 1 (1 : Int32)) (by decide))
    ·
      have f3 : R 0 4 v2 := lt_hi f_v2 (⟨by decide, by decide⟩ : R 5 5 (5 : Int32)) (nle_lt c1) (by decide)
      refine s_bd (sf_L_lengthOf p0 v2 i_h0) (fun r1 f4 => ?_)
      refine s_if (fun c5 => ?_) (fun c5 => ?_)
      ·
        have f6 : R 0 6 r1 := le_hi f4 f_v1 c5
        exact ih r1 (v2 + 1) (fu_su hfu (i_inc f3 (k := 1) rfl (by decide)) (by decide)) (r_w f6 (by decide)) (r_w (r_add f3 (⟨by decide, by decide⟩ : R 1 1 (1 : Int32)) (by decide) : R 1 5 (v2 + 1)) (by decide))
      ·
        have f7 : R 1 7 r1 := lt_lo f_v1 f4 (nle_lt c5) (by decide)
        exact s_some (r_w (⟨by decide, by decide⟩ : R 0 0 (0 : Int32)) (by decide))
theorem sf_L_isShape (p0 : Int32) {h0 : PH} (i_h0 : Inv h0) : Sf (mL_isShape p0 h0) (fun r => R 0 1 r) := by
  unfold mL_isShape
  refine sl_L_isShape_L5 p0 h0 (r_w (r_full p0) (by decide)) i_h0 FU 6 0 (fu_up (⟨by decide, by decide⟩ : R 0 0 (0 : Int32)) (by decide)) (r_w (⟨by decide, by decide⟩ : R 6 6 (6 : Int32)) (by decide)) (r_w (⟨by decide, by decide⟩ : R 0 0 (0 : Int32)) (by decide))
theorem sl_L_bitten_L5 (p0 : Int32) (p1 : Int32) (p2 : Int32) (h0 : PH) (f_p0 : R (-2147483648) 2147483647 p0) (f_p1 : R (-2147483648) 2147483647 p1) (f_p2 : R (-2147483648) 2147483647 p2) (i_h0 : Inv h0) : ∀ (n : Nat) (v3 : Int32) (v4 : Int32), 5 - v4.toInt < (n : Int) → R (-2147483648) 2147483647 v3 → R 0 5 v4 → Sf (mL_bitten_L5 p0 p1 p2 h0 n v3 v4) (fun r => R (-2147483648) 2147483647 r) := by
  intro n
  induction n with
  | zero =>
    intro v3 v4 hfu f_v3 f_v4
    have := f_v4.2
    omega
  | succ n ih =>
    intro v3 v4 hfu f_v3 f_v4
    rw [mL_bitten_L5]
    refine s_if (fun c1 => ?_) (fun c1 => ?_)
    ·
      have f2 : R 5 5 v4 := le_lo (⟨by decide, by decide⟩ : R 5 5 (5 : Int32)) f_v4 c1
      exact s_some (r_w f_v3 (by decide))
    ·
      have f3 : R 0 4 v4 := lt_hi f_v4 (⟨by decide, by decide⟩ : R 5 5 (5 : Int32)) (nle_lt c1) (by decide)
      refine s_bd (sf_L_lengthOf p0 v4 i_h0) (fun r1 f4 => ?_)
      refine s_jn1 (P := fun (x3 : Int32) => R (-2147483648) 7 x3) (fun x3 f8 => ?_) (fun j2 kj2 => ?_)
      ·
        refine s_lt (fun x4 e9 => ?_)
        exact ih x4 (v4 + 1) (fu_su hfu (i_inc f3 (k := 1) rfl (by decide)) (by decide)) (r_w (r_full x4) (by decide)) (r_w (r_add f3 (⟨by decide, by decide⟩ : R 1 1 (1 : Int32)) (by decide) : R 1 5 (v4 + 1)) (by decide))
      ·
        refine s_if (fun c10 => ?_) (fun c10 => ?_)
        ·
          have f11 : R (-2147483648) 4 p1 := le_hi f_p1 f3 c10
          exact kj2 _ (r_w (r_min f4 f_p2 (by decide) : R (-2147483648) 7 (imin r1 p2)) (by decide))
        ·
          have f12 : R 1 2147483647 p1 := lt_lo f3 f_p1 (nle_lt c10) (by decide)
          exact kj2 _ (r_w f4 (by decide))
theorem sf_L_bitten (p0 : Int32) (p1 : Int32) (p2 : Int32) {h0 : PH} (i_h0 : Inv h0) : Sf (mL_bitten p0 p1 p2 h0) (fun r => R (-2147483648) 2147483647 r) := by
  unfold mL_bitten
  refine sl_L_bitten_L5 p0 p1 p2 h0 (r_w (r_full p0) (by decide)) (r_w (r_full p1) (by decide)) (r_w (r_full p2) (by decide)) i_h0 FU 0 0 (fu_up (⟨by decide, by decide⟩ : R 0 0 (0 : Int32)) (by decide)) (r_w (⟨by decide, by decide⟩ : R 0 0 (0 : Int32)) (by decide)) (r_w (⟨by decide, by decide⟩ : R 0 0 (0 : Int32)) (by decide))
theorem sf_L_isLost (p1 : Int32) {h0 : PH} (i_h0 : Inv h0) : Sf (mL_isLost p1 h0) (fun r => R 0 1 r) := by
  unfold mL_isLost
  refine s_lt (fun x1 e1 => ?_)
  refine s_if (fun c2 => ?_) (fun c2 => ?_)
  ·
    have f3 : R (-2147483648) (-1) x1 := lt_hi (r_full x1) (⟨by decide, by decide⟩ : R 0 0 (0 : Int32)) c2 (by decide)
    exact s_some (r_w (⟨by decide, by decide⟩ : R 0 0 (0 : Int32)) (by decide))
  ·
    have f4 : R 0 2147483647 x1 := le_lo (⟨by decide, by decide⟩ : R 0 0 (0 : Int32)) (r_full x1) (nlt_le c2)
    refine s_if (fun c5 => ?_) (fun c5 => ?_)
    ·
      have f6 : R 1024 2147483647 x1 := le_lo (⟨by decide, by decide⟩ : R 1024 1024 (1024 : Int32)) f4 c5
      exact s_some (r_w (⟨by decide, by decide⟩ : R 0 0 (0 : Int32)) (by decide))
    ·
      have f7 : R 0 1023 x1 := lt_hi f4 (⟨by decide, by decide⟩ : R 1024 1024 (1024 : Int32)) (nle_lt c5) (by decide)
      refine s_ck f7 (by decide) ?_
      refine s_if (fun c8 => ?_) (fun c8 => ?_)
      ·
        have f9 : R 1 1 (((h0 103 (ix x1)) >>> ((p1 &&& 31) &&& 31)) &&& 1) := r_eq (⟨by decide, by decide⟩ : R 1 1 (1 : Int32)) c8
        exact s_some (r_w (⟨by decide, by decide⟩ : R 1 1 (1 : Int32)) (by decide))
      ·
        have f10 : R 0 0 (((h0 103 (ix x1)) >>> ((p1 &&& 31) &&& 31)) &&& 1) := r_ne_hi (r_and (⟨by decide, by decide⟩ : R 1 1 (1 : Int32)) (by decide) : R 0 1 (((h0 103 (ix x1)) >>> ((p1 &&& 31) &&& 31)) &&& 1)) (⟨by decide, by decide⟩ : R 1 1 (1 : Int32)) c8 (by decide)
        exact s_some (r_w (⟨by decide, by decide⟩ : R 0 0 (0 : Int32)) (by decide))
theorem sl_L_winningBite_L16 (p1 : Int32) (p2 : Int32) (p3 : Int32) (h0 : PH) (k0 : Option (Int32)) (f_p1 : R (-2147483648) 2147483647 p1) (f_p2 : R 0 4 p2) (f_p3 : R 0 7 p3) (i_h0 : Inv h0) (hk_k0 : Sf k0 (fun r => R (-1) 46 r)) : ∀ (n : Nat) (v4 : Int32), 7 - v4.toInt < (n : Int) → R 0 7 v4 → Sf (mL_winningBite_L16 p1 p2 p3 h0 k0 n v4) (fun r => R (-1) 46 r) := by
  intro n
  induction n with
  | zero =>
    intro v4 hfu f_v4
    have := f_v4.2
    omega
  | succ n ih =>
    intro v4 hfu f_v4
    rw [mL_winningBite_L16]
    refine s_if (fun c1 => ?_) (fun c1 => ?_)
    ·
      exact hk_k0
    ·
      have f2 : R 0 6 v4 := lt_hi f_v4 f_p3 (nle_lt c1) (by decide)
      have f3 : R 1 7 p3 := lt_lo f_v4 f_p3 (nle_lt c1) (by decide)
      refine s_bd (sf_L_bitten p1 p2 v4 i_h0) (fun r2 f4 => ?_)
      refine s_bd (sf_L_isLost r2 i_h0) (fun r3 f5 => ?_)
      refine s_if (fun c6 => ?_) (fun c6 => ?_)
      ·
        have f7 : R 0 0 r3 := r_eq (⟨by decide, by decide⟩ : R 0 0 (0 : Int32)) c6
        exact ih (v4 + 1) (fu_su hfu (i_inc f2 (k := 1) rfl (by decide)) (by decide)) (r_w (r_add f2 (⟨by decide, by decide⟩ : R 1 1 (1 : Int32)) (by decide) : R 1 7 (v4 + 1)) (by decide))
      ·
        have f8 : R 1 1 r3 := r_ne_lo f5 (⟨by decide, by decide⟩ : R 0 0 (0 : Int32)) c6 (by decide)
        exact s_some (r_w (r_add (r_mul (⟨by decide, by decide⟩ : R 10 10 (10 : Int32)) f_p2 (by decide) : R 0 40 (10 * p2)) f2 (by decide) : R 0 46 ((10 * p2) + v4)) (by decide))
theorem sl_L_winningBite_L2 (p1 : Int32) (h0 : PH) (f_p1 : R (-2147483648) 2147483647 p1) (i_h0 : Inv h0) : ∀ (n : Nat) (v2 : Int32), 5 - v2.toInt < (n : Int) → R 0 5 v2 → Sf (mL_winningBite_L2 p1 h0 n v2) (fun r => R (-1) 46 r) := by
  intro n
  induction n with
  | zero =>
    intro v2 hfu f_v2
    have := f_v2.2
    omega
  | succ n ih =>
    intro v2 hfu f_v2
    rw [mL_winningBite_L2]
    refine s_if (fun c1 => ?_) (fun c1 => ?_)
    ·
      have f2 : R 5 5 v2 := le_lo (⟨by decide, by decide⟩ : R 5 5 (5 : Int32)) f_v2 c1
      exact s_some (r_w (⟨by decide, by decide⟩ : R (-1) (-1) (-1 : Int32)) (by decide))
    ·
      have f3 : R 0 4 v2 := lt_hi f_v2 (⟨by decide, by decide⟩ : R 5 5 (5 : Int32)) (nle_lt c1) (by decide)
      refine s_bd (sf_L_lengthOf p1 v2 i_h0) (fun r1 f4 => ?_)
      refine sl_L_winningBite_L16 p1 v2 r1 h0 _ (r_w f_p1 (by decide)) (r_w f3 (by decide)) (r_w f4 (by decide)) i_h0 ?_ FU 0 (fu_up (⟨by decide, by decide⟩ : R 0 0 (0 : Int32)) (by decide)) (r_w (⟨by decide, by decide⟩ : R 0 0 (0 : Int32)) (by decide))
      ·
        exact ih (v2 + 1) (fu_su hfu (i_inc f3 (k := 1) rfl (by decide)) (by decide)) (r_w (r_add f3 (⟨by decide, by decide⟩ : R 1 1 (1 : Int32)) (by decide) : R 1 5 (v2 + 1)) (by decide))
theorem sf_L_winningBite (p1 : Int32) {h0 : PH} (i_h0 : Inv h0) : Sf (mL_winningBite p1 h0) (fun r => R (-1) 46 r) := by
  unfold mL_winningBite
  refine sl_L_winningBite_L2 p1 h0 (r_w (r_full p1) (by decide)) i_h0 FU 0 (fu_up (⟨by decide, by decide⟩ : R 0 0 (0 : Int32)) (by decide)) (r_w (⟨by decide, by decide⟩ : R 0 0 (0 : Int32)) (by decide))
theorem sl_K_leastShare_L45 (a0 : Nat) (p2 : Int32) (f0 : Nat → Int32 → Int32 → PH → Option (Int32)) (h0 : PH) (hb_a0 : isR a0) (f_p2 : R 2 9 p2) (hf_f0 : ∀ (y : Int32) (h : PH), R 0 400 y → Inv h → Sf (f0 a0 y (p2 - 1) h) (fun r => R (-2147483648) 2147483647 r)) (i_h0 : Inv h0) : ∀ (n : Nat) (v3 : Int32) (v4 : Int32) (v5 : Int32), 401 - v5.toInt < (n : Int) → R (-2147483648) 2147483647 v3 → R (-1) 2147483647 v4 → R 1 401 v5 → Sf (mK_leastShare_L45 a0 p2 f0 h0 n v3 v4 v5) (fun r => R (-2147483648) 2147483647 r) := by
  intro n
  induction n with
  | zero =>
    intro v3 v4 v5 hfu f_v3 f_v4 f_v5
    have := f_v5.2
    omega
  | succ n ih =>
    intro v3 v4 v5 hfu f_v3 f_v4 f_v5
    rw [mK_leastShare_L45]
    refine s_if (fun c1 => ?_) (fun c1 => ?_)
    ·
      exact s_some (r_w f_v4 (by decide))
    ·
      have f2 : R 1 399 v5 := le_hi f_v5 (r_sub (rows_rng hb_a0 i_h0) (r_sub f_p2 (⟨by decide, by decide⟩ : R 1 1 (1 : Int32)) (by decide) : R 1 8 (p2 - 1)) (by decide) : R (-8) 399 ((h0 a0 3) - (p2 - 1))) (nlt_le c1)
      have f3 : R 1 399 ((h0 a0 3) - (p2 - 1)) := le_lo f_v5 (r_sub (rows_rng hb_a0 i_h0) (r_sub f_p2 (⟨by decide, by decide⟩ : R 1 1 (1 : Int32)) (by decide) : R 1 8 (p2 - 1)) (by decide) : R (-8) 399 ((h0 a0 3) - (p2 - 1))) (nlt_le c1)
      refine s_bd (sf_R_at (a0) (v5 - 1) 0 hb_a0 i_h0) (fun r2 f4 => ?_)
      refine s_lt (fun x3 e5 => ?_)
      refine s_bd (hf_f0 _ _ (r_w f2 (by decide)) i_h0) (fun r4 f6 => ?_)
      refine s_lt (fun x5 e7 => ?_)
      have f8 : R (-1) 2147483647 x5 := by rw [e7]; exact (r_max f_v4 (r_min (r_full x3) (r_full r4) (by decide) : R (-2147483648) 2147483647 (imin x3 r4)) (by decide) : R (-1) 2147483647 (imax v4 (imin x3 r4)))
      exact ih x3 x5 (v5 + 1) (fu_su hfu (i_inc f2 (k := 1) rfl (by decide)) (by decide)) (r_w (r_full x3) (by decide)) (r_w f8 (by decide)) (r_w (r_add f2 (⟨by decide, by decide⟩ : R 1 1 (1 : Int32)) (by decide) : R 2 400 (v5 + 1)) (by decide))
theorem sl_K_leastShare_L10 (a0 : Nat) (f0 : Nat → Int32 → Int32 → PH → Option (Int32)) (h0 : PH) (hb_a0 : isR a0) (i_h0 : Inv h0) : ∀ (n : Nat) (v3 : Int32) (v4 : Int32), 400 - v4.toInt < (n : Int) → R (-2147483648) 2147483647 v3 → R 0 400 v4 → Sf (mK_leastShare_L10 a0 f0 h0 n v3 v4) (fun r => R (-2147483648) 2147483647 r) := by
  intro n
  induction n with
  | zero =>
    intro v3 v4 hfu f_v3 f_v4
    have := f_v4.2
    omega
  | succ n ih =>
    intro v3 v4 hfu f_v3 f_v4
    rw [mK_leastShare_L10]
    refine s_if (fun c1 => ?_) (fun c1 => ?_)
    ·
      exact s_some (r_w f_v3 (by decide))
    ·
      have f2 : R 0 399 v4 := lt_hi f_v4 (rows_rng hb_a0 i_h0) (nle_lt c1) (by decide)
      have f3 : R 1 400 (h0 a0 3) := lt_lo f_v4 (rows_rng hb_a0 i_h0) (nle_lt c1) (by decide)
      refine s_bd (sf_R_at (a0) v4 0 hb_a0 i_h0) (fun r6 f4 => ?_)
      refine s_lt (fun x7 e5 => ?_)
      exact ih x7 (v4 + 1) (fu_su hfu (i_inc f2 (k := 1) rfl (by decide)) (by decide)) (r_w (r_full x7) (by decide)) (r_w (r_add f2 (⟨by decide, by decide⟩ : R 1 1 (1 : Int32)) (by decide) : R 1 400 (v4 + 1)) (by decide))
theorem sf_K_leastShare_F (f0 : Nat → Int32 → Int32 → PH → Option (Int32)) (a0 : Nat) (p1 : Int32) (p2 : Int32) (h0 : PH) (f_p1 : R 0 400 p1) (f_p2 : R 0 9 p2) (hf_f0 : 1 < p2 → ∀ (y : Int32) (h : PH), R 0 400 y → Inv h → Sf (f0 a0 y (p2 - 1) h) (fun r => R (-2147483648) 2147483647 r)) (hb_a0 : isR a0) (i_h0 : Inv h0) : Sf (mK_leastShare_F f0 a0 p1 p2 h0) (fun r => R (-2147483648) 2147483647 r) := by
  unfold mK_leastShare_F
  refine s_if (fun c1 => ?_) (fun c1 => ?_)
  ·
    have f2 : R 2 9 p2 := lt_lo (⟨by decide, by decide⟩ : R 1 1 (1 : Int32)) f_p2 c1 (by decide)
    refine s_lt (fun x1 e3 => ?_)
    have f4 : R 1 401 x1 := by rw [e3]; exact (r_add f_p1 (⟨by decide, by decide⟩ : R 1 1 (1 : Int32)) (by decide) : R 1 401 (p1 + 1))
    refine sl_K_leastShare_L45 (a0) p2 _ h0 hb_a0 (r_w f2 (by decide)) (hf_f0 c1) i_h0 FU 0 (-1) x1 (fu_up f4 (by decide)) (r_w (⟨by decide, by decide⟩ : R 0 0 (0 : Int32)) (by decide)) (r_w (⟨by decide, by decide⟩ : R (-1) (-1) (-1 : Int32)) (by decide)) (r_w f4 (by decide))
  ·
    have f5 : R 0 1 p2 := le_hi f_p2 (⟨by decide, by decide⟩ : R 1 1 (1 : Int32)) (nlt_le c1)
    refine sl_K_leastShare_L10 (a0) _ h0 hb_a0 i_h0 FU 0 p1 (fu_up f_p1 (by decide)) (r_w (⟨by decide, by decide⟩ : R 0 0 (0 : Int32)) (by decide)) (r_w f_p1 (by decide))
theorem sl_K_greatest_L4 (a0 : Nat) (h0 : PH) (hb_a0 : isR a0) (i_h0 : Inv h0) : ∀ (n : Nat) (v1 : Int32) (v2 : Int32), 400 - v2.toInt < (n : Int) → R 0 2147483647 v1 → R 0 400 v2 → Sf (mK_greatest_L4 a0 h0 n v1 v2) (fun r => R 0 2147483647 r) := by
  intro n
  induction n with
  | zero =>
    intro v1 v2 hfu f_v1 f_v2
    have := f_v2.2
    omega
  | succ n ih =>
    intro v1 v2 hfu f_v1 f_v2
    rw [mK_greatest_L4]
    refine s_if (fun c1 => ?_) (fun c1 => ?_)
    ·
      exact s_some (r_w f_v1 (by decide))
    ·
      have f2 : R 0 399 v2 := lt_hi f_v2 (rows_rng hb_a0 i_h0) (nle_lt c1) (by decide)
      have f3 : R 1 400 (h0 a0 3) := lt_lo f_v2 (rows_rng hb_a0 i_h0) (nle_lt c1) (by decide)
      refine s_bd (sf_R_at (a0) v2 0 hb_a0 i_h0) (fun r1 f4 => ?_)
      refine s_lt (fun x2 e5 => ?_)
      have f6 : R 0 2147483647 x2 := by rw [e5]; exact (r_max f_v1 (r_full r1) (by decide) : R 0 2147483647 (imax v1 r1))
      exact ih x2 (v2 + 1) (fu_su hfu (i_inc f2 (k := 1) rfl (by decide)) (by decide)) (r_w f6 (by decide)) (r_w (r_add f2 (⟨by decide, by decide⟩ : R 1 1 (1 : Int32)) (by decide) : R 1 400 (v2 + 1)) (by decide))
theorem sf_K_greatest (a0 : Nat) (hb_a0 : isR a0) {h0 : PH} (i_h0 : Inv h0) : Sf (mK_greatest a0 h0) (fun r => R 0 2147483647 r) := by
  unfold mK_greatest
  refine sl_K_greatest_L4 (a0) h0 hb_a0 i_h0 FU 0 0 (fu_up (⟨by decide, by decide⟩ : R 0 0 (0 : Int32)) (by decide)) (r_w (⟨by decide, by decide⟩ : R 0 0 (0 : Int32)) (by decide)) (r_w (⟨by decide, by decide⟩ : R 0 0 (0 : Int32)) (by decide))
theorem sl_K_fewestFrom_L26_20 (p2 : Int32) (p3 : Int32) (p4 : Int32) (p5 : Int32) (f0 : Nat → Int32 → Int32 → Int32 → PH → Option (Int32 × PH)) (f_p2 : R (-2147483648) 2147483647 p2) (f_p3 : R 0 7 p3) (f_p4 : R (-2147483648) 2147483647 p4) (f_p5 : R (-2147483648) 2147483647 p5) (hf_f0 : ∀ (y : Int32) (h : PH), Inv h → Sf (f0 20 p2 (p3 + 1) y h) (fun r => R (-2147483648) 2147483647 r.1 ∧ Inv r.2)) : ∀ (n : Nat) (v6 : Int32) (v7 : Int32) (hv : PH), 8 - v7.toInt < (n : Int) → R (-2147483648) 8 v6 → R 0 8 v7 → Inv hv → Sf (mK_fewestFrom_L26 20 p2 p3 p4 p5 f0 n v6 v7 hv) (fun r => R (-2147483648) 2147483647 r.1 ∧ Inv r.2) := by
  intro n
  induction n with
  | zero =>
    intro v6 v7 hv hfu f_v6 f_v7 i_hv
    have := f_v7.2
    omega
  | succ n ih =>
    intro v6 v7 hv hfu f_v6 f_v7 i_hv
    rw [mK_fewestFrom_L26]
    refine s_if (fun c1 => ?_) (fun c1 => ?_)
    ·
      have f2 : R (-2147483648) 7 p4 := lt_hi f_p4 f_v7 c1 (by decide)
      exact s_some ⟨r_w f_v6 (by decide), i_hv⟩
    ·
      have f3 : R 0 2147483647 p4 := le_lo f_v7 f_p4 (nlt_le c1)
      refine s_if (fun c4 => ?_) (fun c4 => ?_)
      ·
        have f5 : R 8 8 v7 := le_lo (⟨by decide, by decide⟩ : R 8 8 (8 : Int32)) f_v7 c4
        exact s_some ⟨r_w f_v6 (by decide), i_hv⟩
      ·
        have f6 : R 0 7 v7 := lt_hi f_v7 (⟨by decide, by decide⟩ : R 8 8 (8 : Int32)) (nle_lt c4) (by decide)
        refine s_jn1 (P := fun (x3 : Int32) => R (-2147483648) 2147483647 x3) (fun x3 f10 => ?_) (fun j2 kj2 => ?_)
        ·
          refine s_if (fun c11 => ?_) (fun c11 => ?_)
          ·
            have f12 : R (-2147483648) 2147483646 p2 := lt_hi f_p2 (r_full (x3 + p5)) c11 (by decide)
            have f13 : R (-2147483647) 2147483647 (x3 + p5) := lt_lo f_p2 (r_full (x3 + p5)) c11 (by decide)
            exact ih v6 (v7 + 1) hv (fu_su hfu (i_inc f6 (k := 1) rfl (by decide)) (by decide)) (r_w f_v6 (by decide)) (r_w (r_add f6 (⟨by decide, by decide⟩ : R 1 1 (1 : Int32)) (by decide) : R 1 8 (v7 + 1)) (by decide)) i_hv
          ·
            refine s_ck f6 (by decide) ?_
            refine s_lt (fun h4 e14 => ?_)
            have i15 : Inv h4 := by rw [e14]; exact inv_put i_hv rfl (r_w (r_full (x3 + p5)) (by decide))
            refine s_bd2 (hf_f0 _ _ i15) (fun r5 h6 f16 => ?_)
            refine s_lt (fun x7 e17 => ?_)
            have f18 : R (-2147483648) 8 x7 := by rw [e17]; exact (r_min f_v6 (r_full r5) (by decide) : R (-2147483648) 8 (imin v6 r5))
            refine s_ck f6 (by decide) ?_
            refine s_lt (fun h8 e19 => ?_)
            have i20 : Inv h8 := by rw [e19]; exact inv_put f16.2 rfl (r_w (r_full x3) (by decide))
            exact ih x7 (v7 + 1) h8 (fu_su hfu (i_inc f6 (k := 1) rfl (by decide)) (by decide)) (r_w f18 (by decide)) (r_w (r_add f6 (⟨by decide, by decide⟩ : R 1 1 (1 : Int32)) (by decide) : R 1 8 (v7 + 1)) (by decide)) i20
        ·
          refine s_if (fun c21 => ?_) (fun c21 => ?_)
          ·
            have f22 : R 0 7 p4 := le_hi f3 f6 c21
            exact kj2 _ (r_w (⟨by decide, by decide⟩ : R 0 0 (0 : Int32)) (by decide))
          ·
            have f23 : R 1 2147483647 p4 := lt_lo f6 f3 (nle_lt c21) (by decide)
            refine s_ck f6 (by decide) ?_
            exact kj2 _ (r_w (r_full (hv 99 (ix v7))) (by decide))
theorem sf_K_fewestFrom_F_20 (f0 : Nat → Int32 → Int32 → Int32 → PH → Option (Int32 × PH)) (p2 : Int32) (p3 : Int32) (p4 : Int32) (h0 : PH) (f_p3 : R 0 8 p3) (hf_f0 : p3 < (h0 20 3) → ∀ (y : Int32) (h : PH), Inv h → Sf (f0 20 p2 (p3 + 1) y h) (fun r => R (-2147483648) 2147483647 r.1 ∧ Inv r.2)) (i_h0 : Inv h0) : Sf (mK_fewestFrom_F f0 20 p2 p3 p4 h0) (fun r => R (-2147483648) 2147483647 r.1 ∧ Inv r.2) := by
  unfold mK_fewestFrom_F
  refine s_if (fun c1 => ?_) (fun c1 => ?_)
  ·
    have f2 : R 0 7 p3 := lt_hi f_p3 (inv_rng i_h0 rfl : R 0 8 (h0 20 3)) c1 (by decide)
    have f3 : R 1 8 (h0 20 3) := lt_lo f_p3 (inv_rng i_h0 rfl : R 0 8 (h0 20 3)) c1 (by decide)
    refine s_bd (sf_R_at (20) p3 0 isR_20 i_h0) (fun r1 f4 => ?_)
    refine sl_K_fewestFrom_L26_20 p2 p3 p4 r1 _ (r_w (r_full p2) (by decide)) (r_w f2 (by decide)) (r_w (r_full p4) (by decide)) (r_w (r_full r1) (by decide)) (hf_f0 c1) FU 8 0 h0 (fu_up (⟨by decide, by decide⟩ : R 0 0 (0 : Int32)) (by decide)) (r_w (⟨by decide, by decide⟩ : R 8 8 (8 : Int32)) (by decide)) (r_w (⟨by decide, by decide⟩ : R 0 0 (0 : Int32)) (by decide)) i_h0
  ·
    exact s_some ⟨r_w (r_full p4) (by decide), i_h0⟩
theorem sl_K_firstFitPans_L26 (a1 : Nat) (p2 : Int32) (p3 : Int32) (p4 : Int32) (p5 : Int32) (h0 : PH) (k0 : Int32 → Option (Int32 × PH)) (hb_a1 : isR a1) (f_p2 : R (-2147483648) 2147483647 p2) (f_p3 : R 0 8 p3) (f_p4 : R 0 399 p4) (f_p5 : R (-2147483648) 2147483647 p5) (i_h0 : Inv h0) (hk_k0 : ∀ (y0 : Int32), R 0 8 y0 → Sf (k0 y0) (fun r => R 0 8 r.1 ∧ Inv r.2)) : ∀ (n : Nat) (v6 : Int32), 8 - v6.toInt < (n : Int) → R 0 8 v6 → Sf (mK_firstFitPans_L26 a1 p2 p3 p4 p5 h0 k0 n v6) (fun r => R 0 8 r.1 ∧ Inv r.2) := by
  intro n
  induction n with
  | zero =>
    intro v6 hfu f_v6
    have := f_v6.2
    omega
  | succ n ih =>
    intro v6 hfu f_v6
    rw [mK_firstFitPans_L26]
    refine s_if (fun c1 => ?_) (fun c1 => ?_)
    ·
      exact hk_k0 _ (r_w f_v6 (by decide))
    ·
      have f2 : R 0 7 v6 := lt_hi f_v6 f_p3 (nle_lt c1) (by decide)
      have f3 : R 1 8 p3 := lt_lo f_v6 f_p3 (nle_lt c1) (by decide)
      refine s_ck f2 (by decide) ?_
      refine s_if (fun c4 => ?_) (fun c4 => ?_)
      ·
        exact hk_k0 _ (r_w f2 (by decide))
      ·
        have f5 : R (-2147483648) 2147483646 p2 := lt_hi f_p2 (r_full ((h0 99 (ix v6)) + p5)) (nle_lt c4) (by decide)
        have f6 : R (-2147483647) 2147483647 ((h0 99 (ix v6)) + p5) := lt_lo f_p2 (r_full ((h0 99 (ix v6)) + p5)) (nle_lt c4) (by decide)
        exact ih (v6 + 1) (fu_su hfu (i_inc f2 (k := 1) rfl (by decide)) (by decide)) (r_w (r_add f2 (⟨by decide, by decide⟩ : R 1 1 (1 : Int32)) (by decide) : R 1 8 (v6 + 1)) (by decide))
theorem sl_K_firstFitPans_L5 (a1 : Nat) (p2 : Int32) (hb_a1 : isR a1) (f_p2 : R (-2147483648) 2147483647 p2) : ∀ (n : Nat) (v3 : Int32) (v4 : Int32) (hv : PH), 400 - v4.toInt < (n : Int) → R 0 8 v3 → R 0 400 v4 → Inv hv → Sf (mK_firstFitPans_L5 a1 p2 n v3 v4 hv) (fun r => R 0 8 r.1 ∧ Inv r.2) := by
  intro n
  induction n with
  | zero =>
    intro v3 v4 hv hfu f_v3 f_v4 i_hv
    have := f_v4.2
    omega
  | succ n ih =>
    intro v3 v4 hv hfu f_v3 f_v4 i_hv
    rw [mK_firstFitPans_L5]
    refine s_if (fun c1 => ?_) (fun c1 => ?_)
    ·
      exact s_some ⟨r_w f_v3 (by decide), i_hv⟩
    ·
      have f2 : R 0 399 v4 := lt_hi f_v4 (rows_rng hb_a1 i_hv) (nle_lt c1) (by decide)
      have f3 : R 1 400 (hv a1 3) := lt_lo f_v4 (rows_rng hb_a1 i_hv) (nle_lt c1) (by decide)
      refine s_bd (sf_R_at (a1) v4 0 hb_a1 i_hv) (fun r1 f4 => ?_)
      refine sl_K_firstFitPans_L26 (a1) p2 v3 v4 r1 hv _ hb_a1 (r_w f_p2 (by decide)) (r_w f_v3 (by decide)) (r_w f2 (by decide)) (r_w (r_full r1) (by decide)) i_hv ?_ FU 0 (fu_up (⟨by decide, by decide⟩ : R 0 0 (0 : Int32)) (by decide)) (r_w (⟨by decide, by decide⟩ : R 0 0 (0 : Int32)) (by decide))
      ·
        intro x2 f5
        refine s_if (fun c6 => ?_) (fun c6 => ?_)
        ·
          have f7 : R 8 8 x2 := le_lo (⟨by decide, by decide⟩ : R 8 8 (8 : Int32)) f5 c6
          exact ih v3 (v4 + 1) hv (fu_su hfu (i_inc f2 (k := 1) rfl (by decide)) (by decide)) (r_w f_v3 (by decide)) (r_w (r_add f2 (⟨by decide, by decide⟩ : R 1 1 (1 : Int32)) (by decide) : R 1 400 (v4 + 1)) (by decide)) i_hv
        ·
          have f8 : R 0 7 x2 := lt_hi f5 (⟨by decide, by decide⟩ : R 8 8 (8 : Int32)) (nle_lt c6) (by decide)
          refine s_jn1 (P := fun (x4 : Int32) => R (-2147483648) 2147483647 x4) (fun x4 f12 => ?_) (fun j3 kj3 => ?_)
          ·
            refine s_ck f8 (by decide) ?_
            refine s_lt (fun h5 e13 => ?_)
            have i14 : Inv h5 := by rw [e13]; exact inv_put i_hv rfl (r_w (r_full x4) (by decide))
            refine s_lt (fun x6 e15 => ?_)
            have f16 : R 1 8 x6 := by rw [e15]; exact (r_max f_v3 (r_add f8 (⟨by decide, by decide⟩ : R 1 1 (1 : Int32)) (by decide) : R 1 8 (x2 + 1)) (by decide) : R 1 8 (imax v3 (x2 + 1)))
            exact ih x6 (v4 + 1) h5 (fu_su hfu (i_inc f2 (k := 1) rfl (by decide)) (by decide)) (r_w f16 (by decide)) (r_w (r_add f2 (⟨by decide, by decide⟩ : R 1 1 (1 : Int32)) (by decide) : R 1 400 (v4 + 1)) (by decide)) i14
          ·
            refine s_if (fun c17 => ?_) (fun c17 => ?_)
            ·
              have f18 : R 0 7 v3 := le_hi f_v3 f8 c17
              exact kj3 _ (r_w (r_full r1) (by decide))
            ·
              have f19 : R 1 8 v3 := lt_lo f8 f_v3 (nle_lt c17) (by decide)
              refine s_ck f8 (by decide) ?_
              exact kj3 _ (r_w (r_full ((hv 99 (ix x2)) + r1)) (by decide))
theorem sf_K_firstFitPans (a1 : Nat) (p2 : Int32) (hb_a1 : isR a1) {h0 : PH} (i_h0 : Inv h0) : Sf (mK_firstFitPans a1 p2 h0) (fun r => R 0 8 r.1 ∧ Inv r.2) := by
  unfold mK_firstFitPans
  refine sl_K_firstFitPans_L5 (a1) p2 hb_a1 (r_w (r_full p2) (by decide)) FU 0 0 h0 (fu_up (⟨by decide, by decide⟩ : R 0 0 (0 : Int32)) (by decide)) (r_w (⟨by decide, by decide⟩ : R 0 0 (0 : Int32)) (by decide)) (r_w (⟨by decide, by decide⟩ : R 0 0 (0 : Int32)) (by decide)) i_h0
theorem sl_K_payOff_L9 (p1 : Int32) (p2 : Int32) (p3 : Int32) (h0 : PH) (k0 : Int32 → Int32 → Option (Int32)) (f_p1 : R (-2147483648) 2147483647 p1) (f_p2 : R (-2147483648) 2147483647 p2) (f_p3 : R (-2147483648) 2147483647 p3) (i_h0 : Inv h0) (hk_k0 : ∀ (y0 : Int32) (y1 : Int32), R (-2147483648) 2147483647 y0 → R 1 400 y1 → Sf (k0 y0 y1) (fun r => R (-2147483648) 2147483647 r)) : ∀ (n : Nat) (v4 : Int32) (v5 : Int32) (v6 : Int32), 401 - v6.toInt < (n : Int) → R (-2147483648) 2147483647 v4 → R (-2147483648) 2147483647 v5 → R 1 401 v6 → Sf (mK_payOff_L9 p1 p2 p3 h0 k0 n v4 v5 v6) (fun r => R (-2147483648) 2147483647 r) := by
  intro n
  induction n with
  | zero =>
    intro v4 v5 v6 hfu f_v4 f_v5 f_v6
    have := f_v6.2
    omega
  | succ n ih =>
    intro v4 v5 v6 hfu f_v4 f_v5 f_v6
    rw [mK_payOff_L9]
    refine s_if (fun c1 => ?_) (fun c1 => ?_)
    ·
      have f2 : R 401 401 v6 := lt_lo (⟨by decide, by decide⟩ : R 400 400 (400 : Int32)) f_v6 c1 (by decide)
      exact s_some (r_w (⟨by decide, by decide⟩ : R (-1) (-1) (-1 : Int32)) (by decide))
    ·
      have f3 : R 1 400 v6 := le_hi f_v6 (⟨by decide, by decide⟩ : R 400 400 (400 : Int32)) (nlt_le c1)
      refine s_dz (⟨by decide, by decide⟩ : R 100 100 (100 : Int32)) (by decide) ?_
      refine s_lt (fun x1 e4 => ?_)
      refine s_lt (fun x2 e5 => ?_)
      refine s_lt (fun x3 e6 => ?_)
      refine s_if (fun c7 => ?_) (fun c7 => ?_)
      ·
        exact hk_k0 _ _ (r_w (r_full x3) (by decide)) (r_w f3 (by decide))
      ·
        refine s_if (fun c8 => ?_) (fun c8 => ?_)
        ·
          have f9 : R (-2147483648) 2147483646 (x1 - x2) := lt_hi (r_full (x1 - x2)) f_v4 c8 (by decide)
          have f10 : R (-2147483647) 2147483647 v4 := lt_lo (r_full (x1 - x2)) f_v4 c8 (by decide)
          refine s_lt (fun x4 e11 => ?_)
          have f12 : R (-2147483648) 2147483646 x4 := by rw [e11]; exact f9
          exact ih x4 x3 (v6 + 1) (fu_su hfu (i_inc f3 (k := 1) rfl (by decide)) (by decide)) (r_w f12 (by decide)) (r_w (r_full x3) (by decide)) (r_w (r_add f3 (⟨by decide, by decide⟩ : R 1 1 (1 : Int32)) (by decide) : R 2 401 (v6 + 1)) (by decide))
        ·
          exact s_some (r_w (⟨by decide, by decide⟩ : R (-1) (-1) (-1 : Int32)) (by decide))
theorem sf_K_payOff (p0 : Int32) (p1 : Int32) (p2 : Int32) (p3 : Int32) {h0 : PH} (i_h0 : Inv h0) : Sf (mK_payOff p0 p1 p2 p3 h0) (fun r => R (-2147483648) 2147483647 r) := by
  unfold mK_payOff
  refine sl_K_payOff_L9 p1 p2 p3 h0 _ (r_w (r_full p1) (by decide)) (r_w (r_full p2) (by decide)) (r_w (r_full p3) (by decide)) i_h0 ?_ FU p0 0 1 (fu_up (⟨by decide, by decide⟩ : R 1 1 (1 : Int32)) (by decide)) (r_w (r_full p0) (by decide)) (r_w (⟨by decide, by decide⟩ : R 0 0 (0 : Int32)) (by decide)) (r_w (⟨by decide, by decide⟩ : R 1 1 (1 : Int32)) (by decide))
  ·
    intro x5 x6 f1 f2
    refine s_if (fun c3 => ?_) (fun c3 => ?_)
    ·
      have f4 : R 0 0 p3 := r_eq (⟨by decide, by decide⟩ : R 0 0 (0 : Int32)) c3
      exact s_some (r_w (r_full x5) (by decide))
    ·
      exact s_some (r_w f2 (by decide))
theorem sl_K_biters_L5 (a0 : Nat) (p1 : Int32) (p2 : Int32) (h0 : PH) (hb_a0 : isR a0) (f_p1 : R (-2147483648) 2147483647 p1) (f_p2 : R (-2147483648) 2147483647 p2) (i_h0 : Inv h0) : ∀ (n : Nat) (v3 : Int32) (v4 : Int32), 400 - v4.toInt < (n : Int) → R (-2147483648) 2147483647 v3 → R 0 400 v4 → Sf (mK_biters_L5 a0 p1 p2 h0 n v3 v4) (fun r => R (-2147483648) 2147483647 r) := by
  intro n
  induction n with
  | zero =>
    intro v3 v4 hfu f_v3 f_v4
    have := f_v4.2
    omega
  | succ n ih =>
    intro v3 v4 hfu f_v3 f_v4
    rw [mK_biters_L5]
    refine s_if (fun c1 => ?_) (fun c1 => ?_)
    ·
      exact s_some (r_w f_v3 (by decide))
    ·
      have f2 : R 0 399 v4 := lt_hi f_v4 (rows_rng hb_a0 i_h0) (nle_lt c1) (by decide)
      have f3 : R 1 400 (h0 a0 3) := lt_lo f_v4 (rows_rng hb_a0 i_h0) (nle_lt c1) (by decide)
      refine s_bd (sf_R_at (a0) v4 0 hb_a0 i_h0) (fun r1 f4 => ?_)
      refine s_if (fun c5 => ?_) (fun c5 => ?_)
      ·
        refine s_bd (sf_R_at (a0) v4 1 hb_a0 i_h0) (fun r2 f6 => ?_)
        refine s_if (fun c7 => ?_) (fun c7 => ?_)
        ·
          have f8 : R (-2147483648) 2147483646 r2 := lt_hi (r_full r2) f_p2 c7 (by decide)
          have f9 : R (-2147483647) 2147483647 p2 := lt_lo (r_full r2) f_p2 c7 (by decide)
          exact ih v3 (v4 + 1) (fu_su hfu (i_inc f2 (k := 1) rfl (by decide)) (by decide)) (r_w f_v3 (by decide)) (r_w (r_add f2 (⟨by decide, by decide⟩ : R 1 1 (1 : Int32)) (by decide) : R 1 400 (v4 + 1)) (by decide))
        ·
          refine s_lt (fun x3 e10 => ?_)
          exact ih x3 (v4 + 1) (fu_su hfu (i_inc f2 (k := 1) rfl (by decide)) (by decide)) (r_w (r_full x3) (by decide)) (r_w (r_add f2 (⟨by decide, by decide⟩ : R 1 1 (1 : Int32)) (by decide) : R 1 400 (v4 + 1)) (by decide))
      ·
        exact ih v3 (v4 + 1) (fu_su hfu (i_inc f2 (k := 1) rfl (by decide)) (by decide)) (r_w f_v3 (by decide)) (r_w (r_add f2 (⟨by decide, by decide⟩ : R 1 1 (1 : Int32)) (by decide) : R 1 400 (v4 + 1)) (by decide))
theorem sf_K_biters (a0 : Nat) (p1 : Int32) (p2 : Int32) (hb_a0 : isR a0) {h0 : PH} (i_h0 : Inv h0) : Sf (mK_biters a0 p1 p2 h0) (fun r => R (-2147483648) 2147483647 r) := by
  unfold mK_biters
  refine sl_K_biters_L5 (a0) p1 p2 h0 hb_a0 (r_w (r_full p1) (by decide)) (r_w (r_full p2) (by decide)) i_h0 FU 0 0 (fu_up (⟨by decide, by decide⟩ : R 0 0 (0 : Int32)) (by decide)) (r_w (⟨by decide, by decide⟩ : R 0 0 (0 : Int32)) (by decide)) (r_w (⟨by decide, by decide⟩ : R 0 0 (0 : Int32)) (by decide))
theorem sl_K_walk_L26 (a1 : Nat) (p2 : Int32) (hb_a1 : isR a1) (f_p2 : R 0 16 p2) : ∀ (n : Nat) (v3 : Int32) (hv : PH), 16 - v3.toInt < (n : Int) → R 0 16 v3 → Inv hv → Sf (mK_walk_L26 a1 p2 n v3 hv) (fun r => R 0 16 r.1 ∧ Inv r.2) := by
  intro n
  induction n with
  | zero =>
    intro v3 hv hfu f_v3 i_hv
    have := f_v3.2
    omega
  | succ n ih =>
    intro v3 hv hfu f_v3 i_hv
    rw [mK_walk_L26]
    refine s_if (fun c1 => ?_) (fun c1 => ?_)
    ·
      exact s_some ⟨r_w f_p2 (by decide), i_hv⟩
    ·
      have f2 : R 0 15 v3 := lt_hi f_v3 f_p2 (nle_lt c1) (by decide)
      have f3 : R 1 16 p2 := lt_lo f_v3 f_p2 (nle_lt c1) (by decide)
      refine s_bd (sf_R_at (a1) v3 0 hb_a1 i_hv) (fun r4 f4 => ?_)
      refine s_ck f2 (by decide) ?_
      refine s_jn1 (P := fun (x6 : Int32) => R (-1) 1 x6) (fun x6 f9 => ?_) (fun j5 kj5 => ?_)
      ·
        refine s_ck (r_add f2 (⟨by decide, by decide⟩ : R 1 1 (1 : Int32)) (by decide) : R 1 16 (v3 + 1)) (by decide) ?_
        refine s_lt (fun h7 e10 => ?_)
        have i11 : Inv h7 := by rw [e10]; exact inv_put i_hv rfl (r_w (r_full ((hv 100 (ix v3)) + x6)) (by decide))
        refine s_ck f2 (by decide) ?_
        refine s_jn1 (P := fun (x9 : Int32) => R (-1) 1 x9) (fun x9 f16 => ?_) (fun j8 kj8 => ?_)
        ·
          refine s_ck (r_add f2 (⟨by decide, by decide⟩ : R 1 1 (1 : Int32)) (by decide) : R 1 16 (v3 + 1)) (by decide) ?_
          refine s_lt (fun h10 e17 => ?_)
          have i18 : Inv h10 := by rw [e17]; exact inv_put i11 rfl (r_w (r_full ((h7 101 (ix v3)) + x9)) (by decide))
          exact ih (v3 + 1) h10 (fu_su hfu (i_inc f2 (k := 1) rfl (by decide)) (by decide)) (r_w (r_add f2 (⟨by decide, by decide⟩ : R 1 1 (1 : Int32)) (by decide) : R 1 16 (v3 + 1)) (by decide)) i18
        ·
          refine s_if (fun c19 => ?_) (fun c19 => ?_)
          ·
            have f20 : R 1 1 r4 := r_eq (⟨by decide, by decide⟩ : R 1 1 (1 : Int32)) c19
            exact kj8 _ (r_w (⟨by decide, by decide⟩ : R 1 1 (1 : Int32)) (by decide))
          ·
            refine s_if (fun c21 => ?_) (fun c21 => ?_)
            ·
              have f22 : R 3 3 r4 := r_eq (⟨by decide, by decide⟩ : R 3 3 (3 : Int32)) c21
              exact kj8 _ (r_w (⟨by decide, by decide⟩ : R (-1) (-1) (-1 : Int32)) (by decide))
            ·
              exact kj8 _ (r_w (⟨by decide, by decide⟩ : R 0 0 (0 : Int32)) (by decide))
      ·
        refine s_if (fun c23 => ?_) (fun c23 => ?_)
        ·
          have f24 : R 0 0 r4 := r_eq (⟨by decide, by decide⟩ : R 0 0 (0 : Int32)) c23
          exact kj5 _ (r_w (⟨by decide, by decide⟩ : R 1 1 (1 : Int32)) (by decide))
        ·
          refine s_if (fun c25 => ?_) (fun c25 => ?_)
          ·
            have f26 : R 2 2 r4 := r_eq (⟨by decide, by decide⟩ : R 2 2 (2 : Int32)) c25
            exact kj5 _ (r_w (⟨by decide, by decide⟩ : R (-1) (-1) (-1 : Int32)) (by decide))
          ·
            exact kj5 _ (r_w (⟨by decide, by decide⟩ : R 0 0 (0 : Int32)) (by decide))
theorem sf_K_walk (a1 : Nat) (hb_a1 : isR a1) {h0 : PH} (i_h0 : Inv h0) : Sf (mK_walk a1 h0) (fun r => R 0 16 r.1 ∧ Inv r.2) := by
  unfold mK_walk
  refine s_lt (fun x1 e1 => ?_)
  have f2 : R 0 16 x1 := by rw [e1]; exact (r_min (rows_rng hb_a1 i_h0) (⟨by decide, by decide⟩ : R 16 16 (16 : Int32)) (by decide) : R 0 16 (imin (h0 a1 3) 16))
  refine s_ck (⟨by decide, by decide⟩ : R 0 0 (0 : Int32)) (by decide) ?_
  refine s_lt (fun h2 e3 => ?_)
  have i4 : Inv h2 := by rw [e3]; exact inv_put i_h0 rfl (r_w (⟨by decide, by decide⟩ : R 0 0 (0 : Int32)) (by decide))
  refine s_ck (⟨by decide, by decide⟩ : R 0 0 (0 : Int32)) (by decide) ?_
  refine s_lt (fun h3 e5 => ?_)
  have i6 : Inv h3 := by rw [e5]; exact inv_put i4 rfl (r_w (⟨by decide, by decide⟩ : R 0 0 (0 : Int32)) (by decide))
  refine sl_K_walk_L26 (a1) x1 hb_a1 (r_w f2 (by decide)) FU 0 h3 (fu_up (⟨by decide, by decide⟩ : R 0 0 (0 : Int32)) (by decide)) (r_w (⟨by decide, by decide⟩ : R 0 0 (0 : Int32)) (by decide)) i6
theorem sf_K_wayHome (a1 : Nat) (hb_a1 : isR a1) {h0 : PH} (i_h0 : Inv h0) : Sf (mK_wayHome a1 h0) (fun r => R (-2147483648) 2147483647 r.1 ∧ Inv r.2) := by
  unfold mK_wayHome
  refine s_bd2 (sf_K_walk (a1) hb_a1 i_h0) (fun r1 h2 f1 => ?_)
  refine s_ck f1.1 (by decide) ?_
  refine s_ck f1.1 (by decide) ?_
  exact s_some ⟨r_w (r_full ((iabs (h2 100 (ix r1))) + (iabs (h2 101 (ix r1))))) (by decide), f1.2⟩
theorem sl_K_placesCrossed_L23 (p2 : Int32) (p3 : Int32) (p4 : Int32) (h0 : PH) (k0 : Int32 → Option (Int32 × PH)) (f_p2 : R 0 16 p2) (f_p3 : R (-2147483648) 2147483647 p3) (f_p4 : R 0 16 p4) (i_h0 : Inv h0) (hk_k0 : ∀ (y0 : Int32), R (-2147483648) 2147483647 y0 → Sf (k0 y0) (fun r => R (-2147483648) 2147483647 r.1 ∧ Inv r.2)) : ∀ (n : Nat) (v5 : Int32) (v6 : Int32), 16 - v6.toInt < (n : Int) → R (-2147483648) 2147483647 v5 → R 0 16 v6 → Sf (mK_placesCrossed_L23 p2 p3 p4 h0 k0 n v5 v6) (fun r => R (-2147483648) 2147483647 r.1 ∧ Inv r.2) := by
  intro n
  induction n with
  | zero =>
    intro v5 v6 hfu f_v5 f_v6
    have := f_v6.2
    omega
  | succ n ih =>
    intro v5 v6 hfu f_v5 f_v6
    rw [mK_placesCrossed_L23]
    refine s_if (fun c1 => ?_) (fun c1 => ?_)
    ·
      exact hk_k0 _ (r_w f_v5 (by decide))
    ·
      have f2 : R 0 15 v6 := lt_hi f_v6 f_p4 (nle_lt c1) (by decide)
      have f3 : R 1 16 p4 := lt_lo f_v6 f_p4 (nle_lt c1) (by decide)
      refine s_ck f2 (by decide) ?_
      refine s_ck f3 (by decide) ?_
      refine s_if (fun c4 => ?_) (fun c4 => ?_)
      ·
        refine s_ck f2 (by decide) ?_
        refine s_ck f3 (by decide) ?_
        refine s_if (fun c5 => ?_) (fun c5 => ?_)
        ·
          exact ih (v5 + 1) (v6 + 1) (fu_su hfu (i_inc f2 (k := 1) rfl (by decide)) (by decide)) (r_w (r_full (v5 + 1)) (by decide)) (r_w (r_add f2 (⟨by decide, by decide⟩ : R 1 1 (1 : Int32)) (by decide) : R 1 16 (v6 + 1)) (by decide))
        ·
          exact ih v5 (v6 + 1) (fu_su hfu (i_inc f2 (k := 1) rfl (by decide)) (by decide)) (r_w f_v5 (by decide)) (r_w (r_add f2 (⟨by decide, by decide⟩ : R 1 1 (1 : Int32)) (by decide) : R 1 16 (v6 + 1)) (by decide))
      ·
        exact ih v5 (v6 + 1) (fu_su hfu (i_inc f2 (k := 1) rfl (by decide)) (by decide)) (r_w f_v5 (by decide)) (r_w (r_add f2 (⟨by decide, by decide⟩ : R 1 1 (1 : Int32)) (by decide) : R 1 16 (v6 + 1)) (by decide))
theorem sl_K_placesCrossed_L11 (p2 : Int32) (h0 : PH) (f_p2 : R 0 16 p2) (i_h0 : Inv h0) : ∀ (n : Nat) (v3 : Int32) (v4 : Int32), 17 - v4.toInt < (n : Int) → R (-2147483648) 2147483647 v3 → R 0 17 v4 → Sf (mK_placesCrossed_L11 p2 h0 n v3 v4) (fun r => R (-2147483648) 2147483647 r.1 ∧ Inv r.2) := by
  intro n
  induction n with
  | zero =>
    intro v3 v4 hfu f_v3 f_v4
    have := f_v4.2
    omega
  | succ n ih =>
    intro v3 v4 hfu f_v3 f_v4
    rw [mK_placesCrossed_L11]
    refine s_if (fun c1 => ?_) (fun c1 => ?_)
    ·
      have f2 : R 1 17 v4 := lt_lo f_p2 f_v4 c1 (by decide)
      exact s_some ⟨r_w f_v3 (by decide), i_h0⟩
    ·
      have f3 : R 0 16 v4 := le_hi f_v4 f_p2 (nlt_le c1)
      refine sl_K_placesCrossed_L23 p2 v3 v4 h0 _ (r_w f_p2 (by decide)) (r_w f_v3 (by decide)) (r_w f3 (by decide)) i_h0 ?_ FU 0 0 (fu_up (⟨by decide, by decide⟩ : R 0 0 (0 : Int32)) (by decide)) (r_w (⟨by decide, by decide⟩ : R 0 0 (0 : Int32)) (by decide)) (r_w (⟨by decide, by decide⟩ : R 0 0 (0 : Int32)) (by decide))
      ·
        intro x3 f4
        refine s_if (fun c5 => ?_) (fun c5 => ?_)
        ·
          have f6 : R 1 1 x3 := r_eq (⟨by decide, by decide⟩ : R 1 1 (1 : Int32)) c5
          exact ih (v3 + 1) (v4 + 1) (fu_su hfu (i_inc f3 (k := 1) rfl (by decide)) (by decide)) (r_w (r_full (v3 + 1)) (by decide)) (r_w (r_add f3 (⟨by decide, by decide⟩ : R 1 1 (1 : Int32)) (by decide) : R 1 17 (v4 + 1)) (by decide))
        ·
          exact ih v3 (v4 + 1) (fu_su hfu (i_inc f3 (k := 1) rfl (by decide)) (by decide)) (r_w f_v3 (by decide)) (r_w (r_add f3 (⟨by decide, by decide⟩ : R 1 1 (1 : Int32)) (by decide) : R 1 17 (v4 + 1)) (by decide))
theorem sf_K_placesCrossed (a1 : Nat) (hb_a1 : isR a1) {h0 : PH} (i_h0 : Inv h0) : Sf (mK_placesCrossed a1 h0) (fun r => R (-2147483648) 2147483647 r.1 ∧ Inv r.2) := by
  unfold mK_placesCrossed
  refine s_bd2 (sf_K_walk (a1) hb_a1 i_h0) (fun r1 h2 f1 => ?_)
  refine sl_K_placesCrossed_L11 r1 h2 (r_w f1.1 (by decide)) f1.2 FU 0 0 (fu_up (⟨by decide, by decide⟩ : R 0 0 (0 : Int32)) (by decide)) (r_w (⟨by decide, by decide⟩ : R 0 0 (0 : Int32)) (by decide)) (r_w (⟨by decide, by decide⟩ : R 0 0 (0 : Int32)) (by decide))
theorem sl_K_doneBy_L7_28 (p1 : Int32) (p2 : Int32) (p3 : Int32) (f0 : Nat → Int32 → Int32 → Int32 → PH → Option (Int32)) (h0 : PH) (k0 : Int32 → Option (Int32)) (f_p1 : R (-2147483648) 2147483647 p1) (f_p2 : R (-2147483648) 2147483647 p2) (f_p3 : R (-2147483648) 2147483647 p3) (hf_f0 : ∀ (v y z : Int32), R 0 5 v → ((p1 >>> (v &&& 31)) &&& 1) = 0 → Sf (f0 28 (p1 ||| (1 <<< (v &&& 31))) y z h0) (fun r => R (-2147483648) 2147483647 r)) (i_h0 : Inv h0) (hk_k0 : ∀ (y0 : Int32), R (-2147483648) 1000000 y0 → Sf (k0 y0) (fun r => R (-2147483648) 2147483647 r)) : ∀ (n : Nat) (v4 : Int32) (v5 : Int32), 6 - v5.toInt < (n : Int) → R (-2147483648) 1000000 v4 → R 0 6 v5 → Sf (mK_doneBy_L7 28 p1 p2 p3 f0 h0 k0 n v4 v5) (fun r => R (-2147483648) 2147483647 r) := by
  intro n
  induction n with
  | zero =>
    intro v4 v5 hfu f_v4 f_v5
    have := f_v5.2
    omega
  | succ n ih =>
    intro v4 v5 hfu f_v4 f_v5
    rw [mK_doneBy_L7]
    refine s_if (fun c1 => ?_) (fun c1 => ?_)
    ·
      exact hk_k0 _ (r_w f_v4 (by decide))
    ·
      have f2 : R 0 5 v5 := lt_hi f_v5 (inv_rng i_h0 rfl : R 0 6 (h0 28 3)) (nle_lt c1) (by decide)
      have f3 : R 1 6 (h0 28 3) := lt_lo f_v5 (inv_rng i_h0 rfl : R 0 6 (h0 28 3)) (nle_lt c1) (by decide)
      refine s_if (fun c4 => ?_) (fun c4 => ?_)
      ·
        have f5 : R 0 0 ((p1 >>> (v5 &&& 31)) &&& 1) := r_eq (⟨by decide, by decide⟩ : R 0 0 (0 : Int32)) c4
        refine s_bd (sf_R_at (28) v5 0 isR_28 i_h0) (fun r1 f6 => ?_)
        refine s_lt (fun x2 e7 => ?_)
        refine s_bd (sf_R_at (28) v5 1 isR_28 i_h0) (fun r3 f8 => ?_)
        refine s_lt (fun x4 e9 => ?_)
        refine s_bd (hf_f0 v5 _ _ (r_w f2 (by decide)) c4) (fun r5 f10 => ?_)
        refine s_lt (fun x6 e11 => ?_)
        have f12 : R (-2147483648) 1000000 x6 := by rw [e11]; exact (r_min f_v4 (r_full r5) (by decide) : R (-2147483648) 1000000 (imin v4 r5))
        exact ih x6 (v5 + 1) (fu_su hfu (i_inc f2 (k := 1) rfl (by decide)) (by decide)) (r_w f12 (by decide)) (r_w (r_add f2 (⟨by decide, by decide⟩ : R 1 1 (1 : Int32)) (by decide) : R 1 6 (v5 + 1)) (by decide))
      ·
        have f13 : R 1 1 ((p1 >>> (v5 &&& 31)) &&& 1) := r_ne_lo (r_and (⟨by decide, by decide⟩ : R 1 1 (1 : Int32)) (by decide) : R 0 1 ((p1 >>> (v5 &&& 31)) &&& 1)) (⟨by decide, by decide⟩ : R 0 0 (0 : Int32)) c4 (by decide)
        exact ih v4 (v5 + 1) (fu_su hfu (i_inc f2 (k := 1) rfl (by decide)) (by decide)) (r_w f_v4 (by decide)) (r_w (r_add f2 (⟨by decide, by decide⟩ : R 1 1 (1 : Int32)) (by decide) : R 1 6 (v5 + 1)) (by decide))
theorem sf_K_doneBy_F_28 (f0 : Nat → Int32 → Int32 → Int32 → PH → Option (Int32)) (p1 : Int32) (p2 : Int32) (p3 : Int32) (h0 : PH) (hf_f0 : ∀ (v y z : Int32), R 0 5 v → ((p1 >>> (v &&& 31)) &&& 1) = 0 → Sf (f0 28 (p1 ||| (1 <<< (v &&& 31))) y z h0) (fun r => R (-2147483648) 2147483647 r)) (i_h0 : Inv h0) : Sf (mK_doneBy_F f0 28 p1 p2 p3 h0) (fun r => R (-2147483648) 2147483647 r) := by
  unfold mK_doneBy_F
  refine sl_K_doneBy_L7_28 p1 p2 p3 _ h0 _ (r_w (r_full p1) (by decide)) (r_w (r_full p2) (by decide)) (r_w (r_full p3) (by decide)) hf_f0 i_h0 ?_ FU 1000000 0 (fu_up (⟨by decide, by decide⟩ : R 0 0 (0 : Int32)) (by decide)) (r_w (⟨by decide, by decide⟩ : R 1000000 1000000 (1000000 : Int32)) (by decide)) (r_w (⟨by decide, by decide⟩ : R 0 0 (0 : Int32)) (by decide))
  ·
    intro x7 f1
    refine s_if (fun c2 => ?_) (fun c2 => ?_)
    ·
      have f3 : R 1000000 1000000 x7 := r_eq (⟨by decide, by decide⟩ : R 1000000 1000000 (1000000 : Int32)) c2
      exact s_some (r_w (r_full p3) (by decide))
    ·
      have f4 : R (-2147483648) 999999 x7 := r_ne_hi f1 (⟨by decide, by decide⟩ : R 1000000 1000000 (1000000 : Int32)) c2 (by decide)
      exact s_some (r_w f4 (by decide))
theorem sl_K_leftBy_L2 (a0 : Nat) (p1 : Int32) (h0 : PH) (k0 : Int32 → Option (Int32)) (hb_a0 : isR a0) (f_p1 : R (-2147483648) 2147483647 p1) (i_h0 : Inv h0) (hk_k0 : ∀ (y0 : Int32), R 0 399 y0 → Sf (k0 y0) (fun r => R (-2147483648) 2147483647 r)) : ∀ (n : Nat) (v2 : Int32), 400 - v2.toInt < (n : Int) → R 0 400 v2 → Sf (mK_leftBy_L2 a0 p1 h0 k0 n v2) (fun r => R (-2147483648) 2147483647 r) := by
  intro n
  induction n with
  | zero =>
    intro v2 hfu f_v2
    have := f_v2.2
    omega
  | succ n ih =>
    intro v2 hfu f_v2
    rw [mK_leftBy_L2]
    refine s_if (fun c1 => ?_) (fun c1 => ?_)
    ·
      exact s_some (r_w (⟨by decide, by decide⟩ : R (-1) (-1) (-1 : Int32)) (by decide))
    ·
      have f2 : R 0 399 v2 := lt_hi f_v2 (rows_rng hb_a0 i_h0) (nle_lt c1) (by decide)
      have f3 : R 1 400 (h0 a0 3) := lt_lo f_v2 (rows_rng hb_a0 i_h0) (nle_lt c1) (by decide)
      refine s_bd (sf_R_at (a0) v2 0 hb_a0 i_h0) (fun r1 f4 => ?_)
      refine s_if (fun c5 => ?_) (fun c5 => ?_)
      ·
        exact hk_k0 _ (r_w f2 (by decide))
      ·
        exact ih (v2 + 1) (fu_su hfu (i_inc f2 (k := 1) rfl (by decide)) (by decide)) (r_w (r_add f2 (⟨by decide, by decide⟩ : R 1 1 (1 : Int32)) (by decide) : R 1 400 (v2 + 1)) (by decide))
theorem sf_K_leftBy (a0 : Nat) (p1 : Int32) (hb_a0 : isR a0) {h0 : PH} (i_h0 : Inv h0) : Sf (mK_leftBy a0 p1 h0) (fun r => R (-2147483648) 2147483647 r) := by
  unfold mK_leftBy
  refine sl_K_leftBy_L2 (a0) p1 h0 _ hb_a0 (r_w (r_full p1) (by decide)) i_h0 ?_ FU 0 (fu_up (⟨by decide, by decide⟩ : R 0 0 (0 : Int32)) (by decide)) (r_w (⟨by decide, by decide⟩ : R 0 0 (0 : Int32)) (by decide))
  ·
    intro x2 f1
    refine s_bd (sf_R_at (a0) x2 1 hb_a0 i_h0) (fun r3 f2 => ?_)
    exact s_some (r_w (r_full r3) (by decide))
theorem sl_K_lineOf_L5 (a0 : Nat) (p2 : Int32) (h0 : PH) (k0 : Int32 → Int32 → Option (Int32)) (hb_a0 : isR a0) (f_p2 : R (-2147483648) 2147483647 p2) (i_h0 : Inv h0) (hk_k0 : ∀ (y0 : Int32) (y1 : Int32), R (-2147483648) 2147483647 y0 → R 0 11 y1 → Sf (k0 y0 y1) (fun r => R (-2147483648) 2147483647 r)) : ∀ (n : Nat) (v3 : Int32) (v4 : Int32), 12 - v4.toInt < (n : Int) → R (-2147483648) 2147483647 v3 → R 0 12 v4 → Sf (mK_lineOf_L5 a0 p2 h0 k0 n v3 v4) (fun r => R (-2147483648) 2147483647 r) := by
  intro n
  induction n with
  | zero =>
    intro v3 v4 hfu f_v3 f_v4
    have := f_v4.2
    omega
  | succ n ih =>
    intro v3 v4 hfu f_v3 f_v4
    rw [mK_lineOf_L5]
    refine s_if (fun c1 => ?_) (fun c1 => ?_)
    ·
      have f2 : R 12 12 v4 := le_lo (⟨by decide, by decide⟩ : R 12 12 (12 : Int32)) f_v4 c1
      exact s_some (r_w (⟨by decide, by decide⟩ : R (-1) (-1) (-1 : Int32)) (by decide))
    ·
      have f3 : R 0 11 v4 := lt_hi f_v4 (⟨by decide, by decide⟩ : R 12 12 (12 : Int32)) (nle_lt c1) (by decide)
      refine s_bd (sf_K_leftBy (a0) v3 hb_a0 i_h0) (fun r1 f4 => ?_)
      refine s_if (fun c5 => ?_) (fun c5 => ?_)
      ·
        have f6 : R (-1) (-1) r1 := r_eq (⟨by decide, by decide⟩ : R (-1) (-1) (-1 : Int32)) c5
        exact hk_k0 _ _ (r_w f_v3 (by decide)) (r_w f3 (by decide))
      ·
        exact ih r1 (v4 + 1) (fu_su hfu (i_inc f3 (k := 1) rfl (by decide)) (by decide)) (r_w (r_full r1) (by decide)) (r_w (r_add f3 (⟨by decide, by decide⟩ : R 1 1 (1 : Int32)) (by decide) : R 1 12 (v4 + 1)) (by decide))
theorem sf_K_lineOf (a0 : Nat) (p1 : Int32) (p2 : Int32) (hb_a0 : isR a0) {h0 : PH} (i_h0 : Inv h0) : Sf (mK_lineOf a0 p1 p2 h0) (fun r => R (-2147483648) 2147483647 r) := by
  unfold mK_lineOf
  refine sl_K_lineOf_L5 (a0) p2 h0 _ hb_a0 (r_w (r_full p2) (by decide)) i_h0 ?_ FU p1 0 (fu_up (⟨by decide, by decide⟩ : R 0 0 (0 : Int32)) (by decide)) (r_w (r_full p1) (by decide)) (r_w (⟨by decide, by decide⟩ : R 0 0 (0 : Int32)) (by decide))
  ·
    intro x2 x3 f1 f2
    refine s_if (fun c3 => ?_) (fun c3 => ?_)
    ·
      have f4 : R 0 0 p2 := r_eq (⟨by decide, by decide⟩ : R 0 0 (0 : Int32)) c3
      exact s_some (r_w (r_full x2) (by decide))
    ·
      exact s_some (r_w f2 (by decide))
theorem sl_K_windowWays_L15 (p0 : Int32) (h0 : PH) (f_p0 : R 1 20 p0) (i_h0 : Inv h0) : ∀ (n : Nat) (v1 : Int32) (v2 : Int32) (v3 : Int32) (v4 : Int32) (v5 : Int32) (v6 : Int32), 21 - v6.toInt < (n : Int) → R (-2147483648) 2147483647 v1 → R (-2147483648) 2147483647 v2 → R (-2147483648) 2147483647 v3 → R (-2147483648) 2147483647 v4 → R (-2147483648) 2147483647 v5 → R 1 21 v6 → Sf (mK_windowWays_L15 p0 h0 n v1 v2 v3 v4 v5 v6) (fun r => R (-2147483648) 2147483647 r) := by
  intro n
  induction n with
  | zero =>
    intro v1 v2 v3 v4 v5 v6 hfu f_v1 f_v2 f_v3 f_v4 f_v5 f_v6
    have := f_v6.2
    omega
  | succ n ih =>
    intro v1 v2 v3 v4 v5 v6 hfu f_v1 f_v2 f_v3 f_v4 f_v5 f_v6
    rw [mK_windowWays_L15]
    refine s_if (fun c1 => ?_) (fun c1 => ?_)
    ·
      have f2 : R 2 21 v6 := lt_lo f_p0 f_v6 c1 (by decide)
      exact s_some (r_w (r_full (v1 + v4)) (by decide))
    ·
      have f3 : R 1 20 v6 := le_hi f_v6 f_p0 (nlt_le c1)
      refine s_lt (fun x1 e4 => ?_)
      exact ih x1 v1 v2 v3 v4 (v6 + 1) (fu_su hfu (i_inc f3 (k := 1) rfl (by decide)) (by decide)) (r_w (r_full x1) (by decide)) (r_w f_v1 (by decide)) (r_w f_v2 (by decide)) (r_w f_v3 (by decide)) (r_w f_v4 (by decide)) (r_w (r_add f3 (⟨by decide, by decide⟩ : R 1 1 (1 : Int32)) (by decide) : R 2 21 (v6 + 1)) (by decide))
theorem sf_K_windowWays (p0 : Int32) (f_p0 : R 1 20 p0) {h0 : PH} (i_h0 : Inv h0) : Sf (mK_windowWays p0 h0) (fun r => R (-2147483648) 2147483647 r) := by
  unfold mK_windowWays
  refine sl_K_windowWays_L15 p0 h0 (r_w f_p0 (by decide)) i_h0 FU 1 0 0 0 0 1 (fu_up (⟨by decide, by decide⟩ : R 1 1 (1 : Int32)) (by decide)) (r_w (⟨by decide, by decide⟩ : R 1 1 (1 : Int32)) (by decide)) (r_w (⟨by decide, by decide⟩ : R 0 0 (0 : Int32)) (by decide)) (r_w (⟨by decide, by decide⟩ : R 0 0 (0 : Int32)) (by decide)) (r_w (⟨by decide, by decide⟩ : R 0 0 (0 : Int32)) (by decide)) (r_w (⟨by decide, by decide⟩ : R 0 0 (0 : Int32)) (by decide)) (r_w (⟨by decide, by decide⟩ : R 1 1 (1 : Int32)) (by decide))
theorem sl_K_weightOf_L4 (a0 : Nat) (h0 : PH) (hb_a0 : isR a0) (i_h0 : Inv h0) : ∀ (n : Nat) (v1 : Int32) (v2 : Int32), 400 - v2.toInt < (n : Int) → R (-2147483648) 2147483647 v1 → R 0 400 v2 → Sf (mK_weightOf_L4 a0 h0 n v1 v2) (fun r => R (-2147483648) 2147483647 r) := by
  intro n
  induction n with
  | zero =>
    intro v1 v2 hfu f_v1 f_v2
    have := f_v2.2
    omega
  | succ n ih =>
    intro v1 v2 hfu f_v1 f_v2
    rw [mK_weightOf_L4]
    refine s_if (fun c1 => ?_) (fun c1 => ?_)
    ·
      exact s_some (r_w f_v1 (by decide))
    ·
      have f2 : R 0 399 v2 := lt_hi f_v2 (rows_rng hb_a0 i_h0) (nle_lt c1) (by decide)
      have f3 : R 1 400 (h0 a0 3) := lt_lo f_v2 (rows_rng hb_a0 i_h0) (nle_lt c1) (by decide)
      refine s_bd (sf_R_at (a0) v2 1 hb_a0 i_h0) (fun r1 f4 => ?_)
      refine s_lt (fun x2 e5 => ?_)
      exact ih x2 (v2 + 1) (fu_su hfu (i_inc f2 (k := 1) rfl (by decide)) (by decide)) (r_w (r_full x2) (by decide)) (r_w (r_add f2 (⟨by decide, by decide⟩ : R 1 1 (1 : Int32)) (by decide) : R 1 400 (v2 + 1)) (by decide))
theorem sf_K_weightOf (a0 : Nat) (hb_a0 : isR a0) {h0 : PH} (i_h0 : Inv h0) : Sf (mK_weightOf a0 h0) (fun r => R (-2147483648) 2147483647 r) := by
  unfold mK_weightOf
  refine sl_K_weightOf_L4 (a0) h0 hb_a0 i_h0 FU 0 0 (fu_up (⟨by decide, by decide⟩ : R 0 0 (0 : Int32)) (by decide)) (r_w (⟨by decide, by decide⟩ : R 0 0 (0 : Int32)) (by decide)) (r_w (⟨by decide, by decide⟩ : R 0 0 (0 : Int32)) (by decide))
theorem sl_K_agreed_L21 (a0 : Nat) (p1 : Int32) (p2 : Int32) (p3 : Int32) (h0 : PH) (k0 : Int32 → Option (Int32)) (hb_a0 : isR a0) (f_p1 : R (-2147483648) 2147483647 p1) (f_p2 : R 0 4095 p2) (f_p3 : R 0 11 p3) (i_h0 : Inv h0) (hk_k0 : ∀ (y0 : Int32), R (-2147483648) 2147483647 y0 → Sf (k0 y0) (fun r => R 0 4095 r)) : ∀ (n : Nat) (v4 : Int32) (v5 : Int32), 400 - v5.toInt < (n : Int) → R (-2147483648) 2147483647 v4 → R 0 400 v5 → Sf (mK_agreed_L21 a0 p1 p2 p3 h0 k0 n v4 v5) (fun r => R 0 4095 r) := by
  intro n
  induction n with
  | zero =>
    intro v4 v5 hfu f_v4 f_v5
    have := f_v5.2
    omega
  | succ n ih =>
    intro v4 v5 hfu f_v4 f_v5
    rw [mK_agreed_L21]
    refine s_if (fun c1 => ?_) (fun c1 => ?_)
    ·
      exact hk_k0 _ (r_w f_v4 (by decide))
    ·
      have f2 : R 0 399 v5 := lt_hi f_v5 (rows_rng hb_a0 i_h0) (nle_lt c1) (by decide)
      have f3 : R 1 400 (h0 a0 3) := lt_lo f_v5 (rows_rng hb_a0 i_h0) (nle_lt c1) (by decide)
      refine s_bd (sf_R_at (a0) v5 0 hb_a0 i_h0) (fun r2 f4 => ?_)
      refine s_if (fun c5 => ?_) (fun c5 => ?_)
      ·
        have f6 : R 1 1 ((r2 >>> (p3 &&& 31)) &&& 1) := r_eq (⟨by decide, by decide⟩ : R 1 1 (1 : Int32)) c5
        refine s_bd (sf_R_at (a0) v5 1 hb_a0 i_h0) (fun r3 f7 => ?_)
        refine s_lt (fun x4 e8 => ?_)
        exact ih x4 (v5 + 1) (fu_su hfu (i_inc f2 (k := 1) rfl (by decide)) (by decide)) (r_w (r_full x4) (by decide)) (r_w (r_add f2 (⟨by decide, by decide⟩ : R 1 1 (1 : Int32)) (by decide) : R 1 400 (v5 + 1)) (by decide))
      ·
        have f9 : R 0 0 ((r2 >>> (p3 &&& 31)) &&& 1) := r_ne_hi (r_and (⟨by decide, by decide⟩ : R 1 1 (1 : Int32)) (by decide) : R 0 1 ((r2 >>> (p3 &&& 31)) &&& 1)) (⟨by decide, by decide⟩ : R 1 1 (1 : Int32)) c5 (by decide)
        exact ih v4 (v5 + 1) (fu_su hfu (i_inc f2 (k := 1) rfl (by decide)) (by decide)) (r_w f_v4 (by decide)) (r_w (r_add f2 (⟨by decide, by decide⟩ : R 1 1 (1 : Int32)) (by decide) : R 1 400 (v5 + 1)) (by decide))
theorem sl_K_agreed_L9 (a0 : Nat) (p1 : Int32) (h0 : PH) (hb_a0 : isR a0) (f_p1 : R (-2147483648) 2147483647 p1) (i_h0 : Inv h0) : ∀ (n : Nat) (v2 : Int32) (v3 : Int32), 12 - v3.toInt < (n : Int) → R 0 4095 v2 → R 0 12 v3 → Sf (mK_agreed_L9 a0 p1 h0 n v2 v3) (fun r => R 0 4095 r) := by
  intro n
  induction n with
  | zero =>
    intro v2 v3 hfu f_v2 f_v3
    have := f_v3.2
    omega
  | succ n ih =>
    intro v2 v3 hfu f_v2 f_v3
    rw [mK_agreed_L9]
    refine s_if (fun c1 => ?_) (fun c1 => ?_)
    ·
      have f2 : R 12 12 v3 := le_lo (⟨by decide, by decide⟩ : R 12 12 (12 : Int32)) f_v3 c1
      exact s_some (r_w f_v2 (by decide))
    ·
      have f3 : R 0 11 v3 := lt_hi f_v3 (⟨by decide, by decide⟩ : R 12 12 (12 : Int32)) (nle_lt c1) (by decide)
      refine sl_K_agreed_L21 (a0) p1 v2 v3 h0 _ hb_a0 (r_w f_p1 (by decide)) (r_w f_v2 (by decide)) (r_w f3 (by decide)) i_h0 ?_ FU 0 0 (fu_up (⟨by decide, by decide⟩ : R 0 0 (0 : Int32)) (by decide)) (r_w (⟨by decide, by decide⟩ : R 0 0 (0 : Int32)) (by decide)) (r_w (⟨by decide, by decide⟩ : R 0 0 (0 : Int32)) (by decide))
      ·
        intro x5 f4
        refine s_if (fun c5 => ?_) (fun c5 => ?_)
        ·
          exact ih v2 (v3 + 1) (fu_su hfu (i_inc f3 (k := 1) rfl (by decide)) (by decide)) (r_w f_v2 (by decide)) (r_w (r_add f3 (⟨by decide, by decide⟩ : R 1 1 (1 : Int32)) (by decide) : R 1 12 (v3 + 1)) (by decide))
        ·
          have f6 : R (-2147483648) 2147483646 p1 := lt_hi f_p1 (r_full (2 * x5)) (nle_lt c5) (by decide)
          have f7 : R (-2147483647) 2147483647 (2 * x5) := lt_lo f_p1 (r_full (2 * x5)) (nle_lt c5) (by decide)
          refine s_lt (fun x6 e8 => ?_)
          have f9 : R 0 4095 x6 := by rw [e8]; exact (r_or 12 (r_w f_v2 (by decide)) (r_w (r_shl f3 (by decide) : R 1 2048 (1 <<< (v3 &&& 31))) (by decide)) (by decide) : R 0 4095 (v2 ||| (1 <<< (v3 &&& 31))))
          exact ih x6 (v3 + 1) (fu_su hfu (i_inc f3 (k := 1) rfl (by decide)) (by decide)) (r_w f9 (by decide)) (r_w (r_add f3 (⟨by decide, by decide⟩ : R 1 1 (1 : Int32)) (by decide) : R 1 12 (v3 + 1)) (by decide))
theorem sf_K_agreed (a0 : Nat) (hb_a0 : isR a0) {h0 : PH} (i_h0 : Inv h0) : Sf (mK_agreed a0 h0) (fun r => R 0 4095 r) := by
  unfold mK_agreed
  refine s_bd (sf_K_weightOf (a0) hb_a0 i_h0) (fun r1 f1 => ?_)
  refine sl_K_agreed_L9 (a0) r1 h0 hb_a0 (r_w (r_full r1) (by decide)) i_h0 FU 0 0 (fu_up (⟨by decide, by decide⟩ : R 0 0 (0 : Int32)) (by decide)) (r_w (⟨by decide, by decide⟩ : R 0 0 (0 : Int32)) (by decide)) (r_w (⟨by decide, by decide⟩ : R 0 0 (0 : Int32)) (by decide))
theorem sl_K_leastMajority_L22 (a0 : Nat) (p1 : Int32) (p4 : Int32) (h0 : PH) (k0 : Int32 → Int32 → Option (Int32)) (hb_a0 : isR a0) (f_p1 : R (-2147483648) 2147483647 p1) (f_p4 : R 1 9 p4) (i_h0 : Inv h0) (hk_k0 : ∀ (y0 : Int32) (y1 : Int32), R (-2147483648) 2147483647 y0 → R (-2147483648) 2147483647 y1 → Sf (k0 y0 y1) (fun r => R (-2147483648) 2147483647 r)) : ∀ (n : Nat) (v2 : Int32) (v3 : Int32) (v5 : Int32), 400 - v5.toInt < (n : Int) → R (-2147483648) 2147483647 v2 → R (-2147483648) 2147483647 v3 → R 0 400 v5 → Sf (mK_leastMajority_L22 a0 p1 p4 h0 k0 n v2 v3 v5) (fun r => R (-2147483648) 2147483647 r) := by
  intro n
  induction n with
  | zero =>
    intro v2 v3 v5 hfu f_v2 f_v3 f_v5
    have := f_v5.2
    omega
  | succ n ih =>
    intro v2 v3 v5 hfu f_v2 f_v3 f_v5
    rw [mK_leastMajority_L22]
    refine s_if (fun c1 => ?_) (fun c1 => ?_)
    ·
      exact hk_k0 _ _ (r_w f_v2 (by decide)) (r_w f_v3 (by decide))
    ·
      have f2 : R 0 399 v5 := lt_hi f_v5 (rows_rng hb_a0 i_h0) (nle_lt c1) (by decide)
      have f3 : R 1 400 (h0 a0 3) := lt_lo f_v5 (rows_rng hb_a0 i_h0) (nle_lt c1) (by decide)
      refine s_bd (sf_R_at (a0) v5 1 hb_a0 i_h0) (fun r2 f4 => ?_)
      refine s_if (fun c5 => ?_) (fun c5 => ?_)
      ·
        have f6 : R 1 9 r2 := r_eq f_p4 c5
        refine s_if (fun c7 => ?_) (fun c7 => ?_)
        ·
          have f8 : R (-2147483648) 2147483646 p1 := lt_hi f_p1 (r_full (2 * v2)) c7 (by decide)
          have f9 : R (-2147483647) 2147483647 (2 * v2) := lt_lo f_p1 (r_full (2 * v2)) c7 (by decide)
          exact ih v2 v3 (v5 + 1) (fu_su hfu (i_inc f2 (k := 1) rfl (by decide)) (by decide)) (r_w f_v2 (by decide)) (r_w f_v3 (by decide)) (r_w (r_add f2 (⟨by decide, by decide⟩ : R 1 1 (1 : Int32)) (by decide) : R 1 400 (v5 + 1)) (by decide))
        ·
          refine s_lt (fun x3 e10 => ?_)
          exact ih x3 (v3 + 1) (v5 + 1) (fu_su hfu (i_inc f2 (k := 1) rfl (by decide)) (by decide)) (r_w (r_full x3) (by decide)) (r_w (r_full (v3 + 1)) (by decide)) (r_w (r_add f2 (⟨by decide, by decide⟩ : R 1 1 (1 : Int32)) (by decide) : R 1 400 (v5 + 1)) (by decide))
      ·
        exact ih v2 v3 (v5 + 1) (fu_su hfu (i_inc f2 (k := 1) rfl (by decide)) (by decide)) (r_w f_v2 (by decide)) (r_w f_v3 (by decide)) (r_w (r_add f2 (⟨by decide, by decide⟩ : R 1 1 (1 : Int32)) (by decide) : R 1 400 (v5 + 1)) (by decide))
theorem sl_K_leastMajority_L13 (a0 : Nat) (p1 : Int32) (h0 : PH) (hb_a0 : isR a0) (f_p1 : R (-2147483648) 2147483647 p1) (i_h0 : Inv h0) : ∀ (n : Nat) (v2 : Int32) (v3 : Int32) (v4 : Int32), v4.toInt - 0 < (n : Int) → R (-2147483648) 2147483647 v2 → R (-2147483648) 2147483647 v3 → R 0 9 v4 → Sf (mK_leastMajority_L13 a0 p1 h0 n v2 v3 v4) (fun r => R (-2147483648) 2147483647 r) := by
  intro n
  induction n with
  | zero =>
    intro v2 v3 v4 hfu f_v2 f_v3 f_v4
    have := f_v4.1
    omega
  | succ n ih =>
    intro v2 v3 v4 hfu f_v2 f_v3 f_v4
    rw [mK_leastMajority_L13]
    refine s_if (fun c1 => ?_) (fun c1 => ?_)
    ·
      have f2 : R 0 0 v4 := lt_hi f_v4 (⟨by decide, by decide⟩ : R 1 1 (1 : Int32)) c1 (by decide)
      exact s_some (r_w f_v3 (by decide))
    ·
      have f3 : R 1 9 v4 := le_lo (⟨by decide, by decide⟩ : R 1 1 (1 : Int32)) f_v4 (nlt_le c1)
      refine sl_K_leastMajority_L22 (a0) p1 v4 h0 _ hb_a0 (r_w f_p1 (by decide)) (r_w f3 (by decide)) i_h0 ?_ FU v2 v3 0 (fu_up (⟨by decide, by decide⟩ : R 0 0 (0 : Int32)) (by decide)) (r_w f_v2 (by decide)) (r_w f_v3 (by decide)) (r_w (⟨by decide, by decide⟩ : R 0 0 (0 : Int32)) (by decide))
      ·
        intro x4 x5 f4 f5
        exact ih x4 x5 (v4 + (-1)) (fu_sd hfu (i_inc f3 (k := (-1)) rfl (by decide)) (by decide)) (r_w (r_full x4) (by decide)) (r_w (r_full x5) (by decide)) (r_w (r_add f3 (⟨by decide, by decide⟩ : R (-1) (-1) (-1 : Int32)) (by decide) : R 0 8 (v4 + (-1))) (by decide))
theorem sf_K_leastMajority (a0 : Nat) (hb_a0 : isR a0) {h0 : PH} (i_h0 : Inv h0) : Sf (mK_leastMajority a0 h0) (fun r => R (-2147483648) 2147483647 r) := by
  unfold mK_leastMajority
  refine s_bd (sf_K_weightOf (a0) hb_a0 i_h0) (fun r1 f1 => ?_)
  refine sl_K_leastMajority_L13 (a0) r1 h0 hb_a0 (r_w (r_full r1) (by decide)) i_h0 FU 0 0 9 (fu_dn (⟨by decide, by decide⟩ : R 9 9 (9 : Int32)) (by decide)) (r_w (⟨by decide, by decide⟩ : R 0 0 (0 : Int32)) (by decide)) (r_w (⟨by decide, by decide⟩ : R 0 0 (0 : Int32)) (by decide)) (r_w (⟨by decide, by decide⟩ : R 9 9 (9 : Int32)) (by decide))
theorem sf_W_gather (a1 : Nat) (p2 : Int32) (p3 : Int32) (hb_a1 : isB a1) {h0 : PH} (i_h0 : Inv h0) : Sf (mW_gather a1 p2 p3 h0) (fun h => Inv h) := by
  unfold mW_gather
  refine s_bd (sf_B_read (a1) p2 p3 hb_a1 i_h0) (fun r1 f1 => ?_)
  refine s_ck (⟨by decide, by decide⟩ : R 0 0 (0 : Int32)) (by decide) ?_
  refine s_lt (fun h2 e2 => ?_)
  have i3 : Inv h2 := by rw [e2]; exact inv_put i_h0 rfl (r_w (r_full r1) (by decide))
  refine s_bd (sf_B_sumOf (a1) p2 hb_a1 i3) (fun r3 f4 => ?_)
  refine s_ck (⟨by decide, by decide⟩ : R 1 1 (1 : Int32)) (by decide) ?_
  refine s_lt (fun h4 e5 => ?_)
  have i6 : Inv h4 := by rw [e5]; exact inv_put i3 rfl (r_w (r_full r3) (by decide))
  refine s_bd (sf_B_read (a1) p2 4 hb_a1 i6) (fun r5 f7 => ?_)
  refine s_ck (⟨by decide, by decide⟩ : R 2 2 (2 : Int32)) (by decide) ?_
  refine s_lt (fun h6 e8 => ?_)
  have i9 : Inv h6 := by rw [e8]; exact inv_put i6 rfl (r_w (r_full r5) (by decide))
  refine s_bd (sf_B_read (a1) p2 5 hb_a1 i9) (fun r7 f10 => ?_)
  refine s_ck (⟨by decide, by decide⟩ : R 3 3 (3 : Int32)) (by decide) ?_
  refine s_lt (fun h8 e11 => ?_)
  have i12 : Inv h8 := by rw [e11]; exact inv_put i9 rfl (r_w (r_full r7) (by decide))
  refine s_bd (sf_B_read (a1) p2 6 hb_a1 i12) (fun r9 f13 => ?_)
  refine s_ck (⟨by decide, by decide⟩ : R 4 4 (4 : Int32)) (by decide) ?_
  refine s_lt (fun h10 e14 => ?_)
  have i15 : Inv h10 := by rw [e14]; exact inv_put i12 rfl (r_w (r_full r9) (by decide))
  refine s_bd (sf_B_read (a1) p2 8 hb_a1 i15) (fun r11 f16 => ?_)
  refine s_ck (⟨by decide, by decide⟩ : R 5 5 (5 : Int32)) (by decide) ?_
  refine s_lt (fun h12 e17 => ?_)
  have i18 : Inv h12 := by rw [e17]; exact inv_put i15 rfl (r_w (r_full r11) (by decide))
  refine s_bd (sf_B_read (a1) p2 7 hb_a1 i18) (fun r13 f19 => ?_)
  refine s_ck (⟨by decide, by decide⟩ : R 6 6 (6 : Int32)) (by decide) ?_
  refine s_lt (fun h14 e20 => ?_)
  have i21 : Inv h14 := by rw [e20]; exact inv_put i18 rfl (r_w (r_full r13) (by decide))
  refine s_bd (sf_B_read (a1) p2 9 hb_a1 i21) (fun r15 f22 => ?_)
  refine s_ck (⟨by decide, by decide⟩ : R 7 7 (7 : Int32)) (by decide) ?_
  refine s_lt (fun h16 e23 => ?_)
  have i24 : Inv h16 := by rw [e23]; exact inv_put i21 rfl (r_w (r_full r15) (by decide))
  refine s_bd (sf_B_read (a1) p2 10 hb_a1 i24) (fun r17 f25 => ?_)
  refine s_ck (⟨by decide, by decide⟩ : R 8 8 (8 : Int32)) (by decide) ?_
  refine s_lt (fun h18 e26 => ?_)
  have i27 : Inv h18 := by rw [e26]; exact inv_put i24 rfl (r_w (r_full r17) (by decide))
  refine s_ck (⟨by decide, by decide⟩ : R 9 9 (9 : Int32)) (by decide) ?_
  refine s_lt (fun h19 e28 => ?_)
  have i29 : Inv h19 := by rw [e28]; exact inv_put i27 rfl (r_w (r_full (h18 a1 2)) (by decide))
  refine s_ck (⟨by decide, by decide⟩ : R 10 10 (10 : Int32)) (by decide) ?_
  refine s_lt (fun h20 e30 => ?_)
  have i31 : Inv h20 := by rw [e30]; exact inv_put i29 rfl (r_w (r_full (h19 a1 3)) (by decide))
  refine s_ck (⟨by decide, by decide⟩ : R 11 11 (11 : Int32)) (by decide) ?_
  refine s_lt (fun h21 e32 => ?_)
  have i33 : Inv h21 := by rw [e32]; exact inv_put i31 rfl (r_w (r_full (h20 a1 6)) (by decide))
  exact s_some i33
theorem sf_W_joined (p0 : Int32) (p1 : Int32) (p2 : Int32) {h0 : PH} (i_h0 : Inv h0) : Sf (mW_joined p0 p1 p2 h0) (fun r => R (-2147483648) 2147483647 r) := by
  unfold mW_joined
  refine s_if (fun c1 => ?_) (fun c1 => ?_)
  ·
    have f2 : R 2 2 p0 := r_eq (⟨by decide, by decide⟩ : R 2 2 (2 : Int32)) c1
    exact s_some (r_w (r_full (p1 + p2)) (by decide))
  ·
    refine s_if (fun c3 => ?_) (fun c3 => ?_)
    ·
      have f4 : R 3 3 p0 := r_eq (⟨by decide, by decide⟩ : R 3 3 (3 : Int32)) c3
      exact s_some (r_w (r_full (p1 - p2)) (by decide))
    ·
      refine s_if (fun c5 => ?_) (fun c5 => ?_)
      ·
        have f6 : R 4 4 p0 := r_eq (⟨by decide, by decide⟩ : R 4 4 (4 : Int32)) c5
        exact s_some (r_w (r_full (p1 * p2)) (by decide))
      ·
        refine s_if (fun c7 => ?_) (fun c7 => ?_)
        ·
          have f8 : R 5 5 p0 := r_eq (⟨by decide, by decide⟩ : R 5 5 (5 : Int32)) c7
          exact s_some (r_w (r_full (p1 ||| p2)) (by decide))
        ·
          refine s_if (fun c9 => ?_) (fun c9 => ?_)
          ·
            have f10 : R 6 6 p0 := r_eq (⟨by decide, by decide⟩ : R 6 6 (6 : Int32)) c9
            refine s_if (fun c11 => ?_) (fun c11 => ?_)
            ·
              exact s_some (r_w (⟨by decide, by decide⟩ : R 0 0 (0 : Int32)) (by decide))
            ·
              have f12 : R (-2147483648) 2147483646 p1 := lt_hi (r_full p1) (r_full p2) (nle_lt c11) (by decide)
              have f13 : R (-2147483647) 2147483647 p2 := lt_lo (r_full p1) (r_full p2) (nle_lt c11) (by decide)
              exact s_some (r_w (⟨by decide, by decide⟩ : R 1 1 (1 : Int32)) (by decide))
          ·
            refine s_if (fun c14 => ?_) (fun c14 => ?_)
            ·
              have f15 : R 7 7 p0 := r_eq (⟨by decide, by decide⟩ : R 7 7 (7 : Int32)) c14
              refine s_if (fun c16 => ?_) (fun c16 => ?_)
              ·
                exact s_some (r_w (⟨by decide, by decide⟩ : R 1 1 (1 : Int32)) (by decide))
              ·
                exact s_some (r_w (⟨by decide, by decide⟩ : R 0 0 (0 : Int32)) (by decide))
            ·
              refine s_if (fun c17 => ?_) (fun c17 => ?_)
              ·
                have f18 : R 8 8 p0 := r_eq (⟨by decide, by decide⟩ : R 8 8 (8 : Int32)) c17
                refine s_if (fun c19 => ?_) (fun c19 => ?_)
                ·
                  exact s_some (r_w (⟨by decide, by decide⟩ : R 0 0 (0 : Int32)) (by decide))
                ·
                  have f20 : R (-2147483648) 2147483646 p2 := lt_hi (r_full p2) (r_full p1) (nle_lt c19) (by decide)
                  have f21 : R (-2147483647) 2147483647 p1 := lt_lo (r_full p2) (r_full p1) (nle_lt c19) (by decide)
                  exact s_some (r_w (⟨by decide, by decide⟩ : R 1 1 (1 : Int32)) (by decide))
              ·
                refine s_if (fun c22 => ?_) (fun c22 => ?_)
                ·
                  have f23 : R 9 9 p0 := r_eq (⟨by decide, by decide⟩ : R 9 9 (9 : Int32)) c22
                  exact s_some (r_w (r_full (p1 ||| p2)) (by decide))
                ·
                  refine s_if (fun c24 => ?_) (fun c24 => ?_)
                  ·
                    have f25 : R 10 10 p0 := r_eq (⟨by decide, by decide⟩ : R 10 10 (10 : Int32)) c24
                    exact s_some (r_w (r_full (p1 &&& p2)) (by decide))
                  ·
                    exact s_some (r_w (r_full (p1 ||| p2)) (by decide))
theorem sf_W_step (p1 : Int32) (p2 : Int32) {h0 : PH} (i_h0 : Inv h0) : Sf (mW_step p1 p2 h0) (fun h => Inv h) := by
  unfold mW_step
  refine s_jn0 ?_ (fun j1 kj1 => ?_)
  ·
    refine s_if (fun c38 => ?_) (fun c38 => ?_)
    ·
      have f39 : R 64 64 (h0 34 4) := le_lo (⟨by decide, by decide⟩ : R 64 64 (64 : Int32)) (inv_rng i_h0 rfl : R 0 64 (h0 34 4)) c38
      exact s_some i_h0
    ·
      have f40 : R 0 63 (h0 34 4) := lt_hi (inv_rng i_h0 rfl : R 0 64 (h0 34 4)) (⟨by decide, by decide⟩ : R 64 64 (64 : Int32)) (nle_lt c38) (by decide)
      rw [jn1_e]
      refine s_if (fun c41 => ?_) (fun c41 => ?_)
      ·
        have f42 : R 1 1 p1 := r_eq (⟨by decide, by decide⟩ : R 1 1 (1 : Int32)) c41
        refine s_if (fun c43 => ?_) (fun c43 => ?_)
        ·
          have f44 : R (-2147483648) (-1) p2 := lt_hi (r_full p2) (⟨by decide, by decide⟩ : R 0 0 (0 : Int32)) c43 (by decide)
          dsimp only
          rw [jn1_e]
          refine s_if (fun c45 => ?_) (fun c45 => ?_)
          ·
            dsimp only
            refine s_ck f40 (by decide) ?_
            refine s_lt (fun h6 e46 => ?_)
            have i47 : Inv h6 := by rw [e46]; exact inv_put i_h0 rfl (r_w f44 (by decide))
            have f48 : R 0 63 (h6 34 4) := by rw [e46, up_oc (by decide)]; exact f40
            refine s_lt (fun h7 e49 => ?_)
            have i50 : Inv h7 := by rw [e49]; exact inv_put i47 rfl (r_w (r_add f48 (⟨by decide, by decide⟩ : R 1 1 (1 : Int32)) (by decide) : R 1 64 ((h6 34 4) + 1)) (by decide))
            have f51 : R 1 64 (h7 34 4) := by rw [e49, up_same]; exact (r_add f48 (⟨by decide, by decide⟩ : R 1 1 (1 : Int32)) (by decide) : R 1 64 ((h6 34 4) + 1))
            exact s_some i50
          ·
            have f52 : R 1 0 0 := r_ne_lo (⟨by decide, by decide⟩ : R 0 0 (0 : Int32)) (⟨by decide, by decide⟩ : R 0 0 (0 : Int32)) c45 (by decide)
            exact r_no f52 (by decide)
        ·
          have f53 : R 0 2147483647 p2 := le_lo (⟨by decide, by decide⟩ : R 0 0 (0 : Int32)) (r_full p2) (nlt_le c43)
          refine s_if (fun c54 => ?_) (fun c54 => ?_)
          ·
            have f55 : R 12 2147483647 p2 := le_lo (⟨by decide, by decide⟩ : R 12 12 (12 : Int32)) f53 c54
            dsimp only
            rw [jn1_e]
            refine s_if (fun c56 => ?_) (fun c56 => ?_)
            ·
              dsimp only
              refine s_ck f40 (by decide) ?_
              refine s_lt (fun h6 e57 => ?_)
              have i58 : Inv h6 := by rw [e57]; exact inv_put i_h0 rfl (r_w f55 (by decide))
              have f59 : R 0 63 (h6 34 4) := by rw [e57, up_oc (by decide)]; exact f40
              refine s_lt (fun h7 e60 => ?_)
              have i61 : Inv h7 := by rw [e60]; exact inv_put i58 rfl (r_w (r_add f59 (⟨by decide, by decide⟩ : R 1 1 (1 : Int32)) (by decide) : R 1 64 ((h6 34 4) + 1)) (by decide))
              have f62 : R 1 64 (h7 34 4) := by rw [e60, up_same]; exact (r_add f59 (⟨by decide, by decide⟩ : R 1 1 (1 : Int32)) (by decide) : R 1 64 ((h6 34 4) + 1))
              exact s_some i61
            ·
              have f63 : R 1 0 0 := r_ne_lo (⟨by decide, by decide⟩ : R 0 0 (0 : Int32)) (⟨by decide, by decide⟩ : R 0 0 (0 : Int32)) c56 (by decide)
              exact r_no f63 (by decide)
          ·
            have f64 : R 0 11 p2 := lt_hi f53 (⟨by decide, by decide⟩ : R 12 12 (12 : Int32)) (nle_lt c54) (by decide)
            dsimp only
            rw [jn1_e]
            refine s_if (fun c65 => ?_) (fun c65 => ?_)
            ·
              have f66 : R 1 0 1 := r_mix (r_eq (⟨by decide, by decide⟩ : R 0 0 (0 : Int32)) c65) (⟨by decide, by decide⟩ : R 1 1 (1 : Int32))
              exact r_no f66 (by decide)
            ·
              refine s_ck f64 (by decide) ?_
              dsimp only
              refine s_ck f40 (by decide) ?_
              refine s_lt (fun h6 e67 => ?_)
              have i68 : Inv h6 := by rw [e67]; exact inv_put i_h0 rfl (r_w (r_full (h0 35 (ix p2))) (by decide))
              have f69 : R 0 63 (h6 34 4) := by rw [e67, up_oc (by decide)]; exact f40
              refine s_lt (fun h7 e70 => ?_)
              have i71 : Inv h7 := by rw [e70]; exact inv_put i68 rfl (r_w (r_add f69 (⟨by decide, by decide⟩ : R 1 1 (1 : Int32)) (by decide) : R 1 64 ((h6 34 4) + 1)) (by decide))
              have f72 : R 1 64 (h7 34 4) := by rw [e70, up_same]; exact (r_add f69 (⟨by decide, by decide⟩ : R 1 1 (1 : Int32)) (by decide) : R 1 64 ((h6 34 4) + 1))
              exact s_some i71
      ·
        dsimp only
        rw [jn1_e]
        refine s_if (fun c73 => ?_) (fun c73 => ?_)
        ·
          dsimp only
          refine s_ck f40 (by decide) ?_
          refine s_lt (fun h6 e74 => ?_)
          have i75 : Inv h6 := by rw [e74]; exact inv_put i_h0 rfl (r_w (r_full p2) (by decide))
          have f76 : R 0 63 (h6 34 4) := by rw [e74, up_oc (by decide)]; exact f40
          refine s_lt (fun h7 e77 => ?_)
          have i78 : Inv h7 := by rw [e77]; exact inv_put i75 rfl (r_w (r_add f76 (⟨by decide, by decide⟩ : R 1 1 (1 : Int32)) (by decide) : R 1 64 ((h6 34 4) + 1)) (by decide))
          have f79 : R 1 64 (h7 34 4) := by rw [e77, up_same]; exact (r_add f76 (⟨by decide, by decide⟩ : R 1 1 (1 : Int32)) (by decide) : R 1 64 ((h6 34 4) + 1))
          exact s_some i78
        ·
          have f80 : R 1 0 0 := r_ne_lo (⟨by decide, by decide⟩ : R 0 0 (0 : Int32)) (⟨by decide, by decide⟩ : R 0 0 (0 : Int32)) c73 (by decide)
          exact r_no f80 (by decide)
  ·
    refine s_if (fun c81 => ?_) (fun c81 => ?_)
    ·
      have f82 : R 0 0 p1 := r_eq (⟨by decide, by decide⟩ : R 0 0 (0 : Int32)) c81
      exact kj1
    ·
      refine s_if (fun c83 => ?_) (fun c83 => ?_)
      ·
        have f84 : R 1 1 p1 := r_eq (⟨by decide, by decide⟩ : R 1 1 (1 : Int32)) c83
        exact kj1
      ·
        refine s_if (fun c85 => ?_) (fun c85 => ?_)
        ·
          have f86 : R 5 5 p1 := r_eq (⟨by decide, by decide⟩ : R 5 5 (5 : Int32)) c85
          refine s_if (fun c87 => ?_) (fun c87 => ?_)
          ·
            have f88 : R 0 0 (h0 34 4) := le_hi (inv_rng i_h0 rfl : R 0 64 (h0 34 4)) (⟨by decide, by decide⟩ : R 0 0 (0 : Int32)) c87
            exact s_some i_h0
          ·
            have f89 : R 1 64 (h0 34 4) := lt_lo (⟨by decide, by decide⟩ : R 0 0 (0 : Int32)) (inv_rng i_h0 rfl : R 0 64 (h0 34 4)) (nle_lt c87) (by decide)
            refine s_if (fun c90 => ?_) (fun c90 => ?_)
            ·
              have f91 : R 0 0 p2 := r_eq (⟨by decide, by decide⟩ : R 0 0 (0 : Int32)) c90
              exact s_some i_h0
            ·
              refine s_ck (r_sub f89 (⟨by decide, by decide⟩ : R 1 1 (1 : Int32)) (by decide) : R 0 63 ((h0 34 4) - 1)) (by decide) ?_
              rw [dz_nz c90]
              refine s_ck (r_sub f89 (⟨by decide, by decide⟩ : R 1 1 (1 : Int32)) (by decide) : R 0 63 ((h0 34 4) - 1)) (by decide) ?_
              refine s_lt (fun h8 e92 => ?_)
              have i93 : Inv h8 := by rw [e92]; exact inv_put i_h0 rfl (r_w (r_full ((h0 36 (ix ((h0 34 4) - 1))) / p2)) (by decide))
              have f94 : R 1 64 (h8 34 4) := by rw [e92, up_oc (by decide)]; exact f89
              exact s_some i93
        ·
          refine s_if (fun c95 => ?_) (fun c95 => ?_)
          ·
            have f96 : R 9 9 p1 := r_eq (⟨by decide, by decide⟩ : R 9 9 (9 : Int32)) c95
            refine s_if (fun c97 => ?_) (fun c97 => ?_)
            ·
              have f98 : R 0 0 (h0 34 4) := le_hi (inv_rng i_h0 rfl : R 0 64 (h0 34 4)) (⟨by decide, by decide⟩ : R 0 0 (0 : Int32)) c97
              exact s_some i_h0
            ·
              have f99 : R 1 64 (h0 34 4) := lt_lo (⟨by decide, by decide⟩ : R 0 0 (0 : Int32)) (inv_rng i_h0 rfl : R 0 64 (h0 34 4)) (nle_lt c97) (by decide)
              refine s_ck (r_sub f99 (⟨by decide, by decide⟩ : R 1 1 (1 : Int32)) (by decide) : R 0 63 ((h0 34 4) - 1)) (by decide) ?_
              rw [jn1_e]
              refine s_if (fun c100 => ?_) (fun c100 => ?_)
              ·
                have f101 : R 0 0 (h0 36 (ix ((h0 34 4) - 1))) := r_eq (⟨by decide, by decide⟩ : R 0 0 (0 : Int32)) c100
                dsimp only
                refine s_ck (r_sub f99 (⟨by decide, by decide⟩ : R 1 1 (1 : Int32)) (by decide) : R 0 63 ((h0 34 4) - 1)) (by decide) ?_
                refine s_lt (fun h11 e102 => ?_)
                have i103 : Inv h11 := by rw [e102]; exact inv_put i_h0 rfl (r_w (⟨by decide, by decide⟩ : R 1 1 (1 : Int32)) (by decide))
                have f104 : R 1 64 (h11 34 4) := by rw [e102, up_oc (by decide)]; exact f99
                exact s_some i103
              ·
                dsimp only
                refine s_ck (r_sub f99 (⟨by decide, by decide⟩ : R 1 1 (1 : Int32)) (by decide) : R 0 63 ((h0 34 4) - 1)) (by decide) ?_
                refine s_lt (fun h11 e105 => ?_)
                have i106 : Inv h11 := by rw [e105]; exact inv_put i_h0 rfl (r_w (⟨by decide, by decide⟩ : R 0 0 (0 : Int32)) (by decide))
                have f107 : R 1 64 (h11 34 4) := by rw [e105, up_oc (by decide)]; exact f99
                exact s_some i106
          ·
            refine s_if (fun c108 => ?_) (fun c108 => ?_)
            ·
              have f109 : R 0 1 (h0 34 4) := le_hi (inv_rng i_h0 rfl : R 0 64 (h0 34 4)) (⟨by decide, by decide⟩ : R 1 1 (1 : Int32)) c108
              exact s_some i_h0
            ·
              have f110 : R 2 64 (h0 34 4) := lt_lo (⟨by decide, by decide⟩ : R 1 1 (1 : Int32)) (inv_rng i_h0 rfl : R 0 64 (h0 34 4)) (nle_lt c108) (by decide)
              refine s_lt (fun h12 e111 => ?_)
              have i112 : Inv h12 := by rw [e111]; exact inv_put i_h0 rfl (r_w (r_sub f110 (⟨by decide, by decide⟩ : R 1 1 (1 : Int32)) (by decide) : R 1 63 ((h0 34 4) - 1)) (by decide))
              have f113 : R 1 63 (h12 34 4) := by rw [e111, up_same]; exact (r_sub f110 (⟨by decide, by decide⟩ : R 1 1 (1 : Int32)) (by decide) : R 1 63 ((h0 34 4) - 1))
              refine s_ck (r_sub f113 (⟨by decide, by decide⟩ : R 1 1 (1 : Int32)) (by decide) : R 0 62 ((h12 34 4) - 1)) (by decide) ?_
              refine s_ck f113 (by decide) ?_
              refine s_bd (sf_W_joined p1 (h12 36 (ix ((h12 34 4) - 1))) (h12 36 (ix (h12 34 4))) i112) (fun r13 f114 => ?_)
              refine s_ck (r_sub f113 (⟨by decide, by decide⟩ : R 1 1 (1 : Int32)) (by decide) : R 0 62 ((h12 34 4) - 1)) (by decide) ?_
              refine s_lt (fun h14 e115 => ?_)
              have i116 : Inv h14 := by rw [e115]; exact inv_put i112 rfl (r_w (r_full r13) (by decide))
              have f117 : R 1 63 (h14 34 4) := by rw [e115, up_oc (by decide)]; exact f113
              exact s_some i116
theorem sl_W_run_L7 (p2 : Int32) (k0 : PH → Option (Int32 × PH)) (f_p2 : R (-1) 9999 p2) (hk_k0 : ∀ (y0 : PH), Inv y0 → Sf (k0 y0) (fun r => R (-2147483648) 2147483647 r.1 ∧ Inv r.2)) : ∀ (n : Nat) (v3 : Int32) (hv : PH), 9999 - v3.toInt < (n : Int) → R (-1) 9999 v3 → Inv hv → Sf (mW_run_L7 p2 k0 n v3 hv) (fun r => R (-2147483648) 2147483647 r.1 ∧ Inv r.2) := by
  intro n
  induction n with
  | zero =>
    intro v3 hv hfu f_v3 i_hv
    have := f_v3.2
    omega
  | succ n ih =>
    intro v3 hv hfu f_v3 i_hv
    rw [mW_run_L7]
    refine s_if (fun c1 => ?_) (fun c1 => ?_)
    ·
      exact hk_k0 _ (i_hv)
    ·
      have f2 : R (-1) 9998 v3 := lt_hi f_v3 f_p2 (nle_lt c1) (by decide)
      have f3 : R 0 9999 p2 := lt_lo f_v3 f_p2 (nle_lt c1) (by decide)
      refine s_bd (sf_R_at (8) v3 0 isR_8 i_hv) (fun r2 f4 => ?_)
      refine s_bd (sf_R_at (8) v3 1 isR_8 i_hv) (fun r3 f5 => ?_)
      refine s_bd (sf_W_step r2 r3 i_hv) (fun h4 f6 => ?_)
      exact ih (v3 + 1) h4 (fu_su hfu (i_inc f2 (k := 1) rfl (by decide)) (by decide)) (r_w (r_add f2 (⟨by decide, by decide⟩ : R 1 1 (1 : Int32)) (by decide) : R 0 9999 (v3 + 1)) (by decide)) f6
theorem sf_W_run (p1 : Int32) (p2 : Int32) (f_p1 : R (-1) 9999 p1) (f_p2 : R (-1) 9999 p2) {h0 : PH} (i_h0 : Inv h0) : Sf (mW_run p1 p2 h0) (fun r => R (-2147483648) 2147483647 r.1 ∧ Inv r.2) := by
  unfold mW_run
  refine s_lt (fun h1 e1 => ?_)
  have i2 : Inv h1 := by rw [e1]; exact inv_put i_h0 rfl (r_w (⟨by decide, by decide⟩ : R 0 0 (0 : Int32)) (by decide))
  have f3 : R 0 0 (h1 34 4) := by rw [e1, up_same]; exact (⟨by decide, by decide⟩ : R 0 0 (0 : Int32))
  refine sl_W_run_L7 p2 _ (r_w f_p2 (by decide)) ?_ FU p1 h1 (fu_up f_p1 (by decide)) (r_w f_p1 (by decide)) i2
  ·
    intro h5 f4
    refine s_if (fun c5 => ?_) (fun c5 => ?_)
    ·
      have f6 : R 0 0 (h5 34 4) := le_hi (inv_rng f4 rfl : R 0 64 (h5 34 4)) (⟨by decide, by decide⟩ : R 0 0 (0 : Int32)) c5
      exact s_some ⟨r_w (⟨by decide, by decide⟩ : R 0 0 (0 : Int32)) (by decide), f4⟩
    ·
      have f7 : R 1 64 (h5 34 4) := lt_lo (⟨by decide, by decide⟩ : R 0 0 (0 : Int32)) (inv_rng f4 rfl : R 0 64 (h5 34 4)) (nle_lt c5) (by decide)
      refine s_ck (⟨by decide, by decide⟩ : R 0 0 (0 : Int32)) (by decide) ?_
      exact s_some ⟨r_w (r_full (h5 36 (ix 0))) (by decide), f4⟩
theorem sf_W_applies (p1 : Int32) {h0 : PH} (i_h0 : Inv h0) : Sf (mW_applies p1 h0) (fun r => R 0 1 r.1 ∧ Inv r.2) := by
  unfold mW_applies
  refine s_bd (sf_R_at_C p1 2 (r_w (⟨by decide, by decide⟩ : R 2 2 (2 : Int32)) (by decide)) i_h0) (fun r1 f1 => ?_)
  refine s_bd (sf_R_at_C p1 3 (r_w (⟨by decide, by decide⟩ : R 3 3 (3 : Int32)) (by decide)) i_h0) (fun r2 f2 => ?_)
  refine s_if (fun c3 => ?_) (fun c3 => ?_)
  ·
    exact s_some ⟨r_w (⟨by decide, by decide⟩ : R 1 1 (1 : Int32)) (by decide), i_h0⟩
  ·
    have f4 : R (-1) 9998 r1 := lt_hi f1 f2 (nle_lt c3) (by decide)
    have f5 : R 0 9999 r2 := lt_lo f1 f2 (nle_lt c3) (by decide)
    refine s_bd2 (sf_W_run r1 r2 (r_w f4 (by decide)) (r_w f5 (by decide)) i_h0) (fun r3 h4 f6 => ?_)
    refine s_if (fun c7 => ?_) (fun c7 => ?_)
    ·
      have f8 : R 0 0 r3 := r_eq (⟨by decide, by decide⟩ : R 0 0 (0 : Int32)) c7
      exact s_some ⟨r_w (⟨by decide, by decide⟩ : R 0 0 (0 : Int32)) (by decide), f6.2⟩
    ·
      exact s_some ⟨r_w (⟨by decide, by decide⟩ : R 1 1 (1 : Int32)) (by decide), f6.2⟩
theorem sf_W_held (p0 : Int32) (p1 : Int32) (f_p1 : R 99 1000 p1) {h0 : PH} (i_h0 : Inv h0) : Sf (mW_held p0 p1 h0) (fun r => R 0 1000 r) := by
  unfold mW_held
  exact s_some (r_w (r_max (⟨by decide, by decide⟩ : R 0 0 (0 : Int32)) (r_min f_p1 (r_full p0) (by decide) : R (-2147483648) 1000 (imin p1 p0)) (by decide) : R 0 1000 (imax 0 (imin p1 p0))) (by decide))
theorem sf_W_customary (a0 : Nat) (p1 : Int32) (p2 : Int32) (hb_a0 : isB a0) {h0 : PH} (i_h0 : Inv h0) : Sf (mW_customary a0 p1 p2 h0) (fun r => R (-2147483648) 2147483647 r) := by
  unfold mW_customary
  refine s_if (fun c1 => ?_) (fun c1 => ?_)
  ·
    have f2 : R 0 0 p2 := r_eq (⟨by decide, by decide⟩ : R 0 0 (0 : Int32)) c1
    refine s_bd (sf_B_read (a0) p1 7 hb_a0 i_h0) (fun r1 f3 => ?_)
    exact s_some (r_w (r_full (4 + (2 * r1))) (by decide))
  ·
    refine s_if (fun c4 => ?_) (fun c4 => ?_)
    ·
      have f5 : R 1 1 p2 := r_eq (⟨by decide, by decide⟩ : R 1 1 (1 : Int32)) c4
      refine s_bd (sf_B_read (a0) p1 6 hb_a0 i_h0) (fun r2 f6 => ?_)
      exact s_some (r_w (r_full (300 - (30 * r2))) (by decide))
    ·
      refine s_bd (sf_B_read (a0) p1 6 hb_a0 i_h0) (fun r3 f7 => ?_)
      exact s_some (r_w (r_full ((h0 a0 2) - r3)) (by decide))
theorem sl_W_tells_L22 (a1 : Nat) (p2 : Int32) (p3 : Int32) (p4 : Int32) (p5 : Int32) (k0 : Int32 → PH → Option (Int32 × PH)) (k1 : PH → Option (Int32 × PH)) (hb_a1 : isB a1) (f_p2 : R (-2147483648) 2147483647 p2) (f_p3 : R (-2147483648) 2147483647 p3) (f_p4 : R (-2147483648) 2147483647 p4) (f_p5 : R 99 1000 p5) (hk_k0 : ∀ (y0 : Int32) (y1 : PH), R 0 15 y0 → Inv y1 → Sf (k0 y0 y1) (fun r => R 0 1000 r.1 ∧ Inv r.2)) (hk_k1 : ∀ (y0 : PH), Inv y0 → Sf (k1 y0) (fun r => R 0 1000 r.1 ∧ Inv r.2)) : ∀ (n : Nat) (v6 : Int32) (v7 : Int32) (hv : PH), 16 - v7.toInt < (n : Int) → R 0 1 v6 → R 0 16 v7 → Inv hv → Sf (mW_tells_L22 a1 p2 p3 p4 p5 k0 k1 n v6 v7 hv) (fun r => R 0 1000 r.1 ∧ Inv r.2) := by
  intro n
  induction n with
  | zero =>
    intro v6 v7 hv hfu f_v6 f_v7 i_hv
    have := f_v7.2
    omega
  | succ n ih =>
    intro v6 v7 hv hfu f_v6 f_v7 i_hv
    rw [mW_tells_L22]
    refine s_if (fun c1 => ?_) (fun c1 => ?_)
    ·
      exact hk_k1 _ (i_hv)
    ·
      have f2 : R 0 15 v7 := lt_hi f_v7 (inv_rng i_hv rfl : R 0 16 (hv 6 3)) (nle_lt c1) (by decide)
      have f3 : R 1 16 (hv 6 3) := lt_lo f_v7 (inv_rng i_hv rfl : R 0 16 (hv 6 3)) (nle_lt c1) (by decide)
      refine s_bd (sf_R_at (6) v7 0 isR_6 i_hv) (fun r3 f4 => ?_)
      refine s_if (fun c5 => ?_) (fun c5 => ?_)
      ·
        refine s_jn2 (P := fun (x5 : Int32) (h6 : PH) => R 1 1 x5 ∧ Inv h6) (fun x5 h6 f10 => ?_) (fun j4 kj4 => ?_)
        ·
          refine s_bd2 (sf_W_applies v7 f10.2) (fun r7 h8 f11 => ?_)
          refine s_if (fun c12 => ?_) (fun c12 => ?_)
          ·
            have f13 : R 0 0 r7 := r_eq (⟨by decide, by decide⟩ : R 0 0 (0 : Int32)) c12
            exact ih x5 (v7 + 1) h8 (fu_su hfu (i_inc f2 (k := 1) rfl (by decide)) (by decide)) (r_w f10.1 (by decide)) (r_w (r_add f2 (⟨by decide, by decide⟩ : R 1 1 (1 : Int32)) (by decide) : R 1 16 (v7 + 1)) (by decide)) f11.2
          ·
            have f14 : R 1 1 r7 := r_ne_lo f11.1 (⟨by decide, by decide⟩ : R 0 0 (0 : Int32)) c12 (by decide)
            exact hk_k0 _ _ (r_w f2 (by decide)) (f11.2)
        ·
          refine s_if (fun c15 => ?_) (fun c15 => ?_)
          ·
            have f16 : R 0 0 v6 := r_eq (⟨by decide, by decide⟩ : R 0 0 (0 : Int32)) c15
            refine s_bd (sf_W_gather (a1) p2 p3 hb_a1 i_hv) (fun h9 f17 => ?_)
            exact kj4 _ _ ⟨r_w (⟨by decide, by decide⟩ : R 1 1 (1 : Int32)) (by decide), f17⟩
          ·
            have f18 : R 1 1 v6 := r_ne_lo f_v6 (⟨by decide, by decide⟩ : R 0 0 (0 : Int32)) c15 (by decide)
            exact kj4 _ _ ⟨r_w f18 (by decide), i_hv⟩
      ·
        exact ih v6 (v7 + 1) hv (fu_su hfu (i_inc f2 (k := 1) rfl (by decide)) (by decide)) (r_w f_v6 (by decide)) (r_w (r_add f2 (⟨by decide, by decide⟩ : R 1 1 (1 : Int32)) (by decide) : R 1 16 (v7 + 1)) (by decide)) i_hv
theorem sf_W_tells (a1 : Nat) (p2 : Int32) (p3 : Int32) (p4 : Int32) (hb_a1 : isB a1) {h0 : PH} (i_h0 : Inv h0) : Sf (mW_tells a1 p2 p3 p4 h0) (fun r => R 0 1000 r.1 ∧ Inv r.2) := by
  unfold mW_tells
  refine s_jn1 (P := fun (x2 : Int32) => R 99 1000 x2) (fun x2 f3 => ?_) (fun j1 kj1 => ?_)
  ·
    refine sl_W_tells_L22 (a1) p2 p3 p4 x2 _ _ hb_a1 (r_w (r_full p2) (by decide)) (r_w (r_full p3) (by decide)) (r_w (r_full p4) (by decide)) (r_w f3 (by decide)) ?_ ?_ FU 0 0 h0 (fu_up (⟨by decide, by decide⟩ : R 0 0 (0 : Int32)) (by decide)) (r_w (⟨by decide, by decide⟩ : R 0 0 (0 : Int32)) (by decide)) (r_w (⟨by decide, by decide⟩ : R 0 0 (0 : Int32)) (by decide)) i_h0
    ·
      intro x10 h11 f4 f5
      refine s_bd (sf_R_at_C x10 1 (r_w (⟨by decide, by decide⟩ : R 1 1 (1 : Int32)) (by decide)) f5) (fun r12 f6 => ?_)
      refine s_bd (sf_R_at_C x10 2 (r_w (⟨by decide, by decide⟩ : R 2 2 (2 : Int32)) (by decide)) f5) (fun r13 f7 => ?_)
      refine s_bd2 (sf_W_run r12 r13 (r_w f6 (by decide)) (r_w f7 (by decide)) f5) (fun r14 h15 f8 => ?_)
      refine s_bd (sf_W_held r14 x2 (r_w f3 (by decide)) f8.2) (fun r16 f9 => ?_)
      exact s_some ⟨r_w f9 (by decide), f8.2⟩
    ·
      intro h17 f10
      refine s_bd (sf_W_customary (a1) p2 p4 hb_a1 f10) (fun r18 f11 => ?_)
      refine s_bd (sf_W_held r18 x2 (r_w f3 (by decide)) f10) (fun r19 f12 => ?_)
      exact s_some ⟨r_w f12 (by decide), f10⟩
  ·
    refine s_if (fun c13 => ?_) (fun c13 => ?_)
    ·
      have f14 : R 1 1 p4 := r_eq (⟨by decide, by decide⟩ : R 1 1 (1 : Int32)) c13
      exact kj1 _ (r_w (⟨by decide, by decide⟩ : R 1000 1000 (1000 : Int32)) (by decide))
    ·
      exact kj1 _ (r_w (⟨by decide, by decide⟩ : R 99 99 (99 : Int32)) (by decide))
theorem sf_P_keep (a1 : Nat) (p2 : Int32) (f_p2 : R 0 150 p2) (hb_a1 : isB a1) {h0 : PH} (i_h0 : Inv h0) : Sf (mP_keep a1 p2 h0) (fun h => Inv h) := by
  unfold mP_keep
  refine s_dz (⟨by decide, by decide⟩ : R 6 6 (6 : Int32)) (by decide) ?_
  refine s_lt (fun x1 e1 => ?_)
  have f2 : R 0 5 x1 := by rw [e1]; exact (r_irm (r_add (inv_rng i_h0 rfl : R 0 5 (h0 70 2)) (inv_rng i_h0 rfl : R 0 6 (h0 70 3)) (by decide) : R 0 11 ((h0 70 2) + (h0 70 3))) (⟨by decide, by decide⟩ : R 6 6 (6 : Int32)) (by decide) : R 0 5 (irm ((h0 70 2) + (h0 70 3)) 6))
  refine s_ck f2 (by decide) ?_
  refine s_bd (sf_B_copyFrom ((73 + (2 * (ix x1)))) (a1) (isB_kept (r_w f2 (by decide))) hb_a1 i_h0) (fun h3 f3 => ?_)
  refine s_ck f2 (by decide) ?_
  refine s_lt (fun h4 e4 => ?_)
  have i5 : Inv h4 := by rw [e4]; exact inv_put f3 rfl (r_w f_p2 (by decide))
  refine s_if (fun c6 => ?_) (fun c6 => ?_)
  ·
    have f7 : R 6 6 (h4 70 3) := le_lo (⟨by decide, by decide⟩ : R 6 6 (6 : Int32)) (inv_rng i5 rfl : R 0 6 (h4 70 3)) c6
    refine s_dz (⟨by decide, by decide⟩ : R 6 6 (6 : Int32)) (by decide) ?_
    refine s_lt (fun h5 e8 => ?_)
    have i9 : Inv h5 := by rw [e8]; exact inv_put i5 rfl (r_w (r_irm (r_add (inv_rng i5 rfl : R 0 5 (h4 70 2)) (⟨by decide, by decide⟩ : R 1 1 (1 : Int32)) (by decide) : R 1 6 ((h4 70 2) + 1)) (⟨by decide, by decide⟩ : R 6 6 (6 : Int32)) (by decide) : R 0 5 (irm ((h4 70 2) + 1) 6)) (by decide))
    have f10 : R 6 6 (h5 70 3) := by rw [e8, up_oj (by decide)]; exact f7
    exact s_some i9
  ·
    have f11 : R 0 5 (h4 70 3) := lt_hi (inv_rng i5 rfl : R 0 6 (h4 70 3)) (⟨by decide, by decide⟩ : R 6 6 (6 : Int32)) (nle_lt c6) (by decide)
    refine s_lt (fun h6 e12 => ?_)
    have i13 : Inv h6 := by rw [e12]; exact inv_put i5 rfl (r_w (r_add f11 (⟨by decide, by decide⟩ : R 1 1 (1 : Int32)) (by decide) : R 1 6 ((h4 70 3) + 1)) (by decide))
    have f14 : R 1 6 (h6 70 3) := by rw [e12, up_same]; exact (r_add f11 (⟨by decide, by decide⟩ : R 1 1 (1 : Int32)) (by decide) : R 1 6 ((h4 70 3) + 1))
    exact s_some i13
theorem sf_P_goBack (a1 : Nat) (hb_a1 : isB a1) {h0 : PH} (i_h0 : Inv h0) : Sf (mP_goBack a1 h0) (fun r => R 0 150 r.1 ∧ Inv r.2) := by
  unfold mP_goBack
  refine s_lt (fun h1 e1 => ?_)
  have i2 : Inv h1 := by rw [e1]; exact inv_put i_h0 rfl (r_w (r_max (⟨by decide, by decide⟩ : R 0 0 (0 : Int32)) (r_sub (inv_rng i_h0 rfl : R 0 6 (h0 70 3)) (⟨by decide, by decide⟩ : R 1 1 (1 : Int32)) (by decide) : R (-1) 5 ((h0 70 3) - 1)) (by decide) : R 0 5 (imax 0 ((h0 70 3) - 1))) (by decide))
  have f3 : R 0 5 (h1 70 3) := by rw [e1, up_same]; exact (r_max (⟨by decide, by decide⟩ : R 0 0 (0 : Int32)) (r_sub (inv_rng i_h0 rfl : R 0 6 (h0 70 3)) (⟨by decide, by decide⟩ : R 1 1 (1 : Int32)) (by decide) : R (-1) 5 ((h0 70 3) - 1)) (by decide) : R 0 5 (imax 0 ((h0 70 3) - 1)))
  refine s_dz (⟨by decide, by decide⟩ : R 6 6 (6 : Int32)) (by decide) ?_
  refine s_lt (fun x2 e4 => ?_)
  have f5 : R 0 5 x2 := by rw [e4]; exact (r_irm (r_add (inv_rng i2 rfl : R 0 5 (h1 70 2)) f3 (by decide) : R 0 10 ((h1 70 2) + (h1 70 3))) (⟨by decide, by decide⟩ : R 6 6 (6 : Int32)) (by decide) : R 0 5 (irm ((h1 70 2) + (h1 70 3)) 6))
  refine s_ck f5 (by decide) ?_
  refine s_bd (sf_B_copyFrom (a1) ((73 + (2 * (ix x2)))) hb_a1 (isB_kept (r_w f5 (by decide))) i2) (fun h4 f6 => ?_)
  refine s_ck f5 (by decide) ?_
  exact s_some ⟨r_w (inv_rng f6 rfl : R 0 150 (h4 72 (ix x2))) (by decide), f6⟩
theorem sf_P_forget {h0 : PH} (i_h0 : Inv h0) : Sf (mP_forget h0) (fun h => Inv h) := by
  unfold mP_forget
  refine s_lt (fun h1 e1 => ?_)
  have i2 : Inv h1 := by rw [e1]; exact inv_put i_h0 rfl (r_w (⟨by decide, by decide⟩ : R 0 0 (0 : Int32)) (by decide))
  exact s_some i2
theorem sl_O_nextTo_L4_5 (p1 : Int32) (h0 : PH) (f_p1 : R (-2147483648) 2147483647 p1) (i_h0 : Inv h0) : ∀ (n : Nat) (v2 : Int32) (v3 : Int32), 16 - v3.toInt < (n : Int) → R (-2147483648) 2147483647 v2 → R 0 16 v3 → Sf (mO_nextTo_L4 5 p1 h0 n v2 v3) (fun r => R (-2147483648) 2147483647 r) := by
  intro n
  induction n with
  | zero =>
    intro v2 v3 hfu f_v2 f_v3
    have := f_v3.2
    omega
  | succ n ih =>
    intro v2 v3 hfu f_v2 f_v3
    rw [mO_nextTo_L4]
    refine s_if (fun c1 => ?_) (fun c1 => ?_)
    ·
      exact s_some (r_w f_v2 (by decide))
    ·
      have f2 : R 0 15 v3 := lt_hi f_v3 (inv_rng i_h0 rfl : R 0 16 (h0 14 3)) (nle_lt c1) (by decide)
      have f3 : R 1 16 (h0 14 3) := lt_lo f_v3 (inv_rng i_h0 rfl : R 0 16 (h0 14 3)) (nle_lt c1) (by decide)
      refine s_bd (sf_R_at (14) v3 0 isR_14 i_h0) (fun r1 f4 => ?_)
      refine s_bd (sf_R_at (14) v3 1 isR_14 i_h0) (fun r2 f5 => ?_)
      refine s_jn1 (P := fun (x4 : Int32) => R (-2147483648) 2147483647 x4) (fun x4 f8 => ?_) (fun j3 kj3 => ?_)
      ·
        refine s_if (fun c9 => ?_) (fun c9 => ?_)
        ·
          refine s_lt (fun x5 e10 => ?_)
          exact ih x5 (v3 + 1) (fu_su hfu (i_inc f2 (k := 1) rfl (by decide)) (by decide)) (r_w (r_full x5) (by decide)) (r_w (r_add f2 (⟨by decide, by decide⟩ : R 1 1 (1 : Int32)) (by decide) : R 1 16 (v3 + 1)) (by decide))
        ·
          exact ih x4 (v3 + 1) (fu_su hfu (i_inc f2 (k := 1) rfl (by decide)) (by decide)) (r_w (r_full x4) (by decide)) (r_w (r_add f2 (⟨by decide, by decide⟩ : R 1 1 (1 : Int32)) (by decide) : R 1 16 (v3 + 1)) (by decide))
      ·
        refine s_if (fun c11 => ?_) (fun c11 => ?_)
        ·
          refine s_lt (fun x6 e12 => ?_)
          exact kj3 _ (r_w (r_full x6) (by decide))
        ·
          exact kj3 _ (r_w f_v2 (by decide))
theorem sf_O_nextTo_5 (p1 : Int32) {h0 : PH} (i_h0 : Inv h0) : Sf (mO_nextTo 5 p1 h0) (fun r => R (-2147483648) 2147483647 r) := by
  unfold mO_nextTo
  refine sl_O_nextTo_L4_5 p1 h0 (r_w (r_full p1) (by decide)) i_h0 FU 0 0 (fu_up (⟨by decide, by decide⟩ : R 0 0 (0 : Int32)) (by decide)) (r_w (⟨by decide, by decide⟩ : R 0 0 (0 : Int32)) (by decide)) (r_w (⟨by decide, by decide⟩ : R 0 0 (0 : Int32)) (by decide))
theorem sf_O_copyFrom_5_39 {h0 : PH} (i_h0 : Inv h0) : Sf (mO_copyFrom 5 39 h0) (fun h => Inv h) := by
  unfold mO_copyFrom
  refine s_bd (sf_R_copyFrom (6) (40) isR_6 isR_40 i_h0) (fun h1 f1 => ?_)
  refine s_bd (sf_R_copyFrom (8) (42) isR_8 isR_42 f1) (fun h2 f2 => ?_)
  refine s_bd (sf_R_copyFrom (10) (44) isR_10 isR_44 f2) (fun h3 f3 => ?_)
  refine s_bd (sf_R_copyFrom (12) (46) isR_12 isR_46 f3) (fun h4 f4 => ?_)
  refine s_bd (sf_R_copyFrom (14) (48) isR_14 isR_48 f4) (fun h5 f5 => ?_)
  refine s_bd (sf_R_copyFrom (16) (50) isR_16 isR_50 f5) (fun h6 f6 => ?_)
  refine s_bd (sf_R_copyFrom (18) (52) isR_18 isR_52 f6) (fun h7 f7 => ?_)
  refine s_bd (sf_R_copyFrom (20) (54) isR_20 isR_54 f7) (fun h8 f8 => ?_)
  refine s_bd (sf_R_copyFrom (22) (56) isR_22 isR_56 f8) (fun h9 f9 => ?_)
  refine s_bd (sf_R_copyFrom (24) (58) isR_24 isR_58 f9) (fun h10 f10 => ?_)
  refine s_bd (sf_R_copyFrom (26) (60) isR_26 isR_60 f10) (fun h11 f11 => ?_)
  refine s_bd (sf_R_copyFrom (28) (62) isR_28 isR_62 f11) (fun h12 f12 => ?_)
  refine s_bd (sf_R_copyFrom (30) (64) isR_30 isR_64 f12) (fun h13 f13 => ?_)
  refine s_bd (sf_R_copyFrom (32) (66) isR_32 isR_66 f13) (fun h14 f14 => ?_)
  exact s_some f14
theorem sf_O_copyFrom_39_5 {h0 : PH} (i_h0 : Inv h0) : Sf (mO_copyFrom 39 5 h0) (fun h => Inv h) := by
  unfold mO_copyFrom
  refine s_bd (sf_R_copyFrom (40) (6) isR_40 isR_6 i_h0) (fun h1 f1 => ?_)
  refine s_bd (sf_R_copyFrom (42) (8) isR_42 isR_8 f1) (fun h2 f2 => ?_)
  refine s_bd (sf_R_copyFrom (44) (10) isR_44 isR_10 f2) (fun h3 f3 => ?_)
  refine s_bd (sf_R_copyFrom (46) (12) isR_46 isR_12 f3) (fun h4 f4 => ?_)
  refine s_bd (sf_R_copyFrom (48) (14) isR_48 isR_14 f4) (fun h5 f5 => ?_)
  refine s_bd (sf_R_copyFrom (50) (16) isR_50 isR_16 f5) (fun h6 f6 => ?_)
  refine s_bd (sf_R_copyFrom (52) (18) isR_52 isR_18 f6) (fun h7 f7 => ?_)
  refine s_bd (sf_R_copyFrom (54) (20) isR_54 isR_20 f7) (fun h8 f8 => ?_)
  refine s_bd (sf_R_copyFrom (56) (22) isR_56 isR_22 f8) (fun h9 f9 => ?_)
  refine s_bd (sf_R_copyFrom (58) (24) isR_58 isR_24 f9) (fun h10 f10 => ?_)
  refine s_bd (sf_R_copyFrom (60) (26) isR_60 isR_26 f10) (fun h11 f11 => ?_)
  refine s_bd (sf_R_copyFrom (62) (28) isR_62 isR_28 f11) (fun h12 f12 => ?_)
  refine s_bd (sf_R_copyFrom (64) (30) isR_64 isR_30 f12) (fun h13 f13 => ?_)
  refine s_bd (sf_R_copyFrom (66) (32) isR_66 isR_32 f13) (fun h14 f14 => ?_)
  exact s_some f14
theorem sf_T_onwards (p0 : Int32) (p1 : Int32) (p2 : Int32) {h0 : PH} (i_h0 : Inv h0) : Sf (mT_onwards p0 p1 p2 h0) (fun r => R (-2147483648) 2147483647 r) := by
  unfold mT_onwards
  refine s_if (fun c1 => ?_) (fun c1 => ?_)
  ·
    have f2 : R 0 0 p2 := r_eq (⟨by decide, by decide⟩ : R 0 0 (0 : Int32)) c1
    exact s_some (r_w (r_full (p0 + p1)) (by decide))
  ·
    exact s_some (r_w (r_max (r_full p0) (r_full p1) (by decide) : R (-2147483648) 2147483647 (imax p0 p1)) (by decide))
theorem sl_T_spread_L3 (a1 : Nat) (a2 : Nat) (p3 : Int32) (p4 : Int32) (k0 : PH → Option (PH)) (hb_a1 : isB a1) (hb_a2 : isR a2) (f_p3 : R (-2147483648) 2147483647 p3) (f_p4 : R (-2147483648) 2147483647 p4) (hk_k0 : ∀ (y0 : PH), Inv y0 → Sf (k0 y0) (fun h => Inv h)) : ∀ (n : Nat) (v5 : Int32) (hv : PH), 12 - v5.toInt < (n : Int) → R 0 12 v5 → Inv hv → Sf (mT_spread_L3 a1 a2 p3 p4 k0 n v5 hv) (fun h => Inv h) := by
  intro n
  induction n with
  | zero =>
    intro v5 hv hfu f_v5 i_hv
    have := f_v5.2
    omega
  | succ n ih =>
    intro v5 hv hfu f_v5 i_hv
    rw [mT_spread_L3]
    refine s_if (fun c1 => ?_) (fun c1 => ?_)
    ·
      have f2 : R 12 12 v5 := le_lo (⟨by decide, by decide⟩ : R 12 12 (12 : Int32)) f_v5 c1
      exact hk_k0 _ (i_hv)
    ·
      have f3 : R 0 11 v5 := lt_hi f_v5 (⟨by decide, by decide⟩ : R 12 12 (12 : Int32)) (nle_lt c1) (by decide)
      refine s_jn1 (P := fun (x2 : Int32) => R 0 1000000 x2) (fun x2 f6 => ?_) (fun j1 kj1 => ?_)
      ·
        refine s_ck f3 (by decide) ?_
        refine s_lt (fun h3 e7 => ?_)
        have i8 : Inv h3 := by rw [e7]; exact inv_put i_hv rfl (r_w f6 (by decide))
        exact ih (v5 + 1) h3 (fu_su hfu (i_inc f3 (k := 1) rfl (by decide)) (by decide)) (r_w (r_add f3 (⟨by decide, by decide⟩ : R 1 1 (1 : Int32)) (by decide) : R 1 12 (v5 + 1)) (by decide)) i8
      ·
        refine s_if (fun c9 => ?_) (fun c9 => ?_)
        ·
          have f10 : R 0 11 p3 := r_eq f3 c9.symm
          exact kj1 _ (r_w (⟨by decide, by decide⟩ : R 0 0 (0 : Int32)) (by decide))
        ·
          exact kj1 _ (r_w (⟨by decide, by decide⟩ : R 1000000 1000000 (1000000 : Int32)) (by decide))
theorem sl_T_spread_L48 (a1 : Nat) (a2 : Nat) (p4 : Int32) (p5 : Int32) (k0 : PH → Option (PH)) (hb_a1 : isB a1) (hb_a2 : isR a2) (f_p4 : R (-2147483648) 2147483647 p4) (f_p5 : R 0 11 p5) (hk_k0 : ∀ (y0 : PH), Inv y0 → Sf (k0 y0) (fun h => Inv h)) : ∀ (n : Nat) (v6 : Int32) (hv : PH), 400 - v6.toInt < (n : Int) → R 0 400 v6 → Inv hv → Sf (mT_spread_L48 a1 a2 p4 p5 k0 n v6 hv) (fun h => Inv h) := by
  intro n
  induction n with
  | zero =>
    intro v6 hv hfu f_v6 i_hv
    have := f_v6.2
    omega
  | succ n ih =>
    intro v6 hv hfu f_v6 i_hv
    rw [mT_spread_L48]
    refine s_if (fun c1 => ?_) (fun c1 => ?_)
    ·
      exact hk_k0 _ (i_hv)
    ·
      have f2 : R 0 399 v6 := lt_hi f_v6 (rows_rng hb_a2 i_hv) (nle_lt c1) (by decide)
      have f3 : R 1 400 (hv a2 3) := lt_lo f_v6 (rows_rng hb_a2 i_hv) (nle_lt c1) (by decide)
      refine s_bd (sf_R_at (a2) v6 0 hb_a2 i_hv) (fun r5 f4 => ?_)
      refine s_bd (sf_R_at (a2) v6 1 hb_a2 i_hv) (fun r6 f5 => ?_)
      refine s_has hb_a1 i_hv (fun r7 f7 c6 => ?_)
      refine s_if (fun c8 => ?_) (fun c8 => ?_)
      ·
        have f9 : R 0 0 r7 := r_eq (⟨by decide, by decide⟩ : R 0 0 (0 : Int32)) c8
        exact ih (v6 + 1) hv (fu_su hfu (i_inc f2 (k := 1) rfl (by decide)) (by decide)) (r_w (r_add f2 (⟨by decide, by decide⟩ : R 1 1 (1 : Int32)) (by decide) : R 1 400 (v6 + 1)) (by decide)) i_hv
      ·
        have f10 : R 1 1 r7 := r_ne_lo f7 (⟨by decide, by decide⟩ : R 0 0 (0 : Int32)) c8 (by decide)
        have f11 : R 0 11 r5 := c6 c8
        refine s_has hb_a1 i_hv (fun r8 f13 c12 => ?_)
        refine s_if (fun c14 => ?_) (fun c14 => ?_)
        ·
          have f15 : R 0 0 r8 := r_eq (⟨by decide, by decide⟩ : R 0 0 (0 : Int32)) c14
          exact ih (v6 + 1) hv (fu_su hfu (i_inc f2 (k := 1) rfl (by decide)) (by decide)) (r_w (r_add f2 (⟨by decide, by decide⟩ : R 1 1 (1 : Int32)) (by decide) : R 1 400 (v6 + 1)) (by decide)) i_hv
        ·
          have f16 : R 1 1 r8 := r_ne_lo f13 (⟨by decide, by decide⟩ : R 0 0 (0 : Int32)) c14 (by decide)
          have f17 : R 0 11 r6 := c12 c14
          refine s_bd (sf_B_sumOf (a1) r5 hb_a1 i_hv) (fun r9 f18 => ?_)
          refine s_bd (sf_B_sumOf (a1) r6 hb_a1 i_hv) (fun r10 f19 => ?_)
          refine s_lt (fun x11 e20 => ?_)
          refine s_ck f17 (by decide) ?_
          refine s_ck f11 (by decide) ?_
          refine s_bd (sf_T_onwards (hv 96 (ix r5)) x11 p4 i_hv) (fun r12 f21 => ?_)
          refine s_ck f17 (by decide) ?_
          refine s_lt (fun h13 e22 => ?_)
          have i23 : Inv h13 := by rw [e22]; exact inv_put i_hv rfl (r_w (r_min (r_full (hv 96 (ix r6))) (r_full r12) (by decide) : R (-2147483648) 2147483647 (imin (hv 96 (ix r6)) r12)) (by decide))
          refine s_ck f11 (by decide) ?_
          refine s_ck f17 (by decide) ?_
          refine s_bd (sf_T_onwards (h13 96 (ix r6)) x11 p4 i23) (fun r14 f24 => ?_)
          refine s_ck f11 (by decide) ?_
          refine s_lt (fun h15 e25 => ?_)
          have i26 : Inv h15 := by rw [e25]; exact inv_put i23 rfl (r_w (r_min (r_full (h13 96 (ix r5))) (r_full r14) (by decide) : R (-2147483648) 2147483647 (imin (h13 96 (ix r5)) r14)) (by decide))
          exact ih (v6 + 1) h15 (fu_su hfu (i_inc f2 (k := 1) rfl (by decide)) (by decide)) (r_w (r_add f2 (⟨by decide, by decide⟩ : R 1 1 (1 : Int32)) (by decide) : R 1 400 (v6 + 1)) (by decide)) i26
theorem sl_T_spread_L38 (a1 : Nat) (a2 : Nat) (p4 : Int32) (hb_a1 : isB a1) (hb_a2 : isR a2) (f_p4 : R (-2147483648) 2147483647 p4) : ∀ (n : Nat) (v5 : Int32) (hv : PH), 12 - v5.toInt < (n : Int) → R 0 12 v5 → Inv hv → Sf (mT_spread_L38 a1 a2 p4 n v5 hv) (fun h => Inv h) := by
  intro n
  induction n with
  | zero =>
    intro v5 hv hfu f_v5 i_hv
    have := f_v5.2
    omega
  | succ n ih =>
    intro v5 hv hfu f_v5 i_hv
    rw [mT_spread_L38]
    refine s_if (fun c1 => ?_) (fun c1 => ?_)
    ·
      have f2 : R 12 12 v5 := le_lo (⟨by decide, by decide⟩ : R 12 12 (12 : Int32)) f_v5 c1
      exact s_some i_hv
    ·
      have f3 : R 0 11 v5 := lt_hi f_v5 (⟨by decide, by decide⟩ : R 12 12 (12 : Int32)) (nle_lt c1) (by decide)
      refine sl_T_spread_L48 (a1) (a2) p4 v5 _ hb_a1 hb_a2 (r_w f_p4 (by decide)) (r_w f3 (by decide)) ?_ FU 0 hv (fu_up (⟨by decide, by decide⟩ : R 0 0 (0 : Int32)) (by decide)) (r_w (⟨by decide, by decide⟩ : R 0 0 (0 : Int32)) (by decide)) i_hv
      ·
        intro h16 f4
        exact ih (v5 + 1) h16 (fu_su hfu (i_inc f3 (k := 1) rfl (by decide)) (by decide)) (r_w (r_add f3 (⟨by decide, by decide⟩ : R 1 1 (1 : Int32)) (by decide) : R 1 12 (v5 + 1)) (by decide)) f4
theorem sf_T_spread (a1 : Nat) (a2 : Nat) (p3 : Int32) (p4 : Int32) (hb_a1 : isB a1) (hb_a2 : isR a2) {h0 : PH} (i_h0 : Inv h0) : Sf (mT_spread a1 a2 p3 p4 h0) (fun h => Inv h) := by
  unfold mT_spread
  refine sl_T_spread_L3 (a1) (a2) p3 p4 _ hb_a1 hb_a2 (r_w (r_full p3) (by decide)) (r_w (r_full p4) (by decide)) ?_ FU 0 h0 (fu_up (⟨by decide, by decide⟩ : R 0 0 (0 : Int32)) (by decide)) (r_w (⟨by decide, by decide⟩ : R 0 0 (0 : Int32)) (by decide)) i_h0
  ·
    intro h4 f1
    refine sl_T_spread_L38 (a1) (a2) p4 hb_a1 hb_a2 (r_w (r_full p4) (by decide)) FU 0 h4 (fu_up (⟨by decide, by decide⟩ : R 0 0 (0 : Int32)) (by decide)) (r_w (⟨by decide, by decide⟩ : R 0 0 (0 : Int32)) (by decide)) f1
theorem sf_T_costTo (p1 : Int32) {h0 : PH} (i_h0 : Inv h0) : Sf (mT_costTo p1 h0) (fun r => R (-2147483648) 999999 r) := by
  unfold mT_costTo
  refine s_if (fun c1 => ?_) (fun c1 => ?_)
  ·
    have f2 : R (-2147483648) (-1) p1 := lt_hi (r_full p1) (⟨by decide, by decide⟩ : R 0 0 (0 : Int32)) c1 (by decide)
    exact s_some (r_w (⟨by decide, by decide⟩ : R (-1) (-1) (-1 : Int32)) (by decide))
  ·
    have f3 : R 0 2147483647 p1 := le_lo (⟨by decide, by decide⟩ : R 0 0 (0 : Int32)) (r_full p1) (nlt_le c1)
    refine s_if (fun c4 => ?_) (fun c4 => ?_)
    ·
      have f5 : R 12 2147483647 p1 := le_lo (⟨by decide, by decide⟩ : R 12 12 (12 : Int32)) f3 c4
      exact s_some (r_w (⟨by decide, by decide⟩ : R (-1) (-1) (-1 : Int32)) (by decide))
    ·
      have f6 : R 0 11 p1 := lt_hi f3 (⟨by decide, by decide⟩ : R 12 12 (12 : Int32)) (nle_lt c4) (by decide)
      refine s_ck f6 (by decide) ?_
      refine s_if (fun c7 => ?_) (fun c7 => ?_)
      ·
        have f8 : R (-2147483648) 999999 (h0 96 (ix p1)) := lt_hi (r_full (h0 96 (ix p1))) (⟨by decide, by decide⟩ : R 1000000 1000000 (1000000 : Int32)) c7 (by decide)
        refine s_ck f6 (by decide) ?_
        exact s_some (r_w f8 (by decide))
      ·
        have f9 : R 1000000 2147483647 (h0 96 (ix p1)) := le_lo (⟨by decide, by decide⟩ : R 1000000 1000000 (1000000 : Int32)) (r_full (h0 96 (ix p1))) (nlt_le c7)
        exact s_some (r_w (⟨by decide, by decide⟩ : R (-1) (-1) (-1 : Int32)) (by decide))
theorem sl_T_countWithin_L6 (p1 : Int32) (p2 : Int32) (p3 : Int32) (h0 : PH) (f_p1 : R (-2147483648) 2147483647 p1) (f_p2 : R (-2147483648) 2147483647 p2) (f_p3 : R (-2147483648) 2147483647 p3) (i_h0 : Inv h0) : ∀ (n : Nat) (v4 : Int32) (v5 : Int32), 12 - v5.toInt < (n : Int) → R (-2147483648) 2147483647 v4 → R 0 12 v5 → Sf (mT_countWithin_L6 p1 p2 p3 h0 n v4 v5) (fun r => R (-2147483648) 2147483647 r) := by
  intro n
  induction n with
  | zero =>
    intro v4 v5 hfu f_v4 f_v5
    have := f_v5.2
    omega
  | succ n ih =>
    intro v4 v5 hfu f_v4 f_v5
    rw [mT_countWithin_L6]
    refine s_if (fun c1 => ?_) (fun c1 => ?_)
    ·
      have f2 : R (-2147483648) 12 p1 := le_hi f_p1 f_v5 c1
      exact s_some (r_w f_v4 (by decide))
    ·
      have f3 : R 1 2147483647 p1 := lt_lo f_v5 f_p1 (nle_lt c1) (by decide)
      refine s_if (fun c4 => ?_) (fun c4 => ?_)
      ·
        have f5 : R 12 12 v5 := le_lo (⟨by decide, by decide⟩ : R 12 12 (12 : Int32)) f_v5 c4
        exact s_some (r_w f_v4 (by decide))
      ·
        have f6 : R 0 11 v5 := lt_hi f_v5 (⟨by decide, by decide⟩ : R 12 12 (12 : Int32)) (nle_lt c4) (by decide)
        refine s_if (fun c7 => ?_) (fun c7 => ?_)
        ·
          have f8 : R 0 11 p2 := r_eq f6 c7.symm
          exact ih v4 (v5 + 1) (fu_su hfu (i_inc f6 (k := 1) rfl (by decide)) (by decide)) (r_w f_v4 (by decide)) (r_w (r_add f6 (⟨by decide, by decide⟩ : R 1 1 (1 : Int32)) (by decide) : R 1 12 (v5 + 1)) (by decide))
        ·
          refine s_ck f6 (by decide) ?_
          refine s_if (fun c9 => ?_) (fun c9 => ?_)
          ·
            have f10 : R (-2147483648) 2147483646 p3 := lt_hi f_p3 (r_full (h0 96 (ix v5))) c9 (by decide)
            have f11 : R (-2147483647) 2147483647 (h0 96 (ix v5)) := lt_lo f_p3 (r_full (h0 96 (ix v5))) c9 (by decide)
            exact ih v4 (v5 + 1) (fu_su hfu (i_inc f6 (k := 1) rfl (by decide)) (by decide)) (r_w f_v4 (by decide)) (r_w (r_add f6 (⟨by decide, by decide⟩ : R 1 1 (1 : Int32)) (by decide) : R 1 12 (v5 + 1)) (by decide))
          ·
            exact ih (v4 + 1) (v5 + 1) (fu_su hfu (i_inc f6 (k := 1) rfl (by decide)) (by decide)) (r_w (r_full (v4 + 1)) (by decide)) (r_w (r_add f6 (⟨by decide, by decide⟩ : R 1 1 (1 : Int32)) (by decide) : R 1 12 (v5 + 1)) (by decide))
theorem sf_T_countWithin (p1 : Int32) (p2 : Int32) (p3 : Int32) {h0 : PH} (i_h0 : Inv h0) : Sf (mT_countWithin p1 p2 p3 h0) (fun r => R (-2147483648) 2147483647 r) := by
  unfold mT_countWithin
  refine sl_T_countWithin_L6 p1 p2 p3 h0 (r_w (r_full p1) (by decide)) (r_w (r_full p2) (by decide)) (r_w (r_full p3) (by decide)) i_h0 FU 0 0 (fu_up (⟨by decide, by decide⟩ : R 0 0 (0 : Int32)) (by decide)) (r_w (⟨by decide, by decide⟩ : R 0 0 (0 : Int32)) (by decide)) (r_w (⟨by decide, by decide⟩ : R 0 0 (0 : Int32)) (by decide))
theorem sl_T_isAlone_L2 (p1 : Int32) (h0 : PH) (f_p1 : R (-2147483648) 2147483647 p1) (i_h0 : Inv h0) : ∀ (n : Nat) (v2 : Int32), 12 - v2.toInt < (n : Int) → R 0 12 v2 → Sf (mT_isAlone_L2 p1 h0 n v2) (fun r => R 0 1 r) := by
  intro n
  induction n with
  | zero =>
    intro v2 hfu f_v2
    have := f_v2.2
    omega
  | succ n ih =>
    intro v2 hfu f_v2
    rw [mT_isAlone_L2]
    refine s_if (fun c1 => ?_) (fun c1 => ?_)
    ·
      have f2 : R 12 12 v2 := le_lo (⟨by decide, by decide⟩ : R 12 12 (12 : Int32)) f_v2 c1
      exact s_some (r_w (⟨by decide, by decide⟩ : R 1 1 (1 : Int32)) (by decide))
    ·
      have f3 : R 0 11 v2 := lt_hi f_v2 (⟨by decide, by decide⟩ : R 12 12 (12 : Int32)) (nle_lt c1) (by decide)
      refine s_if (fun c4 => ?_) (fun c4 => ?_)
      ·
        have f5 : R 1 1 ((p1 >>> (v2 &&& 31)) &&& 1) := r_eq (⟨by decide, by decide⟩ : R 1 1 (1 : Int32)) c4
        refine s_ck f3 (by decide) ?_
        refine s_if (fun c6 => ?_) (fun c6 => ?_)
        ·
          have f7 : R 0 0 ((h0 97 (ix v2)) &&& p1) := r_eq (⟨by decide, by decide⟩ : R 0 0 (0 : Int32)) c6
          exact ih (v2 + 1) (fu_su hfu (i_inc f3 (k := 1) rfl (by decide)) (by decide)) (r_w (r_add f3 (⟨by decide, by decide⟩ : R 1 1 (1 : Int32)) (by decide) : R 1 12 (v2 + 1)) (by decide))
        ·
          exact s_some (r_w (⟨by decide, by decide⟩ : R 0 0 (0 : Int32)) (by decide))
      ·
        have f8 : R 0 0 ((p1 >>> (v2 &&& 31)) &&& 1) := r_ne_hi (r_and (⟨by decide, by decide⟩ : R 1 1 (1 : Int32)) (by decide) : R 0 1 ((p1 >>> (v2 &&& 31)) &&& 1)) (⟨by decide, by decide⟩ : R 1 1 (1 : Int32)) c4 (by decide)
        exact ih (v2 + 1) (fu_su hfu (i_inc f3 (k := 1) rfl (by decide)) (by decide)) (r_w (r_add f3 (⟨by decide, by decide⟩ : R 1 1 (1 : Int32)) (by decide) : R 1 12 (v2 + 1)) (by decide))
theorem sf_T_isAlone (p1 : Int32) {h0 : PH} (i_h0 : Inv h0) : Sf (mT_isAlone p1 h0) (fun r => R 0 1 r) := by
  unfold mT_isAlone
  refine sl_T_isAlone_L2 p1 h0 (r_w (r_full p1) (by decide)) i_h0 FU 0 (fu_up (⟨by decide, by decide⟩ : R 0 0 (0 : Int32)) (by decide)) (r_w (⟨by decide, by decide⟩ : R 0 0 (0 : Int32)) (by decide))
theorem sl_T_mostAlone_L8_5 (p3 : Int32) (k0 : PH → Option (Int32 × PH)) (f_p3 : R 0 4095 p3) (hk_k0 : ∀ (y0 : PH), Inv y0 → Sf (k0 y0) (fun r => R 0 4095 r.1 ∧ Inv r.2)) : ∀ (n : Nat) (v4 : Int32) (hv : PH), 12 - v4.toInt < (n : Int) → R 0 12 v4 → Inv hv → Sf (mT_mostAlone_L8 5 p3 k0 n v4 hv) (fun r => R 0 4095 r.1 ∧ Inv r.2) := by
  intro n
  induction n with
  | zero =>
    intro v4 hv hfu f_v4 i_hv
    have := f_v4.2
    omega
  | succ n ih =>
    intro v4 hv hfu f_v4 i_hv
    rw [mT_mostAlone_L8]
    refine s_if (fun c1 => ?_) (fun c1 => ?_)
    ·
      have f2 : R 12 12 v4 := le_lo (⟨by decide, by decide⟩ : R 12 12 (12 : Int32)) f_v4 c1
      exact hk_k0 _ (i_hv)
    ·
      have f3 : R 0 11 v4 := lt_hi f_v4 (⟨by decide, by decide⟩ : R 12 12 (12 : Int32)) (nle_lt c1) (by decide)
      refine s_bd (sf_O_nextTo_5 v4 i_hv) (fun r2 f4 => ?_)
      refine s_ck f3 (by decide) ?_
      refine s_lt (fun h3 e5 => ?_)
      have i6 : Inv h3 := by rw [e5]; exact inv_put i_hv rfl (r_w (r_full r2) (by decide))
      exact ih (v4 + 1) h3 (fu_su hfu (i_inc f3 (k := 1) rfl (by decide)) (by decide)) (r_w (r_add f3 (⟨by decide, by decide⟩ : R 1 1 (1 : Int32)) (by decide) : R 1 12 (v4 + 1)) (by decide)) i6
theorem sl_T_mostAlone_L43_5 (p3 : Int32) (h0 : PH) (f_p3 : R 0 4095 p3) (i_h0 : Inv h0) : ∀ (n : Nat) (v4 : Int32) (v5 : Int32) (v6 : Int32), 4096 - v6.toInt < (n : Int) → R 0 4095 v4 → R 0 63 v5 → R 1 4096 v6 → Sf (mT_mostAlone_L43 p3 h0 n v4 v5 v6) (fun r => R 0 4095 r.1 ∧ Inv r.2) := by
  intro n
  induction n with
  | zero =>
    intro v4 v5 v6 hfu f_v4 f_v5 f_v6
    have := f_v6.2
    omega
  | succ n ih =>
    intro v4 v5 v6 hfu f_v4 f_v5 f_v6
    rw [mT_mostAlone_L43]
    refine s_if (fun c1 => ?_) (fun c1 => ?_)
    ·
      have f2 : R 4096 4096 v6 := le_lo (⟨by decide, by decide⟩ : R 4096 4096 (4096 : Int32)) f_v6 c1
      exact s_some ⟨r_w f_v4 (by decide), i_h0⟩
    ·
      have f3 : R 1 4095 v6 := lt_hi f_v6 (⟨by decide, by decide⟩ : R 4096 4096 (4096 : Int32)) (nle_lt c1) (by decide)
      refine s_if (fun c4 => ?_) (fun c4 => ?_)
      ·
        have f5 : R 1 4095 (v6 &&& p3) := r_eq f3 c4
        refine s_bd (sf_J_bitCount v6 i_h0) (fun r5 f6 => ?_)
        refine s_if (fun c7 => ?_) (fun c7 => ?_)
        ·
          exact ih v4 v5 (v6 + 1) (fu_su hfu (i_inc f3 (k := 1) rfl (by decide)) (by decide)) (r_w f_v4 (by decide)) (r_w f_v5 (by decide)) (r_w (r_add f3 (⟨by decide, by decide⟩ : R 1 1 (1 : Int32)) (by decide) : R 2 4096 (v6 + 1)) (by decide))
        ·
          have f8 : R 0 62 v5 := lt_hi f_v5 f6 (nle_lt c7) (by decide)
          have f9 : R 1 63 r5 := lt_lo f_v5 f6 (nle_lt c7) (by decide)
          refine s_bd (sf_T_isAlone v6 i_h0) (fun r6 f10 => ?_)
          refine s_if (fun c11 => ?_) (fun c11 => ?_)
          ·
            have f12 : R 0 0 r6 := r_eq (⟨by decide, by decide⟩ : R 0 0 (0 : Int32)) c11
            exact ih v4 v5 (v6 + 1) (fu_su hfu (i_inc f3 (k := 1) rfl (by decide)) (by decide)) (r_w f_v4 (by decide)) (r_w f8 (by decide)) (r_w (r_add f3 (⟨by decide, by decide⟩ : R 1 1 (1 : Int32)) (by decide) : R 2 4096 (v6 + 1)) (by decide))
          ·
            have f13 : R 1 1 r6 := r_ne_lo f10 (⟨by decide, by decide⟩ : R 0 0 (0 : Int32)) c11 (by decide)
            refine s_bd (sf_J_bitCount v6 i_h0) (fun r7 f14 => ?_)
            exact ih v6 r7 (v6 + 1) (fu_su hfu (i_inc f3 (k := 1) rfl (by decide)) (by decide)) (r_w f3 (by decide)) (r_w f14 (by decide)) (r_w (r_add f3 (⟨by decide, by decide⟩ : R 1 1 (1 : Int32)) (by decide) : R 2 4096 (v6 + 1)) (by decide))
      ·
        exact ih v4 v5 (v6 + 1) (fu_su hfu (i_inc f3 (k := 1) rfl (by decide)) (by decide)) (r_w f_v4 (by decide)) (r_w f_v5 (by decide)) (r_w (r_add f3 (⟨by decide, by decide⟩ : R 1 1 (1 : Int32)) (by decide) : R 2 4096 (v6 + 1)) (by decide))
theorem sf_T_mostAlone_5 (a1 : Nat) (hb_a1 : isB a1) {h0 : PH} (i_h0 : Inv h0) : Sf (mT_mostAlone a1 5 h0) (fun r => R 0 4095 r.1 ∧ Inv r.2) := by
  unfold mT_mostAlone
  refine s_bd (sf_B_upSet (a1) hb_a1 i_h0) (fun r1 f1 => ?_)
  refine sl_T_mostAlone_L8_5 r1 _ (r_w f1 (by decide)) ?_ FU 0 h0 (fu_up (⟨by decide, by decide⟩ : R 0 0 (0 : Int32)) (by decide)) (r_w (⟨by decide, by decide⟩ : R 0 0 (0 : Int32)) (by decide)) i_h0
  ·
    intro h4 f2
    refine sl_T_mostAlone_L43_5 r1 h4 (r_w f1 (by decide)) f2 FU 0 0 1 (fu_up (⟨by decide, by decide⟩ : R 1 1 (1 : Int32)) (by decide)) (r_w (⟨by decide, by decide⟩ : R 0 0 (0 : Int32)) (by decide)) (r_w (⟨by decide, by decide⟩ : R 0 0 (0 : Int32)) (by decide)) (r_w (⟨by decide, by decide⟩ : R 1 1 (1 : Int32)) (by decide))
theorem sl_A_take_L3 (p1 : Int32) (f_p1 : R (-2147483648) 2147483647 p1) : ∀ (n : Nat) (v2 : Int32) (hv : PH), v2.toInt - (-8) < (n : Int) → R (-8) 24 v2 → Inv hv → Sf (mA_take_L3 p1 n v2 hv) (fun h => Inv h) := by
  intro n
  induction n with
  | zero =>
    intro v2 hv hfu f_v2 i_hv
    have := f_v2.1
    omega
  | succ n ih =>
    intro v2 hv hfu f_v2 i_hv
    rw [mA_take_L3]
    refine s_if (fun c1 => ?_) (fun c1 => ?_)
    ·
      have f2 : R (-8) (-1) v2 := lt_hi f_v2 (⟨by decide, by decide⟩ : R 0 0 (0 : Int32)) c1 (by decide)
      exact s_some i_hv
    ·
      have f3 : R 0 24 v2 := le_lo (⟨by decide, by decide⟩ : R 0 0 (0 : Int32)) f_v2 (nlt_le c1)
      refine s_if (fun c4 => ?_) (fun c4 => ?_)
      ·
        have f5 : R 400 400 (hv 85 4) := le_lo (⟨by decide, by decide⟩ : R 400 400 (400 : Int32)) (inv_rng i_hv rfl : R 0 400 (hv 85 4)) c4
        exact ih (v2 + (-8)) hv (fu_sd hfu (i_inc f3 (k := (-8)) rfl (by decide)) (by decide)) (r_w (r_add f3 (⟨by decide, by decide⟩ : R (-8) (-8) (-8 : Int32)) (by decide) : R (-8) 16 (v2 + (-8))) (by decide)) i_hv
      ·
        have f6 : R 0 399 (hv 85 4) := lt_hi (inv_rng i_hv rfl : R 0 400 (hv 85 4)) (⟨by decide, by decide⟩ : R 400 400 (400 : Int32)) (nle_lt c4) (by decide)
        refine s_ck f6 (by decide) ?_
        refine s_lt (fun h1 e7 => ?_)
        have i8 : Inv h1 := by rw [e7]; exact inv_put i_hv rfl (r_w (r_full (i2b (i2b (ushr p1 v2)))) (by decide))
        have f9 : R 0 399 (h1 85 4) := by rw [e7, up_oc (by decide)]; exact f6
        refine s_lt (fun h2 e10 => ?_)
        have i11 : Inv h2 := by rw [e10]; exact inv_put i8 rfl (r_w (r_add f9 (⟨by decide, by decide⟩ : R 1 1 (1 : Int32)) (by decide) : R 1 400 ((h1 85 4) + 1)) (by decide))
        have f12 : R 1 400 (h2 85 4) := by rw [e10, up_same]; exact (r_add f9 (⟨by decide, by decide⟩ : R 1 1 (1 : Int32)) (by decide) : R 1 400 ((h1 85 4) + 1))
        exact ih (v2 + (-8)) h2 (fu_sd hfu (i_inc f3 (k := (-8)) rfl (by decide)) (by decide)) (r_w (r_add f3 (⟨by decide, by decide⟩ : R (-8) (-8) (-8 : Int32)) (by decide) : R (-8) 16 (v2 + (-8))) (by decide)) i11
theorem sf_A_take (p1 : Int32) {h0 : PH} (i_h0 : Inv h0) : Sf (mA_take p1 h0) (fun h => Inv h) := by
  unfold mA_take
  refine sl_A_take_L3 p1 (r_w (r_full p1) (by decide)) FU 24 h0 (fu_dn (⟨by decide, by decide⟩ : R 24 24 (24 : Int32)) (by decide)) (r_w (⟨by decide, by decide⟩ : R 24 24 (24 : Int32)) (by decide)) i_h0
theorem sf_A_byteAt (p1 : Int32) {h0 : PH} (i_h0 : Inv h0) : Sf (mA_byteAt p1 h0) (fun r => R 0 255 r) := by
  unfold mA_byteAt
  refine s_if (fun c1 => ?_) (fun c1 => ?_)
  ·
    have f2 : R (-2147483648) (-1) p1 := lt_hi (r_full p1) (⟨by decide, by decide⟩ : R 0 0 (0 : Int32)) c1 (by decide)
    exact s_some (r_w (⟨by decide, by decide⟩ : R 0 0 (0 : Int32)) (by decide))
  ·
    have f3 : R 0 2147483647 p1 := le_lo (⟨by decide, by decide⟩ : R 0 0 (0 : Int32)) (r_full p1) (nlt_le c1)
    refine s_if (fun c4 => ?_) (fun c4 => ?_)
    ·
      exact s_some (r_w (⟨by decide, by decide⟩ : R 0 0 (0 : Int32)) (by decide))
    ·
      have f5 : R 0 399 p1 := lt_hi f3 (inv_rng i_h0 rfl : R 0 400 (h0 85 4)) (nle_lt c4) (by decide)
      have f6 : R 1 400 (h0 85 4) := lt_lo f3 (inv_rng i_h0 rfl : R 0 400 (h0 85 4)) (nle_lt c4) (by decide)
      refine s_if (fun c7 => ?_) (fun c7 => ?_)
      ·
        have f8 : R 400 399 400 := le_hi (⟨by decide, by decide⟩ : R 400 400 (400 : Int32)) f5 c7
        exact r_no f8 (by decide)
      ·
        refine s_ck f5 (by decide) ?_
        exact s_some (r_w (r_and (⟨by decide, by decide⟩ : R 255 255 (255 : Int32)) (by decide) : R 0 255 ((h0 86 (ix p1)) &&& 255)) (by decide))
theorem sf_X_within (p0 : Int32) (p1 : Int32) (p2 : Int32) {h0 : PH} (i_h0 : Inv h0) : Sf (mX_within p0 p1 p2 h0) (fun r => R 0 1 r) := by
  unfold mX_within
  refine s_if (fun c1 => ?_) (fun c1 => ?_)
  ·
    have f2 : R (-2147483648) 2147483646 p0 := lt_hi (r_full p0) (r_full p1) c1 (by decide)
    have f3 : R (-2147483647) 2147483647 p1 := lt_lo (r_full p0) (r_full p1) c1 (by decide)
    exact s_some (r_w (⟨by decide, by decide⟩ : R 0 0 (0 : Int32)) (by decide))
  ·
    refine s_if (fun c4 => ?_) (fun c4 => ?_)
    ·
      have f5 : R (-2147483648) 2147483646 p2 := lt_hi (r_full p2) (r_full p0) c4 (by decide)
      have f6 : R (-2147483647) 2147483647 p0 := lt_lo (r_full p2) (r_full p0) c4 (by decide)
      exact s_some (r_w (⟨by decide, by decide⟩ : R 0 0 (0 : Int32)) (by decide))
    ·
      exact s_some (r_w (⟨by decide, by decide⟩ : R 1 1 (1 : Int32)) (by decide))
theorem sf_A_isLetter (p0 : Int32) {h0 : PH} (i_h0 : Inv h0) : Sf (mA_isLetter p0 h0) (fun r => R 0 1 r) := by
  unfold mA_isLetter
  refine s_win (fun r1 f2 c1 => ?_)
  refine s_if (fun c3 => ?_) (fun c3 => ?_)
  ·
    have f4 : R 0 0 r1 := r_eq (⟨by decide, by decide⟩ : R 0 0 (0 : Int32)) c3
    refine s_win (fun r2 f6 c5 => ?_)
    refine s_if (fun c7 => ?_) (fun c7 => ?_)
    ·
      have f8 : R 0 0 r2 := r_eq (⟨by decide, by decide⟩ : R 0 0 (0 : Int32)) c7
      exact s_some (r_w (⟨by decide, by decide⟩ : R 0 0 (0 : Int32)) (by decide))
    ·
      have f9 : R 1 1 r2 := r_ne_lo f6 (⟨by decide, by decide⟩ : R 0 0 (0 : Int32)) c7 (by decide)
      have q10 := c5 c7
      have f11 : R 65 2147483647 p0 := le_lo (⟨by decide, by decide⟩ : R 65 65 (65 : Int32)) (r_full p0) q10.1
      have f12 : R 65 90 p0 := le_hi f11 (⟨by decide, by decide⟩ : R 90 90 (90 : Int32)) q10.2
      exact s_some (r_w (⟨by decide, by decide⟩ : R 1 1 (1 : Int32)) (by decide))
  ·
    have f13 : R 1 1 r1 := r_ne_lo f2 (⟨by decide, by decide⟩ : R 0 0 (0 : Int32)) c3 (by decide)
    have q14 := c1 c3
    have f15 : R 97 2147483647 p0 := le_lo (⟨by decide, by decide⟩ : R 97 97 (97 : Int32)) (r_full p0) q14.1
    have f16 : R 97 122 p0 := le_hi f15 (⟨by decide, by decide⟩ : R 122 122 (122 : Int32)) q14.2
    exact s_some (r_w (⟨by decide, by decide⟩ : R 1 1 (1 : Int32)) (by decide))
theorem sf_A_isDigit (p0 : Int32) {h0 : PH} (i_h0 : Inv h0) : Sf (mA_isDigit p0 h0) (fun r => R 0 1 r) := by
  unfold mA_isDigit
  refine s_win (fun r1 f2 c1 => ?_)
  exact s_some (r_w (r_nb r1) (by decide))
theorem sl_A_behindToken_L49 (h0 : PH) (i_h0 : Inv h0) : ∀ (n : Nat) (v3 : Int32), 401 - v3.toInt < (n : Int) → R 1 401 v3 → Sf (mA_behindToken_L49 h0 n v3) (fun r => R 1 401 r) := by
  intro n
  induction n with
  | zero =>
    intro v3 hfu f_v3
    have := f_v3.2
    omega
  | succ n ih =>
    intro v3 hfu f_v3
    rw [mA_behindToken_L49]
    refine s_if (fun c1 => ?_) (fun c1 => ?_)
    ·
      exact s_some (r_w f_v3 (by decide))
    ·
      have f2 : R 1 399 v3 := lt_hi f_v3 (inv_rng i_h0 rfl : R 0 400 (h0 85 4)) (nle_lt c1) (by decide)
      have f3 : R 2 400 (h0 85 4) := lt_lo f_v3 (inv_rng i_h0 rfl : R 0 400 (h0 85 4)) (nle_lt c1) (by decide)
      refine s_bd (sf_A_byteAt v3 i_h0) (fun r5 f4 => ?_)
      refine s_bd (sf_A_isDigit r5 i_h0) (fun r6 f5 => ?_)
      refine s_if (fun c6 => ?_) (fun c6 => ?_)
      ·
        have f7 : R 0 0 r6 := r_eq (⟨by decide, by decide⟩ : R 0 0 (0 : Int32)) c6
        exact s_some (r_w f2 (by decide))
      ·
        have f8 : R 1 1 r6 := r_ne_lo f5 (⟨by decide, by decide⟩ : R 0 0 (0 : Int32)) c6 (by decide)
        exact ih (v3 + 1) (fu_su hfu (i_inc f2 (k := 1) rfl (by decide)) (by decide)) (r_w (r_add f2 (⟨by decide, by decide⟩ : R 1 1 (1 : Int32)) (by decide) : R 2 400 (v3 + 1)) (by decide))
theorem sl_A_behindToken_L17 (h0 : PH) (i_h0 : Inv h0) : ∀ (n : Nat) (v3 : Int32), 401 - v3.toInt < (n : Int) → R 1 401 v3 → Sf (mA_behindToken_L17 h0 n v3) (fun r => R 1 401 r) := by
  intro n
  induction n with
  | zero =>
    intro v3 hfu f_v3
    have := f_v3.2
    omega
  | succ n ih =>
    intro v3 hfu f_v3
    rw [mA_behindToken_L17]
    refine s_if (fun c1 => ?_) (fun c1 => ?_)
    ·
      exact s_some (r_w f_v3 (by decide))
    ·
      have f2 : R 1 399 v3 := lt_hi f_v3 (inv_rng i_h0 rfl : R 0 400 (h0 85 4)) (nle_lt c1) (by decide)
      have f3 : R 2 400 (h0 85 4) := lt_lo f_v3 (inv_rng i_h0 rfl : R 0 400 (h0 85 4)) (nle_lt c1) (by decide)
      refine s_bd (sf_A_byteAt v3 i_h0) (fun r7 f4 => ?_)
      refine s_bd (sf_A_isLetter r7 i_h0) (fun r8 f5 => ?_)
      refine s_if (fun c6 => ?_) (fun c6 => ?_)
      ·
        have f7 : R 0 0 r8 := r_eq (⟨by decide, by decide⟩ : R 0 0 (0 : Int32)) c6
        exact s_some (r_w f2 (by decide))
      ·
        have f8 : R 1 1 r8 := r_ne_lo f5 (⟨by decide, by decide⟩ : R 0 0 (0 : Int32)) c6 (by decide)
        exact ih (v3 + 1) (fu_su hfu (i_inc f2 (k := 1) rfl (by decide)) (by decide)) (r_w (r_add f2 (⟨by decide, by decide⟩ : R 1 1 (1 : Int32)) (by decide) : R 2 400 (v3 + 1)) (by decide))
theorem sf_A_behindToken (p1 : Int32) (f_p1 : R 0 400 p1) {h0 : PH} (i_h0 : Inv h0) : Sf (mA_behindToken p1 h0) (fun r => R 1 401 r) := by
  unfold mA_behindToken
  refine s_bd (sf_A_byteAt p1 i_h0) (fun r1 f1 => ?_)
  refine s_lt (fun x2 e2 => ?_)
  have f3 : R 1 401 x2 := by rw [e2]; exact (r_add f_p1 (⟨by decide, by decide⟩ : R 1 1 (1 : Int32)) (by decide) : R 1 401 (p1 + 1))
  refine s_bd (sf_A_isLetter r1 i_h0) (fun r3 f4 => ?_)
  refine s_if (fun c5 => ?_) (fun c5 => ?_)
  ·
    have f6 : R 0 0 r3 := r_eq (⟨by decide, by decide⟩ : R 0 0 (0 : Int32)) c5
    refine s_bd (sf_A_isDigit r1 i_h0) (fun r4 f7 => ?_)
    refine s_if (fun c8 => ?_) (fun c8 => ?_)
    ·
      have f9 : R 0 0 r4 := r_eq (⟨by decide, by decide⟩ : R 0 0 (0 : Int32)) c8
      exact s_some (r_w f3 (by decide))
    ·
      have f10 : R 1 1 r4 := r_ne_lo f7 (⟨by decide, by decide⟩ : R 0 0 (0 : Int32)) c8 (by decide)
      refine sl_A_behindToken_L49 h0 i_h0 FU x2 (fu_up f3 (by decide)) (r_w f3 (by decide))
  ·
    have f11 : R 1 1 r3 := r_ne_lo f4 (⟨by decide, by decide⟩ : R 0 0 (0 : Int32)) c5 (by decide)
    refine sl_A_behindToken_L17 h0 i_h0 FU x2 (fu_up f3 (by decide)) (r_w f3 (by decide))
theorem sf_A_isBlank (p0 : Int32) {h0 : PH} (i_h0 : Inv h0) : Sf (mA_isBlank p0 h0) (fun r => R 0 1 r) := by
  unfold mA_isBlank
  refine s_if (fun c1 => ?_) (fun c1 => ?_)
  ·
    have f2 : R 32 32 p0 := r_eq (⟨by decide, by decide⟩ : R 32 32 (32 : Int32)) c1
    exact s_some (r_w (⟨by decide, by decide⟩ : R 1 1 (1 : Int32)) (by decide))
  ·
    refine s_if (fun c3 => ?_) (fun c3 => ?_)
    ·
      have f4 : R 10 10 p0 := r_eq (⟨by decide, by decide⟩ : R 10 10 (10 : Int32)) c3
      exact s_some (r_w (⟨by decide, by decide⟩ : R 1 1 (1 : Int32)) (by decide))
    ·
      exact s_some (r_w (⟨by decide, by decide⟩ : R 0 0 (0 : Int32)) (by decide))
theorem sl_A_numberAt_L5 (p2 : Int32) (h0 : PH) (f_p2 : R 0 401 p2) (i_h0 : Inv h0) : ∀ (n : Nat) (v3 : Int32) (v4 : Int32), 401 - v4.toInt < (n : Int) → R (-2147483648) 2147483647 v3 → R 0 401 v4 → Sf (mA_numberAt_L5 p2 h0 n v3 v4) (fun r => R (-2147483648) 2147483647 r) := by
  intro n
  induction n with
  | zero =>
    intro v3 v4 hfu f_v3 f_v4
    have := f_v4.2
    omega
  | succ n ih =>
    intro v3 v4 hfu f_v3 f_v4
    rw [mA_numberAt_L5]
    refine s_if (fun c1 => ?_) (fun c1 => ?_)
    ·
      exact s_some (r_w f_v3 (by decide))
    ·
      have f2 : R 0 400 v4 := lt_hi f_v4 f_p2 (nle_lt c1) (by decide)
      have f3 : R 1 401 p2 := lt_lo f_v4 f_p2 (nle_lt c1) (by decide)
      refine s_bd (sf_A_byteAt v4 i_h0) (fun r1 f4 => ?_)
      refine s_lt (fun x2 e5 => ?_)
      exact ih x2 (v4 + 1) (fu_su hfu (i_inc f2 (k := 1) rfl (by decide)) (by decide)) (r_w (r_full x2) (by decide)) (r_w (r_add f2 (⟨by decide, by decide⟩ : R 1 1 (1 : Int32)) (by decide) : R 1 401 (v4 + 1)) (by decide))
theorem sf_A_numberAt (p1 : Int32) (p2 : Int32) (f_p1 : R 0 400 p1) (f_p2 : R 0 401 p2) {h0 : PH} (i_h0 : Inv h0) : Sf (mA_numberAt p1 p2 h0) (fun r => R (-2147483648) 2147483647 r) := by
  unfold mA_numberAt
  refine sl_A_numberAt_L5 p2 h0 (r_w f_p2 (by decide)) i_h0 FU 0 p1 (fu_up f_p1 (by decide)) (r_w (⟨by decide, by decide⟩ : R 0 0 (0 : Int32)) (by decide)) (r_w f_p1 (by decide))
theorem sf_A_keepToken (p1 : Int32) (p2 : Int32) (p3 : Int32) {h0 : PH} (i_h0 : Inv h0) : Sf (mA_keepToken p1 p2 p3 h0) (fun h => Inv h) := by
  unfold mA_keepToken
  refine s_if (fun c1 => ?_) (fun c1 => ?_)
  ·
    have f2 : R 401 401 (h0 85 5) := lt_lo (⟨by decide, by decide⟩ : R 400 400 (400 : Int32)) (inv_rng i_h0 rfl : R 0 401 (h0 85 5)) c1 (by decide)
    exact s_some i_h0
  ·
    have f3 : R 0 400 (h0 85 5) := le_hi (inv_rng i_h0 rfl : R 0 401 (h0 85 5)) (⟨by decide, by decide⟩ : R 400 400 (400 : Int32)) (nlt_le c1)
    refine s_ck f3 (by decide) ?_
    refine s_lt (fun h1 e4 => ?_)
    have i5 : Inv h1 := by rw [e4]; exact inv_put i_h0 rfl (r_w (r_full p1) (by decide))
    have f6 : R 0 400 (h1 85 5) := by rw [e4, up_oc (by decide)]; exact f3
    refine s_ck f6 (by decide) ?_
    refine s_lt (fun h2 e7 => ?_)
    have i8 : Inv h2 := by rw [e7]; exact inv_put i5 rfl (r_w (r_full p2) (by decide))
    have f9 : R 0 400 (h2 85 5) := by rw [e7, up_oc (by decide)]; exact f6
    refine s_ck f9 (by decide) ?_
    refine s_lt (fun h3 e10 => ?_)
    have i11 : Inv h3 := by rw [e10]; exact inv_put i8 rfl (r_w (r_full p3) (by decide))
    have f12 : R 0 400 (h3 85 5) := by rw [e10, up_oc (by decide)]; exact f9
    refine s_lt (fun h4 e13 => ?_)
    have i14 : Inv h4 := by rw [e13]; exact inv_put i11 rfl (r_w (r_add f12 (⟨by decide, by decide⟩ : R 1 1 (1 : Int32)) (by decide) : R 1 401 ((h3 85 5) + 1)) (by decide))
    have f15 : R 1 401 (h4 85 5) := by rw [e13, up_same]; exact (r_add f12 (⟨by decide, by decide⟩ : R 1 1 (1 : Int32)) (by decide) : R 1 401 ((h3 85 5) + 1))
    exact s_some i14
theorem sl_S_weather_L10 (a0 : Nat) (hb_a0 : isB (sT a0)) : ∀ (n : Nat) (v2 : Int32) (hv : PH), 16 - v2.toInt < (n : Int) → R 0 16 v2 → Inv hv → Sf (mS_weather_L10 a0 n v2 hv) (fun h => Inv h) := by
  intro n
  induction n with
  | zero =>
    intro v2 hv hfu f_v2 i_hv
    have := f_v2.2
    omega
  | succ n ih =>
    intro v2 hv hfu f_v2 i_hv
    rw [mS_weather_L10]
    refine s_if (fun c1 => ?_) (fun c1 => ?_)
    ·
      exact s_some i_hv
    ·
      have f2 : R 0 15 v2 := lt_hi f_v2 (inv_rng i_hv rfl : R 0 16 (hv 10 3)) (nle_lt c1) (by decide)
      have f3 : R 1 16 (hv 10 3) := lt_lo f_v2 (inv_rng i_hv rfl : R 0 16 (hv 10 3)) (nle_lt c1) (by decide)
      refine s_bd (sf_R_at (10) v2 0 isR_10 i_hv) (fun r1 f4 => ?_)
      refine s_if (fun c5 => ?_) (fun c5 => ?_)
      ·
        refine s_bd (sf_R_at (10) v2 1 isR_10 i_hv) (fun r2 f6 => ?_)
        refine s_if (fun c7 => ?_) (fun c7 => ?_)
        ·
          have f8 : R 1 1 r2 := r_eq (⟨by decide, by decide⟩ : R 1 1 (1 : Int32)) c7
          refine s_bd (sf_R_at (10) v2 2 isR_10 i_hv) (fun r3 f9 => ?_)
          refine s_lt (fun h4 e10 => ?_)
          have i11 : Inv h4 := by rw [e10]; exact inv_put i_hv (congrFun hb_a0.1 2) (r_w (r_full r3) (by decide))
          exact ih (v2 + 1) h4 (fu_su hfu (i_inc f2 (k := 1) rfl (by decide)) (by decide)) (r_w (r_add f2 (⟨by decide, by decide⟩ : R 1 1 (1 : Int32)) (by decide) : R 1 16 (v2 + 1)) (by decide)) i11
        ·
          refine s_if (fun c12 => ?_) (fun c12 => ?_)
          ·
            have f13 : R 2 2 r2 := r_eq (⟨by decide, by decide⟩ : R 2 2 (2 : Int32)) c12
            refine s_lt (fun h5 e14 => ?_)
            have i15 : Inv h5 := by rw [e14]; exact inv_put i_hv (congrFun hb_a0.1 3) (r_w (⟨by decide, by decide⟩ : R 1 1 (1 : Int32)) (by decide))
            exact ih (v2 + 1) h5 (fu_su hfu (i_inc f2 (k := 1) rfl (by decide)) (by decide)) (r_w (r_add f2 (⟨by decide, by decide⟩ : R 1 1 (1 : Int32)) (by decide) : R 1 16 (v2 + 1)) (by decide)) i15
          ·
            refine s_lt (fun h6 e16 => ?_)
            have i17 : Inv h6 := by rw [e16]; exact inv_put i_hv (congrFun hb_a0.1 3) (r_w (⟨by decide, by decide⟩ : R 0 0 (0 : Int32)) (by decide))
            exact ih (v2 + 1) h6 (fu_su hfu (i_inc f2 (k := 1) rfl (by decide)) (by decide)) (r_w (r_add f2 (⟨by decide, by decide⟩ : R 1 1 (1 : Int32)) (by decide) : R 1 16 (v2 + 1)) (by decide)) i17
      ·
        exact ih (v2 + 1) hv (fu_su hfu (i_inc f2 (k := 1) rfl (by decide)) (by decide)) (r_w (r_add f2 (⟨by decide, by decide⟩ : R 1 1 (1 : Int32)) (by decide) : R 1 16 (v2 + 1)) (by decide)) i_hv
theorem sf_S_weather (a0 : Nat) (hb_a0 : isB (sT a0)) {h0 : PH} (i_h0 : Inv h0) : Sf (mS_weather a0 h0) (fun h => Inv h) := by
  unfold mS_weather
  refine sl_S_weather_L10 (a0) isB_sT FU 0 h0 (fu_up (⟨by decide, by decide⟩ : R 0 0 (0 : Int32)) (by decide)) (r_w (⟨by decide, by decide⟩ : R 0 0 (0 : Int32)) (by decide)) i_h0
theorem sf_S_mayWed (a0 : Nat) (p1 : Int32) (hb_a0 : isB (sT a0)) {h0 : PH} (i_h0 : Inv h0) : Sf (mS_mayWed a0 p1 h0) (fun r => R 0 1 r) := by
  unfold mS_mayWed
  refine s_bd (sf_B_isUp ((sT a0)) p1 isB_sT i_h0) (fun r1 f1 => ?_)
  refine s_if (fun c2 => ?_) (fun c2 => ?_)
  ·
    have f3 : R 0 0 r1 := r_eq (⟨by decide, by decide⟩ : R 0 0 (0 : Int32)) c2
    exact s_some (r_w (⟨by decide, by decide⟩ : R 0 0 (0 : Int32)) (by decide))
  ·
    have f4 : R 1 1 r1 := r_ne_lo f1 (⟨by decide, by decide⟩ : R 0 0 (0 : Int32)) c2 (by decide)
    refine s_bd (sf_B_read ((sT a0)) p1 9 isB_sT i_h0) (fun r2 f5 => ?_)
    refine s_if (fun c6 => ?_) (fun c6 => ?_)
    ·
      have f7 : R 0 0 r2 := r_eq (⟨by decide, by decide⟩ : R 0 0 (0 : Int32)) c6
      refine s_bd (sf_B_read ((sT a0)) p1 7 isB_sT i_h0) (fun r3 f8 => ?_)
      refine s_if (fun c9 => ?_) (fun c9 => ?_)
      ·
        have f10 : R (-2147483648) 0 r3 := le_hi (r_full r3) (⟨by decide, by decide⟩ : R 0 0 (0 : Int32)) c9
        exact s_some (r_w (⟨by decide, by decide⟩ : R 0 0 (0 : Int32)) (by decide))
      ·
        have f11 : R 1 2147483647 r3 := lt_lo (⟨by decide, by decide⟩ : R 0 0 (0 : Int32)) (r_full r3) (nle_lt c9) (by decide)
        exact s_some (r_w (⟨by decide, by decide⟩ : R 1 1 (1 : Int32)) (by decide))
    ·
      exact s_some (r_w (⟨by decide, by decide⟩ : R 0 0 (0 : Int32)) (by decide))
theorem sf_S_note (a0 : Nat) (p1 : Int32) (p2 : Int32) (p3 : Int32) (hb_a0 : isB (sT a0)) {h0 : PH} (i_h0 : Inv h0) : Sf (mS_note a0 p1 p2 p3 h0) (fun h => Inv h) := by
  unfold mS_note
  refine s_if (fun c1 => ?_) (fun c1 => ?_)
  ·
    have f2 : R 0 0 (h0 a0 3) := r_eq (⟨by decide, by decide⟩ : R 0 0 (0 : Int32)) c1
    exact s_some i_h0
  ·
    refine s_bd2 (sf_R_add (16) (h0 (sT a0) 6) p1 p2 p3 0 isRF_16 i_h0) (fun r1 h2 f3 => ?_)
    exact s_some f3.2
theorem sl_S_refuge_L11 (a0 : Nat) (p2 : Int32) (h0 : PH) (hb_a0 : isB (sT a0)) (f_p2 : R (-2147483648) 2147483647 p2) (i_h0 : Inv h0) : ∀ (n : Nat) (v3 : Int32), 12 - v3.toInt < (n : Int) → R 0 12 v3 → Sf (mS_refuge_L11 a0 p2 h0 n v3) (fun r => R (-1) 11 r) := by
  intro n
  induction n with
  | zero =>
    intro v3 hfu f_v3
    have := f_v3.2
    omega
  | succ n ih =>
    intro v3 hfu f_v3
    rw [mS_refuge_L11]
    refine s_if (fun c1 => ?_) (fun c1 => ?_)
    ·
      exact s_some (r_w (⟨by decide, by decide⟩ : R (-1) (-1) (-1 : Int32)) (by decide))
    ·
      have f2 : R 0 11 v3 := lt_hi f_v3 (inv_rng i_h0 (congrFun hb_a0.1 1) : R 0 12 (h0 (sT a0) 1)) (nle_lt c1) (by decide)
      have f3 : R 1 12 (h0 (sT a0) 1) := lt_lo f_v3 (inv_rng i_h0 (congrFun hb_a0.1 1) : R 0 12 (h0 (sT a0) 1)) (nle_lt c1) (by decide)
      refine s_if (fun c4 => ?_) (fun c4 => ?_)
      ·
        have f5 : R 1 1 ((p2 >>> (v3 &&& 31)) &&& 1) := r_eq (⟨by decide, by decide⟩ : R 1 1 (1 : Int32)) c4
        refine s_bd (sf_B_isUp ((sT a0)) v3 isB_sT i_h0) (fun r2 f6 => ?_)
        refine s_if (fun c7 => ?_) (fun c7 => ?_)
        ·
          have f8 : R 0 0 r2 := r_eq (⟨by decide, by decide⟩ : R 0 0 (0 : Int32)) c7
          exact ih (v3 + 1) (fu_su hfu (i_inc f2 (k := 1) rfl (by decide)) (by decide)) (r_w (r_add f2 (⟨by decide, by decide⟩ : R 1 1 (1 : Int32)) (by decide) : R 1 12 (v3 + 1)) (by decide))
        ·
          have f9 : R 1 1 r2 := r_ne_lo f6 (⟨by decide, by decide⟩ : R 0 0 (0 : Int32)) c7 (by decide)
          exact s_some (r_w f2 (by decide))
      ·
        have f10 : R 0 0 ((p2 >>> (v3 &&& 31)) &&& 1) := r_ne_hi (r_and (⟨by decide, by decide⟩ : R 1 1 (1 : Int32)) (by decide) : R 0 1 ((p2 >>> (v3 &&& 31)) &&& 1)) (⟨by decide, by decide⟩ : R 1 1 (1 : Int32)) c4 (by decide)
        exact ih (v3 + 1) (fu_su hfu (i_inc f2 (k := 1) rfl (by decide)) (by decide)) (r_w (r_add f2 (⟨by decide, by decide⟩ : R 1 1 (1 : Int32)) (by decide) : R 1 12 (v3 + 1)) (by decide))
theorem sf_S_refuge (a0 : Nat) (p1 : Int32) (hb_a0 : isB (sT a0)) {h0 : PH} (i_h0 : Inv h0) : Sf (mS_refuge a0 p1 h0) (fun r => R (-1) 11 r) := by
  unfold mS_refuge
  refine s_bd (sf_O_nextTo_5 p1 i_h0) (fun r1 f1 => ?_)
  refine sl_S_refuge_L11 (a0) r1 h0 isB_sT (r_w (r_full r1) (by decide)) i_h0 FU 0 (fu_up (⟨by decide, by decide⟩ : R 0 0 (0 : Int32)) (by decide)) (r_w (⟨by decide, by decide⟩ : R 0 0 (0 : Int32)) (by decide))
theorem sf_S_moveLodgers (a0 : Nat) (p1 : Int32) (p2 : Int32) (hb_a0 : isB (sT a0)) {h0 : PH} (i_h0 : Inv h0) : Sf (mS_moveLodgers a0 p1 p2 h0) (fun h => Inv h) := by
  unfold mS_moveLodgers
  refine s_bd (sf_B_read ((sT a0)) p1 7 isB_sT i_h0) (fun r1 f1 => ?_)
  refine s_bd (sf_B_write ((sT a0)) p1 7 0 isB_sT i_h0) (fun h2 f2 => ?_)
  refine s_jn1 (P := fun (h4 : PH) => Inv h4) (fun h4 f7 => ?_) (fun j3 kj3 => ?_)
  ·
    refine s_bd (sf_S_note (a0) 4 p1 p2 isB_sT f7) (fun h5 f8 => ?_)
    exact s_some f8
  ·
    refine s_if (fun c9 => ?_) (fun c9 => ?_)
    ·
      have f10 : R (-1) (-1) p2 := r_eq (⟨by decide, by decide⟩ : R (-1) (-1) (-1 : Int32)) c9
      exact kj3 _ (f2)
    ·
      refine s_bd (sf_B_read ((sT a0)) p2 7 isB_sT f2) (fun r6 f11 => ?_)
      refine s_bd (sf_B_write ((sT a0)) p2 7 (r6 + r1) isB_sT f2) (fun h7 f12 => ?_)
      exact kj3 _ (f12)
theorem sf_S_leaveIfFallen (a0 : Nat) (p1 : Int32) (hb_a0 : isB (sT a0)) {h0 : PH} (i_h0 : Inv h0) : Sf (mS_leaveIfFallen a0 p1 h0) (fun h => Inv h) := by
  unfold mS_leaveIfFallen
  refine s_bd (sf_B_isUp ((sT a0)) p1 isB_sT i_h0) (fun r1 f1 => ?_)
  refine s_if (fun c2 => ?_) (fun c2 => ?_)
  ·
    have f3 : R 0 0 r1 := r_eq (⟨by decide, by decide⟩ : R 0 0 (0 : Int32)) c2
    refine s_bd (sf_B_read ((sT a0)) p1 7 isB_sT i_h0) (fun r2 f4 => ?_)
    refine s_if (fun c5 => ?_) (fun c5 => ?_)
    ·
      have f6 : R 1 2147483647 r2 := lt_lo (⟨by decide, by decide⟩ : R 0 0 (0 : Int32)) (r_full r2) c5 (by decide)
      refine s_bd (sf_S_refuge (a0) p1 isB_sT i_h0) (fun r3 f7 => ?_)
      refine s_bd (sf_S_moveLodgers (a0) p1 r3 isB_sT i_h0) (fun h4 f8 => ?_)
      exact s_some f8
    ·
      have f9 : R (-2147483648) 0 r2 := le_hi (r_full r2) (⟨by decide, by decide⟩ : R 0 0 (0 : Int32)) (nlt_le c5)
      exact s_some i_h0
  ·
    have f10 : R 1 1 r1 := r_ne_lo f1 (⟨by decide, by decide⟩ : R 0 0 (0 : Int32)) c2 (by decide)
    exact s_some i_h0
theorem sf_S_wed (a0 : Nat) (p1 : Int32) (hb_a0 : isB (sT a0)) {h0 : PH} (i_h0 : Inv h0) : Sf (mS_wed a0 p1 h0) (fun h => Inv h) := by
  unfold mS_wed
  refine s_bd (sf_B_write ((sT a0)) p1 9 1 isB_sT i_h0) (fun h1 f1 => ?_)
  refine s_bd (sf_B_thickest ((sT a0)) p1 isB_sT f1) (fun r2 f2 => ?_)
  refine s_bd2 (sf_B_thin ((sT a0)) p1 r2 10 isB_sT f1) (fun r3 h4 f3 => ?_)
  refine s_bd (sf_B_read ((sT a0)) p1 7 isB_sT f3.2) (fun r5 f4 => ?_)
  refine s_lt (fun x6 e5 => ?_)
  refine s_bd (sf_B_write ((sT a0)) p1 7 x6 isB_sT f3.2) (fun h7 f6 => ?_)
  refine s_bd (sf_S_note (a0) 5 p1 x6 isB_sT f6) (fun h8 f7 => ?_)
  refine s_bd (sf_S_leaveIfFallen (a0) p1 isB_sT f7) (fun h9 f8 => ?_)
  exact s_some f8
theorem sl_S_raze_L2 (a0 : Nat) (p1 : Int32) (k0 : PH → Option (PH)) (hb_a0 : isB (sT a0)) (f_p1 : R (-2147483648) 2147483647 p1) (hk_k0 : ∀ (y0 : PH), Inv y0 → Sf (k0 y0) (fun h => Inv h)) : ∀ (n : Nat) (v2 : Int32) (hv : PH), 4 - v2.toInt < (n : Int) → R 0 4 v2 → Inv hv → Sf (mS_raze_L2 a0 p1 k0 n v2 hv) (fun h => Inv h) := by
  intro n
  induction n with
  | zero =>
    intro v2 hv hfu f_v2 i_hv
    have := f_v2.2
    omega
  | succ n ih =>
    intro v2 hv hfu f_v2 i_hv
    rw [mS_raze_L2]
    refine s_if (fun c1 => ?_) (fun c1 => ?_)
    ·
      have f2 : R 4 4 v2 := le_lo (⟨by decide, by decide⟩ : R 4 4 (4 : Int32)) f_v2 c1
      exact hk_k0 _ (i_hv)
    ·
      have f3 : R 0 3 v2 := lt_hi f_v2 (⟨by decide, by decide⟩ : R 4 4 (4 : Int32)) (nle_lt c1) (by decide)
      refine s_bd (sf_B_write ((sT a0)) p1 v2 0 isB_sT i_hv) (fun h1 f4 => ?_)
      exact ih (v2 + 1) h1 (fu_su hfu (i_inc f3 (k := 1) rfl (by decide)) (by decide)) (r_w (r_add f3 (⟨by decide, by decide⟩ : R 1 1 (1 : Int32)) (by decide) : R 1 4 (v2 + 1)) (by decide)) f4
theorem sf_S_raze (a0 : Nat) (p1 : Int32) (hb_a0 : isB (sT a0)) {h0 : PH} (i_h0 : Inv h0) : Sf (mS_raze a0 p1 h0) (fun h => Inv h) := by
  unfold mS_raze
  refine sl_S_raze_L2 (a0) p1 _ isB_sT (r_w (r_full p1) (by decide)) ?_ FU 0 h0 (fu_up (⟨by decide, by decide⟩ : R 0 0 (0 : Int32)) (by decide)) (r_w (⟨by decide, by decide⟩ : R 0 0 (0 : Int32)) (by decide)) i_h0
  ·
    intro h2 f1
    refine s_bd (sf_S_leaveIfFallen (a0) p1 isB_sT f1) (fun h3 f2 => ?_)
    exact s_some f2
theorem sf_S_officeLine (a0 : Nat) (a1 : Nat) (p2 : Int32) (hb_a0 : isB (sT a0)) (hb_a1 : isR a1) {h0 : PH} (i_h0 : Inv h0) : Sf (mS_officeLine a0 a1 p2 h0) (fun h => Inv h) := by
  unfold mS_officeLine
  refine s_bd (sf_R_at (a1) p2 2 hb_a1 i_h0) (fun r1 f1 => ?_)
  refine s_bd (sf_R_at (a1) p2 4 hb_a1 i_h0) (fun r2 f2 => ?_)
  refine s_bd (sf_R_at (a1) p2 1 hb_a1 i_h0) (fun r3 f3 => ?_)
  refine s_if (fun c4 => ?_) (fun c4 => ?_)
  ·
    have f5 : R 1 1 r3 := r_eq (⟨by decide, by decide⟩ : R 1 1 (1 : Int32)) c4
    refine s_bd (sf_B_read ((sT a0)) r1 8 isB_sT i_h0) (fun r4 f6 => ?_)
    refine s_bd (sf_B_write ((sT a0)) r1 8 (imax 0 (r4 - r2)) isB_sT i_h0) (fun h5 f7 => ?_)
    exact s_some f7
  ·
    refine s_if (fun c8 => ?_) (fun c8 => ?_)
    ·
      have f9 : R 2 2 r3 := r_eq (⟨by decide, by decide⟩ : R 2 2 (2 : Int32)) c8
      refine s_bd (sf_R_at (a1) p2 3 hb_a1 i_h0) (fun r6 f10 => ?_)
      refine s_bd (sf_B_thicken ((sT a0)) r1 r6 r2 isB_sT i_h0) (fun h7 f11 => ?_)
      exact s_some f11
    ·
      refine s_if (fun c12 => ?_) (fun c12 => ?_)
      ·
        have f13 : R 3 3 r3 := r_eq (⟨by decide, by decide⟩ : R 3 3 (3 : Int32)) c12
        refine s_bd (sf_S_mayWed (a0) r1 isB_sT i_h0) (fun r8 f14 => ?_)
        refine s_if (fun c15 => ?_) (fun c15 => ?_)
        ·
          have f16 : R 0 0 r8 := r_eq (⟨by decide, by decide⟩ : R 0 0 (0 : Int32)) c15
          exact s_some i_h0
        ·
          have f17 : R 1 1 r8 := r_ne_lo f14 (⟨by decide, by decide⟩ : R 0 0 (0 : Int32)) c15 (by decide)
          refine s_bd (sf_S_wed (a0) r1 isB_sT i_h0) (fun h9 f18 => ?_)
          exact s_some f18
      ·
        refine s_bd (sf_B_isUp ((sT a0)) r1 isB_sT i_h0) (fun r10 f19 => ?_)
        refine s_if (fun c20 => ?_) (fun c20 => ?_)
        ·
          have f21 : R 0 0 r10 := r_eq (⟨by decide, by decide⟩ : R 0 0 (0 : Int32)) c20
          exact s_some i_h0
        ·
          have f22 : R 1 1 r10 := r_ne_lo f19 (⟨by decide, by decide⟩ : R 0 0 (0 : Int32)) c20 (by decide)
          refine s_bd (sf_S_raze (a0) r1 isB_sT i_h0) (fun h11 f23 => ?_)
          exact s_some f23
theorem sf_S_noteIfAny (a0 : Nat) (p1 : Int32) (p2 : Int32) (p3 : Int32) (hb_a0 : isB (sT a0)) {h0 : PH} (i_h0 : Inv h0) : Sf (mS_noteIfAny a0 p1 p2 p3 h0) (fun h => Inv h) := by
  unfold mS_noteIfAny
  refine s_if (fun c1 => ?_) (fun c1 => ?_)
  ·
    have f2 : R (-2147483648) 0 p3 := le_hi (r_full p3) (⟨by decide, by decide⟩ : R 0 0 (0 : Int32)) c1
    exact s_some i_h0
  ·
    have f3 : R 1 2147483647 p3 := lt_lo (⟨by decide, by decide⟩ : R 0 0 (0 : Int32)) (r_full p3) (nle_lt c1) (by decide)
    refine s_bd (sf_S_note (a0) p1 p2 p3 isB_sT i_h0) (fun h1 f4 => ?_)
    exact s_some f4
theorem sl_S_payRent_L27 (a0 : Nat) (p1 : Int32) (p2 : Int32) (k0 : Int32 → PH → Option (PH)) (hb_a0 : isB (sT a0)) (f_p1 : R (-2147483648) 2147483647 p1) (f_p2 : R 0 1000 p2) (hk_k0 : ∀ (y0 : Int32) (y1 : PH), R (-2147483648) 2147483647 y0 → Inv y1 → Sf (k0 y0 y1) (fun h => Inv h)) : ∀ (n : Nat) (v3 : Int32) (v4 : Int32) (hv : PH), 1000 - v4.toInt < (n : Int) → R (-2147483648) 2147483647 v3 → R 0 1000 v4 → Inv hv → Sf (mS_payRent_L27 a0 p1 p2 k0 n v3 v4 hv) (fun h => Inv h) := by
  intro n
  induction n with
  | zero =>
    intro v3 v4 hv hfu f_v3 f_v4 i_hv
    have := f_v4.2
    omega
  | succ n ih =>
    intro v3 v4 hv hfu f_v3 f_v4 i_hv
    rw [mS_payRent_L27]
    refine s_if (fun c1 => ?_) (fun c1 => ?_)
    ·
      exact hk_k0 _ _ (r_w f_v3 (by decide)) (i_hv)
    ·
      have f2 : R 0 999 v4 := lt_hi f_v4 f_p2 (nle_lt c1) (by decide)
      have f3 : R 1 1000 p2 := lt_lo f_v4 f_p2 (nle_lt c1) (by decide)
      refine s_bd (sf_B_isUp ((sT a0)) p1 isB_sT i_hv) (fun r4 f4 => ?_)
      refine s_if (fun c5 => ?_) (fun c5 => ?_)
      ·
        have f6 : R 0 0 r4 := r_eq (⟨by decide, by decide⟩ : R 0 0 (0 : Int32)) c5
        exact hk_k0 _ _ (r_w f_v3 (by decide)) (i_hv)
      ·
        have f7 : R 1 1 r4 := r_ne_lo f4 (⟨by decide, by decide⟩ : R 0 0 (0 : Int32)) c5 (by decide)
        refine s_bd (sf_B_thickest ((sT a0)) p1 isB_sT i_hv) (fun r5 f8 => ?_)
        refine s_bd2 (sf_B_thin ((sT a0)) p1 r5 1 isB_sT i_hv) (fun r6 h7 f9 => ?_)
        refine s_lt (fun x8 e10 => ?_)
        exact ih x8 (v4 + 1) h7 (fu_su hfu (i_inc f2 (k := 1) rfl (by decide)) (by decide)) (r_w (r_full x8) (by decide)) (r_w (r_add f2 (⟨by decide, by decide⟩ : R 1 1 (1 : Int32)) (by decide) : R 1 1000 (v4 + 1)) (by decide)) f9.2
theorem sf_S_payRent (a0 : Nat) (p1 : Int32) (hb_a0 : isB (sT a0)) {h0 : PH} (i_h0 : Inv h0) : Sf (mS_payRent a0 p1 h0) (fun h => Inv h) := by
  unfold mS_payRent
  refine s_bd (sf_B_thickest ((sT a0)) p1 isB_sT i_h0) (fun r1 f1 => ?_)
  refine s_bd2 (sf_W_tells ((sT a0)) p1 r1 0 isB_sT i_h0) (fun r2 h3 f2 => ?_)
  refine sl_S_payRent_L27 (a0) p1 r2 _ isB_sT (r_w (r_full p1) (by decide)) (r_w f2.1 (by decide)) ?_ FU 0 0 h3 (fu_up (⟨by decide, by decide⟩ : R 0 0 (0 : Int32)) (by decide)) (r_w (⟨by decide, by decide⟩ : R 0 0 (0 : Int32)) (by decide)) (r_w (⟨by decide, by decide⟩ : R 0 0 (0 : Int32)) (by decide)) f2.2
  ·
    intro x9 h10 f3 f4
    refine s_lt (fun h11 e5 => ?_)
    have i6 : Inv h11 := by rw [e5]; exact inv_put f4 (congrFun hb_a0.1 4) (r_w (r_full ((h10 (sT a0) 4) + x9)) (by decide))
    refine s_bd (sf_S_noteIfAny (a0) 0 p1 x9 isB_sT i6) (fun h12 f7 => ?_)
    refine s_lt (fun x13 e8 => ?_)
    refine s_bd (sf_B_read ((sT a0)) p1 8 isB_sT f7) (fun r14 f9 => ?_)
    refine s_bd (sf_B_write ((sT a0)) p1 8 (r14 + x13) isB_sT f7) (fun h15 f10 => ?_)
    refine s_bd (sf_S_noteIfAny (a0) 1 p1 x13 isB_sT f10) (fun h16 f11 => ?_)
    refine s_bd (sf_S_leaveIfFallen (a0) p1 isB_sT f11) (fun h17 f12 => ?_)
    exact s_some f12
theorem sf_S_ratsGnaw (a0 : Nat) (p1 : Int32) (hb_a0 : isB (sT a0)) {h0 : PH} (i_h0 : Inv h0) : Sf (mS_ratsGnaw a0 p1 h0) (fun r => R 0 1 r.1 ∧ Inv r.2) := by
  unfold mS_ratsGnaw
  refine s_if (fun c1 => ?_) (fun c1 => ?_)
  ·
    have f2 : R 0 0 (h0 a0 3) := r_eq (⟨by decide, by decide⟩ : R 0 0 (0 : Int32)) c1
    refine s_if (fun c3 => ?_) (fun c3 => ?_)
    ·
      have f4 : R (-2147483648) 499 p1 := lt_hi (r_full p1) (⟨by decide, by decide⟩ : R 500 500 (500 : Int32)) c3 (by decide)
      exact s_some ⟨r_w (⟨by decide, by decide⟩ : R 0 0 (0 : Int32)) (by decide), i_h0⟩
    ·
      have f5 : R 500 2147483647 p1 := le_lo (⟨by decide, by decide⟩ : R 500 500 (500 : Int32)) (r_full p1) (nlt_le c3)
      exact s_some ⟨r_w (⟨by decide, by decide⟩ : R 1 1 (1 : Int32)) (by decide), i_h0⟩
  ·
    refine s_if (fun c6 => ?_) (fun c6 => ?_)
    ·
      have f7 : R (-2147483648) 0 p1 := le_hi (r_full p1) (⟨by decide, by decide⟩ : R 0 0 (0 : Int32)) c6
      exact s_some ⟨r_w (⟨by decide, by decide⟩ : R 0 0 (0 : Int32)) (by decide), i_h0⟩
    ·
      have f8 : R 1 2147483647 p1 := lt_lo (⟨by decide, by decide⟩ : R 0 0 (0 : Int32)) (r_full p1) (nle_lt c6) (by decide)
      refine s_bd2 (sf_B_draw ((sT a0)) 1000 isB_sT i_h0) (fun r1 h2 f9 => ?_)
      refine s_if (fun c10 => ?_) (fun c10 => ?_)
      ·
        have f11 : R 1 2147483647 r1 := le_lo f8 f9.1 c10
        exact s_some ⟨r_w (⟨by decide, by decide⟩ : R 0 0 (0 : Int32)) (by decide), f9.2⟩
      ·
        have f12 : R (-2147483648) 2147483646 r1 := lt_hi f9.1 f8 (nle_lt c10) (by decide)
        exact s_some ⟨r_w (⟨by decide, by decide⟩ : R 1 1 (1 : Int32)) (by decide), f9.2⟩
theorem sl_S_gnaw_L4 (a0 : Nat) (p1 : Int32) (k0 : Int32 → PH → Option (PH)) (hb_a0 : isB (sT a0)) (f_p1 : R (-2147483648) 2147483647 p1) (hk_k0 : ∀ (y0 : Int32) (y1 : PH), R (-2147483648) 2147483647 y0 → Inv y1 → Sf (k0 y0 y1) (fun h => Inv h)) : ∀ (n : Nat) (v2 : Int32) (v3 : Int32) (hv : PH), 4 - v3.toInt < (n : Int) → R (-2147483648) 2147483647 v2 → R 0 4 v3 → Inv hv → Sf (mS_gnaw_L4 a0 p1 k0 n v2 v3 hv) (fun h => Inv h) := by
  intro n
  induction n with
  | zero =>
    intro v2 v3 hv hfu f_v2 f_v3 i_hv
    have := f_v3.2
    omega
  | succ n ih =>
    intro v2 v3 hv hfu f_v2 f_v3 i_hv
    rw [mS_gnaw_L4]
    refine s_if (fun c1 => ?_) (fun c1 => ?_)
    ·
      have f2 : R 4 4 v3 := le_lo (⟨by decide, by decide⟩ : R 4 4 (4 : Int32)) f_v3 c1
      exact hk_k0 _ _ (r_w f_v2 (by decide)) (i_hv)
    ·
      have f3 : R 0 3 v3 := lt_hi f_v3 (⟨by decide, by decide⟩ : R 4 4 (4 : Int32)) (nle_lt c1) (by decide)
      refine s_bd (sf_B_read ((sT a0)) p1 v3 isB_sT i_hv) (fun r1 f4 => ?_)
      refine s_if (fun c5 => ?_) (fun c5 => ?_)
      ·
        have f6 : R (-2147483648) 0 r1 := le_hi (r_full r1) (⟨by decide, by decide⟩ : R 0 0 (0 : Int32)) c5
        exact ih v2 (v3 + 1) hv (fu_su hfu (i_inc f3 (k := 1) rfl (by decide)) (by decide)) (r_w f_v2 (by decide)) (r_w (r_add f3 (⟨by decide, by decide⟩ : R 1 1 (1 : Int32)) (by decide) : R 1 4 (v3 + 1)) (by decide)) i_hv
      ·
        have f7 : R 1 2147483647 r1 := lt_lo (⟨by decide, by decide⟩ : R 0 0 (0 : Int32)) (r_full r1) (nle_lt c5) (by decide)
        refine s_bd2 (sf_W_tells ((sT a0)) p1 v3 1 isB_sT i_hv) (fun r2 h3 f8 => ?_)
        refine s_bd2 (sf_S_ratsGnaw (a0) r2 isB_sT f8.2) (fun r4 h5 f9 => ?_)
        refine s_if (fun c10 => ?_) (fun c10 => ?_)
        ·
          have f11 : R 0 0 r4 := r_eq (⟨by decide, by decide⟩ : R 0 0 (0 : Int32)) c10
          exact ih v2 (v3 + 1) h5 (fu_su hfu (i_inc f3 (k := 1) rfl (by decide)) (by decide)) (r_w f_v2 (by decide)) (r_w (r_add f3 (⟨by decide, by decide⟩ : R 1 1 (1 : Int32)) (by decide) : R 1 4 (v3 + 1)) (by decide)) f9.2
        ·
          have f12 : R 1 1 r4 := r_ne_lo f9.1 (⟨by decide, by decide⟩ : R 0 0 (0 : Int32)) c10 (by decide)
          refine s_bd2 (sf_B_thin ((sT a0)) p1 v3 1 isB_sT f9.2) (fun r6 h7 f13 => ?_)
          refine s_lt (fun x8 e14 => ?_)
          exact ih x8 (v3 + 1) h7 (fu_su hfu (i_inc f3 (k := 1) rfl (by decide)) (by decide)) (r_w (r_full x8) (by decide)) (r_w (r_add f3 (⟨by decide, by decide⟩ : R 1 1 (1 : Int32)) (by decide) : R 1 4 (v3 + 1)) (by decide)) f13.2
theorem sf_S_gnaw (a0 : Nat) (p1 : Int32) (hb_a0 : isB (sT a0)) {h0 : PH} (i_h0 : Inv h0) : Sf (mS_gnaw a0 p1 h0) (fun h => Inv h) := by
  unfold mS_gnaw
  refine sl_S_gnaw_L4 (a0) p1 _ isB_sT (r_w (r_full p1) (by decide)) ?_ FU 0 0 h0 (fu_up (⟨by decide, by decide⟩ : R 0 0 (0 : Int32)) (by decide)) (r_w (⟨by decide, by decide⟩ : R 0 0 (0 : Int32)) (by decide)) (r_w (⟨by decide, by decide⟩ : R 0 0 (0 : Int32)) (by decide)) i_h0
  ·
    intro x9 h10 f1 f2
    refine s_lt (fun h11 e3 => ?_)
    have i4 : Inv h11 := by rw [e3]; exact inv_put f2 (congrFun hb_a0.1 5) (r_w (r_full ((h10 (sT a0) 5) + x9)) (by decide))
    refine s_bd (sf_S_noteIfAny (a0) 2 p1 x9 isB_sT i4) (fun h12 f5 => ?_)
    exact s_some f5
theorem sl_S_melt_L15 (a0 : Nat) (p1 : Int32) (k0 : Int32 → PH → Option (PH)) (hb_a0 : isB (sT a0)) (f_p1 : R (-2147483648) 2147483647 p1) (hk_k0 : ∀ (y0 : Int32) (y1 : PH), R (-2147483648) 2147483647 y0 → Inv y1 → Sf (k0 y0 y1) (fun h => Inv h)) : ∀ (n : Nat) (v2 : Int32) (v3 : Int32) (hv : PH), 4 - v3.toInt < (n : Int) → R (-2147483648) 2147483647 v2 → R 0 4 v3 → Inv hv → Sf (mS_melt_L15 a0 p1 k0 n v2 v3 hv) (fun h => Inv h) := by
  intro n
  induction n with
  | zero =>
    intro v2 v3 hv hfu f_v2 f_v3 i_hv
    have := f_v3.2
    omega
  | succ n ih =>
    intro v2 v3 hv hfu f_v2 f_v3 i_hv
    rw [mS_melt_L15]
    refine s_if (fun c1 => ?_) (fun c1 => ?_)
    ·
      have f2 : R 4 4 v3 := le_lo (⟨by decide, by decide⟩ : R 4 4 (4 : Int32)) f_v3 c1
      exact hk_k0 _ _ (r_w f_v2 (by decide)) (i_hv)
    ·
      have f3 : R 0 3 v3 := lt_hi f_v3 (⟨by decide, by decide⟩ : R 4 4 (4 : Int32)) (nle_lt c1) (by decide)
      refine s_bd (sf_B_read ((sT a0)) p1 v3 isB_sT i_hv) (fun r1 f4 => ?_)
      refine s_if (fun c5 => ?_) (fun c5 => ?_)
      ·
        have f6 : R (-2147483648) 0 r1 := le_hi (r_full r1) (⟨by decide, by decide⟩ : R 0 0 (0 : Int32)) c5
        exact ih v2 (v3 + 1) hv (fu_su hfu (i_inc f3 (k := 1) rfl (by decide)) (by decide)) (r_w f_v2 (by decide)) (r_w (r_add f3 (⟨by decide, by decide⟩ : R 1 1 (1 : Int32)) (by decide) : R 1 4 (v3 + 1)) (by decide)) i_hv
      ·
        have f7 : R 1 2147483647 r1 := lt_lo (⟨by decide, by decide⟩ : R 0 0 (0 : Int32)) (r_full r1) (nle_lt c5) (by decide)
        refine s_bd2 (sf_W_tells ((sT a0)) p1 v3 2 isB_sT i_hv) (fun r2 h3 f8 => ?_)
        refine s_bd2 (sf_B_thin ((sT a0)) p1 v3 r2 isB_sT f8.2) (fun r4 h5 f9 => ?_)
        refine s_lt (fun x6 e10 => ?_)
        exact ih x6 (v3 + 1) h5 (fu_su hfu (i_inc f3 (k := 1) rfl (by decide)) (by decide)) (r_w (r_full x6) (by decide)) (r_w (r_add f3 (⟨by decide, by decide⟩ : R 1 1 (1 : Int32)) (by decide) : R 1 4 (v3 + 1)) (by decide)) f9.2
theorem sf_S_melt (a0 : Nat) (p1 : Int32) (hb_a0 : isB (sT a0)) {h0 : PH} (i_h0 : Inv h0) : Sf (mS_melt a0 p1 h0) (fun h => Inv h) := by
  unfold mS_melt
  refine s_if (fun c1 => ?_) (fun c1 => ?_)
  ·
    have f2 : R 0 0 (h0 (sT a0) 3) := r_eq (⟨by decide, by decide⟩ : R 0 0 (0 : Int32)) c1
    refine sl_S_melt_L15 (a0) p1 _ isB_sT (r_w (r_full p1) (by decide)) ?_ FU 0 0 h0 (fu_up (⟨by decide, by decide⟩ : R 0 0 (0 : Int32)) (by decide)) (r_w (⟨by decide, by decide⟩ : R 0 0 (0 : Int32)) (by decide)) (r_w (⟨by decide, by decide⟩ : R 0 0 (0 : Int32)) (by decide)) i_h0
    ·
      intro x7 h8 f3 f4
      refine s_bd (sf_S_noteIfAny (a0) 3 p1 x7 isB_sT f4) (fun h9 f5 => ?_)
      exact s_some f5
  ·
    exact s_some i_h0
theorem sl_S_harden_L2 (a0 : Nat) (hb_a0 : isB (sT a0)) : ∀ (n : Nat) (v1 : Int32) (hv : PH), 12 - v1.toInt < (n : Int) → R 0 12 v1 → Inv hv → Sf (mS_harden_L2 a0 n v1 hv) (fun h => Inv h) := by
  intro n
  induction n with
  | zero =>
    intro v1 hv hfu f_v1 i_hv
    have := f_v1.2
    omega
  | succ n ih =>
    intro v1 hv hfu f_v1 i_hv
    rw [mS_harden_L2]
    refine s_if (fun c1 => ?_) (fun c1 => ?_)
    ·
      exact s_some i_hv
    ·
      have f2 : R 0 11 v1 := lt_hi f_v1 (inv_rng i_hv (congrFun hb_a0.1 1) : R 0 12 (hv (sT a0) 1)) (nle_lt c1) (by decide)
      have f3 : R 1 12 (hv (sT a0) 1) := lt_lo f_v1 (inv_rng i_hv (congrFun hb_a0.1 1) : R 0 12 (hv (sT a0) 1)) (nle_lt c1) (by decide)
      refine s_if (fun c4 => ?_) (fun c4 => ?_)
      ·
        have f5 : R 1 1 (hv (sT a0) 3) := r_eq (⟨by decide, by decide⟩ : R 1 1 (1 : Int32)) c4
        refine s_bd (sf_B_isUp ((sT a0)) v1 isB_sT i_hv) (fun r1 f6 => ?_)
        refine s_if (fun c7 => ?_) (fun c7 => ?_)
        ·
          have f8 : R 0 0 r1 := r_eq (⟨by decide, by decide⟩ : R 0 0 (0 : Int32)) c7
          exact ih (v1 + 1) hv (fu_su hfu (i_inc f2 (k := 1) rfl (by decide)) (by decide)) (r_w (r_add f2 (⟨by decide, by decide⟩ : R 1 1 (1 : Int32)) (by decide) : R 1 12 (v1 + 1)) (by decide)) i_hv
        ·
          have f9 : R 1 1 r1 := r_ne_lo f6 (⟨by decide, by decide⟩ : R 0 0 (0 : Int32)) c7 (by decide)
          refine s_bd (sf_B_read ((sT a0)) v1 6 isB_sT i_hv) (fun r2 f10 => ?_)
          refine s_bd (sf_B_write ((sT a0)) v1 6 (imin 9 (r2 + 1)) isB_sT i_hv) (fun h3 f11 => ?_)
          exact ih (v1 + 1) h3 (fu_su hfu (i_inc f2 (k := 1) rfl (by decide)) (by decide)) (r_w (r_add f2 (⟨by decide, by decide⟩ : R 1 1 (1 : Int32)) (by decide) : R 1 12 (v1 + 1)) (by decide)) f11
      ·
        exact ih (v1 + 1) hv (fu_su hfu (i_inc f2 (k := 1) rfl (by decide)) (by decide)) (r_w (r_add f2 (⟨by decide, by decide⟩ : R 1 1 (1 : Int32)) (by decide) : R 1 12 (v1 + 1)) (by decide)) i_hv
theorem sf_S_harden (a0 : Nat) (hb_a0 : isB (sT a0)) {h0 : PH} (i_h0 : Inv h0) : Sf (mS_harden a0 h0) (fun h => Inv h) := by
  unfold mS_harden
  refine sl_S_harden_L2 (a0) isB_sT FU 0 h0 (fu_up (⟨by decide, by decide⟩ : R 0 0 (0 : Int32)) (by decide)) (r_w (⟨by decide, by decide⟩ : R 0 0 (0 : Int32)) (by decide)) i_h0
theorem sl_S_grow_L2 (a0 : Nat) (k0 : PH → Option (PH)) (hb_a0 : isB (sT a0)) (hk_k0 : ∀ (y0 : PH), Inv y0 → Sf (k0 y0) (fun h => Inv h)) : ∀ (n : Nat) (v1 : Int32) (hv : PH), 12 - v1.toInt < (n : Int) → R 0 12 v1 → Inv hv → Sf (mS_grow_L2 a0 k0 n v1 hv) (fun h => Inv h) := by
  intro n
  induction n with
  | zero =>
    intro v1 hv hfu f_v1 i_hv
    have := f_v1.2
    omega
  | succ n ih =>
    intro v1 hv hfu f_v1 i_hv
    rw [mS_grow_L2]
    refine s_if (fun c1 => ?_) (fun c1 => ?_)
    ·
      exact hk_k0 _ (i_hv)
    ·
      have f2 : R 0 11 v1 := lt_hi f_v1 (inv_rng i_hv (congrFun hb_a0.1 1) : R 0 12 (hv (sT a0) 1)) (nle_lt c1) (by decide)
      have f3 : R 1 12 (hv (sT a0) 1) := lt_lo f_v1 (inv_rng i_hv (congrFun hb_a0.1 1) : R 0 12 (hv (sT a0) 1)) (nle_lt c1) (by decide)
      refine s_bd (sf_B_isUp ((sT a0)) v1 isB_sT i_hv) (fun r1 f4 => ?_)
      refine s_if (fun c5 => ?_) (fun c5 => ?_)
      ·
        have f6 : R 0 0 r1 := r_eq (⟨by decide, by decide⟩ : R 0 0 (0 : Int32)) c5
        exact ih (v1 + 1) hv (fu_su hfu (i_inc f2 (k := 1) rfl (by decide)) (by decide)) (r_w (r_add f2 (⟨by decide, by decide⟩ : R 1 1 (1 : Int32)) (by decide) : R 1 12 (v1 + 1)) (by decide)) i_hv
      ·
        have f7 : R 1 1 r1 := r_ne_lo f4 (⟨by decide, by decide⟩ : R 0 0 (0 : Int32)) c5 (by decide)
        refine s_bd (sf_B_read ((sT a0)) v1 10 isB_sT i_hv) (fun r2 f8 => ?_)
        refine s_bd (sf_B_write ((sT a0)) v1 10 (imin 9999 (r2 + 1)) isB_sT i_hv) (fun h3 f9 => ?_)
        exact ih (v1 + 1) h3 (fu_su hfu (i_inc f2 (k := 1) rfl (by decide)) (by decide)) (r_w (r_add f2 (⟨by decide, by decide⟩ : R 1 1 (1 : Int32)) (by decide) : R 1 12 (v1 + 1)) (by decide)) f9
theorem sf_S_grow (a0 : Nat) (hb_a0 : isB (sT a0)) {h0 : PH} (i_h0 : Inv h0) : Sf (mS_grow a0 h0) (fun h => Inv h) := by
  unfold mS_grow
  refine sl_S_grow_L2 (a0) _ isB_sT ?_ FU 0 h0 (fu_up (⟨by decide, by decide⟩ : R 0 0 (0 : Int32)) (by decide)) (r_w (⟨by decide, by decide⟩ : R 0 0 (0 : Int32)) (by decide)) i_h0
  ·
    intro h4 f1
    refine s_lt (fun h5 e2 => ?_)
    have i3 : Inv h5 := by rw [e2]; exact inv_put f1 (congrFun hb_a0.1 6) (r_w (r_min (⟨by decide, by decide⟩ : R 9999 9999 (9999 : Int32)) (r_full ((h4 (sT a0) 6) + 1)) (by decide) : R (-2147483648) 9999 (imin 9999 ((h4 (sT a0) 6) + 1))) (by decide))
    exact s_some i3
theorem sl_S_pass_L6 (a0 : Nat) (k0 : PH → Option (Int32 × PH)) (hb_a0 : isB (sT a0)) (hk_k0 : ∀ (y0 : PH), Inv y0 → Sf (k0 y0) (fun r => R (-63) 63 r.1 ∧ Inv r.2)) : ∀ (n : Nat) (v1 : Int32) (hv : PH), 16 - v1.toInt < (n : Int) → R 0 16 v1 → Inv hv → Sf (mS_pass_L6 a0 k0 n v1 hv) (fun r => R (-63) 63 r.1 ∧ Inv r.2) := by
  intro n
  induction n with
  | zero =>
    intro v1 hv hfu f_v1 i_hv
    have := f_v1.2
    omega
  | succ n ih =>
    intro v1 hv hfu f_v1 i_hv
    rw [mS_pass_L6]
    refine s_if (fun c1 => ?_) (fun c1 => ?_)
    ·
      exact hk_k0 _ (i_hv)
    ·
      have f2 : R 0 15 v1 := lt_hi f_v1 (inv_rng i_hv rfl : R 0 16 (hv 12 3)) (nle_lt c1) (by decide)
      have f3 : R 1 16 (hv 12 3) := lt_lo f_v1 (inv_rng i_hv rfl : R 0 16 (hv 12 3)) (nle_lt c1) (by decide)
      refine s_bd (sf_R_at (12) v1 0 isR_12 i_hv) (fun r2 f4 => ?_)
      refine s_if (fun c5 => ?_) (fun c5 => ?_)
      ·
        refine s_bd (sf_S_officeLine (a0) (12) v1 isB_sT isR_12 i_hv) (fun h3 f6 => ?_)
        exact ih (v1 + 1) h3 (fu_su hfu (i_inc f2 (k := 1) rfl (by decide)) (by decide)) (r_w (r_add f2 (⟨by decide, by decide⟩ : R 1 1 (1 : Int32)) (by decide) : R 1 16 (v1 + 1)) (by decide)) f6
      ·
        exact ih (v1 + 1) hv (fu_su hfu (i_inc f2 (k := 1) rfl (by decide)) (by decide)) (r_w (r_add f2 (⟨by decide, by decide⟩ : R 1 1 (1 : Int32)) (by decide) : R 1 16 (v1 + 1)) (by decide)) i_hv
theorem sl_S_pass_L70 (a0 : Nat) (p1 : Int32) (k0 : PH → Option (Int32 × PH)) (hb_a0 : isB (sT a0)) (f_p1 : R 0 63 p1) (hk_k0 : ∀ (y0 : PH), Inv y0 → Sf (k0 y0) (fun r => R (-63) 63 r.1 ∧ Inv r.2)) : ∀ (n : Nat) (v2 : Int32) (hv : PH), 12 - v2.toInt < (n : Int) → R 0 12 v2 → Inv hv → Sf (mS_pass_L70 a0 p1 k0 n v2 hv) (fun r => R (-63) 63 r.1 ∧ Inv r.2) := by
  intro n
  induction n with
  | zero =>
    intro v2 hv hfu f_v2 i_hv
    have := f_v2.2
    omega
  | succ n ih =>
    intro v2 hv hfu f_v2 i_hv
    rw [mS_pass_L70]
    refine s_if (fun c1 => ?_) (fun c1 => ?_)
    ·
      exact hk_k0 _ (i_hv)
    ·
      have f2 : R 0 11 v2 := lt_hi f_v2 (inv_rng i_hv (congrFun hb_a0.1 1) : R 0 12 (hv (sT a0) 1)) (nle_lt c1) (by decide)
      have f3 : R 1 12 (hv (sT a0) 1) := lt_lo f_v2 (inv_rng i_hv (congrFun hb_a0.1 1) : R 0 12 (hv (sT a0) 1)) (nle_lt c1) (by decide)
      refine s_bd (sf_B_isUp ((sT a0)) v2 isB_sT i_hv) (fun r6 f4 => ?_)
      refine s_if (fun c5 => ?_) (fun c5 => ?_)
      ·
        have f6 : R 0 0 r6 := r_eq (⟨by decide, by decide⟩ : R 0 0 (0 : Int32)) c5
        exact ih (v2 + 1) hv (fu_su hfu (i_inc f2 (k := 1) rfl (by decide)) (by decide)) (r_w (r_add f2 (⟨by decide, by decide⟩ : R 1 1 (1 : Int32)) (by decide) : R 1 12 (v2 + 1)) (by decide)) i_hv
      ·
        have f7 : R 1 1 r6 := r_ne_lo f4 (⟨by decide, by decide⟩ : R 0 0 (0 : Int32)) c5 (by decide)
        refine s_bd (sf_B_read ((sT a0)) v2 7 isB_sT i_hv) (fun r7 f8 => ?_)
        refine s_if (fun c9 => ?_) (fun c9 => ?_)
        ·
          have f10 : R (-2147483648) 0 r7 := le_hi (r_full r7) (⟨by decide, by decide⟩ : R 0 0 (0 : Int32)) c9
          exact ih (v2 + 1) hv (fu_su hfu (i_inc f2 (k := 1) rfl (by decide)) (by decide)) (r_w (r_add f2 (⟨by decide, by decide⟩ : R 1 1 (1 : Int32)) (by decide) : R 1 12 (v2 + 1)) (by decide)) i_hv
        ·
          have f11 : R 1 2147483647 r7 := lt_lo (⟨by decide, by decide⟩ : R 0 0 (0 : Int32)) (r_full r7) (nle_lt c9) (by decide)
          refine s_bd (sf_S_payRent (a0) v2 isB_sT i_hv) (fun h8 f12 => ?_)
          exact ih (v2 + 1) h8 (fu_su hfu (i_inc f2 (k := 1) rfl (by decide)) (by decide)) (r_w (r_add f2 (⟨by decide, by decide⟩ : R 1 1 (1 : Int32)) (by decide) : R 1 12 (v2 + 1)) (by decide)) f12
theorem sl_S_pass_L118 (a0 : Nat) (p1 : Int32) (k0 : PH → Option (Int32 × PH)) (hb_a0 : isB (sT a0)) (f_p1 : R 0 63 p1) (hk_k0 : ∀ (y0 : PH), Inv y0 → Sf (k0 y0) (fun r => R (-63) 63 r.1 ∧ Inv r.2)) : ∀ (n : Nat) (v2 : Int32) (hv : PH), 12 - v2.toInt < (n : Int) → R 0 12 v2 → Inv hv → Sf (mS_pass_L118 a0 p1 k0 n v2 hv) (fun r => R (-63) 63 r.1 ∧ Inv r.2) := by
  intro n
  induction n with
  | zero =>
    intro v2 hv hfu f_v2 i_hv
    have := f_v2.2
    omega
  | succ n ih =>
    intro v2 hv hfu f_v2 i_hv
    rw [mS_pass_L118]
    refine s_if (fun c1 => ?_) (fun c1 => ?_)
    ·
      exact hk_k0 _ (i_hv)
    ·
      have f2 : R 0 11 v2 := lt_hi f_v2 (inv_rng i_hv (congrFun hb_a0.1 1) : R 0 12 (hv (sT a0) 1)) (nle_lt c1) (by decide)
      have f3 : R 1 12 (hv (sT a0) 1) := lt_lo f_v2 (inv_rng i_hv (congrFun hb_a0.1 1) : R 0 12 (hv (sT a0) 1)) (nle_lt c1) (by decide)
      refine s_bd (sf_S_gnaw (a0) v2 isB_sT i_hv) (fun h10 f4 => ?_)
      exact ih (v2 + 1) h10 (fu_su hfu (i_inc f2 (k := 1) rfl (by decide)) (by decide)) (r_w (r_add f2 (⟨by decide, by decide⟩ : R 1 1 (1 : Int32)) (by decide) : R 1 12 (v2 + 1)) (by decide)) f4
theorem sl_S_pass_L142 (a0 : Nat) (p1 : Int32) (k0 : PH → Option (Int32 × PH)) (hb_a0 : isB (sT a0)) (f_p1 : R 0 63 p1) (hk_k0 : ∀ (y0 : PH), Inv y0 → Sf (k0 y0) (fun r => R (-63) 63 r.1 ∧ Inv r.2)) : ∀ (n : Nat) (v2 : Int32) (hv : PH), 12 - v2.toInt < (n : Int) → R 0 12 v2 → Inv hv → Sf (mS_pass_L142 a0 p1 k0 n v2 hv) (fun r => R (-63) 63 r.1 ∧ Inv r.2) := by
  intro n
  induction n with
  | zero =>
    intro v2 hv hfu f_v2 i_hv
    have := f_v2.2
    omega
  | succ n ih =>
    intro v2 hv hfu f_v2 i_hv
    rw [mS_pass_L142]
    refine s_if (fun c1 => ?_) (fun c1 => ?_)
    ·
      exact hk_k0 _ (i_hv)
    ·
      have f2 : R 0 11 v2 := lt_hi f_v2 (inv_rng i_hv (congrFun hb_a0.1 1) : R 0 12 (hv (sT a0) 1)) (nle_lt c1) (by decide)
      have f3 : R 1 12 (hv (sT a0) 1) := lt_lo f_v2 (inv_rng i_hv (congrFun hb_a0.1 1) : R 0 12 (hv (sT a0) 1)) (nle_lt c1) (by decide)
      refine s_bd (sf_S_melt (a0) v2 isB_sT i_hv) (fun h12 f4 => ?_)
      exact ih (v2 + 1) h12 (fu_su hfu (i_inc f2 (k := 1) rfl (by decide)) (by decide)) (r_w (r_add f2 (⟨by decide, by decide⟩ : R 1 1 (1 : Int32)) (by decide) : R 1 12 (v2 + 1)) (by decide)) f4
theorem sl_S_pass_L180 (a0 : Nat) (p2 : Int32) (k0 : PH → Option (Int32 × PH)) (hb_a0 : isB (sT a0)) (f_p2 : R (-63) 63 p2) (hk_k0 : ∀ (y0 : PH), Inv y0 → Sf (k0 y0) (fun r => R (-63) 63 r.1 ∧ Inv r.2)) : ∀ (n : Nat) (v3 : Int32) (hv : PH), 12 - v3.toInt < (n : Int) → R 0 12 v3 → Inv hv → Sf (mS_pass_L180 a0 p2 k0 n v3 hv) (fun r => R (-63) 63 r.1 ∧ Inv r.2) := by
  intro n
  induction n with
  | zero =>
    intro v3 hv hfu f_v3 i_hv
    have := f_v3.2
    omega
  | succ n ih =>
    intro v3 hv hfu f_v3 i_hv
    rw [mS_pass_L180]
    refine s_if (fun c1 => ?_) (fun c1 => ?_)
    ·
      exact hk_k0 _ (i_hv)
    ·
      have f2 : R 0 11 v3 := lt_hi f_v3 (inv_rng i_hv (congrFun hb_a0.1 1) : R 0 12 (hv (sT a0) 1)) (nle_lt c1) (by decide)
      have f3 : R 1 12 (hv (sT a0) 1) := lt_lo f_v3 (inv_rng i_hv (congrFun hb_a0.1 1) : R 0 12 (hv (sT a0) 1)) (nle_lt c1) (by decide)
      refine s_bd (sf_S_leaveIfFallen (a0) v3 isB_sT i_hv) (fun h17 f4 => ?_)
      exact ih (v3 + 1) h17 (fu_su hfu (i_inc f2 (k := 1) rfl (by decide)) (by decide)) (r_w (r_add f2 (⟨by decide, by decide⟩ : R 1 1 (1 : Int32)) (by decide) : R 1 12 (v3 + 1)) (by decide)) f4
theorem sf_S_pass (a0 : Nat) (hb_a0 : isB (sT a0)) {h0 : PH} (i_h0 : Inv h0) : Sf (mS_pass a0 h0) (fun r => R (-63) 63 r.1 ∧ Inv r.2) := by
  unfold mS_pass
  refine s_bd (sf_S_weather (a0) isB_sT i_h0) (fun h1 f1 => ?_)
  refine sl_S_pass_L6 (a0) _ isB_sT ?_ FU 0 h1 (fu_up (⟨by decide, by decide⟩ : R 0 0 (0 : Int32)) (by decide)) (r_w (⟨by decide, by decide⟩ : R 0 0 (0 : Int32)) (by decide)) f1
  ·
    intro h4 f2
    refine s_bd (sf_B_countUp ((sT a0)) isB_sT f2) (fun r5 f3 => ?_)
    refine sl_S_pass_L70 (a0) r5 _ isB_sT (r_w f3 (by decide)) ?_ FU 0 h4 (fu_up (⟨by decide, by decide⟩ : R 0 0 (0 : Int32)) (by decide)) (r_w (⟨by decide, by decide⟩ : R 0 0 (0 : Int32)) (by decide)) f2
    ·
      intro h9 f4
      refine sl_S_pass_L118 (a0) r5 _ isB_sT (r_w f3 (by decide)) ?_ FU 0 h9 (fu_up (⟨by decide, by decide⟩ : R 0 0 (0 : Int32)) (by decide)) (r_w (⟨by decide, by decide⟩ : R 0 0 (0 : Int32)) (by decide)) f4
      ·
        intro h11 f5
        refine sl_S_pass_L142 (a0) r5 _ isB_sT (r_w f3 (by decide)) ?_ FU 0 h11 (fu_up (⟨by decide, by decide⟩ : R 0 0 (0 : Int32)) (by decide)) (r_w (⟨by decide, by decide⟩ : R 0 0 (0 : Int32)) (by decide)) f5
        ·
          intro h13 f6
          refine s_bd (sf_B_countUp ((sT a0)) isB_sT f6) (fun r14 f7 => ?_)
          refine s_lt (fun x15 e8 => ?_)
          have f9 : R (-63) 63 x15 := by rw [e8]; exact (r_sub f3 f7 (by decide) : R (-63) 63 (r5 - r14))
          refine s_bd (sf_S_harden (a0) isB_sT f6) (fun h16 f10 => ?_)
          refine sl_S_pass_L180 (a0) x15 _ isB_sT (r_w f9 (by decide)) ?_ FU 0 h16 (fu_up (⟨by decide, by decide⟩ : R 0 0 (0 : Int32)) (by decide)) (r_w (⟨by decide, by decide⟩ : R 0 0 (0 : Int32)) (by decide)) f10
          ·
            intro h18 f11
            refine s_bd (sf_S_grow (a0) isB_sT f11) (fun h19 f12 => ?_)
            exact s_some ⟨r_w f9 (by decide), f12⟩
theorem sf_S_mayAct (a0 : Nat) (p1 : Int32) (p2 : Int32) (p3 : Int32) (hb_a0 : isB (sT a0)) {h0 : PH} (i_h0 : Inv h0) : Sf (mS_mayAct a0 p1 p2 p3 h0) (fun r => R 0 1 r) := by
  unfold mS_mayAct
  refine s_has isB_sT i_h0 (fun r1 f2 c1 => ?_)
  refine s_if (fun c3 => ?_) (fun c3 => ?_)
  ·
    have f4 : R 0 0 r1 := r_eq (⟨by decide, by decide⟩ : R 0 0 (0 : Int32)) c3
    exact s_some (r_w (⟨by decide, by decide⟩ : R 0 0 (0 : Int32)) (by decide))
  ·
    have f5 : R 1 1 r1 := r_ne_lo f2 (⟨by decide, by decide⟩ : R 0 0 (0 : Int32)) c3 (by decide)
    have f6 : R 0 11 p2 := c1 c3
    refine s_win (fun r2 f8 c7 => ?_)
    refine s_if (fun c9 => ?_) (fun c9 => ?_)
    ·
      have f10 : R 0 0 r2 := r_eq (⟨by decide, by decide⟩ : R 0 0 (0 : Int32)) c9
      refine s_win (fun r3 f12 c11 => ?_)
      refine s_if (fun c13 => ?_) (fun c13 => ?_)
      ·
        have f14 : R 0 0 r3 := r_eq (⟨by decide, by decide⟩ : R 0 0 (0 : Int32)) c13
        refine s_if (fun c15 => ?_) (fun c15 => ?_)
        ·
          have f16 : R 20 20 p1 := r_eq (⟨by decide, by decide⟩ : R 20 20 (20 : Int32)) c15
          refine s_bd (sf_S_mayWed (a0) p2 isB_sT i_h0) (fun r4 f17 => ?_)
          exact s_some (r_w (r_nb r4) (by decide))
        ·
          refine s_if (fun c18 => ?_) (fun c18 => ?_)
          ·
            have f19 : R 21 21 p1 := r_eq (⟨by decide, by decide⟩ : R 21 21 (21 : Int32)) c18
            refine s_bd (sf_B_read ((sT a0)) p2 7 isB_sT i_h0) (fun r5 f20 => ?_)
            refine s_if (fun c21 => ?_) (fun c21 => ?_)
            ·
              have f22 : R (-2147483648) 0 r5 := le_hi (r_full r5) (⟨by decide, by decide⟩ : R 0 0 (0 : Int32)) c21
              exact s_some (r_w (⟨by decide, by decide⟩ : R 0 0 (0 : Int32)) (by decide))
            ·
              have f23 : R 1 2147483647 r5 := lt_lo (⟨by decide, by decide⟩ : R 0 0 (0 : Int32)) (r_full r5) (nle_lt c21) (by decide)
              refine s_if (fun c24 => ?_) (fun c24 => ?_)
              ·
                have f25 : R 0 11 p3 := r_eq f6 c24
                exact s_some (r_w (⟨by decide, by decide⟩ : R 0 0 (0 : Int32)) (by decide))
              ·
                refine s_has isB_sT i_h0 (fun r6 f27 c26 => ?_)
                refine s_if (fun c28 => ?_) (fun c28 => ?_)
                ·
                  have f29 : R 0 0 r6 := r_eq (⟨by decide, by decide⟩ : R 0 0 (0 : Int32)) c28
                  exact s_some (r_w (⟨by decide, by decide⟩ : R 0 0 (0 : Int32)) (by decide))
                ·
                  have f30 : R 1 1 r6 := r_ne_lo f27 (⟨by decide, by decide⟩ : R 0 0 (0 : Int32)) c28 (by decide)
                  have f31 : R 0 11 p3 := c26 c28
                  refine s_bd (sf_B_isUp ((sT a0)) p3 isB_sT i_h0) (fun r7 f32 => ?_)
                  refine s_if (fun c33 => ?_) (fun c33 => ?_)
                  ·
                    have f34 : R 0 0 r7 := r_eq (⟨by decide, by decide⟩ : R 0 0 (0 : Int32)) c33
                    exact s_some (r_w (⟨by decide, by decide⟩ : R 0 0 (0 : Int32)) (by decide))
                  ·
                    have f35 : R 1 1 r7 := r_ne_lo f32 (⟨by decide, by decide⟩ : R 0 0 (0 : Int32)) c33 (by decide)
                    exact s_some (r_w (⟨by decide, by decide⟩ : R 1 1 (1 : Int32)) (by decide))
          ·
            refine s_if (fun c36 => ?_) (fun c36 => ?_)
            ·
              have f37 : R 22 22 p1 := r_eq (⟨by decide, by decide⟩ : R 22 22 (22 : Int32)) c36
              refine s_bd (sf_B_isUp ((sT a0)) p2 isB_sT i_h0) (fun r8 f38 => ?_)
              exact s_some (r_w (r_nb r8) (by decide))
            ·
              exact s_some (r_w (⟨by decide, by decide⟩ : R 0 0 (0 : Int32)) (by decide))
      ·
        have f39 : R 1 1 r3 := r_ne_lo f12 (⟨by decide, by decide⟩ : R 0 0 (0 : Int32)) c13 (by decide)
        have q40 := c11 c13
        have f41 : R 10 2147483647 p1 := le_lo (⟨by decide, by decide⟩ : R 10 10 (10 : Int32)) (r_full p1) q40.1
        have f42 : R 10 13 p1 := le_hi f41 (⟨by decide, by decide⟩ : R 13 13 (13 : Int32)) q40.2
        refine s_win (fun r9 f44 c43 => ?_)
        exact s_some (r_w (r_nb r9) (by decide))
    ·
      have f45 : R 1 1 r2 := r_ne_lo f8 (⟨by decide, by decide⟩ : R 0 0 (0 : Int32)) c9 (by decide)
      have q46 := c7 c9
      have f47 : R 0 2147483647 p1 := le_lo (⟨by decide, by decide⟩ : R 0 0 (0 : Int32)) (r_full p1) q46.1
      have f48 : R 0 3 p1 := le_hi f47 (⟨by decide, by decide⟩ : R 3 3 (3 : Int32)) q46.2
      refine s_bd (sf_B_read ((sT a0)) p2 p1 isB_sT i_h0) (fun r10 f49 => ?_)
      refine s_win (fun r11 f51 c50 => ?_)
      exact s_some (r_w (r_nb r11) (by decide))
theorem sf_S_nibble (a0 : Nat) (p1 : Int32) (p2 : Int32) (p3 : Int32) (hb_a0 : isB (sT a0)) {h0 : PH} (i_h0 : Inv h0) : Sf (mS_nibble a0 p1 p2 p3 h0) (fun h => Inv h) := by
  unfold mS_nibble
  refine s_bd2 (sf_B_thin ((sT a0)) p1 p2 p3 isB_sT i_h0) (fun r1 h2 f1 => ?_)
  refine s_lt (fun h3 e2 => ?_)
  have i3 : Inv h3 := by rw [e2]; exact inv_put f1.2 (congrFun hb_a0.1 4) (r_w (r_full ((h0 (sT a0) 4) + r1)) (by decide))
  refine s_bd (sf_S_note (a0) 0 p1 p3 isB_sT i3) (fun h4 f4 => ?_)
  refine s_bd (sf_S_leaveIfFallen (a0) p1 isB_sT f4) (fun h5 f5 => ?_)
  exact s_some f5
theorem sf_S_actByHand (a0 : Nat) (p1 : Int32) (p2 : Int32) (p3 : Int32) (hb_a0 : isB (sT a0)) {h0 : PH} (i_h0 : Inv h0) : Sf (mS_actByHand a0 p1 p2 p3 h0) (fun h => Inv h) := by
  unfold mS_actByHand
  refine s_win (fun r1 f2 c1 => ?_)
  refine s_if (fun c3 => ?_) (fun c3 => ?_)
  ·
    have f4 : R 0 0 r1 := r_eq (⟨by decide, by decide⟩ : R 0 0 (0 : Int32)) c3
    refine s_win (fun r2 f6 c5 => ?_)
    refine s_if (fun c7 => ?_) (fun c7 => ?_)
    ·
      have f8 : R 0 0 r2 := r_eq (⟨by decide, by decide⟩ : R 0 0 (0 : Int32)) c7
      refine s_if (fun c9 => ?_) (fun c9 => ?_)
      ·
        have f10 : R 20 20 p1 := r_eq (⟨by decide, by decide⟩ : R 20 20 (20 : Int32)) c9
        refine s_bd (sf_S_wed (a0) p2 isB_sT i_h0) (fun h3 f11 => ?_)
        exact s_some f11
      ·
        refine s_if (fun c12 => ?_) (fun c12 => ?_)
        ·
          have f13 : R 21 21 p1 := r_eq (⟨by decide, by decide⟩ : R 21 21 (21 : Int32)) c12
          refine s_bd (sf_S_moveLodgers (a0) p2 p3 isB_sT i_h0) (fun h4 f14 => ?_)
          exact s_some f14
        ·
          refine s_if (fun c15 => ?_) (fun c15 => ?_)
          ·
            have f16 : R 22 22 p1 := r_eq (⟨by decide, by decide⟩ : R 22 22 (22 : Int32)) c15
            refine s_bd (sf_S_raze (a0) p2 isB_sT i_h0) (fun h5 f17 => ?_)
            exact s_some f17
          ·
            exact s_some i_h0
    ·
      have f18 : R 1 1 r2 := r_ne_lo f6 (⟨by decide, by decide⟩ : R 0 0 (0 : Int32)) c7 (by decide)
      have q19 := c5 c7
      have f20 : R 10 2147483647 p1 := le_lo (⟨by decide, by decide⟩ : R 10 10 (10 : Int32)) (r_full p1) q19.1
      have f21 : R 10 13 p1 := le_hi f20 (⟨by decide, by decide⟩ : R 13 13 (13 : Int32)) q19.2
      refine s_bd (sf_B_thicken ((sT a0)) p2 (p1 - 10) p3 isB_sT i_h0) (fun h6 f22 => ?_)
      exact s_some f22
  ·
    have f23 : R 1 1 r1 := r_ne_lo f2 (⟨by decide, by decide⟩ : R 0 0 (0 : Int32)) c3 (by decide)
    have q24 := c1 c3
    have f25 : R 0 2147483647 p1 := le_lo (⟨by decide, by decide⟩ : R 0 0 (0 : Int32)) (r_full p1) q24.1
    have f26 : R 0 3 p1 := le_hi f25 (⟨by decide, by decide⟩ : R 3 3 (3 : Int32)) q24.2
    refine s_bd (sf_S_nibble (a0) p2 p1 p3 isB_sT i_h0) (fun h7 f27 => ?_)
    exact s_some f27
theorem sf_D_forgetFault {h0 : PH} (i_h0 : Inv h0) : Sf (mD_forgetFault h0) (fun h => Inv h) := by
  unfold mD_forgetFault
  refine s_lt (fun h1 e1 => ?_)
  have i2 : Inv h1 := by rw [e1]; exact inv_put i_h0 rfl (r_w (⟨by decide, by decide⟩ : R 0 0 (0 : Int32)) (by decide))
  refine s_lt (fun h2 e3 => ?_)
  have i4 : Inv h2 := by rw [e3]; exact inv_put i2 rfl (r_w (⟨by decide, by decide⟩ : R (-1) (-1) (-1 : Int32)) (by decide))
  exact s_some i4
theorem sf_D_advance {h0 : PH} (i_h0 : Inv h0) : Sf (mD_advance h0) (fun h => Inv h) := by
  unfold mD_advance
  refine s_lt (fun h1 e1 => ?_)
  have i2 : Inv h1 := by rw [e1]; exact inv_put i_h0 rfl (r_w (r_full ((h0 90 5) + 1)) (by decide))
  rw [jn1_e]
  refine s_if (fun c3 => ?_) (fun c3 => ?_)
  ·
    have f4 : R (-2147483648) (-1) (h1 90 5) := lt_hi (r_full (h1 90 5)) (⟨by decide, by decide⟩ : R 0 0 (0 : Int32)) c3 (by decide)
    dsimp only
    rw [jn1_e]
    refine s_if (fun c5 => ?_) (fun c5 => ?_)
    ·
      dsimp only
      refine s_lt (fun h6 e6 => ?_)
      have i7 : Inv h6 := by rw [e6]; exact inv_put i2 rfl (r_w (⟨by decide, by decide⟩ : R 0 0 (0 : Int32)) (by decide))
      have f8 : R (-2147483648) (-1) (h6 90 5) := by rw [e6, up_oj (by decide)]; exact f4
      rw [jn1_e]
      refine s_if (fun c9 => ?_) (fun c9 => ?_)
      ·
        dsimp only
        refine s_lt (fun h9 e10 => ?_)
        have i11 : Inv h9 := by rw [e10]; exact inv_put i7 rfl (r_w (⟨by decide, by decide⟩ : R 0 0 (0 : Int32)) (by decide))
        have f12 : R (-2147483648) (-1) (h9 90 5) := by rw [e10, up_oj (by decide)]; exact f8
        exact s_some i11
      ·
        have f13 : R 1 0 0 := r_ne_lo (⟨by decide, by decide⟩ : R 0 0 (0 : Int32)) (⟨by decide, by decide⟩ : R 0 0 (0 : Int32)) c9 (by decide)
        exact r_no f13 (by decide)
    ·
      have f14 : R 1 0 0 := r_ne_lo (⟨by decide, by decide⟩ : R 0 0 (0 : Int32)) (⟨by decide, by decide⟩ : R 0 0 (0 : Int32)) c5 (by decide)
      exact r_no f14 (by decide)
  ·
    have f15 : R 0 2147483647 (h1 90 5) := le_lo (⟨by decide, by decide⟩ : R 0 0 (0 : Int32)) (r_full (h1 90 5)) (nlt_le c3)
    refine s_if (fun c16 => ?_) (fun c16 => ?_)
    ·
      dsimp only
      rw [jn1_e]
      refine s_if (fun c17 => ?_) (fun c17 => ?_)
      ·
        dsimp only
        refine s_lt (fun h6 e18 => ?_)
        have i19 : Inv h6 := by rw [e18]; exact inv_put i2 rfl (r_w (⟨by decide, by decide⟩ : R 0 0 (0 : Int32)) (by decide))
        have f20 : R 0 2147483647 (h6 90 5) := by rw [e18, up_oj (by decide)]; exact f15
        rw [jn1_e]
        refine s_if (fun c21 => ?_) (fun c21 => ?_)
        ·
          dsimp only
          refine s_lt (fun h9 e22 => ?_)
          have i23 : Inv h9 := by rw [e22]; exact inv_put i19 rfl (r_w (⟨by decide, by decide⟩ : R 0 0 (0 : Int32)) (by decide))
          have f24 : R 0 2147483647 (h9 90 5) := by rw [e22, up_oj (by decide)]; exact f20
          exact s_some i23
        ·
          have f25 : R 1 0 0 := r_ne_lo (⟨by decide, by decide⟩ : R 0 0 (0 : Int32)) (⟨by decide, by decide⟩ : R 0 0 (0 : Int32)) c21 (by decide)
          exact r_no f25 (by decide)
      ·
        have f26 : R 1 0 0 := r_ne_lo (⟨by decide, by decide⟩ : R 0 0 (0 : Int32)) (⟨by decide, by decide⟩ : R 0 0 (0 : Int32)) c17 (by decide)
        exact r_no f26 (by decide)
    ·
      have f27 : R 0 400 (h1 90 5) := lt_hi f15 (inv_rng i2 rfl : R 0 401 (h1 85 5)) (nle_lt c16) (by decide)
      have f28 : R 1 401 (h1 85 5) := lt_lo f15 (inv_rng i2 rfl : R 0 401 (h1 85 5)) (nle_lt c16) (by decide)
      refine s_if (fun c29 => ?_) (fun c29 => ?_)
      ·
        have f30 : R 400 399 400 := lt_hi (⟨by decide, by decide⟩ : R 400 400 (400 : Int32)) f27 c29 (by decide)
        exact r_no f30 (by decide)
      ·
        dsimp only
        rw [jn1_e]
        refine s_if (fun c31 => ?_) (fun c31 => ?_)
        ·
          have f32 : R 1 0 1 := r_mix (r_eq (⟨by decide, by decide⟩ : R 0 0 (0 : Int32)) c31) (⟨by decide, by decide⟩ : R 1 1 (1 : Int32))
          exact r_no f32 (by decide)
        ·
          refine s_ck f27 (by decide) ?_
          dsimp only
          refine s_lt (fun h6 e33 => ?_)
          have i34 : Inv h6 := by rw [e33]; exact inv_put i2 rfl (r_w (r_full (h1 87 (ix (h1 90 5)))) (by decide))
          have f35 : R 1 401 (h6 85 5) := by rw [e33, up_oc (by decide)]; exact f28
          have f36 : R 0 400 (h6 90 5) := by rw [e33, up_oj (by decide)]; exact f27
          rw [jn1_e]
          refine s_if (fun c37 => ?_) (fun c37 => ?_)
          ·
            have f38 : R 1 0 1 := r_mix (r_eq (⟨by decide, by decide⟩ : R 0 0 (0 : Int32)) c37) (⟨by decide, by decide⟩ : R 1 1 (1 : Int32))
            exact r_no f38 (by decide)
          ·
            refine s_ck f36 (by decide) ?_
            dsimp only
            refine s_lt (fun h9 e39 => ?_)
            have i40 : Inv h9 := by rw [e39]; exact inv_put i34 rfl (r_w (r_full (h6 88 (ix (h6 90 5)))) (by decide))
            have f41 : R 1 401 (h9 85 5) := by rw [e39, up_oc (by decide)]; exact f35
            have f42 : R 0 400 (h9 90 5) := by rw [e39, up_oj (by decide)]; exact f36
            exact s_some i40
theorem sf_D_refuse (p1 : Int32) {h0 : PH} (i_h0 : Inv h0) : Sf (mD_refuse p1 h0) (fun r => R 0 0 r.1 ∧ Inv r.2) := by
  unfold mD_refuse
  refine s_lt (fun h1 e1 => ?_)
  have i2 : Inv h1 := by rw [e1]; exact inv_put i_h0 rfl (r_w (r_full p1) (by decide))
  refine s_jn1 (P := fun (x3 : Int32) => R (-2147483648) 2147483647 x3) (fun x3 f11 => ?_) (fun j2 kj2 => ?_)
  ·
    refine s_lt (fun h4 e12 => ?_)
    have i13 : Inv h4 := by rw [e12]; exact inv_put i2 rfl (r_w (r_full x3) (by decide))
    exact s_some ⟨r_w (⟨by decide, by decide⟩ : R 0 0 (0 : Int32)) (by decide), i13⟩
  ·
    refine s_if (fun c14 => ?_) (fun c14 => ?_)
    ·
      have f15 : R (-2147483648) (-1) (h1 90 5) := lt_hi (r_full (h1 90 5)) (⟨by decide, by decide⟩ : R 0 0 (0 : Int32)) c14 (by decide)
      exact kj2 _ (r_w (inv_rng i2 rfl : R 0 400 (h1 85 4)) (by decide))
    ·
      have f16 : R 0 2147483647 (h1 90 5) := le_lo (⟨by decide, by decide⟩ : R 0 0 (0 : Int32)) (r_full (h1 90 5)) (nlt_le c14)
      refine s_if (fun c17 => ?_) (fun c17 => ?_)
      ·
        exact kj2 _ (r_w (inv_rng i2 rfl : R 0 400 (h1 85 4)) (by decide))
      ·
        have f18 : R 0 400 (h1 90 5) := lt_hi f16 (inv_rng i2 rfl : R 0 401 (h1 85 5)) (nle_lt c17) (by decide)
        have f19 : R 1 401 (h1 85 5) := lt_lo f16 (inv_rng i2 rfl : R 0 401 (h1 85 5)) (nle_lt c17) (by decide)
        refine s_if (fun c20 => ?_) (fun c20 => ?_)
        ·
          have f21 : R 400 399 400 := lt_hi (⟨by decide, by decide⟩ : R 400 400 (400 : Int32)) f18 c20 (by decide)
          exact r_no f21 (by decide)
        ·
          refine s_ck f18 (by decide) ?_
          exact kj2 _ (r_w (r_full (h1 89 (ix (h1 90 5)))) (by decide))
theorem sf_D_unit {h0 : PH} (i_h0 : Inv h0) : Sf (mD_unit h0) (fun r => R 0 1 r.1 ∧ Inv r.2) := by
  unfold mD_unit
  refine s_jn1 (P := fun (h2 : PH) => Inv h2) (fun h2 f17 => ?_) (fun j1 kj1 => ?_)
  ·
    refine s_bd (sf_D_advance f17) (fun h3 f18 => ?_)
    exact s_some ⟨r_w (⟨by decide, by decide⟩ : R 1 1 (1 : Int32)) (by decide), f18⟩
  ·
    refine s_if (fun c19 => ?_) (fun c19 => ?_)
    ·
      have f20 : R 2 2 (h0 90 6) := r_eq (⟨by decide, by decide⟩ : R 2 2 (2 : Int32)) c19
      refine s_bd2 (sf_R_add (93) 0 (h0 90 7) 0 0 0 isRF_93 i_h0) (fun r4 h5 f21 => ?_)
      exact kj1 _ (f21.2)
    ·
      refine s_jn0 ?_ (fun j6 kj6 => ?_)
      ·
        refine s_bd2 (sf_D_refuse 1 i_h0) (fun r7 h8 f28 => ?_)
        exact s_some ⟨r_w (r_nb r7) (by decide), f28.2⟩
      ·
        refine s_if (fun c29 => ?_) (fun c29 => ?_)
        ·
          have f30 : R 1 1 (h0 90 6) := r_eq (⟨by decide, by decide⟩ : R 1 1 (1 : Int32)) c29
          refine s_if (fun c31 => ?_) (fun c31 => ?_)
          ·
            have f32 : R (-2147483648) 6 (h0 90 7) := lt_hi (r_full (h0 90 7)) (⟨by decide, by decide⟩ : R 7 7 (7 : Int32)) c31 (by decide)
            exact kj6
          ·
            have f33 : R 7 2147483647 (h0 90 7) := le_lo (⟨by decide, by decide⟩ : R 7 7 (7 : Int32)) (r_full (h0 90 7)) (nlt_le c31)
            refine s_bd2 (sf_R_add (93) 1 ((h0 90 7) - 7) 0 0 0 isRF_93 i_h0) (fun r9 h10 f34 => ?_)
            exact kj1 _ (f34.2)
        ·
          exact kj6
theorem sf_D_isSign (p1 : Int32) {h0 : PH} (i_h0 : Inv h0) : Sf (mD_isSign p1 h0) (fun r => R 0 1 r) := by
  unfold mD_isSign
  refine s_if (fun c1 => ?_) (fun c1 => ?_)
  ·
    have f2 : R 3 3 (h0 90 6) := r_eq (⟨by decide, by decide⟩ : R 3 3 (3 : Int32)) c1
    refine s_if (fun c3 => ?_) (fun c3 => ?_)
    ·
      exact s_some (r_w (⟨by decide, by decide⟩ : R 1 1 (1 : Int32)) (by decide))
    ·
      exact s_some (r_w (⟨by decide, by decide⟩ : R 0 0 (0 : Int32)) (by decide))
  ·
    exact s_some (r_w (⟨by decide, by decide⟩ : R 0 0 (0 : Int32)) (by decide))
theorem sf_D_takesNumber (p1 : Int32) (p2 : Int32) (f_p1 : R 0 1 p1) (f_p2 : R (-1) 9999 p2) {h0 : PH} (i_h0 : Inv h0) : Sf (mD_takesNumber p1 p2 h0) (fun r => R 0 1 r.1 ∧ Inv r.2) := by
  unfold mD_takesNumber
  refine s_if (fun c1 => ?_) (fun c1 => ?_)
  ·
    have f2 : R 2 2 (h0 90 6) := r_eq (⟨by decide, by decide⟩ : R 2 2 (2 : Int32)) c1
    refine s_win (fun r1 f4 c3 => ?_)
    refine s_if (fun c5 => ?_) (fun c5 => ?_)
    ·
      have f6 : R 0 0 r1 := r_eq (⟨by decide, by decide⟩ : R 0 0 (0 : Int32)) c5
      refine s_bd2 (sf_D_refuse 2 i_h0) (fun r2 h3 f7 => ?_)
      exact s_some ⟨r_w (r_nb r2) (by decide), f7.2⟩
    ·
      have f8 : R 1 1 r1 := r_ne_lo f4 (⟨by decide, by decide⟩ : R 0 0 (0 : Int32)) c5 (by decide)
      have q9 := c3 c5
      have f10 : R 0 2147483647 (h0 90 7) := le_lo f_p1 (r_full (h0 90 7)) q9.1
      have f11 : R 0 9999 (h0 90 7) := le_hi f10 f_p2 q9.2
      have f12 : R 0 9999 p2 := le_lo f10 f_p2 q9.2
      refine s_lt (fun h4 e13 => ?_)
      have i14 : Inv h4 := by rw [e13]; exact inv_put i_h0 rfl (r_w f11 (by decide))
      have f15 : R 2 2 (h4 90 6) := by rw [e13, up_oj (by decide)]; exact f2
      have f16 : R 0 9999 (h4 90 7) := by rw [e13, up_oj (by decide)]; exact f11
      refine s_bd (sf_D_advance i14) (fun h5 f17 => ?_)
      exact s_some ⟨r_w (⟨by decide, by decide⟩ : R 1 1 (1 : Int32)) (by decide), f17⟩
  ·
    refine s_bd2 (sf_D_refuse 1 i_h0) (fun r6 h7 f18 => ?_)
    exact s_some ⟨r_w (r_nb r6) (by decide), f18.2⟩
theorem sf_D_emit (p1 : Int32) (p2 : Int32) {h0 : PH} (i_h0 : Inv h0) : Sf (mD_emit p1 p2 h0) (fun r => R 0 1 r.1 ∧ Inv r.2) := by
  unfold mD_emit
  refine s_bd2 (sf_R_add (93) p1 p2 0 0 0 isRF_93 i_h0) (fun r1 h2 f1 => ?_)
  exact s_some ⟨r_w (r_nb r1) (by decide), f1.2⟩
theorem sl_D_expression_L13 (k0 : Int32 → PH → Option (Int32 × PH)) (hk_k0 : ∀ (y0 : Int32) (y1 : PH), R (-1) 3 y0 → Inv y1 → Sf (k0 y0 y1) (fun r => R 0 1 r.1 ∧ Inv r.2)) : ∀ (n : Nat) (v1 : Int32) (v2 : Int32) (hv : PH), 400 - v2.toInt < (n : Int) → R (-1) 3 v1 → R 0 400 v2 → Inv hv → Sf (mD_expression_L13 k0 n v1 v2 hv) (fun r => R 0 1 r.1 ∧ Inv r.2) := by
  intro n
  induction n with
  | zero =>
    intro v1 v2 hv hfu f_v1 f_v2 i_hv
    have := f_v2.2
    omega
  | succ n ih =>
    intro v1 v2 hv hfu f_v1 f_v2 i_hv
    rw [mD_expression_L13]
    refine s_if (fun c1 => ?_) (fun c1 => ?_)
    ·
      have f2 : R 400 400 v2 := le_lo (⟨by decide, by decide⟩ : R 400 400 (400 : Int32)) f_v2 c1
      exact hk_k0 _ _ (r_w f_v1 (by decide)) (i_hv)
    ·
      have f3 : R 0 399 v2 := lt_hi f_v2 (⟨by decide, by decide⟩ : R 400 400 (400 : Int32)) (nle_lt c1) (by decide)
      refine s_bd (sf_D_isSign 43 i_hv) (fun r3 f4 => ?_)
      refine s_jn0 ?_ (fun j4 kj4 => ?_)
      ·
        refine s_lt (fun x5 e20 => ?_)
        refine s_bd (sf_D_advance i_hv) (fun h6 f21 => ?_)
        refine s_if (fun c22 => ?_) (fun c22 => ?_)
        ·
          have f23 : R 47 47 x5 := r_eq (⟨by decide, by decide⟩ : R 47 47 (47 : Int32)) c22
          refine s_bd2 (sf_D_takesNumber 1 9999 (r_w (⟨by decide, by decide⟩ : R 1 1 (1 : Int32)) (by decide)) (r_w (⟨by decide, by decide⟩ : R 9999 9999 (9999 : Int32)) (by decide)) f21) (fun r7 h8 f24 => ?_)
          refine s_if (fun c25 => ?_) (fun c25 => ?_)
          ·
            have f26 : R 0 0 r7 := r_eq (⟨by decide, by decide⟩ : R 0 0 (0 : Int32)) c25
            exact s_some ⟨r_w (⟨by decide, by decide⟩ : R 0 0 (0 : Int32)) (by decide), f24.2⟩
          ·
            have f27 : R 1 1 r7 := r_ne_lo f24.1 (⟨by decide, by decide⟩ : R 0 0 (0 : Int32)) c25 (by decide)
            refine s_bd2 (sf_D_emit 5 (h8 90 9) f24.2) (fun r9 h10 f28 => ?_)
            exact ih v1 (v2 + 1) h10 (fu_su hfu (i_inc f3 (k := 1) rfl (by decide)) (by decide)) (r_w f_v1 (by decide)) (r_w (r_add f3 (⟨by decide, by decide⟩ : R 1 1 (1 : Int32)) (by decide) : R 1 400 (v2 + 1)) (by decide)) f28.2
        ·
          refine s_jn2 (P := fun (x12 : Int32) (h13 : PH) => R (-1) 3 x12 ∧ Inv h13) (fun x12 h13 f42 => ?_) (fun j11 kj11 => ?_)
          ·
            refine s_bd2 (sf_D_unit f42.2) (fun r14 h15 f43 => ?_)
            refine s_if (fun c44 => ?_) (fun c44 => ?_)
            ·
              have f45 : R 0 0 r14 := r_eq (⟨by decide, by decide⟩ : R 0 0 (0 : Int32)) c44
              exact s_some ⟨r_w (⟨by decide, by decide⟩ : R 0 0 (0 : Int32)) (by decide), f43.2⟩
            ·
              have f46 : R 1 1 r14 := r_ne_lo f43.1 (⟨by decide, by decide⟩ : R 0 0 (0 : Int32)) c44 (by decide)
              refine s_if (fun c47 => ?_) (fun c47 => ?_)
              ·
                have f48 : R 42 42 x5 := r_eq (⟨by decide, by decide⟩ : R 42 42 (42 : Int32)) c47
                refine s_bd2 (sf_D_emit 4 0 f43.2) (fun r16 h17 f49 => ?_)
                exact ih x12 (v2 + 1) h17 (fu_su hfu (i_inc f3 (k := 1) rfl (by decide)) (by decide)) (r_w f42.1 (by decide)) (r_w (r_add f3 (⟨by decide, by decide⟩ : R 1 1 (1 : Int32)) (by decide) : R 1 400 (v2 + 1)) (by decide)) f49.2
              ·
                exact ih x12 (v2 + 1) h15 (fu_su hfu (i_inc f3 (k := 1) rfl (by decide)) (by decide)) (r_w f42.1 (by decide)) (r_w (r_add f3 (⟨by decide, by decide⟩ : R 1 1 (1 : Int32)) (by decide) : R 1 400 (v2 + 1)) (by decide)) f43.2
          ·
            refine s_if (fun c50 => ?_) (fun c50 => ?_)
            ·
              have f51 : R 42 42 x5 := r_eq (⟨by decide, by decide⟩ : R 42 42 (42 : Int32)) c50
              exact kj11 _ _ ⟨r_w f_v1 (by decide), f21⟩
            ·
              refine s_jn1 (P := fun (h19 : PH) => Inv h19) (fun h19 f56 => ?_) (fun j18 kj18 => ?_)
              ·
                refine s_if (fun c57 => ?_) (fun c57 => ?_)
                ·
                  have f58 : R 43 43 x5 := r_eq (⟨by decide, by decide⟩ : R 43 43 (43 : Int32)) c57
                  exact kj11 _ _ ⟨r_w (⟨by decide, by decide⟩ : R 2 2 (2 : Int32)) (by decide), f56⟩
                ·
                  exact kj11 _ _ ⟨r_w (⟨by decide, by decide⟩ : R 3 3 (3 : Int32)) (by decide), f56⟩
              ·
                refine s_if (fun c59 => ?_) (fun c59 => ?_)
                ·
                  have f60 : R (-1) (-1) v1 := r_eq (⟨by decide, by decide⟩ : R (-1) (-1) (-1 : Int32)) c59
                  exact kj18 _ (f21)
                ·
                  have f61 : R 0 3 v1 := r_ne_lo f_v1 (⟨by decide, by decide⟩ : R (-1) (-1) (-1 : Int32)) c59 (by decide)
                  refine s_bd2 (sf_D_emit v1 0 f21) (fun r20 h21 f62 => ?_)
                  exact kj18 _ (f62.2)
      ·
        refine s_if (fun c63 => ?_) (fun c63 => ?_)
        ·
          have f64 : R 0 0 r3 := r_eq (⟨by decide, by decide⟩ : R 0 0 (0 : Int32)) c63
          refine s_bd (sf_D_isSign 45 i_hv) (fun r22 f65 => ?_)
          refine s_if (fun c66 => ?_) (fun c66 => ?_)
          ·
            have f67 : R 0 0 r22 := r_eq (⟨by decide, by decide⟩ : R 0 0 (0 : Int32)) c66
            refine s_bd (sf_D_isSign 42 i_hv) (fun r23 f68 => ?_)
            refine s_if (fun c69 => ?_) (fun c69 => ?_)
            ·
              have f70 : R 0 0 r23 := r_eq (⟨by decide, by decide⟩ : R 0 0 (0 : Int32)) c69
              refine s_bd (sf_D_isSign 47 i_hv) (fun r24 f71 => ?_)
              refine s_if (fun c72 => ?_) (fun c72 => ?_)
              ·
                have f73 : R 0 0 r24 := r_eq (⟨by decide, by decide⟩ : R 0 0 (0 : Int32)) c72
                exact hk_k0 _ _ (r_w f_v1 (by decide)) (i_hv)
              ·
                have f74 : R 1 1 r24 := r_ne_lo f71 (⟨by decide, by decide⟩ : R 0 0 (0 : Int32)) c72 (by decide)
                exact kj4
            ·
              have f75 : R 1 1 r23 := r_ne_lo f68 (⟨by decide, by decide⟩ : R 0 0 (0 : Int32)) c69 (by decide)
              exact kj4
          ·
            have f76 : R 1 1 r22 := r_ne_lo f65 (⟨by decide, by decide⟩ : R 0 0 (0 : Int32)) c66 (by decide)
            exact kj4
        ·
          have f77 : R 1 1 r3 := r_ne_lo f4 (⟨by decide, by decide⟩ : R 0 0 (0 : Int32)) c63 (by decide)
          exact kj4
theorem sf_D_expression {h0 : PH} (i_h0 : Inv h0) : Sf (mD_expression h0) (fun r => R 0 1 r.1 ∧ Inv r.2) := by
  unfold mD_expression
  refine s_bd2 (sf_D_unit i_h0) (fun r1 h2 f1 => ?_)
  refine s_if (fun c2 => ?_) (fun c2 => ?_)
  ·
    have f3 : R 0 0 r1 := r_eq (⟨by decide, by decide⟩ : R 0 0 (0 : Int32)) c2
    exact s_some ⟨r_w (⟨by decide, by decide⟩ : R 0 0 (0 : Int32)) (by decide), f1.2⟩
  ·
    have f4 : R 1 1 r1 := r_ne_lo f1.1 (⟨by decide, by decide⟩ : R 0 0 (0 : Int32)) c2 (by decide)
    refine sl_D_expression_L13 _ ?_ FU (-1) 0 h2 (fu_up (⟨by decide, by decide⟩ : R 0 0 (0 : Int32)) (by decide)) (r_w (⟨by decide, by decide⟩ : R (-1) (-1) (-1 : Int32)) (by decide)) (r_w (⟨by decide, by decide⟩ : R 0 0 (0 : Int32)) (by decide)) f1.2
    ·
      intro x25 h26 f5 f6
      refine s_if (fun c7 => ?_) (fun c7 => ?_)
      ·
        have f8 : R (-1) (-1) x25 := r_eq (⟨by decide, by decide⟩ : R (-1) (-1) (-1 : Int32)) c7
        exact s_some ⟨r_w (⟨by decide, by decide⟩ : R 1 1 (1 : Int32)) (by decide), f6⟩
      ·
        have f9 : R 0 3 x25 := r_ne_lo f5 (⟨by decide, by decide⟩ : R (-1) (-1) (-1 : Int32)) c7 (by decide)
        refine s_bd2 (sf_D_emit x25 0 f6) (fun r27 h28 f10 => ?_)
        refine s_if (fun c11 => ?_) (fun c11 => ?_)
        ·
          have f12 : R 0 0 r27 := r_eq (⟨by decide, by decide⟩ : R 0 0 (0 : Int32)) c11
          exact s_some ⟨r_w (⟨by decide, by decide⟩ : R 0 0 (0 : Int32)) (by decide), f10.2⟩
        ·
          have f13 : R 1 1 r27 := r_ne_lo f10.1 (⟨by decide, by decide⟩ : R 0 0 (0 : Int32)) c11 (by decide)
          exact s_some ⟨r_w (⟨by decide, by decide⟩ : R 1 1 (1 : Int32)) (by decide), f10.2⟩
theorem sf_D_isWord (p1 : Int32) {h0 : PH} (i_h0 : Inv h0) : Sf (mD_isWord p1 h0) (fun r => R 0 1 r) := by
  unfold mD_isWord
  refine s_if (fun c1 => ?_) (fun c1 => ?_)
  ·
    have f2 : R 1 1 (h0 90 6) := r_eq (⟨by decide, by decide⟩ : R 1 1 (1 : Int32)) c1
    refine s_if (fun c3 => ?_) (fun c3 => ?_)
    ·
      exact s_some (r_w (⟨by decide, by decide⟩ : R 1 1 (1 : Int32)) (by decide))
    ·
      exact s_some (r_w (⟨by decide, by decide⟩ : R 0 0 (0 : Int32)) (by decide))
  ·
    exact s_some (r_w (⟨by decide, by decide⟩ : R 0 0 (0 : Int32)) (by decide))
theorem sf_D_takesSign (p1 : Int32) {h0 : PH} (i_h0 : Inv h0) : Sf (mD_takesSign p1 h0) (fun r => R 0 1 r.1 ∧ Inv r.2) := by
  unfold mD_takesSign
  refine s_bd (sf_D_isSign p1 i_h0) (fun r1 f1 => ?_)
  refine s_if (fun c2 => ?_) (fun c2 => ?_)
  ·
    have f3 : R 0 0 r1 := r_eq (⟨by decide, by decide⟩ : R 0 0 (0 : Int32)) c2
    refine s_bd2 (sf_D_refuse 1 i_h0) (fun r2 h3 f4 => ?_)
    exact s_some ⟨r_w (r_nb r2) (by decide), f4.2⟩
  ·
    have f5 : R 1 1 r1 := r_ne_lo f1 (⟨by decide, by decide⟩ : R 0 0 (0 : Int32)) c2 (by decide)
    refine s_bd (sf_D_advance i_h0) (fun h4 f6 => ?_)
    exact s_some ⟨r_w (⟨by decide, by decide⟩ : R 1 1 (1 : Int32)) (by decide), f6⟩
theorem sl_D_condition_L14 (p1 : Int32) (f1 : Int32 → PH → Option (Int32 × PH)) (k0 : Int32 → PH → Option (Int32 × PH)) (f_p1 : R (-2147483648) 2147483647 p1) (hf_f1 : ∀ (h : PH), Inv h → Sf (f1 p1 h) (fun r => R 0 1 r.1 ∧ Inv r.2)) (hk_k0 : ∀ (y0 : Int32) (y1 : PH), R (-1) 11 y0 → Inv y1 → Sf (k0 y0 y1) (fun r => R 0 1 r.1 ∧ Inv r.2)) : ∀ (n : Nat) (v2 : Int32) (v3 : Int32) (hv : PH), 400 - v3.toInt < (n : Int) → R (-1) 11 v2 → R 0 400 v3 → Inv hv → Sf (mD_condition_L14 p1 f1 k0 n v2 v3 hv) (fun r => R 0 1 r.1 ∧ Inv r.2) := by
  intro n
  induction n with
  | zero =>
    intro v2 v3 hv hfu f_v2 f_v3 i_hv
    have := f_v3.2
    omega
  | succ n ih =>
    intro v2 v3 hv hfu f_v2 f_v3 i_hv
    rw [mD_condition_L14]
    refine s_if (fun c1 => ?_) (fun c1 => ?_)
    ·
      have f2 : R 400 400 v3 := le_lo (⟨by decide, by decide⟩ : R 400 400 (400 : Int32)) f_v3 c1
      exact hk_k0 _ _ (r_w f_v2 (by decide)) (i_hv)
    ·
      have f3 : R 0 399 v3 := lt_hi f_v3 (⟨by decide, by decide⟩ : R 400 400 (400 : Int32)) (nle_lt c1) (by decide)
      refine s_bd (sf_D_isWord 4 i_hv) (fun r3 f4 => ?_)
      refine s_jn0 ?_ (fun j4 kj4 => ?_)
      ·
        refine s_bd (sf_D_isWord 5 i_hv) (fun r5 f12 => ?_)
        refine s_bd (sf_D_advance i_hv) (fun h6 f13 => ?_)
        refine s_jn2 (P := fun (x8 : Int32) (h9 : PH) => R (-1) 11 x8 ∧ Inv h9) (fun x8 h9 f21 => ?_) (fun j7 kj7 => ?_)
        ·
          refine s_bd2 (hf_f1 _ f21.2) (fun r10 h11 f22 => ?_)
          refine s_if (fun c23 => ?_) (fun c23 => ?_)
          ·
            have f24 : R 0 0 r10 := r_eq (⟨by decide, by decide⟩ : R 0 0 (0 : Int32)) c23
            exact s_some ⟨r_w (⟨by decide, by decide⟩ : R 0 0 (0 : Int32)) (by decide), f22.2⟩
          ·
            have f25 : R 1 1 r10 := r_ne_lo f22.1 (⟨by decide, by decide⟩ : R 0 0 (0 : Int32)) c23 (by decide)
            refine s_if (fun c26 => ?_) (fun c26 => ?_)
            ·
              have f27 : R 0 0 r5 := r_eq (⟨by decide, by decide⟩ : R 0 0 (0 : Int32)) c26
              exact ih x8 (v3 + 1) h11 (fu_su hfu (i_inc f3 (k := 1) rfl (by decide)) (by decide)) (r_w f21.1 (by decide)) (r_w (r_add f3 (⟨by decide, by decide⟩ : R 1 1 (1 : Int32)) (by decide) : R 1 400 (v3 + 1)) (by decide)) f22.2
            ·
              have f28 : R 1 1 r5 := r_ne_lo f12 (⟨by decide, by decide⟩ : R 0 0 (0 : Int32)) c26 (by decide)
              refine s_bd2 (sf_D_emit 10 0 f22.2) (fun r12 h13 f29 => ?_)
              exact ih x8 (v3 + 1) h13 (fu_su hfu (i_inc f3 (k := 1) rfl (by decide)) (by decide)) (r_w f21.1 (by decide)) (r_w (r_add f3 (⟨by decide, by decide⟩ : R 1 1 (1 : Int32)) (by decide) : R 1 400 (v3 + 1)) (by decide)) f29.2
        ·
          refine s_if (fun c30 => ?_) (fun c30 => ?_)
          ·
            have f31 : R 0 0 r5 := r_eq (⟨by decide, by decide⟩ : R 0 0 (0 : Int32)) c30
            refine s_if (fun c32 => ?_) (fun c32 => ?_)
            ·
              have f33 : R (-1) (-1) v2 := r_eq (⟨by decide, by decide⟩ : R (-1) (-1) (-1 : Int32)) c32
              exact kj7 _ _ ⟨r_w (⟨by decide, by decide⟩ : R 11 11 (11 : Int32)) (by decide), f13⟩
            ·
              have f34 : R 0 11 v2 := r_ne_lo f_v2 (⟨by decide, by decide⟩ : R (-1) (-1) (-1 : Int32)) c32 (by decide)
              refine s_bd2 (sf_D_emit v2 0 f13) (fun r14 h15 f35 => ?_)
              exact kj7 _ _ ⟨r_w (⟨by decide, by decide⟩ : R 11 11 (11 : Int32)) (by decide), f35.2⟩
          ·
            have f36 : R 1 1 r5 := r_ne_lo f12 (⟨by decide, by decide⟩ : R 0 0 (0 : Int32)) c30 (by decide)
            exact kj7 _ _ ⟨r_w f_v2 (by decide), f13⟩
      ·
        refine s_if (fun c37 => ?_) (fun c37 => ?_)
        ·
          have f38 : R 0 0 r3 := r_eq (⟨by decide, by decide⟩ : R 0 0 (0 : Int32)) c37
          refine s_bd (sf_D_isWord 5 i_hv) (fun r16 f39 => ?_)
          refine s_if (fun c40 => ?_) (fun c40 => ?_)
          ·
            have f41 : R 0 0 r16 := r_eq (⟨by decide, by decide⟩ : R 0 0 (0 : Int32)) c40
            exact hk_k0 _ _ (r_w f_v2 (by decide)) (i_hv)
          ·
            have f42 : R 1 1 r16 := r_ne_lo f39 (⟨by decide, by decide⟩ : R 0 0 (0 : Int32)) c40 (by decide)
            exact kj4
        ·
          have f43 : R 1 1 r3 := r_ne_lo f4 (⟨by decide, by decide⟩ : R 0 0 (0 : Int32)) c37 (by decide)
          exact kj4
theorem sf_D_condition_F (f1 : Int32 → PH → Option (Int32 × PH)) (p1 : Int32) (h0 : PH) (hf_f1 : ∀ (h : PH), Inv h → Sf (f1 p1 h) (fun r => R 0 1 r.1 ∧ Inv r.2)) (i_h0 : Inv h0) : Sf (mD_condition_F f1 p1 h0) (fun r => R 0 1 r.1 ∧ Inv r.2) := by
  unfold mD_condition_F
  refine s_bd2 (hf_f1 _ i_h0) (fun r1 h2 f1 => ?_)
  refine s_if (fun c2 => ?_) (fun c2 => ?_)
  ·
    have f3 : R 0 0 r1 := r_eq (⟨by decide, by decide⟩ : R 0 0 (0 : Int32)) c2
    exact s_some ⟨r_w (⟨by decide, by decide⟩ : R 0 0 (0 : Int32)) (by decide), f1.2⟩
  ·
    have f4 : R 1 1 r1 := r_ne_lo f1.1 (⟨by decide, by decide⟩ : R 0 0 (0 : Int32)) c2 (by decide)
    refine sl_D_condition_L14 p1 _ _ (r_w (r_full p1) (by decide)) hf_f1 ?_ FU (-1) 0 h2 (fu_up (⟨by decide, by decide⟩ : R 0 0 (0 : Int32)) (by decide)) (r_w (⟨by decide, by decide⟩ : R (-1) (-1) (-1 : Int32)) (by decide)) (r_w (⟨by decide, by decide⟩ : R 0 0 (0 : Int32)) (by decide)) f1.2
    ·
      intro x17 h18 f5 f6
      refine s_if (fun c7 => ?_) (fun c7 => ?_)
      ·
        have f8 : R (-1) (-1) x17 := r_eq (⟨by decide, by decide⟩ : R (-1) (-1) (-1 : Int32)) c7
        exact s_some ⟨r_w (⟨by decide, by decide⟩ : R 1 1 (1 : Int32)) (by decide), f6⟩
      ·
        have f9 : R 0 11 x17 := r_ne_lo f5 (⟨by decide, by decide⟩ : R (-1) (-1) (-1 : Int32)) c7 (by decide)
        refine s_bd2 (sf_D_emit x17 0 f6) (fun r19 h20 f10 => ?_)
        refine s_if (fun c11 => ?_) (fun c11 => ?_)
        ·
          have f12 : R 0 0 r19 := r_eq (⟨by decide, by decide⟩ : R 0 0 (0 : Int32)) c11
          exact s_some ⟨r_w (⟨by decide, by decide⟩ : R 0 0 (0 : Int32)) (by decide), f10.2⟩
        ·
          have f13 : R 1 1 r19 := r_ne_lo f10.1 (⟨by decide, by decide⟩ : R 0 0 (0 : Int32)) c11 (by decide)
          exact s_some ⟨r_w (⟨by decide, by decide⟩ : R 1 1 (1 : Int32)) (by decide), f10.2⟩
theorem sf_D_clause_F (f0 : Int32 → PH → Option (Int32 × PH)) (f1 : Int32 → PH → Option (Int32 × PH)) (p1 : Int32) (h0 : PH) (hf_f0 : p1 < 8 → ∀ (h : PH), Inv h → Sf (f0 (p1 + 1) h) (fun r => R 0 1 r.1 ∧ Inv r.2)) (hf_f1 : p1 < 8 → ∀ (h : PH), Inv h → Sf (f1 (p1 + 1) h) (fun r => R 0 1 r.1 ∧ Inv r.2)) (i_h0 : Inv h0) : Sf (mD_clause_F f0 f1 p1 h0) (fun r => R 0 1 r.1 ∧ Inv r.2) := by
  unfold mD_clause_F
  refine s_bd (sf_D_isWord 6 i_h0) (fun r1 f1 => ?_)
  refine s_jn0 ?_ (fun j2 kj2 => ?_)
  ·
    refine s_if (fun c57 => ?_) (fun c57 => ?_)
    ·
      have f58 : R (-2147483648) 7 p1 := lt_hi (r_full p1) (⟨by decide, by decide⟩ : R 8 8 (8 : Int32)) c57 (by decide)
      refine s_bd (sf_D_advance i_h0) (fun h3 f59 => ?_)
      refine s_if (fun c60 => ?_) (fun c60 => ?_)
      ·
        have f61 : R 0 0 r1 := r_eq (⟨by decide, by decide⟩ : R 0 0 (0 : Int32)) c60
        refine s_bd2 (hf_f0 c57 _ f59) (fun r4 h5 f62 => ?_)
        refine s_if (fun c63 => ?_) (fun c63 => ?_)
        ·
          have f64 : R 0 0 r4 := r_eq (⟨by decide, by decide⟩ : R 0 0 (0 : Int32)) c63
          exact s_some ⟨r_w (⟨by decide, by decide⟩ : R 0 0 (0 : Int32)) (by decide), f62.2⟩
        ·
          have f65 : R 1 1 r4 := r_ne_lo f62.1 (⟨by decide, by decide⟩ : R 0 0 (0 : Int32)) c63 (by decide)
          refine s_bd2 (sf_D_takesSign 41 f62.2) (fun r6 h7 f66 => ?_)
          refine s_if (fun c67 => ?_) (fun c67 => ?_)
          ·
            have f68 : R 0 0 r6 := r_eq (⟨by decide, by decide⟩ : R 0 0 (0 : Int32)) c67
            exact s_some ⟨r_w (⟨by decide, by decide⟩ : R 0 0 (0 : Int32)) (by decide), f66.2⟩
          ·
            have f69 : R 1 1 r6 := r_ne_lo f66.1 (⟨by decide, by decide⟩ : R 0 0 (0 : Int32)) c67 (by decide)
            exact s_some ⟨r_w (⟨by decide, by decide⟩ : R 1 1 (1 : Int32)) (by decide), f66.2⟩
      ·
        have f70 : R 1 1 r1 := r_ne_lo f1 (⟨by decide, by decide⟩ : R 0 0 (0 : Int32)) c60 (by decide)
        refine s_bd2 (hf_f1 c57 _ f59) (fun r8 h9 f71 => ?_)
        refine s_if (fun c72 => ?_) (fun c72 => ?_)
        ·
          have f73 : R 0 0 r8 := r_eq (⟨by decide, by decide⟩ : R 0 0 (0 : Int32)) c72
          exact s_some ⟨r_w (⟨by decide, by decide⟩ : R 0 0 (0 : Int32)) (by decide), f71.2⟩
        ·
          have f74 : R 1 1 r8 := r_ne_lo f71.1 (⟨by decide, by decide⟩ : R 0 0 (0 : Int32)) c72 (by decide)
          refine s_bd2 (sf_D_emit 9 0 f71.2) (fun r10 h11 f75 => ?_)
          refine s_if (fun c76 => ?_) (fun c76 => ?_)
          ·
            have f77 : R 0 0 r10 := r_eq (⟨by decide, by decide⟩ : R 0 0 (0 : Int32)) c76
            exact s_some ⟨r_w (⟨by decide, by decide⟩ : R 0 0 (0 : Int32)) (by decide), f75.2⟩
          ·
            have f78 : R 1 1 r10 := r_ne_lo f75.1 (⟨by decide, by decide⟩ : R 0 0 (0 : Int32)) c76 (by decide)
            exact s_some ⟨r_w (⟨by decide, by decide⟩ : R 1 1 (1 : Int32)) (by decide), f75.2⟩
    ·
      have f79 : R 8 2147483647 p1 := le_lo (⟨by decide, by decide⟩ : R 8 8 (8 : Int32)) (r_full p1) (nlt_le c57)
      refine s_bd2 (sf_D_refuse 3 i_h0) (fun r12 h13 f80 => ?_)
      exact s_some ⟨r_w (r_nb r12) (by decide), f80.2⟩
  ·
    refine s_if (fun c81 => ?_) (fun c81 => ?_)
    ·
      have f82 : R 0 0 r1 := r_eq (⟨by decide, by decide⟩ : R 0 0 (0 : Int32)) c81
      refine s_bd (sf_D_isSign 40 i_h0) (fun r14 f83 => ?_)
      refine s_if (fun c84 => ?_) (fun c84 => ?_)
      ·
        have f85 : R 0 0 r14 := r_eq (⟨by decide, by decide⟩ : R 0 0 (0 : Int32)) c84
        refine s_bd2 (sf_D_expression i_h0) (fun r15 h16 f86 => ?_)
        refine s_if (fun c87 => ?_) (fun c87 => ?_)
        ·
          have f88 : R 0 0 r15 := r_eq (⟨by decide, by decide⟩ : R 0 0 (0 : Int32)) c87
          exact s_some ⟨r_w (⟨by decide, by decide⟩ : R 0 0 (0 : Int32)) (by decide), f86.2⟩
        ·
          have f89 : R 1 1 r15 := r_ne_lo f86.1 (⟨by decide, by decide⟩ : R 0 0 (0 : Int32)) c87 (by decide)
          refine s_lt (fun x17 e90 => ?_)
          refine s_bd (sf_D_isSign 60 f86.2) (fun r18 f91 => ?_)
          refine s_jn0 ?_ (fun j19 kj19 => ?_)
          ·
            refine s_bd (sf_D_advance f86.2) (fun h20 f104 => ?_)
            refine s_bd2 (sf_D_expression f104) (fun r21 h22 f105 => ?_)
            refine s_if (fun c106 => ?_) (fun c106 => ?_)
            ·
              have f107 : R 0 0 r21 := r_eq (⟨by decide, by decide⟩ : R 0 0 (0 : Int32)) c106
              exact s_some ⟨r_w (⟨by decide, by decide⟩ : R 0 0 (0 : Int32)) (by decide), f105.2⟩
            ·
              have f108 : R 1 1 r21 := r_ne_lo f105.1 (⟨by decide, by decide⟩ : R 0 0 (0 : Int32)) c106 (by decide)
              refine s_jn1 (P := fun (x24 : Int32) => R 6 8 x24) (fun x24 f113 => ?_) (fun j23 kj23 => ?_)
              ·
                refine s_bd2 (sf_D_emit x24 0 f105.2) (fun r25 h26 f114 => ?_)
                refine s_if (fun c115 => ?_) (fun c115 => ?_)
                ·
                  have f116 : R 0 0 r25 := r_eq (⟨by decide, by decide⟩ : R 0 0 (0 : Int32)) c115
                  exact s_some ⟨r_w (⟨by decide, by decide⟩ : R 0 0 (0 : Int32)) (by decide), f114.2⟩
                ·
                  have f117 : R 1 1 r25 := r_ne_lo f114.1 (⟨by decide, by decide⟩ : R 0 0 (0 : Int32)) c115 (by decide)
                  exact s_some ⟨r_w (⟨by decide, by decide⟩ : R 1 1 (1 : Int32)) (by decide), f114.2⟩
              ·
                refine s_if (fun c118 => ?_) (fun c118 => ?_)
                ·
                  have f119 : R 60 60 x17 := r_eq (⟨by decide, by decide⟩ : R 60 60 (60 : Int32)) c118
                  exact kj23 _ (r_w (⟨by decide, by decide⟩ : R 6 6 (6 : Int32)) (by decide))
                ·
                  refine s_if (fun c120 => ?_) (fun c120 => ?_)
                  ·
                    have f121 : R 61 61 x17 := r_eq (⟨by decide, by decide⟩ : R 61 61 (61 : Int32)) c120
                    exact kj23 _ (r_w (⟨by decide, by decide⟩ : R 7 7 (7 : Int32)) (by decide))
                  ·
                    exact kj23 _ (r_w (⟨by decide, by decide⟩ : R 8 8 (8 : Int32)) (by decide))
          ·
            refine s_if (fun c122 => ?_) (fun c122 => ?_)
            ·
              have f123 : R 0 0 r18 := r_eq (⟨by decide, by decide⟩ : R 0 0 (0 : Int32)) c122
              refine s_bd (sf_D_isSign 61 f86.2) (fun r27 f124 => ?_)
              refine s_if (fun c125 => ?_) (fun c125 => ?_)
              ·
                have f126 : R 0 0 r27 := r_eq (⟨by decide, by decide⟩ : R 0 0 (0 : Int32)) c125
                refine s_bd (sf_D_isSign 62 f86.2) (fun r28 f127 => ?_)
                refine s_if (fun c128 => ?_) (fun c128 => ?_)
                ·
                  have f129 : R 0 0 r28 := r_eq (⟨by decide, by decide⟩ : R 0 0 (0 : Int32)) c128
                  refine s_bd2 (sf_D_refuse 1 f86.2) (fun r29 h30 f130 => ?_)
                  exact s_some ⟨r_w (r_nb r29) (by decide), f130.2⟩
                ·
                  have f131 : R 1 1 r28 := r_ne_lo f127 (⟨by decide, by decide⟩ : R 0 0 (0 : Int32)) c128 (by decide)
                  exact kj19
              ·
                have f132 : R 1 1 r27 := r_ne_lo f124 (⟨by decide, by decide⟩ : R 0 0 (0 : Int32)) c125 (by decide)
                exact kj19
            ·
              have f133 : R 1 1 r18 := r_ne_lo f91 (⟨by decide, by decide⟩ : R 0 0 (0 : Int32)) c122 (by decide)
              exact kj19
      ·
        have f134 : R 1 1 r14 := r_ne_lo f83 (⟨by decide, by decide⟩ : R 0 0 (0 : Int32)) c84 (by decide)
        exact kj2
    ·
      have f135 : R 1 1 r1 := r_ne_lo f1 (⟨by decide, by decide⟩ : R 0 0 (0 : Int32)) c81 (by decide)
      exact kj2
theorem sf_D_skyLine {h0 : PH} (i_h0 : Inv h0) : Sf (mD_skyLine h0) (fun r => R 0 1 r.1 ∧ Inv r.2) := by
  unfold mD_skyLine
  refine s_bd (sf_D_advance i_h0) (fun h1 f1 => ?_)
  refine s_bd2 (sf_D_takesNumber 0 999 (r_w (⟨by decide, by decide⟩ : R 0 0 (0 : Int32)) (by decide)) (r_w (⟨by decide, by decide⟩ : R 999 999 (999 : Int32)) (by decide)) f1) (fun r2 h3 f2 => ?_)
  refine s_if (fun c3 => ?_) (fun c3 => ?_)
  ·
    have f4 : R 0 0 r2 := r_eq (⟨by decide, by decide⟩ : R 0 0 (0 : Int32)) c3
    exact s_some ⟨r_w (⟨by decide, by decide⟩ : R 0 0 (0 : Int32)) (by decide), f2.2⟩
  ·
    have f5 : R 1 1 r2 := r_ne_lo f2.1 (⟨by decide, by decide⟩ : R 0 0 (0 : Int32)) c3 (by decide)
    refine s_lt (fun x4 e6 => ?_)
    have f7 : R 0 9999 x4 := by rw [e6]; exact (inv_rng f2.2 rfl : R 0 9999 (h3 90 9))
    refine s_jn0 ?_ (fun j5 kj5 => ?_)
    ·
      refine s_bd2 (sf_D_refuse 1 f2.2) (fun r6 h7 f48 => ?_)
      exact s_some ⟨r_w (r_nb r6) (by decide), f48.2⟩
    ·
      refine s_if (fun c49 => ?_) (fun c49 => ?_)
      ·
        have f50 : R 1 1 (h3 90 6) := r_eq (⟨by decide, by decide⟩ : R 1 1 (1 : Int32)) c49
        refine s_win (fun r8 f52 c51 => ?_)
        refine s_if (fun c53 => ?_) (fun c53 => ?_)
        ·
          have f54 : R 0 0 r8 := r_eq (⟨by decide, by decide⟩ : R 0 0 (0 : Int32)) c53
          exact kj5
        ·
          have f55 : R 1 1 r8 := r_ne_lo f52 (⟨by decide, by decide⟩ : R 0 0 (0 : Int32)) c53 (by decide)
          have q56 := c51 c53
          have f57 : R 1 2147483647 (h3 90 7) := le_lo (⟨by decide, by decide⟩ : R 1 1 (1 : Int32)) (r_full (h3 90 7)) q56.1
          have f58 : R 1 3 (h3 90 7) := le_hi f57 (⟨by decide, by decide⟩ : R 3 3 (3 : Int32)) q56.2
          refine s_lt (fun x9 e59 => ?_)
          have f60 : R 1 3 x9 := by rw [e59]; exact f58
          refine s_bd (sf_D_advance f2.2) (fun h10 f61 => ?_)
          refine s_jn2 (P := fun (x12 : Int32) (h13 : PH) => R 0 9999 x12 ∧ Inv h13) (fun x12 h13 f71 => ?_) (fun j11 kj11 => ?_)
          ·
            refine s_bd2 (sf_D_takesSign 59 f71.2) (fun r14 h15 f72 => ?_)
            refine s_if (fun c73 => ?_) (fun c73 => ?_)
            ·
              have f74 : R 0 0 r14 := r_eq (⟨by decide, by decide⟩ : R 0 0 (0 : Int32)) c73
              exact s_some ⟨r_w (⟨by decide, by decide⟩ : R 0 0 (0 : Int32)) (by decide), f72.2⟩
            ·
              have f75 : R 1 1 r14 := r_ne_lo f72.1 (⟨by decide, by decide⟩ : R 0 0 (0 : Int32)) c73 (by decide)
              refine s_bd2 (sf_R_add_91 x4 x9 x12 0 0 (r_w f60 (by decide)) (r_w f71.1 (by decide)) (r_w (⟨by decide, by decide⟩ : R 0 0 (0 : Int32)) (by decide)) f72.2) (fun r16 h17 f76 => ?_)
              refine s_if (fun c77 => ?_) (fun c77 => ?_)
              ·
                have f78 : R 0 0 r16 := r_eq (⟨by decide, by decide⟩ : R 0 0 (0 : Int32)) c77
                exact s_some ⟨r_w (⟨by decide, by decide⟩ : R 0 0 (0 : Int32)) (by decide), f76.2⟩
              ·
                have f79 : R 1 1 r16 := r_ne_lo f76.1 (⟨by decide, by decide⟩ : R 0 0 (0 : Int32)) c77 (by decide)
                exact s_some ⟨r_w (⟨by decide, by decide⟩ : R 1 1 (1 : Int32)) (by decide), f76.2⟩
          ·
            refine s_if (fun c80 => ?_) (fun c80 => ?_)
            ·
              have f81 : R 1 1 x9 := r_eq (⟨by decide, by decide⟩ : R 1 1 (1 : Int32)) c80
              refine s_bd2 (sf_D_takesNumber 0 9 (r_w (⟨by decide, by decide⟩ : R 0 0 (0 : Int32)) (by decide)) (r_w (⟨by decide, by decide⟩ : R 9 9 (9 : Int32)) (by decide)) f61) (fun r18 h19 f82 => ?_)
              refine s_if (fun c83 => ?_) (fun c83 => ?_)
              ·
                have f84 : R 0 0 r18 := r_eq (⟨by decide, by decide⟩ : R 0 0 (0 : Int32)) c83
                exact s_some ⟨r_w (⟨by decide, by decide⟩ : R 0 0 (0 : Int32)) (by decide), f82.2⟩
              ·
                have f85 : R 1 1 r18 := r_ne_lo f82.1 (⟨by decide, by decide⟩ : R 0 0 (0 : Int32)) c83 (by decide)
                refine s_lt (fun x20 e86 => ?_)
                have f87 : R 0 9999 x20 := by rw [e86]; exact (inv_rng f82.2 rfl : R 0 9999 (h19 90 9))
                exact kj11 _ _ ⟨r_w f87 (by decide), f82.2⟩
            ·
              have f88 : R 2 3 x9 := r_ne_lo f60 (⟨by decide, by decide⟩ : R 1 1 (1 : Int32)) c80 (by decide)
              exact kj11 _ _ ⟨r_w (⟨by decide, by decide⟩ : R 0 0 (0 : Int32)) (by decide), f61⟩
      ·
        exact kj5
theorem sf_D_officeLine {h0 : PH} (i_h0 : Inv h0) : Sf (mD_officeLine h0) (fun r => R 0 1 r.1 ∧ Inv r.2) := by
  unfold mD_officeLine
  refine s_bd (sf_D_advance i_h0) (fun h1 f1 => ?_)
  refine s_bd2 (sf_D_takesNumber 0 999 (r_w (⟨by decide, by decide⟩ : R 0 0 (0 : Int32)) (by decide)) (r_w (⟨by decide, by decide⟩ : R 999 999 (999 : Int32)) (by decide)) f1) (fun r2 h3 f2 => ?_)
  refine s_if (fun c3 => ?_) (fun c3 => ?_)
  ·
    have f4 : R 0 0 r2 := r_eq (⟨by decide, by decide⟩ : R 0 0 (0 : Int32)) c3
    exact s_some ⟨r_w (⟨by decide, by decide⟩ : R 0 0 (0 : Int32)) (by decide), f2.2⟩
  ·
    have f5 : R 1 1 r2 := r_ne_lo f2.1 (⟨by decide, by decide⟩ : R 0 0 (0 : Int32)) c3 (by decide)
    refine s_lt (fun x4 e6 => ?_)
    have f7 : R 0 9999 x4 := by rw [e6]; exact (inv_rng f2.2 rfl : R 0 9999 (h3 90 9))
    refine s_jn0 ?_ (fun j5 kj5 => ?_)
    ·
      refine s_bd2 (sf_D_refuse 1 f2.2) (fun r6 h7 f89 => ?_)
      exact s_some ⟨r_w (r_nb r6) (by decide), f89.2⟩
    ·
      refine s_if (fun c90 => ?_) (fun c90 => ?_)
      ·
        have f91 : R 1 1 (h3 90 6) := r_eq (⟨by decide, by decide⟩ : R 1 1 (1 : Int32)) c90
        refine s_win (fun r8 f93 c92 => ?_)
        refine s_if (fun c94 => ?_) (fun c94 => ?_)
        ·
          have f95 : R 0 0 r8 := r_eq (⟨by decide, by decide⟩ : R 0 0 (0 : Int32)) c94
          exact kj5
        ·
          have f96 : R 1 1 r8 := r_ne_lo f93 (⟨by decide, by decide⟩ : R 0 0 (0 : Int32)) c94 (by decide)
          have q97 := c92 c94
          have f98 : R 1 2147483647 (h3 90 7) := le_lo (⟨by decide, by decide⟩ : R 1 1 (1 : Int32)) (r_full (h3 90 7)) q97.1
          have f99 : R 1 4 (h3 90 7) := le_hi f98 (⟨by decide, by decide⟩ : R 4 4 (4 : Int32)) q97.2
          refine s_lt (fun x9 e100 => ?_)
          have f101 : R 1 4 x9 := by rw [e100]; exact f99
          refine s_bd (sf_D_advance f2.2) (fun h10 f102 => ?_)
          refine s_bd2 (sf_D_takesNumber 0 ((h10 90 8) - 1) (r_w (⟨by decide, by decide⟩ : R 0 0 (0 : Int32)) (by decide)) (r_w (r_sub (inv_rng f102 rfl : R 0 12 (h10 90 8)) (⟨by decide, by decide⟩ : R 1 1 (1 : Int32)) (by decide) : R (-1) 11 ((h10 90 8) - 1)) (by decide)) f102) (fun r11 h12 f103 => ?_)
          refine s_if (fun c104 => ?_) (fun c104 => ?_)
          ·
            have f105 : R 0 0 r11 := r_eq (⟨by decide, by decide⟩ : R 0 0 (0 : Int32)) c104
            exact s_some ⟨r_w (⟨by decide, by decide⟩ : R 0 0 (0 : Int32)) (by decide), f103.2⟩
          ·
            have f106 : R 1 1 r11 := r_ne_lo f103.1 (⟨by decide, by decide⟩ : R 0 0 (0 : Int32)) c104 (by decide)
            refine s_lt (fun x13 e107 => ?_)
            have f108 : R 0 9999 x13 := by rw [e107]; exact (inv_rng f103.2 rfl : R 0 9999 (h12 90 9))
            refine s_jn2 (P := fun (x15 : Int32) (h16 : PH) => R 0 9999 x15 ∧ Inv h16) (fun x15 h16 f117 => ?_) (fun j14 kj14 => ?_)
            ·
              refine s_jn2 (P := fun (x18 : Int32) (h19 : PH) => R 0 9999 x18 ∧ Inv h19) (fun x18 h19 f136 => ?_) (fun j17 kj17 => ?_)
              ·
                refine s_bd2 (sf_D_takesSign 59 f136.2) (fun r20 h21 f137 => ?_)
                refine s_if (fun c138 => ?_) (fun c138 => ?_)
                ·
                  have f139 : R 0 0 r20 := r_eq (⟨by decide, by decide⟩ : R 0 0 (0 : Int32)) c138
                  exact s_some ⟨r_w (⟨by decide, by decide⟩ : R 0 0 (0 : Int32)) (by decide), f137.2⟩
                ·
                  have f140 : R 1 1 r20 := r_ne_lo f137.1 (⟨by decide, by decide⟩ : R 0 0 (0 : Int32)) c138 (by decide)
                  refine s_bd2 (sf_R_add_91 x4 x9 x13 x15 x18 (r_w f101 (by decide)) (r_w f108 (by decide)) (r_w f117.1 (by decide)) f137.2) (fun r22 h23 f141 => ?_)
                  refine s_if (fun c142 => ?_) (fun c142 => ?_)
                  ·
                    have f143 : R 0 0 r22 := r_eq (⟨by decide, by decide⟩ : R 0 0 (0 : Int32)) c142
                    exact s_some ⟨r_w (⟨by decide, by decide⟩ : R 0 0 (0 : Int32)) (by decide), f141.2⟩
                  ·
                    have f144 : R 1 1 r22 := r_ne_lo f141.1 (⟨by decide, by decide⟩ : R 0 0 (0 : Int32)) c142 (by decide)
                    exact s_some ⟨r_w (⟨by decide, by decide⟩ : R 1 1 (1 : Int32)) (by decide), f141.2⟩
              ·
                refine s_jn0 ?_ (fun j24 kj24 => ?_)
                ·
                  refine s_bd2 (sf_D_takesNumber 1 99 (r_w (⟨by decide, by decide⟩ : R 1 1 (1 : Int32)) (by decide)) (r_w (⟨by decide, by decide⟩ : R 99 99 (99 : Int32)) (by decide)) f117.2) (fun r25 h26 f151 => ?_)
                  refine s_if (fun c152 => ?_) (fun c152 => ?_)
                  ·
                    have f153 : R 0 0 r25 := r_eq (⟨by decide, by decide⟩ : R 0 0 (0 : Int32)) c152
                    exact s_some ⟨r_w (⟨by decide, by decide⟩ : R 0 0 (0 : Int32)) (by decide), f151.2⟩
                  ·
                    have f154 : R 1 1 r25 := r_ne_lo f151.1 (⟨by decide, by decide⟩ : R 0 0 (0 : Int32)) c152 (by decide)
                    refine s_lt (fun x27 e155 => ?_)
                    have f156 : R 0 9999 x27 := by rw [e155]; exact (inv_rng f151.2 rfl : R 0 9999 (h26 90 9))
                    exact kj17 _ _ ⟨r_w f156 (by decide), f151.2⟩
                ·
                  refine s_if (fun c157 => ?_) (fun c157 => ?_)
                  ·
                    have f158 : R 1 1 x9 := r_eq (⟨by decide, by decide⟩ : R 1 1 (1 : Int32)) c157
                    exact kj24
                  ·
                    have f159 : R 2 4 x9 := r_ne_lo f101 (⟨by decide, by decide⟩ : R 1 1 (1 : Int32)) c157 (by decide)
                    refine s_if (fun c160 => ?_) (fun c160 => ?_)
                    ·
                      have f161 : R 2 2 x9 := r_eq (⟨by decide, by decide⟩ : R 2 2 (2 : Int32)) c160
                      exact kj24
                    ·
                      have f162 : R 3 4 x9 := r_ne_lo f159 (⟨by decide, by decide⟩ : R 2 2 (2 : Int32)) c160 (by decide)
                      exact kj17 _ _ ⟨r_w (⟨by decide, by decide⟩ : R 0 0 (0 : Int32)) (by decide), f117.2⟩
            ·
              refine s_if (fun c163 => ?_) (fun c163 => ?_)
              ·
                have f164 : R 2 2 x9 := r_eq (⟨by decide, by decide⟩ : R 2 2 (2 : Int32)) c163
                refine s_bd2 (sf_D_takesNumber 0 3 (r_w (⟨by decide, by decide⟩ : R 0 0 (0 : Int32)) (by decide)) (r_w (⟨by decide, by decide⟩ : R 3 3 (3 : Int32)) (by decide)) f103.2) (fun r28 h29 f165 => ?_)
                refine s_if (fun c166 => ?_) (fun c166 => ?_)
                ·
                  have f167 : R 0 0 r28 := r_eq (⟨by decide, by decide⟩ : R 0 0 (0 : Int32)) c166
                  exact s_some ⟨r_w (⟨by decide, by decide⟩ : R 0 0 (0 : Int32)) (by decide), f165.2⟩
                ·
                  have f168 : R 1 1 r28 := r_ne_lo f165.1 (⟨by decide, by decide⟩ : R 0 0 (0 : Int32)) c166 (by decide)
                  refine s_lt (fun x30 e169 => ?_)
                  have f170 : R 0 9999 x30 := by rw [e169]; exact (inv_rng f165.2 rfl : R 0 9999 (h29 90 9))
                  exact kj14 _ _ ⟨r_w f170 (by decide), f165.2⟩
              ·
                exact kj14 _ _ ⟨r_w (⟨by decide, by decide⟩ : R 0 0 (0 : Int32)) (by decide), f103.2⟩
      ·
        exact kj5
theorem sf_D_nextLine {h0 : PH} (i_h0 : Inv h0) : Sf (mD_nextLine h0) (fun r => R 0 1 r.1 ∧ Inv r.2) := by
  unfold mD_nextLine
  refine s_bd (sf_D_advance i_h0) (fun h1 f1 => ?_)
  refine s_bd2 (sf_D_takesNumber 0 ((h1 90 8) - 1) (r_w (⟨by decide, by decide⟩ : R 0 0 (0 : Int32)) (by decide)) (r_w (r_sub (inv_rng f1 rfl : R 0 12 (h1 90 8)) (⟨by decide, by decide⟩ : R 1 1 (1 : Int32)) (by decide) : R (-1) 11 ((h1 90 8) - 1)) (by decide)) f1) (fun r2 h3 f2 => ?_)
  refine s_if (fun c3 => ?_) (fun c3 => ?_)
  ·
    have f4 : R 0 0 r2 := r_eq (⟨by decide, by decide⟩ : R 0 0 (0 : Int32)) c3
    exact s_some ⟨r_w (⟨by decide, by decide⟩ : R 0 0 (0 : Int32)) (by decide), f2.2⟩
  ·
    have f5 : R 1 1 r2 := r_ne_lo f2.1 (⟨by decide, by decide⟩ : R 0 0 (0 : Int32)) c3 (by decide)
    refine s_lt (fun x4 e6 => ?_)
    have f7 : R 0 9999 x4 := by rw [e6]; exact (inv_rng f2.2 rfl : R 0 9999 (h3 90 9))
    refine s_bd (sf_D_isWord 1 f2.2) (fun r5 f8 => ?_)
    refine s_if (fun c9 => ?_) (fun c9 => ?_)
    ·
      have f10 : R 0 0 r5 := r_eq (⟨by decide, by decide⟩ : R 0 0 (0 : Int32)) c9
      refine s_bd2 (sf_D_refuse 1 f2.2) (fun r6 h7 f11 => ?_)
      exact s_some ⟨r_w (r_nb r6) (by decide), f11.2⟩
    ·
      have f12 : R 1 1 r5 := r_ne_lo f8 (⟨by decide, by decide⟩ : R 0 0 (0 : Int32)) c9 (by decide)
      refine s_bd (sf_D_advance f2.2) (fun h8 f13 => ?_)
      refine s_jn0 ?_ (fun j9 kj9 => ?_)
      ·
        refine s_bd2 (sf_D_takesNumber 0 ((h8 90 8) - 1) (r_w (⟨by decide, by decide⟩ : R 0 0 (0 : Int32)) (by decide)) (r_w (r_sub (inv_rng f13 rfl : R 0 12 (h8 90 8)) (⟨by decide, by decide⟩ : R 1 1 (1 : Int32)) (by decide) : R (-1) 11 ((h8 90 8) - 1)) (by decide)) f13) (fun r10 h11 f19 => ?_)
        refine s_if (fun c20 => ?_) (fun c20 => ?_)
        ·
          have f21 : R 0 0 r10 := r_eq (⟨by decide, by decide⟩ : R 0 0 (0 : Int32)) c20
          exact s_some ⟨r_w (⟨by decide, by decide⟩ : R 0 0 (0 : Int32)) (by decide), f19.2⟩
        ·
          have f22 : R 1 1 r10 := r_ne_lo f19.1 (⟨by decide, by decide⟩ : R 0 0 (0 : Int32)) c20 (by decide)
          refine s_bd2 (sf_D_takesSign 59 f19.2) (fun r12 h13 f23 => ?_)
          refine s_if (fun c24 => ?_) (fun c24 => ?_)
          ·
            have f25 : R 0 0 r12 := r_eq (⟨by decide, by decide⟩ : R 0 0 (0 : Int32)) c24
            exact s_some ⟨r_w (⟨by decide, by decide⟩ : R 0 0 (0 : Int32)) (by decide), f23.2⟩
          ·
            have f26 : R 1 1 r12 := r_ne_lo f23.1 (⟨by decide, by decide⟩ : R 0 0 (0 : Int32)) c24 (by decide)
            refine s_bd2 (sf_R_add_91 x4 (h13 90 9) 0 0 0 (r_w (inv_rng f23.2 rfl : R 0 9999 (h13 90 9)) (by decide)) (r_w (⟨by decide, by decide⟩ : R 0 0 (0 : Int32)) (by decide)) (r_w (⟨by decide, by decide⟩ : R 0 0 (0 : Int32)) (by decide)) f23.2) (fun r14 h15 f27 => ?_)
            refine s_if (fun c28 => ?_) (fun c28 => ?_)
            ·
              have f29 : R 0 0 r14 := r_eq (⟨by decide, by decide⟩ : R 0 0 (0 : Int32)) c28
              exact s_some ⟨r_w (⟨by decide, by decide⟩ : R 0 0 (0 : Int32)) (by decide), f27.2⟩
            ·
              have f30 : R 1 1 r14 := r_ne_lo f27.1 (⟨by decide, by decide⟩ : R 0 0 (0 : Int32)) c28 (by decide)
              exact s_some ⟨r_w (⟨by decide, by decide⟩ : R 1 1 (1 : Int32)) (by decide), f27.2⟩
      ·
        refine s_if (fun c31 => ?_) (fun c31 => ?_)
        ·
          have f32 : R 2 2 (h8 90 6) := r_eq (⟨by decide, by decide⟩ : R 2 2 (2 : Int32)) c31
          refine s_if (fun c33 => ?_) (fun c33 => ?_)
          ·
            have f34 : R 0 9999 (h8 90 7) := r_eq f7 c33
            refine s_bd2 (sf_D_refuse 2 f13) (fun r16 h17 f35 => ?_)
            exact s_some ⟨r_w (r_nb r16) (by decide), f35.2⟩
          ·
            exact kj9
        ·
          exact kj9
theorem sf_X_state (p1 : Int32) {h0 : PH} (i_h0 : Inv h0) : Sf (mX_state p1 h0) (fun r => R (-2147483648) 2147483647 r.1 ∧ Inv r.2) := by
  unfold mX_state
  refine s_lt (fun x1 e1 => ?_)
  refine s_lt (fun h2 e2 => ?_)
  have i3 : Inv h2 := by rw [e2]; exact inv_put i_h0 rfl (r_w (r_full p1) (by decide))
  refine s_forget (fun h3 e4 => ?_)
  have i5 : Inv h3 := by rw [e4]; exact inv_put i3 rfl (show R 0 6 (0 : Int32) from ⟨by decide, by decide⟩)
  exact s_some ⟨r_w (r_full x1) (by decide), i5⟩
theorem sf_X_house (p1 : Int32) (p2 : Int32) (p3 : Int32) {h0 : PH} (i_h0 : Inv h0) : Sf (mX_house p1 p2 p3 h0) (fun r => R (-1) 11 r.1 ∧ Inv r.2) := by
  unfold mX_house
  refine s_win (fun r1 f2 c1 => ?_)
  refine s_jn1 (P := fun (x3 : Int32) => R 0 1 x3) (fun x3 f25 => ?_) (fun j2 kj2 => ?_)
  ·
    refine s_if (fun c26 => ?_) (fun c26 => ?_)
    ·
      have f27 : R 0 0 x3 := r_eq (⟨by decide, by decide⟩ : R 0 0 (0 : Int32)) c26
      exact s_some ⟨r_w (⟨by decide, by decide⟩ : R (-1) (-1) (-1 : Int32)) (by decide), i_h0⟩
    ·
      have f28 : R 1 1 x3 := r_ne_lo f25 (⟨by decide, by decide⟩ : R 0 0 (0 : Int32)) c26 (by decide)
      refine s_if (fun c29 => ?_) (fun c29 => ?_)
      ·
        have f30 : R 0 11 (h0 1 1) := lt_hi (inv_rng i_h0 rfl : R 0 12 (h0 1 1)) (⟨by decide, by decide⟩ : R 12 12 (12 : Int32)) c29 (by decide)
        refine s_forget (fun h4 e31 => ?_)
        have i32 : Inv h4 := by rw [e31]; exact inv_put i_h0 rfl (show R 0 6 (0 : Int32) from ⟨by decide, by decide⟩)
        have f33 : R 0 11 (h4 1 1) := by rw [e31, up_oc (by decide)]; exact f30
        refine s_bd2 (sf_B_build (1) p1 p2 p3 ⟨rfl, rfl⟩ i32 (r_w f33 (by decide))) (fun r5 h6 f34 => ?_)
        exact s_some ⟨r_w f34.1 (by decide), f34.2⟩
      ·
        have f35 : R 12 12 (h0 1 1) := le_lo (⟨by decide, by decide⟩ : R 12 12 (12 : Int32)) (inv_rng i_h0 rfl : R 0 12 (h0 1 1)) (nlt_le c29)
        exact s_some ⟨r_w (⟨by decide, by decide⟩ : R (-1) (-1) (-1 : Int32)) (by decide), i_h0⟩
  ·
    refine s_if (fun c36 => ?_) (fun c36 => ?_)
    ·
      have f37 : R 0 0 r1 := r_eq (⟨by decide, by decide⟩ : R 0 0 (0 : Int32)) c36
      exact kj2 _ (r_w (⟨by decide, by decide⟩ : R 0 0 (0 : Int32)) (by decide))
    ·
      have f38 : R 1 1 r1 := r_ne_lo f2 (⟨by decide, by decide⟩ : R 0 0 (0 : Int32)) c36 (by decide)
      have q39 := c1 c36
      have f40 : R 0 2147483647 p1 := le_lo (⟨by decide, by decide⟩ : R 0 0 (0 : Int32)) (r_full p1) q39.1
      have f41 : R 0 99 p1 := le_hi f40 (⟨by decide, by decide⟩ : R 99 99 (99 : Int32)) q39.2
      refine s_win (fun r7 f43 c42 => ?_)
      refine s_if (fun c44 => ?_) (fun c44 => ?_)
      ·
        have f45 : R 0 0 r7 := r_eq (⟨by decide, by decide⟩ : R 0 0 (0 : Int32)) c44
        exact kj2 _ (r_w (⟨by decide, by decide⟩ : R 0 0 (0 : Int32)) (by decide))
      ·
        have f46 : R 1 1 r7 := r_ne_lo f43 (⟨by decide, by decide⟩ : R 0 0 (0 : Int32)) c44 (by decide)
        have q47 := c42 c44
        have f48 : R 0 2147483647 p2 := le_lo (⟨by decide, by decide⟩ : R 0 0 (0 : Int32)) (r_full p2) q47.1
        have f49 : R 0 9 p2 := le_hi f48 (⟨by decide, by decide⟩ : R 9 9 (9 : Int32)) q47.2
        refine s_win (fun r8 f51 c50 => ?_)
        refine s_if (fun c52 => ?_) (fun c52 => ?_)
        ·
          have f53 : R 0 0 r8 := r_eq (⟨by decide, by decide⟩ : R 0 0 (0 : Int32)) c52
          exact kj2 _ (r_w (⟨by decide, by decide⟩ : R 0 0 (0 : Int32)) (by decide))
        ·
          have f54 : R 1 1 r8 := r_ne_lo f51 (⟨by decide, by decide⟩ : R 0 0 (0 : Int32)) c52 (by decide)
          have q55 := c50 c52
          have f56 : R 0 2147483647 p3 := le_lo (⟨by decide, by decide⟩ : R 0 0 (0 : Int32)) (r_full p3) q55.1
          have f57 : R 0 9 p3 := le_hi f56 (⟨by decide, by decide⟩ : R 9 9 (9 : Int32)) q55.2
          exact kj2 _ (r_w (⟨by decide, by decide⟩ : R 1 1 (1 : Int32)) (by decide))
theorem sf_X_mostToSet (p0 : Int32) {h0 : PH} (i_h0 : Inv h0) : Sf (mX_mostToSet p0 h0) (fun r => R 9 99 r) := by
  unfold mX_mostToSet
  refine s_if (fun c1 => ?_) (fun c1 => ?_)
  ·
    have f2 : R (-2147483648) 3 p0 := lt_hi (r_full p0) (⟨by decide, by decide⟩ : R 4 4 (4 : Int32)) c1 (by decide)
    exact s_some (r_w (⟨by decide, by decide⟩ : R 99 99 (99 : Int32)) (by decide))
  ·
    have f3 : R 4 2147483647 p0 := le_lo (⟨by decide, by decide⟩ : R 4 4 (4 : Int32)) (r_full p0) (nlt_le c1)
    refine s_if (fun c4 => ?_) (fun c4 => ?_)
    ·
      have f5 : R 7 7 p0 := r_eq (⟨by decide, by decide⟩ : R 7 7 (7 : Int32)) c4
      exact s_some (r_w (⟨by decide, by decide⟩ : R 99 99 (99 : Int32)) (by decide))
    ·
      exact s_some (r_w (⟨by decide, by decide⟩ : R 9 9 (9 : Int32)) (by decide))
theorem sf_X_set (p1 : Int32) (p2 : Int32) (p3 : Int32) {h0 : PH} (i_h0 : Inv h0) : Sf (mX_set p1 p2 p3 h0) (fun r => R 0 1 r.1 ∧ Inv r.2) := by
  unfold mX_set
  refine s_jn1 (P := fun (h2 : PH) => Inv h2) (fun h2 f37 => ?_) (fun j1 kj1 => ?_)
  ·
    refine s_forget (fun h3 e38 => ?_)
    have i39 : Inv h3 := by rw [e38]; exact inv_put f37 rfl (show R 0 6 (0 : Int32) from ⟨by decide, by decide⟩)
    exact s_some ⟨r_w (⟨by decide, by decide⟩ : R 1 1 (1 : Int32)) (by decide), i39⟩
  ·
    refine s_if (fun c40 => ?_) (fun c40 => ?_)
    ·
      have f41 : R 8 8 p1 := r_eq (⟨by decide, by decide⟩ : R 8 8 (8 : Int32)) c40
      refine s_win (fun r4 f43 c42 => ?_)
      refine s_if (fun c44 => ?_) (fun c44 => ?_)
      ·
        have f45 : R 0 0 r4 := r_eq (⟨by decide, by decide⟩ : R 0 0 (0 : Int32)) c44
        exact s_some ⟨r_w (⟨by decide, by decide⟩ : R 0 0 (0 : Int32)) (by decide), i_h0⟩
      ·
        have f46 : R 1 1 r4 := r_ne_lo f43 (⟨by decide, by decide⟩ : R 0 0 (0 : Int32)) c44 (by decide)
        have q47 := c42 c44
        have f48 : R 0 2147483647 p3 := le_lo (⟨by decide, by decide⟩ : R 0 0 (0 : Int32)) (r_full p3) q47.1
        have f49 : R 0 9 p3 := le_hi f48 (⟨by decide, by decide⟩ : R 9 9 (9 : Int32)) q47.2
        refine s_lt (fun h5 e50 => ?_)
        have i51 : Inv h5 := by rw [e50]; exact inv_put i_h0 rfl (r_w f49 (by decide))
        exact kj1 _ (i51)
    ·
      refine s_win (fun r6 f53 c52 => ?_)
      refine s_if (fun c54 => ?_) (fun c54 => ?_)
      ·
        have f55 : R 0 0 r6 := r_eq (⟨by decide, by decide⟩ : R 0 0 (0 : Int32)) c54
        exact s_some ⟨r_w (⟨by decide, by decide⟩ : R 0 0 (0 : Int32)) (by decide), i_h0⟩
      ·
        have f56 : R 1 1 r6 := r_ne_lo f53 (⟨by decide, by decide⟩ : R 0 0 (0 : Int32)) c54 (by decide)
        have q57 := c52 c54
        have f58 : R 0 2147483647 p1 := le_lo (⟨by decide, by decide⟩ : R 0 0 (0 : Int32)) (r_full p1) q57.1
        have f59 : R 0 7 p1 := le_hi f58 (⟨by decide, by decide⟩ : R 7 7 (7 : Int32)) q57.2
        refine s_has ⟨rfl, rfl⟩ i_h0 (fun r7 f61 c60 => ?_)
        refine s_if (fun c62 => ?_) (fun c62 => ?_)
        ·
          have f63 : R 0 0 r7 := r_eq (⟨by decide, by decide⟩ : R 0 0 (0 : Int32)) c62
          exact s_some ⟨r_w (⟨by decide, by decide⟩ : R 0 0 (0 : Int32)) (by decide), i_h0⟩
        ·
          have f64 : R 1 1 r7 := r_ne_lo f61 (⟨by decide, by decide⟩ : R 0 0 (0 : Int32)) c62 (by decide)
          have f65 : R 0 11 p2 := c60 c62
          refine s_bd (sf_X_mostToSet p1 i_h0) (fun r8 f66 => ?_)
          refine s_win (fun r9 f68 c67 => ?_)
          refine s_if (fun c69 => ?_) (fun c69 => ?_)
          ·
            have f70 : R 0 0 r9 := r_eq (⟨by decide, by decide⟩ : R 0 0 (0 : Int32)) c69
            exact s_some ⟨r_w (⟨by decide, by decide⟩ : R 0 0 (0 : Int32)) (by decide), i_h0⟩
          ·
            have f71 : R 1 1 r9 := r_ne_lo f68 (⟨by decide, by decide⟩ : R 0 0 (0 : Int32)) c69 (by decide)
            have q72 := c67 c69
            have f73 : R 0 2147483647 p3 := le_lo (⟨by decide, by decide⟩ : R 0 0 (0 : Int32)) (r_full p3) q72.1
            have f74 : R 0 99 p3 := le_hi f73 f66 q72.2
            refine s_bd (sf_B_write (1) p2 p1 p3 ⟨rfl, rfl⟩ i_h0) (fun h10 f75 => ?_)
            exact kj1 _ (f75)
theorem sf_X_act (p1 : Int32) (p2 : Int32) (p3 : Int32) {h0 : PH} (i_h0 : Inv h0) : Sf (mX_act p1 p2 p3 h0) (fun r => R 0 1 r.1 ∧ Inv r.2) := by
  unfold mX_act
  refine s_bd (sf_S_mayAct (68) p1 p2 p3 ⟨rfl, rfl⟩ i_h0) (fun r1 f1 => ?_)
  refine s_if (fun c2 => ?_) (fun c2 => ?_)
  ·
    have f3 : R 0 0 r1 := r_eq (⟨by decide, by decide⟩ : R 0 0 (0 : Int32)) c2
    exact s_some ⟨r_w (⟨by decide, by decide⟩ : R 0 0 (0 : Int32)) (by decide), i_h0⟩
  ·
    have f4 : R 1 1 r1 := r_ne_lo f1 (⟨by decide, by decide⟩ : R 0 0 (0 : Int32)) c2 (by decide)
    refine s_bd (sf_P_keep (1) (h0 16 3) (r_w (inv_rng i_h0 rfl : R 0 150 (h0 16 3)) (by decide)) ⟨rfl, rfl⟩ i_h0) (fun h2 f5 => ?_)
    refine s_bd (sf_S_actByHand (68) p1 p2 p3 ⟨rfl, rfl⟩ f5) (fun h3 f6 => ?_)
    exact s_some ⟨r_w (⟨by decide, by decide⟩ : R 1 1 (1 : Int32)) (by decide), f6⟩
theorem sl_X_quarters_L31 (p1 : Int32) (f_p1 : R 1 60 p1) : ∀ (n : Nat) (v2 : Int32) (v3 : Int32) (hv : PH), 60 - v3.toInt < (n : Int) → R (-2147483648) 2147483647 v2 → R 0 60 v3 → Inv hv → Sf (mX_quarters_L31 p1 n v2 v3 hv) (fun r => R (-2147483648) 2147483647 r.1 ∧ Inv r.2) := by
  intro n
  induction n with
  | zero =>
    intro v2 v3 hv hfu f_v2 f_v3 i_hv
    have := f_v3.2
    omega
  | succ n ih =>
    intro v2 v3 hv hfu f_v2 f_v3 i_hv
    rw [mX_quarters_L31]
    refine s_if (fun c1 => ?_) (fun c1 => ?_)
    ·
      have f2 : R 1 60 v3 := le_lo f_p1 f_v3 c1
      exact s_some ⟨r_w f_v2 (by decide), i_hv⟩
    ·
      have f3 : R 0 59 v3 := lt_hi f_v3 f_p1 (nle_lt c1) (by decide)
      refine s_bd (sf_P_keep (1) (hv 16 3) (r_w (inv_rng i_hv rfl : R 0 150 (hv 16 3)) (by decide)) ⟨rfl, rfl⟩ i_hv) (fun h2 f4 => ?_)
      refine s_bd2 (sf_S_pass (68) ⟨rfl, rfl⟩ f4) (fun r3 h4 f5 => ?_)
      refine s_lt (fun x5 e6 => ?_)
      exact ih x5 (v3 + 1) h4 (fu_su hfu (i_inc f3 (k := 1) rfl (by decide)) (by decide)) (r_w (r_full x5) (by decide)) (r_w (r_add f3 (⟨by decide, by decide⟩ : R 1 1 (1 : Int32)) (by decide) : R 1 60 (v3 + 1)) (by decide)) f5.2
theorem sf_X_quarters (p1 : Int32) {h0 : PH} (i_h0 : Inv h0) : Sf (mX_quarters p1 h0) (fun r => R (-2147483648) 2147483647 r.1 ∧ Inv r.2) := by
  unfold mX_quarters
  refine s_win (fun r1 f2 c1 => ?_)
  refine s_if (fun c3 => ?_) (fun c3 => ?_)
  ·
    have f4 : R 0 0 r1 := r_eq (⟨by decide, by decide⟩ : R 0 0 (0 : Int32)) c3
    exact s_some ⟨r_w (⟨by decide, by decide⟩ : R (-1) (-1) (-1 : Int32)) (by decide), i_h0⟩
  ·
    have f5 : R 1 1 r1 := r_ne_lo f2 (⟨by decide, by decide⟩ : R 0 0 (0 : Int32)) c3 (by decide)
    have q6 := c1 c3
    have f7 : R 1 2147483647 p1 := le_lo (⟨by decide, by decide⟩ : R 1 1 (1 : Int32)) (r_full p1) q6.1
    have f8 : R 1 60 p1 := le_hi f7 (⟨by decide, by decide⟩ : R 60 60 (60 : Int32)) q6.2
    refine s_if (fun c9 => ?_) (fun c9 => ?_)
    ·
      have f10 : R (-2147483648) 9999 ((h0 1 6) + p1) := le_hi (r_full ((h0 1 6) + p1)) (⟨by decide, by decide⟩ : R 9999 9999 (9999 : Int32)) c9
      refine sl_X_quarters_L31 p1 (r_w f8 (by decide)) FU 0 0 h0 (fu_up (⟨by decide, by decide⟩ : R 0 0 (0 : Int32)) (by decide)) (r_w (⟨by decide, by decide⟩ : R 0 0 (0 : Int32)) (by decide)) (r_w (⟨by decide, by decide⟩ : R 0 0 (0 : Int32)) (by decide)) i_h0
    ·
      have f11 : R 10000 2147483647 ((h0 1 6) + p1) := lt_lo (⟨by decide, by decide⟩ : R 9999 9999 (9999 : Int32)) (r_full ((h0 1 6) + p1)) (nle_lt c9) (by decide)
      exact s_some ⟨r_w (⟨by decide, by decide⟩ : R (-1) (-1) (-1 : Int32)) (by decide), i_h0⟩
theorem sf_X_feed (p1 : Int32) (p2 : Int32) (p3 : Int32) (p4 : Int32) (p5 : Int32) {h0 : PH} (i_h0 : Inv h0) : Sf (mX_feed p1 p2 p3 p4 p5 h0) (fun r => R (-1) 400 r.1 ∧ Inv r.2) := by
  unfold mX_feed
  refine s_if (fun c1 => ?_) (fun c1 => ?_)
  ·
    have f2 : R 20 400 ((h0 85 4) + 20) := le_hi (r_add (inv_rng i_h0 rfl : R 0 400 (h0 85 4)) (⟨by decide, by decide⟩ : R 20 20 (20 : Int32)) (by decide) : R 20 420 ((h0 85 4) + 20)) (⟨by decide, by decide⟩ : R 400 400 (400 : Int32)) c1
    refine s_bd (sf_A_take p1 i_h0) (fun h1 f3 => ?_)
    refine s_bd (sf_A_take p2 f3) (fun h2 f4 => ?_)
    refine s_bd (sf_A_take p3 f4) (fun h3 f5 => ?_)
    refine s_bd (sf_A_take p4 f5) (fun h4 f6 => ?_)
    refine s_bd (sf_A_take p5 f6) (fun h5 f7 => ?_)
    exact s_some ⟨r_w (inv_rng f7 rfl : R 0 400 (h5 85 4)) (by decide), f7⟩
  ·
    have f8 : R 401 420 ((h0 85 4) + 20) := lt_lo (⟨by decide, by decide⟩ : R 400 400 (400 : Int32)) (r_add (inv_rng i_h0 rfl : R 0 400 (h0 85 4)) (⟨by decide, by decide⟩ : R 20 20 (20 : Int32)) (by decide) : R 20 420 ((h0 85 4) + 20)) (nle_lt c1) (by decide)
    exact s_some ⟨r_w (⟨by decide, by decide⟩ : R (-1) (-1) (-1 : Int32)) (by decide), i_h0⟩
theorem sf_X_end (p1 : Int32) {h0 : PH} (i_h0 : Inv h0) : Sf (mX_end p1 h0) (fun r => R 0 1 r.1 ∧ Inv r.2) := by
  unfold mX_end
  refine s_if (fun c1 => ?_) (fun c1 => ?_)
  ·
    have f2 : R (-2147483648) (-1) p1 := lt_hi (r_full p1) (⟨by decide, by decide⟩ : R 0 0 (0 : Int32)) c1 (by decide)
    exact s_some ⟨r_w (⟨by decide, by decide⟩ : R 0 0 (0 : Int32)) (by decide), i_h0⟩
  ·
    have f3 : R 0 2147483647 p1 := le_lo (⟨by decide, by decide⟩ : R 0 0 (0 : Int32)) (r_full p1) (nlt_le c1)
    refine s_if (fun c4 => ?_) (fun c4 => ?_)
    ·
      have f5 : R 0 400 p1 := le_hi f3 (inv_rng i_h0 rfl : R 0 400 (h0 85 4)) c4
      refine s_lt (fun h1 e6 => ?_)
      have i7 : Inv h1 := by rw [e6]; exact inv_put i_h0 rfl (r_w f5 (by decide))
      exact s_some ⟨r_w (⟨by decide, by decide⟩ : R 1 1 (1 : Int32)) (by decide), i7⟩
    ·
      have f8 : R 1 2147483647 p1 := lt_lo (inv_rng i_h0 rfl : R 0 400 (h0 85 4)) f3 (nle_lt c4) (by decide)
      exact s_some ⟨r_w (⟨by decide, by decide⟩ : R 0 0 (0 : Int32)) (by decide), i_h0⟩
theorem sf_X_keepText (p1 : Int32) {h0 : PH} (i_h0 : Inv h0) : Sf (mX_keepText p1 h0) (fun r => R 0 16 r.1 ∧ Inv r.2) := by
  unfold mX_keepText
  refine s_if (fun c1 => ?_) (fun c1 => ?_)
  ·
    have f2 : R 0 0 p1 := r_eq (⟨by decide, by decide⟩ : R 0 0 (0 : Int32)) c1
    refine s_bd (sf_R_copyFrom (6) (91) isR_6 isR_91 i_h0) (fun h1 f3 => ?_)
    refine s_bd (sf_R_copyFrom (8) (93) isR_8 isR_93 f3) (fun h2 f4 => ?_)
    exact s_some ⟨r_w (inv_rng f4 rfl : R 0 16 (h2 91 3)) (by decide), f4⟩
  ·
    refine s_if (fun c5 => ?_) (fun c5 => ?_)
    ·
      have f6 : R 1 1 p1 := r_eq (⟨by decide, by decide⟩ : R 1 1 (1 : Int32)) c5
      refine s_bd (sf_R_copyFrom (10) (91) isR_10 isR_91 i_h0) (fun h3 f7 => ?_)
      refine s_forget (fun h4 e8 => ?_)
      have i9 : Inv h4 := by rw [e8]; exact inv_put f7 rfl (show R 0 6 (0 : Int32) from ⟨by decide, by decide⟩)
      exact s_some ⟨r_w (inv_rng i9 rfl : R 0 16 (h4 91 3)) (by decide), i9⟩
    ·
      refine s_if (fun c10 => ?_) (fun c10 => ?_)
      ·
        have f11 : R 2 2 p1 := r_eq (⟨by decide, by decide⟩ : R 2 2 (2 : Int32)) c10
        refine s_bd (sf_R_copyFrom (12) (91) isR_12 isR_91 i_h0) (fun h5 f12 => ?_)
        refine s_forget (fun h6 e13 => ?_)
        have i14 : Inv h6 := by rw [e13]; exact inv_put f12 rfl (show R 0 6 (0 : Int32) from ⟨by decide, by decide⟩)
        exact s_some ⟨r_w (inv_rng i14 rfl : R 0 16 (h6 91 3)) (by decide), i14⟩
      ·
        refine s_bd (sf_R_copyFrom (14) (91) isR_14 isR_91 i_h0) (fun h7 f15 => ?_)
        exact s_some ⟨r_w (inv_rng f15 rfl : R 0 16 (h7 91 3)) (by decide), f15⟩
theorem sf_X_fault (p1 : Int32) {h0 : PH} (i_h0 : Inv h0) : Sf (mX_fault p1 h0) (fun r => R (-2147483648) 2147483647 r) := by
  unfold mX_fault
  refine s_if (fun c1 => ?_) (fun c1 => ?_)
  ·
    have f2 : R 0 0 p1 := r_eq (⟨by decide, by decide⟩ : R 0 0 (0 : Int32)) c1
    exact s_some (r_w (r_full (h0 90 2)) (by decide))
  ·
    refine s_if (fun c3 => ?_) (fun c3 => ?_)
    ·
      have f4 : R 1 1 p1 := r_eq (⟨by decide, by decide⟩ : R 1 1 (1 : Int32)) c3
      exact s_some (r_w (r_full (h0 90 3)) (by decide))
    ·
      exact s_some (r_w (⟨by decide, by decide⟩ : R (-1) (-1) (-1 : Int32)) (by decide))
theorem sf_X_of (p1 : Int32) (p2 : Int32) {h0 : PH} (i_h0 : Inv h0) : Sf (mX_of p1 p2 h0) (fun r => R (-2147483648) 2147483647 r.1 ∧ Inv r.2) := by
  unfold mX_of
  refine s_has ⟨rfl, rfl⟩ i_h0 (fun r1 f2 c1 => ?_)
  refine s_if (fun c3 => ?_) (fun c3 => ?_)
  ·
    have f4 : R 0 0 r1 := r_eq (⟨by decide, by decide⟩ : R 0 0 (0 : Int32)) c3
    exact s_some ⟨r_w (⟨by decide, by decide⟩ : R (-1) (-1) (-1 : Int32)) (by decide), i_h0⟩
  ·
    have f5 : R 1 1 r1 := r_ne_lo f2 (⟨by decide, by decide⟩ : R 0 0 (0 : Int32)) c3 (by decide)
    have f6 : R 0 11 p1 := c1 c3
    refine s_win (fun r2 f8 c7 => ?_)
    refine s_if (fun c9 => ?_) (fun c9 => ?_)
    ·
      have f10 : R 0 0 r2 := r_eq (⟨by decide, by decide⟩ : R 0 0 (0 : Int32)) c9
      refine s_if (fun c11 => ?_) (fun c11 => ?_)
      ·
        have f12 : R 11 11 p2 := r_eq (⟨by decide, by decide⟩ : R 11 11 (11 : Int32)) c11
        refine s_bd (sf_B_thickest (1) p1 ⟨rfl, rfl⟩ i_h0) (fun r3 f13 => ?_)
        refine s_bd2 (sf_W_tells (1) p1 r3 0 ⟨rfl, rfl⟩ i_h0) (fun r4 h5 f14 => ?_)
        exact s_some ⟨r_w f14.1 (by decide), f14.2⟩
      ·
        refine s_if (fun c15 => ?_) (fun c15 => ?_)
        ·
          have f16 : R 12 12 p2 := r_eq (⟨by decide, by decide⟩ : R 12 12 (12 : Int32)) c15
          refine s_bd (sf_O_nextTo_5 p1 i_h0) (fun r6 f17 => ?_)
          exact s_some ⟨r_w (r_full r6) (by decide), i_h0⟩
        ·
          refine s_win (fun r7 f19 c18 => ?_)
          refine s_if (fun c20 => ?_) (fun c20 => ?_)
          ·
            have f21 : R 0 0 r7 := r_eq (⟨by decide, by decide⟩ : R 0 0 (0 : Int32)) c20
            refine s_win (fun r8 f23 c22 => ?_)
            refine s_if (fun c24 => ?_) (fun c24 => ?_)
            ·
              have f25 : R 0 0 r8 := r_eq (⟨by decide, by decide⟩ : R 0 0 (0 : Int32)) c24
              exact s_some ⟨r_w (⟨by decide, by decide⟩ : R (-1) (-1) (-1 : Int32)) (by decide), i_h0⟩
            ·
              have f26 : R 1 1 r8 := r_ne_lo f23 (⟨by decide, by decide⟩ : R 0 0 (0 : Int32)) c24 (by decide)
              have q27 := c22 c24
              have f28 : R 30 2147483647 p2 := le_lo (⟨by decide, by decide⟩ : R 30 30 (30 : Int32)) (r_full p2) q27.1
              have f29 : R 30 33 p2 := le_hi f28 (⟨by decide, by decide⟩ : R 33 33 (33 : Int32)) q27.2
              refine s_bd2 (sf_W_tells (1) p1 (p2 - 30) 2 ⟨rfl, rfl⟩ i_h0) (fun r9 h10 f30 => ?_)
              exact s_some ⟨r_w f30.1 (by decide), f30.2⟩
          ·
            have f31 : R 1 1 r7 := r_ne_lo f19 (⟨by decide, by decide⟩ : R 0 0 (0 : Int32)) c20 (by decide)
            have q32 := c18 c20
            have f33 : R 20 2147483647 p2 := le_lo (⟨by decide, by decide⟩ : R 20 20 (20 : Int32)) (r_full p2) q32.1
            have f34 : R 20 23 p2 := le_hi f33 (⟨by decide, by decide⟩ : R 23 23 (23 : Int32)) q32.2
            refine s_bd2 (sf_W_tells (1) p1 (p2 - 20) 1 ⟨rfl, rfl⟩ i_h0) (fun r11 h12 f35 => ?_)
            exact s_some ⟨r_w f35.1 (by decide), f35.2⟩
    ·
      have f36 : R 1 1 r2 := r_ne_lo f8 (⟨by decide, by decide⟩ : R 0 0 (0 : Int32)) c9 (by decide)
      have q37 := c7 c9
      have f38 : R 0 2147483647 p2 := le_lo (⟨by decide, by decide⟩ : R 0 0 (0 : Int32)) (r_full p2) q37.1
      have f39 : R 0 10 p2 := le_hi f38 (⟨by decide, by decide⟩ : R 10 10 (10 : Int32)) q37.2
      refine s_bd (sf_B_read (1) p1 p2 ⟨rfl, rfl⟩ i_h0) (fun r13 f40 => ?_)
      exact s_some ⟨r_w (r_full r13) (by decide), i_h0⟩
theorem sf_X_book (p1 : Int32) (p2 : Int32) {h0 : PH} (i_h0 : Inv h0) : Sf (mX_book p1 p2 h0) (fun r => R (-2147483648) 2147483647 r) := by
  unfold mX_book
  refine s_if (fun c1 => ?_) (fun c1 => ?_)
  ·
    have f2 : R (-2147483648) (-1) p1 := lt_hi (r_full p1) (⟨by decide, by decide⟩ : R 0 0 (0 : Int32)) c1 (by decide)
    exact s_some (r_w (⟨by decide, by decide⟩ : R (-2) (-2) (-2 : Int32)) (by decide))
  ·
    have f3 : R 0 2147483647 p1 := le_lo (⟨by decide, by decide⟩ : R 0 0 (0 : Int32)) (r_full p1) (nlt_le c1)
    refine s_if (fun c4 => ?_) (fun c4 => ?_)
    ·
      exact s_some (r_w (⟨by decide, by decide⟩ : R (-2) (-2) (-2 : Int32)) (by decide))
    ·
      have f5 : R 0 149 p1 := lt_hi f3 (inv_rng i_h0 rfl : R 0 150 (h0 16 3)) (nle_lt c4) (by decide)
      have f6 : R 1 150 (h0 16 3) := lt_lo f3 (inv_rng i_h0 rfl : R 0 150 (h0 16 3)) (nle_lt c4) (by decide)
      refine s_win (fun r1 f8 c7 => ?_)
      refine s_if (fun c9 => ?_) (fun c9 => ?_)
      ·
        have f10 : R 0 0 r1 := r_eq (⟨by decide, by decide⟩ : R 0 0 (0 : Int32)) c9
        exact s_some (r_w (⟨by decide, by decide⟩ : R (-2) (-2) (-2 : Int32)) (by decide))
      ·
        have f11 : R 1 1 r1 := r_ne_lo f8 (⟨by decide, by decide⟩ : R 0 0 (0 : Int32)) c9 (by decide)
        have q12 := c7 c9
        have f13 : R 0 2147483647 p2 := le_lo (⟨by decide, by decide⟩ : R 0 0 (0 : Int32)) (r_full p2) q12.1
        have f14 : R 0 3 p2 := le_hi f13 (⟨by decide, by decide⟩ : R 3 3 (3 : Int32)) q12.2
        refine s_bd (sf_R_at (16) p1 p2 isR_16 i_h0) (fun r2 f15 => ?_)
        exact s_some (r_w (r_full r2) (by decide))
theorem sl_X_goes_L34 (p1 : Int32) (p2 : Int32) (k0 : PH → Option (Int32 × PH)) (f_p1 : R 1 60 p1) (f_p2 : R 0 3 p2) (hk_k0 : ∀ (y0 : PH), Inv y0 → Sf (k0 y0) (fun r => R (-2147483648) 2147483647 r.1 ∧ Inv r.2)) : ∀ (n : Nat) (v3 : Int32) (hv : PH), 60 - v3.toInt < (n : Int) → R 0 60 v3 → Inv hv → Sf (mX_goes_L34 p1 p2 k0 n v3 hv) (fun r => R (-2147483648) 2147483647 r.1 ∧ Inv r.2) := by
  intro n
  induction n with
  | zero =>
    intro v3 hv hfu f_v3 i_hv
    have := f_v3.2
    omega
  | succ n ih =>
    intro v3 hv hfu f_v3 i_hv
    rw [mX_goes_L34]
    refine s_if (fun c1 => ?_) (fun c1 => ?_)
    ·
      have f2 : R 1 60 v3 := le_lo f_p1 f_v3 c1
      exact hk_k0 _ (i_hv)
    ·
      have f3 : R 0 59 v3 := lt_hi f_v3 f_p1 (nle_lt c1) (by decide)
      refine s_bd2 (sf_S_pass (69) ⟨rfl, rfl⟩ i_hv) (fun r4 h5 f4 => ?_)
      exact ih (v3 + 1) h5 (fu_su hfu (i_inc f3 (k := 1) rfl (by decide)) (by decide)) (r_w (r_add f3 (⟨by decide, by decide⟩ : R 1 1 (1 : Int32)) (by decide) : R 1 60 (v3 + 1)) (by decide)) f4.2
theorem sf_X_goes (p1 : Int32) (p2 : Int32) {h0 : PH} (i_h0 : Inv h0) : Sf (mX_goes p1 p2 h0) (fun r => R (-2147483648) 2147483647 r.1 ∧ Inv r.2) := by
  unfold mX_goes
  refine s_win (fun r1 f2 c1 => ?_)
  refine s_if (fun c3 => ?_) (fun c3 => ?_)
  ·
    have f4 : R 0 0 r1 := r_eq (⟨by decide, by decide⟩ : R 0 0 (0 : Int32)) c3
    exact s_some ⟨r_w (⟨by decide, by decide⟩ : R (-1) (-1) (-1 : Int32)) (by decide), i_h0⟩
  ·
    have f5 : R 1 1 r1 := r_ne_lo f2 (⟨by decide, by decide⟩ : R 0 0 (0 : Int32)) c3 (by decide)
    have q6 := c1 c3
    have f7 : R 1 2147483647 p1 := le_lo (⟨by decide, by decide⟩ : R 1 1 (1 : Int32)) (r_full p1) q6.1
    have f8 : R 1 60 p1 := le_hi f7 (⟨by decide, by decide⟩ : R 60 60 (60 : Int32)) q6.2
    refine s_win (fun r2 f10 c9 => ?_)
    refine s_if (fun c11 => ?_) (fun c11 => ?_)
    ·
      have f12 : R 0 0 r2 := r_eq (⟨by decide, by decide⟩ : R 0 0 (0 : Int32)) c11
      exact s_some ⟨r_w (⟨by decide, by decide⟩ : R (-1) (-1) (-1 : Int32)) (by decide), i_h0⟩
    ·
      have f13 : R 1 1 r2 := r_ne_lo f10 (⟨by decide, by decide⟩ : R 0 0 (0 : Int32)) c11 (by decide)
      have q14 := c9 c11
      have f15 : R 0 2147483647 p2 := le_lo (⟨by decide, by decide⟩ : R 0 0 (0 : Int32)) (r_full p2) q14.1
      have f16 : R 0 3 p2 := le_hi f15 (⟨by decide, by decide⟩ : R 3 3 (3 : Int32)) q14.2
      refine s_bd (sf_B_copyFrom (3) (1) ⟨rfl, rfl⟩ ⟨rfl, rfl⟩ i_h0) (fun h3 f17 => ?_)
      refine sl_X_goes_L34 p1 p2 _ (r_w f8 (by decide)) (r_w f16 (by decide)) ?_ FU 0 h3 (fu_up (⟨by decide, by decide⟩ : R 0 0 (0 : Int32)) (by decide)) (r_w (⟨by decide, by decide⟩ : R 0 0 (0 : Int32)) (by decide)) f17
      ·
        intro h6 f18
        refine s_if (fun c19 => ?_) (fun c19 => ?_)
        ·
          have f20 : R 0 0 p2 := r_eq (⟨by decide, by decide⟩ : R 0 0 (0 : Int32)) c19
          exact s_some ⟨r_w (r_full (h6 3 4)) (by decide), f18⟩
        ·
          have f21 : R 1 3 p2 := r_ne_lo f16 (⟨by decide, by decide⟩ : R 0 0 (0 : Int32)) c19 (by decide)
          refine s_if (fun c22 => ?_) (fun c22 => ?_)
          ·
            have f23 : R 1 1 p2 := r_eq (⟨by decide, by decide⟩ : R 1 1 (1 : Int32)) c22
            refine s_bd (sf_B_countUp (3) ⟨rfl, rfl⟩ f18) (fun r7 f24 => ?_)
            exact s_some ⟨r_w f24 (by decide), f18⟩
          ·
            have f25 : R 2 3 p2 := r_ne_lo f21 (⟨by decide, by decide⟩ : R 1 1 (1 : Int32)) c22 (by decide)
            refine s_if (fun c26 => ?_) (fun c26 => ?_)
            ·
              have f27 : R 2 2 p2 := r_eq (⟨by decide, by decide⟩ : R 2 2 (2 : Int32)) c26
              refine s_bd (sf_B_total (3) 8 ⟨rfl, rfl⟩ f18) (fun r8 f28 => ?_)
              exact s_some ⟨r_w (r_full r8) (by decide), f18⟩
            ·
              have f29 : R 3 3 p2 := r_ne_lo f25 (⟨by decide, by decide⟩ : R 2 2 (2 : Int32)) c26 (by decide)
              refine s_bd (sf_B_total (3) 7 ⟨rfl, rfl⟩ f18) (fun r9 f30 => ?_)
              exact s_some ⟨r_w (r_full r9) (by decide), f18⟩
theorem sl_X_stands_L40 (p1 : Int32) (f_p1 : R 0 11 p1) : ∀ (n : Nat) (v2 : Int32) (hv : PH), 201 - v2.toInt < (n : Int) → R 1 201 v2 → Inv hv → Sf (mX_stands_L40 p1 n v2 hv) (fun r => R (-2) 200 r.1 ∧ Inv r.2) := by
  intro n
  induction n with
  | zero =>
    intro v2 hv hfu f_v2 i_hv
    have := f_v2.2
    omega
  | succ n ih =>
    intro v2 hv hfu f_v2 i_hv
    rw [mX_stands_L40]
    refine s_if (fun c1 => ?_) (fun c1 => ?_)
    ·
      have f2 : R 201 201 v2 := lt_lo (⟨by decide, by decide⟩ : R 200 200 (200 : Int32)) f_v2 c1 (by decide)
      exact s_some ⟨r_w (⟨by decide, by decide⟩ : R (-1) (-1) (-1 : Int32)) (by decide), i_hv⟩
    ·
      have f3 : R 1 200 v2 := le_hi f_v2 (⟨by decide, by decide⟩ : R 200 200 (200 : Int32)) (nlt_le c1)
      refine s_bd2 (sf_S_pass (69) ⟨rfl, rfl⟩ i_hv) (fun r4 h5 f4 => ?_)
      refine s_bd (sf_B_isUp (3) p1 ⟨rfl, rfl⟩ f4.2) (fun r6 f5 => ?_)
      refine s_if (fun c6 => ?_) (fun c6 => ?_)
      ·
        have f7 : R 0 0 r6 := r_eq (⟨by decide, by decide⟩ : R 0 0 (0 : Int32)) c6
        exact s_some ⟨r_w f3 (by decide), f4.2⟩
      ·
        have f8 : R 1 1 r6 := r_ne_lo f5 (⟨by decide, by decide⟩ : R 0 0 (0 : Int32)) c6 (by decide)
        exact ih (v2 + 1) h5 (fu_su hfu (i_inc f3 (k := 1) rfl (by decide)) (by decide)) (r_w (r_add f3 (⟨by decide, by decide⟩ : R 1 1 (1 : Int32)) (by decide) : R 2 201 (v2 + 1)) (by decide)) f4.2
theorem sf_X_stands (p1 : Int32) {h0 : PH} (i_h0 : Inv h0) : Sf (mX_stands p1 h0) (fun r => R (-2) 200 r.1 ∧ Inv r.2) := by
  unfold mX_stands
  refine s_has ⟨rfl, rfl⟩ i_h0 (fun r1 f2 c1 => ?_)
  refine s_if (fun c3 => ?_) (fun c3 => ?_)
  ·
    have f4 : R 0 0 r1 := r_eq (⟨by decide, by decide⟩ : R 0 0 (0 : Int32)) c3
    exact s_some ⟨r_w (⟨by decide, by decide⟩ : R (-2) (-2) (-2 : Int32)) (by decide), i_h0⟩
  ·
    have f5 : R 1 1 r1 := r_ne_lo f2 (⟨by decide, by decide⟩ : R 0 0 (0 : Int32)) c3 (by decide)
    have f6 : R 0 11 p1 := c1 c3
    refine s_bd (sf_B_isUp (1) p1 ⟨rfl, rfl⟩ i_h0) (fun r2 f7 => ?_)
    refine s_if (fun c8 => ?_) (fun c8 => ?_)
    ·
      have f9 : R 0 0 r2 := r_eq (⟨by decide, by decide⟩ : R 0 0 (0 : Int32)) c8
      exact s_some ⟨r_w (⟨by decide, by decide⟩ : R 0 0 (0 : Int32)) (by decide), i_h0⟩
    ·
      have f10 : R 1 1 r2 := r_ne_lo f7 (⟨by decide, by decide⟩ : R 0 0 (0 : Int32)) c8 (by decide)
      refine s_bd (sf_B_copyFrom (3) (1) ⟨rfl, rfl⟩ ⟨rfl, rfl⟩ i_h0) (fun h3 f11 => ?_)
      refine sl_X_stands_L40 p1 (r_w f6 (by decide)) FU 1 h3 (fu_up (⟨by decide, by decide⟩ : R 1 1 (1 : Int32)) (by decide)) (r_w (⟨by decide, by decide⟩ : R 1 1 (1 : Int32)) (by decide)) f11
theorem sf_X_cheapestWay (p1 : Int32) (p2 : Int32) (p3 : Int32) {h0 : PH} (i_h0 : Inv h0) : Sf (mX_cheapestWay p1 p2 p3 h0) (fun r => R (-2147483648) 999999 r.1 ∧ Inv r.2) := by
  unfold mX_cheapestWay
  refine s_has ⟨rfl, rfl⟩ i_h0 (fun r1 f2 c1 => ?_)
  refine s_if (fun c3 => ?_) (fun c3 => ?_)
  ·
    have f4 : R 0 0 r1 := r_eq (⟨by decide, by decide⟩ : R 0 0 (0 : Int32)) c3
    exact s_some ⟨r_w (⟨by decide, by decide⟩ : R (-1) (-1) (-1 : Int32)) (by decide), i_h0⟩
  ·
    have f5 : R 1 1 r1 := r_ne_lo f2 (⟨by decide, by decide⟩ : R 0 0 (0 : Int32)) c3 (by decide)
    have f6 : R 0 11 p1 := c1 c3
    refine s_has ⟨rfl, rfl⟩ i_h0 (fun r2 f8 c7 => ?_)
    refine s_if (fun c9 => ?_) (fun c9 => ?_)
    ·
      have f10 : R 0 0 r2 := r_eq (⟨by decide, by decide⟩ : R 0 0 (0 : Int32)) c9
      exact s_some ⟨r_w (⟨by decide, by decide⟩ : R (-1) (-1) (-1 : Int32)) (by decide), i_h0⟩
    ·
      have f11 : R 1 1 r2 := r_ne_lo f8 (⟨by decide, by decide⟩ : R 0 0 (0 : Int32)) c9 (by decide)
      have f12 : R 0 11 p2 := c7 c9
      refine s_bd (sf_T_spread (1) (14) p1 p3 ⟨rfl, rfl⟩ isR_14 i_h0) (fun h3 f13 => ?_)
      refine s_bd (sf_T_costTo p2 f13) (fun r4 f14 => ?_)
      exact s_some ⟨r_w f14 (by decide), f13⟩
theorem sf_X_hears (p1 : Int32) (p2 : Int32) {h0 : PH} (i_h0 : Inv h0) : Sf (mX_hears p1 p2 h0) (fun r => R (-2147483648) 999999 r.1 ∧ Inv r.2) := by
  unfold mX_hears
  refine s_bd2 (sf_X_cheapestWay p1 p2 1 i_h0) (fun r1 h2 f1 => ?_)
  exact s_some ⟨r_w f1.1 (by decide), f1.2⟩
theorem sf_X_heard (p1 : Int32) (p2 : Int32) {h0 : PH} (i_h0 : Inv h0) : Sf (mX_heard p1 p2 h0) (fun r => R (-2147483648) 2147483647 r.1 ∧ Inv r.2) := by
  unfold mX_heard
  refine s_has ⟨rfl, rfl⟩ i_h0 (fun r1 f2 c1 => ?_)
  refine s_if (fun c3 => ?_) (fun c3 => ?_)
  ·
    have f4 : R 0 0 r1 := r_eq (⟨by decide, by decide⟩ : R 0 0 (0 : Int32)) c3
    exact s_some ⟨r_w (⟨by decide, by decide⟩ : R (-1) (-1) (-1 : Int32)) (by decide), i_h0⟩
  ·
    have f5 : R 1 1 r1 := r_ne_lo f2 (⟨by decide, by decide⟩ : R 0 0 (0 : Int32)) c3 (by decide)
    have f6 : R 0 11 p1 := c1 c3
    refine s_win (fun r2 f8 c7 => ?_)
    refine s_if (fun c9 => ?_) (fun c9 => ?_)
    ·
      have f10 : R 0 0 r2 := r_eq (⟨by decide, by decide⟩ : R 0 0 (0 : Int32)) c9
      exact s_some ⟨r_w (⟨by decide, by decide⟩ : R (-1) (-1) (-1 : Int32)) (by decide), i_h0⟩
    ·
      have f11 : R 1 1 r2 := r_ne_lo f8 (⟨by decide, by decide⟩ : R 0 0 (0 : Int32)) c9 (by decide)
      have q12 := c7 c9
      have f13 : R 0 2147483647 p2 := le_lo (⟨by decide, by decide⟩ : R 0 0 (0 : Int32)) (r_full p2) q12.1
      have f14 : R 0 800 p2 := le_hi f13 (⟨by decide, by decide⟩ : R 800 800 (800 : Int32)) q12.2
      refine s_bd (sf_T_spread (1) (14) p1 1 ⟨rfl, rfl⟩ isR_14 i_h0) (fun h3 f15 => ?_)
      refine s_bd (sf_T_countWithin (h3 1 1) p1 p2 f15) (fun r4 f16 => ?_)
      exact s_some ⟨r_w (r_full r4) (by decide), f15⟩
theorem sf_X_ants (p1 : Int32) (p2 : Int32) {h0 : PH} (i_h0 : Inv h0) : Sf (mX_ants p1 p2 h0) (fun r => R (-2147483648) 999999 r.1 ∧ Inv r.2) := by
  unfold mX_ants
  refine s_bd2 (sf_X_cheapestWay p1 p2 0 i_h0) (fun r1 h2 f1 => ?_)
  exact s_some ⟨r_w f1.1 (by decide), f1.2⟩
theorem sf_X_tell (a0 : Nat) (p1 : Int32) (p2 : Int32) (p3 : Int32) (p4 : Int32) (hb_a0 : isRF a0) {h0 : PH} (i_h0 : Inv h0) : Sf (mX_tell a0 p1 p2 p3 p4 h0) (fun r => R (-1) 400 r.1 ∧ Inv r.2) := by
  unfold mX_tell
  refine s_if (fun c1 => ?_) (fun c1 => ?_)
  ·
    have f2 : R 0 0 p1 := r_eq (⟨by decide, by decide⟩ : R 0 0 (0 : Int32)) c1
    refine s_if (fun c3 => ?_) (fun c3 => ?_)
    ·
      have f4 : R 0 0 p2 := r_eq (⟨by decide, by decide⟩ : R 0 0 (0 : Int32)) c3
      exact s_some ⟨r_w (⟨by decide, by decide⟩ : R (-1) (-1) (-1 : Int32)) (by decide), i_h0⟩
    ·
      refine s_bd2 (sf_R_add (a0) p3 p4 0 0 0 hb_a0 i_h0) (fun r1 h2 f5 => ?_)
      refine s_if (fun c6 => ?_) (fun c6 => ?_)
      ·
        have f7 : R 0 0 r1 := r_eq (⟨by decide, by decide⟩ : R 0 0 (0 : Int32)) c6
        exact s_some ⟨r_w (⟨by decide, by decide⟩ : R (-1) (-1) (-1 : Int32)) (by decide), f5.2⟩
      ·
        have f8 : R 1 1 r1 := r_ne_lo f5.1 (⟨by decide, by decide⟩ : R 0 0 (0 : Int32)) c6 (by decide)
        exact s_some ⟨r_w (rows_rng hb_a0.r f5.2) (by decide), f5.2⟩
  ·
    refine s_lt (fun h3 e9 => ?_)
    have i10 : Inv h3 := by rw [e9]; exact inv_rows0 hb_a0.r i_h0
    exact s_some ⟨r_w (⟨by decide, by decide⟩ : R 0 0 (0 : Int32)) (by decide), i10⟩
theorem sf_X_piece (p1 : Int32) {h0 : PH} (i_h0 : Inv h0) : Sf (mX_piece p1 h0) (fun r => R (-1) 400 r.1 ∧ Inv r.2) := by
  unfold mX_piece
  refine s_jn1 (P := fun (x2 : Int32) => R 0 1 x2) (fun x2 f3 => ?_) (fun j1 kj1 => ?_)
  ·
    refine s_win (fun r3 f5 c4 => ?_)
    refine s_bd2 (sf_X_tell (18) x2 r3 p1 0 isRF_18 i_h0) (fun r4 h5 f6 => ?_)
    exact s_some ⟨r_w f6.1 (by decide), f6.2⟩
  ·
    refine s_if (fun c7 => ?_) (fun c7 => ?_)
    ·
      have f8 : R (-1) (-1) p1 := r_eq (⟨by decide, by decide⟩ : R (-1) (-1) (-1 : Int32)) c7
      exact kj1 _ (r_w (⟨by decide, by decide⟩ : R 1 1 (1 : Int32)) (by decide))
    ·
      exact kj1 _ (r_w (⟨by decide, by decide⟩ : R 0 0 (0 : Int32)) (by decide))
theorem sf_X_dough (p1 : Int32) {h0 : PH} (i_h0 : Inv h0) : Sf (mX_dough p1 h0) (fun r => R (-1) 400 r.1 ∧ Inv r.2) := by
  unfold mX_dough
  refine s_jn1 (P := fun (x2 : Int32) => R 0 1 x2) (fun x2 f3 => ?_) (fun j1 kj1 => ?_)
  ·
    refine s_win (fun r3 f5 c4 => ?_)
    refine s_bd2 (sf_X_tell (20) x2 r3 p1 0 isRF_20 i_h0) (fun r4 h5 f6 => ?_)
    exact s_some ⟨r_w f6.1 (by decide), f6.2⟩
  ·
    refine s_if (fun c7 => ?_) (fun c7 => ?_)
    ·
      have f8 : R (-1) (-1) p1 := r_eq (⟨by decide, by decide⟩ : R (-1) (-1) (-1 : Int32)) c7
      exact kj1 _ (r_w (⟨by decide, by decide⟩ : R 1 1 (1 : Int32)) (by decide))
    ·
      exact kj1 _ (r_w (⟨by decide, by decide⟩ : R 0 0 (0 : Int32)) (by decide))
theorem sf_X_mortgage (p1 : Int32) (p2 : Int32) (p3 : Int32) (p4 : Int32) {h0 : PH} (i_h0 : Inv h0) : Sf (mX_mortgage p1 p2 p3 p4 h0) (fun r => R (-2147483648) 2147483647 r) := by
  unfold mX_mortgage
  refine s_win (fun r1 f2 c1 => ?_)
  refine s_jn1 (P := fun (x3 : Int32) => R 0 1 x3) (fun x3 f25 => ?_) (fun j2 kj2 => ?_)
  ·
    refine s_if (fun c26 => ?_) (fun c26 => ?_)
    ·
      have f27 : R 0 0 x3 := r_eq (⟨by decide, by decide⟩ : R 0 0 (0 : Int32)) c26
      exact s_some (r_w (⟨by decide, by decide⟩ : R (-1) (-1) (-1 : Int32)) (by decide))
    ·
      have f28 : R 1 1 x3 := r_ne_lo f25 (⟨by decide, by decide⟩ : R 0 0 (0 : Int32)) c26 (by decide)
      refine s_win (fun r4 f30 c29 => ?_)
      refine s_if (fun c31 => ?_) (fun c31 => ?_)
      ·
        have f32 : R 0 0 r4 := r_eq (⟨by decide, by decide⟩ : R 0 0 (0 : Int32)) c31
        exact s_some (r_w (⟨by decide, by decide⟩ : R (-1) (-1) (-1 : Int32)) (by decide))
      ·
        have f33 : R 1 1 r4 := r_ne_lo f30 (⟨by decide, by decide⟩ : R 0 0 (0 : Int32)) c31 (by decide)
        have q34 := c29 c31
        have f35 : R 0 2147483647 p4 := le_lo (⟨by decide, by decide⟩ : R 0 0 (0 : Int32)) (r_full p4) q34.1
        have f36 : R 0 1 p4 := le_hi f35 (⟨by decide, by decide⟩ : R 1 1 (1 : Int32)) q34.2
        refine s_jn1 (P := fun (x6 : Int32) => R 0 1 x6) (fun x6 f40 => ?_) (fun j5 kj5 => ?_)
        ·
          refine s_bd (sf_K_payOff p1 p2 p3 x6 i_h0) (fun r7 f41 => ?_)
          exact s_some (r_w (r_full r7) (by decide))
        ·
          refine s_if (fun c42 => ?_) (fun c42 => ?_)
          ·
            have f43 : R 0 0 p4 := r_eq (⟨by decide, by decide⟩ : R 0 0 (0 : Int32)) c42
            exact kj5 _ (r_w (⟨by decide, by decide⟩ : R 1 1 (1 : Int32)) (by decide))
          ·
            have f44 : R 1 1 p4 := r_ne_lo f36 (⟨by decide, by decide⟩ : R 0 0 (0 : Int32)) c42 (by decide)
            exact kj5 _ (r_w (⟨by decide, by decide⟩ : R 0 0 (0 : Int32)) (by decide))
  ·
    refine s_if (fun c45 => ?_) (fun c45 => ?_)
    ·
      have f46 : R 0 0 r1 := r_eq (⟨by decide, by decide⟩ : R 0 0 (0 : Int32)) c45
      exact kj2 _ (r_w (⟨by decide, by decide⟩ : R 0 0 (0 : Int32)) (by decide))
    ·
      have f47 : R 1 1 r1 := r_ne_lo f2 (⟨by decide, by decide⟩ : R 0 0 (0 : Int32)) c45 (by decide)
      have q48 := c1 c45
      have f49 : R 1 2147483647 p1 := le_lo (⟨by decide, by decide⟩ : R 1 1 (1 : Int32)) (r_full p1) q48.1
      have f50 : R 1 9999 p1 := le_hi f49 (⟨by decide, by decide⟩ : R 9999 9999 (9999 : Int32)) q48.2
      refine s_win (fun r8 f52 c51 => ?_)
      refine s_if (fun c53 => ?_) (fun c53 => ?_)
      ·
        have f54 : R 0 0 r8 := r_eq (⟨by decide, by decide⟩ : R 0 0 (0 : Int32)) c53
        exact kj2 _ (r_w (⟨by decide, by decide⟩ : R 0 0 (0 : Int32)) (by decide))
      ·
        have f55 : R 1 1 r8 := r_ne_lo f52 (⟨by decide, by decide⟩ : R 0 0 (0 : Int32)) c53 (by decide)
        have q56 := c51 c53
        have f57 : R 0 2147483647 p2 := le_lo (⟨by decide, by decide⟩ : R 0 0 (0 : Int32)) (r_full p2) q56.1
        have f58 : R 0 50 p2 := le_hi f57 (⟨by decide, by decide⟩ : R 50 50 (50 : Int32)) q56.2
        refine s_win (fun r9 f60 c59 => ?_)
        refine s_if (fun c61 => ?_) (fun c61 => ?_)
        ·
          have f62 : R 0 0 r9 := r_eq (⟨by decide, by decide⟩ : R 0 0 (0 : Int32)) c61
          exact kj2 _ (r_w (⟨by decide, by decide⟩ : R 0 0 (0 : Int32)) (by decide))
        ·
          have f63 : R 1 1 r9 := r_ne_lo f60 (⟨by decide, by decide⟩ : R 0 0 (0 : Int32)) c61 (by decide)
          have q64 := c59 c61
          have f65 : R 1 2147483647 p3 := le_lo (⟨by decide, by decide⟩ : R 1 1 (1 : Int32)) (r_full p3) q64.1
          have f66 : R 1 999 p3 := le_hi f65 (⟨by decide, by decide⟩ : R 999 999 (999 : Int32)) q64.2
          exact kj2 _ (r_w (⟨by decide, by decide⟩ : R 1 1 (1 : Int32)) (by decide))
theorem sf_X_mark (p1 : Int32) {h0 : PH} (i_h0 : Inv h0) : Sf (mX_mark p1 h0) (fun r => R (-1) 400 r.1 ∧ Inv r.2) := by
  unfold mX_mark
  refine s_jn1 (P := fun (x2 : Int32) => R 0 1 x2) (fun x2 f3 => ?_) (fun j1 kj1 => ?_)
  ·
    refine s_win (fun r3 f5 c4 => ?_)
    refine s_bd2 (sf_X_tell (22) x2 r3 p1 0 isRF_22 i_h0) (fun r4 h5 f6 => ?_)
    exact s_some ⟨r_w f6.1 (by decide), f6.2⟩
  ·
    refine s_if (fun c7 => ?_) (fun c7 => ?_)
    ·
      have f8 : R (-1) (-1) p1 := r_eq (⟨by decide, by decide⟩ : R (-1) (-1) (-1 : Int32)) c7
      exact kj1 _ (r_w (⟨by decide, by decide⟩ : R 1 1 (1 : Int32)) (by decide))
    ·
      exact kj1 _ (r_w (⟨by decide, by decide⟩ : R 0 0 (0 : Int32)) (by decide))
theorem sf_X_bite (p1 : Int32) (p2 : Int32) {h0 : PH} (i_h0 : Inv h0) : Sf (mX_bite p1 p2 h0) (fun r => R (-1) 400 r.1 ∧ Inv r.2) := by
  unfold mX_bite
  refine s_jn1 (P := fun (x2 : Int32) => R 0 1 x2) (fun x2 f3 => ?_) (fun j1 kj1 => ?_)
  ·
    refine s_win (fun r3 f5 c4 => ?_)
    refine s_jn1 (P := fun (x5 : Int32) => R 0 1 x5) (fun x5 f20 => ?_) (fun j4 kj4 => ?_)
    ·
      refine s_bd2 (sf_X_tell (24) x2 x5 p1 p2 isRF_24 i_h0) (fun r6 h7 f21 => ?_)
      exact s_some ⟨r_w f21.1 (by decide), f21.2⟩
    ·
      refine s_if (fun c22 => ?_) (fun c22 => ?_)
      ·
        have f23 : R 0 0 r3 := r_eq (⟨by decide, by decide⟩ : R 0 0 (0 : Int32)) c22
        exact kj4 _ (r_w (⟨by decide, by decide⟩ : R 0 0 (0 : Int32)) (by decide))
      ·
        have f24 : R 1 1 r3 := r_ne_lo f5 (⟨by decide, by decide⟩ : R 0 0 (0 : Int32)) c22 (by decide)
        have q25 := c4 c22
        have f26 : R 0 2147483647 p1 := le_lo (⟨by decide, by decide⟩ : R 0 0 (0 : Int32)) (r_full p1) q25.1
        have f27 : R 0 255 p1 := le_hi f26 (⟨by decide, by decide⟩ : R 255 255 (255 : Int32)) q25.2
        refine s_win (fun r8 f29 c28 => ?_)
        refine s_if (fun c30 => ?_) (fun c30 => ?_)
        ·
          have f31 : R 0 0 r8 := r_eq (⟨by decide, by decide⟩ : R 0 0 (0 : Int32)) c30
          exact kj4 _ (r_w (⟨by decide, by decide⟩ : R 0 0 (0 : Int32)) (by decide))
        ·
          have f32 : R 1 1 r8 := r_ne_lo f29 (⟨by decide, by decide⟩ : R 0 0 (0 : Int32)) c30 (by decide)
          have q33 := c28 c30
          have f34 : R 0 2147483647 p2 := le_lo (⟨by decide, by decide⟩ : R 0 0 (0 : Int32)) (r_full p2) q33.1
          have f35 : R 0 9 p2 := le_hi f34 (⟨by decide, by decide⟩ : R 9 9 (9 : Int32)) q33.2
          exact kj4 _ (r_w (⟨by decide, by decide⟩ : R 1 1 (1 : Int32)) (by decide))
  ·
    refine s_if (fun c36 => ?_) (fun c36 => ?_)
    ·
      have f37 : R (-1) (-1) p1 := r_eq (⟨by decide, by decide⟩ : R (-1) (-1) (-1 : Int32)) c36
      exact kj1 _ (r_w (⟨by decide, by decide⟩ : R 1 1 (1 : Int32)) (by decide))
    ·
      exact kj1 _ (r_w (⟨by decide, by decide⟩ : R 0 0 (0 : Int32)) (by decide))
theorem sf_X_whose (p1 : Int32) (p2 : Int32) {h0 : PH} (i_h0 : Inv h0) : Sf (mX_whose p1 p2 h0) (fun r => R (-2147483648) 2147483647 r) := by
  unfold mX_whose
  refine s_win (fun r1 f2 c1 => ?_)
  refine s_if (fun c3 => ?_) (fun c3 => ?_)
  ·
    have f4 : R 0 0 r1 := r_eq (⟨by decide, by decide⟩ : R 0 0 (0 : Int32)) c3
    exact s_some (r_w (⟨by decide, by decide⟩ : R (-1) (-1) (-1 : Int32)) (by decide))
  ·
    have f5 : R 1 1 r1 := r_ne_lo f2 (⟨by decide, by decide⟩ : R 0 0 (0 : Int32)) c3 (by decide)
    have q6 := c1 c3
    have f7 : R 0 2147483647 p1 := le_lo (⟨by decide, by decide⟩ : R 0 0 (0 : Int32)) (r_full p1) q6.1
    have f8 : R 0 255 p1 := le_hi f7 (⟨by decide, by decide⟩ : R 255 255 (255 : Int32)) q6.2
    refine s_win (fun r2 f10 c9 => ?_)
    refine s_if (fun c11 => ?_) (fun c11 => ?_)
    ·
      have f12 : R 0 0 r2 := r_eq (⟨by decide, by decide⟩ : R 0 0 (0 : Int32)) c11
      exact s_some (r_w (⟨by decide, by decide⟩ : R (-1) (-1) (-1 : Int32)) (by decide))
    ·
      have f13 : R 1 1 r2 := r_ne_lo f10 (⟨by decide, by decide⟩ : R 0 0 (0 : Int32)) c11 (by decide)
      have q14 := c9 c11
      have f15 : R 0 2147483647 p2 := le_lo (⟨by decide, by decide⟩ : R 0 0 (0 : Int32)) (r_full p2) q14.1
      have f16 : R 0 9 p2 := le_hi f15 (⟨by decide, by decide⟩ : R 9 9 (9 : Int32)) q14.2
      refine s_bd (sf_K_biters (24) p1 p2 isR_24 i_h0) (fun r3 f17 => ?_)
      exact s_some (r_w (r_full r3) (by decide))
theorem sf_X_crumb (p1 : Int32) {h0 : PH} (i_h0 : Inv h0) : Sf (mX_crumb p1 h0) (fun r => R (-1) 400 r.1 ∧ Inv r.2) := by
  unfold mX_crumb
  refine s_jn1 (P := fun (x2 : Int32) => R 0 1 x2) (fun x2 f3 => ?_) (fun j1 kj1 => ?_)
  ·
    refine s_win (fun r3 f5 c4 => ?_)
    refine s_bd2 (sf_X_tell (26) x2 r3 p1 0 isRF_26 i_h0) (fun r4 h5 f6 => ?_)
    exact s_some ⟨r_w f6.1 (by decide), f6.2⟩
  ·
    refine s_if (fun c7 => ?_) (fun c7 => ?_)
    ·
      have f8 : R (-1) (-1) p1 := r_eq (⟨by decide, by decide⟩ : R (-1) (-1) (-1 : Int32)) c7
      exact kj1 _ (r_w (⟨by decide, by decide⟩ : R 1 1 (1 : Int32)) (by decide))
    ·
      exact kj1 _ (r_w (⟨by decide, by decide⟩ : R 0 0 (0 : Int32)) (by decide))
theorem sf_X_crumbs (p1 : Int32) {h0 : PH} (i_h0 : Inv h0) : Sf (mX_crumbs p1 h0) (fun r => R (-2147483648) 2147483647 r.1 ∧ Inv r.2) := by
  unfold mX_crumbs
  refine s_win (fun r1 f2 c1 => ?_)
  refine s_if (fun c3 => ?_) (fun c3 => ?_)
  ·
    have f4 : R 0 0 r1 := r_eq (⟨by decide, by decide⟩ : R 0 0 (0 : Int32)) c3
    exact s_some ⟨r_w (⟨by decide, by decide⟩ : R (-1) (-1) (-1 : Int32)) (by decide), i_h0⟩
  ·
    have f5 : R 1 1 r1 := r_ne_lo f2 (⟨by decide, by decide⟩ : R 0 0 (0 : Int32)) c3 (by decide)
    have q6 := c1 c3
    have f7 : R 0 2147483647 p1 := le_lo (⟨by decide, by decide⟩ : R 0 0 (0 : Int32)) (r_full p1) q6.1
    have f8 : R 0 1 p1 := le_hi f7 (⟨by decide, by decide⟩ : R 1 1 (1 : Int32)) q6.2
    refine s_if (fun c9 => ?_) (fun c9 => ?_)
    ·
      have f10 : R 0 0 p1 := r_eq (⟨by decide, by decide⟩ : R 0 0 (0 : Int32)) c9
      refine s_bd2 (sf_K_wayHome (26) isR_26 i_h0) (fun r2 h3 f11 => ?_)
      exact s_some ⟨r_w f11.1 (by decide), f11.2⟩
    ·
      have f12 : R 1 1 p1 := r_ne_lo f8 (⟨by decide, by decide⟩ : R 0 0 (0 : Int32)) c9 (by decide)
      refine s_bd2 (sf_K_placesCrossed (26) isR_26 i_h0) (fun r4 h5 f13 => ?_)
      exact s_some ⟨r_w f13.1 (by decide), f13.2⟩
theorem sf_X_loaf (p1 : Int32) (p2 : Int32) {h0 : PH} (i_h0 : Inv h0) : Sf (mX_loaf p1 p2 h0) (fun r => R (-1) 400 r.1 ∧ Inv r.2) := by
  unfold mX_loaf
  refine s_jn1 (P := fun (x2 : Int32) => R 0 1 x2) (fun x2 f3 => ?_) (fun j1 kj1 => ?_)
  ·
    refine s_win (fun r3 f5 c4 => ?_)
    refine s_jn1 (P := fun (x5 : Int32) => R 0 1 x5) (fun x5 f20 => ?_) (fun j4 kj4 => ?_)
    ·
      refine s_bd2 (sf_X_tell (28) x2 x5 p1 p2 isRF_28 i_h0) (fun r6 h7 f21 => ?_)
      exact s_some ⟨r_w f21.1 (by decide), f21.2⟩
    ·
      refine s_if (fun c22 => ?_) (fun c22 => ?_)
      ·
        have f23 : R 0 0 r3 := r_eq (⟨by decide, by decide⟩ : R 0 0 (0 : Int32)) c22
        exact kj4 _ (r_w (⟨by decide, by decide⟩ : R 0 0 (0 : Int32)) (by decide))
      ·
        have f24 : R 1 1 r3 := r_ne_lo f5 (⟨by decide, by decide⟩ : R 0 0 (0 : Int32)) c22 (by decide)
        have q25 := c4 c22
        have f26 : R 1 2147483647 p1 := le_lo (⟨by decide, by decide⟩ : R 1 1 (1 : Int32)) (r_full p1) q25.1
        have f27 : R 1 30 p1 := le_hi f26 (⟨by decide, by decide⟩ : R 30 30 (30 : Int32)) q25.2
        refine s_win (fun r8 f29 c28 => ?_)
        refine s_if (fun c30 => ?_) (fun c30 => ?_)
        ·
          have f31 : R 0 0 r8 := r_eq (⟨by decide, by decide⟩ : R 0 0 (0 : Int32)) c30
          exact kj4 _ (r_w (⟨by decide, by decide⟩ : R 0 0 (0 : Int32)) (by decide))
        ·
          have f32 : R 1 1 r8 := r_ne_lo f29 (⟨by decide, by decide⟩ : R 0 0 (0 : Int32)) c30 (by decide)
          have q33 := c28 c30
          have f34 : R 1 2147483647 p2 := le_lo (⟨by decide, by decide⟩ : R 1 1 (1 : Int32)) (r_full p2) q33.1
          have f35 : R 1 30 p2 := le_hi f34 (⟨by decide, by decide⟩ : R 30 30 (30 : Int32)) q33.2
          exact kj4 _ (r_w (⟨by decide, by decide⟩ : R 1 1 (1 : Int32)) (by decide))
  ·
    refine s_if (fun c36 => ?_) (fun c36 => ?_)
    ·
      have f37 : R (-1) (-1) p1 := r_eq (⟨by decide, by decide⟩ : R (-1) (-1) (-1 : Int32)) c36
      exact kj1 _ (r_w (⟨by decide, by decide⟩ : R 1 1 (1 : Int32)) (by decide))
    ·
      exact kj1 _ (r_w (⟨by decide, by decide⟩ : R 0 0 (0 : Int32)) (by decide))
theorem sf_X_alone (p1 : Int32) {h0 : PH} (i_h0 : Inv h0) : Sf (mX_alone p1 h0) (fun r => R (-1) 4095 r.1 ∧ Inv r.2) := by
  unfold mX_alone
  refine s_win (fun r1 f2 c1 => ?_)
  refine s_if (fun c3 => ?_) (fun c3 => ?_)
  ·
    have f4 : R 0 0 r1 := r_eq (⟨by decide, by decide⟩ : R 0 0 (0 : Int32)) c3
    exact s_some ⟨r_w (⟨by decide, by decide⟩ : R (-1) (-1) (-1 : Int32)) (by decide), i_h0⟩
  ·
    have f5 : R 1 1 r1 := r_ne_lo f2 (⟨by decide, by decide⟩ : R 0 0 (0 : Int32)) c3 (by decide)
    have q6 := c1 c3
    have f7 : R 0 2147483647 p1 := le_lo (⟨by decide, by decide⟩ : R 0 0 (0 : Int32)) (r_full p1) q6.1
    have f8 : R 0 1 p1 := le_hi f7 (⟨by decide, by decide⟩ : R 1 1 (1 : Int32)) q6.2
    refine s_bd2 (sf_T_mostAlone_5 (1) ⟨rfl, rfl⟩ i_h0) (fun r2 h3 f9 => ?_)
    refine s_if (fun c10 => ?_) (fun c10 => ?_)
    ·
      have f11 : R 0 0 p1 := r_eq (⟨by decide, by decide⟩ : R 0 0 (0 : Int32)) c10
      refine s_bd (sf_J_bitCount r2 f9.2) (fun r4 f12 => ?_)
      exact s_some ⟨r_w f12 (by decide), f9.2⟩
    ·
      have f13 : R 1 1 p1 := r_ne_lo f8 (⟨by decide, by decide⟩ : R 0 0 (0 : Int32)) c10 (by decide)
      exact s_some ⟨r_w f9.1 (by decide), f9.2⟩
theorem sf_X_heir (p1 : Int32) (p2 : Int32) {h0 : PH} (i_h0 : Inv h0) : Sf (mX_heir p1 p2 h0) (fun r => R (-1) 400 r.1 ∧ Inv r.2) := by
  unfold mX_heir
  refine s_win (fun r1 f2 c1 => ?_)
  refine s_jn1 (P := fun (x3 : Int32) => R 0 1 x3) (fun x3 f18 => ?_) (fun j2 kj2 => ?_)
  ·
    refine s_jn1 (P := fun (x5 : Int32) => R 0 1 x5) (fun x5 f21 => ?_) (fun j4 kj4 => ?_)
    ·
      refine s_bd2 (sf_X_tell (30) x5 x3 p1 p2 isRF_30 i_h0) (fun r6 h7 f22 => ?_)
      exact s_some ⟨r_w f22.1 (by decide), f22.2⟩
    ·
      refine s_if (fun c23 => ?_) (fun c23 => ?_)
      ·
        have f24 : R (-1) (-1) p1 := r_eq (⟨by decide, by decide⟩ : R (-1) (-1) (-1 : Int32)) c23
        exact kj4 _ (r_w (⟨by decide, by decide⟩ : R 1 1 (1 : Int32)) (by decide))
      ·
        exact kj4 _ (r_w (⟨by decide, by decide⟩ : R 0 0 (0 : Int32)) (by decide))
  ·
    refine s_if (fun c25 => ?_) (fun c25 => ?_)
    ·
      have f26 : R 0 0 r1 := r_eq (⟨by decide, by decide⟩ : R 0 0 (0 : Int32)) c25
      exact kj2 _ (r_w (⟨by decide, by decide⟩ : R 0 0 (0 : Int32)) (by decide))
    ·
      have f27 : R 1 1 r1 := r_ne_lo f2 (⟨by decide, by decide⟩ : R 0 0 (0 : Int32)) c25 (by decide)
      have q28 := c1 c25
      have f29 : R 0 2147483647 p1 := le_lo (⟨by decide, by decide⟩ : R 0 0 (0 : Int32)) (r_full p1) q28.1
      have f30 : R 0 11 p1 := le_hi f29 (⟨by decide, by decide⟩ : R 11 11 (11 : Int32)) q28.2
      refine s_win (fun r8 f32 c31 => ?_)
      refine s_if (fun c33 => ?_) (fun c33 => ?_)
      ·
        have f34 : R 0 0 r8 := r_eq (⟨by decide, by decide⟩ : R 0 0 (0 : Int32)) c33
        exact kj2 _ (r_w (⟨by decide, by decide⟩ : R 0 0 (0 : Int32)) (by decide))
      ·
        have f35 : R 1 1 r8 := r_ne_lo f32 (⟨by decide, by decide⟩ : R 0 0 (0 : Int32)) c33 (by decide)
        have q36 := c31 c33
        have f37 : R 0 2147483647 p2 := le_lo (⟨by decide, by decide⟩ : R 0 0 (0 : Int32)) (r_full p2) q36.1
        have f38 : R 0 11 p2 := le_hi f37 (⟨by decide, by decide⟩ : R 11 11 (11 : Int32)) q36.2
        refine s_if (fun c39 => ?_) (fun c39 => ?_)
        ·
          exact kj2 _ (r_w (⟨by decide, by decide⟩ : R 0 0 (0 : Int32)) (by decide))
        ·
          exact kj2 _ (r_w (⟨by decide, by decide⟩ : R 1 1 (1 : Int32)) (by decide))
theorem sf_X_line (p1 : Int32) (p2 : Int32) {h0 : PH} (i_h0 : Inv h0) : Sf (mX_line p1 p2 h0) (fun r => R (-2147483648) 2147483647 r) := by
  unfold mX_line
  refine s_win (fun r1 f2 c1 => ?_)
  refine s_if (fun c3 => ?_) (fun c3 => ?_)
  ·
    have f4 : R 0 0 r1 := r_eq (⟨by decide, by decide⟩ : R 0 0 (0 : Int32)) c3
    exact s_some (r_w (⟨by decide, by decide⟩ : R (-1) (-1) (-1 : Int32)) (by decide))
  ·
    have f5 : R 1 1 r1 := r_ne_lo f2 (⟨by decide, by decide⟩ : R 0 0 (0 : Int32)) c3 (by decide)
    have q6 := c1 c3
    have f7 : R 0 2147483647 p1 := le_lo (⟨by decide, by decide⟩ : R 0 0 (0 : Int32)) (r_full p1) q6.1
    have f8 : R 0 11 p1 := le_hi f7 (⟨by decide, by decide⟩ : R 11 11 (11 : Int32)) q6.2
    refine s_win (fun r2 f10 c9 => ?_)
    refine s_if (fun c11 => ?_) (fun c11 => ?_)
    ·
      have f12 : R 0 0 r2 := r_eq (⟨by decide, by decide⟩ : R 0 0 (0 : Int32)) c11
      exact s_some (r_w (⟨by decide, by decide⟩ : R (-1) (-1) (-1 : Int32)) (by decide))
    ·
      have f13 : R 1 1 r2 := r_ne_lo f10 (⟨by decide, by decide⟩ : R 0 0 (0 : Int32)) c11 (by decide)
      have q14 := c9 c11
      have f15 : R 0 2147483647 p2 := le_lo (⟨by decide, by decide⟩ : R 0 0 (0 : Int32)) (r_full p2) q14.1
      have f16 : R 0 1 p2 := le_hi f15 (⟨by decide, by decide⟩ : R 1 1 (1 : Int32)) q14.2
      refine s_jn1 (P := fun (x4 : Int32) => R 0 1 x4) (fun x4 f20 => ?_) (fun j3 kj3 => ?_)
      ·
        refine s_bd (sf_K_lineOf (30) p1 x4 isR_30 i_h0) (fun r5 f21 => ?_)
        exact s_some (r_w (r_full r5) (by decide))
      ·
        refine s_if (fun c22 => ?_) (fun c22 => ?_)
        ·
          have f23 : R 0 0 p2 := r_eq (⟨by decide, by decide⟩ : R 0 0 (0 : Int32)) c22
          exact kj3 _ (r_w (⟨by decide, by decide⟩ : R 1 1 (1 : Int32)) (by decide))
        ·
          have f24 : R 1 1 p2 := r_ne_lo f16 (⟨by decide, by decide⟩ : R 0 0 (0 : Int32)) c22 (by decide)
          exact kj3 _ (r_w (⟨by decide, by decide⟩ : R 0 0 (0 : Int32)) (by decide))
theorem sf_X_window (p1 : Int32) {h0 : PH} (i_h0 : Inv h0) : Sf (mX_window p1 h0) (fun r => R (-2147483648) 2147483647 r) := by
  unfold mX_window
  refine s_win (fun r1 f2 c1 => ?_)
  refine s_if (fun c3 => ?_) (fun c3 => ?_)
  ·
    have f4 : R 0 0 r1 := r_eq (⟨by decide, by decide⟩ : R 0 0 (0 : Int32)) c3
    exact s_some (r_w (⟨by decide, by decide⟩ : R (-1) (-1) (-1 : Int32)) (by decide))
  ·
    have f5 : R 1 1 r1 := r_ne_lo f2 (⟨by decide, by decide⟩ : R 0 0 (0 : Int32)) c3 (by decide)
    have q6 := c1 c3
    have f7 : R 1 2147483647 p1 := le_lo (⟨by decide, by decide⟩ : R 1 1 (1 : Int32)) (r_full p1) q6.1
    have f8 : R 1 20 p1 := le_hi f7 (⟨by decide, by decide⟩ : R 20 20 (20 : Int32)) q6.2
    refine s_bd (sf_K_windowWays p1 (r_w f8 (by decide)) i_h0) (fun r2 f9 => ?_)
    exact s_some (r_w (r_full r2) (by decide))
theorem sf_X_member (p1 : Int32) (p2 : Int32) {h0 : PH} (i_h0 : Inv h0) : Sf (mX_member p1 p2 h0) (fun r => R (-1) 400 r.1 ∧ Inv r.2) := by
  unfold mX_member
  refine s_jn1 (P := fun (x2 : Int32) => R 0 1 x2) (fun x2 f3 => ?_) (fun j1 kj1 => ?_)
  ·
    refine s_win (fun r3 f5 c4 => ?_)
    refine s_jn1 (P := fun (x5 : Int32) => R 0 1 x5) (fun x5 f20 => ?_) (fun j4 kj4 => ?_)
    ·
      refine s_bd2 (sf_X_tell (32) x2 x5 p1 p2 isRF_32 i_h0) (fun r6 h7 f21 => ?_)
      exact s_some ⟨r_w f21.1 (by decide), f21.2⟩
    ·
      refine s_if (fun c22 => ?_) (fun c22 => ?_)
      ·
        have f23 : R 0 0 r3 := r_eq (⟨by decide, by decide⟩ : R 0 0 (0 : Int32)) c22
        exact kj4 _ (r_w (⟨by decide, by decide⟩ : R 0 0 (0 : Int32)) (by decide))
      ·
        have f24 : R 1 1 r3 := r_ne_lo f5 (⟨by decide, by decide⟩ : R 0 0 (0 : Int32)) c22 (by decide)
        have q25 := c4 c22
        have f26 : R 0 2147483647 p1 := le_lo (⟨by decide, by decide⟩ : R 0 0 (0 : Int32)) (r_full p1) q25.1
        have f27 : R 0 4095 p1 := le_hi f26 (⟨by decide, by decide⟩ : R 4095 4095 (4095 : Int32)) q25.2
        refine s_win (fun r8 f29 c28 => ?_)
        refine s_if (fun c30 => ?_) (fun c30 => ?_)
        ·
          have f31 : R 0 0 r8 := r_eq (⟨by decide, by decide⟩ : R 0 0 (0 : Int32)) c30
          exact kj4 _ (r_w (⟨by decide, by decide⟩ : R 0 0 (0 : Int32)) (by decide))
        ·
          have f32 : R 1 1 r8 := r_ne_lo f29 (⟨by decide, by decide⟩ : R 0 0 (0 : Int32)) c30 (by decide)
          have q33 := c28 c30
          have f34 : R 1 2147483647 p2 := le_lo (⟨by decide, by decide⟩ : R 1 1 (1 : Int32)) (r_full p2) q33.1
          have f35 : R 1 9 p2 := le_hi f34 (⟨by decide, by decide⟩ : R 9 9 (9 : Int32)) q33.2
          exact kj4 _ (r_w (⟨by decide, by decide⟩ : R 1 1 (1 : Int32)) (by decide))
  ·
    refine s_if (fun c36 => ?_) (fun c36 => ?_)
    ·
      have f37 : R (-1) (-1) p1 := r_eq (⟨by decide, by decide⟩ : R (-1) (-1) (-1 : Int32)) c36
      exact kj1 _ (r_w (⟨by decide, by decide⟩ : R 1 1 (1 : Int32)) (by decide))
    ·
      exact kj1 _ (r_w (⟨by decide, by decide⟩ : R 0 0 (0 : Int32)) (by decide))
theorem sf_X_council (p1 : Int32) {h0 : PH} (i_h0 : Inv h0) : Sf (mX_council p1 h0) (fun r => R (-2147483648) 2147483647 r) := by
  unfold mX_council
  refine s_win (fun r1 f2 c1 => ?_)
  refine s_if (fun c3 => ?_) (fun c3 => ?_)
  ·
    have f4 : R 0 0 r1 := r_eq (⟨by decide, by decide⟩ : R 0 0 (0 : Int32)) c3
    exact s_some (r_w (⟨by decide, by decide⟩ : R (-1) (-1) (-1 : Int32)) (by decide))
  ·
    have f5 : R 1 1 r1 := r_ne_lo f2 (⟨by decide, by decide⟩ : R 0 0 (0 : Int32)) c3 (by decide)
    have q6 := c1 c3
    have f7 : R 0 2147483647 p1 := le_lo (⟨by decide, by decide⟩ : R 0 0 (0 : Int32)) (r_full p1) q6.1
    have f8 : R 0 1 p1 := le_hi f7 (⟨by decide, by decide⟩ : R 1 1 (1 : Int32)) q6.2
    refine s_if (fun c9 => ?_) (fun c9 => ?_)
    ·
      have f10 : R 0 0 p1 := r_eq (⟨by decide, by decide⟩ : R 0 0 (0 : Int32)) c9
      refine s_bd (sf_K_agreed (32) isR_32 i_h0) (fun r2 f11 => ?_)
      exact s_some (r_w f11 (by decide))
    ·
      have f12 : R 1 1 p1 := r_ne_lo f8 (⟨by decide, by decide⟩ : R 0 0 (0 : Int32)) c9 (by decide)
      refine s_bd (sf_K_leastMajority (32) isR_32 i_h0) (fun r3 f13 => ?_)
      exact s_some (r_w (r_full r3) (by decide))
theorem sf_X_undo {h0 : PH} (i_h0 : Inv h0) : Sf (mX_undo h0) (fun r => R 0 1 r.1 ∧ Inv r.2) := by
  unfold mX_undo
  refine s_if (fun c1 => ?_) (fun c1 => ?_)
  ·
    have f2 : R 0 0 (h0 70 3) := r_eq (⟨by decide, by decide⟩ : R 0 0 (0 : Int32)) c1
    exact s_some ⟨r_w (⟨by decide, by decide⟩ : R 0 0 (0 : Int32)) (by decide), i_h0⟩
  ·
    have f3 : R 1 6 (h0 70 3) := r_ne_lo (inv_rng i_h0 rfl : R 0 6 (h0 70 3)) (⟨by decide, by decide⟩ : R 0 0 (0 : Int32)) c1 (by decide)
    refine s_bd2 (sf_P_goBack (1) ⟨rfl, rfl⟩ i_h0) (fun r1 h2 f4 => ?_)
    refine s_lt (fun h3 e5 => ?_)
    have i6 : Inv h3 := by rw [e5]; exact inv_put f4.2 rfl (r_w f4.1 (by decide))
    exact s_some ⟨r_w (⟨by decide, by decide⟩ : R 1 1 (1 : Int32)) (by decide), i6⟩
theorem sf_X_image (p1 : Int32) {h0 : PH} (i_h0 : Inv h0) : Sf (mX_image p1 h0) (fun r => R 0 1 r.1 ∧ Inv r.2) := by
  unfold mX_image
  refine s_if (fun c1 => ?_) (fun c1 => ?_)
  ·
    have f2 : R 0 0 p1 := r_eq (⟨by decide, by decide⟩ : R 0 0 (0 : Int32)) c1
    refine s_if (fun c3 => ?_) (fun c3 => ?_)
    ·
      have f4 : R 0 0 (h0 0 13) := r_eq (⟨by decide, by decide⟩ : R 0 0 (0 : Int32)) c3
      exact s_some ⟨r_w (⟨by decide, by decide⟩ : R 0 0 (0 : Int32)) (by decide), i_h0⟩
    ·
      have f5 : R 1 1 (h0 0 13) := r_ne_lo (inv_rng i_h0 rfl : R 0 1 (h0 0 13)) (⟨by decide, by decide⟩ : R 0 0 (0 : Int32)) c3 (by decide)
      refine s_bd (sf_B_copyFrom (1) (37) ⟨rfl, rfl⟩ ⟨rfl, rfl⟩ i_h0) (fun h1 f6 => ?_)
      refine s_bd (sf_O_copyFrom_5_39 f6) (fun h2 f7 => ?_)
      refine s_forget (fun h3 e8 => ?_)
      have i9 : Inv h3 := by rw [e8]; exact inv_put f7 rfl (show R 0 6 (0 : Int32) from ⟨by decide, by decide⟩)
      exact s_some ⟨r_w (⟨by decide, by decide⟩ : R 1 1 (1 : Int32)) (by decide), i9⟩
  ·
    refine s_bd (sf_B_copyFrom (37) (1) ⟨rfl, rfl⟩ ⟨rfl, rfl⟩ i_h0) (fun h4 f10 => ?_)
    refine s_bd (sf_O_copyFrom_39_5 f10) (fun h5 f11 => ?_)
    refine s_lt (fun h6 e12 => ?_)
    have i13 : Inv h6 := by rw [e12]; exact inv_put f11 rfl (r_w (⟨by decide, by decide⟩ : R 1 1 (1 : Int32)) (by decide))
    have f14 : R 1 1 (h6 0 13) := by rw [e12, up_same]; exact (⟨by decide, by decide⟩ : R 1 1 (1 : Int32))
    exact s_some ⟨r_w (⟨by decide, by decide⟩ : R 1 1 (1 : Int32)) (by decide), i13⟩
theorem sf_X_look (p1 : Int32) {h0 : PH} (i_h0 : Inv h0) : Sf (mX_look p1 h0) (fun r => R (-2147483648) 2147483647 r) := by
  unfold mX_look
  refine s_if (fun c1 => ?_) (fun c1 => ?_)
  ·
    have f2 : R 0 0 p1 := r_eq (⟨by decide, by decide⟩ : R 0 0 (0 : Int32)) c1
    exact s_some (r_w (inv_rng i_h0 rfl : R 0 12 (h0 1 1)) (by decide))
  ·
    refine s_if (fun c3 => ?_) (fun c3 => ?_)
    ·
      have f4 : R 1 1 p1 := r_eq (⟨by decide, by decide⟩ : R 1 1 (1 : Int32)) c3
      exact s_some (r_w (r_full (h0 1 2)) (by decide))
    ·
      refine s_if (fun c5 => ?_) (fun c5 => ?_)
      ·
        have f6 : R 2 2 p1 := r_eq (⟨by decide, by decide⟩ : R 2 2 (2 : Int32)) c5
        exact s_some (r_w (r_full (h0 1 3)) (by decide))
      ·
        refine s_if (fun c7 => ?_) (fun c7 => ?_)
        ·
          have f8 : R 3 3 p1 := r_eq (⟨by decide, by decide⟩ : R 3 3 (3 : Int32)) c7
          exact s_some (r_w (r_full (h0 1 4)) (by decide))
        ·
          refine s_if (fun c9 => ?_) (fun c9 => ?_)
          ·
            have f10 : R 4 4 p1 := r_eq (⟨by decide, by decide⟩ : R 4 4 (4 : Int32)) c9
            exact s_some (r_w (r_full (h0 1 5)) (by decide))
          ·
            refine s_if (fun c11 => ?_) (fun c11 => ?_)
            ·
              have f12 : R 5 5 p1 := r_eq (⟨by decide, by decide⟩ : R 5 5 (5 : Int32)) c11
              exact s_some (r_w (r_full (h0 1 6)) (by decide))
            ·
              refine s_if (fun c13 => ?_) (fun c13 => ?_)
              ·
                have f14 : R 6 6 p1 := r_eq (⟨by decide, by decide⟩ : R 6 6 (6 : Int32)) c13
                refine s_bd (sf_B_upSet (1) ⟨rfl, rfl⟩ i_h0) (fun r1 f15 => ?_)
                exact s_some (r_w f15 (by decide))
              ·
                refine s_if (fun c16 => ?_) (fun c16 => ?_)
                ·
                  have f17 : R 7 7 p1 := r_eq (⟨by decide, by decide⟩ : R 7 7 (7 : Int32)) c16
                  exact s_some (r_w (inv_rng i_h0 rfl : R 0 150 (h0 16 3)) (by decide))
                ·
                  refine s_if (fun c18 => ?_) (fun c18 => ?_)
                  ·
                    have f19 : R 8 8 p1 := r_eq (⟨by decide, by decide⟩ : R 8 8 (8 : Int32)) c18
                    exact s_some (r_w (r_full (h0 1 7)) (by decide))
                  ·
                    refine s_if (fun c20 => ?_) (fun c20 => ?_)
                    ·
                      have f21 : R 9 9 p1 := r_eq (⟨by decide, by decide⟩ : R 9 9 (9 : Int32)) c20
                      exact s_some (r_w (inv_rng i_h0 rfl : R 0 16 (h0 6 3)) (by decide))
                    ·
                      refine s_if (fun c22 => ?_) (fun c22 => ?_)
                      ·
                        have f23 : R 10 10 p1 := r_eq (⟨by decide, by decide⟩ : R 10 10 (10 : Int32)) c22
                        exact s_some (r_w (inv_rng i_h0 rfl : R 0 16 (h0 10 3)) (by decide))
                      ·
                        refine s_if (fun c24 => ?_) (fun c24 => ?_)
                        ·
                          have f25 : R 11 11 p1 := r_eq (⟨by decide, by decide⟩ : R 11 11 (11 : Int32)) c24
                          exact s_some (r_w (inv_rng i_h0 rfl : R 0 16 (h0 12 3)) (by decide))
                        ·
                          refine s_if (fun c26 => ?_) (fun c26 => ?_)
                          ·
                            have f27 : R 12 12 p1 := r_eq (⟨by decide, by decide⟩ : R 12 12 (12 : Int32)) c26
                            exact s_some (r_w (inv_rng i_h0 rfl : R 0 16 (h0 14 3)) (by decide))
                          ·
                            refine s_if (fun c28 => ?_) (fun c28 => ?_)
                            ·
                              have f29 : R 13 13 p1 := r_eq (⟨by decide, by decide⟩ : R 13 13 (13 : Int32)) c28
                              exact s_some (r_w (inv_rng i_h0 rfl : R 0 6 (h0 70 3)) (by decide))
                            ·
                              exact s_some (r_w (⟨by decide, by decide⟩ : R (-1) (-1) (-1 : Int32)) (by decide))
