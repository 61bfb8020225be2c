/-! THE CLASS'S IMAGE: rows and boroughs copied -/
theorem cpy_at (h : PH) (a1 a0 n b j : Nat) : cpy h a1 a0 0 0 n b j = if b = a0 then (if j < n then h a1 j else h a0 j) else h b j := by
  unfold cpy setC
  by_cases e : b = a0
  · subst e
    rw [if_pos rfl, if_pos rfl]
    unfold va_cpy
    by_cases c : j < n
    · rw [if_pos ⟨by omega, by omega⟩, if_pos c, show 0 + (j - 0) = j by omega]
    · rw [if_neg (by omega), if_neg c]
  · rw [if_neg e, if_neg e]
def CP (a0 a1 w : Nat) (h g : PH) : Prop := (∀ b, b ≠ a0 → b ≠ a0 + 1 → g b = h b) ∧ g a0 3 = h a1 3 ∧ (∀ j, j ≠ 3 → g a0 j = h a0 j) ∧ ∀ j, j < (h a1 3).toNatClampNeg * w → g (a0 + 1) j = h (a1 + 1) j
theorem cp_R (a0 a1 m w : Nat) (hs : sp a0 = spR m w) (hs' : sp a1 = spR m w) (hl : ln (a0 + 1) = m * w) (hl' : ln (a1 + 1) = m * w) (hm : m ≤ 400) (hw5 : w ≤ 5) (n1 : a1 ≠ a0 + 1) {h : PH} (i : Inv h) : ∃ g, mR_copyFrom a0 a1 h = some g ∧ CP a0 a1 w h g := by
  obtain ⟨q0, q1, q2, q3⟩ := rows_i hs i
  obtain ⟨p0, p1, p2, p3⟩ := rows_i hs' i
  unfold mR_copyFrom
  rw [lt_e]
  generalize e1 : h a1 3 * h a1 1 = x1
  have pos : 0 ≤ (h a1 3).toInt * (w : Int) := Int.mul_nonneg (by omega) (by omega)
  have le1 : (h a1 3).toInt * (w : Int) ≤ m * w := Int.mul_le_mul_of_nonneg_right p3 (by omega)
  have big := mw_big hm hw5
  have ex : x1.toInt = (h a1 3).toInt * (w : Int) := by rw [← e1]; exact mul_small rfl p1 pos (by omega)
  have en : ((ln (a0 + 1) : Nat) : Int) = (m : Int) * (w : Int) := by rw [hl]; exact Int.natCast_mul m w
  have en' : ((ln (a1 + 1) : Nat) : Int) = (m : Int) * (w : Int) := by rw [hl']; exact Int.natCast_mul m w
  have cw : h a1 1 = h a0 1 := Int32.toInt_inj.mp (by rw [p1, q1])
  have eL : (Int32.ofNat (ln (a0 + 1))).toInt = ((ln (a0 + 1) : Nat) : Int) := nI_toInt (by omega)
  have hx : ((ix x1 : Nat) : Int) = x1.toInt := clamp_int (by omega)
  have hc : (((h a1 3).toNatClampNeg : Nat) : Int) = (h a1 3).toInt := clamp_int (by omega)
  have ixx : ix x1 = (h a1 3).toNatClampNeg * w := by
    have : ((((h a1 3).toNatClampNeg * w : Nat)) : Int) = (h a1 3).toInt * (w : Int) := by rw [Int.natCast_mul, hc]
    omega
  have hcc : ∀ {ρ : Type} (k : Option ρ), cc (ln (a1 + 1)) (ln (a0 + 1)) 0 0 x1 k = k := by
    intro ρ k
    unfold cc
    refine if_neg ?_
    have h00 : ix (0 : Int32) = 0 := rfl
    rintro (q | q | q | q | q)
    · exact absurd q (by decide)
    · exact absurd q (by decide)
    · rw [Int32.lt_iff_toInt_lt] at q
      simp only [show (0 : Int32).toInt = 0 from rfl] at q
      omega
    · rw [h00] at q; omega
    · rw [h00] at q; omega
  have n2 : ¬ Int32.ofNat (ln (a0 + 1)) < x1 := by
    rw [Int32.lt_iff_toInt_lt, eL, en]
    omega
  rw [if_pos cw, if_neg n2, hcc, lt_e, lt_e, ixx, show ix (0 : Int32) = 0 from rfl]
  refine ⟨_, rfl, fun b hb hb1 => ?_, ?_, fun j hj => ?_, fun j hj => ?_⟩
  · funext j
    rw [up_oc hb, cpy_at, if_neg hb1]
  · rw [up_same, cpy_at, if_neg n1]
  · rw [up_oj hj, cpy_at, if_neg (by omega)]
  · rw [up_oc (by omega), cpy_at, if_pos rfl, if_pos hj]
def widT (k : Nat) : Nat := [5, 2, 5, 5, 5, 4, 1, 1, 1, 2, 1, 2, 2, 2].getD k 0
def TCp (A B K : Nat) (h g : PH) : Prop := (∀ b, (b ≤ A ∨ A + 2 * K < b) → g b = h b) ∧ (∀ k, k < K → g (A + 1 + 2 * k) 3 = h (B + 1 + 2 * k) 3 ∧ ∀ j, j < (h (B + 1 + 2 * k) 3).toNatClampNeg * widT k → g (A + 2 + 2 * k) j = h (B + 2 + 2 * k) j) ∧ ∀ k j, k < 14 → j ≠ 3 → g (A + 1 + 2 * k) j = h (A + 1 + 2 * k) j
theorem tcp_step {A B K : Nat} {h g g' : PH} (hK : K < 14) (hAB : A + 28 < B ∨ B + 28 < A) (st : TCp A B K h g) (c : CP (A + 1 + 2 * K) (B + 1 + 2 * K) (widT K) g g') : TCp A B (K + 1) h g' := by
  obtain ⟨s1, s2, s3⟩ := st
  obtain ⟨c1, c2, c3, c4⟩ := c
  have b1 : g (B + 1 + 2 * K) = h (B + 1 + 2 * K) := s1 _ (by omega)
  have b2 : g (B + 1 + 2 * K + 1) = h (B + 1 + 2 * K + 1) := s1 _ (by omega)
  refine ⟨fun b hb => ?_, fun k hk => ?_, fun k j hk hj => ?_⟩
  · rw [c1 b (by omega) (by omega)]
    exact s1 b (by omega)
  · by_cases e : k = K
    · subst e
      refine ⟨by rw [c2, b1], fun j hj => ?_⟩
      have := c4 j (by rw [b1]; exact hj)
      rw [b2] at this
      rw [show A + 2 + 2 * k = A + 1 + 2 * k + 1 by omega, show B + 2 + 2 * k = B + 1 + 2 * k + 1 by omega]
      exact this
    · obtain ⟨d1, d2⟩ := s2 k (by omega)
      rw [c1 (A + 1 + 2 * k) (by omega) (by omega), c1 (A + 2 + 2 * k) (by omega) (by omega)]
      exact ⟨d1, d2⟩
  · by_cases e : k = K
    · subst e
      rw [c3 j hj]
      exact s3 k j hk hj
    · rw [c1 (A + 1 + 2 * k) (by omega) (by omega)]
      exact s3 k j hk hj
theorem tc_5_39 {h : PH} (i : Inv h) : ∃ g, mO_copyFrom 5 39 h = some g ∧ Inv g ∧ TCp 5 39 14 h g := by
  unfold mO_copyFrom
  have st0 : TCp 5 39 0 h h := ⟨fun _ _ => rfl, fun k hk => by omega, fun _ _ _ _ => rfl⟩
  have i0 := i
  obtain ⟨h1, e1, c1⟩ := cp_R 6 40 16 5 rfl rfl rfl rfl (by decide) (by decide) (by decide) i0
  have i1 : Inv h1 := by
    obtain ⟨g, eg, ig⟩ := sf_R_copyFrom 6 40 isR_6 isR_40 i0
    rw [e1] at eg
    cases eg
    exact ig
  have st1 : TCp 5 39 1 h h1 := tcp_step (K := 0) (by decide) (by decide) st0 c1
  obtain ⟨h2, e2, c2⟩ := cp_R 8 42 400 2 rfl rfl rfl rfl (by decide) (by decide) (by decide) i1
  have i2 : Inv h2 := by
    obtain ⟨g, eg, ig⟩ := sf_R_copyFrom 8 42 isR_8 isR_42 i1
    rw [e2] at eg
    cases eg
    exact ig
  have st2 : TCp 5 39 2 h h2 := tcp_step (K := 1) (by decide) (by decide) st1 c2
  obtain ⟨h3, e3, c3⟩ := cp_R 10 44 16 5 rfl rfl rfl rfl (by decide) (by decide) (by decide) i2
  have i3 : Inv h3 := by
    obtain ⟨g, eg, ig⟩ := sf_R_copyFrom 10 44 isR_10 isR_44 i2
    rw [e3] at eg
    cases eg
    exact ig
  have st3 : TCp 5 39 3 h h3 := tcp_step (K := 2) (by decide) (by decide) st2 c3
  obtain ⟨h4, e4, c4⟩ := cp_R 12 46 16 5 rfl rfl rfl rfl (by decide) (by decide) (by decide) i3
  have i4 : Inv h4 := by
    obtain ⟨g, eg, ig⟩ := sf_R_copyFrom 12 46 isR_12 isR_46 i3
    rw [e4] at eg
    cases eg
    exact ig
  have st4 : TCp 5 39 4 h h4 := tcp_step (K := 3) (by decide) (by decide) st3 c4
  obtain ⟨h5, e5, c5⟩ := cp_R 14 48 16 5 rfl rfl rfl rfl (by decide) (by decide) (by decide) i4
  have i5 : Inv h5 := by
    obtain ⟨g, eg, ig⟩ := sf_R_copyFrom 14 48 isR_14 isR_48 i4
    rw [e5] at eg
    cases eg
    exact ig
  have st5 : TCp 5 39 5 h h5 := tcp_step (K := 4) (by decide) (by decide) st4 c5
  obtain ⟨h6, e6, c6⟩ := cp_R 16 50 150 4 rfl rfl rfl rfl (by decide) (by decide) (by decide) i5
  have i6 : Inv h6 := by
    obtain ⟨g, eg, ig⟩ := sf_R_copyFrom 16 50 isR_16 isR_50 i5
    rw [e6] at eg
    cases eg
    exact ig
  have st6 : TCp 5 39 6 h h6 := tcp_step (K := 5) (by decide) (by decide) st5 c6
  obtain ⟨h7, e7, c7⟩ := cp_R 18 52 9 1 rfl rfl rfl rfl (by decide) (by decide) (by decide) i6
  have i7 : Inv h7 := by
    obtain ⟨g, eg, ig⟩ := sf_R_copyFrom 18 52 isR_18 isR_52 i6
    rw [e7] at eg
    cases eg
    exact ig
  have st7 : TCp 5 39 7 h h7 := tcp_step (K := 6) (by decide) (by decide) st6 c7
  obtain ⟨h8, e8, c8⟩ := cp_R 20 54 8 1 rfl rfl rfl rfl (by decide) (by decide) (by decide) i7
  have i8 : Inv h8 := by
    obtain ⟨g, eg, ig⟩ := sf_R_copyFrom 20 54 isR_20 isR_54 i7
    rw [e8] at eg
    cases eg
    exact ig
  have st8 : TCp 5 39 8 h h8 := tcp_step (K := 7) (by decide) (by decide) st7 c8
  obtain ⟨h9, e9, c9⟩ := cp_R 22 56 5 1 rfl rfl rfl rfl (by decide) (by decide) (by decide) i8
  have i9 : Inv h9 := by
    obtain ⟨g, eg, ig⟩ := sf_R_copyFrom 22 56 isR_22 isR_56 i8
    rw [e9] at eg
    cases eg
    exact ig
  have st9 : TCp 5 39 9 h h9 := tcp_step (K := 8) (by decide) (by decide) st8 c9
  obtain ⟨h10, e10, c10⟩ := cp_R 24 58 8 2 rfl rfl rfl rfl (by decide) (by decide) (by decide) i9
  have i10 : Inv h10 := by
    obtain ⟨g, eg, ig⟩ := sf_R_copyFrom 24 58 isR_24 isR_58 i9
    rw [e10] at eg
    cases eg
    exact ig
  have st10 : TCp 5 39 10 h h10 := tcp_step (K := 9) (by decide) (by decide) st9 c10
  obtain ⟨h11, e11, c11⟩ := cp_R 26 60 16 1 rfl rfl rfl rfl (by decide) (by decide) (by decide) i10
  have i11 : Inv h11 := by
    obtain ⟨g, eg, ig⟩ := sf_R_copyFrom 26 60 isR_26 isR_60 i10
    rw [e11] at eg
    cases eg
    exact ig
  have st11 : TCp 5 39 11 h h11 := tcp_step (K := 10) (by decide) (by decide) st10 c11
  obtain ⟨h12, e12, c12⟩ := cp_R 28 62 6 2 rfl rfl rfl rfl (by decide) (by decide) (by decide) i11
  have i12 : Inv h12 := by
    obtain ⟨g, eg, ig⟩ := sf_R_copyFrom 28 62 isR_28 isR_62 i11
    rw [e12] at eg
    cases eg
    exact ig
  have st12 : TCp 5 39 12 h h12 := tcp_step (K := 11) (by decide) (by decide) st11 c12
  obtain ⟨h13, e13, c13⟩ := cp_R 30 64 12 2 rfl rfl rfl rfl (by decide) (by decide) (by decide) i12
  have i13 : Inv h13 := by
    obtain ⟨g, eg, ig⟩ := sf_R_copyFrom 30 64 isR_30 isR_64 i12
    rw [e13] at eg
    cases eg
    exact ig
  have st13 : TCp 5 39 13 h h13 := tcp_step (K := 12) (by decide) (by decide) st12 c13
  obtain ⟨h14, e14, c14⟩ := cp_R 32 66 8 2 rfl rfl rfl rfl (by decide) (by decide) (by decide) i13
  have i14 : Inv h14 := by
    obtain ⟨g, eg, ig⟩ := sf_R_copyFrom 32 66 isR_32 isR_66 i13
    rw [e14] at eg
    cases eg
    exact ig
  have st14 : TCp 5 39 14 h h14 := tcp_step (K := 13) (by decide) (by decide) st13 c14
  refine ⟨h14, ?_, i14, st14⟩
  refine Eq.trans (congrArg (fun z => bd z _) e1) ?_
  refine Eq.trans (bd_e _ _) ?_
  refine Eq.trans (congrArg (fun z => bd z _) e2) ?_
  refine Eq.trans (bd_e _ _) ?_
  refine Eq.trans (congrArg (fun z => bd z _) e3) ?_
  refine Eq.trans (bd_e _ _) ?_
  refine Eq.trans (congrArg (fun z => bd z _) e4) ?_
  refine Eq.trans (bd_e _ _) ?_
  refine Eq.trans (congrArg (fun z => bd z _) e5) ?_
  refine Eq.trans (bd_e _ _) ?_
  refine Eq.trans (congrArg (fun z => bd z _) e6) ?_
  refine Eq.trans (bd_e _ _) ?_
  refine Eq.trans (congrArg (fun z => bd z _) e7) ?_
  refine Eq.trans (bd_e _ _) ?_
  refine Eq.trans (congrArg (fun z => bd z _) e8) ?_
  refine Eq.trans (bd_e _ _) ?_
  refine Eq.trans (congrArg (fun z => bd z _) e9) ?_
  refine Eq.trans (bd_e _ _) ?_
  refine Eq.trans (congrArg (fun z => bd z _) e10) ?_
  refine Eq.trans (bd_e _ _) ?_
  refine Eq.trans (congrArg (fun z => bd z _) e11) ?_
  refine Eq.trans (bd_e _ _) ?_
  refine Eq.trans (congrArg (fun z => bd z _) e12) ?_
  refine Eq.trans (bd_e _ _) ?_
  refine Eq.trans (congrArg (fun z => bd z _) e13) ?_
  refine Eq.trans (bd_e _ _) ?_
  refine Eq.trans (congrArg (fun z => bd z _) e14) ?_
  refine Eq.trans (bd_e _ _) ?_
  rfl
theorem tc_39_5 {h : PH} (i : Inv h) : ∃ g, mO_copyFrom 39 5 h = some g ∧ Inv g ∧ TCp 39 5 14 h g := by
  unfold mO_copyFrom
  have st0 : TCp 39 5 0 h h := ⟨fun _ _ => rfl, fun k hk => by omega, fun _ _ _ _ => rfl⟩
  have i0 := i
  obtain ⟨h1, e1, c1⟩ := cp_R 40 6 16 5 rfl rfl rfl rfl (by decide) (by decide) (by decide) i0
  have i1 : Inv h1 := by
    obtain ⟨g, eg, ig⟩ := sf_R_copyFrom 40 6 isR_40 isR_6 i0
    rw [e1] at eg
    cases eg
    exact ig
  have st1 : TCp 39 5 1 h h1 := tcp_step (K := 0) (by decide) (by decide) st0 c1
  obtain ⟨h2, e2, c2⟩ := cp_R 42 8 400 2 rfl rfl rfl rfl (by decide) (by decide) (by decide) i1
  have i2 : Inv h2 := by
    obtain ⟨g, eg, ig⟩ := sf_R_copyFrom 42 8 isR_42 isR_8 i1
    rw [e2] at eg
    cases eg
    exact ig
  have st2 : TCp 39 5 2 h h2 := tcp_step (K := 1) (by decide) (by decide) st1 c2
  obtain ⟨h3, e3, c3⟩ := cp_R 44 10 16 5 rfl rfl rfl rfl (by decide) (by decide) (by decide) i2
  have i3 : Inv h3 := by
    obtain ⟨g, eg, ig⟩ := sf_R_copyFrom 44 10 isR_44 isR_10 i2
    rw [e3] at eg
    cases eg
    exact ig
  have st3 : TCp 39 5 3 h h3 := tcp_step (K := 2) (by decide) (by decide) st2 c3
  obtain ⟨h4, e4, c4⟩ := cp_R 46 12 16 5 rfl rfl rfl rfl (by decide) (by decide) (by decide) i3
  have i4 : Inv h4 := by
    obtain ⟨g, eg, ig⟩ := sf_R_copyFrom 46 12 isR_46 isR_12 i3
    rw [e4] at eg
    cases eg
    exact ig
  have st4 : TCp 39 5 4 h h4 := tcp_step (K := 3) (by decide) (by decide) st3 c4
  obtain ⟨h5, e5, c5⟩ := cp_R 48 14 16 5 rfl rfl rfl rfl (by decide) (by decide) (by decide) i4
  have i5 : Inv h5 := by
    obtain ⟨g, eg, ig⟩ := sf_R_copyFrom 48 14 isR_48 isR_14 i4
    rw [e5] at eg
    cases eg
    exact ig
  have st5 : TCp 39 5 5 h h5 := tcp_step (K := 4) (by decide) (by decide) st4 c5
  obtain ⟨h6, e6, c6⟩ := cp_R 50 16 150 4 rfl rfl rfl rfl (by decide) (by decide) (by decide) i5
  have i6 : Inv h6 := by
    obtain ⟨g, eg, ig⟩ := sf_R_copyFrom 50 16 isR_50 isR_16 i5
    rw [e6] at eg
    cases eg
    exact ig
  have st6 : TCp 39 5 6 h h6 := tcp_step (K := 5) (by decide) (by decide) st5 c6
  obtain ⟨h7, e7, c7⟩ := cp_R 52 18 9 1 rfl rfl rfl rfl (by decide) (by decide) (by decide) i6
  have i7 : Inv h7 := by
    obtain ⟨g, eg, ig⟩ := sf_R_copyFrom 52 18 isR_52 isR_18 i6
    rw [e7] at eg
    cases eg
    exact ig
  have st7 : TCp 39 5 7 h h7 := tcp_step (K := 6) (by decide) (by decide) st6 c7
  obtain ⟨h8, e8, c8⟩ := cp_R 54 20 8 1 rfl rfl rfl rfl (by decide) (by decide) (by decide) i7
  have i8 : Inv h8 := by
    obtain ⟨g, eg, ig⟩ := sf_R_copyFrom 54 20 isR_54 isR_20 i7
    rw [e8] at eg
    cases eg
    exact ig
  have st8 : TCp 39 5 8 h h8 := tcp_step (K := 7) (by decide) (by decide) st7 c8
  obtain ⟨h9, e9, c9⟩ := cp_R 56 22 5 1 rfl rfl rfl rfl (by decide) (by decide) (by decide) i8
  have i9 : Inv h9 := by
    obtain ⟨g, eg, ig⟩ := sf_R_copyFrom 56 22 isR_56 isR_22 i8
    rw [e9] at eg
    cases eg
    exact ig
  have st9 : TCp 39 5 9 h h9 := tcp_step (K := 8) (by decide) (by decide) st8 c9
  obtain ⟨h10, e10, c10⟩ := cp_R 58 24 8 2 rfl rfl rfl rfl (by decide) (by decide) (by decide) i9
  have i10 : Inv h10 := by
    obtain ⟨g, eg, ig⟩ := sf_R_copyFrom 58 24 isR_58 isR_24 i9
    rw [e10] at eg
    cases eg
    exact ig
  have st10 : TCp 39 5 10 h h10 := tcp_step (K := 9) (by decide) (by decide) st9 c10
  obtain ⟨h11, e11, c11⟩ := cp_R 60 26 16 1 rfl rfl rfl rfl (by decide) (by decide) (by decide) i10
  have i11 : Inv h11 := by
    obtain ⟨g, eg, ig⟩ := sf_R_copyFrom 60 26 isR_60 isR_26 i10
    rw [e11] at eg
    cases eg
    exact ig
  have st11 : TCp 39 5 11 h h11 := tcp_step (K := 10) (by decide) (by decide) st10 c11
  obtain ⟨h12, e12, c12⟩ := cp_R 62 28 6 2 rfl rfl rfl rfl (by decide) (by decide) (by decide) i11
  have i12 : Inv h12 := by
    obtain ⟨g, eg, ig⟩ := sf_R_copyFrom 62 28 isR_62 isR_28 i11
    rw [e12] at eg
    cases eg
    exact ig
  have st12 : TCp 39 5 12 h h12 := tcp_step (K := 11) (by decide) (by decide) st11 c12
  obtain ⟨h13, e13, c13⟩ := cp_R 64 30 12 2 rfl rfl rfl rfl (by decide) (by decide) (by decide) i12
  have i13 : Inv h13 := by
    obtain ⟨g, eg, ig⟩ := sf_R_copyFrom 64 30 isR_64 isR_30 i12
    rw [e13] at eg
    cases eg
    exact ig
  have st13 : TCp 39 5 13 h h13 := tcp_step (K := 12) (by decide) (by decide) st12 c13
  obtain ⟨h14, e14, c14⟩ := cp_R 66 32 8 2 rfl rfl rfl rfl (by decide) (by decide) (by decide) i13
  have i14 : Inv h14 := by
    obtain ⟨g, eg, ig⟩ := sf_R_copyFrom 66 32 isR_66 isR_32 i13
    rw [e14] at eg
    cases eg
    exact ig
  have st14 : TCp 39 5 14 h h14 := tcp_step (K := 13) (by decide) (by decide) st13 c14
  refine ⟨h14, ?_, i14, st14⟩
  refine Eq.trans (congrArg (fun z => bd z _) e1) ?_
  refine Eq.trans (bd_e _ _) ?_
  refine Eq.trans (congrArg (fun z => bd z _) e2) ?_
  refine Eq.trans (bd_e _ _) ?_
  refine Eq.trans (congrArg (fun z => bd z _) e3) ?_
  refine Eq.trans (bd_e _ _) ?_
  refine Eq.trans (congrArg (fun z => bd z _) e4) ?_
  refine Eq.trans (bd_e _ _) ?_
  refine Eq.trans (congrArg (fun z => bd z _) e5) ?_
  refine Eq.trans (bd_e _ _) ?_
  refine Eq.trans (congrArg (fun z => bd z _) e6) ?_
  refine Eq.trans (bd_e _ _) ?_
  refine Eq.trans (congrArg (fun z => bd z _) e7) ?_
  refine Eq.trans (bd_e _ _) ?_
  refine Eq.trans (congrArg (fun z => bd z _) e8) ?_
  refine Eq.trans (bd_e _ _) ?_
  refine Eq.trans (congrArg (fun z => bd z _) e9) ?_
  refine Eq.trans (bd_e _ _) ?_
  refine Eq.trans (congrArg (fun z => bd z _) e10) ?_
  refine Eq.trans (bd_e _ _) ?_
  refine Eq.trans (congrArg (fun z => bd z _) e11) ?_
  refine Eq.trans (bd_e _ _) ?_
  refine Eq.trans (congrArg (fun z => bd z _) e12) ?_
  refine Eq.trans (bd_e _ _) ?_
  refine Eq.trans (congrArg (fun z => bd z _) e13) ?_
  refine Eq.trans (bd_e _ _) ?_
  refine Eq.trans (congrArg (fun z => bd z _) e14) ?_
  refine Eq.trans (bd_e _ _) ?_
  rfl
theorem bc_1_37 (h : PH) : ∃ g, mB_copyFrom 1 37 h = some g ∧ (∀ c, c ≠ 1 → c ≠ 2 → g c = h c) ∧ (∀ j, 1 ≤ j → j ≤ 7 → g 1 j = h 37 j) ∧ ∀ j, j < 132 → g 2 j = h 38 j := by
  unfold mB_copyFrom
  have hcc : ∀ {ρ : Type} (k : Option ρ), cc 132 132 0 0 132 k = k := fun k => if_neg (by decide)
  rw [hcc, lt_e, lt_e, lt_e, lt_e, lt_e, lt_e, lt_e, lt_e, show ix (0 : Int32) = 0 from rfl, show ix (132 : Int32) = 132 from rfl]
  refine ⟨_, rfl, fun c h1 h2 => ?_, fun j h1 h2 => ?_, fun j hj => ?_⟩
  · funext j
    rw [up_oc h1, up_oc h1, up_oc h1, up_oc h1, up_oc h1, up_oc h1, up_oc h1, cpy_at, if_neg h2]
  · have h7 : j = 1 ∨ j = 2 ∨ j = 3 ∨ j = 4 ∨ j = 5 ∨ j = 6 ∨ j = 7 := by omega
    rcases h7 with rfl | rfl | rfl | rfl | rfl | rfl | rfl <;> simp [up_at, cpy_at]
  · simp [up_at, cpy_at, hj]
theorem bc_37_1 (h : PH) : ∃ g, mB_copyFrom 37 1 h = some g ∧ (∀ c, c ≠ 37 → c ≠ 38 → g c = h c) ∧ (∀ j, 1 ≤ j → j ≤ 7 → g 37 j = h 1 j) ∧ ∀ j, j < 132 → g 38 j = h 2 j := by
  unfold mB_copyFrom
  have hcc : ∀ {ρ : Type} (k : Option ρ), cc 132 132 0 0 132 k = k := fun k => if_neg (by decide)
  rw [hcc, lt_e, lt_e, lt_e, lt_e, lt_e, lt_e, lt_e, lt_e, show ix (0 : Int32) = 0 from rfl, show ix (132 : Int32) = 132 from rfl]
  refine ⟨_, rfl, fun c h1 h2 => ?_, fun j h1 h2 => ?_, fun j hj => ?_⟩
  · funext j
    rw [up_oc h1, up_oc h1, up_oc h1, up_oc h1, up_oc h1, up_oc h1, up_oc h1, cpy_at, if_neg h2]
  · have h7 : j = 1 ∨ j = 2 ∨ j = 3 ∨ j = 4 ∨ j = 5 ∨ j = 6 ∨ j = 7 := by omega
    rcases h7 with rfl | rfl | rfl | rfl | rfl | rfl | rfl <;> simp [up_at, cpy_at]
  · simp [up_at, cpy_at, hj]
theorem xi_back (h : PH) (i : Inv h) (hp : ¬ h 0 13 = 0) : ∃ g, mX_image 0 h = some (1, g) ∧ (∀ k, k < 14 → g (6 + 2 * k) 3 = h (40 + 2 * k) 3 ∧ ∀ j, j < (h (40 + 2 * k) 3).toNatClampNeg * widT k → g (7 + 2 * k) j = h (41 + 2 * k) j) ∧ (∀ j, 1 ≤ j → j ≤ 7 → g 1 j = h 37 j) ∧ (∀ j, j < 132 → g 2 j = h 38 j) ∧ (∀ b, 33 < b → b ≠ 70 → g b = h b) ∧ g 0 = h 0 ∧ g 70 3 = 0 := by
  obtain ⟨h1, e1, f1, f2, f3⟩ := bc_1_37 h
  have i1 : Inv h1 := by
    obtain ⟨g, eg, ig⟩ := sf_B_copyFrom 1 37 ⟨rfl, rfl⟩ ⟨rfl, rfl⟩ i
    rw [e1] at eg
    cases eg
    exact ig
  obtain ⟨h2, e2, i2, t1, t2, t3⟩ := tc_5_39 i1
  refine ⟨up h2 70 3 0, ?_, fun k hk => ?_, fun j a b => ?_, fun j a => ?_, fun b hb h70 => ?_, ?_, up_same⟩
  · unfold mX_image
    rw [if_pos rfl, if_neg hp, e1, bd_e, e2, bd_e]
    unfold mP_forget
    rw [lt_e, bd_e]
  · obtain ⟨d1, d2⟩ := t2 k hk
    rw [show 5 + 1 + 2 * k = 6 + 2 * k by omega, show 39 + 1 + 2 * k = 40 + 2 * k by omega] at d1
    rw [show 5 + 2 + 2 * k = 7 + 2 * k by omega, show 39 + 2 + 2 * k = 41 + 2 * k by omega, show 39 + 1 + 2 * k = 40 + 2 * k by omega] at d2
    rw [f1 (40 + 2 * k) (by omega) (by omega)] at d1 d2
    rw [f1 (41 + 2 * k) (by omega) (by omega)] at d2
    refine ⟨by rw [up_oc (by omega)]; exact d1, fun j hj => by rw [up_oc (by omega)]; exact d2 j hj⟩
  · rw [up_oc (by decide), t1 1 (by decide)]; exact f2 j a b
  · rw [up_oc (by decide), t1 2 (by decide)]; exact f3 j a
  · rw [up_cell h70, t1 b (by omega), f1 b (by omega) (by omega)]
  · rw [up_cell (by decide), t1 0 (by decide), f1 0 (by decide) (by decide)]
theorem xi_take (p : Int32) (hp : ¬ p = 0) (h : PH) (i : Inv h) : ∃ g, mX_image p h = some (1, g) ∧ (∀ k, k < 14 → g (40 + 2 * k) 3 = h (6 + 2 * k) 3 ∧ ∀ j, j < (h (6 + 2 * k) 3).toNatClampNeg * widT k → g (41 + 2 * k) j = h (7 + 2 * k) j) ∧ (∀ j, 1 ≤ j → j ≤ 7 → g 37 j = h 1 j) ∧ (∀ j, j < 132 → g 38 j = h 2 j) ∧ (∀ b, b ≠ 0 → b < 37 ∨ 67 < b → g b = h b) ∧ g 0 13 = 1 := by
  obtain ⟨h1, e1, f1, f2, f3⟩ := bc_37_1 h
  have i1 : Inv h1 := by
    obtain ⟨g, eg, ig⟩ := sf_B_copyFrom 37 1 ⟨rfl, rfl⟩ ⟨rfl, rfl⟩ i
    rw [e1] at eg
    cases eg
    exact ig
  obtain ⟨h2, e2, i2, t1, t2, t3⟩ := tc_39_5 i1
  refine ⟨up h2 0 13 1, ?_, fun k hk => ?_, fun j a b => ?_, fun j a => ?_, fun b h0 hb => ?_, up_same⟩
  · unfold mX_image
    rw [if_neg hp, e1, bd_e, e2, bd_e, lt_e]
  · obtain ⟨d1, d2⟩ := t2 k hk
    rw [show 39 + 1 + 2 * k = 40 + 2 * k by omega, show 5 + 1 + 2 * k = 6 + 2 * k by omega] at d1
    rw [show 39 + 2 + 2 * k = 41 + 2 * k by omega, show 5 + 2 + 2 * k = 7 + 2 * k by omega, show 5 + 1 + 2 * k = 6 + 2 * k by omega] at d2
    rw [f1 (6 + 2 * k) (by omega) (by omega)] at d1 d2
    rw [f1 (7 + 2 * k) (by omega) (by omega)] at d2
    refine ⟨by rw [up_oc (by omega)]; exact d1, fun j hj => by rw [up_oc (by omega)]; exact d2 j hj⟩
  · rw [up_oc (by decide), t1 37 (by decide)]; exact f2 j a b
  · rw [up_oc (by decide), t1 38 (by decide)]; exact f3 j a
  · rw [up_cell h0, t1 b (by omega), f1 b (by omega) (by omega)]
