def mm_isIn (p1 : Int32) (p2 : Int32) (p3 : Int32) (h0 : PH) : Option (Int32) :=
  if p1 < p2 then
    some 0
  else
    if p3 < p1 then
      some 0
    else
      some 1
theorem ctm_isIn (G : GG) (d : Nat) (p1 : Int32) (p2 : Int32) (p3 : Int32) (h0 : PH) (r : Int32) (hm : mm_isIn p1 p2 p3 h0 = some r) : Kx G tm_isIn d [.ref (gB G + 104), .int p1, .int p2, .int p3] h0 (some (.int r)) h0 := by
  refine K_of_V (by decide) (by simp [cat_i, cat_r, fmtV_cat]) (by simp [tm_isIn]) ?_
  change Vx G tm_isIn d 0 [some (.ref (gB G + 104)), some (.int p1), some (.int p2), some (.int p3)] [] h0 (some (.int r)) h0
  unfold mm_isIn at hm
  refine v_ild_1 dm_isIn_0 ?_
  refine v_ild_2 dm_isIn_1 ?_
  refine v_cmp_lt dm_isIn_2 (fun hc => ?_) (fun hc => ?_)
  · replace hm := it hc hm
    refine v_iconst (x := 0) dm_isIn_14 rfl ?_
    cases hm
    exact v_zret0 dm_isIn_15 rfl
  · replace hm := ie hc hm
    refine v_ild_1 dm_isIn_5 ?_
    refine v_ild_3 dm_isIn_6 ?_
    refine v_cmp_gt dm_isIn_7 (fun hc => ?_) (fun hc => ?_)
    · replace hm := it hc hm
      refine v_iconst (x := 0) dm_isIn_14 rfl ?_
      cases hm
      exact v_zret0 dm_isIn_15 rfl
    · replace hm := ie hc hm
      refine v_iconst (x := 1) dm_isIn_10 rfl ?_
      refine v_goto dm_isIn_11 ?_
      cases hm
      exact v_zret1 dm_isIn_15 rfl
def mm_held (p1 : Int32) (p2 : Int32) (p3 : Int32) (h0 : PH) : Option (Int32) :=
  if p2 ≤ p1 then
    if p1 ≤ p3 then
      some p1
    else
      some p3
  else
    some p2
theorem ctm_held (G : GG) (d : Nat) (p1 : Int32) (p2 : Int32) (p3 : Int32) (h0 : PH) (r : Int32) (hm : mm_held p1 p2 p3 h0 = some r) : Kx G tm_held d [.ref (gB G + 104), .int p1, .int p2, .int p3] h0 (some (.int r)) h0 := by
  refine K_of_V (by decide) (by simp [cat_i, cat_r, fmtV_cat]) (by simp [tm_held]) ?_
  change Vx G tm_held d 0 [some (.ref (gB G + 104)), some (.int p1), some (.int p2), some (.int p3)] [] h0 (some (.int r)) h0
  unfold mm_held at hm
  refine v_ild_1 dm_held_0 ?_
  refine v_ild_2 dm_held_1 ?_
  refine v_cmp_ge dm_held_2 (fun hc => ?_) (fun hc => ?_)
  · replace hm := it hc hm
    refine v_ild_1 dm_held_9 ?_
    refine v_ild_3 dm_held_10 ?_
    refine v_cmp_le dm_held_11 (fun hc => ?_) (fun hc => ?_)
    · replace hm := it hc hm
      refine v_ild_1 dm_held_18 ?_
      cases hm
      exact v_iret dm_held_19 rfl
    · replace hm := ie hc hm
      refine v_ild_3 dm_held_14 ?_
      refine v_goto dm_held_15 ?_
      cases hm
      exact v_iret dm_held_19 rfl
  · replace hm := ie hc hm
    refine v_ild_2 dm_held_5 ?_
    refine v_goto dm_held_6 ?_
    cases hm
    exact v_iret dm_held_19 rfl
def mm_greater (p1 : Int32) (p2 : Int32) (h0 : PH) : Option (Int32) :=
  if p1 ≤ p2 then
    some p2
  else
    some p1
theorem ctm_greater (G : GG) (d : Nat) (p1 : Int32) (p2 : Int32) (h0 : PH) (r : Int32) (hm : mm_greater p1 p2 h0 = some r) : Kx G tm_greater d [.ref (gB G + 104), .int p1, .int p2] h0 (some (.int r)) h0 := by
  refine K_of_V (by decide) (by simp [cat_i, cat_r, fmtV_cat]) (by simp [tm_greater]) ?_
  change Vx G tm_greater d 0 [some (.ref (gB G + 104)), some (.int p1), some (.int p2)] [] h0 (some (.int r)) h0
  unfold mm_greater at hm
  refine v_ild_1 dm_greater_0 ?_
  refine v_ild_2 dm_greater_1 ?_
  refine v_cmp_le dm_greater_2 (fun hc => ?_) (fun hc => ?_)
  · replace hm := it hc hm
    refine v_ild_2 dm_greater_9 ?_
    cases hm
    exact v_iret dm_greater_10 rfl
  · replace hm := ie hc hm
    refine v_ild_1 dm_greater_5 ?_
    refine v_goto dm_greater_6 ?_
    cases hm
    exact v_iret dm_greater_10 rfl
def mm_lesser (p1 : Int32) (p2 : Int32) (h0 : PH) : Option (Int32) :=
  if p2 ≤ p1 then
    some p2
  else
    some p1
theorem ctm_lesser (G : GG) (d : Nat) (p1 : Int32) (p2 : Int32) (h0 : PH) (r : Int32) (hm : mm_lesser p1 p2 h0 = some r) : Kx G tm_lesser d [.ref (gB G + 104), .int p1, .int p2] h0 (some (.int r)) h0 := by
  refine K_of_V (by decide) (by simp [cat_i, cat_r, fmtV_cat]) (by simp [tm_lesser]) ?_
  change Vx G tm_lesser d 0 [some (.ref (gB G + 104)), some (.int p1), some (.int p2)] [] h0 (some (.int r)) h0
  unfold mm_lesser at hm
  refine v_ild_1 dm_lesser_0 ?_
  refine v_ild_2 dm_lesser_1 ?_
  refine v_cmp_ge dm_lesser_2 (fun hc => ?_) (fun hc => ?_)
  · replace hm := it hc hm
    refine v_ild_2 dm_lesser_9 ?_
    cases hm
    exact v_iret dm_lesser_10 rfl
  · replace hm := ie hc hm
    refine v_ild_1 dm_lesser_5 ?_
    refine v_goto dm_lesser_6 ?_
    cases hm
    exact v_iret dm_lesser_10 rfl
def mm_apart (p1 : Int32) (p2 : Int32) (h0 : PH) : Option (Int32) :=
  if p1 ≤ p2 then
    some (p2 - p1)
  else
    some (p1 - p2)
theorem ctm_apart (G : GG) (d : Nat) (p1 : Int32) (p2 : Int32) (h0 : PH) (r : Int32) (hm : mm_apart p1 p2 h0 = some r) : Kx G tm_apart d [.ref (gB G + 104), .int p1, .int p2] h0 (some (.int r)) h0 := by
  refine K_of_V (by decide) (by simp [cat_i, cat_r, fmtV_cat]) (by simp [tm_apart]) ?_
  change Vx G tm_apart d 0 [some (.ref (gB G + 104)), some (.int p1), some (.int p2)] [] h0 (some (.int r)) h0
  unfold mm_apart at hm
  refine v_ild_1 dm_apart_0 ?_
  refine v_ild_2 dm_apart_1 ?_
  refine v_cmp_le dm_apart_2 (fun hc => ?_) (fun hc => ?_)
  · replace hm := it hc hm
    refine v_ild_2 dm_apart_11 ?_
    refine v_ild_1 dm_apart_12 ?_
    refine v_isub dm_apart_13 ?_
    cases hm
    exact v_iret dm_apart_14 rfl
  · replace hm := ie hc hm
    refine v_ild_1 dm_apart_5 ?_
    refine v_ild_2 dm_apart_6 ?_
    refine v_isub dm_apart_7 ?_
    refine v_goto dm_apart_8 ?_
    cases hm
    exact v_iret dm_apart_14 rfl
def mm_onesOf_L4 (h0 : PH) : Nat → Int32 → Int32 → Option (Int32)
  | 0, _, _ => none
  | n + 1, v2, v3 =>
    if v3 = 0 then
      some v2
    else
      lt (v2 + 1) fun x1 =>
      lt (v3 &&& (v3 - 1)) fun x2 =>
      mm_onesOf_L4 h0 n x1 x2
def mm_onesOf (p1 : Int32) (h0 : PH) : Option (Int32) :=
  mm_onesOf_L4 h0 FU 0 p1
theorem wm_onesOf_L4 (G : GG) (d : Nat) (h0 : PH) (r : Int32) : ∀ (n : Nat) (v2 : Int32) (v3 : Int32), mm_onesOf_L4 h0 n v2 v3 = some r → Vx G tm_onesOf d 4 [none, none, some (.int v2), some (.int v3)] [] h0 (some (.int r)) h0 := by
  intro n
  induction n with
  | zero => intro v2 v3 hm; cases hm
  | succ n ih =>
    intro v2 v3 hm
    unfold mm_onesOf_L4 at hm
    refine v_ild_3 dm_onesOf_4 ?_
    refine v_if_eq dm_onesOf_5 (fun hc => ?_) (fun hc => ?_)
    · replace hm := it hc hm
      refine v_ild_2 dm_onesOf_21 ?_
      cases hm
      exact v_iret dm_onesOf_22 rfl
    · replace hm := ie hc hm
      refine v_ild_2 dm_onesOf_8 ?_
      refine v_iconst (x := 1) dm_onesOf_9 rfl ?_
      refine v_iadd dm_onesOf_10 ?_
      refine v_top hm (fun x1 hm => ?_)
      refine v_ist_2 dm_onesOf_11 (by decide) rfl ?_
      refine v_ild_3 dm_onesOf_12 ?_
      refine v_ild_3 dm_onesOf_13 ?_
      refine v_iconst (x := 1) dm_onesOf_14 rfl ?_
      refine v_isub dm_onesOf_15 ?_
      refine v_iand dm_onesOf_16 ?_
      refine v_top hm (fun x2 hm => ?_)
      refine v_ist_3 dm_onesOf_17 (by decide) rfl ?_
      refine v_goto dm_onesOf_18 ?_
      exact v_kw (ih _ _ hm) (wk_n (wk_n (wk_s (wk_s wk_e))))
theorem ctm_onesOf (G : GG) (d : Nat) (p1 : Int32) (h0 : PH) (r : Int32) (hm : mm_onesOf p1 h0 = some r) : Kx G tm_onesOf d [.ref (gB G + 104), .int p1] h0 (some (.int r)) h0 := by
  refine K_of_V (by decide) (by simp [cat_i, cat_r, fmtV_cat]) (by simp [tm_onesOf]) ?_
  change Vx G tm_onesOf d 0 [some (.ref (gB G + 104)), some (.int p1), none, none] [] h0 (some (.int r)) h0
  unfold mm_onesOf at hm
  refine v_iconst (x := 0) dm_onesOf_0 rfl ?_
  refine v_ist_2 dm_onesOf_1 (by decide) rfl ?_
  refine v_ild_1 dm_onesOf_2 ?_
  refine v_ist_3 dm_onesOf_3 (by decide) rfl ?_
  exact v_kw (wm_onesOf_L4 G d _ _ FU _ _ hm) (wk_n (wk_n (wk_s (wk_s wk_e))))
def mm_has (p1 : Int32) (p2 : Int32) (h0 : PH) : Option (Int32) :=
  if ((p1 >>> (p2 &&& 31)) &&& 1) = 1 then
    some 1
  else
    some 0
theorem ctm_has (G : GG) (d : Nat) (p1 : Int32) (p2 : Int32) (h0 : PH) (r : Int32) (hm : mm_has p1 p2 h0 = some r) : Kx G tm_has d [.ref (gB G + 104), .int p1, .int p2] h0 (some (.int r)) h0 := by
  refine K_of_V (by decide) (by simp [cat_i, cat_r, fmtV_cat]) (by simp [tm_has]) ?_
  change Vx G tm_has d 0 [some (.ref (gB G + 104)), some (.int p1), some (.int p2)] [] h0 (some (.int r)) h0
  unfold mm_has at hm
  refine v_ild_1 dm_has_0 ?_
  refine v_ild_2 dm_has_1 ?_
  refine v_ishr dm_has_2 ?_
  refine v_iconst (x := 1) dm_has_3 rfl ?_
  refine v_iand dm_has_4 ?_
  refine v_iconst (x := 1) dm_has_5 rfl ?_
  refine v_cmp_ne dm_has_6 (fun hc => ?_) (fun hc => ?_)
  · replace hm := it hc hm
    refine v_iconst (x := 1) dm_has_9 rfl ?_
    refine v_goto dm_has_10 ?_
    cases hm
    exact v_zret1 dm_has_14 rfl
  · replace hm := ie hc hm
    refine v_iconst (x := 0) dm_has_13 rfl ?_
    cases hm
    exact v_zret0 dm_has_14 rfl
def mm_keepsAhead_L55 (k0 : PH → Option (PH)) : Nat → Int32 → PH → Option (PH)
  | 0, _, _ => none
  | n + 1, v1, hv =>
    if 115 ≤ v1 then
      k0 hv
    else
      ck v1 115 <|
      ck ((115 * (hv 104 3)) + v1) 690 <|
      lt (up hv 106 (ix ((115 * (hv 104 3)) + v1)) (hv 105 (ix v1))) fun h3 =>
      mm_keepsAhead_L55 k0 n (v1 + 1) h3
def mm_keepsAhead_L21 (k0 : PH → Option (PH)) : Nat → Int32 → PH → Option (PH)
  | 0, _, _ => none
  | n + 1, v1, hv =>
    if (115 * (hv 104 3)) ≤ v1 then
      k0 hv
    else
      ck (v1 + 115) 690 <|
      ck v1 690 <|
      lt (up hv 106 (ix v1) (hv 106 (ix (v1 + 115)))) fun h7 =>
      mm_keepsAhead_L21 k0 n (v1 + 1) h7
def mm_keepsAhead (h0 : PH) : Option (PH) :=
  jn1 (fun (h2 : PH) =>
    mm_keepsAhead_L55 (fun (h4 : PH) =>
      lt (up h4 104 3 ((h4 104 3) + 1)) fun h5 =>
      some h5) FU 0 h2) fun j1 =>
  if (h0 104 3) = 6 then
    lt (up h0 104 3 ((h0 104 3) - 1)) fun h6 =>
    mm_keepsAhead_L21 (fun (h8 : PH) =>
      j1 h8) FU 0 h6
  else
    j1 h0
theorem wm_keepsAhead_L55 (G : GG) (d : Nat) (k0 : PH → Option (PH)) (r : PH) (kk0 : ∀ (hy : PH), k0 hy = some r → Vx G tm_keepsAhead d 87 [some (.ref (gB G + 104)), none] [] hy none r) : ∀ (n : Nat) (v1 : Int32) (hv : PH), mm_keepsAhead_L55 k0 n v1 hv = some r → Vx G tm_keepsAhead d 55 [some (.ref (gB G + 104)), some (.int v1)] [] hv none r := by
  intro n
  induction n with
  | zero => intro v1 hv hm; cases hm
  | succ n ih =>
    intro v1 hv hm
    unfold mm_keepsAhead_L55 at hm
    refine v_ild_1 dm_keepsAhead_55 ?_
    refine v_bipush (x := 115) dm_keepsAhead_56 rfl ?_
    refine v_cmp_ge dm_keepsAhead_58 (fun hc => ?_) (fun hc => ?_)
    · replace hm := it hc hm
      exact v_kw (kk0 _ hm) (wk_s (wk_n wk_e))
    · replace hm := ie hc hm
      refine v_ald_0 dm_keepsAhead_61 ?_
      refine v_getR dm_keepsAhead_62 fum_13 sh_104 rf_104_2 ?_
      refine v_bipush (x := 115) dm_keepsAhead_65 rfl ?_
      refine v_ald_0 dm_keepsAhead_67 ?_
      refine v_getI dm_keepsAhead_68 fum_149 sh_104 rf_104_3 ?_
      refine v_imul dm_keepsAhead_71 ?_
      refine v_ild_1 dm_keepsAhead_72 ?_
      refine v_iadd dm_keepsAhead_73 ?_
      refine v_ald_0 dm_keepsAhead_74 ?_
      refine v_getR dm_keepsAhead_75 fum_7 sh_104 rf_104_1 ?_
      refine v_ild_1 dm_keepsAhead_78 ?_
      obtain ⟨hi, hm⟩ := ck_s hm
      refine v_iald dm_keepsAhead_79 sh_105 hi ?_
      obtain ⟨hi, hm⟩ := ck_s hm
      refine v_iastl dm_keepsAhead_80 sh_106 hi hm (fun h3 hm => ?_)
      refine v_inc_1 1 dm_keepsAhead_81 rfl (by decide) rfl ?_
      refine v_goto dm_keepsAhead_84 ?_
      exact v_kw (ih _ _ hm) (wk_s (wk_s wk_e))
theorem wm_keepsAhead_L21 (G : GG) (d : Nat) (k0 : PH → Option (PH)) (r : PH) (kk0 : ∀ (hy : PH), k0 hy = some r → Vx G tm_keepsAhead d 53 [some (.ref (gB G + 104)), none] [] hy none r) : ∀ (n : Nat) (v1 : Int32) (hv : PH), mm_keepsAhead_L21 k0 n v1 hv = some r → Vx G tm_keepsAhead d 21 [some (.ref (gB G + 104)), some (.int v1)] [] hv none r := by
  intro n
  induction n with
  | zero => intro v1 hv hm; cases hm
  | succ n ih =>
    intro v1 hv hm
    unfold mm_keepsAhead_L21 at hm
    refine v_ild_1 dm_keepsAhead_21 ?_
    refine v_bipush (x := 115) dm_keepsAhead_22 rfl ?_
    refine v_ald_0 dm_keepsAhead_24 ?_
    refine v_getI dm_keepsAhead_25 fum_149 sh_104 rf_104_3 ?_
    refine v_imul dm_keepsAhead_28 ?_
    refine v_cmp_ge dm_keepsAhead_29 (fun hc => ?_) (fun hc => ?_)
    · replace hm := it hc hm
      exact v_kw (kk0 _ hm) (wk_s (wk_n wk_e))
    · replace hm := ie hc hm
      refine v_ald_0 dm_keepsAhead_32 ?_
      refine v_getR dm_keepsAhead_33 fum_13 sh_104 rf_104_2 ?_
      refine v_ild_1 dm_keepsAhead_36 ?_
      refine v_ald_0 dm_keepsAhead_37 ?_
      refine v_getR dm_keepsAhead_38 fum_13 sh_104 rf_104_2 ?_
      refine v_ild_1 dm_keepsAhead_41 ?_
      refine v_bipush (x := 115) dm_keepsAhead_42 rfl ?_
      refine v_iadd dm_keepsAhead_44 ?_
      obtain ⟨hi, hm⟩ := ck_s hm
      refine v_iald dm_keepsAhead_45 sh_106 hi ?_
      obtain ⟨hi, hm⟩ := ck_s hm
      refine v_iastl dm_keepsAhead_46 sh_106 hi hm (fun h7 hm => ?_)
      refine v_inc_1 1 dm_keepsAhead_47 rfl (by decide) rfl ?_
      refine v_goto dm_keepsAhead_50 ?_
      exact v_kw (ih _ _ hm) (wk_s (wk_s wk_e))
theorem ctm_keepsAhead (G : GG) (d : Nat) (h0 : PH) (r : PH) (hm : mm_keepsAhead h0 = some r) : Kx G tm_keepsAhead d [.ref (gB G + 104)] h0 none r := by
  refine K_of_V (by decide) (by simp [cat_i, cat_r, fmtV_cat]) (by simp [tm_keepsAhead]) ?_
  change Vx G tm_keepsAhead d 0 [some (.ref (gB G + 104)), none] [] h0 none r
  unfold mm_keepsAhead at hm
  refine v_ald_0 dm_keepsAhead_0 ?_
  refine v_getI dm_keepsAhead_1 fum_149 sh_104 rf_104_3 ?_
  refine v_bipush (x := 6) dm_keepsAhead_4 rfl ?_
  refine v_j1 (fun (h2 : PH) => Vx G tm_keepsAhead d 53 [some (.ref (gB G + 104)), none] [] h2 none r) hm (fun h2 hm => ?_) (fun j1 kj1 hm => ?_)
  · refine v_iconst (x := 0) dm_keepsAhead_53 rfl ?_
    refine v_ist_1 dm_keepsAhead_54 (by decide) rfl ?_
    refine v_kw (wm_keepsAhead_L55 G d _ _ (fun h4 hm => ?_) FU _ _ hm) (wk_s (wk_s wk_e))
    refine v_ald_0 dm_keepsAhead_87 ?_
    refine v_ald_0 dm_keepsAhead_88 ?_
    refine v_getI dm_keepsAhead_89 fum_149 sh_104 rf_104_3 ?_
    refine v_iconst (x := 1) dm_keepsAhead_92 rfl ?_
    refine v_iadd dm_keepsAhead_93 ?_
    refine v_putIl dm_keepsAhead_94 fum_149 ft_12_3 sh_104 rf_104_3 hm (fun h5 hm => ?_)
    cases hm
    exact v_ret dm_keepsAhead_97 rfl
  · refine v_cmp_ne dm_keepsAhead_6 (fun hc => ?_) (fun hc => ?_)
    · replace hm := it hc hm
      refine v_ald_0 dm_keepsAhead_9 ?_
      refine v_ald_0 dm_keepsAhead_10 ?_
      refine v_getI dm_keepsAhead_11 fum_149 sh_104 rf_104_3 ?_
      refine v_iconst (x := 1) dm_keepsAhead_14 rfl ?_
      refine v_isub dm_keepsAhead_15 ?_
      refine v_putIl dm_keepsAhead_16 fum_149 ft_12_3 sh_104 rf_104_3 hm (fun h6 hm => ?_)
      refine v_iconst (x := 0) dm_keepsAhead_19 rfl ?_
      refine v_ist_1 dm_keepsAhead_20 (by decide) rfl ?_
      refine v_kw (wm_keepsAhead_L21 G d _ _ (fun h8 hm => ?_) FU _ _ hm) (wk_s (wk_s wk_e))
      exact v_kw (kj1 _ hm) (wk_s (wk_n wk_e))
    · replace hm := ie hc hm
      exact v_kw (kj1 _ hm) (wk_s (wk_n wk_e))
def mm_undo_L26 : Nat → Int32 → PH → Option (Int32 × PH)
  | 0, _, _ => none
  | n + 1, v1, hv =>
    if 115 ≤ v1 then
      some (1, hv)
    else
      ck ((115 * (hv 104 3)) + v1) 690 <|
      ck v1 115 <|
      lt (up hv 105 (ix v1) (hv 106 (ix ((115 * (hv 104 3)) + v1)))) fun h3 =>
      mm_undo_L26 n (v1 + 1) h3
def mm_undo (h0 : PH) : Option (Int32 × PH) :=
  lt (up h0 104 0 0) fun h1 =>
  if (h1 104 3) = 0 then
    some (0, h1)
  else
    lt (up h1 104 3 ((h1 104 3) - 1)) fun h2 =>
    mm_undo_L26 FU 0 h2
theorem wm_undo_L26 (G : GG) (d : Nat)  (r : Int32 × PH) : ∀ (n : Nat) (v1 : Int32) (hv : PH), mm_undo_L26  n v1 hv = some r → Vx G tm_undo d 26 [some (.ref (gB G + 104)), some (.int v1)] [] hv (some (.int r.1)) r.2 := by
  intro n
  induction n with
  | zero => intro v1 hv hm; cases hm
  | succ n ih =>
    intro v1 hv hm
    unfold mm_undo_L26 at hm
    refine v_ild_1 dm_undo_26 ?_
    refine v_bipush (x := 115) dm_undo_27 rfl ?_
    refine v_cmp_ge dm_undo_29 (fun hc => ?_) (fun hc => ?_)
    · replace hm := it hc hm
      refine v_iconst (x := 1) dm_undo_58 rfl ?_
      cases hm
      exact v_zret1 dm_undo_59 rfl
    · replace hm := ie hc hm
      refine v_ald_0 dm_undo_32 ?_
      refine v_getR dm_undo_33 fum_7 sh_104 rf_104_1 ?_
      refine v_ild_1 dm_undo_36 ?_
      refine v_ald_0 dm_undo_37 ?_
      refine v_getR dm_undo_38 fum_13 sh_104 rf_104_2 ?_
      refine v_bipush (x := 115) dm_undo_41 rfl ?_
      refine v_ald_0 dm_undo_43 ?_
      refine v_getI dm_undo_44 fum_149 sh_104 rf_104_3 ?_
      refine v_imul dm_undo_47 ?_
      refine v_ild_1 dm_undo_48 ?_
      refine v_iadd dm_undo_49 ?_
      obtain ⟨hi, hm⟩ := ck_s hm
      refine v_iald dm_undo_50 sh_106 hi ?_
      obtain ⟨hi, hm⟩ := ck_s hm
      refine v_iastl dm_undo_51 sh_105 hi hm (fun h3 hm => ?_)
      refine v_inc_1 1 dm_undo_52 rfl (by decide) rfl ?_
      refine v_goto dm_undo_55 ?_
      exact v_kw (ih _ _ hm) (wk_s (wk_s wk_e))
theorem ctm_undo (G : GG) (d : Nat) (h0 : PH) (r : Int32 × PH) (hm : mm_undo h0 = some r) : Kx G tm_undo d [.ref (gB G + 104)] h0 (some (.int r.1)) r.2 := by
  refine K_of_V (by decide) (by simp [cat_i, cat_r, fmtV_cat]) (by simp [tm_undo]) ?_
  change Vx G tm_undo d 0 [some (.ref (gB G + 104)), none] [] h0 (some (.int r.1)) r.2
  unfold mm_undo at hm
  refine v_ald_0 dm_undo_0 ?_
  refine v_iconst (x := 0) dm_undo_1 rfl ?_
  refine v_putIl dm_undo_2 fum_146 ft_12_0 sh_104 rf_104_0 hm (fun h1 hm => ?_)
  refine v_ald_0 dm_undo_5 ?_
  refine v_getI dm_undo_6 fum_149 sh_104 rf_104_3 ?_
  refine v_if_ne dm_undo_9 (fun hc => ?_) (fun hc => ?_)
  · replace hm := it hc hm
    refine v_iconst (x := 0) dm_undo_12 rfl ?_
    cases hm
    exact v_zret0 dm_undo_13 rfl
  · replace hm := ie hc hm
    refine v_ald_0 dm_undo_14 ?_
    refine v_ald_0 dm_undo_15 ?_
    refine v_getI dm_undo_16 fum_149 sh_104 rf_104_3 ?_
    refine v_iconst (x := 1) dm_undo_19 rfl ?_
    refine v_isub dm_undo_20 ?_
    refine v_putIl dm_undo_21 fum_149 ft_12_3 sh_104 rf_104_3 hm (fun h2 hm => ?_)
    refine v_iconst (x := 0) dm_undo_24 rfl ?_
    refine v_ist_1 dm_undo_25 (by decide) rfl ?_
    exact v_kw (wm_undo_L26 G d  _ FU _ _ hm) (wk_s (wk_s wk_e))
def mm_thinks_L2 (k0 : PH → Option (PH)) : Nat → Int32 → PH → Option (PH)
  | 0, _, _ => none
  | n + 1, v1, hv =>
    if 115 ≤ v1 then
      k0 hv
    else
      ck v1 115 <|
      ck v1 115 <|
      lt (up hv 107 (ix v1) (hv 105 (ix v1))) fun h1 =>
      mm_thinks_L2 k0 n (v1 + 1) h1
def mm_thinks (h0 : PH) : Option (PH) :=
  mm_thinks_L2 (fun (h2 : PH) =>
    lt (up h2 104 5 1) fun h3 =>
    some h3) FU 0 h0
theorem wm_thinks_L2 (G : GG) (d : Nat) (k0 : PH → Option (PH)) (r : PH) (kk0 : ∀ (hy : PH), k0 hy = some r → Vx G tm_thinks d 26 [some (.ref (gB G + 104)), none] [] hy none r) : ∀ (n : Nat) (v1 : Int32) (hv : PH), mm_thinks_L2 k0 n v1 hv = some r → Vx G tm_thinks d 2 [some (.ref (gB G + 104)), some (.int v1)] [] hv none r := by
  intro n
  induction n with
  | zero => intro v1 hv hm; cases hm
  | succ n ih =>
    intro v1 hv hm
    unfold mm_thinks_L2 at hm
    refine v_ild_1 dm_thinks_2 ?_
    refine v_bipush (x := 115) dm_thinks_3 rfl ?_
    refine v_cmp_ge dm_thinks_5 (fun hc => ?_) (fun hc => ?_)
    · replace hm := it hc hm
      exact v_kw (kk0 _ hm) (wk_s (wk_n wk_e))
    · replace hm := ie hc hm
      refine v_ald_0 dm_thinks_8 ?_
      refine v_getR dm_thinks_9 fum_16 sh_104 rf_104_4 ?_
      refine v_ild_1 dm_thinks_12 ?_
      refine v_ald_0 dm_thinks_13 ?_
      refine v_getR dm_thinks_14 fum_7 sh_104 rf_104_1 ?_
      refine v_ild_1 dm_thinks_17 ?_
      obtain ⟨hi, hm⟩ := ck_s hm
      refine v_iald dm_thinks_18 sh_105 hi ?_
      obtain ⟨hi, hm⟩ := ck_s hm
      refine v_iastl dm_thinks_19 sh_107 hi hm (fun h1 hm => ?_)
      refine v_inc_1 1 dm_thinks_20 rfl (by decide) rfl ?_
      refine v_goto dm_thinks_23 ?_
      exact v_kw (ih _ _ hm) (wk_s (wk_s wk_e))
theorem ctm_thinks (G : GG) (d : Nat) (h0 : PH) (r : PH) (hm : mm_thinks h0 = some r) : Kx G tm_thinks d [.ref (gB G + 104)] h0 none r := by
  refine K_of_V (by decide) (by simp [cat_i, cat_r, fmtV_cat]) (by simp [tm_thinks]) ?_
  change Vx G tm_thinks d 0 [some (.ref (gB G + 104)), none] [] h0 none r
  unfold mm_thinks at hm
  refine v_iconst (x := 0) dm_thinks_0 rfl ?_
  refine v_ist_1 dm_thinks_1 (by decide) rfl ?_
  refine v_kw (wm_thinks_L2 G d _ _ (fun h2 hm => ?_) FU _ _ hm) (wk_s (wk_s wk_e))
  refine v_ald_0 dm_thinks_26 ?_
  refine v_iconst (x := 1) dm_thinks_27 rfl ?_
  refine v_putZl dm_thinks_28 fum_152 ft_12_5 sh_104 rf_104_5 (by decide) hm (fun h3 hm => ?_)
  cases hm
  exact v_ret dm_thinks_31 rfl
def mm_endsThought_L2 (k0 : PH → Option (PH)) : Nat → Int32 → PH → Option (PH)
  | 0, _, _ => none
  | n + 1, v1, hv =>
    if 115 ≤ v1 then
      k0 hv
    else
      ck v1 115 <|
      ck v1 115 <|
      lt (up hv 105 (ix v1) (hv 107 (ix v1))) fun h1 =>
      mm_endsThought_L2 k0 n (v1 + 1) h1
def mm_endsThought (h0 : PH) : Option (PH) :=
  mm_endsThought_L2 (fun (h2 : PH) =>
    lt (up h2 104 5 0) fun h3 =>
    some h3) FU 0 h0
theorem wm_endsThought_L2 (G : GG) (d : Nat) (k0 : PH → Option (PH)) (r : PH) (kk0 : ∀ (hy : PH), k0 hy = some r → Vx G tm_endsThought d 26 [some (.ref (gB G + 104)), none] [] hy none r) : ∀ (n : Nat) (v1 : Int32) (hv : PH), mm_endsThought_L2 k0 n v1 hv = some r → Vx G tm_endsThought d 2 [some (.ref (gB G + 104)), some (.int v1)] [] hv none r := by
  intro n
  induction n with
  | zero => intro v1 hv hm; cases hm
  | succ n ih =>
    intro v1 hv hm
    unfold mm_endsThought_L2 at hm
    refine v_ild_1 dm_endsThought_2 ?_
    refine v_bipush (x := 115) dm_endsThought_3 rfl ?_
    refine v_cmp_ge dm_endsThought_5 (fun hc => ?_) (fun hc => ?_)
    · replace hm := it hc hm
      exact v_kw (kk0 _ hm) (wk_s (wk_n wk_e))
    · replace hm := ie hc hm
      refine v_ald_0 dm_endsThought_8 ?_
      refine v_getR dm_endsThought_9 fum_7 sh_104 rf_104_1 ?_
      refine v_ild_1 dm_endsThought_12 ?_
      refine v_ald_0 dm_endsThought_13 ?_
      refine v_getR dm_endsThought_14 fum_16 sh_104 rf_104_4 ?_
      refine v_ild_1 dm_endsThought_17 ?_
      obtain ⟨hi, hm⟩ := ck_s hm
      refine v_iald dm_endsThought_18 sh_107 hi ?_
      obtain ⟨hi, hm⟩ := ck_s hm
      refine v_iastl dm_endsThought_19 sh_105 hi hm (fun h1 hm => ?_)
      refine v_inc_1 1 dm_endsThought_20 rfl (by decide) rfl ?_
      refine v_goto dm_endsThought_23 ?_
      exact v_kw (ih _ _ hm) (wk_s (wk_s wk_e))
theorem ctm_endsThought (G : GG) (d : Nat) (h0 : PH) (r : PH) (hm : mm_endsThought h0 = some r) : Kx G tm_endsThought d [.ref (gB G + 104)] h0 none r := by
  refine K_of_V (by decide) (by simp [cat_i, cat_r, fmtV_cat]) (by simp [tm_endsThought]) ?_
  change Vx G tm_endsThought d 0 [some (.ref (gB G + 104)), none] [] h0 none r
  unfold mm_endsThought at hm
  refine v_iconst (x := 0) dm_endsThought_0 rfl ?_
  refine v_ist_1 dm_endsThought_1 (by decide) rfl ?_
  refine v_kw (wm_endsThought_L2 G d _ _ (fun h2 hm => ?_) FU _ _ hm) (wk_s (wk_s wk_e))
  refine v_ald_0 dm_endsThought_26 ?_
  refine v_iconst (x := 0) dm_endsThought_27 rfl ?_
  refine v_putZl dm_endsThought_28 fum_152 ft_12_5 sh_104 rf_104_5 (by decide) hm (fun h3 hm => ?_)
  cases hm
  exact v_ret dm_endsThought_31 rfl
def mm_state (p1 : Int32) (h0 : PH) : Option (Int32 × PH) :=
  lt (up h0 104 0 0) fun h1 =>
  ck 1 115 <|
  lt (h1 105 (ix 1)) fun x2 =>
  ck 1 115 <|
  lt (up h1 105 (ix 1) p1) fun h3 =>
  lt (up h3 104 3 0) fun h4 =>
  some (x2, h4)
theorem ctm_state (G : GG) (d : Nat) (p1 : Int32) (h0 : PH) (r : Int32 × PH) (hm : mm_state p1 h0 = some r) : Kx G tm_state d [.ref (gB G + 104), .int p1] h0 (some (.int r.1)) r.2 := by
  refine K_of_V (by decide) (by simp [cat_i, cat_r, fmtV_cat]) (by simp [tm_state]) ?_
  change Vx G tm_state d 0 [some (.ref (gB G + 104)), some (.int p1), none] [] h0 (some (.int r.1)) r.2
  unfold mm_state at hm
  refine v_ald_0 dm_state_0 ?_
  refine v_iconst (x := 0) dm_state_1 rfl ?_
  refine v_putIl dm_state_2 fum_146 ft_12_0 sh_104 rf_104_0 hm (fun h1 hm => ?_)
  refine v_ald_0 dm_state_5 ?_
  refine v_getR dm_state_6 fum_7 sh_104 rf_104_1 ?_
  refine v_iconst (x := 1) dm_state_9 rfl ?_
  obtain ⟨hi, hm⟩ := ck_s hm
  refine v_iald dm_state_10 sh_105 hi ?_
  refine v_top hm (fun x2 hm => ?_)
  refine v_ist_2 dm_state_11 (by decide) rfl ?_
  refine v_ald_0 dm_state_12 ?_
  refine v_getR dm_state_13 fum_7 sh_104 rf_104_1 ?_
  refine v_iconst (x := 1) dm_state_16 rfl ?_
  refine v_ild_1 dm_state_17 ?_
  obtain ⟨hi, hm⟩ := ck_s hm
  refine v_iastl dm_state_18 sh_105 hi hm (fun h3 hm => ?_)
  refine v_ald_0 dm_state_19 ?_
  refine v_iconst (x := 0) dm_state_20 rfl ?_
  refine v_putIl dm_state_21 fum_149 ft_12_3 sh_104 rf_104_3 hm (fun h4 hm => ?_)
  refine v_ild_2 dm_state_24 ?_
  cases hm
  exact v_iret dm_state_25 rfl
def mm_draw (p1 : Int32) (h0 : PH) : Option (Int32 × PH) :=
  ck 1 115 <|
  ck 1 115 <|
  lt (up h0 105 (ix 1) ((1664525 * (h0 105 (ix 1))) + 1013904223)) fun h1 =>
  ck 1 115 <|
  dz p1 <|
  some (irm (ushr (h1 105 (ix 1)) 8) p1, h1)
theorem ctm_draw (G : GG) (d : Nat) (p1 : Int32) (h0 : PH) (r : Int32 × PH) (hm : mm_draw p1 h0 = some r) : Kx G tm_draw d [.ref (gB G + 104), .int p1] h0 (some (.int r.1)) r.2 := by
  refine K_of_V (by decide) (by simp [cat_i, cat_r, fmtV_cat]) (by simp [tm_draw]) ?_
  change Vx G tm_draw d 0 [some (.ref (gB G + 104)), some (.int p1)] [] h0 (some (.int r.1)) r.2
  unfold mm_draw at hm
  refine v_ald_0 dm_draw_0 ?_
  refine v_getR dm_draw_1 fum_7 sh_104 rf_104_1 ?_
  refine v_iconst (x := 1) dm_draw_4 rfl ?_
  refine v_ldc (x := 1664525) dm_draw_5 lcm_156 ?_
  refine v_ald_0 dm_draw_7 ?_
  refine v_getR dm_draw_8 fum_7 sh_104 rf_104_1 ?_
  refine v_iconst (x := 1) dm_draw_11 rfl ?_
  obtain ⟨hi, hm⟩ := ck_s hm
  refine v_iald dm_draw_12 sh_105 hi ?_
  refine v_imul dm_draw_13 ?_
  refine v_ldc (x := 1013904223) dm_draw_14 lcm_157 ?_
  refine v_iadd dm_draw_16 ?_
  obtain ⟨hi, hm⟩ := ck_s hm
  refine v_iastl dm_draw_17 sh_105 hi hm (fun h1 hm => ?_)
  refine v_ald_0 dm_draw_18 ?_
  refine v_getR dm_draw_19 fum_7 sh_104 rf_104_1 ?_
  refine v_iconst (x := 1) dm_draw_22 rfl ?_
  obtain ⟨hi, hm⟩ := ck_s hm
  refine v_iald dm_draw_23 sh_105 hi ?_
  refine v_bipush (x := 8) dm_draw_24 rfl ?_
  refine v_iushr dm_draw_26 ?_
  refine v_ild_1 dm_draw_27 ?_
  obtain ⟨hz, hm⟩ := dz_s hm
  refine v_irem dm_draw_28 hz ?_
  cases hm
  exact v_iret dm_draw_29 rfl
def mm_isHouse (p1 : Int32) (h0 : PH) : Option (Int32) :=
  if p1 < 0 then
    some 0
  else
    if (h0 104 6) ≤ p1 then
      some 0
    else
      some 1
theorem ctm_isHouse (G : GG) (d : Nat) (p1 : Int32) (h0 : PH) (r : Int32) (hm : mm_isHouse p1 h0 = some r) : Kx G tm_isHouse d [.ref (gB G + 104), .int p1] h0 (some (.int r)) h0 := by
  refine K_of_V (by decide) (by simp [cat_i, cat_r, fmtV_cat]) (by simp [tm_isHouse]) ?_
  change Vx G tm_isHouse d 0 [some (.ref (gB G + 104)), some (.int p1)] [] h0 (some (.int r)) h0
  unfold mm_isHouse at hm
  refine v_ild_1 dm_isHouse_0 ?_
  refine v_if_lt dm_isHouse_1 (fun hc => ?_) (fun hc => ?_)
  · replace hm := it hc hm
    refine v_iconst (x := 0) dm_isHouse_16 rfl ?_
    cases hm
    exact v_zret0 dm_isHouse_17 rfl
  · replace hm := ie hc hm
    refine v_ild_1 dm_isHouse_4 ?_
    refine v_ald_0 dm_isHouse_5 ?_
    refine v_getI dm_isHouse_6 fum_158 sh_104 rf_104_6 ?_
    refine v_cmp_ge dm_isHouse_9 (fun hc => ?_) (fun hc => ?_)
    · replace hm := it hc hm
      refine v_iconst (x := 0) dm_isHouse_16 rfl ?_
      cases hm
      exact v_zret0 dm_isHouse_17 rfl
    · replace hm := ie hc hm
      refine v_iconst (x := 1) dm_isHouse_12 rfl ?_
      refine v_goto dm_isHouse_13 ?_
      cases hm
      exact v_zret1 dm_isHouse_17 rfl
def mm_wallOf (p1 : Int32) (p2 : Int32) (h0 : PH) : Option (Int32) :=
  ck ((7 + (4 * p1)) + p2) 115 <|
  some (h0 105 (ix ((7 + (4 * p1)) + p2)))
theorem ctm_wallOf (G : GG) (d : Nat) (p1 : Int32) (p2 : Int32) (h0 : PH) (r : Int32) (hm : mm_wallOf p1 p2 h0 = some r) : Kx G tm_wallOf d [.ref (gB G + 104), .int p1, .int p2] h0 (some (.int r)) h0 := by
  refine K_of_V (by decide) (by simp [cat_i, cat_r, fmtV_cat]) (by simp [tm_wallOf]) ?_
  change Vx G tm_wallOf d 0 [some (.ref (gB G + 104)), some (.int p1), some (.int p2)] [] h0 (some (.int r)) h0
  unfold mm_wallOf at hm
  refine v_ald_0 dm_wallOf_0 ?_
  refine v_getR dm_wallOf_1 fum_7 sh_104 rf_104_1 ?_
  refine v_bipush (x := 7) dm_wallOf_4 rfl ?_
  refine v_iconst (x := 4) dm_wallOf_6 rfl ?_
  refine v_ild_1 dm_wallOf_7 ?_
  refine v_imul dm_wallOf_8 ?_
  refine v_iadd dm_wallOf_9 ?_
  refine v_ild_2 dm_wallOf_10 ?_
  refine v_iadd dm_wallOf_11 ?_
  obtain ⟨hi, hm⟩ := ck_s hm
  refine v_iald dm_wallOf_12 sh_105 hi ?_
  cases hm
  exact v_iret dm_wallOf_13 rfl
def mm_hasWall (p1 : Int32) (p2 : Int32) (p3 : Int32) (h0 : PH) : Option (PH) :=
  bd (mm_held p3 0 99 h0) fun r1 =>
  ck ((7 + (4 * p1)) + p2) 115 <|
  lt (up h0 105 (ix ((7 + (4 * p1)) + p2)) r1) fun h2 =>
  some h2
theorem ctm_hasWall (G : GG) (d : Nat) (p1 : Int32) (p2 : Int32) (p3 : Int32) (h0 : PH) (r : PH) (hm : mm_hasWall p1 p2 p3 h0 = some r) : Kx G tm_hasWall (d + 1) [.ref (gB G + 104), .int p1, .int p2, .int p3] h0 none r := by
  refine K_of_V (by decide) (by simp [cat_i, cat_r, fmtV_cat]) (by simp [tm_hasWall]) ?_
  change Vx G tm_hasWall (d + 1) 0 [some (.ref (gB G + 104)), some (.int p1), some (.int p2), some (.int p3)] [] h0 none r
  unfold mm_hasWall at hm
  refine v_ald_0 dm_hasWall_0 ?_
  refine v_getR dm_hasWall_1 fum_7 sh_104 rf_104_1 ?_
  refine v_bipush (x := 7) dm_hasWall_4 rfl ?_
  refine v_iconst (x := 4) dm_hasWall_6 rfl ?_
  refine v_ild_1 dm_hasWall_7 ?_
  refine v_imul dm_hasWall_8 ?_
  refine v_iadd dm_hasWall_9 ?_
  refine v_ild_2 dm_hasWall_10 ?_
  refine v_iadd dm_hasWall_11 ?_
  refine v_ald_0 dm_hasWall_12 ?_
  refine v_ild_3 dm_hasWall_13 ?_
  refine v_iconst (x := 0) dm_hasWall_14 rfl ?_
  refine v_bipush (x := 99) dm_hasWall_15 rfl ?_
  obtain ⟨r1, he, hm⟩ := bd_s hm
  refine v_cv3i (M' := tm_held) dm_hasWall_17 mlm_161 okm_held sh_104 hc_12 (Nat.le_of_ble_eq_true rfl) (ctm_held G d _ _ _ _ _ he) ?_
  obtain ⟨hi, hm⟩ := ck_s hm
  refine v_iastl dm_hasWall_20 sh_105 hi hm (fun h2 hm => ?_)
  cases hm
  exact v_ret dm_hasWall_21 rfl
def mm_sumOf (p1 : Int32) (h0 : PH) : Option (Int32) :=
  bd (mm_wallOf p1 0 h0) fun r1 =>
  bd (mm_wallOf p1 1 h0) fun r2 =>
  bd (mm_wallOf p1 2 h0) fun r3 =>
  bd (mm_wallOf p1 3 h0) fun r4 =>
  some (((r1 + r2) + r3) + r4)
theorem ctm_sumOf (G : GG) (d : Nat) (p1 : Int32) (h0 : PH) (r : Int32) (hm : mm_sumOf p1 h0 = some r) : Kx G tm_sumOf (d + 1) [.ref (gB G + 104), .int p1] h0 (some (.int r)) h0 := by
  refine K_of_V (by decide) (by simp [cat_i, cat_r, fmtV_cat]) (by simp [tm_sumOf]) ?_
  change Vx G tm_sumOf (d + 1) 0 [some (.ref (gB G + 104)), some (.int p1)] [] h0 (some (.int r)) h0
  unfold mm_sumOf at hm
  refine v_ald_0 dm_sumOf_0 ?_
  refine v_ild_1 dm_sumOf_1 ?_
  refine v_iconst (x := 0) dm_sumOf_2 rfl ?_
  obtain ⟨r1, he, hm⟩ := bd_s hm
  refine v_cv2i (M' := tm_wallOf) dm_sumOf_3 mlm_165 okm_wallOf sh_104 hc_12 (Nat.le_of_ble_eq_true rfl) (ctm_wallOf G d _ _ _ _ he) ?_
  refine v_ald_0 dm_sumOf_6 ?_
  refine v_ild_1 dm_sumOf_7 ?_
  refine v_iconst (x := 1) dm_sumOf_8 rfl ?_
  obtain ⟨r2, he, hm⟩ := bd_s hm
  refine v_cv2i (M' := tm_wallOf) dm_sumOf_9 mlm_165 okm_wallOf sh_104 hc_12 (Nat.le_of_ble_eq_true rfl) (ctm_wallOf G d _ _ _ _ he) ?_
  refine v_iadd dm_sumOf_12 ?_
  refine v_ald_0 dm_sumOf_13 ?_
  refine v_ild_1 dm_sumOf_14 ?_
  refine v_iconst (x := 2) dm_sumOf_15 rfl ?_
  obtain ⟨r3, he, hm⟩ := bd_s hm
  refine v_cv2i (M' := tm_wallOf) dm_sumOf_16 mlm_165 okm_wallOf sh_104 hc_12 (Nat.le_of_ble_eq_true rfl) (ctm_wallOf G d _ _ _ _ he) ?_
  refine v_iadd dm_sumOf_19 ?_
  refine v_ald_0 dm_sumOf_20 ?_
  refine v_ild_1 dm_sumOf_21 ?_
  refine v_iconst (x := 3) dm_sumOf_22 rfl ?_
  obtain ⟨r4, he, hm⟩ := bd_s hm
  refine v_cv2i (M' := tm_wallOf) dm_sumOf_23 mlm_165 okm_wallOf sh_104 hc_12 (Nat.le_of_ble_eq_true rfl) (ctm_wallOf G d _ _ _ _ he) ?_
  refine v_iadd dm_sumOf_26 ?_
  cases hm
  exact v_iret dm_sumOf_27 rfl
def mm_doesStand (p1 : Int32) (h0 : PH) : Option (Int32) :=
  bd (mm_sumOf p1 h0) fun r1 =>
  if r1 ≤ 0 then
    some 0
  else
    some 1
theorem ctm_doesStand (G : GG) (d : Nat) (p1 : Int32) (h0 : PH) (r : Int32) (hm : mm_doesStand p1 h0 = some r) : Kx G tm_doesStand (d + 2) [.ref (gB G + 104), .int p1] h0 (some (.int r)) h0 := by
  refine K_of_V (by decide) (by simp [cat_i, cat_r, fmtV_cat]) (by simp [tm_doesStand]) ?_
  change Vx G tm_doesStand (d + 2) 0 [some (.ref (gB G + 104)), some (.int p1)] [] h0 (some (.int r)) h0
  unfold mm_doesStand at hm
  refine v_ald_0 dm_doesStand_0 ?_
  refine v_ild_1 dm_doesStand_1 ?_
  obtain ⟨r1, he, hm⟩ := bd_s hm
  refine v_cv1i (M' := tm_sumOf) dm_doesStand_2 mlm_169 okm_sumOf sh_104 hc_12 (Nat.le_of_ble_eq_true rfl) (ctm_sumOf G d _ _ _ he) ?_
  refine v_if_le dm_doesStand_5 (fun hc => ?_) (fun hc => ?_)
  · replace hm := it hc hm
    refine v_iconst (x := 0) dm_doesStand_12 rfl ?_
    cases hm
    exact v_zret0 dm_doesStand_13 rfl
  · replace hm := ie hc hm
    refine v_iconst (x := 1) dm_doesStand_8 rfl ?_
    refine v_goto dm_doesStand_9 ?_
    cases hm
    exact v_zret1 dm_doesStand_13 rfl
def mm_thickest_L4 (p1 : Int32) (h0 : PH) : Nat → Int32 → Int32 → Option (Int32)
  | 0, _, _ => none
  | n + 1, v2, v3 =>
    if 4 ≤ v3 then
      some v2
    else
      bd (mm_wallOf p1 v3 h0) fun r1 =>
      bd (mm_wallOf p1 v2 h0) fun r2 =>
      if r1 ≤ r2 then
        mm_thickest_L4 p1 h0 n v2 (v3 + 1)
      else
        mm_thickest_L4 p1 h0 n v3 (v3 + 1)
def mm_thickest (p1 : Int32) (h0 : PH) : Option (Int32) :=
  mm_thickest_L4 p1 h0 FU 0 1
theorem wm_thickest_L4 (G : GG) (d : Nat) (p1 : Int32) (h0 : PH) (r : Int32) : ∀ (n : Nat) (v2 : Int32) (v3 : Int32), mm_thickest_L4 p1 h0 n v2 v3 = some r → Vx G tm_thickest (d + 1) 4 [some (.ref (gB G + 104)), some (.int p1), some (.int v2), some (.int v3)] [] h0 (some (.int r)) h0 := by
  intro n
  induction n with
  | zero => intro v2 v3 hm; cases hm
  | succ n ih =>
    intro v2 v3 hm
    unfold mm_thickest_L4 at hm
    refine v_ild_3 dm_thickest_4 ?_
    refine v_iconst (x := 4) dm_thickest_5 rfl ?_
    refine v_cmp_ge dm_thickest_6 (fun hc => ?_) (fun hc => ?_)
    · replace hm := it hc hm
      refine v_ild_2 dm_thickest_32 ?_
      cases hm
      exact v_iret dm_thickest_33 rfl
    · replace hm := ie hc hm
      refine v_ald_0 dm_thickest_9 ?_
      refine v_ild_1 dm_thickest_10 ?_
      refine v_ild_3 dm_thickest_11 ?_
      obtain ⟨r1, he, hm⟩ := bd_s hm
      refine v_cv2i (M' := tm_wallOf) dm_thickest_12 mlm_165 okm_wallOf sh_104 hc_12 (Nat.le_of_ble_eq_true rfl) (ctm_wallOf G d _ _ _ _ he) ?_
      refine v_ald_0 dm_thickest_15 ?_
      refine v_ild_1 dm_thickest_16 ?_
      refine v_ild_2 dm_thickest_17 ?_
      obtain ⟨r2, he, hm⟩ := bd_s hm
      refine v_cv2i (M' := tm_wallOf) dm_thickest_18 mlm_165 okm_wallOf sh_104 hc_12 (Nat.le_of_ble_eq_true rfl) (ctm_wallOf G d _ _ _ _ he) ?_
      refine v_cmp_le dm_thickest_21 (fun hc => ?_) (fun hc => ?_)
      · replace hm := it hc hm
        refine v_inc_3 1 dm_thickest_26 rfl (by decide) rfl ?_
        refine v_goto dm_thickest_29 ?_
        exact v_kw (ih _ _ hm) (wk_s (wk_s (wk_s (wk_s wk_e))))
      · replace hm := ie hc hm
        refine v_ild_3 dm_thickest_24 ?_
        refine v_ist_2 dm_thickest_25 (by decide) rfl ?_
        refine v_inc_3 1 dm_thickest_26 rfl (by decide) rfl ?_
        refine v_goto dm_thickest_29 ?_
        exact v_kw (ih _ _ hm) (wk_s (wk_s (wk_s (wk_s wk_e))))
theorem ctm_thickest (G : GG) (d : Nat) (p1 : Int32) (h0 : PH) (r : Int32) (hm : mm_thickest p1 h0 = some r) : Kx G tm_thickest (d + 1) [.ref (gB G + 104), .int p1] h0 (some (.int r)) h0 := by
  refine K_of_V (by decide) (by simp [cat_i, cat_r, fmtV_cat]) (by simp [tm_thickest]) ?_
  change Vx G tm_thickest (d + 1) 0 [some (.ref (gB G + 104)), some (.int p1), none, none] [] h0 (some (.int r)) h0
  unfold mm_thickest at hm
  refine v_iconst (x := 0) dm_thickest_0 rfl ?_
  refine v_ist_2 dm_thickest_1 (by decide) rfl ?_
  refine v_iconst (x := 1) dm_thickest_2 rfl ?_
  refine v_ist_3 dm_thickest_3 (by decide) rfl ?_
  exact v_kw (wm_thickest_L4 G d _ _ _ FU _ _ hm) (wk_s (wk_s (wk_s (wk_s wk_e))))
def mm_standingSet_L4 (h0 : PH) : Nat → Int32 → Int32 → Option (Int32)
  | 0, _, _ => none
  | n + 1, v1, v2 =>
    if (h0 104 6) ≤ v2 then
      some v1
    else
      bd (mm_doesStand v2 h0) fun r1 =>
      if r1 = 0 then
        mm_standingSet_L4 h0 n v1 (v2 + 1)
      else
        lt (v1 ||| (1 <<< (v2 &&& 31))) fun x2 =>
        mm_standingSet_L4 h0 n x2 (v2 + 1)
def mm_standingSet (h0 : PH) : Option (Int32) :=
  mm_standingSet_L4 h0 FU 0 0
theorem wm_standingSet_L4 (G : GG) (d : Nat) (h0 : PH) (r : Int32) : ∀ (n : Nat) (v1 : Int32) (v2 : Int32), mm_standingSet_L4 h0 n v1 v2 = some r → Vx G tm_standingSet (d + 3) 4 [some (.ref (gB G + 104)), some (.int v1), some (.int v2)] [] h0 (some (.int r)) h0 := by
  intro n
  induction n with
  | zero => intro v1 v2 hm; cases hm
  | succ n ih =>
    intro v1 v2 hm
    unfold mm_standingSet_L4 at hm
    refine v_ild_2 dm_standingSet_4 ?_
    refine v_ald_0 dm_standingSet_5 ?_
    refine v_getI dm_standingSet_6 fum_158 sh_104 rf_104_6 ?_
    refine v_cmp_ge dm_standingSet_9 (fun hc => ?_) (fun hc => ?_)
    · replace hm := it hc hm
      refine v_ild_1 dm_standingSet_32 ?_
      cases hm
      exact v_iret dm_standingSet_33 rfl
    · replace hm := ie hc hm
      refine v_ald_0 dm_standingSet_12 ?_
      refine v_ild_2 dm_standingSet_13 ?_
      obtain ⟨r1, he, hm⟩ := bd_s hm
      refine v_cv1i (M' := tm_doesStand) dm_standingSet_14 mlm_173 okm_doesStand sh_104 hc_12 (Nat.le_of_ble_eq_true rfl) (ctm_doesStand G d _ _ _ he) ?_
      refine v_if_eq dm_standingSet_17 (fun hc => ?_) (fun hc => ?_)
      · replace hm := it hc hm
        refine v_inc_2 1 dm_standingSet_26 rfl (by decide) rfl ?_
        refine v_goto dm_standingSet_29 ?_
        exact v_kw (ih _ _ hm) (wk_s (wk_s (wk_s wk_e)))
      · replace hm := ie hc hm
        refine v_ild_1 dm_standingSet_20 ?_
        refine v_iconst (x := 1) dm_standingSet_21 rfl ?_
        refine v_ild_2 dm_standingSet_22 ?_
        refine v_ishl dm_standingSet_23 ?_
        refine v_ior dm_standingSet_24 ?_
        refine v_top hm (fun x2 hm => ?_)
        refine v_ist_1 dm_standingSet_25 (by decide) rfl ?_
        refine v_inc_2 1 dm_standingSet_26 rfl (by decide) rfl ?_
        refine v_goto dm_standingSet_29 ?_
        exact v_kw (ih _ _ hm) (wk_s (wk_s (wk_s wk_e)))
theorem ctm_standingSet (G : GG) (d : Nat) (h0 : PH) (r : Int32) (hm : mm_standingSet h0 = some r) : Kx G tm_standingSet (d + 3) [.ref (gB G + 104)] h0 (some (.int r)) h0 := by
  refine K_of_V (by decide) (by simp [cat_i, cat_r, fmtV_cat]) (by simp [tm_standingSet]) ?_
  change Vx G tm_standingSet (d + 3) 0 [some (.ref (gB G + 104)), none, none] [] h0 (some (.int r)) h0
  unfold mm_standingSet at hm
  refine v_iconst (x := 0) dm_standingSet_0 rfl ?_
  refine v_ist_1 dm_standingSet_1 (by decide) rfl ?_
  refine v_iconst (x := 0) dm_standingSet_2 rfl ?_
  refine v_ist_2 dm_standingSet_3 (by decide) rfl ?_
  exact v_kw (wm_standingSet_L4 G d _ _ FU _ _ hm) (wk_s (wk_s (wk_s wk_e)))
def mm_house_L52 (p1 : Int32) (p2 : Int32) (p3 : Int32) (k0 : PH → Option (Int32 × PH)) : Nat → Int32 → PH → Option (Int32 × PH)
  | 0, _, _ => none
  | n + 1, v4, hv =>
    if 4 ≤ v4 then
      k0 hv
    else
      ck ((7 + (4 * (hv 104 6))) + v4) 115 <|
      lt (up hv 105 (ix ((7 + (4 * (hv 104 6))) + v4)) p1) fun h5 =>
      mm_house_L52 p1 p2 p3 k0 n (v4 + 1) h5
def mm_house (p1 : Int32) (p2 : Int32) (p3 : Int32) (h0 : PH) : Option (Int32 × PH) :=
  lt (up h0 104 0 0) fun h1 =>
  bd (mm_isIn p1 0 99 h1) fun r2 =>
  if r2 = 0 then
    some ((-1), h1)
  else
    bd (mm_isIn p2 0 9 h1) fun r3 =>
    if r3 = 0 then
      some ((-1), h1)
    else
      bd (mm_isIn p3 0 9 h1) fun r4 =>
      if r4 = 0 then
        some ((-1), h1)
      else
        if (h1 104 6) = 12 then
          some ((-1), h1)
        else
          mm_house_L52 p1 p2 p3 (fun (h6 : PH) =>
            ck (55 + (h6 104 6)) 115 <|
            lt (up h6 105 (ix (55 + (h6 104 6))) 0) fun h7 =>
            ck (67 + (h7 104 6)) 115 <|
            lt (up h7 105 (ix (67 + (h7 104 6))) 0) fun h8 =>
            ck (79 + (h8 104 6)) 115 <|
            lt (up h8 105 (ix (79 + (h8 104 6))) 1) fun h9 =>
            ck (91 + (h9 104 6)) 115 <|
            lt (up h9 105 (ix (91 + (h9 104 6))) 0) fun h10 =>
            ck (103 + (h10 104 6)) 115 <|
            lt (up h10 105 (ix (103 + (h10 104 6))) 0) fun h11 =>
            ck (h11 104 6) 12 <|
            lt (up h11 108 (ix (h11 104 6)) p2) fun h12 =>
            ck (h12 104 6) 12 <|
            lt (up h12 109 (ix (h12 104 6)) p3) fun h13 =>
            lt (up h13 104 6 ((h13 104 6) + 1)) fun h14 =>
            lt (up h14 104 3 0) fun h15 =>
            some ((h15 104 6) - 1, h15)) FU 0 h1
theorem wm_house_L52 (G : GG) (d : Nat) (p1 : Int32) (p2 : Int32) (p3 : Int32) (k0 : PH → Option (Int32 × PH)) (r : Int32 × PH) (kk0 : ∀ (hy : PH), k0 hy = some r → Vx G tm_house (d + 1) 82 [some (.ref (gB G + 104)), none, some (.int p2), some (.int p3), none] [] hy (some (.int r.1)) r.2) : ∀ (n : Nat) (v4 : Int32) (hv : PH), mm_house_L52 p1 p2 p3 k0 n v4 hv = some r → Vx G tm_house (d + 1) 52 [some (.ref (gB G + 104)), some (.int p1), some (.int p2), some (.int p3), some (.int v4)] [] hv (some (.int r.1)) r.2 := by
  intro n
  induction n with
  | zero => intro v4 hv hm; cases hm
  | succ n ih =>
    intro v4 hv hm
    unfold mm_house_L52 at hm
    refine v_ild_4 dm_house_52 ?_
    refine v_iconst (x := 4) dm_house_54 rfl ?_
    refine v_cmp_ge dm_house_55 (fun hc => ?_) (fun hc => ?_)
    · replace hm := it hc hm
      exact v_kw (kk0 _ hm) (wk_s (wk_n (wk_s (wk_s (wk_n wk_e)))))
    · replace hm := ie hc hm
      refine v_ald_0 dm_house_58 ?_
      refine v_getR dm_house_59 fum_7 sh_104 rf_104_1 ?_
      refine v_bipush (x := 7) dm_house_62 rfl ?_
      refine v_iconst (x := 4) dm_house_64 rfl ?_
      refine v_ald_0 dm_house_65 ?_
      refine v_getI dm_house_66 fum_158 sh_104 rf_104_6 ?_
      refine v_imul dm_house_69 ?_
      refine v_iadd dm_house_70 ?_
      refine v_ild_4 dm_house_71 ?_
      refine v_iadd dm_house_73 ?_
      refine v_ild_1 dm_house_74 ?_
      obtain ⟨hi, hm⟩ := ck_s hm
      refine v_iastl dm_house_75 sh_105 hi hm (fun h5 hm => ?_)
      refine v_inc_4 1 dm_house_76 rfl (by decide) rfl ?_
      refine v_goto dm_house_79 ?_
      exact v_kw (ih _ _ hm) (wk_s (wk_s (wk_s (wk_s (wk_s wk_e)))))
theorem ctm_house (G : GG) (d : Nat) (p1 : Int32) (p2 : Int32) (p3 : Int32) (h0 : PH) (r : Int32 × PH) (hm : mm_house p1 p2 p3 h0 = some r) : Kx G tm_house (d + 1) [.ref (gB G + 104), .int p1, .int p2, .int p3] h0 (some (.int r.1)) r.2 := by
  refine K_of_V (by decide) (by simp [cat_i, cat_r, fmtV_cat]) (by simp [tm_house]) ?_
  change Vx G tm_house (d + 1) 0 [some (.ref (gB G + 104)), some (.int p1), some (.int p2), some (.int p3), none] [] h0 (some (.int r.1)) r.2
  unfold mm_house at hm
  refine v_ald_0 dm_house_0 ?_
  refine v_iconst (x := 0) dm_house_1 rfl ?_
  refine v_putIl dm_house_2 fum_146 ft_12_0 sh_104 rf_104_0 hm (fun h1 hm => ?_)
  refine v_ald_0 dm_house_5 ?_
  refine v_ild_1 dm_house_6 ?_
  refine v_iconst (x := 0) dm_house_7 rfl ?_
  refine v_bipush (x := 99) dm_house_8 rfl ?_
  obtain ⟨r2, he, hm⟩ := bd_s hm
  refine v_cv3i (M' := tm_isIn) dm_house_10 mlm_177 okm_isIn sh_104 hc_12 (Nat.le_of_ble_eq_true rfl) (ctm_isIn G d _ _ _ _ _ he) ?_
  refine v_if_eq dm_house_13 (fun hc => ?_) (fun hc => ?_)
  · replace hm := it hc hm
    refine v_iconst (x := (-1)) dm_house_47 rfl ?_
    cases hm
    exact v_iret dm_house_48 rfl
  · replace hm := ie hc hm
    refine v_ald_0 dm_house_16 ?_
    refine v_ild_2 dm_house_17 ?_
    refine v_iconst (x := 0) dm_house_18 rfl ?_
    refine v_bipush (x := 9) dm_house_19 rfl ?_
    obtain ⟨r3, he, hm⟩ := bd_s hm
    refine v_cv3i (M' := tm_isIn) dm_house_21 mlm_177 okm_isIn sh_104 hc_12 (Nat.le_of_ble_eq_true rfl) (ctm_isIn G d _ _ _ _ _ he) ?_
    refine v_if_eq dm_house_24 (fun hc => ?_) (fun hc => ?_)
    · replace hm := it hc hm
      refine v_iconst (x := (-1)) dm_house_47 rfl ?_
      cases hm
      exact v_iret dm_house_48 rfl
    · replace hm := ie hc hm
      refine v_ald_0 dm_house_27 ?_
      refine v_ild_3 dm_house_28 ?_
      refine v_iconst (x := 0) dm_house_29 rfl ?_
      refine v_bipush (x := 9) dm_house_30 rfl ?_
      obtain ⟨r4, he, hm⟩ := bd_s hm
      refine v_cv3i (M' := tm_isIn) dm_house_32 mlm_177 okm_isIn sh_104 hc_12 (Nat.le_of_ble_eq_true rfl) (ctm_isIn G d _ _ _ _ _ he) ?_
      refine v_if_eq dm_house_35 (fun hc => ?_) (fun hc => ?_)
      · replace hm := it hc hm
        refine v_iconst (x := (-1)) dm_house_47 rfl ?_
        cases hm
        exact v_iret dm_house_48 rfl
      · replace hm := ie hc hm
        refine v_ald_0 dm_house_38 ?_
        refine v_getI dm_house_39 fum_158 sh_104 rf_104_6 ?_
        refine v_bipush (x := 12) dm_house_42 rfl ?_
        refine v_cmp_ne dm_house_44 (fun hc => ?_) (fun hc => ?_)
        · replace hm := it hc hm
          refine v_iconst (x := (-1)) dm_house_47 rfl ?_
          cases hm
          exact v_iret dm_house_48 rfl
        · replace hm := ie hc hm
          refine v_iconst (x := 0) dm_house_49 rfl ?_
          refine v_ist_4 dm_house_50 (by decide) rfl ?_
          refine v_kw (wm_house_L52 G d _ _ _ _ _ (fun h6 hm => ?_) FU _ _ hm) (wk_s (wk_s (wk_s (wk_s (wk_s wk_e)))))
          refine v_ald_0 dm_house_82 ?_
          refine v_getR dm_house_83 fum_7 sh_104 rf_104_1 ?_
          refine v_bipush (x := 55) dm_house_86 rfl ?_
          refine v_ald_0 dm_house_88 ?_
          refine v_getI dm_house_89 fum_158 sh_104 rf_104_6 ?_
          refine v_iadd dm_house_92 ?_
          refine v_iconst (x := 0) dm_house_93 rfl ?_
          obtain ⟨hi, hm⟩ := ck_s hm
          refine v_iastl dm_house_94 sh_105 hi hm (fun h7 hm => ?_)
          refine v_ald_0 dm_house_95 ?_
          refine v_getR dm_house_96 fum_7 sh_104 rf_104_1 ?_
          refine v_bipush (x := 67) dm_house_99 rfl ?_
          refine v_ald_0 dm_house_101 ?_
          refine v_getI dm_house_102 fum_158 sh_104 rf_104_6 ?_
          refine v_iadd dm_house_105 ?_
          refine v_iconst (x := 0) dm_house_106 rfl ?_
          obtain ⟨hi, hm⟩ := ck_s hm
          refine v_iastl dm_house_107 sh_105 hi hm (fun h8 hm => ?_)
          refine v_ald_0 dm_house_108 ?_
          refine v_getR dm_house_109 fum_7 sh_104 rf_104_1 ?_
          refine v_bipush (x := 79) dm_house_112 rfl ?_
          refine v_ald_0 dm_house_114 ?_
          refine v_getI dm_house_115 fum_158 sh_104 rf_104_6 ?_
          refine v_iadd dm_house_118 ?_
          refine v_iconst (x := 1) dm_house_119 rfl ?_
          obtain ⟨hi, hm⟩ := ck_s hm
          refine v_iastl dm_house_120 sh_105 hi hm (fun h9 hm => ?_)
          refine v_ald_0 dm_house_121 ?_
          refine v_getR dm_house_122 fum_7 sh_104 rf_104_1 ?_
          refine v_bipush (x := 91) dm_house_125 rfl ?_
          refine v_ald_0 dm_house_127 ?_
          refine v_getI dm_house_128 fum_158 sh_104 rf_104_6 ?_
          refine v_iadd dm_house_131 ?_
          refine v_iconst (x := 0) dm_house_132 rfl ?_
          obtain ⟨hi, hm⟩ := ck_s hm
          refine v_iastl dm_house_133 sh_105 hi hm (fun h10 hm => ?_)
          refine v_ald_0 dm_house_134 ?_
          refine v_getR dm_house_135 fum_7 sh_104 rf_104_1 ?_
          refine v_bipush (x := 103) dm_house_138 rfl ?_
          refine v_ald_0 dm_house_140 ?_
          refine v_getI dm_house_141 fum_158 sh_104 rf_104_6 ?_
          refine v_iadd dm_house_144 ?_
          refine v_iconst (x := 0) dm_house_145 rfl ?_
          obtain ⟨hi, hm⟩ := ck_s hm
          refine v_iastl dm_house_146 sh_105 hi hm (fun h11 hm => ?_)
          refine v_ald_0 dm_house_147 ?_
          refine v_getR dm_house_148 fum_19 sh_104 rf_104_7 ?_
          refine v_ald_0 dm_house_151 ?_
          refine v_getI dm_house_152 fum_158 sh_104 rf_104_6 ?_
          refine v_ild_2 dm_house_155 ?_
          obtain ⟨hi, hm⟩ := ck_s hm
          refine v_iastl dm_house_156 sh_108 hi hm (fun h12 hm => ?_)
          refine v_ald_0 dm_house_157 ?_
          refine v_getR dm_house_158 fum_22 sh_104 rf_104_8 ?_
          refine v_ald_0 dm_house_161 ?_
          refine v_getI dm_house_162 fum_158 sh_104 rf_104_6 ?_
          refine v_ild_3 dm_house_165 ?_
          obtain ⟨hi, hm⟩ := ck_s hm
          refine v_iastl dm_house_166 sh_109 hi hm (fun h13 hm => ?_)
          refine v_ald_0 dm_house_167 ?_
          refine v_ald_0 dm_house_168 ?_
          refine v_getI dm_house_169 fum_158 sh_104 rf_104_6 ?_
          refine v_iconst (x := 1) dm_house_172 rfl ?_
          refine v_iadd dm_house_173 ?_
          refine v_putIl dm_house_174 fum_158 ft_12_6 sh_104 rf_104_6 hm (fun h14 hm => ?_)
          refine v_ald_0 dm_house_177 ?_
          refine v_iconst (x := 0) dm_house_178 rfl ?_
          refine v_putIl dm_house_179 fum_149 ft_12_3 sh_104 rf_104_3 hm (fun h15 hm => ?_)
          refine v_ald_0 dm_house_182 ?_
          refine v_getI dm_house_183 fum_158 sh_104 rf_104_6 ?_
          refine v_iconst (x := 1) dm_house_186 rfl ?_
          refine v_isub dm_house_187 ?_
          cases hm
          exact v_iret dm_house_188 rfl
def mm_canSet (p1 : Int32) (p2 : Int32) (p3 : Int32) (h0 : PH) : Option (Int32) :=
  if p1 = 8 then
    bd (mm_isIn p3 0 9 h0) fun r1 =>
    some (nb r1)
  else
    bd (mm_isIn p1 0 7 h0) fun r2 =>
    if r2 = 0 then
      some 0
    else
      bd (mm_isHouse p2 h0) fun r3 =>
      if r3 = 0 then
        some 0
      else
        bd (mm_isIn p1 4 6 h0) fun r4 =>
        jn1 (fun (x6 : Int32) =>
          bd (mm_isIn p3 0 x6 h0) fun r7 =>
          if r7 = 0 then
            some 0
          else
            some 1) fun j5 =>
        if r4 = 0 then
          j5 99
        else
          j5 9
theorem ctm_canSet (G : GG) (d : Nat) (p1 : Int32) (p2 : Int32) (p3 : Int32) (h0 : PH) (r : Int32) (hm : mm_canSet p1 p2 p3 h0 = some r) : Kx G tm_canSet (d + 1) [.ref (gB G + 104), .int p1, .int p2, .int p3] h0 (some (.int r)) h0 := by
  refine K_of_V (by decide) (by simp [cat_i, cat_r, fmtV_cat]) (by simp [tm_canSet]) ?_
  change Vx G tm_canSet (d + 1) 0 [some (.ref (gB G + 104)), some (.int p1), some (.int p2), some (.int p3)] [] h0 (some (.int r)) h0
  unfold mm_canSet at hm
  refine v_ild_1 dm_canSet_0 ?_
  refine v_bipush (x := 8) dm_canSet_1 rfl ?_
  refine v_cmp_ne dm_canSet_3 (fun hc => ?_) (fun hc => ?_)
  · replace hm := it hc hm
    refine v_ald_0 dm_canSet_6 ?_
    refine v_ild_3 dm_canSet_7 ?_
    refine v_iconst (x := 0) dm_canSet_8 rfl ?_
    refine v_bipush (x := 9) dm_canSet_9 rfl ?_
    obtain ⟨r1, he, hm⟩ := bd_s hm
    refine v_cv3i (M' := tm_isIn) dm_canSet_11 mlm_177 okm_isIn sh_104 hc_12 (Nat.le_of_ble_eq_true rfl) (ctm_isIn G d _ _ _ _ _ he) ?_
    cases hm
    exact v_zret dm_canSet_14 rfl
  · replace hm := ie hc hm
    refine v_ald_0 dm_canSet_15 ?_
    refine v_ild_1 dm_canSet_16 ?_
    refine v_iconst (x := 0) dm_canSet_17 rfl ?_
    refine v_bipush (x := 7) dm_canSet_18 rfl ?_
    obtain ⟨r2, he, hm⟩ := bd_s hm
    refine v_cv3i (M' := tm_isIn) dm_canSet_20 mlm_177 okm_isIn sh_104 hc_12 (Nat.le_of_ble_eq_true rfl) (ctm_isIn G d _ _ _ _ _ he) ?_
    refine v_if_eq dm_canSet_23 (fun hc => ?_) (fun hc => ?_)
    · replace hm := it hc hm
      refine v_iconst (x := 0) dm_canSet_65 rfl ?_
      cases hm
      exact v_zret0 dm_canSet_66 rfl
    · replace hm := ie hc hm
      refine v_ald_0 dm_canSet_26 ?_
      refine v_ild_2 dm_canSet_27 ?_
      obtain ⟨r3, he, hm⟩ := bd_s hm
      refine v_cv1i (M' := tm_isHouse) dm_canSet_28 mlm_181 okm_isHouse sh_104 hc_12 (Nat.le_of_ble_eq_true rfl) (ctm_isHouse G d _ _ _ he) ?_
      refine v_if_eq dm_canSet_31 (fun hc => ?_) (fun hc => ?_)
      · replace hm := it hc hm
        refine v_iconst (x := 0) dm_canSet_65 rfl ?_
        cases hm
        exact v_zret0 dm_canSet_66 rfl
      · replace hm := ie hc hm
        refine v_ald_0 dm_canSet_34 ?_
        refine v_ild_3 dm_canSet_35 ?_
        refine v_iconst (x := 0) dm_canSet_36 rfl ?_
        refine v_ald_0 dm_canSet_37 ?_
        refine v_ild_1 dm_canSet_38 ?_
        refine v_iconst (x := 4) dm_canSet_39 rfl ?_
        refine v_bipush (x := 6) dm_canSet_40 rfl ?_
        obtain ⟨r4, he, hm⟩ := bd_s hm
        refine v_cv3i (M' := tm_isIn) dm_canSet_42 mlm_177 okm_isIn sh_104 hc_12 (Nat.le_of_ble_eq_true rfl) (ctm_isIn G d _ _ _ _ _ he) ?_
        refine v_j1 (fun (x6 : Int32) => Vx G tm_canSet (d + 1) 55 [none, none, none, none] [.int x6, .int 0, .int p3, .ref (gB G + 104)] h0 (some (.int r)) h0) hm (fun x6 hm => ?_) (fun j5 kj5 hm => ?_)
        · obtain ⟨r7, he, hm⟩ := bd_s hm
          refine v_cv3i (M' := tm_isIn) dm_canSet_55 mlm_177 okm_isIn sh_104 hc_12 (Nat.le_of_ble_eq_true rfl) (ctm_isIn G d _ _ _ _ _ he) ?_
          refine v_if_eq dm_canSet_58 (fun hc => ?_) (fun hc => ?_)
          · replace hm := it hc hm
            refine v_iconst (x := 0) dm_canSet_65 rfl ?_
            cases hm
            exact v_zret0 dm_canSet_66 rfl
          · replace hm := ie hc hm
            refine v_iconst (x := 1) dm_canSet_61 rfl ?_
            refine v_goto dm_canSet_62 ?_
            cases hm
            exact v_zret1 dm_canSet_66 rfl
        · refine v_if_eq dm_canSet_45 (fun hc => ?_) (fun hc => ?_)
          · replace hm := it hc hm
            refine v_bipush (x := 99) dm_canSet_53 rfl ?_
            exact v_kw (kj5 _ hm) (wk_n (wk_n (wk_n (wk_n wk_e))))
          · replace hm := ie hc hm
            refine v_bipush (x := 9) dm_canSet_48 rfl ?_
            refine v_goto dm_canSet_50 ?_
            exact v_kw (kj5 _ hm) (wk_n (wk_n (wk_n (wk_n wk_e))))
def mm_set (p1 : Int32) (p2 : Int32) (p3 : Int32) (h0 : PH) : Option (Int32 × PH) :=
  lt (up h0 104 0 0) fun h1 =>
  bd (mm_canSet p1 p2 p3 h1) fun r2 =>
  if r2 = 0 then
    some (0, h1)
  else
    jn1 (fun (h4 : PH) =>
      jn1 (fun (h6 : PH) =>
        jn1 (fun (h8 : PH) =>
          jn1 (fun (h10 : PH) =>
            jn1 (fun (h12 : PH) =>
              jn1 (fun (h14 : PH) =>
                lt (up h14 104 3 0) fun h15 =>
                some (1, h15)) fun j13 =>
              if p1 = 8 then
                ck 3 115 <|
                lt (up h12 105 (ix 3) p3) fun h16 =>
                j13 h16
              else
                j13 h12) fun j11 =>
            if p1 = 7 then
              ck (79 + p2) 115 <|
              lt (up h10 105 (ix (79 + p2)) p3) fun h17 =>
              j11 h17
            else
              j11 h10) fun j9 =>
          if p1 = 6 then
            ck (55 + p2) 115 <|
            lt (up h8 105 (ix (55 + p2)) p3) fun h18 =>
            j9 h18
          else
            j9 h8) fun j7 =>
        if p1 = 5 then
          ck p2 12 <|
          lt (up h6 109 (ix p2) p3) fun h19 =>
          j7 h19
        else
          j7 h6) fun j5 =>
      if p1 = 4 then
        ck p2 12 <|
        lt (up h4 108 (ix p2) p3) fun h20 =>
        j5 h20
      else
        j5 h4) fun j3 =>
    if 4 ≤ p1 then
      j3 h1
    else
      bd (mm_hasWall p2 p1 p3 h1) fun h21 =>
      j3 h21
theorem ctm_set (G : GG) (d : Nat) (p1 : Int32) (p2 : Int32) (p3 : Int32) (h0 : PH) (r : Int32 × PH) (hm : mm_set p1 p2 p3 h0 = some r) : Kx G tm_set (d + 2) [.ref (gB G + 104), .int p1, .int p2, .int p3] h0 (some (.int r.1)) r.2 := by
  refine K_of_V (by decide) (by simp [cat_i, cat_r, fmtV_cat]) (by simp [tm_set]) ?_
  change Vx G tm_set (d + 2) 0 [some (.ref (gB G + 104)), some (.int p1), some (.int p2), some (.int p3)] [] h0 (some (.int r.1)) r.2
  unfold mm_set at hm
  refine v_ald_0 dm_set_0 ?_
  refine v_iconst (x := 0) dm_set_1 rfl ?_
  refine v_putIl dm_set_2 fum_146 ft_12_0 sh_104 rf_104_0 hm (fun h1 hm => ?_)
  refine v_ald_0 dm_set_5 ?_
  refine v_ild_1 dm_set_6 ?_
  refine v_ild_2 dm_set_7 ?_
  refine v_ild_3 dm_set_8 ?_
  obtain ⟨r2, he, hm⟩ := bd_s hm
  refine v_cv3i (M' := tm_canSet) dm_set_9 mlm_184 okm_canSet sh_104 hc_12 (Nat.le_of_ble_eq_true rfl) (ctm_canSet G d _ _ _ _ _ he) ?_
  refine v_if_ne dm_set_12 (fun hc => ?_) (fun hc => ?_)
  · replace hm := it hc hm
    refine v_iconst (x := 0) dm_set_15 rfl ?_
    cases hm
    exact v_zret0 dm_set_16 rfl
  · replace hm := ie hc hm
    refine v_ild_1 dm_set_17 ?_
    refine v_iconst (x := 4) dm_set_18 rfl ?_
    refine v_j1 (fun (h4 : PH) => Vx G tm_set (d + 2) 29 [some (.ref (gB G + 104)), some (.int p1), some (.int p2), some (.int p3)] [] h4 (some (.int r.1)) r.2) hm (fun h4 hm => ?_) (fun j3 kj3 hm => ?_)
    · refine v_ild_1 dm_set_29 ?_
      refine v_iconst (x := 4) dm_set_30 rfl ?_
      refine v_j1 (fun (h6 : PH) => Vx G tm_set (d + 2) 41 [some (.ref (gB G + 104)), some (.int p1), some (.int p2), some (.int p3)] [] h6 (some (.int r.1)) r.2) hm (fun h6 hm => ?_) (fun j5 kj5 hm => ?_)
      · refine v_ild_1 dm_set_41 ?_
        refine v_iconst (x := 5) dm_set_42 rfl ?_
        refine v_j1 (fun (h8 : PH) => Vx G tm_set (d + 2) 53 [some (.ref (gB G + 104)), some (.int p1), some (.int p2), some (.int p3)] [] h8 (some (.int r.1)) r.2) hm (fun h8 hm => ?_) (fun j7 kj7 hm => ?_)
        · refine v_ild_1 dm_set_53 ?_
          refine v_bipush (x := 6) dm_set_54 rfl ?_
          refine v_j1 (fun (h10 : PH) => Vx G tm_set (d + 2) 69 [some (.ref (gB G + 104)), some (.int p1), some (.int p2), some (.int p3)] [] h10 (some (.int r.1)) r.2) hm (fun h10 hm => ?_) (fun j9 kj9 hm => ?_)
          · refine v_ild_1 dm_set_69 ?_
            refine v_bipush (x := 7) dm_set_70 rfl ?_
            refine v_j1 (fun (h12 : PH) => Vx G tm_set (d + 2) 85 [some (.ref (gB G + 104)), some (.int p1), none, some (.int p3)] [] h12 (some (.int r.1)) r.2) hm (fun h12 hm => ?_) (fun j11 kj11 hm => ?_)
            · refine v_ild_1 dm_set_85 ?_
              refine v_bipush (x := 8) dm_set_86 rfl ?_
              refine v_j1 (fun (h14 : PH) => Vx G tm_set (d + 2) 98 [some (.ref (gB G + 104)), none, none, none] [] h14 (some (.int r.1)) r.2) hm (fun h14 hm => ?_) (fun j13 kj13 hm => ?_)
              · refine v_ald_0 dm_set_98 ?_
                refine v_iconst (x := 0) dm_set_99 rfl ?_
                refine v_putIl dm_set_100 fum_149 ft_12_3 sh_104 rf_104_3 hm (fun h15 hm => ?_)
                refine v_iconst (x := 1) dm_set_103 rfl ?_
                cases hm
                exact v_zret1 dm_set_104 rfl
              · refine v_cmp_ne dm_set_88 (fun hc => ?_) (fun hc => ?_)
                · replace hm := it hc hm
                  refine v_ald_0 dm_set_91 ?_
                  refine v_getR dm_set_92 fum_7 sh_104 rf_104_1 ?_
                  refine v_iconst (x := 3) dm_set_95 rfl ?_
                  refine v_ild_3 dm_set_96 ?_
                  obtain ⟨hi, hm⟩ := ck_s hm
                  refine v_iastl dm_set_97 sh_105 hi hm (fun h16 hm => ?_)
                  exact v_kw (kj13 _ hm) (wk_s (wk_n (wk_n (wk_n wk_e))))
                · replace hm := ie hc hm
                  exact v_kw (kj13 _ hm) (wk_s (wk_n (wk_n (wk_n wk_e))))
            · refine v_cmp_ne dm_set_72 (fun hc => ?_) (fun hc => ?_)
              · replace hm := it hc hm
                refine v_ald_0 dm_set_75 ?_
                refine v_getR dm_set_76 fum_7 sh_104 rf_104_1 ?_
                refine v_bipush (x := 79) dm_set_79 rfl ?_
                refine v_ild_2 dm_set_81 ?_
                refine v_iadd dm_set_82 ?_
                refine v_ild_3 dm_set_83 ?_
                obtain ⟨hi, hm⟩ := ck_s hm
                refine v_iastl dm_set_84 sh_105 hi hm (fun h17 hm => ?_)
                exact v_kw (kj11 _ hm) (wk_s (wk_s (wk_n (wk_s wk_e))))
              · replace hm := ie hc hm
                exact v_kw (kj11 _ hm) (wk_s (wk_s (wk_n (wk_s wk_e))))
          · refine v_cmp_ne dm_set_56 (fun hc => ?_) (fun hc => ?_)
            · replace hm := it hc hm
              refine v_ald_0 dm_set_59 ?_
              refine v_getR dm_set_60 fum_7 sh_104 rf_104_1 ?_
              refine v_bipush (x := 55) dm_set_63 rfl ?_
              refine v_ild_2 dm_set_65 ?_
              refine v_iadd dm_set_66 ?_
              refine v_ild_3 dm_set_67 ?_
              obtain ⟨hi, hm⟩ := ck_s hm
              refine v_iastl dm_set_68 sh_105 hi hm (fun h18 hm => ?_)
              exact v_kw (kj9 _ hm) (wk_s (wk_s (wk_s (wk_s wk_e))))
            · replace hm := ie hc hm
              exact v_kw (kj9 _ hm) (wk_s (wk_s (wk_s (wk_s wk_e))))
        · refine v_cmp_ne dm_set_43 (fun hc => ?_) (fun hc => ?_)
          · replace hm := it hc hm
            refine v_ald_0 dm_set_46 ?_
            refine v_getR dm_set_47 fum_22 sh_104 rf_104_8 ?_
            refine v_ild_2 dm_set_50 ?_
            refine v_ild_3 dm_set_51 ?_
            obtain ⟨hi, hm⟩ := ck_s hm
            refine v_iastl dm_set_52 sh_109 hi hm (fun h19 hm => ?_)
            exact v_kw (kj7 _ hm) (wk_s (wk_s (wk_s (wk_s wk_e))))
          · replace hm := ie hc hm
            exact v_kw (kj7 _ hm) (wk_s (wk_s (wk_s (wk_s wk_e))))
      · refine v_cmp_ne dm_set_31 (fun hc => ?_) (fun hc => ?_)
        · replace hm := it hc hm
          refine v_ald_0 dm_set_34 ?_
          refine v_getR dm_set_35 fum_19 sh_104 rf_104_7 ?_
          refine v_ild_2 dm_set_38 ?_
          refine v_ild_3 dm_set_39 ?_
          obtain ⟨hi, hm⟩ := ck_s hm
          refine v_iastl dm_set_40 sh_108 hi hm (fun h20 hm => ?_)
          exact v_kw (kj5 _ hm) (wk_s (wk_s (wk_s (wk_s wk_e))))
        · replace hm := ie hc hm
          exact v_kw (kj5 _ hm) (wk_s (wk_s (wk_s (wk_s wk_e))))
    · refine v_cmp_ge dm_set_19 (fun hc => ?_) (fun hc => ?_)
      · replace hm := it hc hm
        exact v_kw (kj3 _ hm) (wk_s (wk_s (wk_s (wk_s wk_e))))
      · replace hm := ie hc hm
        refine v_ald_0 dm_set_22 ?_
        refine v_ild_2 dm_set_23 ?_
        refine v_ild_1 dm_set_24 ?_
        refine v_ild_3 dm_set_25 ?_
        obtain ⟨h21, he, hm⟩ := bd_s hm
        refine v_cv3v (M' := tm_hasWall) dm_set_26 mlm_187 okm_hasWall sh_104 hc_12 (Nat.le_of_ble_eq_true rfl) (ctm_hasWall G d _ _ _ _ _ he) ?_
        exact v_kw (kj3 _ hm) (wk_s (wk_s (wk_s (wk_s wk_e))))
def mm_types_L3 (p1 : Int32) : Nat → Int32 → PH → Option (PH)
  | 0, _, _ => none
  | n + 1, v2, hv =>
    if v2 < 0 then
      some hv
    else
      ck (hv 104 11) 400 <|
      lt (up hv 111 (ix (hv 104 11)) ((p1 >>> (v2 &&& 31)) &&& 255)) fun h1 =>
      lt (up h1 104 11 ((h1 104 11) + 1)) fun h2 =>
      mm_types_L3 p1 n (v2 + (-8)) h2
def mm_types (p1 : Int32) (h0 : PH) : Option (PH) :=
  mm_types_L3 p1 FU 24 h0
theorem wm_types_L3 (G : GG) (d : Nat) (p1 : Int32) (r : PH) : ∀ (n : Nat) (v2 : Int32) (hv : PH), mm_types_L3 p1 n v2 hv = some r → Vx G tm_types d 3 [some (.ref (gB G + 104)), some (.int p1), some (.int v2)] [] hv none r := by
  intro n
  induction n with
  | zero => intro v2 hv hm; cases hm
  | succ n ih =>
    intro v2 hv hm
    unfold mm_types_L3 at hm
    refine v_ild_2 dm_types_3 ?_
    refine v_if_lt dm_types_4 (fun hc => ?_) (fun hc => ?_)
    · replace hm := it hc hm
      cases hm
      exact v_ret dm_types_39 rfl
    · replace hm := ie hc hm
      refine v_ald_0 dm_types_7 ?_
      refine v_getR dm_types_8 fum_28 sh_104 rf_104_10 ?_
      refine v_ald_0 dm_types_11 ?_
      refine v_getI dm_types_12 fum_191 sh_104 rf_104_11 ?_
      refine v_ild_1 dm_types_15 ?_
      refine v_ild_2 dm_types_16 ?_
      refine v_ishr dm_types_17 ?_
      refine v_sipush (x := 255) dm_types_18 rfl ?_
      refine v_iand dm_types_21 ?_
      obtain ⟨hi, hm⟩ := ck_s hm
      refine v_iastl dm_types_22 sh_111 hi hm (fun h1 hm => ?_)
      refine v_ald_0 dm_types_23 ?_
      refine v_ald_0 dm_types_24 ?_
      refine v_getI dm_types_25 fum_191 sh_104 rf_104_11 ?_
      refine v_iconst (x := 1) dm_types_28 rfl ?_
      refine v_iadd dm_types_29 ?_
      refine v_putIl dm_types_30 fum_191 ft_12_11 sh_104 rf_104_11 hm (fun h2 hm => ?_)
      refine v_inc_2 (-8) dm_types_33 rfl (by decide) rfl ?_
      refine v_goto dm_types_36 ?_
      exact v_kw (ih _ _ hm) (wk_s (wk_s (wk_s wk_e)))
theorem ctm_types (G : GG) (d : Nat) (p1 : Int32) (h0 : PH) (r : PH) (hm : mm_types p1 h0 = some r) : Kx G tm_types d [.ref (gB G + 104), .int p1] h0 none r := by
  refine K_of_V (by decide) (by simp [cat_i, cat_r, fmtV_cat]) (by simp [tm_types]) ?_
  change Vx G tm_types d 0 [some (.ref (gB G + 104)), some (.int p1), none] [] h0 none r
  unfold mm_types at hm
  refine v_bipush (x := 24) dm_types_0 rfl ?_
  refine v_ist_2 dm_types_2 (by decide) rfl ?_
  exact v_kw (wm_types_L3 G d _ _ FU _ _ hm) (wk_s (wk_s (wk_s wk_e)))
def mm_feed (p1 : Int32) (p2 : Int32) (p3 : Int32) (p4 : Int32) (p5 : Int32) (h0 : PH) : Option (Int32 × PH) :=
  lt (up h0 104 0 0) fun h1 =>
  if (h1 104 11) ≤ 380 then
    bd (mm_types p1 h1) fun h2 =>
    bd (mm_types p2 h2) fun h3 =>
    bd (mm_types p3 h3) fun h4 =>
    bd (mm_types p4 h4) fun h5 =>
    bd (mm_types p5 h5) fun h6 =>
    some (h6 104 11, h6)
  else
    some ((-1), h1)
theorem ctm_feed (G : GG) (d : Nat) (p1 : Int32) (p2 : Int32) (p3 : Int32) (p4 : Int32) (p5 : Int32) (h0 : PH) (r : Int32 × PH) (hm : mm_feed p1 p2 p3 p4 p5 h0 = some r) : Kx G tm_feed (d + 1) [.ref (gB G + 104), .int p1, .int p2, .int p3, .int p4, .int p5] h0 (some (.int r.1)) r.2 := by
  refine K_of_V (by decide) (by simp [cat_i, cat_r, fmtV_cat]) (by simp [tm_feed]) ?_
  change Vx G tm_feed (d + 1) 0 [some (.ref (gB G + 104)), some (.int p1), some (.int p2), some (.int p3), some (.int p4), some (.int p5)] [] h0 (some (.int r.1)) r.2
  unfold mm_feed at hm
  refine v_ald_0 dm_feed_0 ?_
  refine v_iconst (x := 0) dm_feed_1 rfl ?_
  refine v_putIl dm_feed_2 fum_146 ft_12_0 sh_104 rf_104_0 hm (fun h1 hm => ?_)
  refine v_ald_0 dm_feed_5 ?_
  refine v_getI dm_feed_6 fum_191 sh_104 rf_104_11 ?_
  refine v_sipush (x := 380) dm_feed_9 rfl ?_
  refine v_cmp_le dm_feed_12 (fun hc => ?_) (fun hc => ?_)
  · replace hm := it hc hm
    refine v_ald_0 dm_feed_17 ?_
    refine v_ild_1 dm_feed_18 ?_
    obtain ⟨h2, he, hm⟩ := bd_s hm
    refine v_cv1v (M' := tm_types) dm_feed_19 mlm_194 okm_types sh_104 hc_12 (Nat.le_of_ble_eq_true rfl) (ctm_types G d _ _ _ he) ?_
    refine v_ald_0 dm_feed_22 ?_
    refine v_ild_2 dm_feed_23 ?_
    obtain ⟨h3, he, hm⟩ := bd_s hm
    refine v_cv1v (M' := tm_types) dm_feed_24 mlm_194 okm_types sh_104 hc_12 (Nat.le_of_ble_eq_true rfl) (ctm_types G d _ _ _ he) ?_
    refine v_ald_0 dm_feed_27 ?_
    refine v_ild_3 dm_feed_28 ?_
    obtain ⟨h4, he, hm⟩ := bd_s hm
    refine v_cv1v (M' := tm_types) dm_feed_29 mlm_194 okm_types sh_104 hc_12 (Nat.le_of_ble_eq_true rfl) (ctm_types G d _ _ _ he) ?_
    refine v_ald_0 dm_feed_32 ?_
    refine v_ild_4 dm_feed_33 ?_
    obtain ⟨h5, he, hm⟩ := bd_s hm
    refine v_cv1v (M' := tm_types) dm_feed_35 mlm_194 okm_types sh_104 hc_12 (Nat.le_of_ble_eq_true rfl) (ctm_types G d _ _ _ he) ?_
    refine v_ald_0 dm_feed_38 ?_
    refine v_ild_5 dm_feed_39 ?_
    obtain ⟨h6, he, hm⟩ := bd_s hm
    refine v_cv1v (M' := tm_types) dm_feed_41 mlm_194 okm_types sh_104 hc_12 (Nat.le_of_ble_eq_true rfl) (ctm_types G d _ _ _ he) ?_
    refine v_ald_0 dm_feed_44 ?_
    refine v_getI dm_feed_45 fum_191 sh_104 rf_104_11 ?_
    cases hm
    exact v_iret dm_feed_48 rfl
  · replace hm := ie hc hm
    refine v_iconst (x := (-1)) dm_feed_15 rfl ?_
    cases hm
    exact v_iret dm_feed_16 rfl
def mm_end (p1 : Int32) (h0 : PH) : Option (Int32 × PH) :=
  lt (up h0 104 0 0) fun h1 =>
  bd (mm_isIn p1 0 (h1 104 11) h1) fun r2 =>
  if r2 = 0 then
    some (0, h1)
  else
    lt (up h1 104 11 p1) fun h3 =>
    some (1, h3)
theorem ctm_end (G : GG) (d : Nat) (p1 : Int32) (h0 : PH) (r : Int32 × PH) (hm : mm_end p1 h0 = some r) : Kx G tm_end (d + 1) [.ref (gB G + 104), .int p1] h0 (some (.int r.1)) r.2 := by
  refine K_of_V (by decide) (by simp [cat_i, cat_r, fmtV_cat]) (by simp [tm_end]) ?_
  change Vx G tm_end (d + 1) 0 [some (.ref (gB G + 104)), some (.int p1)] [] h0 (some (.int r.1)) r.2
  unfold mm_end at hm
  refine v_ald_0 dm_end_0 ?_
  refine v_iconst (x := 0) dm_end_1 rfl ?_
  refine v_putIl dm_end_2 fum_146 ft_12_0 sh_104 rf_104_0 hm (fun h1 hm => ?_)
  refine v_ald_0 dm_end_5 ?_
  refine v_ild_1 dm_end_6 ?_
  refine v_iconst (x := 0) dm_end_7 rfl ?_
  refine v_ald_0 dm_end_8 ?_
  refine v_getI dm_end_9 fum_191 sh_104 rf_104_11 ?_
  obtain ⟨r2, he, hm⟩ := bd_s hm
  refine v_cv3i (M' := tm_isIn) dm_end_12 mlm_177 okm_isIn sh_104 hc_12 (Nat.le_of_ble_eq_true rfl) (ctm_isIn G d _ _ _ _ _ he) ?_
  refine v_if_ne dm_end_15 (fun hc => ?_) (fun hc => ?_)
  · replace hm := it hc hm
    refine v_iconst (x := 0) dm_end_18 rfl ?_
    cases hm
    exact v_zret0 dm_end_19 rfl
  · replace hm := ie hc hm
    refine v_ald_0 dm_end_20 ?_
    refine v_ild_1 dm_end_21 ?_
    refine v_putIl dm_end_22 fum_191 ft_12_11 sh_104 rf_104_11 hm (fun h3 hm => ?_)
    refine v_iconst (x := 1) dm_end_25 rfl ?_
    cases hm
    exact v_zret1 dm_end_26 rfl
def mm_raw (p1 : Int32) (h0 : PH) : Option (Int32) :=
  if (h0 104 11) ≤ p1 then
    some (-1)
  else
    ck p1 400 <|
    some (h0 111 (ix p1))
theorem ctm_raw (G : GG) (d : Nat) (p1 : Int32) (h0 : PH) (r : Int32) (hm : mm_raw p1 h0 = some r) : Kx G tm_raw d [.ref (gB G + 104), .int p1] h0 (some (.int r)) h0 := by
  refine K_of_V (by decide) (by simp [cat_i, cat_r, fmtV_cat]) (by simp [tm_raw]) ?_
  change Vx G tm_raw d 0 [some (.ref (gB G + 104)), some (.int p1)] [] h0 (some (.int r)) h0
  unfold mm_raw at hm
  refine v_ild_1 dm_raw_0 ?_
  refine v_ald_0 dm_raw_1 ?_
  refine v_getI dm_raw_2 fum_191 sh_104 rf_104_11 ?_
  refine v_cmp_ge dm_raw_5 (fun hc => ?_) (fun hc => ?_)
  · replace hm := it hc hm
    refine v_iconst (x := (-1)) dm_raw_17 rfl ?_
    cases hm
    exact v_iret dm_raw_18 rfl
  · replace hm := ie hc hm
    refine v_ald_0 dm_raw_8 ?_
    refine v_getR dm_raw_9 fum_28 sh_104 rf_104_10 ?_
    refine v_ild_1 dm_raw_12 ?_
    obtain ⟨hi, hm⟩ := ck_s hm
    refine v_iald dm_raw_13 sh_111 hi ?_
    refine v_goto dm_raw_14 ?_
    cases hm
    exact v_iret dm_raw_18 rfl
def mm_isLetter (p1 : Int32) (h0 : PH) : Option (Int32) :=
  bd (mm_isIn p1 97 122 h0) fun r1 =>
  if r1 = 0 then
    bd (mm_isIn p1 65 90 h0) fun r2 =>
    if r2 = 0 then
      some 0
    else
      some 1
  else
    some 1
theorem ctm_isLetter (G : GG) (d : Nat) (p1 : Int32) (h0 : PH) (r : Int32) (hm : mm_isLetter p1 h0 = some r) : Kx G tm_isLetter (d + 1) [.ref (gB G + 104), .int p1] h0 (some (.int r)) h0 := by
  refine K_of_V (by decide) (by simp [cat_i, cat_r, fmtV_cat]) (by simp [tm_isLetter]) ?_
  change Vx G tm_isLetter (d + 1) 0 [some (.ref (gB G + 104)), some (.int p1)] [] h0 (some (.int r)) h0
  unfold mm_isLetter at hm
  refine v_ald_0 dm_isLetter_0 ?_
  refine v_ild_1 dm_isLetter_1 ?_
  refine v_bipush (x := 97) dm_isLetter_2 rfl ?_
  refine v_bipush (x := 122) dm_isLetter_4 rfl ?_
  obtain ⟨r1, he, hm⟩ := bd_s hm
  refine v_cv3i (M' := tm_isIn) dm_isLetter_6 mlm_177 okm_isIn sh_104 hc_12 (Nat.le_of_ble_eq_true rfl) (ctm_isIn G d _ _ _ _ _ he) ?_
  refine v_if_ne dm_isLetter_9 (fun hc => ?_) (fun hc => ?_)
  · replace hm := it hc hm
    refine v_ald_0 dm_isLetter_12 ?_
    refine v_ild_1 dm_isLetter_13 ?_
    refine v_bipush (x := 65) dm_isLetter_14 rfl ?_
    refine v_bipush (x := 90) dm_isLetter_16 rfl ?_
    obtain ⟨r2, he, hm⟩ := bd_s hm
    refine v_cv3i (M' := tm_isIn) dm_isLetter_18 mlm_177 okm_isIn sh_104 hc_12 (Nat.le_of_ble_eq_true rfl) (ctm_isIn G d _ _ _ _ _ he) ?_
    refine v_if_eq dm_isLetter_21 (fun hc => ?_) (fun hc => ?_)
    · replace hm := it hc hm
      refine v_iconst (x := 0) dm_isLetter_28 rfl ?_
      cases hm
      exact v_zret0 dm_isLetter_29 rfl
    · replace hm := ie hc hm
      refine v_iconst (x := 1) dm_isLetter_24 rfl ?_
      refine v_goto dm_isLetter_25 ?_
      cases hm
      exact v_zret1 dm_isLetter_29 rfl
  · replace hm := ie hc hm
    refine v_iconst (x := 1) dm_isLetter_24 rfl ?_
    refine v_goto dm_isLetter_25 ?_
    cases hm
    exact v_zret1 dm_isLetter_29 rfl
def mm_isDigit (p1 : Int32) (h0 : PH) : Option (Int32) :=
  bd (mm_isIn p1 48 57 h0) fun r1 =>
  some (nb r1)
theorem ctm_isDigit (G : GG) (d : Nat) (p1 : Int32) (h0 : PH) (r : Int32) (hm : mm_isDigit p1 h0 = some r) : Kx G tm_isDigit (d + 1) [.ref (gB G + 104), .int p1] h0 (some (.int r)) h0 := by
  refine K_of_V (by decide) (by simp [cat_i, cat_r, fmtV_cat]) (by simp [tm_isDigit]) ?_
  change Vx G tm_isDigit (d + 1) 0 [some (.ref (gB G + 104)), some (.int p1)] [] h0 (some (.int r)) h0
  unfold mm_isDigit at hm
  refine v_ald_0 dm_isDigit_0 ?_
  refine v_ild_1 dm_isDigit_1 ?_
  refine v_bipush (x := 48) dm_isDigit_2 rfl ?_
  refine v_bipush (x := 57) dm_isDigit_4 rfl ?_
  obtain ⟨r1, he, hm⟩ := bd_s hm
  refine v_cv3i (M' := tm_isIn) dm_isDigit_6 mlm_177 okm_isIn sh_104 hc_12 (Nat.le_of_ble_eq_true rfl) (ctm_isIn G d _ _ _ _ _ he) ?_
  cases hm
  exact v_zret dm_isDigit_9 rfl
def mm_isMarkSign (p1 : Int32) (h0 : PH) : Option (Int32) :=
  if p1 = 59 then
    some 1
  else
    if p1 = 43 then
      some 1
    else
      if p1 = 45 then
        some 1
      else
        if p1 = 42 then
          some 1
        else
          if p1 = 47 then
            some 1
          else
            if p1 = 40 then
              some 1
            else
              if p1 = 41 then
                some 1
              else
                if p1 = 60 then
                  some 1
                else
                  if p1 = 61 then
                    some 1
                  else
                    if p1 = 62 then
                      some 1
                    else
                      some 0
theorem ctm_isMarkSign (G : GG) (d : Nat) (p1 : Int32) (h0 : PH) (r : Int32) (hm : mm_isMarkSign p1 h0 = some r) : Kx G tm_isMarkSign d [.ref (gB G + 104), .int p1] h0 (some (.int r)) h0 := by
  refine K_of_V (by decide) (by simp [cat_i, cat_r, fmtV_cat]) (by simp [tm_isMarkSign]) ?_
  change Vx G tm_isMarkSign d 0 [some (.ref (gB G + 104)), some (.int p1)] [] h0 (some (.int r)) h0
  unfold mm_isMarkSign at hm
  refine v_ild_1 dm_isMarkSign_0 ?_
  refine v_bipush (x := 59) dm_isMarkSign_1 rfl ?_
  refine v_cmp_eq dm_isMarkSign_3 (fun hc => ?_) (fun hc => ?_)
  · replace hm := it hc hm
    refine v_iconst (x := 1) dm_isMarkSign_60 rfl ?_
    refine v_goto dm_isMarkSign_61 ?_
    cases hm
    exact v_zret1 dm_isMarkSign_65 rfl
  · replace hm := ie hc hm
    refine v_ild_1 dm_isMarkSign_6 ?_
    refine v_bipush (x := 43) dm_isMarkSign_7 rfl ?_
    refine v_cmp_eq dm_isMarkSign_9 (fun hc => ?_) (fun hc => ?_)
    · replace hm := it hc hm
      refine v_iconst (x := 1) dm_isMarkSign_60 rfl ?_
      refine v_goto dm_isMarkSign_61 ?_
      cases hm
      exact v_zret1 dm_isMarkSign_65 rfl
    · replace hm := ie hc hm
      refine v_ild_1 dm_isMarkSign_12 ?_
      refine v_bipush (x := 45) dm_isMarkSign_13 rfl ?_
      refine v_cmp_eq dm_isMarkSign_15 (fun hc => ?_) (fun hc => ?_)
      · replace hm := it hc hm
        refine v_iconst (x := 1) dm_isMarkSign_60 rfl ?_
        refine v_goto dm_isMarkSign_61 ?_
        cases hm
        exact v_zret1 dm_isMarkSign_65 rfl
      · replace hm := ie hc hm
        refine v_ild_1 dm_isMarkSign_18 ?_
        refine v_bipush (x := 42) dm_isMarkSign_19 rfl ?_
        refine v_cmp_eq dm_isMarkSign_21 (fun hc => ?_) (fun hc => ?_)
        · replace hm := it hc hm
          refine v_iconst (x := 1) dm_isMarkSign_60 rfl ?_
          refine v_goto dm_isMarkSign_61 ?_
          cases hm
          exact v_zret1 dm_isMarkSign_65 rfl
        · replace hm := ie hc hm
          refine v_ild_1 dm_isMarkSign_24 ?_
          refine v_bipush (x := 47) dm_isMarkSign_25 rfl ?_
          refine v_cmp_eq dm_isMarkSign_27 (fun hc => ?_) (fun hc => ?_)
          · replace hm := it hc hm
            refine v_iconst (x := 1) dm_isMarkSign_60 rfl ?_
            refine v_goto dm_isMarkSign_61 ?_
            cases hm
            exact v_zret1 dm_isMarkSign_65 rfl
          · replace hm := ie hc hm
            refine v_ild_1 dm_isMarkSign_30 ?_
            refine v_bipush (x := 40) dm_isMarkSign_31 rfl ?_
            refine v_cmp_eq dm_isMarkSign_33 (fun hc => ?_) (fun hc => ?_)
            · replace hm := it hc hm
              refine v_iconst (x := 1) dm_isMarkSign_60 rfl ?_
              refine v_goto dm_isMarkSign_61 ?_
              cases hm
              exact v_zret1 dm_isMarkSign_65 rfl
            · replace hm := ie hc hm
              refine v_ild_1 dm_isMarkSign_36 ?_
              refine v_bipush (x := 41) dm_isMarkSign_37 rfl ?_
              refine v_cmp_eq dm_isMarkSign_39 (fun hc => ?_) (fun hc => ?_)
              · replace hm := it hc hm
                refine v_iconst (x := 1) dm_isMarkSign_60 rfl ?_
                refine v_goto dm_isMarkSign_61 ?_
                cases hm
                exact v_zret1 dm_isMarkSign_65 rfl
              · replace hm := ie hc hm
                refine v_ild_1 dm_isMarkSign_42 ?_
                refine v_bipush (x := 60) dm_isMarkSign_43 rfl ?_
                refine v_cmp_eq dm_isMarkSign_45 (fun hc => ?_) (fun hc => ?_)
                · replace hm := it hc hm
                  refine v_iconst (x := 1) dm_isMarkSign_60 rfl ?_
                  refine v_goto dm_isMarkSign_61 ?_
                  cases hm
                  exact v_zret1 dm_isMarkSign_65 rfl
                · replace hm := ie hc hm
                  refine v_ild_1 dm_isMarkSign_48 ?_
                  refine v_bipush (x := 61) dm_isMarkSign_49 rfl ?_
                  refine v_cmp_eq dm_isMarkSign_51 (fun hc => ?_) (fun hc => ?_)
                  · replace hm := it hc hm
                    refine v_iconst (x := 1) dm_isMarkSign_60 rfl ?_
                    refine v_goto dm_isMarkSign_61 ?_
                    cases hm
                    exact v_zret1 dm_isMarkSign_65 rfl
                  · replace hm := ie hc hm
                    refine v_ild_1 dm_isMarkSign_54 ?_
                    refine v_bipush (x := 62) dm_isMarkSign_55 rfl ?_
                    refine v_cmp_ne dm_isMarkSign_57 (fun hc => ?_) (fun hc => ?_)
                    · replace hm := it hc hm
                      refine v_iconst (x := 1) dm_isMarkSign_60 rfl ?_
                      refine v_goto dm_isMarkSign_61 ?_
                      cases hm
                      exact v_zret1 dm_isMarkSign_65 rfl
                    · replace hm := ie hc hm
                      refine v_iconst (x := 0) dm_isMarkSign_64 rfl ?_
                      cases hm
                      exact v_zret0 dm_isMarkSign_65 rfl
def mm_wordAt_L20 (p1 : Int32) (p2 : Int32) (p3 : Int32) (p4 : Int32) (h0 : PH) (k0 : Int32 → Option (Int32)) : Nat → Int32 → Option (Int32)
  | 0, _ => none
  | n + 1, v5 =>
    if p2 ≤ (p1 + v5) then
      k0 v5
    else
      ck ((p4 + 1) + v5) 141 <|
      ck (p1 + v5) 400 <|
      if (h0 112 (ix ((p4 + 1) + v5))) = (h0 111 (ix (p1 + v5))) then
        lt (v5 + 1) fun x2 =>
        mm_wordAt_L20 p1 p2 p3 p4 h0 k0 n x2
      else
        k0 v5
def mm_wordAt_L94 (p1 : Int32) (p2 : Int32) (p3 : Int32) (h0 : PH) (k0 : Int32 → Option (Int32)) : Nat → Int32 → Option (Int32)
  | 0, _ => none
  | n + 1, v4 =>
    ck v4 141 <|
    if (h0 112 (ix v4)) = 32 then
      k0 v4
    else
      lt (v4 + 1) fun x6 =>
      mm_wordAt_L94 p1 p2 p3 h0 k0 n x6
def mm_wordAt_L5 (p1 : Int32) (p2 : Int32) (h0 : PH) : Nat → Int32 → Int32 → Option (Int32)
  | 0, _, _ => none
  | n + 1, v3, v4 =>
    if 140 ≤ v4 then
      some (-1)
    else
      lt (v3 + 1) fun x1 =>
      mm_wordAt_L20 p1 p2 x1 v4 h0 (fun (x3 : Int32) =>
        jn0 (lt (v4 + 1) fun x5 =>
          mm_wordAt_L94 p1 p2 x1 h0 (fun (x7 : Int32) =>
            mm_wordAt_L5 p1 p2 h0 n x1 x7) FU x5) fun j4 =>
        if (p1 + x3) = p2 then
          ck ((v4 + 1) + x3) 141 <|
          if (h0 112 (ix ((v4 + 1) + x3))) = 32 then
            some x1
          else
            j4
        else
          j4) FU 0
def mm_wordAt (p1 : Int32) (p2 : Int32) (h0 : PH) : Option (Int32) :=
  mm_wordAt_L5 p1 p2 h0 FU (-1) 0
theorem wm_wordAt_L20 (G : GG) (d : Nat) (p1 : Int32) (p2 : Int32) (p3 : Int32) (p4 : Int32) (h0 : PH) (k0 : Int32 → Option (Int32)) (r : Int32) (kk0 : ∀ (y5 : Int32), k0 y5 = some r → Vx G tm_wordAt d 61 [some (.ref (gB G + 104)), some (.int p1), some (.int p2), some (.int p3), some (.int p4), some (.int y5)] [] h0 (some (.int r)) h0) : ∀ (n : Nat) (v5 : Int32), mm_wordAt_L20 p1 p2 p3 p4 h0 k0 n v5 = some r → Vx G tm_wordAt d 20 [some (.ref (gB G + 104)), some (.int p1), some (.int p2), some (.int p3), some (.int p4), some (.int v5)] [] h0 (some (.int r)) h0 := by
  intro n
  induction n with
  | zero => intro v5 hm; cases hm
  | succ n ih =>
    intro v5 hm
    unfold mm_wordAt_L20 at hm
    refine v_ild_1 dm_wordAt_20 ?_
    refine v_ild_5 dm_wordAt_21 ?_
    refine v_iadd dm_wordAt_23 ?_
    refine v_ild_2 dm_wordAt_24 ?_
    refine v_cmp_ge dm_wordAt_25 (fun hc => ?_) (fun hc => ?_)
    · replace hm := it hc hm
      exact v_kw (kk0 _ hm) (wk_s (wk_s (wk_s (wk_s (wk_s (wk_s wk_e))))))
    · replace hm := ie hc hm
      refine v_ald_0 dm_wordAt_28 ?_
      refine v_getR dm_wordAt_29 fum_31 sh_104 rf_104_16 ?_
      refine v_ild_4 dm_wordAt_32 ?_
      refine v_iconst (x := 1) dm_wordAt_34 rfl ?_
      refine v_iadd dm_wordAt_35 ?_
      refine v_ild_5 dm_wordAt_36 ?_
      refine v_iadd dm_wordAt_38 ?_
      obtain ⟨hi, hm⟩ := ck_s hm
      refine v_iald dm_wordAt_39 sh_112 hi ?_
      refine v_ald_0 dm_wordAt_40 ?_
      refine v_getR dm_wordAt_41 fum_28 sh_104 rf_104_10 ?_
      refine v_ild_1 dm_wordAt_44 ?_
      refine v_ild_5 dm_wordAt_45 ?_
      refine v_iadd dm_wordAt_47 ?_
      obtain ⟨hi, hm⟩ := ck_s hm
      refine v_iald dm_wordAt_48 sh_111 hi ?_
      refine v_cmp_ne dm_wordAt_49 (fun hc => ?_) (fun hc => ?_)
      · replace hm := it hc hm
        refine v_ild_5 dm_wordAt_52 ?_
        refine v_iconst (x := 1) dm_wordAt_54 rfl ?_
        refine v_iadd dm_wordAt_55 ?_
        refine v_top hm (fun x2 hm => ?_)
        refine v_ist_5 dm_wordAt_56 (by decide) rfl ?_
        refine v_goto dm_wordAt_58 ?_
        exact v_kw (ih _ hm) (wk_s (wk_s (wk_s (wk_s (wk_s (wk_s wk_e))))))
      · replace hm := ie hc hm
        exact v_kw (kk0 _ hm) (wk_s (wk_s (wk_s (wk_s (wk_s (wk_s wk_e))))))
theorem wm_wordAt_L94 (G : GG) (d : Nat) (p1 : Int32) (p2 : Int32) (p3 : Int32) (h0 : PH) (k0 : Int32 → Option (Int32)) (r : Int32) (kk0 : ∀ (y4 : Int32), k0 y4 = some r → Vx G tm_wordAt d 115 [some (.ref (gB G + 104)), some (.int p1), some (.int p2), some (.int p3), some (.int y4), none] [] h0 (some (.int r)) h0) : ∀ (n : Nat) (v4 : Int32), mm_wordAt_L94 p1 p2 p3 h0 k0 n v4 = some r → Vx G tm_wordAt d 94 [some (.ref (gB G + 104)), some (.int p1), some (.int p2), some (.int p3), some (.int v4), none] [] h0 (some (.int r)) h0 := by
  intro n
  induction n with
  | zero => intro v4 hm; cases hm
  | succ n ih =>
    intro v4 hm
    unfold mm_wordAt_L94 at hm
    refine v_ald_0 dm_wordAt_94 ?_
    refine v_getR dm_wordAt_95 fum_31 sh_104 rf_104_16 ?_
    refine v_ild_4 dm_wordAt_98 ?_
    obtain ⟨hi, hm⟩ := ck_s hm
    refine v_iald dm_wordAt_100 sh_112 hi ?_
    refine v_bipush (x := 32) dm_wordAt_101 rfl ?_
    refine v_cmp_eq dm_wordAt_103 (fun hc => ?_) (fun hc => ?_)
    · replace hm := it hc hm
      exact v_kw (kk0 _ hm) (wk_s (wk_s (wk_s (wk_s (wk_s (wk_n wk_e))))))
    · replace hm := ie hc hm
      refine v_ild_4 dm_wordAt_106 ?_
      refine v_iconst (x := 1) dm_wordAt_108 rfl ?_
      refine v_iadd dm_wordAt_109 ?_
      refine v_top hm (fun x6 hm => ?_)
      refine v_ist_4 dm_wordAt_110 (by decide) rfl ?_
      refine v_goto dm_wordAt_112 ?_
      exact v_kw (ih _ hm) (wk_s (wk_s (wk_s (wk_s (wk_s (wk_n wk_e))))))
theorem wm_wordAt_L5 (G : GG) (d : Nat) (p1 : Int32) (p2 : Int32) (h0 : PH) (r : Int32) : ∀ (n : Nat) (v3 : Int32) (v4 : Int32), mm_wordAt_L5 p1 p2 h0 n v3 v4 = some r → Vx G tm_wordAt d 5 [some (.ref (gB G + 104)), some (.int p1), some (.int p2), some (.int v3), some (.int v4), none] [] h0 (some (.int r)) h0 := by
  intro n
  induction n with
  | zero => intro v3 v4 hm; cases hm
  | succ n ih =>
    intro v3 v4 hm
    unfold mm_wordAt_L5 at hm
    refine v_ild_4 dm_wordAt_5 ?_
    refine v_sipush (x := 140) dm_wordAt_7 rfl ?_
    refine v_cmp_ge dm_wordAt_10 (fun hc => ?_) (fun hc => ?_)
    · replace hm := it hc hm
      refine v_iconst (x := (-1)) dm_wordAt_118 rfl ?_
      cases hm
      exact v_iret dm_wordAt_119 rfl
    · replace hm := ie hc hm
      refine v_iconst (x := 0) dm_wordAt_13 rfl ?_
      refine v_ist_5 dm_wordAt_14 (by decide) rfl ?_
      refine v_ild_3 dm_wordAt_16 ?_
      refine v_iconst (x := 1) dm_wordAt_17 rfl ?_
      refine v_iadd dm_wordAt_18 ?_
      refine v_top hm (fun x1 hm => ?_)
      refine v_ist_3 dm_wordAt_19 (by decide) rfl ?_
      refine v_kw (wm_wordAt_L20 G d _ _ _ _ _ _ _ (fun x3 hm => ?_) FU _ hm) (wk_s (wk_s (wk_s (wk_s (wk_s (wk_s wk_e))))))
      refine v_ild_1 dm_wordAt_61 ?_
      refine v_ild_5 dm_wordAt_62 ?_
      refine v_iadd dm_wordAt_64 ?_
      refine v_ild_2 dm_wordAt_65 ?_
      refine v_j0 (Vx G tm_wordAt d 88 [some (.ref (gB G + 104)), some (.int p1), some (.int p2), some (.int x1), some (.int v4), none] [] h0 (some (.int r)) h0) hm (fun hm => ?_) (fun j4 kj4 hm => ?_)
      · refine v_ild_4 dm_wordAt_88 ?_
        refine v_iconst (x := 1) dm_wordAt_90 rfl ?_
        refine v_iadd dm_wordAt_91 ?_
        refine v_top hm (fun x5 hm => ?_)
        refine v_ist_4 dm_wordAt_92 (by decide) rfl ?_
        refine v_kw (wm_wordAt_L94 G d _ _ _ _ _ _ (fun x7 hm => ?_) FU _ hm) (wk_s (wk_s (wk_s (wk_s (wk_s (wk_n wk_e))))))
        refine v_goto dm_wordAt_115 ?_
        exact v_kw (ih _ _ hm) (wk_s (wk_s (wk_s (wk_s (wk_s (wk_n wk_e))))))
      · refine v_cmp_ne dm_wordAt_66 (fun hc => ?_) (fun hc => ?_)
        · replace hm := it hc hm
          refine v_ald_0 dm_wordAt_69 ?_
          refine v_getR dm_wordAt_70 fum_31 sh_104 rf_104_16 ?_
          refine v_ild_4 dm_wordAt_73 ?_
          refine v_iconst (x := 1) dm_wordAt_75 rfl ?_
          refine v_iadd dm_wordAt_76 ?_
          refine v_ild_5 dm_wordAt_77 ?_
          refine v_iadd dm_wordAt_79 ?_
          obtain ⟨hi, hm⟩ := ck_s hm
          refine v_iald dm_wordAt_80 sh_112 hi ?_
          refine v_bipush (x := 32) dm_wordAt_81 rfl ?_
          refine v_cmp_ne dm_wordAt_83 (fun hc => ?_) (fun hc => ?_)
          · replace hm := it hc hm
            refine v_ild_3 dm_wordAt_86 ?_
            cases hm
            exact v_iret dm_wordAt_87 rfl
          · replace hm := ie hc hm
            exact v_kw (kj4 hm) (wk_s (wk_s (wk_s (wk_s (wk_s (wk_n wk_e))))))
        · replace hm := ie hc hm
          exact v_kw (kj4 hm) (wk_s (wk_s (wk_s (wk_s (wk_s (wk_n wk_e))))))
theorem ctm_wordAt (G : GG) (d : Nat) (p1 : Int32) (p2 : Int32) (h0 : PH) (r : Int32) (hm : mm_wordAt p1 p2 h0 = some r) : Kx G tm_wordAt d [.ref (gB G + 104), .int p1, .int p2] h0 (some (.int r)) h0 := by
  refine K_of_V (by decide) (by simp [cat_i, cat_r, fmtV_cat]) (by simp [tm_wordAt]) ?_
  change Vx G tm_wordAt d 0 [some (.ref (gB G + 104)), some (.int p1), some (.int p2), none, none, none] [] h0 (some (.int r)) h0
  unfold mm_wordAt at hm
  refine v_iconst (x := (-1)) dm_wordAt_0 rfl ?_
  refine v_ist_3 dm_wordAt_1 (by decide) rfl ?_
  refine v_iconst (x := 0) dm_wordAt_2 rfl ?_
  refine v_ist_4 dm_wordAt_3 (by decide) rfl ?_
  exact v_kw (wm_wordAt_L5 G d _ _ _ _ FU _ _ hm) (wk_s (wk_s (wk_s (wk_s (wk_s (wk_n wk_e))))))
def mm_reads_L0 (k0 : PH → Option (PH)) : Nat → PH → Option (PH)
  | 0, _ => none
  | n + 1, hv =>
    bd (mm_raw (hv 104 12) hv) fun r1 =>
    jn0 (lt (up hv 104 12 ((hv 104 12) + 1)) fun h3 =>
      mm_reads_L0 k0 n h3) fun j2 =>
    if r1 = 32 then
      j2
    else
      bd (mm_raw (hv 104 12) hv) fun r4 =>
      if r4 = 10 then
        j2
      else
        k0 hv
def mm_reads_L171 (k0 : PH → Option (PH)) : Nat → PH → Option (PH)
  | 0, _ => none
  | n + 1, hv =>
    bd (mm_raw (hv 104 12) hv) fun r17 =>
    bd (mm_isDigit r17 hv) fun r18 =>
    if r18 = 0 then
      k0 hv
    else
      jn1 (fun (x20 : Int32) =>
        lt (up hv 104 15 x20) fun h21 =>
        lt (up h21 104 12 ((h21 104 12) + 1)) fun h22 =>
        mm_reads_L171 k0 n h22) fun j19 =>
      if 10000 ≤ (hv 104 15) then
        j19 (hv 104 15)
      else
        bd (mm_raw (hv 104 12) hv) fun r23 =>
        j19 (((10 * (hv 104 15)) + r23) - 48)
def mm_reads_L95 (k0 : PH → Option (PH)) : Nat → PH → Option (PH)
  | 0, _ => none
  | n + 1, hv =>
    bd (mm_raw (hv 104 12) hv) fun r26 =>
    bd (mm_isLetter r26 hv) fun r27 =>
    if r27 = 0 then
      k0 hv
    else
      lt (up hv 104 12 ((hv 104 12) + 1)) fun h28 =>
      mm_reads_L95 k0 n h28
def mm_reads (h0 : PH) : Option (PH) :=
  mm_reads_L0 (fun (h5 : PH) =>
    lt (up h5 104 13 (h5 104 12)) fun h6 =>
    lt (up h6 104 14 1) fun h7 =>
    bd (mm_raw (h7 104 12) h7) fun r8 =>
    if r8 = (-1) then
      lt (up h7 104 14 0) fun h9 =>
      some h9
    else
      lt (up h7 104 12 ((h7 104 12) + 1)) fun h10 =>
      lt (up h10 104 15 r8) fun h11 =>
      bd (mm_isLetter r8 h11) fun r12 =>
      if r12 = 0 then
        bd (mm_isDigit r8 h11) fun r13 =>
        if r13 = 0 then
          bd (mm_isMarkSign r8 h11) fun r14 =>
          if r14 = 0 then
            some h11
          else
            lt (up h11 104 14 4) fun h15 =>
            some h15
        else
          lt (up h11 104 15 (r8 - 48)) fun h16 =>
          mm_reads_L171 (fun (h24 : PH) =>
            if 5 ≤ ((h24 104 12) - (h24 104 13)) then
              some h24
            else
              lt (up h24 104 14 3) fun h25 =>
              some h25) FU h16
      else
        mm_reads_L95 (fun (h29 : PH) =>
          bd (mm_wordAt (h29 104 13) (h29 104 12) h29) fun r30 =>
          lt (up h29 104 15 r30) fun h31 =>
          if (h31 104 15) = (-1) then
            some h31
          else
            lt (up h31 104 14 2) fun h32 =>
            some h32) FU h11) FU h0
theorem wm_reads_L0 (G : GG) (d : Nat) (k0 : PH → Option (PH)) (r : PH) (kk0 : ∀ (hy : PH), k0 hy = some r → Vx G tm_reads (d + 2) 39 [some (.ref (gB G + 104)), none] [] hy none r) : ∀ (n : Nat) (hv : PH), mm_reads_L0 k0 n hv = some r → Vx G tm_reads (d + 2) 0 [some (.ref (gB G + 104)), none] [] hv none r := by
  intro n
  induction n with
  | zero => intro hv hm; cases hm
  | succ n ih =>
    intro hv hm
    unfold mm_reads_L0 at hm
    refine v_ald_0 dm_reads_0 ?_
    refine v_ald_0 dm_reads_1 ?_
    refine v_getI dm_reads_2 fum_198 sh_104 rf_104_12 ?_
    obtain ⟨r1, he, hm⟩ := bd_s hm
    refine v_cv1i (M' := tm_raw) dm_reads_5 mlm_201 okm_raw sh_104 hc_12 (Nat.le_of_ble_eq_true rfl) (ctm_raw G (d + 1) _ _ _ he) ?_
    refine v_bipush (x := 32) dm_reads_8 rfl ?_
    refine v_j0 (Vx G tm_reads (d + 2) 26 [some (.ref (gB G + 104)), none] [] hv none r) hm (fun hm => ?_) (fun j2 kj2 hm => ?_)
    · refine v_ald_0 dm_reads_26 ?_
      refine v_ald_0 dm_reads_27 ?_
      refine v_getI dm_reads_28 fum_198 sh_104 rf_104_12 ?_
      refine v_iconst (x := 1) dm_reads_31 rfl ?_
      refine v_iadd dm_reads_32 ?_
      refine v_putIl dm_reads_33 fum_198 ft_12_12 sh_104 rf_104_12 hm (fun h3 hm => ?_)
      refine v_goto dm_reads_36 ?_
      exact v_kw (ih _ hm) (wk_s (wk_n wk_e))
    · refine v_cmp_eq dm_reads_10 (fun hc => ?_) (fun hc => ?_)
      · replace hm := it hc hm
        exact v_kw (kj2 hm) (wk_s (wk_n wk_e))
      · replace hm := ie hc hm
        refine v_ald_0 dm_reads_13 ?_
        refine v_ald_0 dm_reads_14 ?_
        refine v_getI dm_reads_15 fum_198 sh_104 rf_104_12 ?_
        obtain ⟨r4, he, hm⟩ := bd_s hm
        refine v_cv1i (M' := tm_raw) dm_reads_18 mlm_201 okm_raw sh_104 hc_12 (Nat.le_of_ble_eq_true rfl) (ctm_raw G (d + 1) _ _ _ he) ?_
        refine v_bipush (x := 10) dm_reads_21 rfl ?_
        refine v_cmp_ne dm_reads_23 (fun hc => ?_) (fun hc => ?_)
        · replace hm := it hc hm
          exact v_kw (kj2 hm) (wk_s (wk_n wk_e))
        · replace hm := ie hc hm
          exact v_kw (kk0 _ hm) (wk_s (wk_n wk_e))
theorem wm_reads_L171 (G : GG) (d : Nat) (k0 : PH → Option (PH)) (r : PH) (kk0 : ∀ (hy : PH), k0 hy = some r → Vx G tm_reads (d + 2) 239 [some (.ref (gB G + 104)), none] [] hy none r) : ∀ (n : Nat) (hv : PH), mm_reads_L171 k0 n hv = some r → Vx G tm_reads (d + 2) 171 [some (.ref (gB G + 104)), none] [] hv none r := by
  intro n
  induction n with
  | zero => intro hv hm; cases hm
  | succ n ih =>
    intro hv hm
    unfold mm_reads_L171 at hm
    refine v_ald_0 dm_reads_171 ?_
    refine v_ald_0 dm_reads_172 ?_
    refine v_ald_0 dm_reads_173 ?_
    refine v_getI dm_reads_174 fum_198 sh_104 rf_104_12 ?_
    obtain ⟨r17, he, hm⟩ := bd_s hm
    refine v_cv1i (M' := tm_raw) dm_reads_177 mlm_201 okm_raw sh_104 hc_12 (Nat.le_of_ble_eq_true rfl) (ctm_raw G (d + 1) _ _ _ he) ?_
    obtain ⟨r18, he, hm⟩ := bd_s hm
    refine v_cv1i (M' := tm_isDigit) dm_reads_180 mlm_219 okm_isDigit sh_104 hc_12 (Nat.le_of_ble_eq_true rfl) (ctm_isDigit G d _ _ _ he) ?_
    refine v_if_eq dm_reads_183 (fun hc => ?_) (fun hc => ?_)
    · replace hm := it hc hm
      exact v_kw (kk0 _ hm) (wk_s (wk_n wk_e))
    · replace hm := ie hc hm
      refine v_ald_0 dm_reads_186 ?_
      refine v_ald_0 dm_reads_187 ?_
      refine v_getI dm_reads_188 fum_210 sh_104 rf_104_15 ?_
      refine v_sipush (x := 10000) dm_reads_191 rfl ?_
      refine v_j1 (fun (x20 : Int32) => Vx G tm_reads (d + 2) 223 [some (.ref (gB G + 104)), none] [.int x20, .ref (gB G + 104)] hv none r) hm (fun x20 hm => ?_) (fun j19 kj19 hm => ?_)
      · refine v_putIl dm_reads_223 fum_210 ft_12_15 sh_104 rf_104_15 hm (fun h21 hm => ?_)
        refine v_ald_0 dm_reads_226 ?_
        refine v_ald_0 dm_reads_227 ?_
        refine v_getI dm_reads_228 fum_198 sh_104 rf_104_12 ?_
        refine v_iconst (x := 1) dm_reads_231 rfl ?_
        refine v_iadd dm_reads_232 ?_
        refine v_putIl dm_reads_233 fum_198 ft_12_12 sh_104 rf_104_12 hm (fun h22 hm => ?_)
        refine v_goto dm_reads_236 ?_
        exact v_kw (ih _ hm) (wk_s (wk_n wk_e))
      · refine v_cmp_ge dm_reads_194 (fun hc => ?_) (fun hc => ?_)
        · replace hm := it hc hm
          refine v_ald_0 dm_reads_219 ?_
          refine v_getI dm_reads_220 fum_210 sh_104 rf_104_15 ?_
          exact v_kw (kj19 _ hm) (wk_s (wk_n wk_e))
        · replace hm := ie hc hm
          refine v_bipush (x := 10) dm_reads_197 rfl ?_
          refine v_ald_0 dm_reads_199 ?_
          refine v_getI dm_reads_200 fum_210 sh_104 rf_104_15 ?_
          refine v_imul dm_reads_203 ?_
          refine v_ald_0 dm_reads_204 ?_
          refine v_ald_0 dm_reads_205 ?_
          refine v_getI dm_reads_206 fum_198 sh_104 rf_104_12 ?_
          obtain ⟨r23, he, hm⟩ := bd_s hm
          refine v_cv1i (M' := tm_raw) dm_reads_209 mlm_201 okm_raw sh_104 hc_12 (Nat.le_of_ble_eq_true rfl) (ctm_raw G (d + 1) _ _ _ he) ?_
          refine v_iadd dm_reads_212 ?_
          refine v_bipush (x := 48) dm_reads_213 rfl ?_
          refine v_isub dm_reads_215 ?_
          refine v_goto dm_reads_216 ?_
          exact v_kw (kj19 _ hm) (wk_s (wk_n wk_e))
theorem wm_reads_L95 (G : GG) (d : Nat) (k0 : PH → Option (PH)) (r : PH) (kk0 : ∀ (hy : PH), k0 hy = some r → Vx G tm_reads (d + 2) 123 [some (.ref (gB G + 104)), none] [] hy none r) : ∀ (n : Nat) (hv : PH), mm_reads_L95 k0 n hv = some r → Vx G tm_reads (d + 2) 95 [some (.ref (gB G + 104)), none] [] hv none r := by
  intro n
  induction n with
  | zero => intro hv hm; cases hm
  | succ n ih =>
    intro hv hm
    unfold mm_reads_L95 at hm
    refine v_ald_0 dm_reads_95 ?_
    refine v_ald_0 dm_reads_96 ?_
    refine v_ald_0 dm_reads_97 ?_
    refine v_getI dm_reads_98 fum_198 sh_104 rf_104_12 ?_
    obtain ⟨r26, he, hm⟩ := bd_s hm
    refine v_cv1i (M' := tm_raw) dm_reads_101 mlm_201 okm_raw sh_104 hc_12 (Nat.le_of_ble_eq_true rfl) (ctm_raw G (d + 1) _ _ _ he) ?_
    obtain ⟨r27, he, hm⟩ := bd_s hm
    refine v_cv1i (M' := tm_isLetter) dm_reads_104 mlm_213 okm_isLetter sh_104 hc_12 (Nat.le_of_ble_eq_true rfl) (ctm_isLetter G d _ _ _ he) ?_
    refine v_if_eq dm_reads_107 (fun hc => ?_) (fun hc => ?_)
    · replace hm := it hc hm
      exact v_kw (kk0 _ hm) (wk_s (wk_n wk_e))
    · replace hm := ie hc hm
      refine v_ald_0 dm_reads_110 ?_
      refine v_ald_0 dm_reads_111 ?_
      refine v_getI dm_reads_112 fum_198 sh_104 rf_104_12 ?_
      refine v_iconst (x := 1) dm_reads_115 rfl ?_
      refine v_iadd dm_reads_116 ?_
      refine v_putIl dm_reads_117 fum_198 ft_12_12 sh_104 rf_104_12 hm (fun h28 hm => ?_)
      refine v_goto dm_reads_120 ?_
      exact v_kw (ih _ hm) (wk_s (wk_n wk_e))
theorem ctm_reads (G : GG) (d : Nat) (h0 : PH) (r : PH) (hm : mm_reads h0 = some r) : Kx G tm_reads (d + 2) [.ref (gB G + 104)] h0 none r := by
  refine K_of_V (by decide) (by simp [cat_i, cat_r, fmtV_cat]) (by simp [tm_reads]) ?_
  change Vx G tm_reads (d + 2) 0 [some (.ref (gB G + 104)), none] [] h0 none r
  unfold mm_reads at hm
  refine v_kw (wm_reads_L0 G d _ _ (fun h5 hm => ?_) FU _ hm) (wk_s (wk_n wk_e))
  refine v_ald_0 dm_reads_39 ?_
  refine v_ald_0 dm_reads_40 ?_
  refine v_getI dm_reads_41 fum_198 sh_104 rf_104_12 ?_
  refine v_putIl dm_reads_44 fum_204 ft_12_13 sh_104 rf_104_13 hm (fun h6 hm => ?_)
  refine v_ald_0 dm_reads_47 ?_
  refine v_iconst (x := 1) dm_reads_48 rfl ?_
  refine v_putIl dm_reads_49 fum_207 ft_12_14 sh_104 rf_104_14 hm (fun h7 hm => ?_)
  refine v_ald_0 dm_reads_52 ?_
  refine v_ald_0 dm_reads_53 ?_
  refine v_getI dm_reads_54 fum_198 sh_104 rf_104_12 ?_
  obtain ⟨r8, he, hm⟩ := bd_s hm
  refine v_cv1i (M' := tm_raw) dm_reads_57 mlm_201 okm_raw sh_104 hc_12 (Nat.le_of_ble_eq_true rfl) (ctm_raw G (d + 1) _ _ _ he) ?_
  refine v_ist_1 dm_reads_60 (by decide) rfl ?_
  refine v_ild_1 dm_reads_61 ?_
  refine v_iconst (x := (-1)) dm_reads_62 rfl ?_
  refine v_cmp_ne dm_reads_63 (fun hc => ?_) (fun hc => ?_)
  · replace hm := it hc hm
    refine v_ald_0 dm_reads_66 ?_
    refine v_iconst (x := 0) dm_reads_67 rfl ?_
    refine v_putIl dm_reads_68 fum_207 ft_12_14 sh_104 rf_104_14 hm (fun h9 hm => ?_)
    cases hm
    exact v_ret dm_reads_71 rfl
  · replace hm := ie hc hm
    refine v_ald_0 dm_reads_72 ?_
    refine v_ald_0 dm_reads_73 ?_
    refine v_getI dm_reads_74 fum_198 sh_104 rf_104_12 ?_
    refine v_iconst (x := 1) dm_reads_77 rfl ?_
    refine v_iadd dm_reads_78 ?_
    refine v_putIl dm_reads_79 fum_198 ft_12_12 sh_104 rf_104_12 hm (fun h10 hm => ?_)
    refine v_ald_0 dm_reads_82 ?_
    refine v_ild_1 dm_reads_83 ?_
    refine v_putIl dm_reads_84 fum_210 ft_12_15 sh_104 rf_104_15 hm (fun h11 hm => ?_)
    refine v_ald_0 dm_reads_87 ?_
    refine v_ild_1 dm_reads_88 ?_
    obtain ⟨r12, he, hm⟩ := bd_s hm
    refine v_cv1i (M' := tm_isLetter) dm_reads_89 mlm_213 okm_isLetter sh_104 hc_12 (Nat.le_of_ble_eq_true rfl) (ctm_isLetter G d _ _ _ he) ?_
    refine v_if_eq dm_reads_92 (fun hc => ?_) (fun hc => ?_)
    · replace hm := it hc hm
      refine v_ald_0 dm_reads_155 ?_
      refine v_ild_1 dm_reads_156 ?_
      obtain ⟨r13, he, hm⟩ := bd_s hm
      refine v_cv1i (M' := tm_isDigit) dm_reads_157 mlm_219 okm_isDigit sh_104 hc_12 (Nat.le_of_ble_eq_true rfl) (ctm_isDigit G d _ _ _ he) ?_
      refine v_if_eq dm_reads_160 (fun hc => ?_) (fun hc => ?_)
      · replace hm := it hc hm
        refine v_ald_0 dm_reads_260 ?_
        refine v_ild_1 dm_reads_261 ?_
        obtain ⟨r14, he, hm⟩ := bd_s hm
        refine v_cv1i (M' := tm_isMarkSign) dm_reads_262 mlm_222 okm_isMarkSign sh_104 hc_12 (Nat.le_of_ble_eq_true rfl) (ctm_isMarkSign G (d + 1) _ _ _ he) ?_
        refine v_if_eq dm_reads_265 (fun hc => ?_) (fun hc => ?_)
        · replace hm := it hc hm
          cases hm
          exact v_ret dm_reads_273 rfl
        · replace hm := ie hc hm
          refine v_ald_0 dm_reads_268 ?_
          refine v_iconst (x := 4) dm_reads_269 rfl ?_
          refine v_putIl dm_reads_270 fum_207 ft_12_14 sh_104 rf_104_14 hm (fun h15 hm => ?_)
          cases hm
          exact v_ret dm_reads_273 rfl
      · replace hm := ie hc hm
        refine v_ald_0 dm_reads_163 ?_
        refine v_ild_1 dm_reads_164 ?_
        refine v_bipush (x := 48) dm_reads_165 rfl ?_
        refine v_isub dm_reads_167 ?_
        refine v_putIl dm_reads_168 fum_210 ft_12_15 sh_104 rf_104_15 hm (fun h16 hm => ?_)
        refine v_kw (wm_reads_L171 G d _ _ (fun h24 hm => ?_) FU _ hm) (wk_s (wk_n wk_e))
        refine v_ald_0 dm_reads_239 ?_
        refine v_getI dm_reads_240 fum_198 sh_104 rf_104_12 ?_
        refine v_ald_0 dm_reads_243 ?_
        refine v_getI dm_reads_244 fum_204 sh_104 rf_104_13 ?_
        refine v_isub dm_reads_247 ?_
        refine v_iconst (x := 5) dm_reads_248 rfl ?_
        refine v_cmp_ge dm_reads_249 (fun hc => ?_) (fun hc => ?_)
        · replace hm := it hc hm
          cases hm
          exact v_ret dm_reads_273 rfl
        · replace hm := ie hc hm
          refine v_ald_0 dm_reads_252 ?_
          refine v_iconst (x := 3) dm_reads_253 rfl ?_
          refine v_putIl dm_reads_254 fum_207 ft_12_14 sh_104 rf_104_14 hm (fun h25 hm => ?_)
          refine v_goto dm_reads_257 ?_
          cases hm
          exact v_ret dm_reads_273 rfl
    · replace hm := ie hc hm
      refine v_kw (wm_reads_L95 G d _ _ (fun h29 hm => ?_) FU _ hm) (wk_s (wk_n wk_e))
      refine v_ald_0 dm_reads_123 ?_
      refine v_ald_0 dm_reads_124 ?_
      refine v_ald_0 dm_reads_125 ?_
      refine v_getI dm_reads_126 fum_204 sh_104 rf_104_13 ?_
      refine v_ald_0 dm_reads_129 ?_
      refine v_getI dm_reads_130 fum_198 sh_104 rf_104_12 ?_
      obtain ⟨r30, he, hm⟩ := bd_s hm
      refine v_cv2i (M' := tm_wordAt) dm_reads_133 mlm_216 okm_wordAt sh_104 hc_12 (Nat.le_of_ble_eq_true rfl) (ctm_wordAt G (d + 1) _ _ _ _ he) ?_
      refine v_putIl dm_reads_136 fum_210 ft_12_15 sh_104 rf_104_15 hm (fun h31 hm => ?_)
      refine v_ald_0 dm_reads_139 ?_
      refine v_getI dm_reads_140 fum_210 sh_104 rf_104_15 ?_
      refine v_iconst (x := (-1)) dm_reads_143 rfl ?_
      refine v_cmp_eq dm_reads_144 (fun hc => ?_) (fun hc => ?_)
      · replace hm := it hc hm
        cases hm
        exact v_ret dm_reads_273 rfl
      · replace hm := ie hc hm
        refine v_ald_0 dm_reads_147 ?_
        refine v_iconst (x := 2) dm_reads_148 rfl ?_
        refine v_putIl dm_reads_149 fum_207 ft_12_14 sh_104 rf_104_14 hm (fun h32 hm => ?_)
        refine v_goto dm_reads_152 ?_
        cases hm
        exact v_ret dm_reads_273 rfl
def mm_errs (p1 : Int32) (h0 : PH) : Option (Int32 × PH) :=
  lt (up h0 104 29 p1) fun h1 =>
  lt (up h1 104 30 (h1 104 13)) fun h2 =>
  some ((-1), h2)
theorem ctm_errs (G : GG) (d : Nat) (p1 : Int32) (h0 : PH) (r : Int32 × PH) (hm : mm_errs p1 h0 = some r) : Kx G tm_errs d [.ref (gB G + 104), .int p1] h0 (some (.int r.1)) r.2 := by
  refine K_of_V (by decide) (by simp [cat_i, cat_r, fmtV_cat]) (by simp [tm_errs]) ?_
  change Vx G tm_errs d 0 [some (.ref (gB G + 104)), some (.int p1)] [] h0 (some (.int r.1)) r.2
  unfold mm_errs at hm
  refine v_ald_0 dm_errs_0 ?_
  refine v_ild_1 dm_errs_1 ?_
  refine v_putIl dm_errs_2 fum_225 ft_12_29 sh_104 rf_104_29 hm (fun h1 hm => ?_)
  refine v_ald_0 dm_errs_5 ?_
  refine v_ald_0 dm_errs_6 ?_
  refine v_getI dm_errs_7 fum_204 sh_104 rf_104_13 ?_
  refine v_putIl dm_errs_10 fum_228 ft_12_30 sh_104 rf_104_30 hm (fun h2 hm => ?_)
  refine v_iconst (x := (-1)) dm_errs_13 rfl ?_
  cases hm
  exact v_iret dm_errs_14 rfl
def mm_isWord (p1 : Int32) (h0 : PH) : Option (Int32) :=
  if (h0 104 14) = 2 then
    if (h0 104 15) = p1 then
      some 1
    else
      some 0
  else
    some 0
theorem ctm_isWord (G : GG) (d : Nat) (p1 : Int32) (h0 : PH) (r : Int32) (hm : mm_isWord p1 h0 = some r) : Kx G tm_isWord d [.ref (gB G + 104), .int p1] h0 (some (.int r)) h0 := by
  refine K_of_V (by decide) (by simp [cat_i, cat_r, fmtV_cat]) (by simp [tm_isWord]) ?_
  change Vx G tm_isWord d 0 [some (.ref (gB G + 104)), some (.int p1)] [] h0 (some (.int r)) h0
  unfold mm_isWord at hm
  refine v_ald_0 dm_isWord_0 ?_
  refine v_getI dm_isWord_1 fum_207 sh_104 rf_104_14 ?_
  refine v_iconst (x := 2) dm_isWord_4 rfl ?_
  refine v_cmp_ne dm_isWord_5 (fun hc => ?_) (fun hc => ?_)
  · replace hm := it hc hm
    refine v_ald_0 dm_isWord_8 ?_
    refine v_getI dm_isWord_9 fum_210 sh_104 rf_104_15 ?_
    refine v_ild_1 dm_isWord_12 ?_
    refine v_cmp_ne dm_isWord_13 (fun hc => ?_) (fun hc => ?_)
    · replace hm := it hc hm
      refine v_iconst (x := 1) dm_isWord_16 rfl ?_
      refine v_goto dm_isWord_17 ?_
      cases hm
      exact v_zret1 dm_isWord_21 rfl
    · replace hm := ie hc hm
      refine v_iconst (x := 0) dm_isWord_20 rfl ?_
      cases hm
      exact v_zret0 dm_isWord_21 rfl
  · replace hm := ie hc hm
    refine v_iconst (x := 0) dm_isWord_20 rfl ?_
    cases hm
    exact v_zret0 dm_isWord_21 rfl
def mm_isSign (p1 : Int32) (h0 : PH) : Option (Int32) :=
  if (h0 104 14) = 4 then
    if (h0 104 15) = p1 then
      some 1
    else
      some 0
  else
    some 0
theorem ctm_isSign (G : GG) (d : Nat) (p1 : Int32) (h0 : PH) (r : Int32) (hm : mm_isSign p1 h0 = some r) : Kx G tm_isSign d [.ref (gB G + 104), .int p1] h0 (some (.int r)) h0 := by
  refine K_of_V (by decide) (by simp [cat_i, cat_r, fmtV_cat]) (by simp [tm_isSign]) ?_
  change Vx G tm_isSign d 0 [some (.ref (gB G + 104)), some (.int p1)] [] h0 (some (.int r)) h0
  unfold mm_isSign at hm
  refine v_ald_0 dm_isSign_0 ?_
  refine v_getI dm_isSign_1 fum_207 sh_104 rf_104_14 ?_
  refine v_iconst (x := 4) dm_isSign_4 rfl ?_
  refine v_cmp_ne dm_isSign_5 (fun hc => ?_) (fun hc => ?_)
  · replace hm := it hc hm
    refine v_ald_0 dm_isSign_8 ?_
    refine v_getI dm_isSign_9 fum_210 sh_104 rf_104_15 ?_
    refine v_ild_1 dm_isSign_12 ?_
    refine v_cmp_ne dm_isSign_13 (fun hc => ?_) (fun hc => ?_)
    · replace hm := it hc hm
      refine v_iconst (x := 1) dm_isSign_16 rfl ?_
      refine v_goto dm_isSign_17 ?_
      cases hm
      exact v_zret1 dm_isSign_21 rfl
    · replace hm := ie hc hm
      refine v_iconst (x := 0) dm_isSign_20 rfl ?_
      cases hm
      exact v_zret0 dm_isSign_21 rfl
  · replace hm := ie hc hm
    refine v_iconst (x := 0) dm_isSign_20 rfl ?_
    cases hm
    exact v_zret0 dm_isSign_21 rfl
def mm_emits (p1 : Int32) (p2 : Int32) (h0 : PH) : Option (PH) :=
  ck (800 + (h0 104 25)) 1200 <|
  lt (up h0 118 (ix (800 + (h0 104 25))) p1) fun h1 =>
  ck (800 + (h1 104 25)) 1200 <|
  lt (up h1 119 (ix (800 + (h1 104 25))) p2) fun h2 =>
  lt (up h2 104 25 ((h2 104 25) + 1)) fun h3 =>
  some h3
theorem ctm_emits (G : GG) (d : Nat) (p1 : Int32) (p2 : Int32) (h0 : PH) (r : PH) (hm : mm_emits p1 p2 h0 = some r) : Kx G tm_emits d [.ref (gB G + 104), .int p1, .int p2] h0 none r := by
  refine K_of_V (by decide) (by simp [cat_i, cat_r, fmtV_cat]) (by simp [tm_emits]) ?_
  change Vx G tm_emits d 0 [some (.ref (gB G + 104)), some (.int p1), some (.int p2)] [] h0 none r
  unfold mm_emits at hm
  refine v_ald_0 dm_emits_0 ?_
  refine v_getR dm_emits_1 fum_49 sh_104 rf_104_22 ?_
  refine v_sipush (x := 800) dm_emits_4 rfl ?_
  refine v_ald_0 dm_emits_7 ?_
  refine v_getI dm_emits_8 fum_231 sh_104 rf_104_25 ?_
  refine v_iadd dm_emits_11 ?_
  refine v_ild_1 dm_emits_12 ?_
  obtain ⟨hi, hm⟩ := ck_s hm
  refine v_iastl dm_emits_13 sh_118 hi hm (fun h1 hm => ?_)
  refine v_ald_0 dm_emits_14 ?_
  refine v_getR dm_emits_15 fum_52 sh_104 rf_104_23 ?_
  refine v_sipush (x := 800) dm_emits_18 rfl ?_
  refine v_ald_0 dm_emits_21 ?_
  refine v_getI dm_emits_22 fum_231 sh_104 rf_104_25 ?_
  refine v_iadd dm_emits_25 ?_
  refine v_ild_2 dm_emits_26 ?_
  obtain ⟨hi, hm⟩ := ck_s hm
  refine v_iastl dm_emits_27 sh_119 hi hm (fun h2 hm => ?_)
  refine v_ald_0 dm_emits_28 ?_
  refine v_ald_0 dm_emits_29 ?_
  refine v_getI dm_emits_30 fum_231 sh_104 rf_104_25 ?_
  refine v_iconst (x := 1) dm_emits_33 rfl ?_
  refine v_iadd dm_emits_34 ?_
  refine v_putIl dm_emits_35 fum_231 ft_12_25 sh_104 rf_104_25 hm (fun h3 hm => ?_)
  cases hm
  exact v_ret dm_emits_38 rfl
def mm_canAsk (p1 : Int32) (h0 : PH) : Option (Int32) :=
  bd (mm_isIn p1 7 18 h0) fun r1 =>
  some (nb r1)
theorem ctm_canAsk (G : GG) (d : Nat) (p1 : Int32) (h0 : PH) (r : Int32) (hm : mm_canAsk p1 h0 = some r) : Kx G tm_canAsk (d + 1) [.ref (gB G + 104), .int p1] h0 (some (.int r)) h0 := by
  refine K_of_V (by decide) (by simp [cat_i, cat_r, fmtV_cat]) (by simp [tm_canAsk]) ?_
  change Vx G tm_canAsk (d + 1) 0 [some (.ref (gB G + 104)), some (.int p1)] [] h0 (some (.int r)) h0
  unfold mm_canAsk at hm
  refine v_ald_0 dm_canAsk_0 ?_
  refine v_ild_1 dm_canAsk_1 ?_
  refine v_bipush (x := 7) dm_canAsk_2 rfl ?_
  refine v_bipush (x := 18) dm_canAsk_4 rfl ?_
  obtain ⟨r1, he, hm⟩ := bd_s hm
  refine v_cv3i (M' := tm_isIn) dm_canAsk_6 mlm_177 okm_isIn sh_104 hc_12 (Nat.le_of_ble_eq_true rfl) (ctm_isIn G d _ _ _ _ _ he) ?_
  cases hm
  exact v_zret dm_canAsk_9 rfl
def mm_readUnit (h0 : PH) : Option (Int32 × PH) :=
  jn1 (fun (x2 : Int32) =>
    jn0 (jn1 (fun (x5 : Int32) =>
        jn1 (fun (x7 : Int32) =>
          bd (mm_emits x5 x7 h0) fun h8 =>
          bd (mm_reads h8) fun h9 =>
          some (0, h9)) fun j6 =>
        if x2 = 0 then
          j6 (h0 104 15)
        else
          j6 ((h0 104 15) - 7)) fun j4 =>
      if x2 = 0 then
        j4 0
      else
        j4 1) fun j3 =>
    if x2 = 0 then
      if (h0 104 14) = 3 then
        j3
      else
        bd2 (mm_errs 1 h0) fun r10 h11 =>
        some (r10, h11)
    else
      j3) fun j1 =>
  if (h0 104 14) = 2 then
    bd (mm_canAsk (h0 104 15) h0) fun r12 =>
    if r12 = 0 then
      j1 0
    else
      j1 1
  else
    j1 0
theorem ctm_readUnit (G : GG) (d : Nat) (h0 : PH) (r : Int32 × PH) (hm : mm_readUnit h0 = some r) : Kx G tm_readUnit (d + 3) [.ref (gB G + 104)] h0 (some (.int r.1)) r.2 := by
  refine K_of_V (by decide) (by simp [cat_i, cat_r, fmtV_cat]) (by simp [tm_readUnit]) ?_
  change Vx G tm_readUnit (d + 3) 0 [some (.ref (gB G + 104)), none] [] h0 (some (.int r.1)) r.2
  unfold mm_readUnit at hm
  refine v_ald_0 dm_readUnit_0 ?_
  refine v_getI dm_readUnit_1 fum_207 sh_104 rf_104_14 ?_
  refine v_iconst (x := 2) dm_readUnit_4 rfl ?_
  refine v_j1 (fun (x2 : Int32) => Vx G tm_readUnit (d + 3) 24 [some (.ref (gB G + 104)), none] [.int x2] h0 (some (.int r.1)) r.2) hm (fun x2 hm => ?_) (fun j1 kj1 hm => ?_)
  · refine v_ist_1 dm_readUnit_24 (by decide) rfl ?_
    refine v_ild_1 dm_readUnit_25 ?_
    refine v_j0 (Vx G tm_readUnit (d + 3) 43 [some (.ref (gB G + 104)), some (.int x2)] [] h0 (some (.int r.1)) r.2) hm (fun hm => ?_) (fun j3 kj3 hm => ?_)
    · refine v_ald_0 dm_readUnit_43 ?_
      refine v_ild_1 dm_readUnit_44 ?_
      refine v_j1 (fun (x5 : Int32) => Vx G tm_readUnit (d + 3) 53 [some (.ref (gB G + 104)), some (.int x2)] [.int x5, .ref (gB G + 104)] h0 (some (.int r.1)) r.2) hm (fun x5 hm => ?_) (fun j4 kj4 hm => ?_)
      · refine v_ild_1 dm_readUnit_53 ?_
        refine v_j1 (fun (x7 : Int32) => Vx G tm_readUnit (d + 3) 71 [some (.ref (gB G + 104)), none] [.int x7, .int x5, .ref (gB G + 104)] h0 (some (.int r.1)) r.2) hm (fun x7 hm => ?_) (fun j6 kj6 hm => ?_)
        · obtain ⟨h8, he, hm⟩ := bd_s hm
          refine v_cv2v (M' := tm_emits) dm_readUnit_71 mlm_240 okm_emits sh_104 hc_12 (Nat.le_of_ble_eq_true rfl) (ctm_emits G (d + 2) _ _ _ _ he) ?_
          refine v_ald_0 dm_readUnit_74 ?_
          obtain ⟨h9, he, hm⟩ := bd_s hm
          refine v_cv0v (M' := tm_reads) dm_readUnit_75 mlm_244 okm_reads sh_104 hc_12 (Nat.le_of_ble_eq_true rfl) (ctm_reads G d _ _ he) ?_
          refine v_iconst (x := 0) dm_readUnit_78 rfl ?_
          cases hm
          exact v_iret dm_readUnit_79 rfl
        · refine v_if_eq dm_readUnit_54 (fun hc => ?_) (fun hc => ?_)
          · replace hm := it hc hm
            refine v_ald_0 dm_readUnit_67 ?_
            refine v_getI dm_readUnit_68 fum_210 sh_104 rf_104_15 ?_
            exact v_kw (kj6 _ hm) (wk_s (wk_n wk_e))
          · replace hm := ie hc hm
            refine v_ald_0 dm_readUnit_57 ?_
            refine v_getI dm_readUnit_58 fum_210 sh_104 rf_104_15 ?_
            refine v_bipush (x := 7) dm_readUnit_61 rfl ?_
            refine v_isub dm_readUnit_63 ?_
            refine v_goto dm_readUnit_64 ?_
            exact v_kw (kj6 _ hm) (wk_s (wk_n wk_e))
      · refine v_if_eq dm_readUnit_45 (fun hc => ?_) (fun hc => ?_)
        · replace hm := it hc hm
          refine v_iconst (x := 0) dm_readUnit_52 rfl ?_
          exact v_kw (kj4 _ hm) (wk_s (wk_s wk_e))
        · replace hm := ie hc hm
          refine v_iconst (x := 1) dm_readUnit_48 rfl ?_
          refine v_goto dm_readUnit_49 ?_
          exact v_kw (kj4 _ hm) (wk_s (wk_s wk_e))
    · refine v_if_ne dm_readUnit_26 (fun hc => ?_) (fun hc => ?_)
      · replace hm := it hc hm
        refine v_ald_0 dm_readUnit_29 ?_
        refine v_getI dm_readUnit_30 fum_207 sh_104 rf_104_14 ?_
        refine v_iconst (x := 3) dm_readUnit_33 rfl ?_
        refine v_cmp_eq dm_readUnit_34 (fun hc => ?_) (fun hc => ?_)
        · replace hm := it hc hm
          exact v_kw (kj3 hm) (wk_s (wk_s wk_e))
        · replace hm := ie hc hm
          refine v_ald_0 dm_readUnit_37 ?_
          refine v_iconst (x := 1) dm_readUnit_38 rfl ?_
          obtain ⟨r10, h11, he, hm⟩ := bd2_s hm
          refine v_cv1i (M' := tm_errs) dm_readUnit_39 mlm_237 okm_errs sh_104 hc_12 (Nat.le_of_ble_eq_true rfl) (ctm_errs G (d + 2) _ _ _ he) ?_
          cases hm
          exact v_iret dm_readUnit_42 rfl
      · replace hm := ie hc hm
        exact v_kw (kj3 hm) (wk_s (wk_s wk_e))
  · refine v_cmp_ne dm_readUnit_5 (fun hc => ?_) (fun hc => ?_)
    · replace hm := it hc hm
      refine v_ald_0 dm_readUnit_8 ?_
      refine v_ald_0 dm_readUnit_9 ?_
      refine v_getI dm_readUnit_10 fum_210 sh_104 rf_104_15 ?_
      obtain ⟨r12, he, hm⟩ := bd_s hm
      refine v_cv1i (M' := tm_canAsk) dm_readUnit_13 mlm_234 okm_canAsk sh_104 hc_12 (Nat.le_of_ble_eq_true rfl) (ctm_canAsk G (d + 1) _ _ _ he) ?_
      refine v_if_eq dm_readUnit_16 (fun hc => ?_) (fun hc => ?_)
      · replace hm := it hc hm
        refine v_iconst (x := 0) dm_readUnit_23 rfl ?_
        exact v_kw (kj1 _ hm) (wk_s (wk_n wk_e))
      · replace hm := ie hc hm
        refine v_iconst (x := 1) dm_readUnit_19 rfl ?_
        refine v_goto dm_readUnit_20 ?_
        exact v_kw (kj1 _ hm) (wk_s (wk_n wk_e))
    · replace hm := ie hc hm
      refine v_iconst (x := 0) dm_readUnit_23 rfl ?_
      exact v_kw (kj1 _ hm) (wk_s (wk_n wk_e))
def mm_readProduct_L10 (k0 : PH → Option (Int32 × PH)) (k1 : PH → Option (Int32 × PH)) : Nat → PH → Option (Int32 × PH)
  | 0, _ => none
  | n + 1, hv =>
    bd (mm_isSign 42 hv) fun r3 =>
    jn0 (bd (mm_isSign 42 hv) fun r5 =>
      bd (mm_reads hv) fun h6 =>
      jn0 (jn0 (bd2 (mm_readUnit h6) fun r9 h10 =>
          if r9 = (-1) then
            some ((-1), h10)
          else
            jn1 (fun (x12 : Int32) =>
              bd (mm_emits x12 0 h10) fun h13 =>
              mm_readProduct_L10 k0 k1 n h13) fun j11 =>
            if r5 = 0 then
              j11 5
            else
              j11 4) fun j8 =>
        if r5 = 0 then
          if (h6 104 15) = 0 then
            k1 h6
          else
            j8
        else
          j8) fun j7 =>
      if r5 = 0 then
        if (h6 104 14) = 3 then
          j7
        else
          k0 h6
      else
        j7) fun j4 =>
    if r3 = 0 then
      bd (mm_isSign 47 hv) fun r14 =>
      if r14 = 0 then
        some (0, hv)
      else
        j4
    else
      j4
def mm_readProduct (h0 : PH) : Option (Int32 × PH) :=
  bd2 (mm_readUnit h0) fun r1 h2 =>
  if r1 = (-1) then
    some ((-1), h2)
  else
    mm_readProduct_L10 (fun (h15 : PH) =>
      bd2 (mm_errs 1 h15) fun r16 h17 =>
      some (r16, h17)) (fun (h18 : PH) =>
      bd2 (mm_errs 2 h18) fun r19 h20 =>
      some (r19, h20)) FU h2
theorem wm_readProduct_L10 (G : GG) (d : Nat) (k0 : PH → Option (Int32 × PH)) (k1 : PH → Option (Int32 × PH)) (r : Int32 × PH) (kk0 : ∀ (hy : PH), k0 hy = some r → Vx G tm_readProduct (d + 4) 51 [some (.ref (gB G + 104)), none] [] hy (some (.int r.1)) r.2) (kk1 : ∀ (hy : PH), k1 hy = some r → Vx G tm_readProduct (d + 4) 68 [some (.ref (gB G + 104)), none] [] hy (some (.int r.1)) r.2) : ∀ (n : Nat) (hv : PH), mm_readProduct_L10 k0 k1 n hv = some r → Vx G tm_readProduct (d + 4) 10 [some (.ref (gB G + 104)), none] [] hv (some (.int r.1)) r.2 := by
  intro n
  induction n with
  | zero => intro hv hm; cases hm
  | succ n ih =>
    intro hv hm
    unfold mm_readProduct_L10 at hm
    refine v_ald_0 dm_readProduct_10 ?_
    refine v_bipush (x := 42) dm_readProduct_11 rfl ?_
    obtain ⟨r3, he, hm⟩ := bd_s hm
    refine v_cv1i (M' := tm_isSign) dm_readProduct_13 mlm_251 okm_isSign sh_104 hc_12 (Nat.le_of_ble_eq_true rfl) (ctm_isSign G (d + 3) _ _ _ he) ?_
    refine v_j0 (Vx G tm_readProduct (d + 4) 28 [some (.ref (gB G + 104)), none] [] hv (some (.int r.1)) r.2) hm (fun hm => ?_) (fun j4 kj4 hm => ?_)
    · refine v_ald_0 dm_readProduct_28 ?_
      refine v_bipush (x := 42) dm_readProduct_29 rfl ?_
      obtain ⟨r5, he, hm⟩ := bd_s hm
      refine v_cv1i (M' := tm_isSign) dm_readProduct_31 mlm_251 okm_isSign sh_104 hc_12 (Nat.le_of_ble_eq_true rfl) (ctm_isSign G (d + 3) _ _ _ he) ?_
      refine v_ist_1 dm_readProduct_34 (by decide) rfl ?_
      refine v_ald_0 dm_readProduct_35 ?_
      obtain ⟨h6, he, hm⟩ := bd_s hm
      refine v_cv0v (M' := tm_reads) dm_readProduct_36 mlm_244 okm_reads sh_104 hc_12 (Nat.le_of_ble_eq_true rfl) (ctm_reads G (d + 1) _ _ he) ?_
      refine v_ild_1 dm_readProduct_39 ?_
      refine v_j0 (Vx G tm_readProduct (d + 4) 57 [some (.ref (gB G + 104)), some (.int r5)] [] h6 (some (.int r.1)) r.2) hm (fun hm => ?_) (fun j7 kj7 hm => ?_)
      · refine v_ild_1 dm_readProduct_57 ?_
        refine v_j0 (Vx G tm_readProduct (d + 4) 74 [some (.ref (gB G + 104)), some (.int r5)] [] h6 (some (.int r.1)) r.2) hm (fun hm => ?_) (fun j8 kj8 hm => ?_)
        · refine v_ald_0 dm_readProduct_74 ?_
          obtain ⟨r9, h10, he, hm⟩ := bd2_s hm
          refine v_cv0i (M' := tm_readUnit) dm_readProduct_75 mlm_247 okm_readUnit sh_104 hc_12 (Nat.le_of_ble_eq_true rfl) (ctm_readUnit G d _ _ he) ?_
          refine v_iconst (x := (-1)) dm_readProduct_78 rfl ?_
          refine v_cmp_ne dm_readProduct_79 (fun hc => ?_) (fun hc => ?_)
          · replace hm := it hc hm
            refine v_iconst (x := (-1)) dm_readProduct_82 rfl ?_
            cases hm
            exact v_iret dm_readProduct_83 rfl
          · replace hm := ie hc hm
            refine v_ald_0 dm_readProduct_84 ?_
            refine v_ild_1 dm_readProduct_85 ?_
            refine v_j1 (fun (x12 : Int32) => Vx G tm_readProduct (d + 4) 94 [some (.ref (gB G + 104)), none] [.int x12, .ref (gB G + 104)] h10 (some (.int r.1)) r.2) hm (fun x12 hm => ?_) (fun j11 kj11 hm => ?_)
            · refine v_iconst (x := 0) dm_readProduct_94 rfl ?_
              obtain ⟨h13, he, hm⟩ := bd_s hm
              refine v_cv2v (M' := tm_emits) dm_readProduct_95 mlm_240 okm_emits sh_104 hc_12 (Nat.le_of_ble_eq_true rfl) (ctm_emits G (d + 3) _ _ _ _ he) ?_
              refine v_goto dm_readProduct_98 ?_
              exact v_kw (ih _ hm) (wk_s (wk_n wk_e))
            · refine v_if_eq dm_readProduct_86 (fun hc => ?_) (fun hc => ?_)
              · replace hm := it hc hm
                refine v_iconst (x := 5) dm_readProduct_93 rfl ?_
                exact v_kw (kj11 _ hm) (wk_s (wk_n wk_e))
              · replace hm := ie hc hm
                refine v_iconst (x := 4) dm_readProduct_89 rfl ?_
                refine v_goto dm_readProduct_90 ?_
                exact v_kw (kj11 _ hm) (wk_s (wk_n wk_e))
        · refine v_if_ne dm_readProduct_58 (fun hc => ?_) (fun hc => ?_)
          · replace hm := it hc hm
            refine v_ald_0 dm_readProduct_61 ?_
            refine v_getI dm_readProduct_62 fum_210 sh_104 rf_104_15 ?_
            refine v_if_ne dm_readProduct_65 (fun hc => ?_) (fun hc => ?_)
            · replace hm := it hc hm
              exact v_kw (kk1 _ hm) (wk_s (wk_n wk_e))
            · replace hm := ie hc hm
              exact v_kw (kj8 hm) (wk_s (wk_s wk_e))
          · replace hm := ie hc hm
            exact v_kw (kj8 hm) (wk_s (wk_s wk_e))
      · refine v_if_ne dm_readProduct_40 (fun hc => ?_) (fun hc => ?_)
        · replace hm := it hc hm
          refine v_ald_0 dm_readProduct_43 ?_
          refine v_getI dm_readProduct_44 fum_207 sh_104 rf_104_14 ?_
          refine v_iconst (x := 3) dm_readProduct_47 rfl ?_
          refine v_cmp_eq dm_readProduct_48 (fun hc => ?_) (fun hc => ?_)
          · replace hm := it hc hm
            exact v_kw (kj7 hm) (wk_s (wk_s wk_e))
          · replace hm := ie hc hm
            exact v_kw (kk0 _ hm) (wk_s (wk_n wk_e))
        · replace hm := ie hc hm
          exact v_kw (kj7 hm) (wk_s (wk_s wk_e))
    · refine v_if_ne dm_readProduct_16 (fun hc => ?_) (fun hc => ?_)
      · replace hm := it hc hm
        refine v_ald_0 dm_readProduct_19 ?_
        refine v_bipush (x := 47) dm_readProduct_20 rfl ?_
        obtain ⟨r14, he, hm⟩ := bd_s hm
        refine v_cv1i (M' := tm_isSign) dm_readProduct_22 mlm_251 okm_isSign sh_104 hc_12 (Nat.le_of_ble_eq_true rfl) (ctm_isSign G (d + 3) _ _ _ he) ?_
        refine v_if_eq dm_readProduct_25 (fun hc => ?_) (fun hc => ?_)
        · replace hm := it hc hm
          refine v_iconst (x := 0) dm_readProduct_101 rfl ?_
          cases hm
          exact v_iret dm_readProduct_102 rfl
        · replace hm := ie hc hm
          exact v_kw (kj4 hm) (wk_s (wk_n wk_e))
      · replace hm := ie hc hm
        exact v_kw (kj4 hm) (wk_s (wk_n wk_e))
theorem ctm_readProduct (G : GG) (d : Nat) (h0 : PH) (r : Int32 × PH) (hm : mm_readProduct h0 = some r) : Kx G tm_readProduct (d + 4) [.ref (gB G + 104)] h0 (some (.int r.1)) r.2 := by
  refine K_of_V (by decide) (by simp [cat_i, cat_r, fmtV_cat]) (by simp [tm_readProduct]) ?_
  change Vx G tm_readProduct (d + 4) 0 [some (.ref (gB G + 104)), none] [] h0 (some (.int r.1)) r.2
  unfold mm_readProduct at hm
  refine v_ald_0 dm_readProduct_0 ?_
  obtain ⟨r1, h2, he, hm⟩ := bd2_s hm
  refine v_cv0i (M' := tm_readUnit) dm_readProduct_1 mlm_247 okm_readUnit sh_104 hc_12 (Nat.le_of_ble_eq_true rfl) (ctm_readUnit G d _ _ he) ?_
  refine v_iconst (x := (-1)) dm_readProduct_4 rfl ?_
  refine v_cmp_ne dm_readProduct_5 (fun hc => ?_) (fun hc => ?_)
  · replace hm := it hc hm
    refine v_iconst (x := (-1)) dm_readProduct_8 rfl ?_
    cases hm
    exact v_iret dm_readProduct_9 rfl
  · replace hm := ie hc hm
    refine v_kw (wm_readProduct_L10 G d _ _ _ (fun h15 hm => ?_) (fun h18 hm => ?_) FU _ hm) (wk_s (wk_n wk_e))
    · refine v_ald_0 dm_readProduct_51 ?_
      refine v_iconst (x := 1) dm_readProduct_52 rfl ?_
      obtain ⟨r16, h17, he, hm⟩ := bd2_s hm
      refine v_cv1i (M' := tm_errs) dm_readProduct_53 mlm_237 okm_errs sh_104 hc_12 (Nat.le_of_ble_eq_true rfl) (ctm_errs G (d + 3) _ _ _ he) ?_
      cases hm
      exact v_iret dm_readProduct_56 rfl
    · refine v_ald_0 dm_readProduct_68 ?_
      refine v_iconst (x := 2) dm_readProduct_69 rfl ?_
      obtain ⟨r19, h20, he, hm⟩ := bd2_s hm
      refine v_cv1i (M' := tm_errs) dm_readProduct_70 mlm_237 okm_errs sh_104 hc_12 (Nat.le_of_ble_eq_true rfl) (ctm_errs G (d + 3) _ _ _ he) ?_
      cases hm
      exact v_iret dm_readProduct_73 rfl
def mm_readSum_L10 : Nat → PH → Option (Int32 × PH)
  | 0, _ => none
  | n + 1, hv =>
    bd (mm_isSign 43 hv) fun r3 =>
    jn0 (jn1 (fun (x6 : Int32) =>
        bd (mm_reads hv) fun h7 =>
        bd2 (mm_readProduct h7) fun r8 h9 =>
        if r8 = (-1) then
          some ((-1), h9)
        else
          bd (mm_emits x6 0 h9) fun h10 =>
          mm_readSum_L10 n h10) fun j5 =>
      if (hv 104 15) = 43 then
        j5 2
      else
        j5 3) fun j4 =>
    if r3 = 0 then
      bd (mm_isSign 45 hv) fun r11 =>
      if r11 = 0 then
        some (0, hv)
      else
        j4
    else
      j4
def mm_readSum (h0 : PH) : Option (Int32 × PH) :=
  bd2 (mm_readProduct h0) fun r1 h2 =>
  if r1 = (-1) then
    some ((-1), h2)
  else
    mm_readSum_L10 FU h2
theorem wm_readSum_L10 (G : GG) (d : Nat)  (r : Int32 × PH) : ∀ (n : Nat) (hv : PH), mm_readSum_L10  n hv = some r → Vx G tm_readSum (d + 5) 10 [some (.ref (gB G + 104)), none] [] hv (some (.int r.1)) r.2 := by
  intro n
  induction n with
  | zero => intro hv hm; cases hm
  | succ n ih =>
    intro hv hm
    unfold mm_readSum_L10 at hm
    refine v_ald_0 dm_readSum_10 ?_
    refine v_bipush (x := 43) dm_readSum_11 rfl ?_
    obtain ⟨r3, he, hm⟩ := bd_s hm
    refine v_cv1i (M' := tm_isSign) dm_readSum_13 mlm_251 okm_isSign sh_104 hc_12 (Nat.le_of_ble_eq_true rfl) (ctm_isSign G (d + 4) _ _ _ he) ?_
    refine v_j0 (Vx G tm_readSum (d + 5) 28 [some (.ref (gB G + 104)), none] [] hv (some (.int r.1)) r.2) hm (fun hm => ?_) (fun j4 kj4 hm => ?_)
    · refine v_ald_0 dm_readSum_28 ?_
      refine v_getI dm_readSum_29 fum_210 sh_104 rf_104_15 ?_
      refine v_bipush (x := 43) dm_readSum_32 rfl ?_
      refine v_j1 (fun (x6 : Int32) => Vx G tm_readSum (d + 5) 42 [some (.ref (gB G + 104)), none] [.int x6] hv (some (.int r.1)) r.2) hm (fun x6 hm => ?_) (fun j5 kj5 hm => ?_)
      · refine v_ist_1 dm_readSum_42 (by decide) rfl ?_
        refine v_ald_0 dm_readSum_43 ?_
        obtain ⟨h7, he, hm⟩ := bd_s hm
        refine v_cv0v (M' := tm_reads) dm_readSum_44 mlm_244 okm_reads sh_104 hc_12 (Nat.le_of_ble_eq_true rfl) (ctm_reads G (d + 2) _ _ he) ?_
        refine v_ald_0 dm_readSum_47 ?_
        obtain ⟨r8, h9, he, hm⟩ := bd2_s hm
        refine v_cv0i (M' := tm_readProduct) dm_readSum_48 mlm_254 okm_readProduct sh_104 hc_12 (Nat.le_of_ble_eq_true rfl) (ctm_readProduct G d _ _ he) ?_
        refine v_iconst (x := (-1)) dm_readSum_51 rfl ?_
        refine v_cmp_ne dm_readSum_52 (fun hc => ?_) (fun hc => ?_)
        · replace hm := it hc hm
          refine v_iconst (x := (-1)) dm_readSum_55 rfl ?_
          cases hm
          exact v_iret dm_readSum_56 rfl
        · replace hm := ie hc hm
          refine v_ald_0 dm_readSum_57 ?_
          refine v_ild_1 dm_readSum_58 ?_
          refine v_iconst (x := 0) dm_readSum_59 rfl ?_
          obtain ⟨h10, he, hm⟩ := bd_s hm
          refine v_cv2v (M' := tm_emits) dm_readSum_60 mlm_240 okm_emits sh_104 hc_12 (Nat.le_of_ble_eq_true rfl) (ctm_emits G (d + 4) _ _ _ _ he) ?_
          refine v_goto dm_readSum_63 ?_
          exact v_kw (ih _ hm) (wk_s (wk_n wk_e))
      · refine v_cmp_ne dm_readSum_34 (fun hc => ?_) (fun hc => ?_)
        · replace hm := it hc hm
          refine v_iconst (x := 2) dm_readSum_37 rfl ?_
          refine v_goto dm_readSum_38 ?_
          exact v_kw (kj5 _ hm) (wk_s (wk_n wk_e))
        · replace hm := ie hc hm
          refine v_iconst (x := 3) dm_readSum_41 rfl ?_
          exact v_kw (kj5 _ hm) (wk_s (wk_n wk_e))
    · refine v_if_ne dm_readSum_16 (fun hc => ?_) (fun hc => ?_)
      · replace hm := it hc hm
        refine v_ald_0 dm_readSum_19 ?_
        refine v_bipush (x := 45) dm_readSum_20 rfl ?_
        obtain ⟨r11, he, hm⟩ := bd_s hm
        refine v_cv1i (M' := tm_isSign) dm_readSum_22 mlm_251 okm_isSign sh_104 hc_12 (Nat.le_of_ble_eq_true rfl) (ctm_isSign G (d + 4) _ _ _ he) ?_
        refine v_if_eq dm_readSum_25 (fun hc => ?_) (fun hc => ?_)
        · replace hm := it hc hm
          refine v_iconst (x := 0) dm_readSum_66 rfl ?_
          cases hm
          exact v_iret dm_readSum_67 rfl
        · replace hm := ie hc hm
          exact v_kw (kj4 hm) (wk_s (wk_n wk_e))
      · replace hm := ie hc hm
        exact v_kw (kj4 hm) (wk_s (wk_n wk_e))
theorem ctm_readSum (G : GG) (d : Nat) (h0 : PH) (r : Int32 × PH) (hm : mm_readSum h0 = some r) : Kx G tm_readSum (d + 5) [.ref (gB G + 104)] h0 (some (.int r.1)) r.2 := by
  refine K_of_V (by decide) (by simp [cat_i, cat_r, fmtV_cat]) (by simp [tm_readSum]) ?_
  change Vx G tm_readSum (d + 5) 0 [some (.ref (gB G + 104)), none] [] h0 (some (.int r.1)) r.2
  unfold mm_readSum at hm
  refine v_ald_0 dm_readSum_0 ?_
  obtain ⟨r1, h2, he, hm⟩ := bd2_s hm
  refine v_cv0i (M' := tm_readProduct) dm_readSum_1 mlm_254 okm_readProduct sh_104 hc_12 (Nat.le_of_ble_eq_true rfl) (ctm_readProduct G d _ _ he) ?_
  refine v_iconst (x := (-1)) dm_readSum_4 rfl ?_
  refine v_cmp_ne dm_readSum_5 (fun hc => ?_) (fun hc => ?_)
  · replace hm := it hc hm
    refine v_iconst (x := (-1)) dm_readSum_8 rfl ?_
    cases hm
    exact v_iret dm_readSum_9 rfl
  · replace hm := ie hc hm
    exact v_kw (wm_readSum_L10 G d  _ FU _ hm) (wk_s (wk_n wk_e))
def mm_readCompared (h0 : PH) : Option (Int32 × PH) :=
  bd2 (mm_readSum h0) fun r1 h2 =>
  if r1 = (-1) then
    some ((-1), h2)
  else
    bd (mm_isSign 60 h2) fun r3 =>
    jn0 (jn1 (fun (x6 : Int32) =>
        bd (mm_reads h2) fun h7 =>
        bd2 (mm_readSum h7) fun r8 h9 =>
        if r8 = (-1) then
          some ((-1), h9)
        else
          bd (mm_emits x6 0 h9) fun h10 =>
          some (0, h10)) fun j5 =>
      if (h2 104 15) = 60 then
        j5 6
      else
        if (h2 104 15) = 61 then
          j5 7
        else
          j5 8) fun j4 =>
    if r3 = 0 then
      bd (mm_isSign 61 h2) fun r11 =>
      if r11 = 0 then
        bd (mm_isSign 62 h2) fun r12 =>
        if r12 = 0 then
          bd2 (mm_errs 1 h2) fun r13 h14 =>
          some (r13, h14)
        else
          j4
      else
        j4
    else
      j4
theorem ctm_readCompared (G : GG) (d : Nat) (h0 : PH) (r : Int32 × PH) (hm : mm_readCompared h0 = some r) : Kx G tm_readCompared (d + 6) [.ref (gB G + 104)] h0 (some (.int r.1)) r.2 := by
  refine K_of_V (by decide) (by simp [cat_i, cat_r, fmtV_cat]) (by simp [tm_readCompared]) ?_
  change Vx G tm_readCompared (d + 6) 0 [some (.ref (gB G + 104)), none] [] h0 (some (.int r.1)) r.2
  unfold mm_readCompared at hm
  refine v_ald_0 dm_readCompared_0 ?_
  obtain ⟨r1, h2, he, hm⟩ := bd2_s hm
  refine v_cv0i (M' := tm_readSum) dm_readCompared_1 mlm_257 okm_readSum sh_104 hc_12 (Nat.le_of_ble_eq_true rfl) (ctm_readSum G d _ _ he) ?_
  refine v_iconst (x := (-1)) dm_readCompared_4 rfl ?_
  refine v_cmp_ne dm_readCompared_5 (fun hc => ?_) (fun hc => ?_)
  · replace hm := it hc hm
    refine v_iconst (x := (-1)) dm_readCompared_8 rfl ?_
    cases hm
    exact v_iret dm_readCompared_9 rfl
  · replace hm := ie hc hm
    refine v_ald_0 dm_readCompared_10 ?_
    refine v_bipush (x := 60) dm_readCompared_11 rfl ?_
    obtain ⟨r3, he, hm⟩ := bd_s hm
    refine v_cv1i (M' := tm_isSign) dm_readCompared_13 mlm_251 okm_isSign sh_104 hc_12 (Nat.le_of_ble_eq_true rfl) (ctm_isSign G (d + 5) _ _ _ he) ?_
    refine v_j0 (Vx G tm_readCompared (d + 6) 43 [some (.ref (gB G + 104)), none] [] h2 (some (.int r.1)) r.2) hm (fun hm => ?_) (fun j4 kj4 hm => ?_)
    · refine v_ald_0 dm_readCompared_43 ?_
      refine v_getI dm_readCompared_44 fum_210 sh_104 rf_104_15 ?_
      refine v_bipush (x := 60) dm_readCompared_47 rfl ?_
      refine v_j1 (fun (x6 : Int32) => Vx G tm_readCompared (d + 6) 73 [some (.ref (gB G + 104)), none] [.int x6] h2 (some (.int r.1)) r.2) hm (fun x6 hm => ?_) (fun j5 kj5 hm => ?_)
      · refine v_ist_1 dm_readCompared_73 (by decide) rfl ?_
        refine v_ald_0 dm_readCompared_74 ?_
        obtain ⟨h7, he, hm⟩ := bd_s hm
        refine v_cv0v (M' := tm_reads) dm_readCompared_75 mlm_244 okm_reads sh_104 hc_12 (Nat.le_of_ble_eq_true rfl) (ctm_reads G (d + 3) _ _ he) ?_
        refine v_ald_0 dm_readCompared_78 ?_
        obtain ⟨r8, h9, he, hm⟩ := bd2_s hm
        refine v_cv0i (M' := tm_readSum) dm_readCompared_79 mlm_257 okm_readSum sh_104 hc_12 (Nat.le_of_ble_eq_true rfl) (ctm_readSum G d _ _ he) ?_
        refine v_iconst (x := (-1)) dm_readCompared_82 rfl ?_
        refine v_cmp_ne dm_readCompared_83 (fun hc => ?_) (fun hc => ?_)
        · replace hm := it hc hm
          refine v_iconst (x := (-1)) dm_readCompared_86 rfl ?_
          cases hm
          exact v_iret dm_readCompared_87 rfl
        · replace hm := ie hc hm
          refine v_ald_0 dm_readCompared_88 ?_
          refine v_ild_1 dm_readCompared_89 ?_
          refine v_iconst (x := 0) dm_readCompared_90 rfl ?_
          obtain ⟨h10, he, hm⟩ := bd_s hm
          refine v_cv2v (M' := tm_emits) dm_readCompared_91 mlm_240 okm_emits sh_104 hc_12 (Nat.le_of_ble_eq_true rfl) (ctm_emits G (d + 5) _ _ _ _ he) ?_
          refine v_iconst (x := 0) dm_readCompared_94 rfl ?_
          cases hm
          exact v_iret dm_readCompared_95 rfl
      · refine v_cmp_ne dm_readCompared_49 (fun hc => ?_) (fun hc => ?_)
        · replace hm := it hc hm
          refine v_bipush (x := 6) dm_readCompared_52 rfl ?_
          refine v_goto dm_readCompared_54 ?_
          exact v_kw (kj5 _ hm) (wk_s (wk_n wk_e))
        · replace hm := ie hc hm
          refine v_ald_0 dm_readCompared_57 ?_
          refine v_getI dm_readCompared_58 fum_210 sh_104 rf_104_15 ?_
          refine v_bipush (x := 61) dm_readCompared_61 rfl ?_
          refine v_cmp_ne dm_readCompared_63 (fun hc => ?_) (fun hc => ?_)
          · replace hm := it hc hm
            refine v_bipush (x := 7) dm_readCompared_66 rfl ?_
            refine v_goto dm_readCompared_68 ?_
            exact v_kw (kj5 _ hm) (wk_s (wk_n wk_e))
          · replace hm := ie hc hm
            refine v_bipush (x := 8) dm_readCompared_71 rfl ?_
            exact v_kw (kj5 _ hm) (wk_s (wk_n wk_e))
    · refine v_if_ne dm_readCompared_16 (fun hc => ?_) (fun hc => ?_)
      · replace hm := it hc hm
        refine v_ald_0 dm_readCompared_19 ?_
        refine v_bipush (x := 61) dm_readCompared_20 rfl ?_
        obtain ⟨r11, he, hm⟩ := bd_s hm
        refine v_cv1i (M' := tm_isSign) dm_readCompared_22 mlm_251 okm_isSign sh_104 hc_12 (Nat.le_of_ble_eq_true rfl) (ctm_isSign G (d + 5) _ _ _ he) ?_
        refine v_if_ne dm_readCompared_25 (fun hc => ?_) (fun hc => ?_)
        · replace hm := it hc hm
          refine v_ald_0 dm_readCompared_28 ?_
          refine v_bipush (x := 62) dm_readCompared_29 rfl ?_
          obtain ⟨r12, he, hm⟩ := bd_s hm
          refine v_cv1i (M' := tm_isSign) dm_readCompared_31 mlm_251 okm_isSign sh_104 hc_12 (Nat.le_of_ble_eq_true rfl) (ctm_isSign G (d + 5) _ _ _ he) ?_
          refine v_if_ne dm_readCompared_34 (fun hc => ?_) (fun hc => ?_)
          · replace hm := it hc hm
            refine v_ald_0 dm_readCompared_37 ?_
            refine v_iconst (x := 1) dm_readCompared_38 rfl ?_
            obtain ⟨r13, h14, he, hm⟩ := bd2_s hm
            refine v_cv1i (M' := tm_errs) dm_readCompared_39 mlm_237 okm_errs sh_104 hc_12 (Nat.le_of_ble_eq_true rfl) (ctm_errs G (d + 5) _ _ _ he) ?_
            cases hm
            exact v_iret dm_readCompared_42 rfl
          · replace hm := ie hc hm
            exact v_kw (kj4 hm) (wk_s (wk_n wk_e))
        · replace hm := ie hc hm
          exact v_kw (kj4 hm) (wk_s (wk_n wk_e))
      · replace hm := ie hc hm
        exact v_kw (kj4 hm) (wk_s (wk_n wk_e))
def mm_waits (p1 : Int32) (h0 : PH) : Option (PH) :=
  ck (h0 104 28) 40 <|
  lt (up h0 120 (ix (h0 104 28)) p1) fun h1 =>
  lt (up h1 104 28 ((h1 104 28) + 1)) fun h2 =>
  some h2
theorem ctm_waits (G : GG) (d : Nat) (p1 : Int32) (h0 : PH) (r : PH) (hm : mm_waits p1 h0 = some r) : Kx G tm_waits d [.ref (gB G + 104), .int p1] h0 none r := by
  refine K_of_V (by decide) (by simp [cat_i, cat_r, fmtV_cat]) (by simp [tm_waits]) ?_
  change Vx G tm_waits d 0 [some (.ref (gB G + 104)), some (.int p1)] [] h0 none r
  unfold mm_waits at hm
  refine v_ald_0 dm_waits_0 ?_
  refine v_getR dm_waits_1 fum_55 sh_104 rf_104_27 ?_
  refine v_ald_0 dm_waits_4 ?_
  refine v_getI dm_waits_5 fum_260 sh_104 rf_104_28 ?_
  refine v_ild_1 dm_waits_8 ?_
  obtain ⟨hi, hm⟩ := ck_s hm
  refine v_iastl dm_waits_9 sh_120 hi hm (fun h1 hm => ?_)
  refine v_ald_0 dm_waits_10 ?_
  refine v_ald_0 dm_waits_11 ?_
  refine v_getI dm_waits_12 fum_260 sh_104 rf_104_28 ?_
  refine v_iconst (x := 1) dm_waits_15 rfl ?_
  refine v_iadd dm_waits_16 ?_
  refine v_putIl dm_waits_17 fum_260 ft_12_28 sh_104 rf_104_28 hm (fun h2 hm => ?_)
  cases hm
  exact v_ret dm_waits_20 rfl
def mm_settles_L0 (p1 : Int32) : Nat → PH → Option (PH)
  | 0, _ => none
  | n + 1, hv =>
    if (hv 104 28) ≤ 0 then
      some hv
    else
      ck ((hv 104 28) - 1) 40 <|
      if (hv 120 (ix ((hv 104 28) - 1))) = p1 then
        lt (up hv 104 28 ((hv 104 28) - 1)) fun h1 =>
        bd (mm_emits p1 0 h1) fun h2 =>
        if p1 = 9 then
          lt (up h2 104 26 ((h2 104 26) - 1)) fun h3 =>
          mm_settles_L0 p1 n h3
        else
          mm_settles_L0 p1 n h2
      else
        some hv
def mm_settles (p1 : Int32) (h0 : PH) : Option (PH) :=
  mm_settles_L0 p1 FU h0
theorem wm_settles_L0 (G : GG) (d : Nat) (p1 : Int32) (r : PH) : ∀ (n : Nat) (hv : PH), mm_settles_L0 p1 n hv = some r → Vx G tm_settles (d + 1) 0 [some (.ref (gB G + 104)), some (.int p1)] [] hv none r := by
  intro n
  induction n with
  | zero => intro hv hm; cases hm
  | succ n ih =>
    intro hv hm
    unfold mm_settles_L0 at hm
    refine v_ald_0 dm_settles_0 ?_
    refine v_getI dm_settles_1 fum_260 sh_104 rf_104_28 ?_
    refine v_if_le dm_settles_4 (fun hc => ?_) (fun hc => ?_)
    · replace hm := it hc hm
      cases hm
      exact v_ret dm_settles_57 rfl
    · replace hm := ie hc hm
      refine v_ald_0 dm_settles_7 ?_
      refine v_getR dm_settles_8 fum_55 sh_104 rf_104_27 ?_
      refine v_ald_0 dm_settles_11 ?_
      refine v_getI dm_settles_12 fum_260 sh_104 rf_104_28 ?_
      refine v_iconst (x := 1) dm_settles_15 rfl ?_
      refine v_isub dm_settles_16 ?_
      obtain ⟨hi, hm⟩ := ck_s hm
      refine v_iald dm_settles_17 sh_120 hi ?_
      refine v_ild_1 dm_settles_18 ?_
      refine v_cmp_ne dm_settles_19 (fun hc => ?_) (fun hc => ?_)
      · replace hm := it hc hm
        refine v_ald_0 dm_settles_22 ?_
        refine v_ald_0 dm_settles_23 ?_
        refine v_getI dm_settles_24 fum_260 sh_104 rf_104_28 ?_
        refine v_iconst (x := 1) dm_settles_27 rfl ?_
        refine v_isub dm_settles_28 ?_
        refine v_putIl dm_settles_29 fum_260 ft_12_28 sh_104 rf_104_28 hm (fun h1 hm => ?_)
        refine v_ald_0 dm_settles_32 ?_
        refine v_ild_1 dm_settles_33 ?_
        refine v_iconst (x := 0) dm_settles_34 rfl ?_
        obtain ⟨h2, he, hm⟩ := bd_s hm
        refine v_cv2v (M' := tm_emits) dm_settles_35 mlm_240 okm_emits sh_104 hc_12 (Nat.le_of_ble_eq_true rfl) (ctm_emits G d _ _ _ _ he) ?_
        refine v_ild_1 dm_settles_38 ?_
        refine v_bipush (x := 9) dm_settles_39 rfl ?_
        refine v_cmp_ne dm_settles_41 (fun hc => ?_) (fun hc => ?_)
        · replace hm := it hc hm
          refine v_ald_0 dm_settles_44 ?_
          refine v_ald_0 dm_settles_45 ?_
          refine v_getI dm_settles_46 fum_263 sh_104 rf_104_26 ?_
          refine v_iconst (x := 1) dm_settles_49 rfl ?_
          refine v_isub dm_settles_50 ?_
          refine v_putIl dm_settles_51 fum_263 ft_12_26 sh_104 rf_104_26 hm (fun h3 hm => ?_)
          refine v_goto dm_settles_54 ?_
          exact v_kw (ih _ hm) (wk_s (wk_s wk_e))
        · replace hm := ie hc hm
          exact v_kw (ih _ hm) (wk_s (wk_s wk_e))
      · replace hm := ie hc hm
        cases hm
        exact v_ret dm_settles_57 rfl
theorem ctm_settles (G : GG) (d : Nat) (p1 : Int32) (h0 : PH) (r : PH) (hm : mm_settles p1 h0 = some r) : Kx G tm_settles (d + 1) [.ref (gB G + 104), .int p1] h0 none r := by
  refine K_of_V (by decide) (by simp [cat_i, cat_r, fmtV_cat]) (by simp [tm_settles]) ?_
  change Vx G tm_settles (d + 1) 0 [some (.ref (gB G + 104)), some (.int p1)] [] h0 none r
  unfold mm_settles at hm
  exact v_kw (wm_settles_L0 G d _ _ FU _ hm) (wk_s (wk_s wk_e))
def mm_readAny_L9 (k0 : PH → Option (Int32 × PH)) (k1 : PH → Option (Int32 × PH)) : Nat → Int32 → Int32 → PH → Option (Int32 × PH)
  | 0, _, _, _ => none
  | n + 1, v1, v2, hv =>
    if v2 = 0 then
      bd (mm_isWord 5 hv) fun r2 =>
      if r2 = 0 then
        bd (mm_isWord 4 hv) fun r3 =>
        if r3 = 0 then
          bd (mm_settles 10 hv) fun h4 =>
          bd (mm_settles 11 h4) fun h5 =>
          if v1 = 0 then
            some (0, h5)
          else
            bd (mm_isSign 41 h5) fun r6 =>
            if r6 = 0 then
              k1 h5
            else
              lt (up h5 104 28 ((h5 104 28) - 1)) fun h7 =>
              lt (v1 - 1) fun x8 =>
              lt (up h7 104 26 ((h7 104 26) - 1)) fun h9 =>
              bd (mm_settles 9 h9) fun h10 =>
              bd (mm_reads h10) fun h11 =>
              mm_readAny_L9 k0 k1 n x8 v2 h11
        else
          bd (mm_settles 10 hv) fun h12 =>
          bd (mm_settles 11 h12) fun h13 =>
          bd (mm_waits 11 h13) fun h14 =>
          bd (mm_reads h14) fun h15 =>
          mm_readAny_L9 k0 k1 n v1 1 h15
      else
        bd (mm_settles 10 hv) fun h16 =>
        bd (mm_waits 10 h16) fun h17 =>
        bd (mm_reads h17) fun h18 =>
        mm_readAny_L9 k0 k1 n v1 1 h18
    else
      bd (mm_isWord 6 hv) fun r19 =>
      jn0 (if (hv 104 26) = 8 then
          k0 hv
        else
          lt (up hv 104 26 ((hv 104 26) + 1)) fun h21 =>
          jn1 (fun (x23 : Int32) =>
            jn1 (fun (x25 : Int32) =>
              bd (mm_waits x25 h21) fun h26 =>
              bd (mm_reads h26) fun h27 =>
              mm_readAny_L9 k0 k1 n x23 v2 h27) fun j24 =>
            if r19 = 0 then
              j24 12
            else
              j24 9) fun j22 =>
          if r19 = 0 then
            lt (v1 + 1) fun x28 =>
            j22 x28
          else
            j22 v1) fun j20 =>
      if r19 = 0 then
        bd (mm_isSign 40 hv) fun r29 =>
        if r29 = 0 then
          bd2 (mm_readCompared hv) fun r30 h31 =>
          if r30 = (-1) then
            some ((-1), h31)
          else
            bd (mm_settles 9 h31) fun h32 =>
            mm_readAny_L9 k0 k1 n v1 0 h32
        else
          j20
      else
        j20
def mm_readAny (h0 : PH) : Option (Int32 × PH) :=
  lt (up h0 104 28 0) fun h1 =>
  mm_readAny_L9 (fun (h33 : PH) =>
    bd2 (mm_errs 3 h33) fun r34 h35 =>
    some (r34, h35)) (fun (h36 : PH) =>
    bd2 (mm_errs 1 h36) fun r37 h38 =>
    some (r37, h38)) FU 0 1 h1
theorem wm_readAny_L9 (G : GG) (d : Nat) (k0 : PH → Option (Int32 × PH)) (k1 : PH → Option (Int32 × PH)) (r : Int32 × PH) (kk0 : ∀ (hy : PH), k0 hy = some r → Vx G tm_readAny (d + 7) 42 [some (.ref (gB G + 104)), none, none, none] [] hy (some (.int r.1)) r.2) (kk1 : ∀ (hy : PH), k1 hy = some r → Vx G tm_readAny (d + 7) 200 [some (.ref (gB G + 104)), none, none, none] [] hy (some (.int r.1)) r.2) : ∀ (n : Nat) (v1 : Int32) (v2 : Int32) (hv : PH), mm_readAny_L9 k0 k1 n v1 v2 hv = some r → Vx G tm_readAny (d + 7) 9 [some (.ref (gB G + 104)), some (.int v1), some (.int v2), none] [] hv (some (.int r.1)) r.2 := by
  intro n
  induction n with
  | zero => intro v1 v2 hv hm; cases hm
  | succ n ih =>
    intro v1 v2 hv hm
    unfold mm_readAny_L9 at hm
    refine v_ild_2 dm_readAny_9 ?_
    refine v_if_eq dm_readAny_10 (fun hc => ?_) (fun hc => ?_)
    · replace hm := it hc hm
      refine v_ald_0 dm_readAny_109 ?_
      refine v_iconst (x := 5) dm_readAny_110 rfl ?_
      obtain ⟨r2, he, hm⟩ := bd_s hm
      refine v_cv1i (M' := tm_isWord) dm_readAny_111 mlm_266 okm_isWord sh_104 hc_12 (Nat.le_of_ble_eq_true rfl) (ctm_isWord G (d + 6) _ _ _ he) ?_
      refine v_if_eq dm_readAny_114 (fun hc => ?_) (fun hc => ?_)
      · replace hm := it hc hm
        refine v_ald_0 dm_readAny_138 ?_
        refine v_iconst (x := 4) dm_readAny_139 rfl ?_
        obtain ⟨r3, he, hm⟩ := bd_s hm
        refine v_cv1i (M' := tm_isWord) dm_readAny_140 mlm_266 okm_isWord sh_104 hc_12 (Nat.le_of_ble_eq_true rfl) (ctm_isWord G (d + 6) _ _ _ he) ?_
        refine v_if_eq dm_readAny_143 (fun hc => ?_) (fun hc => ?_)
        · replace hm := it hc hm
          refine v_ald_0 dm_readAny_173 ?_
          refine v_bipush (x := 10) dm_readAny_174 rfl ?_
          obtain ⟨h4, he, hm⟩ := bd_s hm
          refine v_cv1v (M' := tm_settles) dm_readAny_176 mlm_275 okm_settles sh_104 hc_12 (Nat.le_of_ble_eq_true rfl) (ctm_settles G (d + 5) _ _ _ he) ?_
          refine v_ald_0 dm_readAny_179 ?_
          refine v_bipush (x := 11) dm_readAny_180 rfl ?_
          obtain ⟨h5, he, hm⟩ := bd_s hm
          refine v_cv1v (M' := tm_settles) dm_readAny_182 mlm_275 okm_settles sh_104 hc_12 (Nat.le_of_ble_eq_true rfl) (ctm_settles G (d + 5) _ _ _ he) ?_
          refine v_ild_1 dm_readAny_185 ?_
          refine v_if_ne dm_readAny_186 (fun hc => ?_) (fun hc => ?_)
          · replace hm := it hc hm
            refine v_iconst (x := 0) dm_readAny_189 rfl ?_
            cases hm
            exact v_iret dm_readAny_190 rfl
          · replace hm := ie hc hm
            refine v_ald_0 dm_readAny_191 ?_
            refine v_bipush (x := 41) dm_readAny_192 rfl ?_
            obtain ⟨r6, he, hm⟩ := bd_s hm
            refine v_cv1i (M' := tm_isSign) dm_readAny_194 mlm_251 okm_isSign sh_104 hc_12 (Nat.le_of_ble_eq_true rfl) (ctm_isSign G (d + 6) _ _ _ he) ?_
            refine v_if_ne dm_readAny_197 (fun hc => ?_) (fun hc => ?_)
            · replace hm := it hc hm
              exact v_kw (kk1 _ hm) (wk_s (wk_n (wk_n (wk_n wk_e))))
            · replace hm := ie hc hm
              refine v_ald_0 dm_readAny_206 ?_
              refine v_ald_0 dm_readAny_207 ?_
              refine v_getI dm_readAny_208 fum_260 sh_104 rf_104_28 ?_
              refine v_iconst (x := 1) dm_readAny_211 rfl ?_
              refine v_isub dm_readAny_212 ?_
              refine v_putIl dm_readAny_213 fum_260 ft_12_28 sh_104 rf_104_28 hm (fun h7 hm => ?_)
              refine v_ild_1 dm_readAny_216 ?_
              refine v_iconst (x := 1) dm_readAny_217 rfl ?_
              refine v_isub dm_readAny_218 ?_
              refine v_top hm (fun x8 hm => ?_)
              refine v_ist_1 dm_readAny_219 (by decide) rfl ?_
              refine v_ald_0 dm_readAny_220 ?_
              refine v_ald_0 dm_readAny_221 ?_
              refine v_getI dm_readAny_222 fum_263 sh_104 rf_104_26 ?_
              refine v_iconst (x := 1) dm_readAny_225 rfl ?_
              refine v_isub dm_readAny_226 ?_
              refine v_putIl dm_readAny_227 fum_263 ft_12_26 sh_104 rf_104_26 hm (fun h9 hm => ?_)
              refine v_ald_0 dm_readAny_230 ?_
              refine v_bipush (x := 9) dm_readAny_231 rfl ?_
              obtain ⟨h10, he, hm⟩ := bd_s hm
              refine v_cv1v (M' := tm_settles) dm_readAny_233 mlm_275 okm_settles sh_104 hc_12 (Nat.le_of_ble_eq_true rfl) (ctm_settles G (d + 5) _ _ _ he) ?_
              refine v_ald_0 dm_readAny_236 ?_
              obtain ⟨h11, he, hm⟩ := bd_s hm
              refine v_cv0v (M' := tm_reads) dm_readAny_237 mlm_244 okm_reads sh_104 hc_12 (Nat.le_of_ble_eq_true rfl) (ctm_reads G (d + 4) _ _ he) ?_
              refine v_goto dm_readAny_240 ?_
              exact v_kw (ih _ _ _ hm) (wk_s (wk_s (wk_s (wk_n wk_e))))
        · replace hm := ie hc hm
          refine v_ald_0 dm_readAny_146 ?_
          refine v_bipush (x := 10) dm_readAny_147 rfl ?_
          obtain ⟨h12, he, hm⟩ := bd_s hm
          refine v_cv1v (M' := tm_settles) dm_readAny_149 mlm_275 okm_settles sh_104 hc_12 (Nat.le_of_ble_eq_true rfl) (ctm_settles G (d + 5) _ _ _ he) ?_
          refine v_ald_0 dm_readAny_152 ?_
          refine v_bipush (x := 11) dm_readAny_153 rfl ?_
          obtain ⟨h13, he, hm⟩ := bd_s hm
          refine v_cv1v (M' := tm_settles) dm_readAny_155 mlm_275 okm_settles sh_104 hc_12 (Nat.le_of_ble_eq_true rfl) (ctm_settles G (d + 5) _ _ _ he) ?_
          refine v_ald_0 dm_readAny_158 ?_
          refine v_bipush (x := 11) dm_readAny_159 rfl ?_
          obtain ⟨h14, he, hm⟩ := bd_s hm
          refine v_cv1v (M' := tm_waits) dm_readAny_161 mlm_269 okm_waits sh_104 hc_12 (Nat.le_of_ble_eq_true rfl) (ctm_waits G (d + 6) _ _ _ he) ?_
          refine v_ald_0 dm_readAny_164 ?_
          obtain ⟨h15, he, hm⟩ := bd_s hm
          refine v_cv0v (M' := tm_reads) dm_readAny_165 mlm_244 okm_reads sh_104 hc_12 (Nat.le_of_ble_eq_true rfl) (ctm_reads G (d + 4) _ _ he) ?_
          refine v_iconst (x := 1) dm_readAny_168 rfl ?_
          refine v_ist_2 dm_readAny_169 (by decide) rfl ?_
          refine v_goto dm_readAny_170 ?_
          exact v_kw (ih _ _ _ hm) (wk_s (wk_s (wk_s (wk_n wk_e))))
      · replace hm := ie hc hm
        refine v_ald_0 dm_readAny_117 ?_
        refine v_bipush (x := 10) dm_readAny_118 rfl ?_
        obtain ⟨h16, he, hm⟩ := bd_s hm
        refine v_cv1v (M' := tm_settles) dm_readAny_120 mlm_275 okm_settles sh_104 hc_12 (Nat.le_of_ble_eq_true rfl) (ctm_settles G (d + 5) _ _ _ he) ?_
        refine v_ald_0 dm_readAny_123 ?_
        refine v_bipush (x := 10) dm_readAny_124 rfl ?_
        obtain ⟨h17, he, hm⟩ := bd_s hm
        refine v_cv1v (M' := tm_waits) dm_readAny_126 mlm_269 okm_waits sh_104 hc_12 (Nat.le_of_ble_eq_true rfl) (ctm_waits G (d + 6) _ _ _ he) ?_
        refine v_ald_0 dm_readAny_129 ?_
        obtain ⟨h18, he, hm⟩ := bd_s hm
        refine v_cv0v (M' := tm_reads) dm_readAny_130 mlm_244 okm_reads sh_104 hc_12 (Nat.le_of_ble_eq_true rfl) (ctm_reads G (d + 4) _ _ he) ?_
        refine v_iconst (x := 1) dm_readAny_133 rfl ?_
        refine v_ist_2 dm_readAny_134 (by decide) rfl ?_
        refine v_goto dm_readAny_135 ?_
        exact v_kw (ih _ _ _ hm) (wk_s (wk_s (wk_s (wk_n wk_e))))
    · replace hm := ie hc hm
      refine v_ald_0 dm_readAny_13 ?_
      refine v_bipush (x := 6) dm_readAny_14 rfl ?_
      obtain ⟨r19, he, hm⟩ := bd_s hm
      refine v_cv1i (M' := tm_isWord) dm_readAny_16 mlm_266 okm_isWord sh_104 hc_12 (Nat.le_of_ble_eq_true rfl) (ctm_isWord G (d + 6) _ _ _ he) ?_
      refine v_ist_3 dm_readAny_19 (by decide) rfl ?_
      refine v_ild_3 dm_readAny_20 ?_
      refine v_j0 (Vx G tm_readAny (d + 7) 33 [some (.ref (gB G + 104)), some (.int v1), some (.int v2), some (.int r19)] [] hv (some (.int r.1)) r.2) hm (fun hm => ?_) (fun j20 kj20 hm => ?_)
      · refine v_ald_0 dm_readAny_33 ?_
        refine v_getI dm_readAny_34 fum_263 sh_104 rf_104_26 ?_
        refine v_bipush (x := 8) dm_readAny_37 rfl ?_
        refine v_cmp_ne dm_readAny_39 (fun hc => ?_) (fun hc => ?_)
        · replace hm := it hc hm
          exact v_kw (kk0 _ hm) (wk_s (wk_n (wk_n (wk_n wk_e))))
        · replace hm := ie hc hm
          refine v_ald_0 dm_readAny_48 ?_
          refine v_ald_0 dm_readAny_49 ?_
          refine v_getI dm_readAny_50 fum_263 sh_104 rf_104_26 ?_
          refine v_iconst (x := 1) dm_readAny_53 rfl ?_
          refine v_iadd dm_readAny_54 ?_
          refine v_putIl dm_readAny_55 fum_263 ft_12_26 sh_104 rf_104_26 hm (fun h21 hm => ?_)
          refine v_ild_3 dm_readAny_58 ?_
          refine v_j1 (fun (x23 : Int32) => Vx G tm_readAny (d + 7) 66 [some (.ref (gB G + 104)), some (.int x23), some (.int v2), some (.int r19)] [] h21 (some (.int r.1)) r.2) hm (fun x23 hm => ?_) (fun j22 kj22 hm => ?_)
          · refine v_ald_0 dm_readAny_66 ?_
            refine v_ild_3 dm_readAny_67 ?_
            refine v_j1 (fun (x25 : Int32) => Vx G tm_readAny (d + 7) 78 [some (.ref (gB G + 104)), some (.int x23), some (.int v2), none] [.int x25, .ref (gB G + 104)] h21 (some (.int r.1)) r.2) hm (fun x25 hm => ?_) (fun j24 kj24 hm => ?_)
            · obtain ⟨h26, he, hm⟩ := bd_s hm
              refine v_cv1v (M' := tm_waits) dm_readAny_78 mlm_269 okm_waits sh_104 hc_12 (Nat.le_of_ble_eq_true rfl) (ctm_waits G (d + 6) _ _ _ he) ?_
              refine v_ald_0 dm_readAny_81 ?_
              obtain ⟨h27, he, hm⟩ := bd_s hm
              refine v_cv0v (M' := tm_reads) dm_readAny_82 mlm_244 okm_reads sh_104 hc_12 (Nat.le_of_ble_eq_true rfl) (ctm_reads G (d + 4) _ _ he) ?_
              refine v_goto dm_readAny_85 ?_
              exact v_kw (ih _ _ _ hm) (wk_s (wk_s (wk_s (wk_n wk_e))))
            · refine v_if_eq dm_readAny_68 (fun hc => ?_) (fun hc => ?_)
              · replace hm := it hc hm
                refine v_bipush (x := 12) dm_readAny_76 rfl ?_
                exact v_kw (kj24 _ hm) (wk_s (wk_s (wk_s (wk_n wk_e))))
              · replace hm := ie hc hm
                refine v_bipush (x := 9) dm_readAny_71 rfl ?_
                refine v_goto dm_readAny_73 ?_
                exact v_kw (kj24 _ hm) (wk_s (wk_s (wk_s (wk_n wk_e))))
          · refine v_if_ne dm_readAny_59 (fun hc => ?_) (fun hc => ?_)
            · replace hm := it hc hm
              refine v_ild_1 dm_readAny_62 ?_
              refine v_iconst (x := 1) dm_readAny_63 rfl ?_
              refine v_iadd dm_readAny_64 ?_
              refine v_top hm (fun x28 hm => ?_)
              refine v_ist_1 dm_readAny_65 (by decide) rfl ?_
              exact v_kw (kj22 _ hm) (wk_s (wk_s (wk_s (wk_s wk_e))))
            · replace hm := ie hc hm
              exact v_kw (kj22 _ hm) (wk_s (wk_s (wk_s (wk_s wk_e))))
      · refine v_if_ne dm_readAny_21 (fun hc => ?_) (fun hc => ?_)
        · replace hm := it hc hm
          refine v_ald_0 dm_readAny_24 ?_
          refine v_bipush (x := 40) dm_readAny_25 rfl ?_
          obtain ⟨r29, he, hm⟩ := bd_s hm
          refine v_cv1i (M' := tm_isSign) dm_readAny_27 mlm_251 okm_isSign sh_104 hc_12 (Nat.le_of_ble_eq_true rfl) (ctm_isSign G (d + 6) _ _ _ he) ?_
          refine v_if_eq dm_readAny_30 (fun hc => ?_) (fun hc => ?_)
          · replace hm := it hc hm
            refine v_ald_0 dm_readAny_88 ?_
            obtain ⟨r30, h31, he, hm⟩ := bd2_s hm
            refine v_cv0i (M' := tm_readCompared) dm_readAny_89 mlm_272 okm_readCompared sh_104 hc_12 (Nat.le_of_ble_eq_true rfl) (ctm_readCompared G d _ _ he) ?_
            refine v_iconst (x := (-1)) dm_readAny_92 rfl ?_
            refine v_cmp_ne dm_readAny_93 (fun hc => ?_) (fun hc => ?_)
            · replace hm := it hc hm
              refine v_iconst (x := (-1)) dm_readAny_96 rfl ?_
              cases hm
              exact v_iret dm_readAny_97 rfl
            · replace hm := ie hc hm
              refine v_ald_0 dm_readAny_98 ?_
              refine v_bipush (x := 9) dm_readAny_99 rfl ?_
              obtain ⟨h32, he, hm⟩ := bd_s hm
              refine v_cv1v (M' := tm_settles) dm_readAny_101 mlm_275 okm_settles sh_104 hc_12 (Nat.le_of_ble_eq_true rfl) (ctm_settles G (d + 5) _ _ _ he) ?_
              refine v_iconst (x := 0) dm_readAny_104 rfl ?_
              refine v_ist_2 dm_readAny_105 (by decide) rfl ?_
              refine v_goto dm_readAny_106 ?_
              exact v_kw (ih _ _ _ hm) (wk_s (wk_s (wk_s (wk_n wk_e))))
          · replace hm := ie hc hm
            exact v_kw (kj20 hm) (wk_s (wk_s (wk_s (wk_s wk_e))))
        · replace hm := ie hc hm
          exact v_kw (kj20 hm) (wk_s (wk_s (wk_s (wk_s wk_e))))
