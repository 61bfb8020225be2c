theorem wm_findsShares_L2 (G : GG) (d : Nat)  (r : PH) : ∀ (n : Nat) (v1 : Int32) (hv : PH), mm_findsShares_L2  n v1 hv = some r → Vx G tm_findsShares (d + 1) 2 [some (.ref (gB G + 104)), some (.int v1), none, none, none] [] hv none r := by
  intro n
  induction n with
  | zero => intro v1 hv hm; cases hm
  | succ n ih =>
    intro v1 hv hm
    unfold mm_findsShares_L2 at hm
    refine v_ild_1 dm_findsShares_2 ?_
    refine v_bipush (x := 10) dm_findsShares_3 rfl ?_
    refine v_cmp_ge dm_findsShares_5 (fun hc => ?_) (fun hc => ?_)
    · replace hm := it hc hm
      cases hm
      exact v_ret dm_findsShares_117 rfl
    · replace hm := ie hc hm
      refine v_iconst (x := 0) dm_findsShares_8 rfl ?_
      refine v_ist_2 dm_findsShares_9 (by decide) rfl ?_
      refine v_kw (wm_findsShares_L10 G d _ _ _ (fun h9 hm => ?_) FU _ _ hm) (wk_s (wk_s (wk_s (wk_n (wk_n wk_e)))))
      refine v_inc_1 1 dm_findsShares_111 rfl (by decide) rfl ?_
      refine v_goto dm_findsShares_114 ?_
      exact v_kw (ih _ _ hm) (wk_s (wk_s (wk_n (wk_n (wk_n wk_e)))))
theorem ctm_findsShares (G : GG) (d : Nat) (h0 : PH) (r : PH) (hm : mm_findsShares h0 = some r) : Kx G tm_findsShares (d + 1) [.ref (gB G + 104)] h0 none r := by
  refine K_of_V (by decide) (by simp [cat_i, cat_r, fmtV_cat]) (by simp [tm_findsShares]) ?_
  change Vx G tm_findsShares (d + 1) 0 [some (.ref (gB G + 104)), none, none, none, none] [] h0 none r
  unfold mm_findsShares at hm
  refine v_iconst (x := 0) dm_findsShares_0 rfl ?_
  refine v_ist_1 dm_findsShares_1 (by decide) rfl ?_
  exact v_kw (wm_findsShares_L2 G d  _ FU _ _ hm) (wk_s (wk_s (wk_n (wk_n (wk_n wk_e)))))
def mm_plate_L53 (p1 : Int32) (p3 : Int32) (h0 : PH) : Nat → Int32 → Option (Int32 × PH)
  | 0, _ => none
  | n + 1, v4 =>
    if (h0 104 42) ≤ v4 then
      some ((-1), h0)
    else
      if p1 ≤ 1 then
        some ((-1), h0)
      else
        bd (mm_piecesOver 0 v4 h0) fun r6 =>
        ck ((10 * (p1 - 1)) + v4) 100 <|
        bd (mm_lesser r6 (h0 128 (ix ((10 * (p1 - 1)) + v4))) h0) fun r7 =>
        if r7 = p3 then
          some (v4, h0)
        else
          mm_plate_L53 p1 p3 h0 n (v4 + 1)
def mm_plate (p1 : Int32) (p2 : Int32) (h0 : PH) : Option (Int32 × PH) :=
  lt (up h0 104 0 0) fun h1 =>
  bd (mm_isIn p1 1 (h1 104 42) h1) fun r2 =>
  if r2 = 0 then
    some ((-1), h1)
  else
    bd (mm_isIn p2 0 1 h1) fun r3 =>
    if r3 = 0 then
      some ((-1), h1)
    else
      bd (mm_findsShares h1) fun h4 =>
      ck (10 * p1) 100 <|
      lt (h4 128 (ix (10 * p1))) fun x5 =>
      if p2 = 0 then
        some (x5, h4)
      else
        mm_plate_L53 p1 x5 h4 FU 1
theorem wm_plate_L53 (G : GG) (d : Nat) (p1 : Int32) (p3 : Int32) (h0 : PH) (r : Int32 × PH) : ∀ (n : Nat) (v4 : Int32), mm_plate_L53 p1 p3 h0 n v4 = some r → Vx G tm_plate (d + 2) 53 [some (.ref (gB G + 104)), some (.int p1), none, some (.int p3), some (.int v4)] [] h0 (some (.int r.1)) r.2 := by
  intro n
  induction n with
  | zero => intro v4 hm; cases hm
  | succ n ih =>
    intro v4 hm
    unfold mm_plate_L53 at hm
    refine v_ild_4 dm_plate_53 ?_
    refine v_ald_0 dm_plate_55 ?_
    refine v_getI dm_plate_56 fum_448 sh_104 rf_104_42 ?_
    refine v_cmp_ge dm_plate_59 (fun hc => ?_) (fun hc => ?_)
    · replace hm := it hc hm
      refine v_iconst (x := (-1)) dm_plate_105 rfl ?_
      cases hm
      exact v_iret dm_plate_106 rfl
    · replace hm := ie hc hm
      refine v_ild_1 dm_plate_62 ?_
      refine v_iconst (x := 1) dm_plate_63 rfl ?_
      refine v_cmp_le dm_plate_64 (fun hc => ?_) (fun hc => ?_)
      · replace hm := it hc hm
        refine v_iconst (x := (-1)) dm_plate_105 rfl ?_
        cases hm
        exact v_iret dm_plate_106 rfl
      · replace hm := ie hc hm
        refine v_ald_0 dm_plate_67 ?_
        refine v_ald_0 dm_plate_68 ?_
        refine v_iconst (x := 0) dm_plate_69 rfl ?_
        refine v_ild_4 dm_plate_70 ?_
        obtain ⟨r6, he, hm⟩ := bd_s hm
        refine v_cv2i (M' := tm_piecesOver) dm_plate_72 mlm_451 okm_piecesOver sh_104 hc_12 (Nat.le_of_ble_eq_true rfl) (ctm_piecesOver G (d + 1) _ _ _ _ he) ?_
        refine v_ald_0 dm_plate_75 ?_
        refine v_getR dm_plate_76 fum_83 sh_104 rf_104_44 ?_
        refine v_bipush (x := 10) dm_plate_79 rfl ?_
        refine v_ild_1 dm_plate_81 ?_
        refine v_iconst (x := 1) dm_plate_82 rfl ?_
        refine v_isub dm_plate_83 ?_
        refine v_imul dm_plate_84 ?_
        refine v_ild_4 dm_plate_85 ?_
        refine v_iadd dm_plate_87 ?_
        obtain ⟨hi, hm⟩ := ck_s hm
        refine v_iald dm_plate_88 sh_128 hi ?_
        obtain ⟨r7, he, hm⟩ := bd_s hm
        refine v_cv2i (M' := tm_lesser) dm_plate_89 mlm_400 okm_lesser sh_104 hc_12 (Nat.le_of_ble_eq_true rfl) (ctm_lesser G (d + 1) _ _ _ _ he) ?_
        refine v_ild_3 dm_plate_92 ?_
        refine v_cmp_ne dm_plate_93 (fun hc => ?_) (fun hc => ?_)
        · replace hm := it hc hm
          refine v_ild_4 dm_plate_96 ?_
          cases hm
          exact v_iret dm_plate_98 rfl
        · replace hm := ie hc hm
          refine v_inc_4 1 dm_plate_99 rfl (by decide) rfl ?_
          refine v_goto dm_plate_102 ?_
          exact v_kw (ih _ hm) (wk_s (wk_s (wk_n (wk_s (wk_s wk_e)))))
theorem ctm_plate (G : GG) (d : Nat) (p1 : Int32) (p2 : Int32) (h0 : PH) (r : Int32 × PH) (hm : mm_plate p1 p2 h0 = some r) : Kx G tm_plate (d + 2) [.ref (gB G + 104), .int p1, .int p2] h0 (some (.int r.1)) r.2 := by
  refine K_of_V (by decide) (by simp [cat_i, cat_r, fmtV_cat]) (by simp [tm_plate]) ?_
  change Vx G tm_plate (d + 2) 0 [some (.ref (gB G + 104)), some (.int p1), some (.int p2), none, none] [] h0 (some (.int r.1)) r.2
  unfold mm_plate at hm
  refine v_ald_0 dm_plate_0 ?_
  refine v_iconst (x := 0) dm_plate_1 rfl ?_
  refine v_putIl dm_plate_2 fum_146 ft_12_0 sh_104 rf_104_0 hm (fun h1 hm => ?_)
  refine v_ald_0 dm_plate_5 ?_
  refine v_ild_1 dm_plate_6 ?_
  refine v_iconst (x := 1) dm_plate_7 rfl ?_
  refine v_ald_0 dm_plate_8 ?_
  refine v_getI dm_plate_9 fum_448 sh_104 rf_104_42 ?_
  obtain ⟨r2, he, hm⟩ := bd_s hm
  refine v_cv3i (M' := tm_isIn) dm_plate_12 mlm_177 okm_isIn sh_104 hc_12 (Nat.le_of_ble_eq_true rfl) (ctm_isIn G (d + 1) _ _ _ _ _ he) ?_
  refine v_if_eq dm_plate_15 (fun hc => ?_) (fun hc => ?_)
  · replace hm := it hc hm
    refine v_iconst (x := (-1)) dm_plate_28 rfl ?_
    cases hm
    exact v_iret dm_plate_29 rfl
  · replace hm := ie hc hm
    refine v_ald_0 dm_plate_18 ?_
    refine v_ild_2 dm_plate_19 ?_
    refine v_iconst (x := 0) dm_plate_20 rfl ?_
    refine v_iconst (x := 1) dm_plate_21 rfl ?_
    obtain ⟨r3, he, hm⟩ := bd_s hm
    refine v_cv3i (M' := tm_isIn) dm_plate_22 mlm_177 okm_isIn sh_104 hc_12 (Nat.le_of_ble_eq_true rfl) (ctm_isIn G (d + 1) _ _ _ _ _ he) ?_
    refine v_if_ne dm_plate_25 (fun hc => ?_) (fun hc => ?_)
    · replace hm := it hc hm
      refine v_iconst (x := (-1)) dm_plate_28 rfl ?_
      cases hm
      exact v_iret dm_plate_29 rfl
    · replace hm := ie hc hm
      refine v_ald_0 dm_plate_30 ?_
      obtain ⟨h4, he, hm⟩ := bd_s hm
      refine v_cv0v (M' := tm_findsShares) dm_plate_31 mlm_454 okm_findsShares sh_104 hc_12 (Nat.le_of_ble_eq_true rfl) (ctm_findsShares G d _ _ he) ?_
      refine v_ald_0 dm_plate_34 ?_
      refine v_getR dm_plate_35 fum_83 sh_104 rf_104_44 ?_
      refine v_bipush (x := 10) dm_plate_38 rfl ?_
      refine v_ild_1 dm_plate_40 ?_
      refine v_imul dm_plate_41 ?_
      obtain ⟨hi, hm⟩ := ck_s hm
      refine v_iald dm_plate_42 sh_128 hi ?_
      refine v_top hm (fun x5 hm => ?_)
      refine v_ist_3 dm_plate_43 (by decide) rfl ?_
      refine v_ild_2 dm_plate_44 ?_
      refine v_if_ne dm_plate_45 (fun hc => ?_) (fun hc => ?_)
      · replace hm := it hc hm
        refine v_ild_3 dm_plate_48 ?_
        cases hm
        exact v_iret dm_plate_49 rfl
      · replace hm := ie hc hm
        refine v_iconst (x := 1) dm_plate_50 rfl ?_
        refine v_ist_4 dm_plate_51 (by decide) rfl ?_
        exact v_kw (wm_plate_L53 G d _ _ _ _ FU _ hm) (wk_s (wk_s (wk_n (wk_s (wk_s wk_e)))))
def mm_dough (p1 : Int32) (h0 : PH) : Option (Int32 × PH) :=
  lt (up h0 104 0 0) fun h1 =>
  if p1 = (-1) then
    lt (up h1 104 45 0) fun h2 =>
    some (0, h2)
  else
    bd (mm_isIn p1 1 30 h1) fun r3 =>
    if r3 = 0 then
      some ((-1), h1)
    else
      if (h1 104 45) = 8 then
        some ((-1), h1)
      else
        ck (h1 104 45) 8 <|
        lt (up h1 129 (ix (h1 104 45)) p1) fun h4 =>
        lt (up h4 104 45 ((h4 104 45) + 1)) fun h5 =>
        some (h5 104 45, h5)
theorem ctm_dough (G : GG) (d : Nat) (p1 : Int32) (h0 : PH) (r : Int32 × PH) (hm : mm_dough p1 h0 = some r) : Kx G tm_dough (d + 1) [.ref (gB G + 104), .int p1] h0 (some (.int r.1)) r.2 := by
  refine K_of_V (by decide) (by simp [cat_i, cat_r, fmtV_cat]) (by simp [tm_dough]) ?_
  change Vx G tm_dough (d + 1) 0 [some (.ref (gB G + 104)), some (.int p1)] [] h0 (some (.int r.1)) r.2
  unfold mm_dough at hm
  refine v_ald_0 dm_dough_0 ?_
  refine v_iconst (x := 0) dm_dough_1 rfl ?_
  refine v_putIl dm_dough_2 fum_146 ft_12_0 sh_104 rf_104_0 hm (fun h1 hm => ?_)
  refine v_ild_1 dm_dough_5 ?_
  refine v_iconst (x := (-1)) dm_dough_6 rfl ?_
  refine v_cmp_ne dm_dough_7 (fun hc => ?_) (fun hc => ?_)
  · replace hm := it hc hm
    refine v_ald_0 dm_dough_10 ?_
    refine v_iconst (x := 0) dm_dough_11 rfl ?_
    refine v_putIl dm_dough_12 fum_457 ft_12_45 sh_104 rf_104_45 hm (fun h2 hm => ?_)
    refine v_iconst (x := 0) dm_dough_15 rfl ?_
    cases hm
    exact v_iret dm_dough_16 rfl
  · replace hm := ie hc hm
    refine v_ald_0 dm_dough_17 ?_
    refine v_ild_1 dm_dough_18 ?_
    refine v_iconst (x := 1) dm_dough_19 rfl ?_
    refine v_bipush (x := 30) dm_dough_20 rfl ?_
    obtain ⟨r3, he, hm⟩ := bd_s hm
    refine v_cv3i (M' := tm_isIn) dm_dough_22 mlm_177 okm_isIn sh_104 hc_12 (Nat.le_of_ble_eq_true rfl) (ctm_isIn G d _ _ _ _ _ he) ?_
    refine v_if_eq dm_dough_25 (fun hc => ?_) (fun hc => ?_)
    · replace hm := it hc hm
      refine v_iconst (x := (-1)) dm_dough_37 rfl ?_
      cases hm
      exact v_iret dm_dough_38 rfl
    · replace hm := ie hc hm
      refine v_ald_0 dm_dough_28 ?_
      refine v_getI dm_dough_29 fum_457 sh_104 rf_104_45 ?_
      refine v_bipush (x := 8) dm_dough_32 rfl ?_
      refine v_cmp_ne dm_dough_34 (fun hc => ?_) (fun hc => ?_)
      · replace hm := it hc hm
        refine v_iconst (x := (-1)) dm_dough_37 rfl ?_
        cases hm
        exact v_iret dm_dough_38 rfl
      · replace hm := ie hc hm
        refine v_ald_0 dm_dough_39 ?_
        refine v_getR dm_dough_40 fum_86 sh_104 rf_104_46 ?_
        refine v_ald_0 dm_dough_43 ?_
        refine v_getI dm_dough_44 fum_457 sh_104 rf_104_45 ?_
        refine v_ild_1 dm_dough_47 ?_
        obtain ⟨hi, hm⟩ := ck_s hm
        refine v_iastl dm_dough_48 sh_129 hi hm (fun h4 hm => ?_)
        refine v_ald_0 dm_dough_49 ?_
        refine v_ald_0 dm_dough_50 ?_
        refine v_getI dm_dough_51 fum_457 sh_104 rf_104_45 ?_
        refine v_iconst (x := 1) dm_dough_54 rfl ?_
        refine v_iadd dm_dough_55 ?_
        refine v_putIl dm_dough_56 fum_457 ft_12_45 sh_104 rf_104_45 hm (fun h5 hm => ?_)
        refine v_ald_0 dm_dough_59 ?_
        refine v_getI dm_dough_60 fum_457 sh_104 rf_104_45 ?_
        cases hm
        exact v_iret dm_dough_63 rfl
def mm_withDough (p1 : Int32) (p2 : Int32) (p3 : Int32) (h0 : PH) : Option (Int32) :=
  dz 100 <|
  lt (p1 / 100) fun x1 =>
  dz 100 <|
  lt (irm p1 100) fun x2 =>
  if x1 ≤ 0 then
    some ((100 * (x1 + 1)) + p2)
  else
    if p3 < (x2 + p2) then
      some ((100 * (x1 + 1)) + p2)
    else
      some (((100 * x1) + x2) + p2)
theorem ctm_withDough (G : GG) (d : Nat) (p1 : Int32) (p2 : Int32) (p3 : Int32) (h0 : PH) (r : Int32) (hm : mm_withDough p1 p2 p3 h0 = some r) : Kx G tm_withDough d [.ref (gB G + 104), .int p1, .int p2, .int p3] h0 (some (.int r)) h0 := by
  refine K_of_V (by decide) (by simp [cat_i, cat_r, fmtV_cat]) (by simp [tm_withDough]) ?_
  change Vx G tm_withDough d 0 [some (.ref (gB G + 104)), some (.int p1), some (.int p2), some (.int p3), none, none] [] h0 (some (.int r)) h0
  unfold mm_withDough at hm
  refine v_ild_1 dm_withDough_0 ?_
  refine v_bipush (x := 100) dm_withDough_1 rfl ?_
  obtain ⟨hz, hm⟩ := dz_s hm
  refine v_idiv dm_withDough_3 hz ?_
  refine v_top hm (fun x1 hm => ?_)
  refine v_ist_4 dm_withDough_4 (by decide) rfl ?_
  refine v_ild_1 dm_withDough_6 ?_
  refine v_bipush (x := 100) dm_withDough_7 rfl ?_
  obtain ⟨hz, hm⟩ := dz_s hm
  refine v_irem dm_withDough_9 hz ?_
  refine v_top hm (fun x2 hm => ?_)
  refine v_ist_5 dm_withDough_10 (by decide) rfl ?_
  refine v_ild_4 dm_withDough_12 ?_
  refine v_if_le dm_withDough_14 (fun hc => ?_) (fun hc => ?_)
  · replace hm := it hc hm
    refine v_bipush (x := 100) dm_withDough_38 rfl ?_
    refine v_ild_4 dm_withDough_40 ?_
    refine v_iconst (x := 1) dm_withDough_42 rfl ?_
    refine v_iadd dm_withDough_43 ?_
    refine v_imul dm_withDough_44 ?_
    refine v_ild_2 dm_withDough_45 ?_
    refine v_iadd dm_withDough_46 ?_
    cases hm
    exact v_iret dm_withDough_47 rfl
  · replace hm := ie hc hm
    refine v_ild_5 dm_withDough_17 ?_
    refine v_ild_2 dm_withDough_19 ?_
    refine v_iadd dm_withDough_20 ?_
    refine v_ild_3 dm_withDough_21 ?_
    refine v_cmp_gt dm_withDough_22 (fun hc => ?_) (fun hc => ?_)
    · replace hm := it hc hm
      refine v_bipush (x := 100) dm_withDough_38 rfl ?_
      refine v_ild_4 dm_withDough_40 ?_
      refine v_iconst (x := 1) dm_withDough_42 rfl ?_
      refine v_iadd dm_withDough_43 ?_
      refine v_imul dm_withDough_44 ?_
      refine v_ild_2 dm_withDough_45 ?_
      refine v_iadd dm_withDough_46 ?_
      cases hm
      exact v_iret dm_withDough_47 rfl
    · replace hm := ie hc hm
      refine v_bipush (x := 100) dm_withDough_25 rfl ?_
      refine v_ild_4 dm_withDough_27 ?_
      refine v_imul dm_withDough_29 ?_
      refine v_ild_5 dm_withDough_30 ?_
      refine v_iadd dm_withDough_32 ?_
      refine v_ild_2 dm_withDough_33 ?_
      refine v_iadd dm_withDough_34 ?_
      refine v_goto dm_withDough_35 ?_
      cases hm
      exact v_iret dm_withDough_47 rfl
def mm_fewestPans_L30 (p1 : Int32) (p2 : Int32) (k0 : PH → Option (Int32 × PH)) : Nat → Int32 → PH → Option (Int32 × PH)
  | 0, _, _ => none
  | n + 1, v3, hv =>
    if (hv 104 45) ≤ v3 then
      k0 hv
    else
      bd (mm_has p2 v3 hv) fun r3 =>
      if r3 = 0 then
        mm_fewestPans_L30 p1 p2 k0 n (v3 + 1) hv
      else
        ck p2 256 <|
        ck (p2 &&& ((1 <<< (v3 &&& 31)) ^^^ (-1))) 256 <|
        ck v3 8 <|
        bd (mm_withDough (hv 130 (ix (p2 &&& ((1 <<< (v3 &&& 31)) ^^^ (-1))))) (hv 129 (ix v3)) p1 hv) fun r4 =>
        bd (mm_lesser (hv 130 (ix p2)) r4 hv) fun r5 =>
        ck p2 256 <|
        lt (up hv 130 (ix p2) r5) fun h6 =>
        mm_fewestPans_L30 p1 p2 k0 n (v3 + 1) h6
def mm_fewestPans_L9 (p1 : Int32) (k0 : PH → Option (Int32 × PH)) : Nat → Int32 → PH → Option (Int32 × PH)
  | 0, _, _ => none
  | n + 1, v2, hv =>
    if (1 <<< ((hv 104 45) &&& 31)) ≤ v2 then
      k0 hv
    else
      ck v2 256 <|
      lt (up hv 130 (ix v2) 100000000) fun h2 =>
      mm_fewestPans_L30 p1 v2 (fun (h7 : PH) =>
        mm_fewestPans_L9 p1 k0 n (v2 + 1) h7) FU 0 h2
def mm_fewestPans (p1 : Int32) (h0 : PH) : Option (Int32 × PH) :=
  ck 0 256 <|
  lt (up h0 130 (ix 0) 0) fun h1 =>
  mm_fewestPans_L9 p1 (fun (h8 : PH) =>
    ck ((1 <<< ((h8 104 45) &&& 31)) - 1) 256 <|
    dz 100 <|
    some ((h8 130 (ix ((1 <<< ((h8 104 45) &&& 31)) - 1))) / 100, h8)) FU 1 h1
theorem wm_fewestPans_L30 (G : GG) (d : Nat) (p1 : Int32) (p2 : Int32) (k0 : PH → Option (Int32 × PH)) (r : Int32 × PH) (kk0 : ∀ (hy : PH), k0 hy = some r → Vx G tm_fewestPans (d + 1) 92 [some (.ref (gB G + 104)), some (.int p1), some (.int p2), none] [] hy (some (.int r.1)) r.2) : ∀ (n : Nat) (v3 : Int32) (hv : PH), mm_fewestPans_L30 p1 p2 k0 n v3 hv = some r → Vx G tm_fewestPans (d + 1) 30 [some (.ref (gB G + 104)), some (.int p1), some (.int p2), some (.int v3)] [] hv (some (.int r.1)) r.2 := by
  intro n
  induction n with
  | zero => intro v3 hv hm; cases hm
  | succ n ih =>
    intro v3 hv hm
    unfold mm_fewestPans_L30 at hm
    refine v_ild_3 dm_fewestPans_30 ?_
    refine v_ald_0 dm_fewestPans_31 ?_
    refine v_getI dm_fewestPans_32 fum_457 sh_104 rf_104_45 ?_
    refine v_cmp_ge dm_fewestPans_35 (fun hc => ?_) (fun hc => ?_)
    · replace hm := it hc hm
      exact v_kw (kk0 _ hm) (wk_s (wk_s (wk_s (wk_n wk_e))))
    · replace hm := ie hc hm
      refine v_ald_0 dm_fewestPans_38 ?_
      refine v_ild_2 dm_fewestPans_39 ?_
      refine v_ild_3 dm_fewestPans_40 ?_
      obtain ⟨r3, he, hm⟩ := bd_s hm
      refine v_cv2i (M' := tm_has) dm_fewestPans_41 mlm_360 okm_has sh_104 hc_12 (Nat.le_of_ble_eq_true rfl) (ctm_has G d _ _ _ _ he) ?_
      refine v_if_eq dm_fewestPans_44 (fun hc => ?_) (fun hc => ?_)
      · replace hm := it hc hm
        refine v_inc_3 1 dm_fewestPans_86 rfl (by decide) rfl ?_
        refine v_goto dm_fewestPans_89 ?_
        exact v_kw (ih _ _ hm) (wk_s (wk_s (wk_s (wk_s wk_e))))
      · replace hm := ie hc hm
        refine v_ald_0 dm_fewestPans_47 ?_
        refine v_getR dm_fewestPans_48 fum_89 sh_104 rf_104_47 ?_
        refine v_ild_2 dm_fewestPans_51 ?_
        refine v_ald_0 dm_fewestPans_52 ?_
        refine v_ald_0 dm_fewestPans_53 ?_
        refine v_getR dm_fewestPans_54 fum_89 sh_104 rf_104_47 ?_
        refine v_ild_2 dm_fewestPans_57 ?_
        obtain ⟨hi, hm⟩ := ck_s hm
        refine v_iald dm_fewestPans_58 sh_130 hi ?_
        refine v_ald_0 dm_fewestPans_59 ?_
        refine v_ald_0 dm_fewestPans_60 ?_
        refine v_getR dm_fewestPans_61 fum_89 sh_104 rf_104_47 ?_
        refine v_ild_2 dm_fewestPans_64 ?_
        refine v_iconst (x := 1) dm_fewestPans_65 rfl ?_
        refine v_ild_3 dm_fewestPans_66 ?_
        refine v_ishl dm_fewestPans_67 ?_
        refine v_iconst (x := (-1)) dm_fewestPans_68 rfl ?_
        refine v_ixor dm_fewestPans_69 ?_
        refine v_iand dm_fewestPans_70 ?_
        obtain ⟨hi, hm⟩ := ck_s hm
        refine v_iald dm_fewestPans_71 sh_130 hi ?_
        refine v_ald_0 dm_fewestPans_72 ?_
        refine v_getR dm_fewestPans_73 fum_86 sh_104 rf_104_46 ?_
        refine v_ild_3 dm_fewestPans_76 ?_
        obtain ⟨hi, hm⟩ := ck_s hm
        refine v_iald dm_fewestPans_77 sh_129 hi ?_
        refine v_ild_1 dm_fewestPans_78 ?_
        obtain ⟨r4, he, hm⟩ := bd_s hm
        refine v_cv3i (M' := tm_withDough) dm_fewestPans_79 mlm_460 okm_withDough sh_104 hc_12 (Nat.le_of_ble_eq_true rfl) (ctm_withDough G d _ _ _ _ _ he) ?_
        obtain ⟨r5, he, hm⟩ := bd_s hm
        refine v_cv2i (M' := tm_lesser) dm_fewestPans_82 mlm_400 okm_lesser sh_104 hc_12 (Nat.le_of_ble_eq_true rfl) (ctm_lesser G d _ _ _ _ he) ?_
        obtain ⟨hi, hm⟩ := ck_s hm
        refine v_iastl dm_fewestPans_85 sh_130 hi hm (fun h6 hm => ?_)
        refine v_inc_3 1 dm_fewestPans_86 rfl (by decide) rfl ?_
        refine v_goto dm_fewestPans_89 ?_
        exact v_kw (ih _ _ hm) (wk_s (wk_s (wk_s (wk_s wk_e))))
theorem wm_fewestPans_L9 (G : GG) (d : Nat) (p1 : Int32) (k0 : PH → Option (Int32 × PH)) (r : Int32 × PH) (kk0 : ∀ (hy : PH), k0 hy = some r → Vx G tm_fewestPans (d + 1) 98 [some (.ref (gB G + 104)), none, none, none] [] hy (some (.int r.1)) r.2) : ∀ (n : Nat) (v2 : Int32) (hv : PH), mm_fewestPans_L9 p1 k0 n v2 hv = some r → Vx G tm_fewestPans (d + 1) 9 [some (.ref (gB G + 104)), some (.int p1), some (.int v2), none] [] hv (some (.int r.1)) r.2 := by
  intro n
  induction n with
  | zero => intro v2 hv hm; cases hm
  | succ n ih =>
    intro v2 hv hm
    unfold mm_fewestPans_L9 at hm
    refine v_ild_2 dm_fewestPans_9 ?_
    refine v_iconst (x := 1) dm_fewestPans_10 rfl ?_
    refine v_ald_0 dm_fewestPans_11 ?_
    refine v_getI dm_fewestPans_12 fum_457 sh_104 rf_104_45 ?_
    refine v_ishl dm_fewestPans_15 ?_
    refine v_cmp_ge dm_fewestPans_16 (fun hc => ?_) (fun hc => ?_)
    · replace hm := it hc hm
      exact v_kw (kk0 _ hm) (wk_s (wk_n (wk_n (wk_n wk_e))))
    · replace hm := ie hc hm
      refine v_ald_0 dm_fewestPans_19 ?_
      refine v_getR dm_fewestPans_20 fum_89 sh_104 rf_104_47 ?_
      refine v_ild_2 dm_fewestPans_23 ?_
      refine v_ldcw (x := 100000000) dm_fewestPans_24 lcm_436 ?_
      obtain ⟨hi, hm⟩ := ck_s hm
      refine v_iastl dm_fewestPans_27 sh_130 hi hm (fun h2 hm => ?_)
      refine v_iconst (x := 0) dm_fewestPans_28 rfl ?_
      refine v_ist_3 dm_fewestPans_29 (by decide) rfl ?_
      refine v_kw (wm_fewestPans_L30 G d _ _ _ _ (fun h7 hm => ?_) FU _ _ hm) (wk_s (wk_s (wk_s (wk_s wk_e))))
      refine v_inc_2 1 dm_fewestPans_92 rfl (by decide) rfl ?_
      refine v_goto dm_fewestPans_95 ?_
      exact v_kw (ih _ _ hm) (wk_s (wk_s (wk_s (wk_n wk_e))))
theorem ctm_fewestPans (G : GG) (d : Nat) (p1 : Int32) (h0 : PH) (r : Int32 × PH) (hm : mm_fewestPans p1 h0 = some r) : Kx G tm_fewestPans (d + 1) [.ref (gB G + 104), .int p1] h0 (some (.int r.1)) r.2 := by
  refine K_of_V (by decide) (by simp [cat_i, cat_r, fmtV_cat]) (by simp [tm_fewestPans]) ?_
  change Vx G tm_fewestPans (d + 1) 0 [some (.ref (gB G + 104)), some (.int p1), none, none] [] h0 (some (.int r.1)) r.2
  unfold mm_fewestPans at hm
  refine v_ald_0 dm_fewestPans_0 ?_
  refine v_getR dm_fewestPans_1 fum_89 sh_104 rf_104_47 ?_
  refine v_iconst (x := 0) dm_fewestPans_4 rfl ?_
  refine v_iconst (x := 0) dm_fewestPans_5 rfl ?_
  obtain ⟨hi, hm⟩ := ck_s hm
  refine v_iastl dm_fewestPans_6 sh_130 hi hm (fun h1 hm => ?_)
  refine v_iconst (x := 1) dm_fewestPans_7 rfl ?_
  refine v_ist_2 dm_fewestPans_8 (by decide) rfl ?_
  refine v_kw (wm_fewestPans_L9 G d _ _ _ (fun h8 hm => ?_) FU _ _ hm) (wk_s (wk_s (wk_s (wk_n wk_e))))
  refine v_ald_0 dm_fewestPans_98 ?_
  refine v_getR dm_fewestPans_99 fum_89 sh_104 rf_104_47 ?_
  refine v_iconst (x := 1) dm_fewestPans_102 rfl ?_
  refine v_ald_0 dm_fewestPans_103 ?_
  refine v_getI dm_fewestPans_104 fum_457 sh_104 rf_104_45 ?_
  refine v_ishl dm_fewestPans_107 ?_
  refine v_iconst (x := 1) dm_fewestPans_108 rfl ?_
  refine v_isub dm_fewestPans_109 ?_
  obtain ⟨hi, hm⟩ := ck_s hm
  refine v_iald dm_fewestPans_110 sh_130 hi ?_
  refine v_bipush (x := 100) dm_fewestPans_111 rfl ?_
  obtain ⟨hz, hm⟩ := dz_s hm
  refine v_idiv dm_fewestPans_113 hz ?_
  cases hm
  exact v_iret dm_fewestPans_114 rfl
def mm_firstPans_L15 (p1 : Int32) (p2 : Int32) (p3 : Int32) (h0 : PH) (k0 : Int32 → Option (Int32 × PH)) : Nat → Int32 → Option (Int32 × PH)
  | 0, _ => none
  | n + 1, v4 =>
    if p2 ≤ v4 then
      k0 v4
    else
      ck v4 8 <|
      ck p3 8 <|
      if (h0 129 (ix p3)) ≤ (h0 131 (ix v4)) then
        k0 v4
      else
        lt (v4 + 1) fun x1 =>
        mm_firstPans_L15 p1 p2 p3 h0 k0 n x1
def mm_firstPans_L4 (p1 : Int32) : Nat → Int32 → Int32 → PH → Option (Int32 × PH)
  | 0, _, _, _ => none
  | n + 1, v2, v3, hv =>
    if (hv 104 45) ≤ v3 then
      some (v2, hv)
    else
      mm_firstPans_L15 p1 v2 v3 hv (fun (x2 : Int32) =>
        jn2 (fun (x4 : Int32) (h5 : PH) =>
          ck x2 8 <|
          ck v3 8 <|
          ck x2 8 <|
          lt (up h5 131 (ix x2) ((h5 131 (ix x2)) - (h5 129 (ix v3)))) fun h6 =>
          mm_firstPans_L4 p1 n x4 (v3 + 1) h6) fun j3 =>
        if x2 = v2 then
          ck x2 8 <|
          lt (up hv 131 (ix x2) p1) fun h7 =>
          lt (v2 + 1) fun x8 =>
          j3 x8 h7
        else
          j3 v2 hv) FU 0
def mm_firstPans (p1 : Int32) (h0 : PH) : Option (Int32 × PH) :=
  mm_firstPans_L4 p1 FU 0 0 h0
theorem wm_firstPans_L15 (G : GG) (d : Nat) (p1 : Int32) (p2 : Int32) (p3 : Int32) (h0 : PH) (k0 : Int32 → Option (Int32 × PH)) (r : Int32 × PH) (kk0 : ∀ (y4 : Int32), k0 y4 = some r → Vx G tm_firstPans d 46 [some (.ref (gB G + 104)), some (.int p1), some (.int p2), some (.int p3), some (.int y4)] [] h0 (some (.int r.1)) r.2) : ∀ (n : Nat) (v4 : Int32), mm_firstPans_L15 p1 p2 p3 h0 k0 n v4 = some r → Vx G tm_firstPans d 15 [some (.ref (gB G + 104)), some (.int p1), some (.int p2), some (.int p3), some (.int v4)] [] h0 (some (.int r.1)) r.2 := by
  intro n
  induction n with
  | zero => intro v4 hm; cases hm
  | succ n ih =>
    intro v4 hm
    unfold mm_firstPans_L15 at hm
    refine v_ild_4 dm_firstPans_15 ?_
    refine v_ild_2 dm_firstPans_17 ?_
    refine v_cmp_ge dm_firstPans_18 (fun hc => ?_) (fun hc => ?_)
    · replace hm := it hc hm
      exact v_kw (kk0 _ hm) (wk_s (wk_s (wk_s (wk_s (wk_s wk_e)))))
    · replace hm := ie hc hm
      refine v_ald_0 dm_firstPans_21 ?_
      refine v_getR dm_firstPans_22 fum_92 sh_104 rf_104_48 ?_
      refine v_ild_4 dm_firstPans_25 ?_
      obtain ⟨hi, hm⟩ := ck_s hm
      refine v_iald dm_firstPans_27 sh_131 hi ?_
      refine v_ald_0 dm_firstPans_28 ?_
      refine v_getR dm_firstPans_29 fum_86 sh_104 rf_104_46 ?_
      refine v_ild_3 dm_firstPans_32 ?_
      obtain ⟨hi, hm⟩ := ck_s hm
      refine v_iald dm_firstPans_33 sh_129 hi ?_
      refine v_cmp_ge dm_firstPans_34 (fun hc => ?_) (fun hc => ?_)
      · replace hm := it hc hm
        exact v_kw (kk0 _ hm) (wk_s (wk_s (wk_s (wk_s (wk_s wk_e)))))
      · replace hm := ie hc hm
        refine v_ild_4 dm_firstPans_37 ?_
        refine v_iconst (x := 1) dm_firstPans_39 rfl ?_
        refine v_iadd dm_firstPans_40 ?_
        refine v_top hm (fun x1 hm => ?_)
        refine v_ist_4 dm_firstPans_41 (by decide) rfl ?_
        refine v_goto dm_firstPans_43 ?_
        exact v_kw (ih _ hm) (wk_s (wk_s (wk_s (wk_s (wk_s wk_e)))))
theorem wm_firstPans_L4 (G : GG) (d : Nat) (p1 : Int32) (r : Int32 × PH) : ∀ (n : Nat) (v2 : Int32) (v3 : Int32) (hv : PH), mm_firstPans_L4 p1 n v2 v3 hv = some r → Vx G tm_firstPans d 4 [some (.ref (gB G + 104)), some (.int p1), some (.int v2), some (.int v3), none] [] hv (some (.int r.1)) r.2 := by
  intro n
  induction n with
  | zero => intro v2 v3 hv hm; cases hm
  | succ n ih =>
    intro v2 v3 hv hm
    unfold mm_firstPans_L4 at hm
    refine v_ild_3 dm_firstPans_4 ?_
    refine v_ald_0 dm_firstPans_5 ?_
    refine v_getI dm_firstPans_6 fum_457 sh_104 rf_104_45 ?_
    refine v_cmp_ge dm_firstPans_9 (fun hc => ?_) (fun hc => ?_)
    · replace hm := it hc hm
      refine v_ild_2 dm_firstPans_91 ?_
      cases hm
      exact v_iret dm_firstPans_92 rfl
    · replace hm := ie hc hm
      refine v_iconst (x := 0) dm_firstPans_12 rfl ?_
      refine v_ist_4 dm_firstPans_13 (by decide) rfl ?_
      refine v_kw (wm_firstPans_L15 G d _ _ _ _ _ _ (fun x2 hm => ?_) FU _ hm) (wk_s (wk_s (wk_s (wk_s (wk_s wk_e)))))
      refine v_ild_4 dm_firstPans_46 ?_
      refine v_ild_2 dm_firstPans_48 ?_
      refine v_j2 (fun (x4 : Int32) (h5 : PH) => Vx G tm_firstPans d 64 [some (.ref (gB G + 104)), some (.int p1), some (.int x4), some (.int v3), some (.int x2)] [] h5 (some (.int r.1)) r.2) hm (fun x4 h5 hm => ?_) (fun j3 kj3 hm => ?_)
      · refine v_ald_0 dm_firstPans_64 ?_
        refine v_getR dm_firstPans_65 fum_92 sh_104 rf_104_48 ?_
        refine v_ild_4 dm_firstPans_68 ?_
        refine v_ald_0 dm_firstPans_70 ?_
        refine v_getR dm_firstPans_71 fum_92 sh_104 rf_104_48 ?_
        refine v_ild_4 dm_firstPans_74 ?_
        obtain ⟨hi, hm⟩ := ck_s hm
        refine v_iald dm_firstPans_76 sh_131 hi ?_
        refine v_ald_0 dm_firstPans_77 ?_
        refine v_getR dm_firstPans_78 fum_86 sh_104 rf_104_46 ?_
        refine v_ild_3 dm_firstPans_81 ?_
        obtain ⟨hi, hm⟩ := ck_s hm
        refine v_iald dm_firstPans_82 sh_129 hi ?_
        refine v_isub dm_firstPans_83 ?_
        obtain ⟨hi, hm⟩ := ck_s hm
        refine v_iastl dm_firstPans_84 sh_131 hi hm (fun h6 hm => ?_)
        refine v_inc_3 1 dm_firstPans_85 rfl (by decide) rfl ?_
        refine v_goto dm_firstPans_88 ?_
        exact v_kw (ih _ _ _ hm) (wk_s (wk_s (wk_s (wk_s (wk_n wk_e)))))
      · refine v_cmp_ne dm_firstPans_49 (fun hc => ?_) (fun hc => ?_)
        · replace hm := it hc hm
          refine v_ald_0 dm_firstPans_52 ?_
          refine v_getR dm_firstPans_53 fum_92 sh_104 rf_104_48 ?_
          refine v_ild_4 dm_firstPans_56 ?_
          refine v_ild_1 dm_firstPans_58 ?_
          obtain ⟨hi, hm⟩ := ck_s hm
          refine v_iastl dm_firstPans_59 sh_131 hi hm (fun h7 hm => ?_)
          refine v_ild_2 dm_firstPans_60 ?_
          refine v_iconst (x := 1) dm_firstPans_61 rfl ?_
          refine v_iadd dm_firstPans_62 ?_
          refine v_top hm (fun x8 hm => ?_)
          refine v_ist_2 dm_firstPans_63 (by decide) rfl ?_
          exact v_kw (kj3 _ _ hm) (wk_s (wk_s (wk_s (wk_s (wk_s wk_e)))))
        · replace hm := ie hc hm
          exact v_kw (kj3 _ _ hm) (wk_s (wk_s (wk_s (wk_s (wk_s wk_e)))))
theorem ctm_firstPans (G : GG) (d : Nat) (p1 : Int32) (h0 : PH) (r : Int32 × PH) (hm : mm_firstPans p1 h0 = some r) : Kx G tm_firstPans d [.ref (gB G + 104), .int p1] h0 (some (.int r.1)) r.2 := by
  refine K_of_V (by decide) (by simp [cat_i, cat_r, fmtV_cat]) (by simp [tm_firstPans]) ?_
  change Vx G tm_firstPans d 0 [some (.ref (gB G + 104)), some (.int p1), none, none, none] [] h0 (some (.int r.1)) r.2
  unfold mm_firstPans at hm
  refine v_iconst (x := 0) dm_firstPans_0 rfl ?_
  refine v_ist_2 dm_firstPans_1 (by decide) rfl ?_
  refine v_iconst (x := 0) dm_firstPans_2 rfl ?_
  refine v_ist_3 dm_firstPans_3 (by decide) rfl ?_
  exact v_kw (wm_firstPans_L4 G d _ _ FU _ _ _ hm) (wk_s (wk_s (wk_s (wk_s (wk_n wk_e)))))
def mm_pans_L30 (p1 : Int32) (p2 : Int32) (h0 : PH) (k0 : Option (Int32 × PH)) : Nat → Int32 → Option (Int32 × PH)
  | 0, _ => none
  | n + 1, v3 =>
    if (h0 104 45) ≤ v3 then
      k0
    else
      ck v3 8 <|
      if (h0 129 (ix v3)) ≤ p1 then
        mm_pans_L30 p1 p2 h0 k0 n (v3 + 1)
      else
        some ((-1), h0)
def mm_pans (p1 : Int32) (p2 : Int32) (h0 : PH) : Option (Int32 × PH) :=
  lt (up h0 104 0 0) fun h1 =>
  bd (mm_isIn p1 1 60 h1) fun r2 =>
  if r2 = 0 then
    some ((-1), h1)
  else
    bd (mm_isIn p2 0 1 h1) fun r3 =>
    if r3 = 0 then
      some ((-1), h1)
    else
      mm_pans_L30 p1 p2 h1 (if p2 = 0 then
          bd2 (mm_fewestPans p1 h1) fun r4 h5 =>
          some (r4, h5)
        else
          bd2 (mm_firstPans p1 h1) fun r6 h7 =>
          some (r6, h7)) FU 0
theorem wm_pans_L30 (G : GG) (d : Nat) (p1 : Int32) (p2 : Int32) (h0 : PH) (k0 : Option (Int32 × PH)) (r : Int32 × PH) (kk0 : k0 = some r → Vx G tm_pans (d + 2) 56 [some (.ref (gB G + 104)), some (.int p1), some (.int p2), none] [] h0 (some (.int r.1)) r.2) : ∀ (n : Nat) (v3 : Int32), mm_pans_L30 p1 p2 h0 k0 n v3 = some r → Vx G tm_pans (d + 2) 30 [some (.ref (gB G + 104)), some (.int p1), some (.int p2), some (.int v3)] [] h0 (some (.int r.1)) r.2 := by
  intro n
  induction n with
  | zero => intro v3 hm; cases hm
  | succ n ih =>
    intro v3 hm
    unfold mm_pans_L30 at hm
    refine v_ild_3 dm_pans_30 ?_
    refine v_ald_0 dm_pans_31 ?_
    refine v_getI dm_pans_32 fum_457 sh_104 rf_104_45 ?_
    refine v_cmp_ge dm_pans_35 (fun hc => ?_) (fun hc => ?_)
    · replace hm := it hc hm
      exact v_kw (kk0 hm) (wk_s (wk_s (wk_s (wk_n wk_e))))
    · replace hm := ie hc hm
      refine v_ald_0 dm_pans_38 ?_
      refine v_getR dm_pans_39 fum_86 sh_104 rf_104_46 ?_
      refine v_ild_3 dm_pans_42 ?_
      obtain ⟨hi, hm⟩ := ck_s hm
      refine v_iald dm_pans_43 sh_129 hi ?_
      refine v_ild_1 dm_pans_44 ?_
      refine v_cmp_le dm_pans_45 (fun hc => ?_) (fun hc => ?_)
      · replace hm := it hc hm
        refine v_inc_3 1 dm_pans_50 rfl (by decide) rfl ?_
        refine v_goto dm_pans_53 ?_
        exact v_kw (ih _ hm) (wk_s (wk_s (wk_s (wk_s wk_e))))
      · replace hm := ie hc hm
        refine v_iconst (x := (-1)) dm_pans_48 rfl ?_
        cases hm
        exact v_iret dm_pans_49 rfl
theorem ctm_pans (G : GG) (d : Nat) (p1 : Int32) (p2 : Int32) (h0 : PH) (r : Int32 × PH) (hm : mm_pans p1 p2 h0 = some r) : Kx G tm_pans (d + 2) [.ref (gB G + 104), .int p1, .int p2] h0 (some (.int r.1)) r.2 := by
  refine K_of_V (by decide) (by simp [cat_i, cat_r, fmtV_cat]) (by simp [tm_pans]) ?_
  change Vx G tm_pans (d + 2) 0 [some (.ref (gB G + 104)), some (.int p1), some (.int p2), none] [] h0 (some (.int r.1)) r.2
  unfold mm_pans at hm
  refine v_ald_0 dm_pans_0 ?_
  refine v_iconst (x := 0) dm_pans_1 rfl ?_
  refine v_putIl dm_pans_2 fum_146 ft_12_0 sh_104 rf_104_0 hm (fun h1 hm => ?_)
  refine v_ald_0 dm_pans_5 ?_
  refine v_ild_1 dm_pans_6 ?_
  refine v_iconst (x := 1) dm_pans_7 rfl ?_
  refine v_bipush (x := 60) dm_pans_8 rfl ?_
  obtain ⟨r2, he, hm⟩ := bd_s hm
  refine v_cv3i (M' := tm_isIn) dm_pans_10 mlm_177 okm_isIn sh_104 hc_12 (Nat.le_of_ble_eq_true rfl) (ctm_isIn G (d + 1) _ _ _ _ _ he) ?_
  refine v_if_eq dm_pans_13 (fun hc => ?_) (fun hc => ?_)
  · replace hm := it hc hm
    refine v_iconst (x := (-1)) dm_pans_26 rfl ?_
    cases hm
    exact v_iret dm_pans_27 rfl
  · replace hm := ie hc hm
    refine v_ald_0 dm_pans_16 ?_
    refine v_ild_2 dm_pans_17 ?_
    refine v_iconst (x := 0) dm_pans_18 rfl ?_
    refine v_iconst (x := 1) dm_pans_19 rfl ?_
    obtain ⟨r3, he, hm⟩ := bd_s hm
    refine v_cv3i (M' := tm_isIn) dm_pans_20 mlm_177 okm_isIn sh_104 hc_12 (Nat.le_of_ble_eq_true rfl) (ctm_isIn G (d + 1) _ _ _ _ _ he) ?_
    refine v_if_ne dm_pans_23 (fun hc => ?_) (fun hc => ?_)
    · replace hm := it hc hm
      refine v_iconst (x := (-1)) dm_pans_26 rfl ?_
      cases hm
      exact v_iret dm_pans_27 rfl
    · replace hm := ie hc hm
      refine v_iconst (x := 0) dm_pans_28 rfl ?_
      refine v_ist_3 dm_pans_29 (by decide) rfl ?_
      refine v_kw (wm_pans_L30 G d _ _ _ _ _ (fun hm => ?_) FU _ hm) (wk_s (wk_s (wk_s (wk_s wk_e))))
      refine v_ild_2 dm_pans_56 ?_
      refine v_if_ne dm_pans_57 (fun hc => ?_) (fun hc => ?_)
      · replace hm := it hc hm
        refine v_ald_0 dm_pans_60 ?_
        refine v_ild_1 dm_pans_61 ?_
        obtain ⟨r4, h5, he, hm⟩ := bd2_s hm
        refine v_cv1i (M' := tm_fewestPans) dm_pans_62 mlm_463 okm_fewestPans sh_104 hc_12 (Nat.le_of_ble_eq_true rfl) (ctm_fewestPans G d _ _ _ he) ?_
        refine v_goto dm_pans_65 ?_
        cases hm
        exact v_iret dm_pans_73 rfl
      · replace hm := ie hc hm
        refine v_ald_0 dm_pans_68 ?_
        refine v_ild_1 dm_pans_69 ?_
        obtain ⟨r6, h7, he, hm⟩ := bd2_s hm
        refine v_cv1i (M' := tm_firstPans) dm_pans_70 mlm_466 okm_firstPans sh_104 hc_12 (Nat.le_of_ble_eq_true rfl) (ctm_firstPans G (d + 1) _ _ _ he) ?_
        cases hm
        exact v_iret dm_pans_73 rfl
def mm_mortgage_L62 (p2 : Int32) (p3 : Int32) (p4 : Int32) (h0 : PH) (k0 : Int32 → Int32 → Option (Int32 × PH)) : Nat → Int32 → Int32 → Int32 → Option (Int32 × PH)
  | 0, _, _, _ => none
  | n + 1, v5, v6, v7 =>
    if 400 < v7 then
      some ((-1), h0)
    else
      dz 100 <|
      lt (v5 + (((v5 * p2) + 99) / 100)) fun x6 =>
      bd (mm_lesser x6 p3 h0) fun r7 =>
      lt (v6 + r7) fun x8 =>
      if x6 = r7 then
        k0 x8 v7
      else
        if (x6 - r7) < v5 then
          lt (x6 - r7) fun x9 =>
          mm_mortgage_L62 p2 p3 p4 h0 k0 n x9 x8 (v7 + 1)
        else
          some ((-1), h0)
def mm_mortgage (p1 : Int32) (p2 : Int32) (p3 : Int32) (p4 : Int32) (h0 : PH) : Option (Int32 × PH) :=
  lt (up h0 104 0 0) fun h1 =>
  bd (mm_isIn p1 1 9999 h1) fun r2 =>
  if r2 = 0 then
    some ((-1), h1)
  else
    bd (mm_isIn p2 0 50 h1) fun r3 =>
    if r3 = 0 then
      some ((-1), h1)
    else
      bd (mm_isIn p3 1 999 h1) fun r4 =>
      if r4 = 0 then
        some ((-1), h1)
      else
        bd (mm_isIn p4 0 1 h1) fun r5 =>
        if r5 = 0 then
          some ((-1), h1)
        else
          mm_mortgage_L62 p2 p3 p4 h1 (fun (x10 : Int32) (x11 : Int32) =>
            if p4 = 0 then
              some (x11, h1)
            else
              some (x10, h1)) FU p1 0 1
theorem wm_mortgage_L62 (G : GG) (d : Nat) (p2 : Int32) (p3 : Int32) (p4 : Int32) (h0 : PH) (k0 : Int32 → Int32 → Option (Int32 × PH)) (r : Int32 × PH) (kk0 : ∀ (y6 : Int32) (y7 : Int32), k0 y6 y7 = some r → Vx G tm_mortgage (d + 1) 108 [none, none, none, none, some (.int p4), none, some (.int y6), some (.int y7), none, none] [] h0 (some (.int r.1)) r.2) : ∀ (n : Nat) (v5 : Int32) (v6 : Int32) (v7 : Int32), mm_mortgage_L62 p2 p3 p4 h0 k0 n v5 v6 v7 = some r → Vx G tm_mortgage (d + 1) 62 [some (.ref (gB G + 104)), none, some (.int p2), some (.int p3), some (.int p4), some (.int v5), some (.int v6), some (.int v7), none, none] [] h0 (some (.int r.1)) r.2 := by
  intro n
  induction n with
  | zero => intro v5 v6 v7 hm; cases hm
  | succ n ih =>
    intro v5 v6 v7 hm
    unfold mm_mortgage_L62 at hm
    refine v_ild_7 dm_mortgage_62 ?_
    refine v_sipush (x := 400) dm_mortgage_64 rfl ?_
    refine v_cmp_gt dm_mortgage_67 (fun hc => ?_) (fun hc => ?_)
    · replace hm := it hc hm
      refine v_iconst (x := (-1)) dm_mortgage_146 rfl ?_
      cases hm
      exact v_iret dm_mortgage_147 rfl
    · replace hm := ie hc hm
      refine v_ild_5 dm_mortgage_70 ?_
      refine v_ild_5 dm_mortgage_72 ?_
      refine v_ild_2 dm_mortgage_74 ?_
      refine v_imul dm_mortgage_75 ?_
      refine v_bipush (x := 99) dm_mortgage_76 rfl ?_
      refine v_iadd dm_mortgage_78 ?_
      refine v_bipush (x := 100) dm_mortgage_79 rfl ?_
      obtain ⟨hz, hm⟩ := dz_s hm
      refine v_idiv dm_mortgage_81 hz ?_
      refine v_iadd dm_mortgage_82 ?_
      refine v_top hm (fun x6 hm => ?_)
      refine v_ist_8 dm_mortgage_83 (by decide) rfl ?_
      refine v_ald_0 dm_mortgage_85 ?_
      refine v_ild_8 dm_mortgage_86 ?_
      refine v_ild_3 dm_mortgage_88 ?_
      obtain ⟨r7, he, hm⟩ := bd_s hm
      refine v_cv2i (M' := tm_lesser) dm_mortgage_89 mlm_400 okm_lesser sh_104 hc_12 (Nat.le_of_ble_eq_true rfl) (ctm_lesser G d _ _ _ _ he) ?_
      refine v_ist_9 dm_mortgage_92 (by decide) rfl ?_
      refine v_ild_6 dm_mortgage_94 ?_
      refine v_ild_9 dm_mortgage_96 ?_
      refine v_iadd dm_mortgage_98 ?_
      refine v_top hm (fun x8 hm => ?_)
      refine v_ist_6 dm_mortgage_99 (by decide) rfl ?_
      refine v_ild_8 dm_mortgage_101 ?_
      refine v_ild_9 dm_mortgage_103 ?_
      refine v_cmp_ne dm_mortgage_105 (fun hc => ?_) (fun hc => ?_)
      · replace hm := it hc hm
        exact v_kw (kk0 _ _ hm) (wk_n (wk_n (wk_n (wk_n (wk_s (wk_n (wk_s (wk_s (wk_n (wk_n wk_e))))))))))
      · replace hm := ie hc hm
        refine v_ild_8 dm_mortgage_121 ?_
        refine v_ild_9 dm_mortgage_123 ?_
        refine v_isub dm_mortgage_125 ?_
        refine v_ild_5 dm_mortgage_126 ?_
        refine v_cmp_lt dm_mortgage_128 (fun hc => ?_) (fun hc => ?_)
        · replace hm := it hc hm
          refine v_ild_8 dm_mortgage_133 ?_
          refine v_ild_9 dm_mortgage_135 ?_
          refine v_isub dm_mortgage_137 ?_
          refine v_top hm (fun x9 hm => ?_)
          refine v_ist_5 dm_mortgage_138 (by decide) rfl ?_
          refine v_inc_7 1 dm_mortgage_140 rfl (by decide) rfl ?_
          refine v_goto dm_mortgage_143 ?_
          exact v_kw (ih _ _ _ hm) (wk_s (wk_n (wk_s (wk_s (wk_s (wk_s (wk_s (wk_s (wk_n (wk_n wk_e))))))))))
        · replace hm := ie hc hm
          refine v_iconst (x := (-1)) dm_mortgage_131 rfl ?_
          cases hm
          exact v_iret dm_mortgage_132 rfl
theorem ctm_mortgage (G : GG) (d : Nat) (p1 : Int32) (p2 : Int32) (p3 : Int32) (p4 : Int32) (h0 : PH) (r : Int32 × PH) (hm : mm_mortgage p1 p2 p3 p4 h0 = some r) : Kx G tm_mortgage (d + 1) [.ref (gB G + 104), .int p1, .int p2, .int p3, .int p4] h0 (some (.int r.1)) r.2 := by
  refine K_of_V (by decide) (by simp [cat_i, cat_r, fmtV_cat]) (by simp [tm_mortgage]) ?_
  change Vx G tm_mortgage (d + 1) 0 [some (.ref (gB G + 104)), some (.int p1), some (.int p2), some (.int p3), some (.int p4), none, none, none, none, none] [] h0 (some (.int r.1)) r.2
  unfold mm_mortgage at hm
  refine v_ald_0 dm_mortgage_0 ?_
  refine v_iconst (x := 0) dm_mortgage_1 rfl ?_
  refine v_putIl dm_mortgage_2 fum_146 ft_12_0 sh_104 rf_104_0 hm (fun h1 hm => ?_)
  refine v_ald_0 dm_mortgage_5 ?_
  refine v_ild_1 dm_mortgage_6 ?_
  refine v_iconst (x := 1) dm_mortgage_7 rfl ?_
  refine v_sipush (x := 9999) dm_mortgage_8 rfl ?_
  obtain ⟨r2, he, hm⟩ := bd_s hm
  refine v_cv3i (M' := tm_isIn) dm_mortgage_11 mlm_177 okm_isIn sh_104 hc_12 (Nat.le_of_ble_eq_true rfl) (ctm_isIn G d _ _ _ _ _ he) ?_
  refine v_if_eq dm_mortgage_14 (fun hc => ?_) (fun hc => ?_)
  · replace hm := it hc hm
    refine v_iconst (x := (-1)) dm_mortgage_51 rfl ?_
    cases hm
    exact v_iret dm_mortgage_52 rfl
  · replace hm := ie hc hm
    refine v_ald_0 dm_mortgage_17 ?_
    refine v_ild_2 dm_mortgage_18 ?_
    refine v_iconst (x := 0) dm_mortgage_19 rfl ?_
    refine v_bipush (x := 50) dm_mortgage_20 rfl ?_
    obtain ⟨r3, he, hm⟩ := bd_s hm
    refine v_cv3i (M' := tm_isIn) dm_mortgage_22 mlm_177 okm_isIn sh_104 hc_12 (Nat.le_of_ble_eq_true rfl) (ctm_isIn G d _ _ _ _ _ he) ?_
    refine v_if_eq dm_mortgage_25 (fun hc => ?_) (fun hc => ?_)
    · replace hm := it hc hm
      refine v_iconst (x := (-1)) dm_mortgage_51 rfl ?_
      cases hm
      exact v_iret dm_mortgage_52 rfl
    · replace hm := ie hc hm
      refine v_ald_0 dm_mortgage_28 ?_
      refine v_ild_3 dm_mortgage_29 ?_
      refine v_iconst (x := 1) dm_mortgage_30 rfl ?_
      refine v_sipush (x := 999) dm_mortgage_31 rfl ?_
      obtain ⟨r4, he, hm⟩ := bd_s hm
      refine v_cv3i (M' := tm_isIn) dm_mortgage_34 mlm_177 okm_isIn sh_104 hc_12 (Nat.le_of_ble_eq_true rfl) (ctm_isIn G d _ _ _ _ _ he) ?_
      refine v_if_eq dm_mortgage_37 (fun hc => ?_) (fun hc => ?_)
      · replace hm := it hc hm
        refine v_iconst (x := (-1)) dm_mortgage_51 rfl ?_
        cases hm
        exact v_iret dm_mortgage_52 rfl
      · replace hm := ie hc hm
        refine v_ald_0 dm_mortgage_40 ?_
        refine v_ild_4 dm_mortgage_41 ?_
        refine v_iconst (x := 0) dm_mortgage_43 rfl ?_
        refine v_iconst (x := 1) dm_mortgage_44 rfl ?_
        obtain ⟨r5, he, hm⟩ := bd_s hm
        refine v_cv3i (M' := tm_isIn) dm_mortgage_45 mlm_177 okm_isIn sh_104 hc_12 (Nat.le_of_ble_eq_true rfl) (ctm_isIn G d _ _ _ _ _ he) ?_
        refine v_if_ne dm_mortgage_48 (fun hc => ?_) (fun hc => ?_)
        · replace hm := it hc hm
          refine v_iconst (x := (-1)) dm_mortgage_51 rfl ?_
          cases hm
          exact v_iret dm_mortgage_52 rfl
        · replace hm := ie hc hm
          refine v_ild_1 dm_mortgage_53 ?_
          refine v_ist_5 dm_mortgage_54 (by decide) rfl ?_
          refine v_iconst (x := 0) dm_mortgage_56 rfl ?_
          refine v_ist_6 dm_mortgage_57 (by decide) rfl ?_
          refine v_iconst (x := 1) dm_mortgage_59 rfl ?_
          refine v_ist_7 dm_mortgage_60 (by decide) rfl ?_
          refine v_kw (wm_mortgage_L62 G d _ _ _ _ _ _ (fun x10 x11 hm => ?_) FU _ _ _ hm) (wk_s (wk_n (wk_s (wk_s (wk_s (wk_s (wk_s (wk_s (wk_n (wk_n wk_e))))))))))
          refine v_ild_4 dm_mortgage_108 ?_
          refine v_if_ne dm_mortgage_110 (fun hc => ?_) (fun hc => ?_)
          · replace hm := it hc hm
            refine v_ild_7 dm_mortgage_113 ?_
            refine v_goto dm_mortgage_115 ?_
            cases hm
            exact v_iret dm_mortgage_120 rfl
          · replace hm := ie hc hm
            refine v_ild_6 dm_mortgage_118 ?_
            cases hm
            exact v_iret dm_mortgage_120 rfl
def mm_mark (p1 : Int32) (h0 : PH) : Option (Int32 × PH) :=
  lt (up h0 104 0 0) fun h1 =>
  if p1 = (-1) then
    lt (up h1 104 49 0) fun h2 =>
    some (0, h2)
  else
    bd (mm_isIn p1 1 60 h1) fun r3 =>
    if r3 = 0 then
      some ((-1), h1)
    else
      if (h1 104 49) = 5 then
        some ((-1), h1)
      else
        ck (h1 104 49) 5 <|
        lt (up h1 132 (ix (h1 104 49)) p1) fun h4 =>
        lt (up h4 104 49 ((h4 104 49) + 1)) fun h5 =>
        some (h5 104 49, h5)
theorem ctm_mark (G : GG) (d : Nat) (p1 : Int32) (h0 : PH) (r : Int32 × PH) (hm : mm_mark p1 h0 = some r) : Kx G tm_mark (d + 1) [.ref (gB G + 104), .int p1] h0 (some (.int r.1)) r.2 := by
  refine K_of_V (by decide) (by simp [cat_i, cat_r, fmtV_cat]) (by simp [tm_mark]) ?_
  change Vx G tm_mark (d + 1) 0 [some (.ref (gB G + 104)), some (.int p1)] [] h0 (some (.int r.1)) r.2
  unfold mm_mark at hm
  refine v_ald_0 dm_mark_0 ?_
  refine v_iconst (x := 0) dm_mark_1 rfl ?_
  refine v_putIl dm_mark_2 fum_146 ft_12_0 sh_104 rf_104_0 hm (fun h1 hm => ?_)
  refine v_ild_1 dm_mark_5 ?_
  refine v_iconst (x := (-1)) dm_mark_6 rfl ?_
  refine v_cmp_ne dm_mark_7 (fun hc => ?_) (fun hc => ?_)
  · replace hm := it hc hm
    refine v_ald_0 dm_mark_10 ?_
    refine v_iconst (x := 0) dm_mark_11 rfl ?_
    refine v_putIl dm_mark_12 fum_469 ft_12_49 sh_104 rf_104_49 hm (fun h2 hm => ?_)
    refine v_iconst (x := 0) dm_mark_15 rfl ?_
    cases hm
    exact v_iret dm_mark_16 rfl
  · replace hm := ie hc hm
    refine v_ald_0 dm_mark_17 ?_
    refine v_ild_1 dm_mark_18 ?_
    refine v_iconst (x := 1) dm_mark_19 rfl ?_
    refine v_bipush (x := 60) dm_mark_20 rfl ?_
    obtain ⟨r3, he, hm⟩ := bd_s hm
    refine v_cv3i (M' := tm_isIn) dm_mark_22 mlm_177 okm_isIn sh_104 hc_12 (Nat.le_of_ble_eq_true rfl) (ctm_isIn G d _ _ _ _ _ he) ?_
    refine v_if_eq dm_mark_25 (fun hc => ?_) (fun hc => ?_)
    · replace hm := it hc hm
      refine v_iconst (x := (-1)) dm_mark_36 rfl ?_
      cases hm
      exact v_iret dm_mark_37 rfl
    · replace hm := ie hc hm
      refine v_ald_0 dm_mark_28 ?_
      refine v_getI dm_mark_29 fum_469 sh_104 rf_104_49 ?_
      refine v_iconst (x := 5) dm_mark_32 rfl ?_
      refine v_cmp_ne dm_mark_33 (fun hc => ?_) (fun hc => ?_)
      · replace hm := it hc hm
        refine v_iconst (x := (-1)) dm_mark_36 rfl ?_
        cases hm
        exact v_iret dm_mark_37 rfl
      · replace hm := ie hc hm
        refine v_ald_0 dm_mark_38 ?_
        refine v_getR dm_mark_39 fum_95 sh_104 rf_104_50 ?_
        refine v_ald_0 dm_mark_42 ?_
        refine v_getI dm_mark_43 fum_469 sh_104 rf_104_49 ?_
        refine v_ild_1 dm_mark_46 ?_
        obtain ⟨hi, hm⟩ := ck_s hm
        refine v_iastl dm_mark_47 sh_132 hi hm (fun h4 hm => ?_)
        refine v_ald_0 dm_mark_48 ?_
        refine v_ald_0 dm_mark_49 ?_
        refine v_getI dm_mark_50 fum_469 sh_104 rf_104_49 ?_
        refine v_iconst (x := 1) dm_mark_53 rfl ?_
        refine v_iadd dm_mark_54 ?_
        refine v_putIl dm_mark_55 fum_469 ft_12_49 sh_104 rf_104_49 hm (fun h5 hm => ?_)
        refine v_ald_0 dm_mark_58 ?_
        refine v_getI dm_mark_59 fum_469 sh_104 rf_104_49 ?_
        cases hm
        exact v_iret dm_mark_62 rfl
def mm_isMeasured_L24 (p1 : Int32) (p2 : Int32) (h0 : PH) (k0 : Option (Int32)) : Nat → Int32 → Option (Int32)
  | 0, _ => none
  | n + 1, v3 =>
    if p2 ≤ v3 then
      k0
    else
      ck p2 5 <|
      ck v3 5 <|
      bd (mm_apart (h0 132 (ix p2)) (h0 132 (ix v3)) h0) fun r1 =>
      if r1 = p1 then
        some 1
      else
        mm_isMeasured_L24 p1 p2 h0 k0 n (v3 + 1)
def mm_isMeasured_L2 (p1 : Int32) (h0 : PH) : Nat → Int32 → Option (Int32)
  | 0, _ => none
  | n + 1, v2 =>
    if (h0 104 49) ≤ v2 then
      some 0
    else
      ck v2 5 <|
      if (h0 132 (ix v2)) = p1 then
        some 1
      else
        mm_isMeasured_L24 p1 v2 h0 (mm_isMeasured_L2 p1 h0 n (v2 + 1)) FU 0
def mm_isMeasured (p1 : Int32) (h0 : PH) : Option (Int32) :=
  mm_isMeasured_L2 p1 h0 FU 0
theorem wm_isMeasured_L24 (G : GG) (d : Nat) (p1 : Int32) (p2 : Int32) (h0 : PH) (k0 : Option (Int32)) (r : Int32) (kk0 : k0 = some r → Vx G tm_isMeasured (d + 1) 57 [some (.ref (gB G + 104)), some (.int p1), some (.int p2), none] [] h0 (some (.int r)) h0) : ∀ (n : Nat) (v3 : Int32), mm_isMeasured_L24 p1 p2 h0 k0 n v3 = some r → Vx G tm_isMeasured (d + 1) 24 [some (.ref (gB G + 104)), some (.int p1), some (.int p2), some (.int v3)] [] h0 (some (.int r)) h0 := by
  intro n
  induction n with
  | zero => intro v3 hm; cases hm
  | succ n ih =>
    intro v3 hm
    unfold mm_isMeasured_L24 at hm
    refine v_ild_3 dm_isMeasured_24 ?_
    refine v_ild_2 dm_isMeasured_25 ?_
    refine v_cmp_ge dm_isMeasured_26 (fun hc => ?_) (fun hc => ?_)
    · replace hm := it hc hm
      exact v_kw (kk0 hm) (wk_s (wk_s (wk_s (wk_n wk_e))))
    · replace hm := ie hc hm
      refine v_ald_0 dm_isMeasured_29 ?_
      refine v_ald_0 dm_isMeasured_30 ?_
      refine v_getR dm_isMeasured_31 fum_95 sh_104 rf_104_50 ?_
      refine v_ild_2 dm_isMeasured_34 ?_
      obtain ⟨hi, hm⟩ := ck_s hm
      refine v_iald dm_isMeasured_35 sh_132 hi ?_
      refine v_ald_0 dm_isMeasured_36 ?_
      refine v_getR dm_isMeasured_37 fum_95 sh_104 rf_104_50 ?_
      refine v_ild_3 dm_isMeasured_40 ?_
      obtain ⟨hi, hm⟩ := ck_s hm
      refine v_iald dm_isMeasured_41 sh_132 hi ?_
      obtain ⟨r1, he, hm⟩ := bd_s hm
      refine v_cv2i (M' := tm_apart) dm_isMeasured_42 mlm_472 okm_apart sh_104 hc_12 (Nat.le_of_ble_eq_true rfl) (ctm_apart G d _ _ _ _ he) ?_
      refine v_ild_1 dm_isMeasured_45 ?_
      refine v_cmp_ne dm_isMeasured_46 (fun hc => ?_) (fun hc => ?_)
      · replace hm := it hc hm
        refine v_iconst (x := 1) dm_isMeasured_49 rfl ?_
        cases hm
        exact v_zret1 dm_isMeasured_50 rfl
      · replace hm := ie hc hm
        refine v_inc_3 1 dm_isMeasured_51 rfl (by decide) rfl ?_
        refine v_goto dm_isMeasured_54 ?_
        exact v_kw (ih _ hm) (wk_s (wk_s (wk_s (wk_s wk_e))))
theorem wm_isMeasured_L2 (G : GG) (d : Nat) (p1 : Int32) (h0 : PH) (r : Int32) : ∀ (n : Nat) (v2 : Int32), mm_isMeasured_L2 p1 h0 n v2 = some r → Vx G tm_isMeasured (d + 1) 2 [some (.ref (gB G + 104)), some (.int p1), some (.int v2), none] [] h0 (some (.int r)) h0 := by
  intro n
  induction n with
  | zero => intro v2 hm; cases hm
  | succ n ih =>
    intro v2 hm
    unfold mm_isMeasured_L2 at hm
    refine v_ild_2 dm_isMeasured_2 ?_
    refine v_ald_0 dm_isMeasured_3 ?_
    refine v_getI dm_isMeasured_4 fum_469 sh_104 rf_104_49 ?_
    refine v_cmp_ge dm_isMeasured_7 (fun hc => ?_) (fun hc => ?_)
    · replace hm := it hc hm
      refine v_iconst (x := 0) dm_isMeasured_63 rfl ?_
      cases hm
      exact v_zret0 dm_isMeasured_64 rfl
    · replace hm := ie hc hm
      refine v_ald_0 dm_isMeasured_10 ?_
      refine v_getR dm_isMeasured_11 fum_95 sh_104 rf_104_50 ?_
      refine v_ild_2 dm_isMeasured_14 ?_
      obtain ⟨hi, hm⟩ := ck_s hm
      refine v_iald dm_isMeasured_15 sh_132 hi ?_
      refine v_ild_1 dm_isMeasured_16 ?_
      refine v_cmp_ne dm_isMeasured_17 (fun hc => ?_) (fun hc => ?_)
      · replace hm := it hc hm
        refine v_iconst (x := 1) dm_isMeasured_20 rfl ?_
        cases hm
        exact v_zret1 dm_isMeasured_21 rfl
      · replace hm := ie hc hm
        refine v_iconst (x := 0) dm_isMeasured_22 rfl ?_
        refine v_ist_3 dm_isMeasured_23 (by decide) rfl ?_
        refine v_kw (wm_isMeasured_L24 G d _ _ _ _ _ (fun hm => ?_) FU _ hm) (wk_s (wk_s (wk_s (wk_s wk_e))))
        refine v_inc_2 1 dm_isMeasured_57 rfl (by decide) rfl ?_
        refine v_goto dm_isMeasured_60 ?_
        exact v_kw (ih _ hm) (wk_s (wk_s (wk_s (wk_n wk_e))))
theorem ctm_isMeasured (G : GG) (d : Nat) (p1 : Int32) (h0 : PH) (r : Int32) (hm : mm_isMeasured p1 h0 = some r) : Kx G tm_isMeasured (d + 1) [.ref (gB G + 104), .int p1] h0 (some (.int r)) h0 := by
  refine K_of_V (by decide) (by simp [cat_i, cat_r, fmtV_cat]) (by simp [tm_isMeasured]) ?_
  change Vx G tm_isMeasured (d + 1) 0 [some (.ref (gB G + 104)), some (.int p1), none, none] [] h0 (some (.int r)) h0
  unfold mm_isMeasured at hm
  refine v_iconst (x := 0) dm_isMeasured_0 rfl ?_
  refine v_ist_2 dm_isMeasured_1 (by decide) rfl ?_
  exact v_kw (wm_isMeasured_L2 G d _ _ _ FU _ hm) (wk_s (wk_s (wk_s (wk_n wk_e))))
def mm_measures_L21 (p1 : Int32) (h0 : PH) (k0 : Int32 → Option (Int32 × PH)) : Nat → Int32 → Int32 → Option (Int32 × PH)
  | 0, _, _ => none
  | n + 1, v2, v3 =>
    if 60 < v3 then
      k0 v2
    else
      bd (mm_isMeasured v3 h0) fun r3 =>
      if r3 = 0 then
        if p1 = 1 then
          some (v3, h0)
        else
          mm_measures_L21 p1 h0 k0 n v2 (v3 + 1)
      else
        lt (v2 + 1) fun x4 =>
        mm_measures_L21 p1 h0 k0 n x4 (v3 + 1)
def mm_measures (p1 : Int32) (h0 : PH) : Option (Int32 × PH) :=
  lt (up h0 104 0 0) fun h1 =>
  bd (mm_isIn p1 0 1 h1) fun r2 =>
  if r2 = 0 then
    some ((-1), h1)
  else
    mm_measures_L21 p1 h1 (fun (x5 : Int32) =>
      if p1 = 0 then
        some (x5, h1)
      else
        some ((-1), h1)) FU 0 1
theorem wm_measures_L21 (G : GG) (d : Nat) (p1 : Int32) (h0 : PH) (k0 : Int32 → Option (Int32 × PH)) (r : Int32 × PH) (kk0 : ∀ (y2 : Int32), k0 y2 = some r → Vx G tm_measures (d + 2) 55 [none, some (.int p1), some (.int y2), none] [] h0 (some (.int r.1)) r.2) : ∀ (n : Nat) (v2 : Int32) (v3 : Int32), mm_measures_L21 p1 h0 k0 n v2 v3 = some r → Vx G tm_measures (d + 2) 21 [some (.ref (gB G + 104)), some (.int p1), some (.int v2), some (.int v3)] [] h0 (some (.int r.1)) r.2 := by
  intro n
  induction n with
  | zero => intro v2 v3 hm; cases hm
  | succ n ih =>
    intro v2 v3 hm
    unfold mm_measures_L21 at hm
    refine v_ild_3 dm_measures_21 ?_
    refine v_bipush (x := 60) dm_measures_22 rfl ?_
    refine v_cmp_gt dm_measures_24 (fun hc => ?_) (fun hc => ?_)
    · replace hm := it hc hm
      exact v_kw (kk0 _ hm) (wk_n (wk_s (wk_s (wk_n wk_e))))
    · replace hm := ie hc hm
      refine v_ald_0 dm_measures_27 ?_
      refine v_ild_3 dm_measures_28 ?_
      obtain ⟨r3, he, hm⟩ := bd_s hm
      refine v_cv1i (M' := tm_isMeasured) dm_measures_29 mlm_475 okm_isMeasured sh_104 hc_12 (Nat.le_of_ble_eq_true rfl) (ctm_isMeasured G d _ _ _ he) ?_
      refine v_if_eq dm_measures_32 (fun hc => ?_) (fun hc => ?_)
      · replace hm := it hc hm
        refine v_ild_1 dm_measures_42 ?_
        refine v_iconst (x := 1) dm_measures_43 rfl ?_
        refine v_cmp_ne dm_measures_44 (fun hc => ?_) (fun hc => ?_)
        · replace hm := it hc hm
          refine v_ild_3 dm_measures_47 ?_
          cases hm
          exact v_iret dm_measures_48 rfl
        · replace hm := ie hc hm
          refine v_inc_3 1 dm_measures_49 rfl (by decide) rfl ?_
          refine v_goto dm_measures_52 ?_
          exact v_kw (ih _ _ hm) (wk_s (wk_s (wk_s (wk_s wk_e))))
      · replace hm := ie hc hm
        refine v_ild_2 dm_measures_35 ?_
        refine v_iconst (x := 1) dm_measures_36 rfl ?_
        refine v_iadd dm_measures_37 ?_
        refine v_top hm (fun x4 hm => ?_)
        refine v_ist_2 dm_measures_38 (by decide) rfl ?_
        refine v_goto dm_measures_39 ?_
        refine v_inc_3 1 dm_measures_49 rfl (by decide) rfl ?_
        refine v_goto dm_measures_52 ?_
        exact v_kw (ih _ _ hm) (wk_s (wk_s (wk_s (wk_s wk_e))))
theorem ctm_measures (G : GG) (d : Nat) (p1 : Int32) (h0 : PH) (r : Int32 × PH) (hm : mm_measures p1 h0 = some r) : Kx G tm_measures (d + 2) [.ref (gB G + 104), .int p1] h0 (some (.int r.1)) r.2 := by
  refine K_of_V (by decide) (by simp [cat_i, cat_r, fmtV_cat]) (by simp [tm_measures]) ?_
  change Vx G tm_measures (d + 2) 0 [some (.ref (gB G + 104)), some (.int p1), none, none] [] h0 (some (.int r.1)) r.2
  unfold mm_measures at hm
  refine v_ald_0 dm_measures_0 ?_
  refine v_iconst (x := 0) dm_measures_1 rfl ?_
  refine v_putIl dm_measures_2 fum_146 ft_12_0 sh_104 rf_104_0 hm (fun h1 hm => ?_)
  refine v_ald_0 dm_measures_5 ?_
  refine v_ild_1 dm_measures_6 ?_
  refine v_iconst (x := 0) dm_measures_7 rfl ?_
  refine v_iconst (x := 1) dm_measures_8 rfl ?_
  obtain ⟨r2, he, hm⟩ := bd_s hm
  refine v_cv3i (M' := tm_isIn) dm_measures_9 mlm_177 okm_isIn sh_104 hc_12 (Nat.le_of_ble_eq_true rfl) (ctm_isIn G (d + 1) _ _ _ _ _ he) ?_
  refine v_if_ne dm_measures_12 (fun hc => ?_) (fun hc => ?_)
  · replace hm := it hc hm
    refine v_iconst (x := (-1)) dm_measures_15 rfl ?_
    cases hm
    exact v_iret dm_measures_16 rfl
  · replace hm := ie hc hm
    refine v_iconst (x := 0) dm_measures_17 rfl ?_
    refine v_ist_2 dm_measures_18 (by decide) rfl ?_
    refine v_iconst (x := 1) dm_measures_19 rfl ?_
    refine v_ist_3 dm_measures_20 (by decide) rfl ?_
    refine v_kw (wm_measures_L21 G d _ _ _ _ (fun x5 hm => ?_) FU _ _ hm) (wk_s (wk_s (wk_s (wk_s wk_e))))
    refine v_ild_1 dm_measures_55 ?_
    refine v_if_ne dm_measures_56 (fun hc => ?_) (fun hc => ?_)
    · replace hm := it hc hm
      refine v_ild_2 dm_measures_59 ?_
      refine v_goto dm_measures_60 ?_
      cases hm
      exact v_iret dm_measures_64 rfl
    · replace hm := ie hc hm
      refine v_iconst (x := (-1)) dm_measures_63 rfl ?_
      cases hm
      exact v_iret dm_measures_64 rfl
def mm_bite (p1 : Int32) (p2 : Int32) (h0 : PH) : Option (Int32 × PH) :=
  lt (up h0 104 0 0) fun h1 =>
  if p1 = (-1) then
    lt (up h1 104 51 0) fun h2 =>
    some (0, h2)
  else
    bd (mm_isIn p1 0 255 h1) fun r3 =>
    if r3 = 0 then
      some ((-1), h1)
    else
      bd (mm_isIn p2 0 9 h1) fun r4 =>
      if r4 = 0 then
        some ((-1), h1)
      else
        if (h1 104 51) = 8 then
          some ((-1), h1)
        else
          ck (h1 104 51) 8 <|
          lt (up h1 133 (ix (h1 104 51)) p1) fun h5 =>
          ck (h5 104 51) 8 <|
          lt (up h5 134 (ix (h5 104 51)) p2) fun h6 =>
          lt (up h6 104 51 ((h6 104 51) + 1)) fun h7 =>
          some (h7 104 51, h7)
theorem ctm_bite (G : GG) (d : Nat) (p1 : Int32) (p2 : Int32) (h0 : PH) (r : Int32 × PH) (hm : mm_bite p1 p2 h0 = some r) : Kx G tm_bite (d + 1) [.ref (gB G + 104), .int p1, .int p2] h0 (some (.int r.1)) r.2 := by
  refine K_of_V (by decide) (by simp [cat_i, cat_r, fmtV_cat]) (by simp [tm_bite]) ?_
  change Vx G tm_bite (d + 1) 0 [some (.ref (gB G + 104)), some (.int p1), some (.int p2)] [] h0 (some (.int r.1)) r.2
  unfold mm_bite at hm
  refine v_ald_0 dm_bite_0 ?_
  refine v_iconst (x := 0) dm_bite_1 rfl ?_
  refine v_putIl dm_bite_2 fum_146 ft_12_0 sh_104 rf_104_0 hm (fun h1 hm => ?_)
  refine v_ild_1 dm_bite_5 ?_
  refine v_iconst (x := (-1)) dm_bite_6 rfl ?_
  refine v_cmp_ne dm_bite_7 (fun hc => ?_) (fun hc => ?_)
  · replace hm := it hc hm
    refine v_ald_0 dm_bite_10 ?_
    refine v_iconst (x := 0) dm_bite_11 rfl ?_
    refine v_putIl dm_bite_12 fum_478 ft_12_51 sh_104 rf_104_51 hm (fun h2 hm => ?_)
    refine v_iconst (x := 0) dm_bite_15 rfl ?_
    cases hm
    exact v_iret dm_bite_16 rfl
  · replace hm := ie hc hm
    refine v_ald_0 dm_bite_17 ?_
    refine v_ild_1 dm_bite_18 ?_
    refine v_iconst (x := 0) dm_bite_19 rfl ?_
    refine v_sipush (x := 255) dm_bite_20 rfl ?_
    obtain ⟨r3, he, hm⟩ := bd_s hm
    refine v_cv3i (M' := tm_isIn) dm_bite_23 mlm_177 okm_isIn sh_104 hc_12 (Nat.le_of_ble_eq_true rfl) (ctm_isIn G d _ _ _ _ _ he) ?_
    refine v_if_eq dm_bite_26 (fun hc => ?_) (fun hc => ?_)
    · replace hm := it hc hm
      refine v_iconst (x := (-1)) dm_bite_49 rfl ?_
      cases hm
      exact v_iret dm_bite_50 rfl
    · replace hm := ie hc hm
      refine v_ald_0 dm_bite_29 ?_
      refine v_ild_2 dm_bite_30 ?_
      refine v_iconst (x := 0) dm_bite_31 rfl ?_
      refine v_bipush (x := 9) dm_bite_32 rfl ?_
      obtain ⟨r4, he, hm⟩ := bd_s hm
      refine v_cv3i (M' := tm_isIn) dm_bite_34 mlm_177 okm_isIn sh_104 hc_12 (Nat.le_of_ble_eq_true rfl) (ctm_isIn G d _ _ _ _ _ he) ?_
      refine v_if_eq dm_bite_37 (fun hc => ?_) (fun hc => ?_)
      · replace hm := it hc hm
        refine v_iconst (x := (-1)) dm_bite_49 rfl ?_
        cases hm
        exact v_iret dm_bite_50 rfl
      · replace hm := ie hc hm
        refine v_ald_0 dm_bite_40 ?_
        refine v_getI dm_bite_41 fum_478 sh_104 rf_104_51 ?_
        refine v_bipush (x := 8) dm_bite_44 rfl ?_
        refine v_cmp_ne dm_bite_46 (fun hc => ?_) (fun hc => ?_)
        · replace hm := it hc hm
          refine v_iconst (x := (-1)) dm_bite_49 rfl ?_
          cases hm
          exact v_iret dm_bite_50 rfl
        · replace hm := ie hc hm
          refine v_ald_0 dm_bite_51 ?_
          refine v_getR dm_bite_52 fum_98 sh_104 rf_104_52 ?_
          refine v_ald_0 dm_bite_55 ?_
          refine v_getI dm_bite_56 fum_478 sh_104 rf_104_51 ?_
          refine v_ild_1 dm_bite_59 ?_
          obtain ⟨hi, hm⟩ := ck_s hm
          refine v_iastl dm_bite_60 sh_133 hi hm (fun h5 hm => ?_)
          refine v_ald_0 dm_bite_61 ?_
          refine v_getR dm_bite_62 fum_101 sh_104 rf_104_53 ?_
          refine v_ald_0 dm_bite_65 ?_
          refine v_getI dm_bite_66 fum_478 sh_104 rf_104_51 ?_
          refine v_ild_2 dm_bite_69 ?_
          obtain ⟨hi, hm⟩ := ck_s hm
          refine v_iastl dm_bite_70 sh_134 hi hm (fun h6 hm => ?_)
          refine v_ald_0 dm_bite_71 ?_
          refine v_ald_0 dm_bite_72 ?_
          refine v_getI dm_bite_73 fum_478 sh_104 rf_104_51 ?_
          refine v_iconst (x := 1) dm_bite_76 rfl ?_
          refine v_iadd dm_bite_77 ?_
          refine v_putIl dm_bite_78 fum_478 ft_12_51 sh_104 rf_104_51 hm (fun h7 hm => ?_)
          refine v_ald_0 dm_bite_81 ?_
          refine v_getI dm_bite_82 fum_478 sh_104 rf_104_51 ?_
          cases hm
          exact v_iret dm_bite_85 rfl
def mm_whose_L35 (p1 : Int32) (p2 : Int32) (h0 : PH) : Nat → Int32 → Int32 → Option (Int32 × PH)
  | 0, _, _ => none
  | n + 1, v3, v4 =>
    if (h0 104 51) ≤ v4 then
      some (v3, h0)
    else
      ck v4 8 <|
      if (p1 &&& ((h0 133 (ix v4)) ^^^ (-1))) = 0 then
        ck v4 8 <|
        if (h0 134 (ix v4)) < p2 then
          mm_whose_L35 p1 p2 h0 n v3 (v4 + 1)
        else
          lt (v3 ||| (1 <<< (v4 &&& 31))) fun x4 =>
          mm_whose_L35 p1 p2 h0 n x4 (v4 + 1)
      else
        mm_whose_L35 p1 p2 h0 n v3 (v4 + 1)
def mm_whose (p1 : Int32) (p2 : Int32) (h0 : PH) : Option (Int32 × PH) :=
  lt (up h0 104 0 0) fun h1 =>
  bd (mm_isIn p1 0 255 h1) fun r2 =>
  if r2 = 0 then
    some ((-1), h1)
  else
    bd (mm_isIn p2 0 9 h1) fun r3 =>
    if r3 = 0 then
      some ((-1), h1)
    else
      mm_whose_L35 p1 p2 h1 FU 0 0
theorem wm_whose_L35 (G : GG) (d : Nat) (p1 : Int32) (p2 : Int32) (h0 : PH) (r : Int32 × PH) : ∀ (n : Nat) (v3 : Int32) (v4 : Int32), mm_whose_L35 p1 p2 h0 n v3 v4 = some r → Vx G tm_whose (d + 1) 35 [some (.ref (gB G + 104)), some (.int p1), some (.int p2), some (.int v3), some (.int v4)] [] h0 (some (.int r.1)) r.2 := by
  intro n
  induction n with
  | zero => intro v3 v4 hm; cases hm
  | succ n ih =>
    intro v3 v4 hm
    unfold mm_whose_L35 at hm
    refine v_ild_4 dm_whose_35 ?_
    refine v_ald_0 dm_whose_37 ?_
    refine v_getI dm_whose_38 fum_478 sh_104 rf_104_51 ?_
    refine v_cmp_ge dm_whose_41 (fun hc => ?_) (fun hc => ?_)
    · replace hm := it hc hm
      refine v_ild_3 dm_whose_82 ?_
      cases hm
      exact v_iret dm_whose_83 rfl
    · replace hm := ie hc hm
      refine v_ild_1 dm_whose_44 ?_
      refine v_ald_0 dm_whose_45 ?_
      refine v_getR dm_whose_46 fum_98 sh_104 rf_104_52 ?_
      refine v_ild_4 dm_whose_49 ?_
      obtain ⟨hi, hm⟩ := ck_s hm
      refine v_iald dm_whose_51 sh_133 hi ?_
      refine v_iconst (x := (-1)) dm_whose_52 rfl ?_
      refine v_ixor dm_whose_53 ?_
      refine v_iand dm_whose_54 ?_
      refine v_if_ne dm_whose_55 (fun hc => ?_) (fun hc => ?_)
      · replace hm := it hc hm
        refine v_ald_0 dm_whose_58 ?_
        refine v_getR dm_whose_59 fum_101 sh_104 rf_104_53 ?_
        refine v_ild_4 dm_whose_62 ?_
        obtain ⟨hi, hm⟩ := ck_s hm
        refine v_iald dm_whose_64 sh_134 hi ?_
        refine v_ild_2 dm_whose_65 ?_
        refine v_cmp_lt dm_whose_66 (fun hc => ?_) (fun hc => ?_)
        · replace hm := it hc hm
          refine v_inc_4 1 dm_whose_76 rfl (by decide) rfl ?_
          refine v_goto dm_whose_79 ?_
          exact v_kw (ih _ _ hm) (wk_s (wk_s (wk_s (wk_s (wk_s wk_e)))))
        · replace hm := ie hc hm
          refine v_ild_3 dm_whose_69 ?_
          refine v_iconst (x := 1) dm_whose_70 rfl ?_
          refine v_ild_4 dm_whose_71 ?_
          refine v_ishl dm_whose_73 ?_
          refine v_ior dm_whose_74 ?_
          refine v_top hm (fun x4 hm => ?_)
          refine v_ist_3 dm_whose_75 (by decide) rfl ?_
          refine v_inc_4 1 dm_whose_76 rfl (by decide) rfl ?_
          refine v_goto dm_whose_79 ?_
          exact v_kw (ih _ _ hm) (wk_s (wk_s (wk_s (wk_s (wk_s wk_e)))))
      · replace hm := ie hc hm
        refine v_inc_4 1 dm_whose_76 rfl (by decide) rfl ?_
        refine v_goto dm_whose_79 ?_
        exact v_kw (ih _ _ hm) (wk_s (wk_s (wk_s (wk_s (wk_s wk_e)))))
theorem ctm_whose (G : GG) (d : Nat) (p1 : Int32) (p2 : Int32) (h0 : PH) (r : Int32 × PH) (hm : mm_whose p1 p2 h0 = some r) : Kx G tm_whose (d + 1) [.ref (gB G + 104), .int p1, .int p2] h0 (some (.int r.1)) r.2 := by
  refine K_of_V (by decide) (by simp [cat_i, cat_r, fmtV_cat]) (by simp [tm_whose]) ?_
  change Vx G tm_whose (d + 1) 0 [some (.ref (gB G + 104)), some (.int p1), some (.int p2), none, none] [] h0 (some (.int r.1)) r.2
  unfold mm_whose at hm
  refine v_ald_0 dm_whose_0 ?_
  refine v_iconst (x := 0) dm_whose_1 rfl ?_
  refine v_putIl dm_whose_2 fum_146 ft_12_0 sh_104 rf_104_0 hm (fun h1 hm => ?_)
  refine v_ald_0 dm_whose_5 ?_
  refine v_ild_1 dm_whose_6 ?_
  refine v_iconst (x := 0) dm_whose_7 rfl ?_
  refine v_sipush (x := 255) dm_whose_8 rfl ?_
  obtain ⟨r2, he, hm⟩ := bd_s hm
  refine v_cv3i (M' := tm_isIn) dm_whose_11 mlm_177 okm_isIn sh_104 hc_12 (Nat.le_of_ble_eq_true rfl) (ctm_isIn G d _ _ _ _ _ he) ?_
  refine v_if_eq dm_whose_14 (fun hc => ?_) (fun hc => ?_)
  · replace hm := it hc hm
    refine v_iconst (x := (-1)) dm_whose_28 rfl ?_
    cases hm
    exact v_iret dm_whose_29 rfl
  · replace hm := ie hc hm
    refine v_ald_0 dm_whose_17 ?_
    refine v_ild_2 dm_whose_18 ?_
    refine v_iconst (x := 0) dm_whose_19 rfl ?_
    refine v_bipush (x := 9) dm_whose_20 rfl ?_
    obtain ⟨r3, he, hm⟩ := bd_s hm
    refine v_cv3i (M' := tm_isIn) dm_whose_22 mlm_177 okm_isIn sh_104 hc_12 (Nat.le_of_ble_eq_true rfl) (ctm_isIn G d _ _ _ _ _ he) ?_
    refine v_if_ne dm_whose_25 (fun hc => ?_) (fun hc => ?_)
    · replace hm := it hc hm
      refine v_iconst (x := (-1)) dm_whose_28 rfl ?_
      cases hm
      exact v_iret dm_whose_29 rfl
    · replace hm := ie hc hm
      refine v_iconst (x := 0) dm_whose_30 rfl ?_
      refine v_ist_3 dm_whose_31 (by decide) rfl ?_
      refine v_iconst (x := 0) dm_whose_32 rfl ?_
      refine v_ist_4 dm_whose_33 (by decide) rfl ?_
      exact v_kw (wm_whose_L35 G d _ _ _ _ FU _ _ hm) (wk_s (wk_s (wk_s (wk_s (wk_s wk_e)))))
def mm_crumb (p1 : Int32) (h0 : PH) : Option (Int32 × PH) :=
  lt (up h0 104 0 0) fun h1 =>
  if p1 = (-1) then
    lt (up h1 104 54 0) fun h2 =>
    some (0, h2)
  else
    bd (mm_isIn p1 0 3 h1) fun r3 =>
    if r3 = 0 then
      some ((-1), h1)
    else
      if (h1 104 54) = 16 then
        some ((-1), h1)
      else
        ck (h1 104 54) 16 <|
        lt (up h1 135 (ix (h1 104 54)) p1) fun h4 =>
        lt (up h4 104 54 ((h4 104 54) + 1)) fun h5 =>
        some (h5 104 54, h5)
theorem ctm_crumb (G : GG) (d : Nat) (p1 : Int32) (h0 : PH) (r : Int32 × PH) (hm : mm_crumb p1 h0 = some r) : Kx G tm_crumb (d + 1) [.ref (gB G + 104), .int p1] h0 (some (.int r.1)) r.2 := by
  refine K_of_V (by decide) (by simp [cat_i, cat_r, fmtV_cat]) (by simp [tm_crumb]) ?_
  change Vx G tm_crumb (d + 1) 0 [some (.ref (gB G + 104)), some (.int p1)] [] h0 (some (.int r.1)) r.2
  unfold mm_crumb at hm
  refine v_ald_0 dm_crumb_0 ?_
  refine v_iconst (x := 0) dm_crumb_1 rfl ?_
  refine v_putIl dm_crumb_2 fum_146 ft_12_0 sh_104 rf_104_0 hm (fun h1 hm => ?_)
  refine v_ild_1 dm_crumb_5 ?_
  refine v_iconst (x := (-1)) dm_crumb_6 rfl ?_
  refine v_cmp_ne dm_crumb_7 (fun hc => ?_) (fun hc => ?_)
  · replace hm := it hc hm
    refine v_ald_0 dm_crumb_10 ?_
    refine v_iconst (x := 0) dm_crumb_11 rfl ?_
    refine v_putIl dm_crumb_12 fum_481 ft_12_54 sh_104 rf_104_54 hm (fun h2 hm => ?_)
    refine v_iconst (x := 0) dm_crumb_15 rfl ?_
    cases hm
    exact v_iret dm_crumb_16 rfl
  · replace hm := ie hc hm
    refine v_ald_0 dm_crumb_17 ?_
    refine v_ild_1 dm_crumb_18 ?_
    refine v_iconst (x := 0) dm_crumb_19 rfl ?_
    refine v_iconst (x := 3) dm_crumb_20 rfl ?_
    obtain ⟨r3, he, hm⟩ := bd_s hm
    refine v_cv3i (M' := tm_isIn) dm_crumb_21 mlm_177 okm_isIn sh_104 hc_12 (Nat.le_of_ble_eq_true rfl) (ctm_isIn G d _ _ _ _ _ he) ?_
    refine v_if_eq dm_crumb_24 (fun hc => ?_) (fun hc => ?_)
    · replace hm := it hc hm
      refine v_iconst (x := (-1)) dm_crumb_36 rfl ?_
      cases hm
      exact v_iret dm_crumb_37 rfl
    · replace hm := ie hc hm
      refine v_ald_0 dm_crumb_27 ?_
      refine v_getI dm_crumb_28 fum_481 sh_104 rf_104_54 ?_
      refine v_bipush (x := 16) dm_crumb_31 rfl ?_
      refine v_cmp_ne dm_crumb_33 (fun hc => ?_) (fun hc => ?_)
      · replace hm := it hc hm
        refine v_iconst (x := (-1)) dm_crumb_36 rfl ?_
        cases hm
        exact v_iret dm_crumb_37 rfl
      · replace hm := ie hc hm
        refine v_ald_0 dm_crumb_38 ?_
        refine v_getR dm_crumb_39 fum_104 sh_104 rf_104_55 ?_
        refine v_ald_0 dm_crumb_42 ?_
        refine v_getI dm_crumb_43 fum_481 sh_104 rf_104_54 ?_
        refine v_ild_1 dm_crumb_46 ?_
        obtain ⟨hi, hm⟩ := ck_s hm
        refine v_iastl dm_crumb_47 sh_135 hi hm (fun h4 hm => ?_)
        refine v_ald_0 dm_crumb_48 ?_
        refine v_ald_0 dm_crumb_49 ?_
        refine v_getI dm_crumb_50 fum_481 sh_104 rf_104_54 ?_
        refine v_iconst (x := 1) dm_crumb_53 rfl ?_
        refine v_iadd dm_crumb_54 ?_
        refine v_putIl dm_crumb_55 fum_481 ft_12_54 sh_104 rf_104_54 hm (fun h5 hm => ?_)
        refine v_ald_0 dm_crumb_58 ?_
        refine v_getI dm_crumb_59 fum_481 sh_104 rf_104_54 ?_
        cases hm
        exact v_iret dm_crumb_62 rfl
def mm_crumbs_L19 (p1 : Int32) (k0 : PH → Option (Int32 × PH)) : Nat → Int32 → PH → Option (Int32 × PH)
  | 0, _, _ => none
  | n + 1, v2, hv =>
    if 1681 ≤ v2 then
      k0 hv
    else
      ck v2 1681 <|
      lt (up hv 136 (ix v2) 0) fun h3 =>
      mm_crumbs_L19 p1 k0 n (v2 + 1) h3
def mm_crumbs_L55 (p1 : Int32) (k0 : Int32 → Int32 → PH → Option (Int32 × PH)) : Nat → Int32 → Int32 → Int32 → PH → Option (Int32 × PH)
  | 0, _, _, _, _ => none
  | n + 1, v2, v3, v4, hv =>
    if (hv 104 54) ≤ v4 then
      k0 v2 v3 hv
    else
      ck v4 16 <|
      jn2 (fun (x7 : Int32) (x8 : Int32) =>
        lt (((41 * (x7 + 20)) + x8) + 20) fun x9 =>
        ck x9 1681 <|
        ck x9 1681 <|
        lt (up hv 136 (ix x9) ((hv 136 (ix x9)) + 1)) fun h10 =>
        mm_crumbs_L55 p1 k0 n x7 x8 (v4 + 1) h10) fun j6 =>
      jn0 (ck v4 16 <|
        if (hv 135 (ix v4)) = 0 then
          lt (v2 + 1) fun x12 =>
          j6 x12 v3
        else
          lt (v2 + (-1)) fun x13 =>
          j6 x13 v3) fun j11 =>
      if (hv 135 (ix v4)) = 0 then
        j11
      else
        ck v4 16 <|
        if (hv 135 (ix v4)) = 2 then
          j11
        else
          ck v4 16 <|
          if (hv 135 (ix v4)) = 1 then
            lt (v3 + 1) fun x14 =>
            j6 v2 x14
          else
            lt (v3 + (-1)) fun x15 =>
            j6 v2 x15
def mm_crumbs_L185 (h0 : PH) : Nat → Int32 → Int32 → Option (Int32 × PH)
  | 0, _, _ => none
  | n + 1, v4, v5 =>
    if 1681 ≤ v5 then
      some (v4, h0)
    else
      ck v5 1681 <|
      if (h0 136 (ix v5)) ≤ 1 then
        mm_crumbs_L185 h0 n v4 (v5 + 1)
      else
        lt (v4 + 1) fun x21 =>
        mm_crumbs_L185 h0 n x21 (v5 + 1)
def mm_crumbs (p1 : Int32) (h0 : PH) : Option (Int32 × PH) :=
  lt (up h0 104 0 0) fun h1 =>
  bd (mm_isIn p1 0 1 h1) fun r2 =>
  if r2 = 0 then
    some ((-1), h1)
  else
    mm_crumbs_L19 p1 (fun (h4 : PH) =>
      ck 840 1681 <|
      lt (up h4 136 (ix 840) 1) fun h5 =>
      mm_crumbs_L55 p1 (fun (x16 : Int32) (x17 : Int32) (h18 : PH) =>
        if p1 = 0 then
          bd (mm_apart x16 0 h18) fun r19 =>
          bd (mm_apart x17 0 h18) fun r20 =>
          some (r19 + r20, h18)
        else
          mm_crumbs_L185 h18 FU 0 0) FU 0 0 0 h5) FU 0 h1
theorem wm_crumbs_L19 (G : GG) (d : Nat) (p1 : Int32) (k0 : PH → Option (Int32 × PH)) (r : Int32 × PH) (kk0 : ∀ (hy : PH), k0 hy = some r → Vx G tm_crumbs (d + 1) 39 [some (.ref (gB G + 104)), some (.int p1), none, none, none, none] [] hy (some (.int r.1)) r.2) : ∀ (n : Nat) (v2 : Int32) (hv : PH), mm_crumbs_L19 p1 k0 n v2 hv = some r → Vx G tm_crumbs (d + 1) 19 [some (.ref (gB G + 104)), some (.int p1), some (.int v2), none, none, none] [] hv (some (.int r.1)) r.2 := by
  intro n
  induction n with
  | zero => intro v2 hv hm; cases hm
  | succ n ih =>
    intro v2 hv hm
    unfold mm_crumbs_L19 at hm
    refine v_ild_2 dm_crumbs_19 ?_
    refine v_sipush (x := 1681) dm_crumbs_20 rfl ?_
    refine v_cmp_ge dm_crumbs_23 (fun hc => ?_) (fun hc => ?_)
    · replace hm := it hc hm
      exact v_kw (kk0 _ hm) (wk_s (wk_s (wk_n (wk_n (wk_n (wk_n wk_e))))))
    · replace hm := ie hc hm
      refine v_ald_0 dm_crumbs_26 ?_
      refine v_getR dm_crumbs_27 fum_107 sh_104 rf_104_56 ?_
      refine v_ild_2 dm_crumbs_30 ?_
      refine v_iconst (x := 0) dm_crumbs_31 rfl ?_
      obtain ⟨hi, hm⟩ := ck_s hm
      refine v_iastl dm_crumbs_32 sh_136 hi hm (fun h3 hm => ?_)
      refine v_inc_2 1 dm_crumbs_33 rfl (by decide) rfl ?_
      refine v_goto dm_crumbs_36 ?_
      exact v_kw (ih _ _ hm) (wk_s (wk_s (wk_s (wk_n (wk_n (wk_n wk_e))))))
theorem wm_crumbs_L55 (G : GG) (d : Nat) (p1 : Int32) (k0 : Int32 → Int32 → PH → Option (Int32 × PH)) (r : Int32 × PH) (kk0 : ∀ (y2 : Int32) (y3 : Int32) (hy : PH), k0 y2 y3 hy = some r → Vx G tm_crumbs (d + 1) 161 [some (.ref (gB G + 104)), some (.int p1), some (.int y2), some (.int y3), none, none] [] hy (some (.int r.1)) r.2) : ∀ (n : Nat) (v2 : Int32) (v3 : Int32) (v4 : Int32) (hv : PH), mm_crumbs_L55 p1 k0 n v2 v3 v4 hv = some r → Vx G tm_crumbs (d + 1) 55 [some (.ref (gB G + 104)), some (.int p1), some (.int v2), some (.int v3), some (.int v4), none] [] hv (some (.int r.1)) r.2 := by
  intro n
  induction n with
  | zero => intro v2 v3 v4 hv hm; cases hm
  | succ n ih =>
    intro v2 v3 v4 hv hm
    unfold mm_crumbs_L55 at hm
    refine v_ild_4 dm_crumbs_55 ?_
    refine v_ald_0 dm_crumbs_57 ?_
    refine v_getI dm_crumbs_58 fum_481 sh_104 rf_104_54 ?_
    refine v_cmp_ge dm_crumbs_61 (fun hc => ?_) (fun hc => ?_)
    · replace hm := it hc hm
      exact v_kw (kk0 _ _ _ hm) (wk_s (wk_s (wk_s (wk_s (wk_n (wk_n wk_e))))))
    · replace hm := ie hc hm
      refine v_ald_0 dm_crumbs_64 ?_
      refine v_getR dm_crumbs_65 fum_104 sh_104 rf_104_55 ?_
      refine v_ild_4 dm_crumbs_68 ?_
      obtain ⟨hi, hm⟩ := ck_s hm
      refine v_iald dm_crumbs_70 sh_135 hi ?_
      refine v_j2 (fun (x7 : Int32) (x8 : Int32) => Vx G tm_crumbs (d + 1) 125 [some (.ref (gB G + 104)), some (.int p1), some (.int x7), some (.int x8), some (.int v4), none] [] hv (some (.int r.1)) r.2) hm (fun x7 x8 hm => ?_) (fun j6 kj6 hm => ?_)
      · refine v_bipush (x := 41) dm_crumbs_125 rfl ?_
        refine v_ild_2 dm_crumbs_127 ?_
        refine v_bipush (x := 20) dm_crumbs_128 rfl ?_
        refine v_iadd dm_crumbs_130 ?_
        refine v_imul dm_crumbs_131 ?_
        refine v_ild_3 dm_crumbs_132 ?_
        refine v_iadd dm_crumbs_133 ?_
        refine v_bipush (x := 20) dm_crumbs_134 rfl ?_
        refine v_iadd dm_crumbs_136 ?_
        refine v_top hm (fun x9 hm => ?_)
        refine v_ist_5 dm_crumbs_137 (by decide) rfl ?_
        refine v_ald_0 dm_crumbs_139 ?_
        refine v_getR dm_crumbs_140 fum_107 sh_104 rf_104_56 ?_
        refine v_ild_5 dm_crumbs_143 ?_
        refine v_ald_0 dm_crumbs_145 ?_
        refine v_getR dm_crumbs_146 fum_107 sh_104 rf_104_56 ?_
        refine v_ild_5 dm_crumbs_149 ?_
        obtain ⟨hi, hm⟩ := ck_s hm
        refine v_iald dm_crumbs_151 sh_136 hi ?_
        refine v_iconst (x := 1) dm_crumbs_152 rfl ?_
        refine v_iadd dm_crumbs_153 ?_
        obtain ⟨hi, hm⟩ := ck_s hm
        refine v_iastl dm_crumbs_154 sh_136 hi hm (fun h10 hm => ?_)
        refine v_inc_4 1 dm_crumbs_155 rfl (by decide) rfl ?_
        refine v_goto dm_crumbs_158 ?_
        exact v_kw (ih _ _ _ _ hm) (wk_s (wk_s (wk_s (wk_s (wk_s (wk_n wk_e))))))
      · refine v_j0 (Vx G tm_crumbs (d + 1) 85 [some (.ref (gB G + 104)), some (.int p1), some (.int v2), some (.int v3), some (.int v4), none] [] hv (some (.int r.1)) r.2) hm (fun hm => ?_) (fun j11 kj11 hm => ?_)
        · refine v_ild_2 dm_crumbs_85 ?_
          refine v_ald_0 dm_crumbs_86 ?_
          refine v_getR dm_crumbs_87 fum_104 sh_104 rf_104_55 ?_
          refine v_ild_4 dm_crumbs_90 ?_
          obtain ⟨hi, hm⟩ := ck_s hm
          refine v_iald dm_crumbs_92 sh_135 hi ?_
          refine v_if_ne dm_crumbs_93 (fun hc => ?_) (fun hc => ?_)
          · replace hm := it hc hm
            refine v_iconst (x := 1) dm_crumbs_96 rfl ?_
            refine v_goto dm_crumbs_97 ?_
            refine v_iadd dm_crumbs_101 ?_
            refine v_top hm (fun x12 hm => ?_)
            refine v_ist_2 dm_crumbs_102 (by decide) rfl ?_
            refine v_goto dm_crumbs_103 ?_
            exact v_kw (kj6 _ _ hm) (wk_s (wk_s (wk_s (wk_s (wk_s (wk_n wk_e))))))
          · replace hm := ie hc hm
            refine v_iconst (x := (-1)) dm_crumbs_100 rfl ?_
            refine v_iadd dm_crumbs_101 ?_
            refine v_top hm (fun x13 hm => ?_)
            refine v_ist_2 dm_crumbs_102 (by decide) rfl ?_
            refine v_goto dm_crumbs_103 ?_
            exact v_kw (kj6 _ _ hm) (wk_s (wk_s (wk_s (wk_s (wk_s (wk_n wk_e))))))
        · refine v_if_eq dm_crumbs_71 (fun hc => ?_) (fun hc => ?_)
          · replace hm := it hc hm
            exact v_kw (kj11 hm) (wk_s (wk_s (wk_s (wk_s (wk_s (wk_n wk_e))))))
          · replace hm := ie hc hm
            refine v_ald_0 dm_crumbs_74 ?_
            refine v_getR dm_crumbs_75 fum_104 sh_104 rf_104_55 ?_
            refine v_ild_4 dm_crumbs_78 ?_
            obtain ⟨hi, hm⟩ := ck_s hm
            refine v_iald dm_crumbs_80 sh_135 hi ?_
            refine v_iconst (x := 2) dm_crumbs_81 rfl ?_
            refine v_cmp_ne dm_crumbs_82 (fun hc => ?_) (fun hc => ?_)
            · replace hm := it hc hm
              exact v_kw (kj11 hm) (wk_s (wk_s (wk_s (wk_s (wk_s (wk_n wk_e))))))
            · replace hm := ie hc hm
              refine v_ild_3 dm_crumbs_106 ?_
              refine v_ald_0 dm_crumbs_107 ?_
              refine v_getR dm_crumbs_108 fum_104 sh_104 rf_104_55 ?_
              refine v_ild_4 dm_crumbs_111 ?_
              obtain ⟨hi, hm⟩ := ck_s hm
              refine v_iald dm_crumbs_113 sh_135 hi ?_
              refine v_iconst (x := 1) dm_crumbs_114 rfl ?_
              refine v_cmp_ne dm_crumbs_115 (fun hc => ?_) (fun hc => ?_)
              · replace hm := it hc hm
                refine v_iconst (x := 1) dm_crumbs_118 rfl ?_
                refine v_goto dm_crumbs_119 ?_
                refine v_iadd dm_crumbs_123 ?_
                refine v_top hm (fun x14 hm => ?_)
                refine v_ist_3 dm_crumbs_124 (by decide) rfl ?_
                exact v_kw (kj6 _ _ hm) (wk_s (wk_s (wk_s (wk_s (wk_s (wk_n wk_e))))))
              · replace hm := ie hc hm
                refine v_iconst (x := (-1)) dm_crumbs_122 rfl ?_
                refine v_iadd dm_crumbs_123 ?_
                refine v_top hm (fun x15 hm => ?_)
                refine v_ist_3 dm_crumbs_124 (by decide) rfl ?_
                exact v_kw (kj6 _ _ hm) (wk_s (wk_s (wk_s (wk_s (wk_s (wk_n wk_e))))))
theorem wm_crumbs_L185 (G : GG) (d : Nat) (h0 : PH) (r : Int32 × PH) : ∀ (n : Nat) (v4 : Int32) (v5 : Int32), mm_crumbs_L185 h0 n v4 v5 = some r → Vx G tm_crumbs (d + 1) 185 [some (.ref (gB G + 104)), none, none, none, some (.int v4), some (.int v5)] [] h0 (some (.int r.1)) r.2 := by
  intro n
  induction n with
  | zero => intro v4 v5 hm; cases hm
  | succ n ih =>
    intro v4 v5 hm
    unfold mm_crumbs_L185 at hm
    refine v_ild_5 dm_crumbs_185 ?_
    refine v_sipush (x := 1681) dm_crumbs_187 rfl ?_
    refine v_cmp_ge dm_crumbs_190 (fun hc => ?_) (fun hc => ?_)
    · replace hm := it hc hm
      refine v_ild_4 dm_crumbs_216 ?_
      cases hm
      exact v_iret dm_crumbs_218 rfl
    · replace hm := ie hc hm
      refine v_ald_0 dm_crumbs_193 ?_
      refine v_getR dm_crumbs_194 fum_107 sh_104 rf_104_56 ?_
      refine v_ild_5 dm_crumbs_197 ?_
      obtain ⟨hi, hm⟩ := ck_s hm
      refine v_iald dm_crumbs_199 sh_136 hi ?_
      refine v_iconst (x := 1) dm_crumbs_200 rfl ?_
      refine v_cmp_le dm_crumbs_201 (fun hc => ?_) (fun hc => ?_)
      · replace hm := it hc hm
        refine v_inc_5 1 dm_crumbs_210 rfl (by decide) rfl ?_
        refine v_goto dm_crumbs_213 ?_
        exact v_kw (ih _ _ hm) (wk_s (wk_n (wk_n (wk_n (wk_s (wk_s wk_e))))))
      · replace hm := ie hc hm
        refine v_ild_4 dm_crumbs_204 ?_
        refine v_iconst (x := 1) dm_crumbs_206 rfl ?_
        refine v_iadd dm_crumbs_207 ?_
        refine v_top hm (fun x21 hm => ?_)
        refine v_ist_4 dm_crumbs_208 (by decide) rfl ?_
        refine v_inc_5 1 dm_crumbs_210 rfl (by decide) rfl ?_
        refine v_goto dm_crumbs_213 ?_
        exact v_kw (ih _ _ hm) (wk_s (wk_n (wk_n (wk_n (wk_s (wk_s wk_e))))))
theorem ctm_crumbs (G : GG) (d : Nat) (p1 : Int32) (h0 : PH) (r : Int32 × PH) (hm : mm_crumbs p1 h0 = some r) : Kx G tm_crumbs (d + 1) [.ref (gB G + 104), .int p1] h0 (some (.int r.1)) r.2 := by
  refine K_of_V (by decide) (by simp [cat_i, cat_r, fmtV_cat]) (by simp [tm_crumbs]) ?_
  change Vx G tm_crumbs (d + 1) 0 [some (.ref (gB G + 104)), some (.int p1), none, none, none, none] [] h0 (some (.int r.1)) r.2
  unfold mm_crumbs at hm
  refine v_ald_0 dm_crumbs_0 ?_
  refine v_iconst (x := 0) dm_crumbs_1 rfl ?_
  refine v_putIl dm_crumbs_2 fum_146 ft_12_0 sh_104 rf_104_0 hm (fun h1 hm => ?_)
  refine v_ald_0 dm_crumbs_5 ?_
  refine v_ild_1 dm_crumbs_6 ?_
  refine v_iconst (x := 0) dm_crumbs_7 rfl ?_
  refine v_iconst (x := 1) dm_crumbs_8 rfl ?_
  obtain ⟨r2, he, hm⟩ := bd_s hm
  refine v_cv3i (M' := tm_isIn) dm_crumbs_9 mlm_177 okm_isIn sh_104 hc_12 (Nat.le_of_ble_eq_true rfl) (ctm_isIn G d _ _ _ _ _ he) ?_
  refine v_if_ne dm_crumbs_12 (fun hc => ?_) (fun hc => ?_)
  · replace hm := it hc hm
    refine v_iconst (x := (-1)) dm_crumbs_15 rfl ?_
    cases hm
    exact v_iret dm_crumbs_16 rfl
  · replace hm := ie hc hm
    refine v_iconst (x := 0) dm_crumbs_17 rfl ?_
    refine v_ist_2 dm_crumbs_18 (by decide) rfl ?_
    refine v_kw (wm_crumbs_L19 G d _ _ _ (fun h4 hm => ?_) FU _ _ hm) (wk_s (wk_s (wk_s (wk_n (wk_n (wk_n wk_e))))))
    refine v_iconst (x := 0) dm_crumbs_39 rfl ?_
    refine v_ist_2 dm_crumbs_40 (by decide) rfl ?_
    refine v_iconst (x := 0) dm_crumbs_41 rfl ?_
    refine v_ist_3 dm_crumbs_42 (by decide) rfl ?_
    refine v_ald_0 dm_crumbs_43 ?_
    refine v_getR dm_crumbs_44 fum_107 sh_104 rf_104_56 ?_
    refine v_sipush (x := 840) dm_crumbs_47 rfl ?_
    refine v_iconst (x := 1) dm_crumbs_50 rfl ?_
    obtain ⟨hi, hm⟩ := ck_s hm
    refine v_iastl dm_crumbs_51 sh_136 hi hm (fun h5 hm => ?_)
    refine v_iconst (x := 0) dm_crumbs_52 rfl ?_
    refine v_ist_4 dm_crumbs_53 (by decide) rfl ?_
    refine v_kw (wm_crumbs_L55 G d _ _ _ (fun x16 x17 h18 hm => ?_) FU _ _ _ _ hm) (wk_s (wk_s (wk_s (wk_s (wk_s (wk_n wk_e))))))
    refine v_ild_1 dm_crumbs_161 ?_
    refine v_if_ne dm_crumbs_162 (fun hc => ?_) (fun hc => ?_)
    · replace hm := it hc hm
      refine v_ald_0 dm_crumbs_165 ?_
      refine v_ild_2 dm_crumbs_166 ?_
      refine v_iconst (x := 0) dm_crumbs_167 rfl ?_
      obtain ⟨r19, he, hm⟩ := bd_s hm
      refine v_cv2i (M' := tm_apart) dm_crumbs_168 mlm_472 okm_apart sh_104 hc_12 (Nat.le_of_ble_eq_true rfl) (ctm_apart G d _ _ _ _ he) ?_
      refine v_ald_0 dm_crumbs_171 ?_
      refine v_ild_3 dm_crumbs_172 ?_
      refine v_iconst (x := 0) dm_crumbs_173 rfl ?_
      obtain ⟨r20, he, hm⟩ := bd_s hm
      refine v_cv2i (M' := tm_apart) dm_crumbs_174 mlm_472 okm_apart sh_104 hc_12 (Nat.le_of_ble_eq_true rfl) (ctm_apart G d _ _ _ _ he) ?_
      refine v_iadd dm_crumbs_177 ?_
      cases hm
      exact v_iret dm_crumbs_178 rfl
    · replace hm := ie hc hm
      refine v_iconst (x := 0) dm_crumbs_179 rfl ?_
      refine v_ist_4 dm_crumbs_180 (by decide) rfl ?_
      refine v_iconst (x := 0) dm_crumbs_182 rfl ?_
      refine v_ist_5 dm_crumbs_183 (by decide) rfl ?_
      exact v_kw (wm_crumbs_L185 G d _ _ FU _ _ hm) (wk_s (wk_n (wk_n (wk_n (wk_s (wk_s wk_e))))))
def mm_loaf (p1 : Int32) (p2 : Int32) (h0 : PH) : Option (Int32 × PH) :=
  lt (up h0 104 0 0) fun h1 =>
  if p1 = (-1) then
    lt (up h1 104 57 0) fun h2 =>
    some (0, h2)
  else
    bd (mm_isIn p1 1 30 h1) fun r3 =>
    if r3 = 0 then
      some ((-1), h1)
    else
      bd (mm_isIn p2 1 30 h1) fun r4 =>
      if r4 = 0 then
        some ((-1), h1)
      else
        if (h1 104 57) = 6 then
          some ((-1), h1)
        else
          ck (h1 104 57) 6 <|
          lt (up h1 137 (ix (h1 104 57)) p1) fun h5 =>
          ck (h5 104 57) 6 <|
          lt (up h5 138 (ix (h5 104 57)) p2) fun h6 =>
          lt (up h6 104 57 ((h6 104 57) + 1)) fun h7 =>
          some (h7 104 57, h7)
theorem ctm_loaf (G : GG) (d : Nat) (p1 : Int32) (p2 : Int32) (h0 : PH) (r : Int32 × PH) (hm : mm_loaf p1 p2 h0 = some r) : Kx G tm_loaf (d + 1) [.ref (gB G + 104), .int p1, .int p2] h0 (some (.int r.1)) r.2 := by
  refine K_of_V (by decide) (by simp [cat_i, cat_r, fmtV_cat]) (by simp [tm_loaf]) ?_
  change Vx G tm_loaf (d + 1) 0 [some (.ref (gB G + 104)), some (.int p1), some (.int p2)] [] h0 (some (.int r.1)) r.2
  unfold mm_loaf at hm
  refine v_ald_0 dm_loaf_0 ?_
  refine v_iconst (x := 0) dm_loaf_1 rfl ?_
  refine v_putIl dm_loaf_2 fum_146 ft_12_0 sh_104 rf_104_0 hm (fun h1 hm => ?_)
  refine v_ild_1 dm_loaf_5 ?_
  refine v_iconst (x := (-1)) dm_loaf_6 rfl ?_
  refine v_cmp_ne dm_loaf_7 (fun hc => ?_) (fun hc => ?_)
  · replace hm := it hc hm
    refine v_ald_0 dm_loaf_10 ?_
    refine v_iconst (x := 0) dm_loaf_11 rfl ?_
    refine v_putIl dm_loaf_12 fum_484 ft_12_57 sh_104 rf_104_57 hm (fun h2 hm => ?_)
    refine v_iconst (x := 0) dm_loaf_15 rfl ?_
    cases hm
    exact v_iret dm_loaf_16 rfl
  · replace hm := ie hc hm
    refine v_ald_0 dm_loaf_17 ?_
    refine v_ild_1 dm_loaf_18 ?_
    refine v_iconst (x := 1) dm_loaf_19 rfl ?_
    refine v_bipush (x := 30) dm_loaf_20 rfl ?_
    obtain ⟨r3, he, hm⟩ := bd_s hm
    refine v_cv3i (M' := tm_isIn) dm_loaf_22 mlm_177 okm_isIn sh_104 hc_12 (Nat.le_of_ble_eq_true rfl) (ctm_isIn G d _ _ _ _ _ he) ?_
    refine v_if_eq dm_loaf_25 (fun hc => ?_) (fun hc => ?_)
    · replace hm := it hc hm
      refine v_iconst (x := (-1)) dm_loaf_48 rfl ?_
      cases hm
      exact v_iret dm_loaf_49 rfl
    · replace hm := ie hc hm
      refine v_ald_0 dm_loaf_28 ?_
      refine v_ild_2 dm_loaf_29 ?_
      refine v_iconst (x := 1) dm_loaf_30 rfl ?_
      refine v_bipush (x := 30) dm_loaf_31 rfl ?_
      obtain ⟨r4, he, hm⟩ := bd_s hm
      refine v_cv3i (M' := tm_isIn) dm_loaf_33 mlm_177 okm_isIn sh_104 hc_12 (Nat.le_of_ble_eq_true rfl) (ctm_isIn G d _ _ _ _ _ he) ?_
      refine v_if_eq dm_loaf_36 (fun hc => ?_) (fun hc => ?_)
      · replace hm := it hc hm
        refine v_iconst (x := (-1)) dm_loaf_48 rfl ?_
        cases hm
        exact v_iret dm_loaf_49 rfl
      · replace hm := ie hc hm
        refine v_ald_0 dm_loaf_39 ?_
        refine v_getI dm_loaf_40 fum_484 sh_104 rf_104_57 ?_
        refine v_bipush (x := 6) dm_loaf_43 rfl ?_
        refine v_cmp_ne dm_loaf_45 (fun hc => ?_) (fun hc => ?_)
        · replace hm := it hc hm
          refine v_iconst (x := (-1)) dm_loaf_48 rfl ?_
          cases hm
          exact v_iret dm_loaf_49 rfl
        · replace hm := ie hc hm
          refine v_ald_0 dm_loaf_50 ?_
          refine v_getR dm_loaf_51 fum_110 sh_104 rf_104_58 ?_
          refine v_ald_0 dm_loaf_54 ?_
          refine v_getI dm_loaf_55 fum_484 sh_104 rf_104_57 ?_
          refine v_ild_1 dm_loaf_58 ?_
          obtain ⟨hi, hm⟩ := ck_s hm
          refine v_iastl dm_loaf_59 sh_137 hi hm (fun h5 hm => ?_)
          refine v_ald_0 dm_loaf_60 ?_
          refine v_getR dm_loaf_61 fum_113 sh_104 rf_104_59 ?_
          refine v_ald_0 dm_loaf_64 ?_
          refine v_getI dm_loaf_65 fum_484 sh_104 rf_104_57 ?_
          refine v_ild_2 dm_loaf_68 ?_
          obtain ⟨hi, hm⟩ := ck_s hm
          refine v_iastl dm_loaf_69 sh_138 hi hm (fun h6 hm => ?_)
          refine v_ald_0 dm_loaf_70 ?_
          refine v_ald_0 dm_loaf_71 ?_
          refine v_getI dm_loaf_72 fum_484 sh_104 rf_104_57 ?_
          refine v_iconst (x := 1) dm_loaf_75 rfl ?_
          refine v_iadd dm_loaf_76 ?_
          refine v_putIl dm_loaf_77 fum_484 ft_12_57 sh_104 rf_104_57 hm (fun h7 hm => ?_)
          refine v_ald_0 dm_loaf_80 ?_
          refine v_getI dm_loaf_81 fum_484 sh_104 rf_104_57 ?_
          cases hm
          exact v_iret dm_loaf_84 rfl
def mm_goesToNextOrder_L7 (h0 : PH) (k0 : Int32 → Option (Int32 × PH)) : Nat → Int32 → Option (Int32 × PH)
  | 0, _ => none
  | n + 1, v1 =>
    if v1 < 0 then
      k0 v1
    else
      ck v1 6 <|
      ck (v1 + 1) 6 <|
      if (h0 139 (ix v1)) ≤ (h0 139 (ix (v1 + 1))) then
        k0 v1
      else
        lt (v1 - 1) fun x2 =>
        mm_goesToNextOrder_L7 h0 k0 n x2
def mm_goesToNextOrder_L48 (p1 : Int32) (h0 : PH) (k0 : Int32 → Option (Int32 × PH)) : Nat → Int32 → Option (Int32 × PH)
  | 0, _ => none
  | n + 1, v2 =>
    ck v2 6 <|
    ck p1 6 <|
    if (h0 139 (ix p1)) ≤ (h0 139 (ix v2)) then
      k0 v2
    else
      lt (v2 - 1) fun x5 =>
      mm_goesToNextOrder_L48 p1 h0 k0 n x5
def mm_goesToNextOrder_L109 : Nat → Int32 → Int32 → PH → Option (Int32 × PH)
  | 0, _, _, _ => none
  | n + 1, v4, v5, hv =>
    if v4 ≤ v5 then
      some (1, hv)
    else
      ck v5 6 <|
      lt (hv 139 (ix v5)) fun x12 =>
      ck v4 6 <|
      ck v5 6 <|
      lt (up hv 139 (ix v5) (hv 139 (ix v4))) fun h13 =>
      ck v4 6 <|
      lt (up h13 139 (ix v4) x12) fun h14 =>
      lt (v4 - 1) fun x15 =>
      mm_goesToNextOrder_L109 n x15 (v5 + 1) h14
def mm_goesToNextOrder (h0 : PH) : Option (Int32 × PH) :=
  lt ((h0 104 57) - 2) fun x1 =>
  mm_goesToNextOrder_L7 h0 (fun (x3 : Int32) =>
    if 0 ≤ x3 then
      lt ((h0 104 57) - 1) fun x4 =>
      mm_goesToNextOrder_L48 x3 h0 (fun (x6 : Int32) =>
        ck x3 6 <|
        lt (h0 139 (ix x3)) fun x7 =>
        ck x6 6 <|
        ck x3 6 <|
        lt (up h0 139 (ix x3) (h0 139 (ix x6))) fun h8 =>
        ck x6 6 <|
        lt (up h8 139 (ix x6) x7) fun h9 =>
        lt ((h9 104 57) - 1) fun x10 =>
        lt (x3 + 1) fun x11 =>
        mm_goesToNextOrder_L109 FU x10 x11 h9) FU x4
    else
      some (0, h0)) FU x1
theorem wm_goesToNextOrder_L7 (G : GG) (d : Nat) (h0 : PH) (k0 : Int32 → Option (Int32 × PH)) (r : Int32 × PH) (kk0 : ∀ (y1 : Int32), k0 y1 = some r → Vx G tm_goesToNextOrder d 35 [some (.ref (gB G + 104)), some (.int y1), none, none, none, none] [] h0 (some (.int r.1)) r.2) : ∀ (n : Nat) (v1 : Int32), mm_goesToNextOrder_L7 h0 k0 n v1 = some r → Vx G tm_goesToNextOrder d 7 [some (.ref (gB G + 104)), some (.int v1), none, none, none, none] [] h0 (some (.int r.1)) r.2 := by
  intro n
  induction n with
  | zero => intro v1 hm; cases hm
  | succ n ih =>
    intro v1 hm
    unfold mm_goesToNextOrder_L7 at hm
    refine v_ild_1 dm_goesToNextOrder_7 ?_
    refine v_if_lt dm_goesToNextOrder_8 (fun hc => ?_) (fun hc => ?_)
    · replace hm := it hc hm
      exact v_kw (kk0 _ hm) (wk_s (wk_s (wk_n (wk_n (wk_n (wk_n wk_e))))))
    · replace hm := ie hc hm
      refine v_ald_0 dm_goesToNextOrder_11 ?_
      refine v_getR dm_goesToNextOrder_12 fum_116 sh_104 rf_104_60 ?_
      refine v_ild_1 dm_goesToNextOrder_15 ?_
      obtain ⟨hi, hm⟩ := ck_s hm
      refine v_iald dm_goesToNextOrder_16 sh_139 hi ?_
      refine v_ald_0 dm_goesToNextOrder_17 ?_
      refine v_getR dm_goesToNextOrder_18 fum_116 sh_104 rf_104_60 ?_
      refine v_ild_1 dm_goesToNextOrder_21 ?_
      refine v_iconst (x := 1) dm_goesToNextOrder_22 rfl ?_
      refine v_iadd dm_goesToNextOrder_23 ?_
      obtain ⟨hi, hm⟩ := ck_s hm
      refine v_iald dm_goesToNextOrder_24 sh_139 hi ?_
      refine v_cmp_le dm_goesToNextOrder_25 (fun hc => ?_) (fun hc => ?_)
      · replace hm := it hc hm
        exact v_kw (kk0 _ hm) (wk_s (wk_s (wk_n (wk_n (wk_n (wk_n wk_e))))))
      · replace hm := ie hc hm
        refine v_ild_1 dm_goesToNextOrder_28 ?_
        refine v_iconst (x := 1) dm_goesToNextOrder_29 rfl ?_
        refine v_isub dm_goesToNextOrder_30 ?_
        refine v_top hm (fun x2 hm => ?_)
        refine v_ist_1 dm_goesToNextOrder_31 (by decide) rfl ?_
        refine v_goto dm_goesToNextOrder_32 ?_
        exact v_kw (ih _ hm) (wk_s (wk_s (wk_n (wk_n (wk_n (wk_n wk_e))))))
theorem wm_goesToNextOrder_L48 (G : GG) (d : Nat) (p1 : Int32) (h0 : PH) (k0 : Int32 → Option (Int32 × PH)) (r : Int32 × PH) (kk0 : ∀ (y2 : Int32), k0 y2 = some r → Vx G tm_goesToNextOrder d 70 [some (.ref (gB G + 104)), some (.int p1), some (.int y2), none, none, none] [] h0 (some (.int r.1)) r.2) : ∀ (n : Nat) (v2 : Int32), mm_goesToNextOrder_L48 p1 h0 k0 n v2 = some r → Vx G tm_goesToNextOrder d 48 [some (.ref (gB G + 104)), some (.int p1), some (.int v2), none, none, none] [] h0 (some (.int r.1)) r.2 := by
  intro n
  induction n with
  | zero => intro v2 hm; cases hm
  | succ n ih =>
    intro v2 hm
    unfold mm_goesToNextOrder_L48 at hm
    refine v_ald_0 dm_goesToNextOrder_48 ?_
    refine v_getR dm_goesToNextOrder_49 fum_116 sh_104 rf_104_60 ?_
    refine v_ild_2 dm_goesToNextOrder_52 ?_
    obtain ⟨hi, hm⟩ := ck_s hm
    refine v_iald dm_goesToNextOrder_53 sh_139 hi ?_
    refine v_ald_0 dm_goesToNextOrder_54 ?_
    refine v_getR dm_goesToNextOrder_55 fum_116 sh_104 rf_104_60 ?_
    refine v_ild_1 dm_goesToNextOrder_58 ?_
    obtain ⟨hi, hm⟩ := ck_s hm
    refine v_iald dm_goesToNextOrder_59 sh_139 hi ?_
    refine v_cmp_ge dm_goesToNextOrder_60 (fun hc => ?_) (fun hc => ?_)
    · replace hm := it hc hm
      exact v_kw (kk0 _ hm) (wk_s (wk_s (wk_s (wk_n (wk_n (wk_n wk_e))))))
    · replace hm := ie hc hm
      refine v_ild_2 dm_goesToNextOrder_63 ?_
      refine v_iconst (x := 1) dm_goesToNextOrder_64 rfl ?_
      refine v_isub dm_goesToNextOrder_65 ?_
      refine v_top hm (fun x5 hm => ?_)
      refine v_ist_2 dm_goesToNextOrder_66 (by decide) rfl ?_
      refine v_goto dm_goesToNextOrder_67 ?_
      exact v_kw (ih _ hm) (wk_s (wk_s (wk_s (wk_n (wk_n (wk_n wk_e))))))
theorem wm_goesToNextOrder_L109 (G : GG) (d : Nat)  (r : Int32 × PH) : ∀ (n : Nat) (v4 : Int32) (v5 : Int32) (hv : PH), mm_goesToNextOrder_L109  n v4 v5 hv = some r → Vx G tm_goesToNextOrder d 109 [some (.ref (gB G + 104)), none, none, none, some (.int v4), some (.int v5)] [] hv (some (.int r.1)) r.2 := by
  intro n
  induction n with
  | zero => intro v4 v5 hv hm; cases hm
  | succ n ih =>
    intro v4 v5 hv hm
    unfold mm_goesToNextOrder_L109 at hm
    refine v_ild_5 dm_goesToNextOrder_109 ?_
    refine v_ild_4 dm_goesToNextOrder_111 ?_
    refine v_cmp_ge dm_goesToNextOrder_113 (fun hc => ?_) (fun hc => ?_)
    · replace hm := it hc hm
      refine v_iconst (x := 1) dm_goesToNextOrder_158 rfl ?_
      cases hm
      exact v_zret1 dm_goesToNextOrder_159 rfl
    · replace hm := ie hc hm
      refine v_ald_0 dm_goesToNextOrder_116 ?_
      refine v_getR dm_goesToNextOrder_117 fum_116 sh_104 rf_104_60 ?_
      refine v_ild_5 dm_goesToNextOrder_120 ?_
      obtain ⟨hi, hm⟩ := ck_s hm
      refine v_iald dm_goesToNextOrder_122 sh_139 hi ?_
      refine v_top hm (fun x12 hm => ?_)
      refine v_ist_3 dm_goesToNextOrder_123 (by decide) rfl ?_
      refine v_ald_0 dm_goesToNextOrder_124 ?_
      refine v_getR dm_goesToNextOrder_125 fum_116 sh_104 rf_104_60 ?_
      refine v_ild_5 dm_goesToNextOrder_128 ?_
      refine v_ald_0 dm_goesToNextOrder_130 ?_
      refine v_getR dm_goesToNextOrder_131 fum_116 sh_104 rf_104_60 ?_
      refine v_ild_4 dm_goesToNextOrder_134 ?_
      obtain ⟨hi, hm⟩ := ck_s hm
      refine v_iald dm_goesToNextOrder_136 sh_139 hi ?_
      obtain ⟨hi, hm⟩ := ck_s hm
      refine v_iastl dm_goesToNextOrder_137 sh_139 hi hm (fun h13 hm => ?_)
      refine v_ald_0 dm_goesToNextOrder_138 ?_
      refine v_getR dm_goesToNextOrder_139 fum_116 sh_104 rf_104_60 ?_
      refine v_ild_4 dm_goesToNextOrder_142 ?_
      refine v_ild_3 dm_goesToNextOrder_144 ?_
      obtain ⟨hi, hm⟩ := ck_s hm
      refine v_iastl dm_goesToNextOrder_145 sh_139 hi hm (fun h14 hm => ?_)
      refine v_ild_4 dm_goesToNextOrder_146 ?_
      refine v_iconst (x := 1) dm_goesToNextOrder_148 rfl ?_
      refine v_isub dm_goesToNextOrder_149 ?_
      refine v_top hm (fun x15 hm => ?_)
      refine v_ist_4 dm_goesToNextOrder_150 (by decide) rfl ?_
      refine v_inc_5 1 dm_goesToNextOrder_152 rfl (by decide) rfl ?_
      refine v_goto dm_goesToNextOrder_155 ?_
      exact v_kw (ih _ _ _ hm) (wk_s (wk_n (wk_n (wk_n (wk_s (wk_s wk_e))))))
theorem ctm_goesToNextOrder (G : GG) (d : Nat) (h0 : PH) (r : Int32 × PH) (hm : mm_goesToNextOrder h0 = some r) : Kx G tm_goesToNextOrder d [.ref (gB G + 104)] h0 (some (.int r.1)) r.2 := by
  refine K_of_V (by decide) (by simp [cat_i, cat_r, fmtV_cat]) (by simp [tm_goesToNextOrder]) ?_
  change Vx G tm_goesToNextOrder d 0 [some (.ref (gB G + 104)), none, none, none, none, none] [] h0 (some (.int r.1)) r.2
  unfold mm_goesToNextOrder at hm
  refine v_ald_0 dm_goesToNextOrder_0 ?_
  refine v_getI dm_goesToNextOrder_1 fum_484 sh_104 rf_104_57 ?_
  refine v_iconst (x := 2) dm_goesToNextOrder_4 rfl ?_
  refine v_isub dm_goesToNextOrder_5 ?_
  refine v_top hm (fun x1 hm => ?_)
  refine v_ist_1 dm_goesToNextOrder_6 (by decide) rfl ?_
  refine v_kw (wm_goesToNextOrder_L7 G d _ _ _ (fun x3 hm => ?_) FU _ hm) (wk_s (wk_s (wk_n (wk_n (wk_n (wk_n wk_e))))))
  refine v_ild_1 dm_goesToNextOrder_35 ?_
  refine v_if_ge dm_goesToNextOrder_36 (fun hc => ?_) (fun hc => ?_)
  · replace hm := it hc hm
    refine v_ald_0 dm_goesToNextOrder_41 ?_
    refine v_getI dm_goesToNextOrder_42 fum_484 sh_104 rf_104_57 ?_
    refine v_iconst (x := 1) dm_goesToNextOrder_45 rfl ?_
    refine v_isub dm_goesToNextOrder_46 ?_
    refine v_top hm (fun x4 hm => ?_)
    refine v_ist_2 dm_goesToNextOrder_47 (by decide) rfl ?_
    refine v_kw (wm_goesToNextOrder_L48 G d _ _ _ _ (fun x6 hm => ?_) FU _ hm) (wk_s (wk_s (wk_s (wk_n (wk_n (wk_n wk_e))))))
    refine v_ald_0 dm_goesToNextOrder_70 ?_
    refine v_getR dm_goesToNextOrder_71 fum_116 sh_104 rf_104_60 ?_
    refine v_ild_1 dm_goesToNextOrder_74 ?_
    obtain ⟨hi, hm⟩ := ck_s hm
    refine v_iald dm_goesToNextOrder_75 sh_139 hi ?_
    refine v_top hm (fun x7 hm => ?_)
    refine v_ist_3 dm_goesToNextOrder_76 (by decide) rfl ?_
    refine v_ald_0 dm_goesToNextOrder_77 ?_
    refine v_getR dm_goesToNextOrder_78 fum_116 sh_104 rf_104_60 ?_
    refine v_ild_1 dm_goesToNextOrder_81 ?_
    refine v_ald_0 dm_goesToNextOrder_82 ?_
    refine v_getR dm_goesToNextOrder_83 fum_116 sh_104 rf_104_60 ?_
    refine v_ild_2 dm_goesToNextOrder_86 ?_
    obtain ⟨hi, hm⟩ := ck_s hm
    refine v_iald dm_goesToNextOrder_87 sh_139 hi ?_
    obtain ⟨hi, hm⟩ := ck_s hm
    refine v_iastl dm_goesToNextOrder_88 sh_139 hi hm (fun h8 hm => ?_)
    refine v_ald_0 dm_goesToNextOrder_89 ?_
    refine v_getR dm_goesToNextOrder_90 fum_116 sh_104 rf_104_60 ?_
    refine v_ild_2 dm_goesToNextOrder_93 ?_
    refine v_ild_3 dm_goesToNextOrder_94 ?_
    obtain ⟨hi, hm⟩ := ck_s hm
    refine v_iastl dm_goesToNextOrder_95 sh_139 hi hm (fun h9 hm => ?_)
    refine v_ald_0 dm_goesToNextOrder_96 ?_
    refine v_getI dm_goesToNextOrder_97 fum_484 sh_104 rf_104_57 ?_
    refine v_iconst (x := 1) dm_goesToNextOrder_100 rfl ?_
    refine v_isub dm_goesToNextOrder_101 ?_
    refine v_top hm (fun x10 hm => ?_)
    refine v_ist_4 dm_goesToNextOrder_102 (by decide) rfl ?_
    refine v_ild_1 dm_goesToNextOrder_104 ?_
    refine v_iconst (x := 1) dm_goesToNextOrder_105 rfl ?_
    refine v_iadd dm_goesToNextOrder_106 ?_
    refine v_top hm (fun x11 hm => ?_)
    refine v_ist_5 dm_goesToNextOrder_107 (by decide) rfl ?_
    exact v_kw (wm_goesToNextOrder_L109 G d  _ FU _ _ _ hm) (wk_s (wk_n (wk_n (wk_n (wk_s (wk_s wk_e))))))
  · replace hm := ie hc hm
    refine v_iconst (x := 0) dm_goesToNextOrder_39 rfl ?_
    cases hm
    exact v_zret0 dm_goesToNextOrder_40 rfl
def mm_doneBy_L6 (h0 : PH) : Nat → Int32 → Int32 → Int32 → Option (Int32)
  | 0, _, _, _ => none
  | n + 1, v1, v2, v3 =>
    if (h0 104 57) ≤ v3 then
      some v2
    else
      ck v3 6 <|
      ck (h0 139 (ix v3)) 6 <|
      lt (v1 + (h0 137 (ix (h0 139 (ix v3))))) fun x1 =>
      bd (mm_greater x1 v2 h0) fun r2 =>
      ck v3 6 <|
      ck (h0 139 (ix v3)) 6 <|
      lt (r2 + (h0 138 (ix (h0 139 (ix v3))))) fun x3 =>
      mm_doneBy_L6 h0 n x1 x3 (v3 + 1)
def mm_doneBy (h0 : PH) : Option (Int32) :=
  mm_doneBy_L6 h0 FU 0 0 0
theorem wm_doneBy_L6 (G : GG) (d : Nat) (h0 : PH) (r : Int32) : ∀ (n : Nat) (v1 : Int32) (v2 : Int32) (v3 : Int32), mm_doneBy_L6 h0 n v1 v2 v3 = some r → Vx G tm_doneBy (d + 1) 6 [some (.ref (gB G + 104)), some (.int v1), some (.int v2), some (.int v3)] [] h0 (some (.int r)) h0 := by
  intro n
  induction n with
  | zero => intro v1 v2 v3 hm; cases hm
  | succ n ih =>
    intro v1 v2 v3 hm
    unfold mm_doneBy_L6 at hm
    refine v_ild_3 dm_doneBy_6 ?_
    refine v_ald_0 dm_doneBy_7 ?_
    refine v_getI dm_doneBy_8 fum_484 sh_104 rf_104_57 ?_
    refine v_cmp_ge dm_doneBy_11 (fun hc => ?_) (fun hc => ?_)
    · replace hm := it hc hm
      refine v_ild_2 dm_doneBy_53 ?_
      cases hm
      exact v_iret dm_doneBy_54 rfl
    · replace hm := ie hc hm
      refine v_ild_1 dm_doneBy_14 ?_
      refine v_ald_0 dm_doneBy_15 ?_
      refine v_getR dm_doneBy_16 fum_110 sh_104 rf_104_58 ?_
      refine v_ald_0 dm_doneBy_19 ?_
      refine v_getR dm_doneBy_20 fum_116 sh_104 rf_104_60 ?_
      refine v_ild_3 dm_doneBy_23 ?_
      obtain ⟨hi, hm⟩ := ck_s hm
      refine v_iald dm_doneBy_24 sh_139 hi ?_
      obtain ⟨hi, hm⟩ := ck_s hm
      refine v_iald dm_doneBy_25 sh_137 hi ?_
      refine v_iadd dm_doneBy_26 ?_
      refine v_top hm (fun x1 hm => ?_)
      refine v_ist_1 dm_doneBy_27 (by decide) rfl ?_
      refine v_ald_0 dm_doneBy_28 ?_
      refine v_ild_1 dm_doneBy_29 ?_
      refine v_ild_2 dm_doneBy_30 ?_
      obtain ⟨r2, he, hm⟩ := bd_s hm
      refine v_cv2i (M' := tm_greater) dm_doneBy_31 mlm_385 okm_greater sh_104 hc_12 (Nat.le_of_ble_eq_true rfl) (ctm_greater G d _ _ _ _ he) ?_
      refine v_ald_0 dm_doneBy_34 ?_
      refine v_getR dm_doneBy_35 fum_113 sh_104 rf_104_59 ?_
      refine v_ald_0 dm_doneBy_38 ?_
      refine v_getR dm_doneBy_39 fum_116 sh_104 rf_104_60 ?_
      refine v_ild_3 dm_doneBy_42 ?_
      obtain ⟨hi, hm⟩ := ck_s hm
      refine v_iald dm_doneBy_43 sh_139 hi ?_
      obtain ⟨hi, hm⟩ := ck_s hm
      refine v_iald dm_doneBy_44 sh_138 hi ?_
      refine v_iadd dm_doneBy_45 ?_
      refine v_top hm (fun x3 hm => ?_)
      refine v_ist_2 dm_doneBy_46 (by decide) rfl ?_
      refine v_inc_3 1 dm_doneBy_47 rfl (by decide) rfl ?_
      refine v_goto dm_doneBy_50 ?_
      exact v_kw (ih _ _ _ hm) (wk_s (wk_s (wk_s (wk_s wk_e))))
theorem ctm_doneBy (G : GG) (d : Nat) (h0 : PH) (r : Int32) (hm : mm_doneBy h0 = some r) : Kx G tm_doneBy (d + 1) [.ref (gB G + 104)] h0 (some (.int r)) h0 := by
  refine K_of_V (by decide) (by simp [cat_i, cat_r, fmtV_cat]) (by simp [tm_doneBy]) ?_
  change Vx G tm_doneBy (d + 1) 0 [some (.ref (gB G + 104)), none, none, none] [] h0 (some (.int r)) h0
  unfold mm_doneBy at hm
  refine v_iconst (x := 0) dm_doneBy_0 rfl ?_
  refine v_ist_1 dm_doneBy_1 (by decide) rfl ?_
  refine v_iconst (x := 0) dm_doneBy_2 rfl ?_
  refine v_ist_2 dm_doneBy_3 (by decide) rfl ?_
  refine v_iconst (x := 0) dm_doneBy_4 rfl ?_
  refine v_ist_3 dm_doneBy_5 (by decide) rfl ?_
  exact v_kw (wm_doneBy_L6 G d _ _ FU _ _ _ hm) (wk_s (wk_s (wk_s (wk_s wk_e))))
def mm_ovens_L30 (p1 : Int32) (k0 : PH → Option (Int32 × PH)) : Nat → Int32 → PH → Option (Int32 × PH)
  | 0, _, _ => none
  | n + 1, v2, hv =>
    if (hv 104 57) ≤ v2 then
      k0 hv
    else
      ck v2 6 <|
      lt (up hv 139 (ix v2) v2) fun h3 =>
      mm_ovens_L30 p1 k0 n (v2 + 1) h3
def mm_ovens_L70 (p1 : Int32) (p2 : Int32) (p4 : Int32) (k0 : PH → Option (Int32 × PH)) : Nat → Int32 → PH → Option (Int32 × PH)
  | 0, _, _ => none
  | n + 1, v5, hv =>
    if (hv 104 57) ≤ v5 then
      k0 hv
    else
      if p2 ≤ p4 then
        k0 hv
      else
        ck v5 6 <|
        ck v5 6 <|
        lt (up hv 140 (ix v5) (hv 139 (ix v5))) fun h6 =>
        mm_ovens_L70 p1 p2 p4 k0 n (v5 + 1) h6
def mm_ovens_L57 (p1 : Int32) (k0 : Int32 → PH → Option (Int32 × PH)) : Nat → Int32 → Int32 → PH → Option (Int32 × PH)
  | 0, _, _, _ => none
  | n + 1, v2, v3, hv =>
    if v3 = 0 then
      k0 v2 hv
    else
      bd (mm_doneBy hv) fun r5 =>
      mm_ovens_L70 p1 v2 r5 (fun (h7 : PH) =>
        bd (mm_lesser v2 r5 h7) fun r8 =>
        bd2 (mm_goesToNextOrder h7) fun r9 h10 =>
        mm_ovens_L57 p1 k0 n r8 r9 h10) FU 0 hv
def mm_ovens (p1 : Int32) (h0 : PH) : Option (Int32 × PH) :=
  lt (up h0 104 0 0) fun h1 =>
  jn0 (mm_ovens_L30 p1 (fun (h4 : PH) =>
      mm_ovens_L57 p1 (fun (x11 : Int32) (h12 : PH) =>
        if p1 = 0 then
          some (x11, h12)
        else
          ck (p1 - 10) 6 <|
          some (h12 140 (ix (p1 - 10)), h12)) FU 100000000 1 h4) FU 0 h1) fun j2 =>
  if p1 = 0 then
    j2
  else
    bd (mm_isIn p1 10 (9 + (h1 104 57)) h1) fun r13 =>
    if r13 = 0 then
      some ((-1), h1)
    else
      j2
theorem wm_ovens_L30 (G : GG) (d : Nat) (p1 : Int32) (k0 : PH → Option (Int32 × PH)) (r : Int32 × PH) (kk0 : ∀ (hy : PH), k0 hy = some r → Vx G tm_ovens (d + 2) 51 [some (.ref (gB G + 104)), some (.int p1), none, none, none, none] [] hy (some (.int r.1)) r.2) : ∀ (n : Nat) (v2 : Int32) (hv : PH), mm_ovens_L30 p1 k0 n v2 hv = some r → Vx G tm_ovens (d + 2) 30 [some (.ref (gB G + 104)), some (.int p1), some (.int v2), none, none, none] [] hv (some (.int r.1)) r.2 := by
  intro n
  induction n with
  | zero => intro v2 hv hm; cases hm
  | succ n ih =>
    intro v2 hv hm
    unfold mm_ovens_L30 at hm
    refine v_ild_2 dm_ovens_30 ?_
    refine v_ald_0 dm_ovens_31 ?_
    refine v_getI dm_ovens_32 fum_484 sh_104 rf_104_57 ?_
    refine v_cmp_ge dm_ovens_35 (fun hc => ?_) (fun hc => ?_)
    · replace hm := it hc hm
      exact v_kw (kk0 _ hm) (wk_s (wk_s (wk_n (wk_n (wk_n (wk_n wk_e))))))
    · replace hm := ie hc hm
      refine v_ald_0 dm_ovens_38 ?_
      refine v_getR dm_ovens_39 fum_116 sh_104 rf_104_60 ?_
      refine v_ild_2 dm_ovens_42 ?_
      refine v_ild_2 dm_ovens_43 ?_
      obtain ⟨hi, hm⟩ := ck_s hm
      refine v_iastl dm_ovens_44 sh_139 hi hm (fun h3 hm => ?_)
      refine v_inc_2 1 dm_ovens_45 rfl (by decide) rfl ?_
      refine v_goto dm_ovens_48 ?_
      exact v_kw (ih _ _ hm) (wk_s (wk_s (wk_s (wk_n (wk_n (wk_n wk_e))))))
theorem wm_ovens_L70 (G : GG) (d : Nat) (p1 : Int32) (p2 : Int32) (p4 : Int32) (k0 : PH → Option (Int32 × PH)) (r : Int32 × PH) (kk0 : ∀ (hy : PH), k0 hy = some r → Vx G tm_ovens (d + 2) 105 [some (.ref (gB G + 104)), some (.int p1), some (.int p2), none, some (.int p4), none] [] hy (some (.int r.1)) r.2) : ∀ (n : Nat) (v5 : Int32) (hv : PH), mm_ovens_L70 p1 p2 p4 k0 n v5 hv = some r → Vx G tm_ovens (d + 2) 70 [some (.ref (gB G + 104)), some (.int p1), some (.int p2), none, some (.int p4), some (.int v5)] [] hv (some (.int r.1)) r.2 := by
  intro n
  induction n with
  | zero => intro v5 hv hm; cases hm
  | succ n ih =>
    intro v5 hv hm
    unfold mm_ovens_L70 at hm
    refine v_ild_5 dm_ovens_70 ?_
    refine v_ald_0 dm_ovens_72 ?_
    refine v_getI dm_ovens_73 fum_484 sh_104 rf_104_57 ?_
    refine v_cmp_ge dm_ovens_76 (fun hc => ?_) (fun hc => ?_)
    · replace hm := it hc hm
      exact v_kw (kk0 _ hm) (wk_s (wk_s (wk_s (wk_n (wk_s (wk_n wk_e))))))
    · replace hm := ie hc hm
      refine v_ild_4 dm_ovens_79 ?_
      refine v_ild_2 dm_ovens_81 ?_
      refine v_cmp_ge dm_ovens_82 (fun hc => ?_) (fun hc => ?_)
      · replace hm := it hc hm
        exact v_kw (kk0 _ hm) (wk_s (wk_s (wk_s (wk_n (wk_s (wk_n wk_e))))))
      · replace hm := ie hc hm
        refine v_ald_0 dm_ovens_85 ?_
        refine v_getR dm_ovens_86 fum_119 sh_104 rf_104_61 ?_
        refine v_ild_5 dm_ovens_89 ?_
        refine v_ald_0 dm_ovens_91 ?_
        refine v_getR dm_ovens_92 fum_116 sh_104 rf_104_60 ?_
        refine v_ild_5 dm_ovens_95 ?_
        obtain ⟨hi, hm⟩ := ck_s hm
        refine v_iald dm_ovens_97 sh_139 hi ?_
        obtain ⟨hi, hm⟩ := ck_s hm
        refine v_iastl dm_ovens_98 sh_140 hi hm (fun h6 hm => ?_)
        refine v_inc_5 1 dm_ovens_99 rfl (by decide) rfl ?_
        refine v_goto dm_ovens_102 ?_
        exact v_kw (ih _ _ hm) (wk_s (wk_s (wk_s (wk_n (wk_s (wk_s wk_e))))))
theorem wm_ovens_L57 (G : GG) (d : Nat) (p1 : Int32) (k0 : Int32 → PH → Option (Int32 × PH)) (r : Int32 × PH) (kk0 : ∀ (y2 : Int32) (hy : PH), k0 y2 hy = some r → Vx G tm_ovens (d + 2) 121 [some (.ref (gB G + 104)), some (.int p1), some (.int y2), none, none, none] [] hy (some (.int r.1)) r.2) : ∀ (n : Nat) (v2 : Int32) (v3 : Int32) (hv : PH), mm_ovens_L57 p1 k0 n v2 v3 hv = some r → Vx G tm_ovens (d + 2) 57 [some (.ref (gB G + 104)), some (.int p1), some (.int v2), some (.int v3), none, none] [] hv (some (.int r.1)) r.2 := by
  intro n
  induction n with
  | zero => intro v2 v3 hv hm; cases hm
  | succ n ih =>
    intro v2 v3 hv hm
    unfold mm_ovens_L57 at hm
    refine v_ild_3 dm_ovens_57 ?_
    refine v_if_eq dm_ovens_58 (fun hc => ?_) (fun hc => ?_)
    · replace hm := it hc hm
      exact v_kw (kk0 _ _ hm) (wk_s (wk_s (wk_s (wk_n (wk_n (wk_n wk_e))))))
    · replace hm := ie hc hm
      refine v_ald_0 dm_ovens_61 ?_
      obtain ⟨r5, he, hm⟩ := bd_s hm
      refine v_cv0i (M' := tm_doneBy) dm_ovens_62 mlm_487 okm_doneBy sh_104 hc_12 (Nat.le_of_ble_eq_true rfl) (ctm_doneBy G d _ _ he) ?_
      refine v_ist_4 dm_ovens_65 (by decide) rfl ?_
      refine v_iconst (x := 0) dm_ovens_67 rfl ?_
      refine v_ist_5 dm_ovens_68 (by decide) rfl ?_
      refine v_kw (wm_ovens_L70 G d _ _ _ _ _ (fun h7 hm => ?_) FU _ _ hm) (wk_s (wk_s (wk_s (wk_n (wk_s (wk_s wk_e))))))
      refine v_ald_0 dm_ovens_105 ?_
      refine v_ild_2 dm_ovens_106 ?_
      refine v_ild_4 dm_ovens_107 ?_
      obtain ⟨r8, he, hm⟩ := bd_s hm
      refine v_cv2i (M' := tm_lesser) dm_ovens_109 mlm_400 okm_lesser sh_104 hc_12 (Nat.le_of_ble_eq_true rfl) (ctm_lesser G (d + 1) _ _ _ _ he) ?_
      refine v_ist_2 dm_ovens_112 (by decide) rfl ?_
      refine v_ald_0 dm_ovens_113 ?_
      obtain ⟨r9, h10, he, hm⟩ := bd2_s hm
      refine v_cv0i (M' := tm_goesToNextOrder) dm_ovens_114 mlm_490 okm_goesToNextOrder sh_104 hc_12 (Nat.le_of_ble_eq_true rfl) (ctm_goesToNextOrder G (d + 1) _ _ he) ?_
      refine v_ist_3 dm_ovens_117 (by decide) rfl ?_
      refine v_goto dm_ovens_118 ?_
      exact v_kw (ih _ _ _ hm) (wk_s (wk_s (wk_s (wk_s (wk_n (wk_n wk_e))))))
theorem ctm_ovens (G : GG) (d : Nat) (p1 : Int32) (h0 : PH) (r : Int32 × PH) (hm : mm_ovens p1 h0 = some r) : Kx G tm_ovens (d + 2) [.ref (gB G + 104), .int p1] h0 (some (.int r.1)) r.2 := by
  refine K_of_V (by decide) (by simp [cat_i, cat_r, fmtV_cat]) (by simp [tm_ovens]) ?_
  change Vx G tm_ovens (d + 2) 0 [some (.ref (gB G + 104)), some (.int p1), none, none, none, none] [] h0 (some (.int r.1)) r.2
  unfold mm_ovens at hm
  refine v_ald_0 dm_ovens_0 ?_
  refine v_iconst (x := 0) dm_ovens_1 rfl ?_
  refine v_putIl dm_ovens_2 fum_146 ft_12_0 sh_104 rf_104_0 hm (fun h1 hm => ?_)
  refine v_ild_1 dm_ovens_5 ?_
  refine v_j0 (Vx G tm_ovens (d + 2) 28 [some (.ref (gB G + 104)), some (.int p1), none, none, none, none] [] h1 (some (.int r.1)) r.2) hm (fun hm => ?_) (fun j2 kj2 hm => ?_)
  · refine v_iconst (x := 0) dm_ovens_28 rfl ?_
    refine v_ist_2 dm_ovens_29 (by decide) rfl ?_
    refine v_kw (wm_ovens_L30 G d _ _ _ (fun h4 hm => ?_) FU _ _ hm) (wk_s (wk_s (wk_s (wk_n (wk_n (wk_n wk_e))))))
    refine v_ldcw (x := 100000000) dm_ovens_51 lcm_436 ?_
    refine v_ist_2 dm_ovens_54 (by decide) rfl ?_
    refine v_iconst (x := 1) dm_ovens_55 rfl ?_
    refine v_ist_3 dm_ovens_56 (by decide) rfl ?_
    refine v_kw (wm_ovens_L57 G d _ _ _ (fun x11 h12 hm => ?_) FU _ _ _ hm) (wk_s (wk_s (wk_s (wk_s (wk_n (wk_n wk_e))))))
    refine v_ild_1 dm_ovens_121 ?_
    refine v_if_ne dm_ovens_122 (fun hc => ?_) (fun hc => ?_)
    · replace hm := it hc hm
      refine v_ild_2 dm_ovens_125 ?_
      refine v_goto dm_ovens_126 ?_
      cases hm
      exact v_iret dm_ovens_138 rfl
    · replace hm := ie hc hm
      refine v_ald_0 dm_ovens_129 ?_
      refine v_getR dm_ovens_130 fum_119 sh_104 rf_104_61 ?_
      refine v_ild_1 dm_ovens_133 ?_
      refine v_bipush (x := 10) dm_ovens_134 rfl ?_
      refine v_isub dm_ovens_136 ?_
      obtain ⟨hi, hm⟩ := ck_s hm
      refine v_iald dm_ovens_137 sh_140 hi ?_
      cases hm
      exact v_iret dm_ovens_138 rfl
  · refine v_if_eq dm_ovens_6 (fun hc => ?_) (fun hc => ?_)
    · replace hm := it hc hm
      exact v_kw (kj2 hm) (wk_s (wk_s (wk_n (wk_n (wk_n (wk_n wk_e))))))
    · replace hm := ie hc hm
      refine v_ald_0 dm_ovens_9 ?_
      refine v_ild_1 dm_ovens_10 ?_
      refine v_bipush (x := 10) dm_ovens_11 rfl ?_
      refine v_bipush (x := 9) dm_ovens_13 rfl ?_
      refine v_ald_0 dm_ovens_15 ?_
      refine v_getI dm_ovens_16 fum_484 sh_104 rf_104_57 ?_
      refine v_iadd dm_ovens_19 ?_
      obtain ⟨r13, he, hm⟩ := bd_s hm
      refine v_cv3i (M' := tm_isIn) dm_ovens_20 mlm_177 okm_isIn sh_104 hc_12 (Nat.le_of_ble_eq_true rfl) (ctm_isIn G (d + 1) _ _ _ _ _ he) ?_
      refine v_if_ne dm_ovens_23 (fun hc => ?_) (fun hc => ?_)
      · replace hm := it hc hm
        refine v_iconst (x := (-1)) dm_ovens_26 rfl ?_
        cases hm
        exact v_iret dm_ovens_27 rfl
      · replace hm := ie hc hm
        exact v_kw (kj2 hm) (wk_s (wk_s (wk_n (wk_n (wk_n (wk_n wk_e))))))
def mm_areAlone_L2 (p1 : Int32) (h0 : PH) : Nat → Int32 → Option (Int32)
  | 0, _ => none
  | n + 1, v2 =>
    if (h0 104 6) ≤ v2 then
      some 1
    else
      bd (mm_has p1 v2 h0) fun r1 =>
      if r1 = 0 then
        mm_areAlone_L2 p1 h0 n (v2 + 1)
      else
        ck v2 24 <|
        if ((h0 123 (ix v2)) &&& p1) = 0 then
          mm_areAlone_L2 p1 h0 n (v2 + 1)
        else
          some 0
def mm_areAlone (p1 : Int32) (h0 : PH) : Option (Int32) :=
  mm_areAlone_L2 p1 h0 FU 0
theorem wm_areAlone_L2 (G : GG) (d : Nat) (p1 : Int32) (h0 : PH) (r : Int32) : ∀ (n : Nat) (v2 : Int32), mm_areAlone_L2 p1 h0 n v2 = some r → Vx G tm_areAlone (d + 1) 2 [some (.ref (gB G + 104)), some (.int p1), some (.int v2)] [] h0 (some (.int r)) h0 := by
  intro n
  induction n with
  | zero => intro v2 hm; cases hm
  | succ n ih =>
    intro v2 hm
    unfold mm_areAlone_L2 at hm
    refine v_ild_2 dm_areAlone_2 ?_
    refine v_ald_0 dm_areAlone_3 ?_
    refine v_getI dm_areAlone_4 fum_158 sh_104 rf_104_6 ?_
    refine v_cmp_ge dm_areAlone_7 (fun hc => ?_) (fun hc => ?_)
    · replace hm := it hc hm
      refine v_iconst (x := 1) dm_areAlone_38 rfl ?_
      cases hm
      exact v_zret1 dm_areAlone_39 rfl
    · replace hm := ie hc hm
      refine v_ald_0 dm_areAlone_10 ?_
      refine v_ild_1 dm_areAlone_11 ?_
      refine v_ild_2 dm_areAlone_12 ?_
      obtain ⟨r1, he, hm⟩ := bd_s hm
      refine v_cv2i (M' := tm_has) dm_areAlone_13 mlm_360 okm_has sh_104 hc_12 (Nat.le_of_ble_eq_true rfl) (ctm_has G d _ _ _ _ he) ?_
      refine v_if_eq dm_areAlone_16 (fun hc => ?_) (fun hc => ?_)
      · replace hm := it hc hm
        refine v_inc_2 1 dm_areAlone_32 rfl (by decide) rfl ?_
        refine v_goto dm_areAlone_35 ?_
        exact v_kw (ih _ hm) (wk_s (wk_s (wk_s wk_e)))
      · replace hm := ie hc hm
        refine v_ald_0 dm_areAlone_19 ?_
        refine v_getR dm_areAlone_20 fum_68 sh_104 rf_104_38 ?_
        refine v_ild_2 dm_areAlone_23 ?_
        obtain ⟨hi, hm⟩ := ck_s hm
        refine v_iald dm_areAlone_24 sh_123 hi ?_
        refine v_ild_1 dm_areAlone_25 ?_
        refine v_iand dm_areAlone_26 ?_
        refine v_if_eq dm_areAlone_27 (fun hc => ?_) (fun hc => ?_)
        · replace hm := it hc hm
          refine v_inc_2 1 dm_areAlone_32 rfl (by decide) rfl ?_
          refine v_goto dm_areAlone_35 ?_
          exact v_kw (ih _ hm) (wk_s (wk_s (wk_s wk_e)))
        · replace hm := ie hc hm
          refine v_iconst (x := 0) dm_areAlone_30 rfl ?_
          cases hm
          exact v_zret0 dm_areAlone_31 rfl
theorem ctm_areAlone (G : GG) (d : Nat) (p1 : Int32) (h0 : PH) (r : Int32) (hm : mm_areAlone p1 h0 = some r) : Kx G tm_areAlone (d + 1) [.ref (gB G + 104), .int p1] h0 (some (.int r)) h0 := by
  refine K_of_V (by decide) (by simp [cat_i, cat_r, fmtV_cat]) (by simp [tm_areAlone]) ?_
  change Vx G tm_areAlone (d + 1) 0 [some (.ref (gB G + 104)), some (.int p1), none] [] h0 (some (.int r)) h0
  unfold mm_areAlone at hm
  refine v_iconst (x := 0) dm_areAlone_0 rfl ?_
  refine v_ist_2 dm_areAlone_1 (by decide) rfl ?_
  exact v_kw (wm_areAlone_L2 G d _ _ _ FU _ hm) (wk_s (wk_s (wk_s wk_e)))
def mm_alone_L27 (p1 : Int32) (p2 : Int32) (h0 : PH) (k0 : Int32 → Option (Int32 × PH)) : Nat → Int32 → Int32 → Option (Int32 × PH)
  | 0, _, _ => none
  | n + 1, v3, v4 =>
    if p2 < v4 then
      k0 v3
    else
      if (v4 &&& (p2 ^^^ (-1))) = 0 then
        bd (mm_onesOf v4 h0) fun r4 =>
        bd (mm_onesOf v3 h0) fun r5 =>
        if r4 ≤ r5 then
          mm_alone_L27 p1 p2 h0 k0 n v3 (v4 + 1)
        else
          bd (mm_areAlone v4 h0) fun r6 =>
          if r6 = 0 then
            mm_alone_L27 p1 p2 h0 k0 n v3 (v4 + 1)
          else
            mm_alone_L27 p1 p2 h0 k0 n v4 (v4 + 1)
      else
        mm_alone_L27 p1 p2 h0 k0 n v3 (v4 + 1)
def mm_alone (p1 : Int32) (h0 : PH) : Option (Int32 × PH) :=
  lt (up h0 104 0 0) fun h1 =>
  bd (mm_isIn p1 0 1 h1) fun r2 =>
  if r2 = 0 then
    some ((-1), h1)
  else
    bd (mm_standingSet h1) fun r3 =>
    mm_alone_L27 p1 r3 h1 (fun (x7 : Int32) =>
      if p1 = 0 then
        bd (mm_onesOf x7 h1) fun r8 =>
        some (r8, h1)
      else
        some (x7, h1)) FU 0 1
theorem wm_alone_L27 (G : GG) (d : Nat) (p1 : Int32) (p2 : Int32) (h0 : PH) (k0 : Int32 → Option (Int32 × PH)) (r : Int32 × PH) (kk0 : ∀ (y3 : Int32), k0 y3 = some r → Vx G tm_alone (d + 4) 74 [some (.ref (gB G + 104)), some (.int p1), none, some (.int y3), none] [] h0 (some (.int r.1)) r.2) : ∀ (n : Nat) (v3 : Int32) (v4 : Int32), mm_alone_L27 p1 p2 h0 k0 n v3 v4 = some r → Vx G tm_alone (d + 4) 27 [some (.ref (gB G + 104)), some (.int p1), some (.int p2), some (.int v3), some (.int v4)] [] h0 (some (.int r.1)) r.2 := by
  intro n
  induction n with
  | zero => intro v3 v4 hm; cases hm
  | succ n ih =>
    intro v3 v4 hm
    unfold mm_alone_L27 at hm
    refine v_ild_4 dm_alone_27 ?_
    refine v_ild_2 dm_alone_29 ?_
    refine v_cmp_gt dm_alone_30 (fun hc => ?_) (fun hc => ?_)
    · replace hm := it hc hm
      exact v_kw (kk0 _ hm) (wk_s (wk_s (wk_n (wk_s (wk_n wk_e)))))
    · replace hm := ie hc hm
      refine v_ild_4 dm_alone_33 ?_
      refine v_ild_2 dm_alone_35 ?_
      refine v_iconst (x := (-1)) dm_alone_36 rfl ?_
      refine v_ixor dm_alone_37 ?_
      refine v_iand dm_alone_38 ?_
      refine v_if_ne dm_alone_39 (fun hc => ?_) (fun hc => ?_)
      · replace hm := it hc hm
        refine v_ald_0 dm_alone_42 ?_
        refine v_ild_4 dm_alone_43 ?_
        obtain ⟨r4, he, hm⟩ := bd_s hm
        refine v_cv1i (M' := tm_onesOf) dm_alone_45 mlm_421 okm_onesOf sh_104 hc_12 (Nat.le_of_ble_eq_true rfl) (ctm_onesOf G (d + 3) _ _ _ he) ?_
        refine v_ald_0 dm_alone_48 ?_
        refine v_ild_3 dm_alone_49 ?_
        obtain ⟨r5, he, hm⟩ := bd_s hm
        refine v_cv1i (M' := tm_onesOf) dm_alone_50 mlm_421 okm_onesOf sh_104 hc_12 (Nat.le_of_ble_eq_true rfl) (ctm_onesOf G (d + 3) _ _ _ he) ?_
        refine v_cmp_le dm_alone_53 (fun hc => ?_) (fun hc => ?_)
        · replace hm := it hc hm
          refine v_inc_4 1 dm_alone_68 rfl (by decide) rfl ?_
          refine v_goto dm_alone_71 ?_
          exact v_kw (ih _ _ hm) (wk_s (wk_s (wk_s (wk_s (wk_s wk_e)))))
        · replace hm := ie hc hm
          refine v_ald_0 dm_alone_56 ?_
          refine v_ild_4 dm_alone_57 ?_
          obtain ⟨r6, he, hm⟩ := bd_s hm
          refine v_cv1i (M' := tm_areAlone) dm_alone_59 mlm_493 okm_areAlone sh_104 hc_12 (Nat.le_of_ble_eq_true rfl) (ctm_areAlone G (d + 2) _ _ _ he) ?_
          refine v_if_eq dm_alone_62 (fun hc => ?_) (fun hc => ?_)
          · replace hm := it hc hm
            refine v_inc_4 1 dm_alone_68 rfl (by decide) rfl ?_
            refine v_goto dm_alone_71 ?_
            exact v_kw (ih _ _ hm) (wk_s (wk_s (wk_s (wk_s (wk_s wk_e)))))
          · replace hm := ie hc hm
            refine v_ild_4 dm_alone_65 ?_
            refine v_ist_3 dm_alone_67 (by decide) rfl ?_
            refine v_inc_4 1 dm_alone_68 rfl (by decide) rfl ?_
            refine v_goto dm_alone_71 ?_
            exact v_kw (ih _ _ hm) (wk_s (wk_s (wk_s (wk_s (wk_s wk_e)))))
      · replace hm := ie hc hm
        refine v_inc_4 1 dm_alone_68 rfl (by decide) rfl ?_
        refine v_goto dm_alone_71 ?_
        exact v_kw (ih _ _ hm) (wk_s (wk_s (wk_s (wk_s (wk_s wk_e)))))
theorem ctm_alone (G : GG) (d : Nat) (p1 : Int32) (h0 : PH) (r : Int32 × PH) (hm : mm_alone p1 h0 = some r) : Kx G tm_alone (d + 4) [.ref (gB G + 104), .int p1] h0 (some (.int r.1)) r.2 := by
  refine K_of_V (by decide) (by simp [cat_i, cat_r, fmtV_cat]) (by simp [tm_alone]) ?_
  change Vx G tm_alone (d + 4) 0 [some (.ref (gB G + 104)), some (.int p1), none, none, none] [] h0 (some (.int r.1)) r.2
  unfold mm_alone at hm
  refine v_ald_0 dm_alone_0 ?_
  refine v_iconst (x := 0) dm_alone_1 rfl ?_
  refine v_putIl dm_alone_2 fum_146 ft_12_0 sh_104 rf_104_0 hm (fun h1 hm => ?_)
  refine v_ald_0 dm_alone_5 ?_
  refine v_ild_1 dm_alone_6 ?_
  refine v_iconst (x := 0) dm_alone_7 rfl ?_
  refine v_iconst (x := 1) dm_alone_8 rfl ?_
  obtain ⟨r2, he, hm⟩ := bd_s hm
  refine v_cv3i (M' := tm_isIn) dm_alone_9 mlm_177 okm_isIn sh_104 hc_12 (Nat.le_of_ble_eq_true rfl) (ctm_isIn G (d + 3) _ _ _ _ _ he) ?_
  refine v_if_ne dm_alone_12 (fun hc => ?_) (fun hc => ?_)
  · replace hm := it hc hm
    refine v_iconst (x := (-1)) dm_alone_15 rfl ?_
    cases hm
    exact v_iret dm_alone_16 rfl
  · replace hm := ie hc hm
    refine v_ald_0 dm_alone_17 ?_
    obtain ⟨r3, he, hm⟩ := bd_s hm
    refine v_cv0i (M' := tm_standingSet) dm_alone_18 mlm_409 okm_standingSet sh_104 hc_12 (Nat.le_of_ble_eq_true rfl) (ctm_standingSet G d _ _ he) ?_
    refine v_ist_2 dm_alone_21 (by decide) rfl ?_
    refine v_iconst (x := 0) dm_alone_22 rfl ?_
    refine v_ist_3 dm_alone_23 (by decide) rfl ?_
    refine v_iconst (x := 1) dm_alone_24 rfl ?_
    refine v_ist_4 dm_alone_25 (by decide) rfl ?_
    refine v_kw (wm_alone_L27 G d _ _ _ _ _ (fun x7 hm => ?_) FU _ _ hm) (wk_s (wk_s (wk_s (wk_s (wk_s wk_e)))))
    refine v_ild_1 dm_alone_74 ?_
    refine v_if_ne dm_alone_75 (fun hc => ?_) (fun hc => ?_)
    · replace hm := it hc hm
      refine v_ald_0 dm_alone_78 ?_
      refine v_ild_3 dm_alone_79 ?_
      obtain ⟨r8, he, hm⟩ := bd_s hm
      refine v_cv1i (M' := tm_onesOf) dm_alone_80 mlm_421 okm_onesOf sh_104 hc_12 (Nat.le_of_ble_eq_true rfl) (ctm_onesOf G (d + 3) _ _ _ he) ?_
      refine v_goto dm_alone_83 ?_
      cases hm
      exact v_iret dm_alone_87 rfl
    · replace hm := ie hc hm
      refine v_ild_3 dm_alone_86 ?_
      cases hm
      exact v_iret dm_alone_87 rfl
def mm_heir_L17 : Nat → Int32 → PH → Option (Int32 × PH)
  | 0, _, _ => none
  | n + 1, v3, hv =>
    if 12 ≤ v3 then
      some (0, hv)
    else
      ck v3 12 <|
      lt (up hv 141 (ix v3) 0) fun h3 =>
      mm_heir_L17 n (v3 + 1) h3
def mm_heir (p1 : Int32) (p2 : Int32) (h0 : PH) : Option (Int32 × PH) :=
  lt (up h0 104 0 0) fun h1 =>
  if p1 = (-1) then
    lt (up h1 104 62 0) fun h2 =>
    mm_heir_L17 FU 0 h2
  else
    bd (mm_isIn p1 0 11 h1) fun r4 =>
    if r4 = 0 then
      some ((-1), h1)
    else
      bd (mm_isIn p2 0 11 h1) fun r5 =>
      if r5 = 0 then
        some ((-1), h1)
      else
        if p1 = p2 then
          some ((-1), h1)
        else
          if (h1 104 62) = 12 then
            some ((-1), h1)
          else
            ck p1 12 <|
            jn1 (fun (h7 : PH) =>
              lt (up h7 104 62 ((h7 104 62) + 1)) fun h8 =>
              some (h8 104 62, h8)) fun j6 =>
            if (h1 141 (ix p1)) = 0 then
              ck p1 12 <|
              lt (up h1 141 (ix p1) (p2 + 1)) fun h9 =>
              j6 h9
            else
              j6 h1
theorem wm_heir_L17 (G : GG) (d : Nat)  (r : Int32 × PH) : ∀ (n : Nat) (v3 : Int32) (hv : PH), mm_heir_L17  n v3 hv = some r → Vx G tm_heir (d + 1) 17 [some (.ref (gB G + 104)), none, none, some (.int v3)] [] hv (some (.int r.1)) r.2 := by
  intro n
  induction n with
  | zero => intro v3 hv hm; cases hm
  | succ n ih =>
    intro v3 hv hm
    unfold mm_heir_L17 at hm
    refine v_ild_3 dm_heir_17 ?_
    refine v_bipush (x := 12) dm_heir_18 rfl ?_
    refine v_cmp_ge dm_heir_20 (fun hc => ?_) (fun hc => ?_)
    · replace hm := it hc hm
      refine v_iconst (x := 0) dm_heir_36 rfl ?_
      cases hm
      exact v_iret dm_heir_37 rfl
    · replace hm := ie hc hm
      refine v_ald_0 dm_heir_23 ?_
      refine v_getR dm_heir_24 fum_122 sh_104 rf_104_63 ?_
      refine v_ild_3 dm_heir_27 ?_
      refine v_iconst (x := 0) dm_heir_28 rfl ?_
      obtain ⟨hi, hm⟩ := ck_s hm
      refine v_iastl dm_heir_29 sh_141 hi hm (fun h3 hm => ?_)
      refine v_inc_3 1 dm_heir_30 rfl (by decide) rfl ?_
      refine v_goto dm_heir_33 ?_
      exact v_kw (ih _ _ hm) (wk_s (wk_n (wk_n (wk_s wk_e))))
theorem ctm_heir (G : GG) (d : Nat) (p1 : Int32) (p2 : Int32) (h0 : PH) (r : Int32 × PH) (hm : mm_heir p1 p2 h0 = some r) : Kx G tm_heir (d + 1) [.ref (gB G + 104), .int p1, .int p2] h0 (some (.int r.1)) r.2 := by
  refine K_of_V (by decide) (by simp [cat_i, cat_r, fmtV_cat]) (by simp [tm_heir]) ?_
  change Vx G tm_heir (d + 1) 0 [some (.ref (gB G + 104)), some (.int p1), some (.int p2), none] [] h0 (some (.int r.1)) r.2
  unfold mm_heir at hm
  refine v_ald_0 dm_heir_0 ?_
  refine v_iconst (x := 0) dm_heir_1 rfl ?_
  refine v_putIl dm_heir_2 fum_146 ft_12_0 sh_104 rf_104_0 hm (fun h1 hm => ?_)
  refine v_ild_1 dm_heir_5 ?_
  refine v_iconst (x := (-1)) dm_heir_6 rfl ?_
  refine v_cmp_ne dm_heir_7 (fun hc => ?_) (fun hc => ?_)
  · replace hm := it hc hm
    refine v_ald_0 dm_heir_10 ?_
    refine v_iconst (x := 0) dm_heir_11 rfl ?_
    refine v_putIl dm_heir_12 fum_496 ft_12_62 sh_104 rf_104_62 hm (fun h2 hm => ?_)
    refine v_iconst (x := 0) dm_heir_15 rfl ?_
    refine v_ist_3 dm_heir_16 (by decide) rfl ?_
    exact v_kw (wm_heir_L17 G d  _ FU _ _ hm) (wk_s (wk_n (wk_n (wk_s wk_e))))
  · replace hm := ie hc hm
    refine v_ald_0 dm_heir_38 ?_
    refine v_ild_1 dm_heir_39 ?_
    refine v_iconst (x := 0) dm_heir_40 rfl ?_
    refine v_bipush (x := 11) dm_heir_41 rfl ?_
    obtain ⟨r4, he, hm⟩ := bd_s hm
    refine v_cv3i (M' := tm_isIn) dm_heir_43 mlm_177 okm_isIn sh_104 hc_12 (Nat.le_of_ble_eq_true rfl) (ctm_isIn G d _ _ _ _ _ he) ?_
    refine v_if_eq dm_heir_46 (fun hc => ?_) (fun hc => ?_)
    · replace hm := it hc hm
      refine v_iconst (x := (-1)) dm_heir_74 rfl ?_
      cases hm
      exact v_iret dm_heir_75 rfl
    · replace hm := ie hc hm
      refine v_ald_0 dm_heir_49 ?_
      refine v_ild_2 dm_heir_50 ?_
      refine v_iconst (x := 0) dm_heir_51 rfl ?_
      refine v_bipush (x := 11) dm_heir_52 rfl ?_
      obtain ⟨r5, he, hm⟩ := bd_s hm
      refine v_cv3i (M' := tm_isIn) dm_heir_54 mlm_177 okm_isIn sh_104 hc_12 (Nat.le_of_ble_eq_true rfl) (ctm_isIn G d _ _ _ _ _ he) ?_
      refine v_if_eq dm_heir_57 (fun hc => ?_) (fun hc => ?_)
      · replace hm := it hc hm
        refine v_iconst (x := (-1)) dm_heir_74 rfl ?_
        cases hm
        exact v_iret dm_heir_75 rfl
      · replace hm := ie hc hm
        refine v_ild_1 dm_heir_60 ?_
        refine v_ild_2 dm_heir_61 ?_
        refine v_cmp_eq dm_heir_62 (fun hc => ?_) (fun hc => ?_)
        · replace hm := it hc hm
          refine v_iconst (x := (-1)) dm_heir_74 rfl ?_
          cases hm
          exact v_iret dm_heir_75 rfl
        · replace hm := ie hc hm
          refine v_ald_0 dm_heir_65 ?_
          refine v_getI dm_heir_66 fum_496 sh_104 rf_104_62 ?_
          refine v_bipush (x := 12) dm_heir_69 rfl ?_
          refine v_cmp_ne dm_heir_71 (fun hc => ?_) (fun hc => ?_)
          · replace hm := it hc hm
            refine v_iconst (x := (-1)) dm_heir_74 rfl ?_
            cases hm
            exact v_iret dm_heir_75 rfl
          · replace hm := ie hc hm
            refine v_ald_0 dm_heir_76 ?_
            refine v_getR dm_heir_77 fum_122 sh_104 rf_104_63 ?_
            refine v_ild_1 dm_heir_80 ?_
            obtain ⟨hi, hm⟩ := ck_s hm
            refine v_iald dm_heir_81 sh_141 hi ?_
            refine v_j1 (fun (h7 : PH) => Vx G tm_heir (d + 1) 94 [some (.ref (gB G + 104)), none, none, none] [] h7 (some (.int r.1)) r.2) hm (fun h7 hm => ?_) (fun j6 kj6 hm => ?_)
            · refine v_ald_0 dm_heir_94 ?_
              refine v_ald_0 dm_heir_95 ?_
              refine v_getI dm_heir_96 fum_496 sh_104 rf_104_62 ?_
              refine v_iconst (x := 1) dm_heir_99 rfl ?_
              refine v_iadd dm_heir_100 ?_
              refine v_putIl dm_heir_101 fum_496 ft_12_62 sh_104 rf_104_62 hm (fun h8 hm => ?_)
              refine v_ald_0 dm_heir_104 ?_
              refine v_getI dm_heir_105 fum_496 sh_104 rf_104_62 ?_
              cases hm
              exact v_iret dm_heir_108 rfl
            · refine v_if_ne dm_heir_82 (fun hc => ?_) (fun hc => ?_)
              · replace hm := it hc hm
                refine v_ald_0 dm_heir_85 ?_
                refine v_getR dm_heir_86 fum_122 sh_104 rf_104_63 ?_
                refine v_ild_1 dm_heir_89 ?_
                refine v_ild_2 dm_heir_90 ?_
                refine v_iconst (x := 1) dm_heir_91 rfl ?_
                refine v_iadd dm_heir_92 ?_
                obtain ⟨hi, hm⟩ := ck_s hm
                refine v_iastl dm_heir_93 sh_141 hi hm (fun h9 hm => ?_)
                exact v_kw (kj6 _ hm) (wk_s (wk_n (wk_n (wk_n wk_e))))
              · replace hm := ie hc hm
                exact v_kw (kj6 _ hm) (wk_s (wk_n (wk_n (wk_n wk_e))))
def mm_line_L33 (p2 : Int32) (h0 : PH) (k0 : Int32 → Int32 → Option (Int32 × PH)) : Nat → Int32 → Int32 → Option (Int32 × PH)
  | 0, _, _ => none
  | n + 1, v3, v4 =>
    if 12 ≤ v4 then
      some ((-1), h0)
    else
      ck v3 12 <|
      if (h0 141 (ix v3)) = 0 then
        k0 v3 v4
      else
        ck v3 12 <|
        lt ((h0 141 (ix v3)) - 1) fun x4 =>
        mm_line_L33 p2 h0 k0 n x4 (v4 + 1)
def mm_line (p1 : Int32) (p2 : Int32) (h0 : PH) : Option (Int32 × PH) :=
  lt (up h0 104 0 0) fun h1 =>
  bd (mm_isIn p1 0 11 h1) fun r2 =>
  if r2 = 0 then
    some ((-1), h1)
  else
    bd (mm_isIn p2 0 1 h1) fun r3 =>
    if r3 = 0 then
      some ((-1), h1)
    else
      mm_line_L33 p2 h1 (fun (x5 : Int32) (x6 : Int32) =>
        if p2 = 0 then
          some (x6, h1)
        else
          some (x5, h1)) FU p1 0
theorem wm_line_L33 (G : GG) (d : Nat) (p2 : Int32) (h0 : PH) (k0 : Int32 → Int32 → Option (Int32 × PH)) (r : Int32 × PH) (kk0 : ∀ (y3 : Int32) (y4 : Int32), k0 y3 y4 = some r → Vx G tm_line (d + 1) 49 [none, none, some (.int p2), some (.int y3), some (.int y4)] [] h0 (some (.int r.1)) r.2) : ∀ (n : Nat) (v3 : Int32) (v4 : Int32), mm_line_L33 p2 h0 k0 n v3 v4 = some r → Vx G tm_line (d + 1) 33 [some (.ref (gB G + 104)), none, some (.int p2), some (.int v3), some (.int v4)] [] h0 (some (.int r.1)) r.2 := by
  intro n
  induction n with
  | zero => intro v3 v4 hm; cases hm
  | succ n ih =>
    intro v3 v4 hm
    unfold mm_line_L33 at hm
    refine v_ild_4 dm_line_33 ?_
    refine v_bipush (x := 12) dm_line_35 rfl ?_
    refine v_cmp_ge dm_line_37 (fun hc => ?_) (fun hc => ?_)
    · replace hm := it hc hm
      refine v_iconst (x := (-1)) dm_line_75 rfl ?_
      cases hm
      exact v_iret dm_line_76 rfl
    · replace hm := ie hc hm
      refine v_ald_0 dm_line_40 ?_
      refine v_getR dm_line_41 fum_122 sh_104 rf_104_63 ?_
      refine v_ild_3 dm_line_44 ?_
      obtain ⟨hi, hm⟩ := ck_s hm
      refine v_iald dm_line_45 sh_141 hi ?_
      refine v_if_ne dm_line_46 (fun hc => ?_) (fun hc => ?_)
      · replace hm := it hc hm
        exact v_kw (kk0 _ _ hm) (wk_n (wk_n (wk_s (wk_s (wk_s wk_e)))))
      · replace hm := ie hc hm
        refine v_ald_0 dm_line_60 ?_
        refine v_getR dm_line_61 fum_122 sh_104 rf_104_63 ?_
        refine v_ild_3 dm_line_64 ?_
        obtain ⟨hi, hm⟩ := ck_s hm
        refine v_iald dm_line_65 sh_141 hi ?_
        refine v_iconst (x := 1) dm_line_66 rfl ?_
        refine v_isub dm_line_67 ?_
        refine v_top hm (fun x4 hm => ?_)
        refine v_ist_3 dm_line_68 (by decide) rfl ?_
        refine v_inc_4 1 dm_line_69 rfl (by decide) rfl ?_
        refine v_goto dm_line_72 ?_
        exact v_kw (ih _ _ hm) (wk_s (wk_n (wk_s (wk_s (wk_s wk_e)))))
theorem ctm_line (G : GG) (d : Nat) (p1 : Int32) (p2 : Int32) (h0 : PH) (r : Int32 × PH) (hm : mm_line p1 p2 h0 = some r) : Kx G tm_line (d + 1) [.ref (gB G + 104), .int p1, .int p2] h0 (some (.int r.1)) r.2 := by
  refine K_of_V (by decide) (by simp [cat_i, cat_r, fmtV_cat]) (by simp [tm_line]) ?_
  change Vx G tm_line (d + 1) 0 [some (.ref (gB G + 104)), some (.int p1), some (.int p2), none, none] [] h0 (some (.int r.1)) r.2
  unfold mm_line at hm
  refine v_ald_0 dm_line_0 ?_
  refine v_iconst (x := 0) dm_line_1 rfl ?_
  refine v_putIl dm_line_2 fum_146 ft_12_0 sh_104 rf_104_0 hm (fun h1 hm => ?_)
  refine v_ald_0 dm_line_5 ?_
  refine v_ild_1 dm_line_6 ?_
  refine v_iconst (x := 0) dm_line_7 rfl ?_
  refine v_bipush (x := 11) dm_line_8 rfl ?_
  obtain ⟨r2, he, hm⟩ := bd_s hm
  refine v_cv3i (M' := tm_isIn) dm_line_10 mlm_177 okm_isIn sh_104 hc_12 (Nat.le_of_ble_eq_true rfl) (ctm_isIn G d _ _ _ _ _ he) ?_
  refine v_if_eq dm_line_13 (fun hc => ?_) (fun hc => ?_)
  · replace hm := it hc hm
    refine v_iconst (x := (-1)) dm_line_26 rfl ?_
    cases hm
    exact v_iret dm_line_27 rfl
  · replace hm := ie hc hm
    refine v_ald_0 dm_line_16 ?_
    refine v_ild_2 dm_line_17 ?_
    refine v_iconst (x := 0) dm_line_18 rfl ?_
    refine v_iconst (x := 1) dm_line_19 rfl ?_
    obtain ⟨r3, he, hm⟩ := bd_s hm
    refine v_cv3i (M' := tm_isIn) dm_line_20 mlm_177 okm_isIn sh_104 hc_12 (Nat.le_of_ble_eq_true rfl) (ctm_isIn G d _ _ _ _ _ he) ?_
    refine v_if_ne dm_line_23 (fun hc => ?_) (fun hc => ?_)
    · replace hm := it hc hm
      refine v_iconst (x := (-1)) dm_line_26 rfl ?_
      cases hm
      exact v_iret dm_line_27 rfl
    · replace hm := ie hc hm
      refine v_ild_1 dm_line_28 ?_
      refine v_ist_3 dm_line_29 (by decide) rfl ?_
      refine v_iconst (x := 0) dm_line_30 rfl ?_
      refine v_ist_4 dm_line_31 (by decide) rfl ?_
      refine v_kw (wm_line_L33 G d _ _ _ _ (fun x5 x6 hm => ?_) FU _ _ hm) (wk_s (wk_n (wk_s (wk_s (wk_s wk_e)))))
      refine v_ild_2 dm_line_49 ?_
      refine v_if_ne dm_line_50 (fun hc => ?_) (fun hc => ?_)
      · replace hm := it hc hm
        refine v_ild_4 dm_line_53 ?_
        refine v_goto dm_line_55 ?_
        cases hm
        exact v_iret dm_line_59 rfl
      · replace hm := ie hc hm
        refine v_ild_3 dm_line_58 ?_
        cases hm
        exact v_iret dm_line_59 rfl
def mm_window_L20 (p1 : Int32) (k0 : PH → Option (Int32 × PH)) : Nat → Int32 → PH → Option (Int32 × PH)
  | 0, _, _ => none
  | n + 1, v2, hv =>
    if p1 < v2 then
      k0 hv
    else
      jn1 (fun (x4 : Int32) =>
        ck v2 21 <|
        lt (up hv 142 (ix v2) x4) fun h5 =>
        jn1 (fun (h7 : PH) =>
          jn1 (fun (x9 : Int32) =>
            ck v2 21 <|
            lt (up h7 143 (ix v2) x9) fun h10 =>
            mm_window_L20 p1 k0 n (v2 + 1) h10) fun j8 =>
          if v2 ≤ 2 then
            j8 0
          else
            ck (v2 - 3) 21 <|
            j8 (h7 142 (ix (v2 - 3)))) fun j6 =>
        if v2 ≤ 1 then
          j6 h5
        else
          ck v2 21 <|
          ck (v2 - 2) 21 <|
          ck (v2 - 2) 21 <|
          ck v2 21 <|
          lt (up h5 142 (ix v2) (((h5 142 (ix v2)) + (h5 142 (ix (v2 - 2)))) + (h5 143 (ix (v2 - 2))))) fun h11 =>
          j6 h11) fun j3 =>
      if v2 = 0 then
        j3 1
      else
        ck (v2 - 1) 21 <|
        ck (v2 - 1) 21 <|
        j3 ((hv 142 (ix (v2 - 1))) + (hv 143 (ix (v2 - 1))))
def mm_window (p1 : Int32) (h0 : PH) : Option (Int32 × PH) :=
  lt (up h0 104 0 0) fun h1 =>
  bd (mm_isIn p1 1 20 h1) fun r2 =>
  if r2 = 0 then
    some ((-1), h1)
  else
    mm_window_L20 p1 (fun (h12 : PH) =>
      ck p1 21 <|
      ck p1 21 <|
      some ((h12 142 (ix p1)) + (h12 143 (ix p1)), h12)) FU 0 h1
theorem wm_window_L20 (G : GG) (d : Nat) (p1 : Int32) (k0 : PH → Option (Int32 × PH)) (r : Int32 × PH) (kk0 : ∀ (hy : PH), k0 hy = some r → Vx G tm_window (d + 1) 120 [some (.ref (gB G + 104)), some (.int p1), none] [] hy (some (.int r.1)) r.2) : ∀ (n : Nat) (v2 : Int32) (hv : PH), mm_window_L20 p1 k0 n v2 hv = some r → Vx G tm_window (d + 1) 20 [some (.ref (gB G + 104)), some (.int p1), some (.int v2)] [] hv (some (.int r.1)) r.2 := by
  intro n
  induction n with
  | zero => intro v2 hv hm; cases hm
  | succ n ih =>
    intro v2 hv hm
    unfold mm_window_L20 at hm
    refine v_ild_2 dm_window_20 ?_
    refine v_ild_1 dm_window_21 ?_
    refine v_cmp_gt dm_window_22 (fun hc => ?_) (fun hc => ?_)
    · replace hm := it hc hm
      exact v_kw (kk0 _ hm) (wk_s (wk_s (wk_n wk_e)))
    · replace hm := ie hc hm
      refine v_ald_0 dm_window_25 ?_
      refine v_getR dm_window_26 fum_125 sh_104 rf_104_64 ?_
      refine v_ild_2 dm_window_29 ?_
      refine v_ild_2 dm_window_30 ?_
      refine v_j1 (fun (x4 : Int32) => Vx G tm_window (d + 1) 55 [some (.ref (gB G + 104)), some (.int p1), some (.int v2)] [.int x4, .int v2, .ref (gB G + 142)] hv (some (.int r.1)) r.2) hm (fun x4 hm => ?_) (fun j3 kj3 hm => ?_)
      · obtain ⟨hi, hm⟩ := ck_s hm
        refine v_iastl dm_window_55 sh_142 hi hm (fun h5 hm => ?_)
        refine v_ild_2 dm_window_56 ?_
        refine v_iconst (x := 1) dm_window_57 rfl ?_
        refine v_j1 (fun (h7 : PH) => Vx G tm_window (d + 1) 91 [some (.ref (gB G + 104)), some (.int p1), some (.int v2)] [] h7 (some (.int r.1)) r.2) hm (fun h7 hm => ?_) (fun j6 kj6 hm => ?_)
        · refine v_ald_0 dm_window_91 ?_
          refine v_getR dm_window_92 fum_128 sh_104 rf_104_65 ?_
          refine v_ild_2 dm_window_95 ?_
          refine v_ild_2 dm_window_96 ?_
          refine v_iconst (x := 2) dm_window_97 rfl ?_
          refine v_j1 (fun (x9 : Int32) => Vx G tm_window (d + 1) 113 [some (.ref (gB G + 104)), some (.int p1), some (.int v2)] [.int x9, .int v2, .ref (gB G + 143)] h7 (some (.int r.1)) r.2) hm (fun x9 hm => ?_) (fun j8 kj8 hm => ?_)
          · obtain ⟨hi, hm⟩ := ck_s hm
            refine v_iastl dm_window_113 sh_143 hi hm (fun h10 hm => ?_)
            refine v_inc_2 1 dm_window_114 rfl (by decide) rfl ?_
            refine v_goto dm_window_117 ?_
            exact v_kw (ih _ _ hm) (wk_s (wk_s (wk_s wk_e)))
          · refine v_cmp_le dm_window_98 (fun hc => ?_) (fun hc => ?_)
            · replace hm := it hc hm
              refine v_iconst (x := 0) dm_window_112 rfl ?_
              exact v_kw (kj8 _ hm) (wk_s (wk_s (wk_s wk_e)))
            · replace hm := ie hc hm
              refine v_ald_0 dm_window_101 ?_
              refine v_getR dm_window_102 fum_125 sh_104 rf_104_64 ?_
              refine v_ild_2 dm_window_105 ?_
              refine v_iconst (x := 3) dm_window_106 rfl ?_
              refine v_isub dm_window_107 ?_
              obtain ⟨hi, hm⟩ := ck_s hm
              refine v_iald dm_window_108 sh_142 hi ?_
              refine v_goto dm_window_109 ?_
              exact v_kw (kj8 _ hm) (wk_s (wk_s (wk_s wk_e)))
        · refine v_cmp_le dm_window_58 (fun hc => ?_) (fun hc => ?_)
          · replace hm := it hc hm
            exact v_kw (kj6 _ hm) (wk_s (wk_s (wk_s wk_e)))
          · replace hm := ie hc hm
            refine v_ald_0 dm_window_61 ?_
            refine v_getR dm_window_62 fum_125 sh_104 rf_104_64 ?_
            refine v_ild_2 dm_window_65 ?_
            refine v_ald_0 dm_window_66 ?_
            refine v_getR dm_window_67 fum_125 sh_104 rf_104_64 ?_
            refine v_ild_2 dm_window_70 ?_
            obtain ⟨hi, hm⟩ := ck_s hm
            refine v_iald dm_window_71 sh_142 hi ?_
            refine v_ald_0 dm_window_72 ?_
            refine v_getR dm_window_73 fum_125 sh_104 rf_104_64 ?_
            refine v_ild_2 dm_window_76 ?_
            refine v_iconst (x := 2) dm_window_77 rfl ?_
            refine v_isub dm_window_78 ?_
            obtain ⟨hi, hm⟩ := ck_s hm
            refine v_iald dm_window_79 sh_142 hi ?_
            refine v_iadd dm_window_80 ?_
            refine v_ald_0 dm_window_81 ?_
            refine v_getR dm_window_82 fum_128 sh_104 rf_104_65 ?_
            refine v_ild_2 dm_window_85 ?_
            refine v_iconst (x := 2) dm_window_86 rfl ?_
            refine v_isub dm_window_87 ?_
            obtain ⟨hi, hm⟩ := ck_s hm
            refine v_iald dm_window_88 sh_143 hi ?_
            refine v_iadd dm_window_89 ?_
            obtain ⟨hi, hm⟩ := ck_s hm
            refine v_iastl dm_window_90 sh_142 hi hm (fun h11 hm => ?_)
            exact v_kw (kj6 _ hm) (wk_s (wk_s (wk_s wk_e)))
      · refine v_if_ne dm_window_31 (fun hc => ?_) (fun hc => ?_)
        · replace hm := it hc hm
          refine v_iconst (x := 1) dm_window_34 rfl ?_
          refine v_goto dm_window_35 ?_
          exact v_kw (kj3 _ hm) (wk_s (wk_s (wk_s wk_e)))
        · replace hm := ie hc hm
          refine v_ald_0 dm_window_38 ?_
          refine v_getR dm_window_39 fum_125 sh_104 rf_104_64 ?_
          refine v_ild_2 dm_window_42 ?_
          refine v_iconst (x := 1) dm_window_43 rfl ?_
          refine v_isub dm_window_44 ?_
          obtain ⟨hi, hm⟩ := ck_s hm
          refine v_iald dm_window_45 sh_142 hi ?_
          refine v_ald_0 dm_window_46 ?_
          refine v_getR dm_window_47 fum_128 sh_104 rf_104_65 ?_
          refine v_ild_2 dm_window_50 ?_
          refine v_iconst (x := 1) dm_window_51 rfl ?_
          refine v_isub dm_window_52 ?_
          obtain ⟨hi, hm⟩ := ck_s hm
          refine v_iald dm_window_53 sh_143 hi ?_
          refine v_iadd dm_window_54 ?_
          exact v_kw (kj3 _ hm) (wk_s (wk_s (wk_s wk_e)))
theorem ctm_window (G : GG) (d : Nat) (p1 : Int32) (h0 : PH) (r : Int32 × PH) (hm : mm_window p1 h0 = some r) : Kx G tm_window (d + 1) [.ref (gB G + 104), .int p1] h0 (some (.int r.1)) r.2 := by
  refine K_of_V (by decide) (by simp [cat_i, cat_r, fmtV_cat]) (by simp [tm_window]) ?_
  change Vx G tm_window (d + 1) 0 [some (.ref (gB G + 104)), some (.int p1), none] [] h0 (some (.int r.1)) r.2
  unfold mm_window at hm
  refine v_ald_0 dm_window_0 ?_
  refine v_iconst (x := 0) dm_window_1 rfl ?_
  refine v_putIl dm_window_2 fum_146 ft_12_0 sh_104 rf_104_0 hm (fun h1 hm => ?_)
  refine v_ald_0 dm_window_5 ?_
  refine v_ild_1 dm_window_6 ?_
  refine v_iconst (x := 1) dm_window_7 rfl ?_
  refine v_bipush (x := 20) dm_window_8 rfl ?_
  obtain ⟨r2, he, hm⟩ := bd_s hm
  refine v_cv3i (M' := tm_isIn) dm_window_10 mlm_177 okm_isIn sh_104 hc_12 (Nat.le_of_ble_eq_true rfl) (ctm_isIn G d _ _ _ _ _ he) ?_
  refine v_if_ne dm_window_13 (fun hc => ?_) (fun hc => ?_)
  · replace hm := it hc hm
    refine v_iconst (x := (-1)) dm_window_16 rfl ?_
    cases hm
    exact v_iret dm_window_17 rfl
  · replace hm := ie hc hm
    refine v_iconst (x := 0) dm_window_18 rfl ?_
    refine v_ist_2 dm_window_19 (by decide) rfl ?_
    refine v_kw (wm_window_L20 G d _ _ _ (fun h12 hm => ?_) FU _ _ hm) (wk_s (wk_s (wk_s wk_e)))
    refine v_ald_0 dm_window_120 ?_
    refine v_getR dm_window_121 fum_125 sh_104 rf_104_64 ?_
    refine v_ild_1 dm_window_124 ?_
    obtain ⟨hi, hm⟩ := ck_s hm
    refine v_iald dm_window_125 sh_142 hi ?_
    refine v_ald_0 dm_window_126 ?_
    refine v_getR dm_window_127 fum_128 sh_104 rf_104_65 ?_
    refine v_ild_1 dm_window_130 ?_
    obtain ⟨hi, hm⟩ := ck_s hm
    refine v_iald dm_window_131 sh_143 hi ?_
    refine v_iadd dm_window_132 ?_
    cases hm
    exact v_iret dm_window_133 rfl
def mm_member (p1 : Int32) (p2 : Int32) (h0 : PH) : Option (Int32 × PH) :=
  lt (up h0 104 0 0) fun h1 =>
  if p1 = (-1) then
    lt (up h1 104 66 0) fun h2 =>
    some (0, h2)
  else
    bd (mm_isIn p1 0 4095 h1) fun r3 =>
    if r3 = 0 then
      some ((-1), h1)
    else
      bd (mm_isIn p2 1 9 h1) fun r4 =>
      if r4 = 0 then
        some ((-1), h1)
      else
        if (h1 104 66) = 8 then
          some ((-1), h1)
        else
          ck (h1 104 66) 8 <|
          lt (up h1 144 (ix (h1 104 66)) p1) fun h5 =>
          ck (h5 104 66) 8 <|
          lt (up h5 145 (ix (h5 104 66)) p2) fun h6 =>
          lt (up h6 104 66 ((h6 104 66) + 1)) fun h7 =>
          some (h7 104 66, h7)
theorem ctm_member (G : GG) (d : Nat) (p1 : Int32) (p2 : Int32) (h0 : PH) (r : Int32 × PH) (hm : mm_member p1 p2 h0 = some r) : Kx G tm_member (d + 1) [.ref (gB G + 104), .int p1, .int p2] h0 (some (.int r.1)) r.2 := by
  refine K_of_V (by decide) (by simp [cat_i, cat_r, fmtV_cat]) (by simp [tm_member]) ?_
  change Vx G tm_member (d + 1) 0 [some (.ref (gB G + 104)), some (.int p1), some (.int p2)] [] h0 (some (.int r.1)) r.2
  unfold mm_member at hm
  refine v_ald_0 dm_member_0 ?_
  refine v_iconst (x := 0) dm_member_1 rfl ?_
  refine v_putIl dm_member_2 fum_146 ft_12_0 sh_104 rf_104_0 hm (fun h1 hm => ?_)
  refine v_ild_1 dm_member_5 ?_
  refine v_iconst (x := (-1)) dm_member_6 rfl ?_
  refine v_cmp_ne dm_member_7 (fun hc => ?_) (fun hc => ?_)
  · replace hm := it hc hm
    refine v_ald_0 dm_member_10 ?_
    refine v_iconst (x := 0) dm_member_11 rfl ?_
    refine v_putIl dm_member_12 fum_499 ft_12_66 sh_104 rf_104_66 hm (fun h2 hm => ?_)
    refine v_iconst (x := 0) dm_member_15 rfl ?_
    cases hm
    exact v_iret dm_member_16 rfl
  · replace hm := ie hc hm
    refine v_ald_0 dm_member_17 ?_
    refine v_ild_1 dm_member_18 ?_
    refine v_iconst (x := 0) dm_member_19 rfl ?_
    refine v_sipush (x := 4095) dm_member_20 rfl ?_
    obtain ⟨r3, he, hm⟩ := bd_s hm
    refine v_cv3i (M' := tm_isIn) dm_member_23 mlm_177 okm_isIn sh_104 hc_12 (Nat.le_of_ble_eq_true rfl) (ctm_isIn G d _ _ _ _ _ he) ?_
    refine v_if_eq dm_member_26 (fun hc => ?_) (fun hc => ?_)
    · replace hm := it hc hm
      refine v_iconst (x := (-1)) dm_member_49 rfl ?_
      cases hm
      exact v_iret dm_member_50 rfl
    · replace hm := ie hc hm
      refine v_ald_0 dm_member_29 ?_
      refine v_ild_2 dm_member_30 ?_
      refine v_iconst (x := 1) dm_member_31 rfl ?_
      refine v_bipush (x := 9) dm_member_32 rfl ?_
      obtain ⟨r4, he, hm⟩ := bd_s hm
      refine v_cv3i (M' := tm_isIn) dm_member_34 mlm_177 okm_isIn sh_104 hc_12 (Nat.le_of_ble_eq_true rfl) (ctm_isIn G d _ _ _ _ _ he) ?_
      refine v_if_eq dm_member_37 (fun hc => ?_) (fun hc => ?_)
      · replace hm := it hc hm
        refine v_iconst (x := (-1)) dm_member_49 rfl ?_
        cases hm
        exact v_iret dm_member_50 rfl
      · replace hm := ie hc hm
        refine v_ald_0 dm_member_40 ?_
        refine v_getI dm_member_41 fum_499 sh_104 rf_104_66 ?_
        refine v_bipush (x := 8) dm_member_44 rfl ?_
        refine v_cmp_ne dm_member_46 (fun hc => ?_) (fun hc => ?_)
        · replace hm := it hc hm
          refine v_iconst (x := (-1)) dm_member_49 rfl ?_
          cases hm
          exact v_iret dm_member_50 rfl
        · replace hm := ie hc hm
          refine v_ald_0 dm_member_51 ?_
          refine v_getR dm_member_52 fum_131 sh_104 rf_104_67 ?_
          refine v_ald_0 dm_member_55 ?_
          refine v_getI dm_member_56 fum_499 sh_104 rf_104_66 ?_
          refine v_ild_1 dm_member_59 ?_
          obtain ⟨hi, hm⟩ := ck_s hm
          refine v_iastl dm_member_60 sh_144 hi hm (fun h5 hm => ?_)
          refine v_ald_0 dm_member_61 ?_
          refine v_getR dm_member_62 fum_134 sh_104 rf_104_68 ?_
          refine v_ald_0 dm_member_65 ?_
          refine v_getI dm_member_66 fum_499 sh_104 rf_104_66 ?_
          refine v_ild_2 dm_member_69 ?_
          obtain ⟨hi, hm⟩ := ck_s hm
          refine v_iastl dm_member_70 sh_145 hi hm (fun h6 hm => ?_)
          refine v_ald_0 dm_member_71 ?_
          refine v_ald_0 dm_member_72 ?_
          refine v_getI dm_member_73 fum_499 sh_104 rf_104_66 ?_
          refine v_iconst (x := 1) dm_member_76 rfl ?_
          refine v_iadd dm_member_77 ?_
          refine v_putIl dm_member_78 fum_499 ft_12_66 sh_104 rf_104_66 hm (fun h7 hm => ?_)
          refine v_ald_0 dm_member_81 ?_
          refine v_getI dm_member_82 fum_499 sh_104 rf_104_66 ?_
          cases hm
          exact v_iret dm_member_85 rfl
def mm_moreOf_L4 (p1 : Int32) (h0 : PH) : Nat → Int32 → Int32 → Option (Int32)
  | 0, _, _ => none
  | n + 1, v2, v3 =>
    if (h0 104 66) ≤ v3 then
      some v2
    else
      bd (mm_has p1 v3 h0) fun r1 =>
      if r1 = 0 then
        ck v3 8 <|
        lt (v2 + (-(h0 145 (ix v3)))) fun x2 =>
        mm_moreOf_L4 p1 h0 n x2 (v3 + 1)
      else
        ck v3 8 <|
        lt (v2 + (h0 145 (ix v3))) fun x3 =>
        mm_moreOf_L4 p1 h0 n x3 (v3 + 1)
def mm_moreOf (p1 : Int32) (h0 : PH) : Option (Int32) :=
  mm_moreOf_L4 p1 h0 FU 0 0
theorem wm_moreOf_L4 (G : GG) (d : Nat) (p1 : Int32) (h0 : PH) (r : Int32) : ∀ (n : Nat) (v2 : Int32) (v3 : Int32), mm_moreOf_L4 p1 h0 n v2 v3 = some r → Vx G tm_moreOf (d + 1) 4 [some (.ref (gB G + 104)), some (.int p1), some (.int v2), some (.int v3)] [] h0 (some (.int r)) h0 := by
  intro n
  induction n with
  | zero => intro v2 v3 hm; cases hm
  | succ n ih =>
    intro v2 v3 hm
    unfold mm_moreOf_L4 at hm
    refine v_ild_3 dm_moreOf_4 ?_
    refine v_ald_0 dm_moreOf_5 ?_
    refine v_getI dm_moreOf_6 fum_499 sh_104 rf_104_66 ?_
    refine v_cmp_ge dm_moreOf_9 (fun hc => ?_) (fun hc => ?_)
    · replace hm := it hc hm
      refine v_ild_2 dm_moreOf_46 ?_
      cases hm
      exact v_iret dm_moreOf_47 rfl
    · replace hm := ie hc hm
      refine v_ild_2 dm_moreOf_12 ?_
      refine v_ald_0 dm_moreOf_13 ?_
      refine v_ild_1 dm_moreOf_14 ?_
      refine v_ild_3 dm_moreOf_15 ?_
      obtain ⟨r1, he, hm⟩ := bd_s hm
      refine v_cv2i (M' := tm_has) dm_moreOf_16 mlm_360 okm_has sh_104 hc_12 (Nat.le_of_ble_eq_true rfl) (ctm_has G d _ _ _ _ he) ?_
      refine v_if_eq dm_moreOf_19 (fun hc => ?_) (fun hc => ?_)
      · replace hm := it hc hm
        refine v_ald_0 dm_moreOf_31 ?_
        refine v_getR dm_moreOf_32 fum_134 sh_104 rf_104_68 ?_
        refine v_ild_3 dm_moreOf_35 ?_
        obtain ⟨hi, hm⟩ := ck_s hm
        refine v_iald dm_moreOf_36 sh_145 hi ?_
        refine v_ineg dm_moreOf_37 ?_
        refine v_iadd dm_moreOf_38 ?_
        refine v_top hm (fun x2 hm => ?_)
        refine v_ist_2 dm_moreOf_39 (by decide) rfl ?_
        refine v_inc_3 1 dm_moreOf_40 rfl (by decide) rfl ?_
        refine v_goto dm_moreOf_43 ?_
        exact v_kw (ih _ _ hm) (wk_s (wk_s (wk_s (wk_s wk_e))))
      · replace hm := ie hc hm
        refine v_ald_0 dm_moreOf_22 ?_
        refine v_getR dm_moreOf_23 fum_134 sh_104 rf_104_68 ?_
        refine v_ild_3 dm_moreOf_26 ?_
        obtain ⟨hi, hm⟩ := ck_s hm
        refine v_iald dm_moreOf_27 sh_145 hi ?_
        refine v_goto dm_moreOf_28 ?_
        refine v_iadd dm_moreOf_38 ?_
        refine v_top hm (fun x3 hm => ?_)
        refine v_ist_2 dm_moreOf_39 (by decide) rfl ?_
        refine v_inc_3 1 dm_moreOf_40 rfl (by decide) rfl ?_
        refine v_goto dm_moreOf_43 ?_
        exact v_kw (ih _ _ hm) (wk_s (wk_s (wk_s (wk_s wk_e))))
