def mX_dough (p1 : Int32) (h0 : PH) : Option (Int32 × PH) :=
  jn1 (fun (x2 : Int32) =>
    bd (mX_within p1 1 30 h0) fun r3 =>
    bd2 (mX_tell 20 x2 r3 p1 0 h0) fun r4 h5 =>
    some (r4, h5)) fun j1 =>
  if p1 = (-1) then
    j1 1
  else
    j1 0
theorem ctX_dough (G : GG) (d : Nat) (p1 : Int32) (h0 : PH) (r : Int32 × PH) (hm : mX_dough p1 h0 = some r) : Kx G tX_dough (d + 2) [.ref (gB G + 0), .int p1] h0 (some (.int r.1)) r.2 := by
  refine K_of_V (by decide) (by simp [cat_i, cat_r, fmtV_cat]) (by simp [tX_dough]) ?_
  change Vx G tX_dough (d + 2) 0 [some (.ref (gB G + 0)), some (.int p1)] [] h0 (some (.int r.1)) r.2
  unfold mX_dough at hm
  refine v_ald_0 dX_dough_0 ?_
  refine v_getR dX_dough_1 fuX_34 sh_0 rf_0_3 ?_
  refine v_getR dX_dough_4 fuX_250 sh_5 rf_5_7 ?_
  refine v_ild_1 dX_dough_7 ?_
  refine v_iconst (x := (-1)) dX_dough_8 rfl ?_
  refine v_j1 (fun (x2 : Int32) => Vx G tX_dough (d + 2) 17 [none, some (.int p1)] [.int x2, .ref (gB G + 20)] h0 (some (.int r.1)) r.2) hm (fun x2 hm => ?_) (fun j1 kj1 hm => ?_)
  · refine v_ild_1 dX_dough_17 ?_
    refine v_iconst (x := 1) dX_dough_18 rfl ?_
    refine v_bipush (x := 30) dX_dough_19 rfl ?_
    obtain ⟨r3, he, hm⟩ := bd_s hm
    refine v_cs3i (M' := tX_within) dX_dough_21 mlX_111 okX_within (Nat.le_of_ble_eq_true rfl) (ctX_within G (d + 1) _ _ _ _ _ he) ?_
    refine v_ild_1 dX_dough_24 ?_
    refine v_iconst (x := 0) dX_dough_25 rfl ?_
    obtain ⟨r4, h5, he, hm⟩ := bd2_s hm
    refine v_cs5i (M' := tX_tell) dX_dough_26 mlX_238 okX_tell (Nat.le_of_ble_eq_true rfl) (ctX_tell G d _ _ _ _ _ sh_20 _ _ he) ?_
    cases hm
    exact v_iret dX_dough_29 rfl
  · refine v_cmp_ne dX_dough_9 (fun hc => ?_) (fun hc => ?_)
    · replace hm := it hc hm
      refine v_iconst (x := 1) dX_dough_12 rfl ?_
      refine v_goto dX_dough_13 ?_
      exact v_kw (kj1 _ hm) (wk_n (wk_s wk_e))
    · replace hm := ie hc hm
      refine v_iconst (x := 0) dX_dough_16 rfl ?_
      exact v_kw (kj1 _ hm) (wk_n (wk_s wk_e))
def mX_pans (p1 : Int32) (p2 : Int32) (h0 : PH) : Option (Int32 × PH) :=
  bd (mX_within p1 1 60 h0) fun r1 =>
  if r1 = 0 then
    some ((-1), h0)
  else
    bd (mX_within p2 0 1 h0) fun r2 =>
    if r2 = 0 then
      some ((-1), h0)
    else
      bd (mK_greatest 20 h0) fun r3 =>
      if r3 ≤ p1 then
        if p2 = 0 then
          bd2 (mK_fewestPans 20 p1 h0) fun r4 h5 =>
          some (r4, h5)
        else
          bd2 (mK_firstFitPans 20 p1 h0) fun r6 h7 =>
          some (r6, h7)
      else
        some ((-1), h0)
theorem ctX_pans (G : GG) (d : Nat) (p1 : Int32) (p2 : Int32) (h0 : PH) (r : Int32 × PH) (hm : mX_pans p1 p2 h0 = some r) : Kx G tX_pans (d + 32) [.ref (gB G + 0), .int p1, .int p2] h0 (some (.int r.1)) r.2 := by
  refine K_of_V (by decide) (by simp [cat_i, cat_r, fmtV_cat]) (by simp [tX_pans]) ?_
  change Vx G tX_pans (d + 32) 0 [some (.ref (gB G + 0)), some (.int p1), some (.int p2)] [] h0 (some (.int r.1)) r.2
  unfold mX_pans at hm
  refine v_ild_1 dX_pans_0 ?_
  refine v_iconst (x := 1) dX_pans_1 rfl ?_
  refine v_bipush (x := 60) dX_pans_2 rfl ?_
  obtain ⟨r1, he, hm⟩ := bd_s hm
  refine v_cs3i (M' := tX_within) dX_pans_4 mlX_111 okX_within (Nat.le_of_ble_eq_true rfl) (ctX_within G (d + 31) _ _ _ _ _ he) ?_
  refine v_if_eq dX_pans_7 (fun hc => ?_) (fun hc => ?_)
  · replace hm := it hc hm
    refine v_iconst (x := (-1)) dX_pans_33 rfl ?_
    cases hm
    exact v_iret dX_pans_34 rfl
  · replace hm := ie hc hm
    refine v_ild_2 dX_pans_10 ?_
    refine v_iconst (x := 0) dX_pans_11 rfl ?_
    refine v_iconst (x := 1) dX_pans_12 rfl ?_
    obtain ⟨r2, he, hm⟩ := bd_s hm
    refine v_cs3i (M' := tX_within) dX_pans_13 mlX_111 okX_within (Nat.le_of_ble_eq_true rfl) (ctX_within G (d + 31) _ _ _ _ _ he) ?_
    refine v_if_eq dX_pans_16 (fun hc => ?_) (fun hc => ?_)
    · replace hm := it hc hm
      refine v_iconst (x := (-1)) dX_pans_33 rfl ?_
      cases hm
      exact v_iret dX_pans_34 rfl
    · replace hm := ie hc hm
      refine v_ald_0 dX_pans_19 ?_
      refine v_getR dX_pans_20 fuX_34 sh_0 rf_0_3 ?_
      refine v_getR dX_pans_23 fuX_250 sh_5 rf_5_7 ?_
      obtain ⟨r3, he, hm⟩ := bd_s hm
      refine v_cs1i (M' := tK_greatest) dX_pans_26 mlX_253 okK_greatest (Nat.le_of_ble_eq_true rfl) (ctK_greatest G (d + 30) _ sh_20 _ _ he) ?_
      refine v_ild_1 dX_pans_29 ?_
      refine v_cmp_le dX_pans_30 (fun hc => ?_) (fun hc => ?_)
      · replace hm := it hc hm
        refine v_ild_2 dX_pans_35 ?_
        refine v_if_ne dX_pans_36 (fun hc => ?_) (fun hc => ?_)
        · replace hm := it hc hm
          refine v_ald_0 dX_pans_39 ?_
          refine v_getR dX_pans_40 fuX_89 sh_0 rf_0_11 ?_
          refine v_ald_0 dX_pans_43 ?_
          refine v_getR dX_pans_44 fuX_34 sh_0 rf_0_3 ?_
          refine v_getR dX_pans_47 fuX_250 sh_5 rf_5_7 ?_
          refine v_ild_1 dX_pans_50 ?_
          obtain ⟨r4, h5, he, hm⟩ := bd2_s hm
          refine v_cv2i (M' := tK_fewestPans) dX_pans_51 mlX_257 okK_fewestPans sh_98 hc_2 (Nat.le_of_ble_eq_true rfl) (ctK_fewestPans G d _ _ sh_20 _ _ he) ?_
          refine v_goto dX_pans_54 ?_
          cases hm
          exact v_iret dX_pans_72 rfl
        · replace hm := ie hc hm
          refine v_ald_0 dX_pans_57 ?_
          refine v_getR dX_pans_58 fuX_89 sh_0 rf_0_11 ?_
          refine v_ald_0 dX_pans_61 ?_
          refine v_getR dX_pans_62 fuX_34 sh_0 rf_0_3 ?_
          refine v_getR dX_pans_65 fuX_250 sh_5 rf_5_7 ?_
          refine v_ild_1 dX_pans_68 ?_
          obtain ⟨r6, h7, he, hm⟩ := bd2_s hm
          refine v_cv2i (M' := tK_firstFitPans) dX_pans_69 mlX_260 okK_firstFitPans sh_98 hc_2 (Nat.le_of_ble_eq_true rfl) (ctK_firstFitPans G (d + 30) _ _ sh_20 _ _ he) ?_
          cases hm
          exact v_iret dX_pans_72 rfl
      · replace hm := ie hc hm
        refine v_iconst (x := (-1)) dX_pans_33 rfl ?_
        cases hm
        exact v_iret dX_pans_34 rfl
def mX_mortgage (p1 : Int32) (p2 : Int32) (p3 : Int32) (p4 : Int32) (h0 : PH) : Option (Int32) :=
  bd (mX_within p1 1 9999 h0) fun r1 =>
  jn1 (fun (x3 : Int32) =>
    if x3 = 0 then
      some (-1)
    else
      bd (mX_within p4 0 1 h0) fun r4 =>
      if r4 = 0 then
        some (-1)
      else
        jn1 (fun (x6 : Int32) =>
          bd (mK_payOff p1 p2 p3 x6 h0) fun r7 =>
          some r7) fun j5 =>
        if p4 = 0 then
          j5 1
        else
          j5 0) fun j2 =>
  if r1 = 0 then
    j2 0
  else
    bd (mX_within p2 0 50 h0) fun r8 =>
    if r8 = 0 then
      j2 0
    else
      bd (mX_within p3 1 999 h0) fun r9 =>
      if r9 = 0 then
        j2 0
      else
        j2 1
theorem ctX_mortgage (G : GG) (d : Nat) (p1 : Int32) (p2 : Int32) (p3 : Int32) (p4 : Int32) (h0 : PH) (r : Int32) (hm : mX_mortgage p1 p2 p3 p4 h0 = some r) : Kx G tX_mortgage (d + 2) [.ref (gB G + 0), .int p1, .int p2, .int p3, .int p4] h0 (some (.int r)) h0 := by
  refine K_of_V (by decide) (by simp [cat_i, cat_r, fmtV_cat]) (by simp [tX_mortgage]) ?_
  change Vx G tX_mortgage (d + 2) 0 [some (.ref (gB G + 0)), some (.int p1), some (.int p2), some (.int p3), some (.int p4), none] [] h0 (some (.int r)) h0
  unfold mX_mortgage at hm
  refine v_ild_1 dX_mortgage_0 ?_
  refine v_iconst (x := 1) dX_mortgage_1 rfl ?_
  refine v_sipush (x := 9999) dX_mortgage_2 rfl ?_
  obtain ⟨r1, he, hm⟩ := bd_s hm
  refine v_cs3i (M' := tX_within) dX_mortgage_5 mlX_111 okX_within (Nat.le_of_ble_eq_true rfl) (ctX_within G (d + 1) _ _ _ _ _ he) ?_
  refine v_j1 (fun (x3 : Int32) => Vx G tX_mortgage (d + 2) 37 [none, some (.int p1), some (.int p2), some (.int p3), some (.int p4), none] [.int x3] h0 (some (.int r)) h0) hm (fun x3 hm => ?_) (fun j2 kj2 hm => ?_)
  · refine v_ist_5 dX_mortgage_37 (by decide) rfl ?_
    refine v_ild_5 dX_mortgage_39 ?_
    refine v_if_eq dX_mortgage_41 (fun hc => ?_) (fun hc => ?_)
    · replace hm := it hc hm
      refine v_iconst (x := (-1)) dX_mortgage_54 rfl ?_
      cases hm
      exact v_iret dX_mortgage_55 rfl
    · replace hm := ie hc hm
      refine v_ild_4 dX_mortgage_44 ?_
      refine v_iconst (x := 0) dX_mortgage_46 rfl ?_
      refine v_iconst (x := 1) dX_mortgage_47 rfl ?_
      obtain ⟨r4, he, hm⟩ := bd_s hm
      refine v_cs3i (M' := tX_within) dX_mortgage_48 mlX_111 okX_within (Nat.le_of_ble_eq_true rfl) (ctX_within G (d + 1) _ _ _ _ _ he) ?_
      refine v_if_ne dX_mortgage_51 (fun hc => ?_) (fun hc => ?_)
      · replace hm := it hc hm
        refine v_iconst (x := (-1)) dX_mortgage_54 rfl ?_
        cases hm
        exact v_iret dX_mortgage_55 rfl
      · replace hm := ie hc hm
        refine v_ild_1 dX_mortgage_56 ?_
        refine v_ild_2 dX_mortgage_57 ?_
        refine v_ild_3 dX_mortgage_58 ?_
        refine v_ild_4 dX_mortgage_59 ?_
        refine v_j1 (fun (x6 : Int32) => Vx G tX_mortgage (d + 2) 69 [none, none, none, none, none, none] [.int x6, .int p3, .int p2, .int p1] h0 (some (.int r)) h0) hm (fun x6 hm => ?_) (fun j5 kj5 hm => ?_)
        · obtain ⟨r7, he, hm⟩ := bd_s hm
          refine v_cs4i (M' := tK_payOff) dX_mortgage_69 mlX_263 okK_payOff (Nat.le_of_ble_eq_true rfl) (ctK_payOff G d _ _ _ _ _ _ he) ?_
          cases hm
          exact v_iret dX_mortgage_72 rfl
        · refine v_if_ne dX_mortgage_61 (fun hc => ?_) (fun hc => ?_)
          · replace hm := it hc hm
            refine v_iconst (x := 1) dX_mortgage_64 rfl ?_
            refine v_goto dX_mortgage_65 ?_
            exact v_kw (kj5 _ hm) (wk_n (wk_n (wk_n (wk_n (wk_n (wk_n wk_e))))))
          · replace hm := ie hc hm
            refine v_iconst (x := 0) dX_mortgage_68 rfl ?_
            exact v_kw (kj5 _ hm) (wk_n (wk_n (wk_n (wk_n (wk_n (wk_n wk_e))))))
  · refine v_if_eq dX_mortgage_8 (fun hc => ?_) (fun hc => ?_)
    · replace hm := it hc hm
      refine v_iconst (x := 0) dX_mortgage_36 rfl ?_
      exact v_kw (kj2 _ hm) (wk_n (wk_s (wk_s (wk_s (wk_s (wk_n wk_e))))))
    · replace hm := ie hc hm
      refine v_ild_2 dX_mortgage_11 ?_
      refine v_iconst (x := 0) dX_mortgage_12 rfl ?_
      refine v_bipush (x := 50) dX_mortgage_13 rfl ?_
      obtain ⟨r8, he, hm⟩ := bd_s hm
      refine v_cs3i (M' := tX_within) dX_mortgage_15 mlX_111 okX_within (Nat.le_of_ble_eq_true rfl) (ctX_within G (d + 1) _ _ _ _ _ he) ?_
      refine v_if_eq dX_mortgage_18 (fun hc => ?_) (fun hc => ?_)
      · replace hm := it hc hm
        refine v_iconst (x := 0) dX_mortgage_36 rfl ?_
        exact v_kw (kj2 _ hm) (wk_n (wk_s (wk_s (wk_s (wk_s (wk_n wk_e))))))
      · replace hm := ie hc hm
        refine v_ild_3 dX_mortgage_21 ?_
        refine v_iconst (x := 1) dX_mortgage_22 rfl ?_
        refine v_sipush (x := 999) dX_mortgage_23 rfl ?_
        obtain ⟨r9, he, hm⟩ := bd_s hm
        refine v_cs3i (M' := tX_within) dX_mortgage_26 mlX_111 okX_within (Nat.le_of_ble_eq_true rfl) (ctX_within G (d + 1) _ _ _ _ _ he) ?_
        refine v_if_eq dX_mortgage_29 (fun hc => ?_) (fun hc => ?_)
        · replace hm := it hc hm
          refine v_iconst (x := 0) dX_mortgage_36 rfl ?_
          exact v_kw (kj2 _ hm) (wk_n (wk_s (wk_s (wk_s (wk_s (wk_n wk_e))))))
        · replace hm := ie hc hm
          refine v_iconst (x := 1) dX_mortgage_32 rfl ?_
          refine v_goto dX_mortgage_33 ?_
          exact v_kw (kj2 _ hm) (wk_n (wk_s (wk_s (wk_s (wk_s (wk_n wk_e))))))
def mX_mark (p1 : Int32) (h0 : PH) : Option (Int32 × PH) :=
  jn1 (fun (x2 : Int32) =>
    bd (mX_within p1 1 60 h0) fun r3 =>
    bd2 (mX_tell 22 x2 r3 p1 0 h0) fun r4 h5 =>
    some (r4, h5)) fun j1 =>
  if p1 = (-1) then
    j1 1
  else
    j1 0
theorem ctX_mark (G : GG) (d : Nat) (p1 : Int32) (h0 : PH) (r : Int32 × PH) (hm : mX_mark p1 h0 = some r) : Kx G tX_mark (d + 2) [.ref (gB G + 0), .int p1] h0 (some (.int r.1)) r.2 := by
  refine K_of_V (by decide) (by simp [cat_i, cat_r, fmtV_cat]) (by simp [tX_mark]) ?_
  change Vx G tX_mark (d + 2) 0 [some (.ref (gB G + 0)), some (.int p1)] [] h0 (some (.int r.1)) r.2
  unfold mX_mark at hm
  refine v_ald_0 dX_mark_0 ?_
  refine v_getR dX_mark_1 fuX_34 sh_0 rf_0_3 ?_
  refine v_getR dX_mark_4 fuX_267 sh_5 rf_5_8 ?_
  refine v_ild_1 dX_mark_7 ?_
  refine v_iconst (x := (-1)) dX_mark_8 rfl ?_
  refine v_j1 (fun (x2 : Int32) => Vx G tX_mark (d + 2) 17 [none, some (.int p1)] [.int x2, .ref (gB G + 22)] h0 (some (.int r.1)) r.2) hm (fun x2 hm => ?_) (fun j1 kj1 hm => ?_)
  · refine v_ild_1 dX_mark_17 ?_
    refine v_iconst (x := 1) dX_mark_18 rfl ?_
    refine v_bipush (x := 60) dX_mark_19 rfl ?_
    obtain ⟨r3, he, hm⟩ := bd_s hm
    refine v_cs3i (M' := tX_within) dX_mark_21 mlX_111 okX_within (Nat.le_of_ble_eq_true rfl) (ctX_within G (d + 1) _ _ _ _ _ he) ?_
    refine v_ild_1 dX_mark_24 ?_
    refine v_iconst (x := 0) dX_mark_25 rfl ?_
    obtain ⟨r4, h5, he, hm⟩ := bd2_s hm
    refine v_cs5i (M' := tX_tell) dX_mark_26 mlX_238 okX_tell (Nat.le_of_ble_eq_true rfl) (ctX_tell G d _ _ _ _ _ sh_22 _ _ he) ?_
    cases hm
    exact v_iret dX_mark_29 rfl
  · refine v_cmp_ne dX_mark_9 (fun hc => ?_) (fun hc => ?_)
    · replace hm := it hc hm
      refine v_iconst (x := 1) dX_mark_12 rfl ?_
      refine v_goto dX_mark_13 ?_
      exact v_kw (kj1 _ hm) (wk_n (wk_s wk_e))
    · replace hm := ie hc hm
      refine v_iconst (x := 0) dX_mark_16 rfl ?_
      exact v_kw (kj1 _ hm) (wk_n (wk_s wk_e))
def mX_measures (p1 : Int32) (h0 : PH) : Option (Int32) :=
  bd (mX_within p1 0 1 h0) fun r1 =>
  if r1 = 0 then
    some (-1)
  else
    if p1 = 0 then
      bd (mK_countLengths 22 h0) fun r2 =>
      some r2
    else
      bd (mK_leastMissing 22 h0) fun r3 =>
      some r3
theorem ctX_measures (G : GG) (d : Nat) (p1 : Int32) (h0 : PH) (r : Int32) (hm : mX_measures p1 h0 = some r) : Kx G tX_measures (d + 3) [.ref (gB G + 0), .int p1] h0 (some (.int r)) h0 := by
  refine K_of_V (by decide) (by simp [cat_i, cat_r, fmtV_cat]) (by simp [tX_measures]) ?_
  change Vx G tX_measures (d + 3) 0 [some (.ref (gB G + 0)), some (.int p1)] [] h0 (some (.int r)) h0
  unfold mX_measures at hm
  refine v_ild_1 dX_measures_0 ?_
  refine v_iconst (x := 0) dX_measures_1 rfl ?_
  refine v_iconst (x := 1) dX_measures_2 rfl ?_
  obtain ⟨r1, he, hm⟩ := bd_s hm
  refine v_cs3i (M' := tX_within) dX_measures_3 mlX_111 okX_within (Nat.le_of_ble_eq_true rfl) (ctX_within G (d + 2) _ _ _ _ _ he) ?_
  refine v_if_ne dX_measures_6 (fun hc => ?_) (fun hc => ?_)
  · replace hm := it hc hm
    refine v_iconst (x := (-1)) dX_measures_9 rfl ?_
    cases hm
    exact v_iret dX_measures_10 rfl
  · replace hm := ie hc hm
    refine v_ild_1 dX_measures_11 ?_
    refine v_if_ne dX_measures_12 (fun hc => ?_) (fun hc => ?_)
    · replace hm := it hc hm
      refine v_ald_0 dX_measures_15 ?_
      refine v_getR dX_measures_16 fuX_34 sh_0 rf_0_3 ?_
      refine v_getR dX_measures_19 fuX_267 sh_5 rf_5_8 ?_
      obtain ⟨r2, he, hm⟩ := bd_s hm
      refine v_cs1i (M' := tK_countLengths) dX_measures_22 mlX_270 okK_countLengths (Nat.le_of_ble_eq_true rfl) (ctK_countLengths G d _ sh_22 _ _ he) ?_
      refine v_goto dX_measures_25 ?_
      cases hm
      exact v_iret dX_measures_38 rfl
    · replace hm := ie hc hm
      refine v_ald_0 dX_measures_28 ?_
      refine v_getR dX_measures_29 fuX_34 sh_0 rf_0_3 ?_
      refine v_getR dX_measures_32 fuX_267 sh_5 rf_5_8 ?_
      obtain ⟨r3, he, hm⟩ := bd_s hm
      refine v_cs1i (M' := tK_leastMissing) dX_measures_35 mlX_273 okK_leastMissing (Nat.le_of_ble_eq_true rfl) (ctK_leastMissing G d _ sh_22 _ _ he) ?_
      cases hm
      exact v_iret dX_measures_38 rfl
def mX_bite (p1 : Int32) (p2 : Int32) (h0 : PH) : Option (Int32 × PH) :=
  jn1 (fun (x2 : Int32) =>
    bd (mX_within p1 0 255 h0) fun r3 =>
    jn1 (fun (x5 : Int32) =>
      bd2 (mX_tell 24 x2 x5 p1 p2 h0) fun r6 h7 =>
      some (r6, h7)) fun j4 =>
    if r3 = 0 then
      j4 0
    else
      bd (mX_within p2 0 9 h0) fun r8 =>
      if r8 = 0 then
        j4 0
      else
        j4 1) fun j1 =>
  if p1 = (-1) then
    j1 1
  else
    j1 0
theorem ctX_bite (G : GG) (d : Nat) (p1 : Int32) (p2 : Int32) (h0 : PH) (r : Int32 × PH) (hm : mX_bite p1 p2 h0 = some r) : Kx G tX_bite (d + 2) [.ref (gB G + 0), .int p1, .int p2] h0 (some (.int r.1)) r.2 := by
  refine K_of_V (by decide) (by simp [cat_i, cat_r, fmtV_cat]) (by simp [tX_bite]) ?_
  change Vx G tX_bite (d + 2) 0 [some (.ref (gB G + 0)), some (.int p1), some (.int p2)] [] h0 (some (.int r.1)) r.2
  unfold mX_bite at hm
  refine v_ald_0 dX_bite_0 ?_
  refine v_getR dX_bite_1 fuX_34 sh_0 rf_0_3 ?_
  refine v_getR dX_bite_4 fuX_276 sh_5 rf_5_9 ?_
  refine v_ild_1 dX_bite_7 ?_
  refine v_iconst (x := (-1)) dX_bite_8 rfl ?_
  refine v_j1 (fun (x2 : Int32) => Vx G tX_bite (d + 2) 17 [none, some (.int p1), some (.int p2)] [.int x2, .ref (gB G + 24)] h0 (some (.int r.1)) r.2) hm (fun x2 hm => ?_) (fun j1 kj1 hm => ?_)
  · refine v_ild_1 dX_bite_17 ?_
    refine v_iconst (x := 0) dX_bite_18 rfl ?_
    refine v_sipush (x := 255) dX_bite_19 rfl ?_
    obtain ⟨r3, he, hm⟩ := bd_s hm
    refine v_cs3i (M' := tX_within) dX_bite_22 mlX_111 okX_within (Nat.le_of_ble_eq_true rfl) (ctX_within G (d + 1) _ _ _ _ _ he) ?_
    refine v_j1 (fun (x5 : Int32) => Vx G tX_bite (d + 2) 43 [none, some (.int p1), some (.int p2)] [.int x5, .int x2, .ref (gB G + 24)] h0 (some (.int r.1)) r.2) hm (fun x5 hm => ?_) (fun j4 kj4 hm => ?_)
    · refine v_ild_1 dX_bite_43 ?_
      refine v_ild_2 dX_bite_44 ?_
      obtain ⟨r6, h7, he, hm⟩ := bd2_s hm
      refine v_cs5i (M' := tX_tell) dX_bite_45 mlX_238 okX_tell (Nat.le_of_ble_eq_true rfl) (ctX_tell G d _ _ _ _ _ sh_24 _ _ he) ?_
      cases hm
      exact v_iret dX_bite_48 rfl
    · refine v_if_eq dX_bite_25 (fun hc => ?_) (fun hc => ?_)
      · replace hm := it hc hm
        refine v_iconst (x := 0) dX_bite_42 rfl ?_
        exact v_kw (kj4 _ hm) (wk_n (wk_s (wk_s wk_e)))
      · replace hm := ie hc hm
        refine v_ild_2 dX_bite_28 ?_
        refine v_iconst (x := 0) dX_bite_29 rfl ?_
        refine v_bipush (x := 9) dX_bite_30 rfl ?_
        obtain ⟨r8, he, hm⟩ := bd_s hm
        refine v_cs3i (M' := tX_within) dX_bite_32 mlX_111 okX_within (Nat.le_of_ble_eq_true rfl) (ctX_within G (d + 1) _ _ _ _ _ he) ?_
        refine v_if_eq dX_bite_35 (fun hc => ?_) (fun hc => ?_)
        · replace hm := it hc hm
          refine v_iconst (x := 0) dX_bite_42 rfl ?_
          exact v_kw (kj4 _ hm) (wk_n (wk_s (wk_s wk_e)))
        · replace hm := ie hc hm
          refine v_iconst (x := 1) dX_bite_38 rfl ?_
          refine v_goto dX_bite_39 ?_
          exact v_kw (kj4 _ hm) (wk_n (wk_s (wk_s wk_e)))
  · refine v_cmp_ne dX_bite_9 (fun hc => ?_) (fun hc => ?_)
    · replace hm := it hc hm
      refine v_iconst (x := 1) dX_bite_12 rfl ?_
      refine v_goto dX_bite_13 ?_
      exact v_kw (kj1 _ hm) (wk_n (wk_s (wk_s wk_e)))
    · replace hm := ie hc hm
      refine v_iconst (x := 0) dX_bite_16 rfl ?_
      exact v_kw (kj1 _ hm) (wk_n (wk_s (wk_s wk_e)))
def mX_whose (p1 : Int32) (p2 : Int32) (h0 : PH) : Option (Int32) :=
  bd (mX_within p1 0 255 h0) fun r1 =>
  if r1 = 0 then
    some (-1)
  else
    bd (mX_within p2 0 9 h0) fun r2 =>
    if r2 = 0 then
      some (-1)
    else
      bd (mK_biters 24 p1 p2 h0) fun r3 =>
      some r3
theorem ctX_whose (G : GG) (d : Nat) (p1 : Int32) (p2 : Int32) (h0 : PH) (r : Int32) (hm : mX_whose p1 p2 h0 = some r) : Kx G tX_whose (d + 2) [.ref (gB G + 0), .int p1, .int p2] h0 (some (.int r)) h0 := by
  refine K_of_V (by decide) (by simp [cat_i, cat_r, fmtV_cat]) (by simp [tX_whose]) ?_
  change Vx G tX_whose (d + 2) 0 [some (.ref (gB G + 0)), some (.int p1), some (.int p2)] [] h0 (some (.int r)) h0
  unfold mX_whose at hm
  refine v_ild_1 dX_whose_0 ?_
  refine v_iconst (x := 0) dX_whose_1 rfl ?_
  refine v_sipush (x := 255) dX_whose_2 rfl ?_
  obtain ⟨r1, he, hm⟩ := bd_s hm
  refine v_cs3i (M' := tX_within) dX_whose_5 mlX_111 okX_within (Nat.le_of_ble_eq_true rfl) (ctX_within G (d + 1) _ _ _ _ _ he) ?_
  refine v_if_eq dX_whose_8 (fun hc => ?_) (fun hc => ?_)
  · replace hm := it hc hm
    refine v_iconst (x := (-1)) dX_whose_21 rfl ?_
    cases hm
    exact v_iret dX_whose_22 rfl
  · replace hm := ie hc hm
    refine v_ild_2 dX_whose_11 ?_
    refine v_iconst (x := 0) dX_whose_12 rfl ?_
    refine v_bipush (x := 9) dX_whose_13 rfl ?_
    obtain ⟨r2, he, hm⟩ := bd_s hm
    refine v_cs3i (M' := tX_within) dX_whose_15 mlX_111 okX_within (Nat.le_of_ble_eq_true rfl) (ctX_within G (d + 1) _ _ _ _ _ he) ?_
    refine v_if_ne dX_whose_18 (fun hc => ?_) (fun hc => ?_)
    · replace hm := it hc hm
      refine v_iconst (x := (-1)) dX_whose_21 rfl ?_
      cases hm
      exact v_iret dX_whose_22 rfl
    · replace hm := ie hc hm
      refine v_ald_0 dX_whose_23 ?_
      refine v_getR dX_whose_24 fuX_34 sh_0 rf_0_3 ?_
      refine v_getR dX_whose_27 fuX_276 sh_5 rf_5_9 ?_
      refine v_ild_1 dX_whose_30 ?_
      refine v_ild_2 dX_whose_31 ?_
      obtain ⟨r3, he, hm⟩ := bd_s hm
      refine v_cs3i (M' := tK_biters) dX_whose_32 mlX_279 okK_biters (Nat.le_of_ble_eq_true rfl) (ctK_biters G d _ _ _ sh_24 _ _ he) ?_
      cases hm
      exact v_iret dX_whose_35 rfl
def mX_crumb (p1 : Int32) (h0 : PH) : Option (Int32 × PH) :=
  jn1 (fun (x2 : Int32) =>
    bd (mX_within p1 0 3 h0) fun r3 =>
    bd2 (mX_tell 26 x2 r3 p1 0 h0) fun r4 h5 =>
    some (r4, h5)) fun j1 =>
  if p1 = (-1) then
    j1 1
  else
    j1 0
theorem ctX_crumb (G : GG) (d : Nat) (p1 : Int32) (h0 : PH) (r : Int32 × PH) (hm : mX_crumb p1 h0 = some r) : Kx G tX_crumb (d + 2) [.ref (gB G + 0), .int p1] h0 (some (.int r.1)) r.2 := by
  refine K_of_V (by decide) (by simp [cat_i, cat_r, fmtV_cat]) (by simp [tX_crumb]) ?_
  change Vx G tX_crumb (d + 2) 0 [some (.ref (gB G + 0)), some (.int p1)] [] h0 (some (.int r.1)) r.2
  unfold mX_crumb at hm
  refine v_ald_0 dX_crumb_0 ?_
  refine v_getR dX_crumb_1 fuX_34 sh_0 rf_0_3 ?_
  refine v_getR dX_crumb_4 fuX_282 sh_5 rf_5_10 ?_
  refine v_ild_1 dX_crumb_7 ?_
  refine v_iconst (x := (-1)) dX_crumb_8 rfl ?_
  refine v_j1 (fun (x2 : Int32) => Vx G tX_crumb (d + 2) 17 [none, some (.int p1)] [.int x2, .ref (gB G + 26)] h0 (some (.int r.1)) r.2) hm (fun x2 hm => ?_) (fun j1 kj1 hm => ?_)
  · refine v_ild_1 dX_crumb_17 ?_
    refine v_iconst (x := 0) dX_crumb_18 rfl ?_
    refine v_iconst (x := 3) dX_crumb_19 rfl ?_
    obtain ⟨r3, he, hm⟩ := bd_s hm
    refine v_cs3i (M' := tX_within) dX_crumb_20 mlX_111 okX_within (Nat.le_of_ble_eq_true rfl) (ctX_within G (d + 1) _ _ _ _ _ he) ?_
    refine v_ild_1 dX_crumb_23 ?_
    refine v_iconst (x := 0) dX_crumb_24 rfl ?_
    obtain ⟨r4, h5, he, hm⟩ := bd2_s hm
    refine v_cs5i (M' := tX_tell) dX_crumb_25 mlX_238 okX_tell (Nat.le_of_ble_eq_true rfl) (ctX_tell G d _ _ _ _ _ sh_26 _ _ he) ?_
    cases hm
    exact v_iret dX_crumb_28 rfl
  · refine v_cmp_ne dX_crumb_9 (fun hc => ?_) (fun hc => ?_)
    · replace hm := it hc hm
      refine v_iconst (x := 1) dX_crumb_12 rfl ?_
      refine v_goto dX_crumb_13 ?_
      exact v_kw (kj1 _ hm) (wk_n (wk_s wk_e))
    · replace hm := ie hc hm
      refine v_iconst (x := 0) dX_crumb_16 rfl ?_
      exact v_kw (kj1 _ hm) (wk_n (wk_s wk_e))
def mX_crumbs (p1 : Int32) (h0 : PH) : Option (Int32 × PH) :=
  bd (mX_within p1 0 1 h0) fun r1 =>
  if r1 = 0 then
    some ((-1), h0)
  else
    if p1 = 0 then
      bd2 (mK_wayHome 26 h0) fun r2 h3 =>
      some (r2, h3)
    else
      bd2 (mK_placesCrossed 26 h0) fun r4 h5 =>
      some (r4, h5)
theorem ctX_crumbs (G : GG) (d : Nat) (p1 : Int32) (h0 : PH) (r : Int32 × PH) (hm : mX_crumbs p1 h0 = some r) : Kx G tX_crumbs (d + 3) [.ref (gB G + 0), .int p1] h0 (some (.int r.1)) r.2 := by
  refine K_of_V (by decide) (by simp [cat_i, cat_r, fmtV_cat]) (by simp [tX_crumbs]) ?_
  change Vx G tX_crumbs (d + 3) 0 [some (.ref (gB G + 0)), some (.int p1)] [] h0 (some (.int r.1)) r.2
  unfold mX_crumbs at hm
  refine v_ild_1 dX_crumbs_0 ?_
  refine v_iconst (x := 0) dX_crumbs_1 rfl ?_
  refine v_iconst (x := 1) dX_crumbs_2 rfl ?_
  obtain ⟨r1, he, hm⟩ := bd_s hm
  refine v_cs3i (M' := tX_within) dX_crumbs_3 mlX_111 okX_within (Nat.le_of_ble_eq_true rfl) (ctX_within G (d + 2) _ _ _ _ _ he) ?_
  refine v_if_ne dX_crumbs_6 (fun hc => ?_) (fun hc => ?_)
  · replace hm := it hc hm
    refine v_iconst (x := (-1)) dX_crumbs_9 rfl ?_
    cases hm
    exact v_iret dX_crumbs_10 rfl
  · replace hm := ie hc hm
    refine v_ild_1 dX_crumbs_11 ?_
    refine v_if_ne dX_crumbs_12 (fun hc => ?_) (fun hc => ?_)
    · replace hm := it hc hm
      refine v_ald_0 dX_crumbs_15 ?_
      refine v_getR dX_crumbs_16 fuX_89 sh_0 rf_0_11 ?_
      refine v_ald_0 dX_crumbs_19 ?_
      refine v_getR dX_crumbs_20 fuX_34 sh_0 rf_0_3 ?_
      refine v_getR dX_crumbs_23 fuX_282 sh_5 rf_5_10 ?_
      obtain ⟨r2, h3, he, hm⟩ := bd2_s hm
      refine v_cv1i (M' := tK_wayHome) dX_crumbs_26 mlX_285 okK_wayHome sh_98 hc_2 (Nat.le_of_ble_eq_true rfl) (ctK_wayHome G d _ sh_26 _ _ he) ?_
      refine v_goto dX_crumbs_29 ?_
      cases hm
      exact v_iret dX_crumbs_46 rfl
    · replace hm := ie hc hm
      refine v_ald_0 dX_crumbs_32 ?_
      refine v_getR dX_crumbs_33 fuX_89 sh_0 rf_0_11 ?_
      refine v_ald_0 dX_crumbs_36 ?_
      refine v_getR dX_crumbs_37 fuX_34 sh_0 rf_0_3 ?_
      refine v_getR dX_crumbs_40 fuX_282 sh_5 rf_5_10 ?_
      obtain ⟨r4, h5, he, hm⟩ := bd2_s hm
      refine v_cv1i (M' := tK_placesCrossed) dX_crumbs_43 mlX_288 okK_placesCrossed sh_98 hc_2 (Nat.le_of_ble_eq_true rfl) (ctK_placesCrossed G d _ sh_26 _ _ he) ?_
      cases hm
      exact v_iret dX_crumbs_46 rfl
def mX_loaf (p1 : Int32) (p2 : Int32) (h0 : PH) : Option (Int32 × PH) :=
  jn1 (fun (x2 : Int32) =>
    bd (mX_within p1 1 30 h0) fun r3 =>
    jn1 (fun (x5 : Int32) =>
      bd2 (mX_tell 28 x2 x5 p1 p2 h0) fun r6 h7 =>
      some (r6, h7)) fun j4 =>
    if r3 = 0 then
      j4 0
    else
      bd (mX_within p2 1 30 h0) fun r8 =>
      if r8 = 0 then
        j4 0
      else
        j4 1) fun j1 =>
  if p1 = (-1) then
    j1 1
  else
    j1 0
theorem ctX_loaf (G : GG) (d : Nat) (p1 : Int32) (p2 : Int32) (h0 : PH) (r : Int32 × PH) (hm : mX_loaf p1 p2 h0 = some r) : Kx G tX_loaf (d + 2) [.ref (gB G + 0), .int p1, .int p2] h0 (some (.int r.1)) r.2 := by
  refine K_of_V (by decide) (by simp [cat_i, cat_r, fmtV_cat]) (by simp [tX_loaf]) ?_
  change Vx G tX_loaf (d + 2) 0 [some (.ref (gB G + 0)), some (.int p1), some (.int p2)] [] h0 (some (.int r.1)) r.2
  unfold mX_loaf at hm
  refine v_ald_0 dX_loaf_0 ?_
  refine v_getR dX_loaf_1 fuX_34 sh_0 rf_0_3 ?_
  refine v_getR dX_loaf_4 fuX_291 sh_5 rf_5_11 ?_
  refine v_ild_1 dX_loaf_7 ?_
  refine v_iconst (x := (-1)) dX_loaf_8 rfl ?_
  refine v_j1 (fun (x2 : Int32) => Vx G tX_loaf (d + 2) 17 [none, some (.int p1), some (.int p2)] [.int x2, .ref (gB G + 28)] h0 (some (.int r.1)) r.2) hm (fun x2 hm => ?_) (fun j1 kj1 hm => ?_)
  · refine v_ild_1 dX_loaf_17 ?_
    refine v_iconst (x := 1) dX_loaf_18 rfl ?_
    refine v_bipush (x := 30) dX_loaf_19 rfl ?_
    obtain ⟨r3, he, hm⟩ := bd_s hm
    refine v_cs3i (M' := tX_within) dX_loaf_21 mlX_111 okX_within (Nat.le_of_ble_eq_true rfl) (ctX_within G (d + 1) _ _ _ _ _ he) ?_
    refine v_j1 (fun (x5 : Int32) => Vx G tX_loaf (d + 2) 42 [none, some (.int p1), some (.int p2)] [.int x5, .int x2, .ref (gB G + 28)] h0 (some (.int r.1)) r.2) hm (fun x5 hm => ?_) (fun j4 kj4 hm => ?_)
    · refine v_ild_1 dX_loaf_42 ?_
      refine v_ild_2 dX_loaf_43 ?_
      obtain ⟨r6, h7, he, hm⟩ := bd2_s hm
      refine v_cs5i (M' := tX_tell) dX_loaf_44 mlX_238 okX_tell (Nat.le_of_ble_eq_true rfl) (ctX_tell G d _ _ _ _ _ sh_28 _ _ he) ?_
      cases hm
      exact v_iret dX_loaf_47 rfl
    · refine v_if_eq dX_loaf_24 (fun hc => ?_) (fun hc => ?_)
      · replace hm := it hc hm
        refine v_iconst (x := 0) dX_loaf_41 rfl ?_
        exact v_kw (kj4 _ hm) (wk_n (wk_s (wk_s wk_e)))
      · replace hm := ie hc hm
        refine v_ild_2 dX_loaf_27 ?_
        refine v_iconst (x := 1) dX_loaf_28 rfl ?_
        refine v_bipush (x := 30) dX_loaf_29 rfl ?_
        obtain ⟨r8, he, hm⟩ := bd_s hm
        refine v_cs3i (M' := tX_within) dX_loaf_31 mlX_111 okX_within (Nat.le_of_ble_eq_true rfl) (ctX_within G (d + 1) _ _ _ _ _ he) ?_
        refine v_if_eq dX_loaf_34 (fun hc => ?_) (fun hc => ?_)
        · replace hm := it hc hm
          refine v_iconst (x := 0) dX_loaf_41 rfl ?_
          exact v_kw (kj4 _ hm) (wk_n (wk_s (wk_s wk_e)))
        · replace hm := ie hc hm
          refine v_iconst (x := 1) dX_loaf_37 rfl ?_
          refine v_goto dX_loaf_38 ?_
          exact v_kw (kj4 _ hm) (wk_n (wk_s (wk_s wk_e)))
  · refine v_cmp_ne dX_loaf_9 (fun hc => ?_) (fun hc => ?_)
    · replace hm := it hc hm
      refine v_iconst (x := 1) dX_loaf_12 rfl ?_
      refine v_goto dX_loaf_13 ?_
      exact v_kw (kj1 _ hm) (wk_n (wk_s (wk_s wk_e)))
    · replace hm := ie hc hm
      refine v_iconst (x := 0) dX_loaf_16 rfl ?_
      exact v_kw (kj1 _ hm) (wk_n (wk_s (wk_s wk_e)))
def mX_ovens (p1 : Int32) (h0 : PH) : Option (Int32) :=
  if p1 = 0 then
    bd (mK_doneBy 30 28 0 0 0 h0) fun r1 =>
    some r1
  else
    if p1 < 10 then
      some (-1)
    else
      if (p1 - 10) < (h0 28 3) then
        bd (mK_loafAt 28 (p1 - 10) h0) fun r2 =>
        some r2
      else
        some (-1)
theorem ctX_ovens (G : GG) (d : Nat) (p1 : Int32) (h0 : PH) (r : Int32) (hm : mX_ovens p1 h0 = some r) : Kx G tX_ovens (d + 33) [.ref (gB G + 0), .int p1] h0 (some (.int r)) h0 := by
  refine K_of_V (by decide) (by simp [cat_i, cat_r, fmtV_cat]) (by simp [tX_ovens]) ?_
  change Vx G tX_ovens (d + 33) 0 [some (.ref (gB G + 0)), some (.int p1)] [] h0 (some (.int r)) h0
  unfold mX_ovens at hm
  refine v_ild_1 dX_ovens_0 ?_
  refine v_if_ne dX_ovens_1 (fun hc => ?_) (fun hc => ?_)
  · replace hm := it hc hm
    refine v_ald_0 dX_ovens_4 ?_
    refine v_getR dX_ovens_5 fuX_34 sh_0 rf_0_3 ?_
    refine v_getR dX_ovens_8 fuX_291 sh_5 rf_5_11 ?_
    refine v_iconst (x := 0) dX_ovens_11 rfl ?_
    refine v_iconst (x := 0) dX_ovens_12 rfl ?_
    refine v_iconst (x := 0) dX_ovens_13 rfl ?_
    obtain ⟨r1, he, hm⟩ := bd_s hm
    refine v_cn4i (M' := tK_doneBy) dX_ovens_14 mlX_294 okK_doneBy (Nat.le_of_ble_eq_true rfl) (ctK_doneBy G 30 (d + 2) _ _ _ _ sh_28 _ _ he) ?_
    cases hm
    exact v_iret dX_ovens_17 rfl
  · replace hm := ie hc hm
    refine v_ild_1 dX_ovens_18 ?_
    refine v_bipush (x := 10) dX_ovens_19 rfl ?_
    refine v_cmp_lt dX_ovens_21 (fun hc => ?_) (fun hc => ?_)
    · replace hm := it hc hm
      refine v_iconst (x := (-1)) dX_ovens_41 rfl ?_
      cases hm
      exact v_iret dX_ovens_42 rfl
    · replace hm := ie hc hm
      refine v_ild_1 dX_ovens_24 ?_
      refine v_bipush (x := 10) dX_ovens_25 rfl ?_
      refine v_isub dX_ovens_27 ?_
      refine v_ald_0 dX_ovens_28 ?_
      refine v_getR dX_ovens_29 fuX_34 sh_0 rf_0_3 ?_
      refine v_getR dX_ovens_32 fuX_291 sh_5 rf_5_11 ?_
      refine v_getI dX_ovens_35 fuX_143 sh_28 rf_28_3 ?_
      refine v_cmp_lt dX_ovens_38 (fun hc => ?_) (fun hc => ?_)
      · replace hm := it hc hm
        refine v_ald_0 dX_ovens_43 ?_
        refine v_getR dX_ovens_44 fuX_34 sh_0 rf_0_3 ?_
        refine v_getR dX_ovens_47 fuX_291 sh_5 rf_5_11 ?_
        refine v_ild_1 dX_ovens_50 ?_
        refine v_bipush (x := 10) dX_ovens_51 rfl ?_
        refine v_isub dX_ovens_53 ?_
        obtain ⟨r2, he, hm⟩ := bd_s hm
        refine v_cs2i (M' := tK_loafAt) dX_ovens_54 mlX_298 okK_loafAt (Nat.le_of_ble_eq_true rfl) (ctK_loafAt G d _ _ sh_28 _ _ he) ?_
        cases hm
        exact v_iret dX_ovens_57 rfl
      · replace hm := ie hc hm
        refine v_iconst (x := (-1)) dX_ovens_41 rfl ?_
        cases hm
        exact v_iret dX_ovens_42 rfl
def mX_alone (p1 : Int32) (h0 : PH) : Option (Int32 × PH) :=
  bd (mX_within p1 0 1 h0) fun r1 =>
  if r1 = 0 then
    some ((-1), h0)
  else
    bd2 (mT_mostAlone 1 5 h0) fun r2 h3 =>
    if p1 = 0 then
      bd (mJ_bitCount r2 h3) fun r4 =>
      some (r4, h3)
    else
      some (r2, h3)
theorem ctX_alone (G : GG) (d : Nat) (p1 : Int32) (h0 : PH) (r : Int32 × PH) (hm : mX_alone p1 h0 = some r) : Kx G tX_alone (d + 4) [.ref (gB G + 0), .int p1] h0 (some (.int r.1)) r.2 := by
  refine K_of_V (by decide) (by simp [cat_i, cat_r, fmtV_cat]) (by simp [tX_alone]) ?_
  change Vx G tX_alone (d + 4) 0 [some (.ref (gB G + 0)), some (.int p1), none] [] h0 (some (.int r.1)) r.2
  unfold mX_alone at hm
  refine v_ild_1 dX_alone_0 ?_
  refine v_iconst (x := 0) dX_alone_1 rfl ?_
  refine v_iconst (x := 1) dX_alone_2 rfl ?_
  obtain ⟨r1, he, hm⟩ := bd_s hm
  refine v_cs3i (M' := tX_within) dX_alone_3 mlX_111 okX_within (Nat.le_of_ble_eq_true rfl) (ctX_within G (d + 3) _ _ _ _ _ he) ?_
  refine v_if_ne dX_alone_6 (fun hc => ?_) (fun hc => ?_)
  · replace hm := it hc hm
    refine v_iconst (x := (-1)) dX_alone_9 rfl ?_
    cases hm
    exact v_iret dX_alone_10 rfl
  · replace hm := ie hc hm
    refine v_ald_0 dX_alone_11 ?_
    refine v_getR dX_alone_12 fuX_82 sh_0 rf_0_10 ?_
    refine v_ald_0 dX_alone_15 ?_
    refine v_getR dX_alone_16 fuX_25 sh_0 rf_0_0 ?_
    refine v_ald_0 dX_alone_19 ?_
    refine v_getR dX_alone_20 fuX_34 sh_0 rf_0_3 ?_
    obtain ⟨r2, h3, he, hm⟩ := bd2_s hm
    refine v_cv2i (M' := tT_mostAlone) dX_alone_23 mlX_301 okT_mostAlone sh_95 hc_9 (Nat.le_of_ble_eq_true rfl) (ctT_mostAlone G d _ _ sh_1 sh_5 _ _ he) ?_
    refine v_ist_2 dX_alone_26 (by decide) rfl ?_
    refine v_ild_1 dX_alone_27 ?_
    refine v_if_ne dX_alone_28 (fun hc => ?_) (fun hc => ?_)
    · replace hm := it hc hm
      refine v_ild_2 dX_alone_31 ?_
      obtain ⟨r4, he, hm⟩ := bd_s hm
      refine v_cs1i (M' := tJ_bitCount) dX_alone_32 mlX_305 okJ_bitCount (Nat.le_of_ble_eq_true rfl) (ctJ_bitCount G (d + 3) _ _ _ he) ?_
      refine v_goto dX_alone_35 ?_
      cases hm
      exact v_iret dX_alone_39 rfl
    · replace hm := ie hc hm
      refine v_ild_2 dX_alone_38 ?_
      cases hm
      exact v_iret dX_alone_39 rfl
def mX_heir (p1 : Int32) (p2 : Int32) (h0 : PH) : Option (Int32 × PH) :=
  bd (mX_within p1 0 11 h0) fun r1 =>
  jn1 (fun (x3 : Int32) =>
    jn1 (fun (x5 : Int32) =>
      bd2 (mX_tell 30 x5 x3 p1 p2 h0) fun r6 h7 =>
      some (r6, h7)) fun j4 =>
    if p1 = (-1) then
      j4 1
    else
      j4 0) fun j2 =>
  if r1 = 0 then
    j2 0
  else
    bd (mX_within p2 0 11 h0) fun r8 =>
    if r8 = 0 then
      j2 0
    else
      if p1 = p2 then
        j2 0
      else
        j2 1
theorem ctX_heir (G : GG) (d : Nat) (p1 : Int32) (p2 : Int32) (h0 : PH) (r : Int32 × PH) (hm : mX_heir p1 p2 h0 = some r) : Kx G tX_heir (d + 2) [.ref (gB G + 0), .int p1, .int p2] h0 (some (.int r.1)) r.2 := by
  refine K_of_V (by decide) (by simp [cat_i, cat_r, fmtV_cat]) (by simp [tX_heir]) ?_
  change Vx G tX_heir (d + 2) 0 [some (.ref (gB G + 0)), some (.int p1), some (.int p2), none] [] h0 (some (.int r.1)) r.2
  unfold mX_heir at hm
  refine v_ild_1 dX_heir_0 ?_
  refine v_iconst (x := 0) dX_heir_1 rfl ?_
  refine v_bipush (x := 11) dX_heir_2 rfl ?_
  obtain ⟨r1, he, hm⟩ := bd_s hm
  refine v_cs3i (M' := tX_within) dX_heir_4 mlX_111 okX_within (Nat.le_of_ble_eq_true rfl) (ctX_within G (d + 1) _ _ _ _ _ he) ?_
  refine v_j1 (fun (x3 : Int32) => Vx G tX_heir (d + 2) 30 [some (.ref (gB G + 0)), some (.int p1), some (.int p2), none] [.int x3] h0 (some (.int r.1)) r.2) hm (fun x3 hm => ?_) (fun j2 kj2 hm => ?_)
  · refine v_ist_3 dX_heir_30 (by decide) rfl ?_
    refine v_ald_0 dX_heir_31 ?_
    refine v_getR dX_heir_32 fuX_34 sh_0 rf_0_3 ?_
    refine v_getR dX_heir_35 fuX_310 sh_5 rf_5_12 ?_
    refine v_ild_1 dX_heir_38 ?_
    refine v_iconst (x := (-1)) dX_heir_39 rfl ?_
    refine v_j1 (fun (x5 : Int32) => Vx G tX_heir (d + 2) 48 [none, some (.int p1), some (.int p2), some (.int x3)] [.int x5, .ref (gB G + 30)] h0 (some (.int r.1)) r.2) hm (fun x5 hm => ?_) (fun j4 kj4 hm => ?_)
    · refine v_ild_3 dX_heir_48 ?_
      refine v_ild_1 dX_heir_49 ?_
      refine v_ild_2 dX_heir_50 ?_
      obtain ⟨r6, h7, he, hm⟩ := bd2_s hm
      refine v_cs5i (M' := tX_tell) dX_heir_51 mlX_238 okX_tell (Nat.le_of_ble_eq_true rfl) (ctX_tell G d _ _ _ _ _ sh_30 _ _ he) ?_
      cases hm
      exact v_iret dX_heir_54 rfl
    · refine v_cmp_ne dX_heir_40 (fun hc => ?_) (fun hc => ?_)
      · replace hm := it hc hm
        refine v_iconst (x := 1) dX_heir_43 rfl ?_
        refine v_goto dX_heir_44 ?_
        exact v_kw (kj4 _ hm) (wk_n (wk_s (wk_s (wk_s wk_e))))
      · replace hm := ie hc hm
        refine v_iconst (x := 0) dX_heir_47 rfl ?_
        exact v_kw (kj4 _ hm) (wk_n (wk_s (wk_s (wk_s wk_e))))
  · refine v_if_eq dX_heir_7 (fun hc => ?_) (fun hc => ?_)
    · replace hm := it hc hm
      refine v_iconst (x := 0) dX_heir_29 rfl ?_
      exact v_kw (kj2 _ hm) (wk_s (wk_s (wk_s (wk_n wk_e))))
    · replace hm := ie hc hm
      refine v_ild_2 dX_heir_10 ?_
      refine v_iconst (x := 0) dX_heir_11 rfl ?_
      refine v_bipush (x := 11) dX_heir_12 rfl ?_
      obtain ⟨r8, he, hm⟩ := bd_s hm
      refine v_cs3i (M' := tX_within) dX_heir_14 mlX_111 okX_within (Nat.le_of_ble_eq_true rfl) (ctX_within G (d + 1) _ _ _ _ _ he) ?_
      refine v_if_eq dX_heir_17 (fun hc => ?_) (fun hc => ?_)
      · replace hm := it hc hm
        refine v_iconst (x := 0) dX_heir_29 rfl ?_
        exact v_kw (kj2 _ hm) (wk_s (wk_s (wk_s (wk_n wk_e))))
      · replace hm := ie hc hm
        refine v_ild_1 dX_heir_20 ?_
        refine v_ild_2 dX_heir_21 ?_
        refine v_cmp_eq dX_heir_22 (fun hc => ?_) (fun hc => ?_)
        · replace hm := it hc hm
          refine v_iconst (x := 0) dX_heir_29 rfl ?_
          exact v_kw (kj2 _ hm) (wk_s (wk_s (wk_s (wk_n wk_e))))
        · replace hm := ie hc hm
          refine v_iconst (x := 1) dX_heir_25 rfl ?_
          refine v_goto dX_heir_26 ?_
          exact v_kw (kj2 _ hm) (wk_s (wk_s (wk_s (wk_n wk_e))))
def mX_line (p1 : Int32) (p2 : Int32) (h0 : PH) : Option (Int32) :=
  bd (mX_within p1 0 11 h0) fun r1 =>
  if r1 = 0 then
    some (-1)
  else
    bd (mX_within p2 0 1 h0) fun r2 =>
    if r2 = 0 then
      some (-1)
    else
      jn1 (fun (x4 : Int32) =>
        bd (mK_lineOf 30 p1 x4 h0) fun r5 =>
        some r5) fun j3 =>
      if p2 = 0 then
        j3 1
      else
        j3 0
theorem ctX_line (G : GG) (d : Nat) (p1 : Int32) (p2 : Int32) (h0 : PH) (r : Int32) (hm : mX_line p1 p2 h0 = some r) : Kx G tX_line (d + 3) [.ref (gB G + 0), .int p1, .int p2] h0 (some (.int r)) h0 := by
  refine K_of_V (by decide) (by simp [cat_i, cat_r, fmtV_cat]) (by simp [tX_line]) ?_
  change Vx G tX_line (d + 3) 0 [some (.ref (gB G + 0)), some (.int p1), some (.int p2)] [] h0 (some (.int r)) h0
  unfold mX_line at hm
  refine v_ild_1 dX_line_0 ?_
  refine v_iconst (x := 0) dX_line_1 rfl ?_
  refine v_bipush (x := 11) dX_line_2 rfl ?_
  obtain ⟨r1, he, hm⟩ := bd_s hm
  refine v_cs3i (M' := tX_within) dX_line_4 mlX_111 okX_within (Nat.le_of_ble_eq_true rfl) (ctX_within G (d + 2) _ _ _ _ _ he) ?_
  refine v_if_eq dX_line_7 (fun hc => ?_) (fun hc => ?_)
  · replace hm := it hc hm
    refine v_iconst (x := (-1)) dX_line_19 rfl ?_
    cases hm
    exact v_iret dX_line_20 rfl
  · replace hm := ie hc hm
    refine v_ild_2 dX_line_10 ?_
    refine v_iconst (x := 0) dX_line_11 rfl ?_
    refine v_iconst (x := 1) dX_line_12 rfl ?_
    obtain ⟨r2, he, hm⟩ := bd_s hm
    refine v_cs3i (M' := tX_within) dX_line_13 mlX_111 okX_within (Nat.le_of_ble_eq_true rfl) (ctX_within G (d + 2) _ _ _ _ _ he) ?_
    refine v_if_ne dX_line_16 (fun hc => ?_) (fun hc => ?_)
    · replace hm := it hc hm
      refine v_iconst (x := (-1)) dX_line_19 rfl ?_
      cases hm
      exact v_iret dX_line_20 rfl
    · replace hm := ie hc hm
      refine v_ald_0 dX_line_21 ?_
      refine v_getR dX_line_22 fuX_34 sh_0 rf_0_3 ?_
      refine v_getR dX_line_25 fuX_310 sh_5 rf_5_12 ?_
      refine v_ild_1 dX_line_28 ?_
      refine v_ild_2 dX_line_29 ?_
      refine v_j1 (fun (x4 : Int32) => Vx G tX_line (d + 3) 38 [none, none, none] [.int x4, .int p1, .ref (gB G + 30)] h0 (some (.int r)) h0) hm (fun x4 hm => ?_) (fun j3 kj3 hm => ?_)
      · obtain ⟨r5, he, hm⟩ := bd_s hm
        refine v_cs3i (M' := tK_lineOf) dX_line_38 mlX_313 okK_lineOf (Nat.le_of_ble_eq_true rfl) (ctK_lineOf G d _ _ _ sh_30 _ _ he) ?_
        cases hm
        exact v_iret dX_line_41 rfl
      · refine v_if_ne dX_line_30 (fun hc => ?_) (fun hc => ?_)
        · replace hm := it hc hm
          refine v_iconst (x := 1) dX_line_33 rfl ?_
          refine v_goto dX_line_34 ?_
          exact v_kw (kj3 _ hm) (wk_n (wk_n (wk_n wk_e)))
        · replace hm := ie hc hm
          refine v_iconst (x := 0) dX_line_37 rfl ?_
          exact v_kw (kj3 _ hm) (wk_n (wk_n (wk_n wk_e)))
def mX_window (p1 : Int32) (h0 : PH) : Option (Int32) :=
  bd (mX_within p1 1 20 h0) fun r1 =>
  if r1 = 0 then
    some (-1)
  else
    bd (mK_windowWays p1 h0) fun r2 =>
    some r2
theorem ctX_window (G : GG) (d : Nat) (p1 : Int32) (h0 : PH) (r : Int32) (hm : mX_window p1 h0 = some r) : Kx G tX_window (d + 1) [.ref (gB G + 0), .int p1] h0 (some (.int r)) h0 := by
  refine K_of_V (by decide) (by simp [cat_i, cat_r, fmtV_cat]) (by simp [tX_window]) ?_
  change Vx G tX_window (d + 1) 0 [some (.ref (gB G + 0)), some (.int p1)] [] h0 (some (.int r)) h0
  unfold mX_window at hm
  refine v_ild_1 dX_window_0 ?_
  refine v_iconst (x := 1) dX_window_1 rfl ?_
  refine v_bipush (x := 20) dX_window_2 rfl ?_
  obtain ⟨r1, he, hm⟩ := bd_s hm
  refine v_cs3i (M' := tX_within) dX_window_4 mlX_111 okX_within (Nat.le_of_ble_eq_true rfl) (ctX_within G d _ _ _ _ _ he) ?_
  refine v_if_eq dX_window_7 (fun hc => ?_) (fun hc => ?_)
  · replace hm := it hc hm
    refine v_iconst (x := (-1)) dX_window_17 rfl ?_
    cases hm
    exact v_iret dX_window_18 rfl
  · replace hm := ie hc hm
    refine v_ild_1 dX_window_10 ?_
    obtain ⟨r2, he, hm⟩ := bd_s hm
    refine v_cs1i (M' := tK_windowWays) dX_window_11 mlX_317 okK_windowWays (Nat.le_of_ble_eq_true rfl) (ctK_windowWays G d _ _ _ he) ?_
    refine v_goto dX_window_14 ?_
    cases hm
    exact v_iret dX_window_18 rfl
def mX_member (p1 : Int32) (p2 : Int32) (h0 : PH) : Option (Int32 × PH) :=
  jn1 (fun (x2 : Int32) =>
    bd (mX_within p1 0 4095 h0) fun r3 =>
    jn1 (fun (x5 : Int32) =>
      bd2 (mX_tell 32 x2 x5 p1 p2 h0) fun r6 h7 =>
      some (r6, h7)) fun j4 =>
    if r3 = 0 then
      j4 0
    else
      bd (mX_within p2 1 9 h0) fun r8 =>
      if r8 = 0 then
        j4 0
      else
        j4 1) fun j1 =>
  if p1 = (-1) then
    j1 1
  else
    j1 0
theorem ctX_member (G : GG) (d : Nat) (p1 : Int32) (p2 : Int32) (h0 : PH) (r : Int32 × PH) (hm : mX_member p1 p2 h0 = some r) : Kx G tX_member (d + 2) [.ref (gB G + 0), .int p1, .int p2] h0 (some (.int r.1)) r.2 := by
  refine K_of_V (by decide) (by simp [cat_i, cat_r, fmtV_cat]) (by simp [tX_member]) ?_
  change Vx G tX_member (d + 2) 0 [some (.ref (gB G + 0)), some (.int p1), some (.int p2)] [] h0 (some (.int r.1)) r.2
  unfold mX_member at hm
  refine v_ald_0 dX_member_0 ?_
  refine v_getR dX_member_1 fuX_34 sh_0 rf_0_3 ?_
  refine v_getR dX_member_4 fuX_320 sh_5 rf_5_13 ?_
  refine v_ild_1 dX_member_7 ?_
  refine v_iconst (x := (-1)) dX_member_8 rfl ?_
  refine v_j1 (fun (x2 : Int32) => Vx G tX_member (d + 2) 17 [none, some (.int p1), some (.int p2)] [.int x2, .ref (gB G + 32)] h0 (some (.int r.1)) r.2) hm (fun x2 hm => ?_) (fun j1 kj1 hm => ?_)
  · refine v_ild_1 dX_member_17 ?_
    refine v_iconst (x := 0) dX_member_18 rfl ?_
    refine v_sipush (x := 4095) dX_member_19 rfl ?_
    obtain ⟨r3, he, hm⟩ := bd_s hm
    refine v_cs3i (M' := tX_within) dX_member_22 mlX_111 okX_within (Nat.le_of_ble_eq_true rfl) (ctX_within G (d + 1) _ _ _ _ _ he) ?_
    refine v_j1 (fun (x5 : Int32) => Vx G tX_member (d + 2) 43 [none, some (.int p1), some (.int p2)] [.int x5, .int x2, .ref (gB G + 32)] h0 (some (.int r.1)) r.2) hm (fun x5 hm => ?_) (fun j4 kj4 hm => ?_)
    · refine v_ild_1 dX_member_43 ?_
      refine v_ild_2 dX_member_44 ?_
      obtain ⟨r6, h7, he, hm⟩ := bd2_s hm
      refine v_cs5i (M' := tX_tell) dX_member_45 mlX_238 okX_tell (Nat.le_of_ble_eq_true rfl) (ctX_tell G d _ _ _ _ _ sh_32 _ _ he) ?_
      cases hm
      exact v_iret dX_member_48 rfl
    · refine v_if_eq dX_member_25 (fun hc => ?_) (fun hc => ?_)
      · replace hm := it hc hm
        refine v_iconst (x := 0) dX_member_42 rfl ?_
        exact v_kw (kj4 _ hm) (wk_n (wk_s (wk_s wk_e)))
      · replace hm := ie hc hm
        refine v_ild_2 dX_member_28 ?_
        refine v_iconst (x := 1) dX_member_29 rfl ?_
        refine v_bipush (x := 9) dX_member_30 rfl ?_
        obtain ⟨r8, he, hm⟩ := bd_s hm
        refine v_cs3i (M' := tX_within) dX_member_32 mlX_111 okX_within (Nat.le_of_ble_eq_true rfl) (ctX_within G (d + 1) _ _ _ _ _ he) ?_
        refine v_if_eq dX_member_35 (fun hc => ?_) (fun hc => ?_)
        · replace hm := it hc hm
          refine v_iconst (x := 0) dX_member_42 rfl ?_
          exact v_kw (kj4 _ hm) (wk_n (wk_s (wk_s wk_e)))
        · replace hm := ie hc hm
          refine v_iconst (x := 1) dX_member_38 rfl ?_
          refine v_goto dX_member_39 ?_
          exact v_kw (kj4 _ hm) (wk_n (wk_s (wk_s wk_e)))
  · refine v_cmp_ne dX_member_9 (fun hc => ?_) (fun hc => ?_)
    · replace hm := it hc hm
      refine v_iconst (x := 1) dX_member_12 rfl ?_
      refine v_goto dX_member_13 ?_
      exact v_kw (kj1 _ hm) (wk_n (wk_s (wk_s wk_e)))
    · replace hm := ie hc hm
      refine v_iconst (x := 0) dX_member_16 rfl ?_
      exact v_kw (kj1 _ hm) (wk_n (wk_s (wk_s wk_e)))
def mX_council (p1 : Int32) (h0 : PH) : Option (Int32) :=
  bd (mX_within p1 0 1 h0) fun r1 =>
  if r1 = 0 then
    some (-1)
  else
    if p1 = 0 then
      bd (mK_agreed 32 h0) fun r2 =>
      some r2
    else
      bd (mK_leastMajority 32 h0) fun r3 =>
      some r3
theorem ctX_council (G : GG) (d : Nat) (p1 : Int32) (h0 : PH) (r : Int32) (hm : mX_council p1 h0 = some r) : Kx G tX_council (d + 3) [.ref (gB G + 0), .int p1] h0 (some (.int r)) h0 := by
  refine K_of_V (by decide) (by simp [cat_i, cat_r, fmtV_cat]) (by simp [tX_council]) ?_
  change Vx G tX_council (d + 3) 0 [some (.ref (gB G + 0)), some (.int p1)] [] h0 (some (.int r)) h0
  unfold mX_council at hm
  refine v_ild_1 dX_council_0 ?_
  refine v_iconst (x := 0) dX_council_1 rfl ?_
  refine v_iconst (x := 1) dX_council_2 rfl ?_
  obtain ⟨r1, he, hm⟩ := bd_s hm
  refine v_cs3i (M' := tX_within) dX_council_3 mlX_111 okX_within (Nat.le_of_ble_eq_true rfl) (ctX_within G (d + 2) _ _ _ _ _ he) ?_
  refine v_if_ne dX_council_6 (fun hc => ?_) (fun hc => ?_)
  · replace hm := it hc hm
    refine v_iconst (x := (-1)) dX_council_9 rfl ?_
    cases hm
    exact v_iret dX_council_10 rfl
  · replace hm := ie hc hm
    refine v_ild_1 dX_council_11 ?_
    refine v_if_ne dX_council_12 (fun hc => ?_) (fun hc => ?_)
    · replace hm := it hc hm
      refine v_ald_0 dX_council_15 ?_
      refine v_getR dX_council_16 fuX_34 sh_0 rf_0_3 ?_
      refine v_getR dX_council_19 fuX_320 sh_5 rf_5_13 ?_
      obtain ⟨r2, he, hm⟩ := bd_s hm
      refine v_cs1i (M' := tK_agreed) dX_council_22 mlX_323 okK_agreed (Nat.le_of_ble_eq_true rfl) (ctK_agreed G d _ sh_32 _ _ he) ?_
      refine v_goto dX_council_25 ?_
      cases hm
      exact v_iret dX_council_38 rfl
    · replace hm := ie hc hm
      refine v_ald_0 dX_council_28 ?_
      refine v_getR dX_council_29 fuX_34 sh_0 rf_0_3 ?_
      refine v_getR dX_council_32 fuX_320 sh_5 rf_5_13 ?_
      obtain ⟨r3, he, hm⟩ := bd_s hm
      refine v_cs1i (M' := tK_leastMajority) dX_council_35 mlX_326 okK_leastMajority (Nat.le_of_ble_eq_true rfl) (ctK_leastMajority G d _ sh_32 _ _ he) ?_
      cases hm
      exact v_iret dX_council_38 rfl
def mX_game (p1 : Int32) (p2 : Int32) (h0 : PH) : Option (Int32 × PH) :=
  bd (mX_within p1 1 5 h0) fun r1 =>
  if r1 = 0 then
    some ((-1), h0)
  else
    bd (mX_within p2 1 6 h0) fun r2 =>
    if r2 = 0 then
      some ((-1), h0)
    else
      bd2 (mL_bestBite p1 p2 h0) fun r3 h4 =>
      some (r3, h4)
theorem ctX_game (G : GG) (d : Nat) (p1 : Int32) (p2 : Int32) (h0 : PH) (r : Int32 × PH) (hm : mX_game p1 p2 h0 = some r) : Kx G tX_game (d + 5) [.ref (gB G + 0), .int p1, .int p2] h0 (some (.int r.1)) r.2 := by
  refine K_of_V (by decide) (by simp [cat_i, cat_r, fmtV_cat]) (by simp [tX_game]) ?_
  change Vx G tX_game (d + 5) 0 [some (.ref (gB G + 0)), some (.int p1), some (.int p2)] [] h0 (some (.int r.1)) r.2
  unfold mX_game at hm
  refine v_ild_1 dX_game_0 ?_
  refine v_iconst (x := 1) dX_game_1 rfl ?_
  refine v_iconst (x := 5) dX_game_2 rfl ?_
  obtain ⟨r1, he, hm⟩ := bd_s hm
  refine v_cs3i (M' := tX_within) dX_game_3 mlX_111 okX_within (Nat.le_of_ble_eq_true rfl) (ctX_within G (d + 4) _ _ _ _ _ he) ?_
  refine v_if_eq dX_game_6 (fun hc => ?_) (fun hc => ?_)
  · replace hm := it hc hm
    refine v_iconst (x := (-1)) dX_game_19 rfl ?_
    cases hm
    exact v_iret dX_game_20 rfl
  · replace hm := ie hc hm
    refine v_ild_2 dX_game_9 ?_
    refine v_iconst (x := 1) dX_game_10 rfl ?_
    refine v_bipush (x := 6) dX_game_11 rfl ?_
    obtain ⟨r2, he, hm⟩ := bd_s hm
    refine v_cs3i (M' := tX_within) dX_game_13 mlX_111 okX_within (Nat.le_of_ble_eq_true rfl) (ctX_within G (d + 4) _ _ _ _ _ he) ?_
    refine v_if_ne dX_game_16 (fun hc => ?_) (fun hc => ?_)
    · replace hm := it hc hm
      refine v_iconst (x := (-1)) dX_game_19 rfl ?_
      cases hm
      exact v_iret dX_game_20 rfl
    · replace hm := ie hc hm
      refine v_ald_0 dX_game_21 ?_
      refine v_getR dX_game_22 fuX_96 sh_0 rf_0_12 ?_
      refine v_ild_1 dX_game_25 ?_
      refine v_ild_2 dX_game_26 ?_
      obtain ⟨r3, h4, he, hm⟩ := bd2_s hm
      refine v_cv2i (M' := tL_bestBite) dX_game_27 mlX_329 okL_bestBite sh_102 hc_8 (Nat.le_of_ble_eq_true rfl) (ctL_bestBite G d _ _ _ _ he) ?_
      cases hm
      exact v_iret dX_game_30 rfl
def mX_undo (h0 : PH) : Option (Int32 × PH) :=
  if (h0 70 3) = 0 then
    some (0, h0)
  else
    bd2 (mP_goBack 1 h0) fun r1 h2 =>
    lt (up h2 16 3 r1) fun h3 =>
    some (1, h3)
theorem ctX_undo (G : GG) (d : Nat) (h0 : PH) (r : Int32 × PH) (hm : mX_undo h0 = some r) : Kx G tX_undo (d + 2) [.ref (gB G + 0)] h0 (some (.int r.1)) r.2 := by
  refine K_of_V (by decide) (by simp [cat_i, cat_r, fmtV_cat]) (by simp [tX_undo]) ?_
  change Vx G tX_undo (d + 2) 0 [some (.ref (gB G + 0))] [] h0 (some (.int r.1)) r.2
  unfold mX_undo at hm
  refine v_ald_0 dX_undo_0 ?_
  refine v_getR dX_undo_1 fuX_59 sh_0 rf_0_7 ?_
  refine v_getI dX_undo_4 fuX_332 sh_70 rf_70_3 ?_
  refine v_if_ne dX_undo_7 (fun hc => ?_) (fun hc => ?_)
  · replace hm := it hc hm
    refine v_iconst (x := 0) dX_undo_10 rfl ?_
    cases hm
    exact v_zret0 dX_undo_11 rfl
  · replace hm := ie hc hm
    refine v_ald_0 dX_undo_12 ?_
    refine v_getR dX_undo_13 fuX_34 sh_0 rf_0_3 ?_
    refine v_getR dX_undo_16 fuX_140 sh_5 rf_5_5 ?_
    refine v_ald_0 dX_undo_19 ?_
    refine v_getR dX_undo_20 fuX_59 sh_0 rf_0_7 ?_
    refine v_ald_0 dX_undo_23 ?_
    refine v_getR dX_undo_24 fuX_25 sh_0 rf_0_0 ?_
    obtain ⟨r1, h2, he, hm⟩ := bd2_s hm
    refine v_cv1i (M' := tP_goBack) dX_undo_27 mlX_335 okP_goBack sh_70 hc_4 (Nat.le_of_ble_eq_true rfl) (ctP_goBack G d _ sh_1 _ _ he) ?_
    refine v_putIl dX_undo_30 fuX_143 ft_6_3 sh_16 rf_16_3 hm (fun h3 hm => ?_)
    refine v_iconst (x := 1) dX_undo_33 rfl ?_
    cases hm
    exact v_zret1 dX_undo_34 rfl
def mX_image (p1 : Int32) (h0 : PH) : Option (Int32 × PH) :=
  if p1 = 0 then
    if (h0 0 13) = 0 then
      some (0, h0)
    else
      bd (mB_copyFrom 1 37 h0) fun h1 =>
      bd (mO_copyFrom 5 39 h1) fun h2 =>
      bd (mP_forget h2) fun h3 =>
      some (1, h3)
  else
    bd (mB_copyFrom 37 1 h0) fun h4 =>
    bd (mO_copyFrom 39 5 h4) fun h5 =>
    lt (up h5 0 13 1) fun h6 =>
    some (1, h6)
theorem ctX_image (G : GG) (d : Nat) (p1 : Int32) (h0 : PH) (r : Int32 × PH) (hm : mX_image p1 h0 = some r) : Kx G tX_image (d + 2) [.ref (gB G + 0), .int p1] h0 (some (.int r.1)) r.2 := by
  refine K_of_V (by decide) (by simp [cat_i, cat_r, fmtV_cat]) (by simp [tX_image]) ?_
  change Vx G tX_image (d + 2) 0 [some (.ref (gB G + 0)), some (.int p1)] [] h0 (some (.int r.1)) r.2
  unfold mX_image at hm
  refine v_ild_1 dX_image_0 ?_
  refine v_if_eq dX_image_1 (fun hc => ?_) (fun hc => ?_)
  · replace hm := it hc hm
    refine v_ald_0 dX_image_33 ?_
    refine v_getI dX_image_34 fuX_100 sh_0 rf_0_13 ?_
    refine v_if_ne dX_image_37 (fun hc => ?_) (fun hc => ?_)
    · replace hm := it hc hm
      refine v_iconst (x := 0) dX_image_40 rfl ?_
      cases hm
      exact v_zret0 dX_image_41 rfl
    · replace hm := ie hc hm
      refine v_ald_0 dX_image_42 ?_
      refine v_getR dX_image_43 fuX_25 sh_0 rf_0_0 ?_
      refine v_ald_0 dX_image_46 ?_
      refine v_getR dX_image_47 fuX_38 sh_0 rf_0_1 ?_
      obtain ⟨h1, he, hm⟩ := bd_s hm
      refine v_cv1v (M' := tB_copyFrom) dX_image_50 mlX_205 okB_copyFrom sh_1 hc_1 (Nat.le_of_ble_eq_true rfl) (ctB_copyFrom G (d + 1) _ _ sh_1 sh_37 _ _ he) ?_
      refine v_ald_0 dX_image_53 ?_
      refine v_getR dX_image_54 fuX_34 sh_0 rf_0_3 ?_
      refine v_ald_0 dX_image_57 ?_
      refine v_getR dX_image_58 fuX_41 sh_0 rf_0_4 ?_
      obtain ⟨h2, he, hm⟩ := bd_s hm
      refine v_cv1v (M' := tO_copyFrom) dX_image_61 mlX_339 okO_copyFrom sh_5 hc_11 (Nat.le_of_ble_eq_true rfl) (ctO_copyFrom G d _ _ sh_5 sh_39 _ _ he) ?_
      refine v_ald_0 dX_image_64 ?_
      refine v_getR dX_image_65 fuX_59 sh_0 rf_0_7 ?_
      obtain ⟨h3, he, hm⟩ := bd_s hm
      refine v_cv0v (M' := tP_forget) dX_image_68 mlX_108 okP_forget sh_70 hc_4 (Nat.le_of_ble_eq_true rfl) (ctP_forget G (d + 1) _ _ he) ?_
      refine v_iconst (x := 1) dX_image_71 rfl ?_
      cases hm
      exact v_zret1 dX_image_72 rfl
  · replace hm := ie hc hm
    refine v_ald_0 dX_image_4 ?_
    refine v_getR dX_image_5 fuX_38 sh_0 rf_0_1 ?_
    refine v_ald_0 dX_image_8 ?_
    refine v_getR dX_image_9 fuX_25 sh_0 rf_0_0 ?_
    obtain ⟨h4, he, hm⟩ := bd_s hm
    refine v_cv1v (M' := tB_copyFrom) dX_image_12 mlX_205 okB_copyFrom sh_37 hc_1 (Nat.le_of_ble_eq_true rfl) (ctB_copyFrom G (d + 1) _ _ sh_37 sh_1 _ _ he) ?_
    refine v_ald_0 dX_image_15 ?_
    refine v_getR dX_image_16 fuX_41 sh_0 rf_0_4 ?_
    refine v_ald_0 dX_image_19 ?_
    refine v_getR dX_image_20 fuX_34 sh_0 rf_0_3 ?_
    obtain ⟨h5, he, hm⟩ := bd_s hm
    refine v_cv1v (M' := tO_copyFrom) dX_image_23 mlX_339 okO_copyFrom sh_39 hc_11 (Nat.le_of_ble_eq_true rfl) (ctO_copyFrom G d _ _ sh_39 sh_5 _ _ he) ?_
    refine v_ald_0 dX_image_26 ?_
    refine v_iconst (x := 1) dX_image_27 rfl ?_
    refine v_putZl dX_image_28 fuX_100 ft_0_13 sh_0 rf_0_13 (by decide) hm (fun h6 hm => ?_)
    refine v_iconst (x := 1) dX_image_31 rfl ?_
    cases hm
    exact v_zret1 dX_image_32 rfl
def mX_look (p1 : Int32) (h0 : PH) : Option (Int32) :=
  if p1 = 0 then
    some (h0 1 1)
  else
    if p1 = 1 then
      some (h0 1 2)
    else
      if p1 = 2 then
        some (h0 1 3)
      else
        if p1 = 3 then
          some (h0 1 4)
        else
          if p1 = 4 then
            some (h0 1 5)
          else
            if p1 = 5 then
              some (h0 1 6)
            else
              if p1 = 6 then
                bd (mB_upSet 1 h0) fun r1 =>
                some r1
              else
                if p1 = 7 then
                  some (h0 16 3)
                else
                  if p1 = 8 then
                    some (h0 1 7)
                  else
                    if p1 = 9 then
                      some (h0 6 3)
                    else
                      if p1 = 10 then
                        some (h0 10 3)
                      else
                        if p1 = 11 then
                          some (h0 12 3)
                        else
                          if p1 = 12 then
                            some (h0 14 3)
                          else
                            if p1 = 13 then
                              some (h0 70 3)
                            else
                              some (-1)
theorem ctX_look (G : GG) (d : Nat) (p1 : Int32) (h0 : PH) (r : Int32) (hm : mX_look p1 h0 = some r) : Kx G tX_look (d + 3) [.ref (gB G + 0), .int p1] h0 (some (.int r)) h0 := by
  refine K_of_V (by decide) (by simp [cat_i, cat_r, fmtV_cat]) (by simp [tX_look]) ?_
  change Vx G tX_look (d + 3) 0 [some (.ref (gB G + 0)), some (.int p1)] [] h0 (some (.int r)) h0
  unfold mX_look at hm
  refine v_ild_1 dX_look_0 ?_
  refine v_sw dX_look_1 ?_
  refine v_selc (fun hc => ?_) (fun hc => ?_)
  · replace hm := it hc hm
    refine v_ald_0 dX_look_72 ?_
    refine v_getR dX_look_73 fuX_25 sh_0 rf_0_0 ?_
    refine v_getI dX_look_76 fuX_115 sh_1 rf_1_1 ?_
    cases hm
    exact v_iret dX_look_79 rfl
  · replace hm := ie hc hm
    refine v_selc (fun hc => ?_) (fun hc => ?_)
    · replace hm := it hc hm
      refine v_ald_0 dX_look_80 ?_
      refine v_getR dX_look_81 fuX_25 sh_0 rf_0_0 ?_
      refine v_getI dX_look_84 fuX_122 sh_1 rf_1_2 ?_
      cases hm
      exact v_iret dX_look_87 rfl
    · replace hm := ie hc hm
      refine v_selc (fun hc => ?_) (fun hc => ?_)
      · replace hm := it hc hm
        refine v_ald_0 dX_look_88 ?_
        refine v_getR dX_look_89 fuX_25 sh_0 rf_0_0 ?_
        refine v_getI dX_look_92 fuX_342 sh_1 rf_1_3 ?_
        cases hm
        exact v_iret dX_look_95 rfl
      · replace hm := ie hc hm
        refine v_selc (fun hc => ?_) (fun hc => ?_)
        · replace hm := it hc hm
          refine v_ald_0 dX_look_96 ?_
          refine v_getR dX_look_97 fuX_25 sh_0 rf_0_0 ?_
          refine v_getI dX_look_100 fuX_209 sh_1 rf_1_4 ?_
          cases hm
          exact v_iret dX_look_103 rfl
        · replace hm := ie hc hm
          refine v_selc (fun hc => ?_) (fun hc => ?_)
          · replace hm := it hc hm
            refine v_ald_0 dX_look_104 ?_
            refine v_getR dX_look_105 fuX_25 sh_0 rf_0_0 ?_
            refine v_getI dX_look_108 fuX_345 sh_1 rf_1_5 ?_
            cases hm
            exact v_iret dX_look_111 rfl
          · replace hm := ie hc hm
            refine v_selc (fun hc => ?_) (fun hc => ?_)
            · replace hm := it hc hm
              refine v_ald_0 dX_look_112 ?_
              refine v_getR dX_look_113 fuX_25 sh_0 rf_0_0 ?_
              refine v_getI dX_look_116 fuX_155 sh_1 rf_1_6 ?_
              cases hm
              exact v_iret dX_look_119 rfl
            · replace hm := ie hc hm
              refine v_selc (fun hc => ?_) (fun hc => ?_)
              · replace hm := it hc hm
                refine v_ald_0 dX_look_120 ?_
                refine v_getR dX_look_121 fuX_25 sh_0 rf_0_0 ?_
                obtain ⟨r1, he, hm⟩ := bd_s hm
                refine v_cv0i (M' := tB_upSet) dX_look_124 mlX_348 okB_upSet sh_1 hc_1 (Nat.le_of_ble_eq_true rfl) (ctB_upSet G d _ sh_1 _ _ he) ?_
                cases hm
                exact v_iret dX_look_127 rfl
              · replace hm := ie hc hm
                refine v_selc (fun hc => ?_) (fun hc => ?_)
                · replace hm := it hc hm
                  refine v_ald_0 dX_look_128 ?_
                  refine v_getR dX_look_129 fuX_34 sh_0 rf_0_3 ?_
                  refine v_getR dX_look_132 fuX_140 sh_5 rf_5_5 ?_
                  refine v_getI dX_look_135 fuX_143 sh_16 rf_16_3 ?_
                  cases hm
                  exact v_iret dX_look_138 rfl
                · replace hm := ie hc hm
                  refine v_selc (fun hc => ?_) (fun hc => ?_)
                  · replace hm := it hc hm
                    refine v_ald_0 dX_look_139 ?_
                    refine v_getR dX_look_140 fuX_25 sh_0 rf_0_0 ?_
                    refine v_getI dX_look_143 fuX_104 sh_1 rf_1_7 ?_
                    cases hm
                    exact v_iret dX_look_146 rfl
                  · replace hm := ie hc hm
                    refine v_selc (fun hc => ?_) (fun hc => ?_)
                    · replace hm := it hc hm
                      refine v_ald_0 dX_look_147 ?_
                      refine v_getR dX_look_148 fuX_34 sh_0 rf_0_3 ?_
                      refine v_getR dX_look_151 fuX_15 sh_5 rf_5_0 ?_
                      refine v_getI dX_look_154 fuX_143 sh_6 rf_6_3 ?_
                      cases hm
                      exact v_iret dX_look_157 rfl
                    · replace hm := ie hc hm
                      refine v_selc (fun hc => ?_) (fun hc => ?_)
                      · replace hm := it hc hm
                        refine v_ald_0 dX_look_158 ?_
                        refine v_getR dX_look_159 fuX_34 sh_0 rf_0_3 ?_
                        refine v_getR dX_look_162 fuX_351 sh_5 rf_5_2 ?_
                        refine v_getI dX_look_165 fuX_143 sh_10 rf_10_3 ?_
                        cases hm
                        exact v_iret dX_look_168 rfl
                      · replace hm := ie hc hm
                        refine v_selc (fun hc => ?_) (fun hc => ?_)
                        · replace hm := it hc hm
                          refine v_ald_0 dX_look_169 ?_
                          refine v_getR dX_look_170 fuX_34 sh_0 rf_0_3 ?_
                          refine v_getR dX_look_173 fuX_354 sh_5 rf_5_3 ?_
                          refine v_getI dX_look_176 fuX_143 sh_12 rf_12_3 ?_
                          cases hm
                          exact v_iret dX_look_179 rfl
                        · replace hm := ie hc hm
                          refine v_selc (fun hc => ?_) (fun hc => ?_)
                          · replace hm := it hc hm
                            refine v_ald_0 dX_look_180 ?_
                            refine v_getR dX_look_181 fuX_34 sh_0 rf_0_3 ?_
                            refine v_getR dX_look_184 fuX_225 sh_5 rf_5_4 ?_
                            refine v_getI dX_look_187 fuX_143 sh_14 rf_14_3 ?_
                            cases hm
                            exact v_iret dX_look_190 rfl
                          · replace hm := ie hc hm
                            refine v_selc (fun hc => ?_) (fun hc => ?_)
                            · replace hm := it hc hm
                              refine v_ald_0 dX_look_191 ?_
                              refine v_getR dX_look_192 fuX_59 sh_0 rf_0_7 ?_
                              refine v_getI dX_look_195 fuX_332 sh_70 rf_70_3 ?_
                              cases hm
                              exact v_iret dX_look_198 rfl
                            · replace hm := ie hc hm
                              refine v_seln ?_
                              refine v_iconst (x := (-1)) dX_look_199 rfl ?_
                              cases hm
                              exact v_iret dX_look_200 rfl
