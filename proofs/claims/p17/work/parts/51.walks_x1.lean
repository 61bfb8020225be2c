def mK_wayHome (a1 : Nat) (h0 : PH) : Option (Int32 × PH) :=
  bd2 (mK_walk a1 h0) fun r1 h2 =>
  ck r1 17 <|
  ck r1 17 <|
  some ((iabs (h2 100 (ix r1))) + (iabs (h2 101 (ix r1))), h2)
theorem ctK_wayHome (G : GG) (d : Nat) (a1 : Nat) (q1 : shL[a1]? = some (6, 4)) (h0 : PH) (r : Int32 × PH) (hm : mK_wayHome a1 h0 = some r) : Kx G tK_wayHome (d + 2) [.ref (gB G + 98), .ref (gB G + a1)] h0 (some (.int r.1)) r.2 := by
  refine K_of_V (by decide) (by simp [cat_i, cat_r, fmtV_cat]) (by simp [tK_wayHome]) ?_
  change Vx G tK_wayHome (d + 2) 0 [some (.ref (gB G + 98)), some (.ref (gB G + a1)), none] [] h0 (some (.int r.1)) r.2
  unfold mK_wayHome at hm
  refine v_ald_0 dK_wayHome_0 ?_
  refine v_ald_1 dK_wayHome_1 ?_
  obtain ⟨r1, h2, he, hm⟩ := bd2_s hm
  refine v_cv1i (M' := tK_walk) dK_wayHome_2 mlK_63 okK_walk sh_98 hc_2 (Nat.le_of_ble_eq_true rfl) (ctK_walk G d _ q1 _ _ he) ?_
  refine v_ist_2 dK_wayHome_5 (by decide) rfl ?_
  refine v_ald_0 dK_wayHome_6 ?_
  refine v_getR dK_wayHome_7 fuK_15 sh_98 rf_98_1 ?_
  refine v_ild_2 dK_wayHome_10 ?_
  obtain ⟨hi, hm⟩ := ck_s hm
  refine v_iald dK_wayHome_11 sh_100 hi ?_
  refine v_mabs dK_wayHome_12 mlK_47 (Nat.le_of_ble_eq_true rfl) ?_
  refine v_ald_0 dK_wayHome_15 ?_
  refine v_getR dK_wayHome_16 fuK_18 sh_98 rf_98_2 ?_
  refine v_ild_2 dK_wayHome_19 ?_
  obtain ⟨hi, hm⟩ := ck_s hm
  refine v_iald dK_wayHome_20 sh_101 hi ?_
  refine v_mabs dK_wayHome_21 mlK_47 (Nat.le_of_ble_eq_true rfl) ?_
  refine v_iadd dK_wayHome_24 ?_
  cases hm
  exact v_iret dK_wayHome_25 rfl
def mK_placesCrossed_L23 (p2 : Int32) (p3 : Int32) (p4 : Int32) (h0 : PH) (k0 : Int32 → Option (Int32 × PH)) : Nat → Int32 → Int32 → Option (Int32 × PH)
  | 0, _, _ => none
  | n + 1, v5, v6 =>
    if p4 ≤ v6 then
      k0 v5
    else
      ck v6 17 <|
      ck p4 17 <|
      if (h0 100 (ix v6)) = (h0 100 (ix p4)) then
        ck v6 17 <|
        ck p4 17 <|
        if (h0 101 (ix v6)) = (h0 101 (ix p4)) then
          mK_placesCrossed_L23 p2 p3 p4 h0 k0 n (v5 + 1) (v6 + 1)
        else
          mK_placesCrossed_L23 p2 p3 p4 h0 k0 n v5 (v6 + 1)
      else
        mK_placesCrossed_L23 p2 p3 p4 h0 k0 n v5 (v6 + 1)
def mK_placesCrossed_L11 (p2 : Int32) (h0 : PH) : Nat → Int32 → Int32 → Option (Int32 × PH)
  | 0, _, _ => none
  | n + 1, v3, v4 =>
    if p2 < v4 then
      some (v3, h0)
    else
      mK_placesCrossed_L23 p2 v3 v4 h0 (fun (x3 : Int32) =>
        if x3 = 1 then
          mK_placesCrossed_L11 p2 h0 n (v3 + 1) (v4 + 1)
        else
          mK_placesCrossed_L11 p2 h0 n v3 (v4 + 1)) FU 0 0
def mK_placesCrossed (a1 : Nat) (h0 : PH) : Option (Int32 × PH) :=
  bd2 (mK_walk a1 h0) fun r1 h2 =>
  mK_placesCrossed_L11 r1 h2 FU 0 0
theorem wK_placesCrossed_L23 (G : GG) (d : Nat) (p2 : Int32) (p3 : Int32) (p4 : Int32) (h0 : PH) (k0 : Int32 → Option (Int32 × PH)) (r : Int32 × PH) (kk0 : ∀ (y5 : Int32), k0 y5 = some r → Vx G tK_placesCrossed (d + 2) 73 [some (.ref (gB G + 98)), none, some (.int p2), some (.int p3), some (.int p4), some (.int y5), none] [] h0 (some (.int r.1)) r.2) : ∀ (n : Nat) (v5 : Int32) (v6 : Int32), mK_placesCrossed_L23 p2 p3 p4 h0 k0 n v5 v6 = some r → Vx G tK_placesCrossed (d + 2) 23 [some (.ref (gB G + 98)), none, some (.int p2), some (.int p3), some (.int p4), some (.int v5), some (.int v6)] [] h0 (some (.int r.1)) r.2 := by
  intro n
  induction n with
  | zero => intro v5 v6 hm; cases hm
  | succ n ih =>
    intro v5 v6 hm
    unfold mK_placesCrossed_L23 at hm
    refine v_ild_6 dK_placesCrossed_23 ?_
    refine v_ild_4 dK_placesCrossed_25 ?_
    refine v_cmp_ge dK_placesCrossed_27 (fun hc => ?_) (fun hc => ?_)
    · replace hm := it hc hm
      exact v_kw (kk0 _ hm) (wk_s (wk_n (wk_s (wk_s (wk_s (wk_s (wk_n wk_e)))))))
    · replace hm := ie hc hm
      refine v_ald_0 dK_placesCrossed_30 ?_
      refine v_getR dK_placesCrossed_31 fuK_15 sh_98 rf_98_1 ?_
      refine v_ild_6 dK_placesCrossed_34 ?_
      obtain ⟨hi, hm⟩ := ck_s hm
      refine v_iald dK_placesCrossed_36 sh_100 hi ?_
      refine v_ald_0 dK_placesCrossed_37 ?_
      refine v_getR dK_placesCrossed_38 fuK_15 sh_98 rf_98_1 ?_
      refine v_ild_4 dK_placesCrossed_41 ?_
      obtain ⟨hi, hm⟩ := ck_s hm
      refine v_iald dK_placesCrossed_43 sh_100 hi ?_
      refine v_cmp_ne dK_placesCrossed_44 (fun hc => ?_) (fun hc => ?_)
      · replace hm := it hc hm
        refine v_ald_0 dK_placesCrossed_47 ?_
        refine v_getR dK_placesCrossed_48 fuK_18 sh_98 rf_98_2 ?_
        refine v_ild_6 dK_placesCrossed_51 ?_
        obtain ⟨hi, hm⟩ := ck_s hm
        refine v_iald dK_placesCrossed_53 sh_101 hi ?_
        refine v_ald_0 dK_placesCrossed_54 ?_
        refine v_getR dK_placesCrossed_55 fuK_18 sh_98 rf_98_2 ?_
        refine v_ild_4 dK_placesCrossed_58 ?_
        obtain ⟨hi, hm⟩ := ck_s hm
        refine v_iald dK_placesCrossed_60 sh_101 hi ?_
        refine v_cmp_ne dK_placesCrossed_61 (fun hc => ?_) (fun hc => ?_)
        · replace hm := it hc hm
          refine v_inc_5 1 dK_placesCrossed_64 rfl (by decide) rfl ?_
          refine v_inc_6 1 dK_placesCrossed_67 rfl (by decide) rfl ?_
          refine v_goto dK_placesCrossed_70 ?_
          exact v_kw (ih _ _ hm) (wk_s (wk_n (wk_s (wk_s (wk_s (wk_s (wk_s wk_e)))))))
        · replace hm := ie hc hm
          refine v_inc_6 1 dK_placesCrossed_67 rfl (by decide) rfl ?_
          refine v_goto dK_placesCrossed_70 ?_
          exact v_kw (ih _ _ hm) (wk_s (wk_n (wk_s (wk_s (wk_s (wk_s (wk_s wk_e)))))))
      · replace hm := ie hc hm
        refine v_inc_6 1 dK_placesCrossed_67 rfl (by decide) rfl ?_
        refine v_goto dK_placesCrossed_70 ?_
        exact v_kw (ih _ _ hm) (wk_s (wk_n (wk_s (wk_s (wk_s (wk_s (wk_s wk_e)))))))
theorem wK_placesCrossed_L11 (G : GG) (d : Nat) (p2 : Int32) (h0 : PH) (r : Int32 × PH) : ∀ (n : Nat) (v3 : Int32) (v4 : Int32), mK_placesCrossed_L11 p2 h0 n v3 v4 = some r → Vx G tK_placesCrossed (d + 2) 11 [some (.ref (gB G + 98)), none, some (.int p2), some (.int v3), some (.int v4), none, none] [] h0 (some (.int r.1)) r.2 := by
  intro n
  induction n with
  | zero => intro v3 v4 hm; cases hm
  | succ n ih =>
    intro v3 v4 hm
    unfold mK_placesCrossed_L11 at hm
    refine v_ild_4 dK_placesCrossed_11 ?_
    refine v_ild_2 dK_placesCrossed_13 ?_
    refine v_cmp_gt dK_placesCrossed_14 (fun hc => ?_) (fun hc => ?_)
    · replace hm := it hc hm
      refine v_ild_3 dK_placesCrossed_88 ?_
      cases hm
      exact v_iret dK_placesCrossed_89 rfl
    · replace hm := ie hc hm
      refine v_iconst (x := 0) dK_placesCrossed_17 rfl ?_
      refine v_ist_5 dK_placesCrossed_18 (by decide) rfl ?_
      refine v_iconst (x := 0) dK_placesCrossed_20 rfl ?_
      refine v_ist_6 dK_placesCrossed_21 (by decide) rfl ?_
      refine v_kw (wK_placesCrossed_L23 G d _ _ _ _ _ _ (fun x3 hm => ?_) FU _ _ hm) (wk_s (wk_n (wk_s (wk_s (wk_s (wk_s (wk_s wk_e)))))))
      refine v_ild_5 dK_placesCrossed_73 ?_
      refine v_iconst (x := 1) dK_placesCrossed_75 rfl ?_
      refine v_cmp_ne dK_placesCrossed_76 (fun hc => ?_) (fun hc => ?_)
      · replace hm := it hc hm
        refine v_inc_3 1 dK_placesCrossed_79 rfl (by decide) rfl ?_
        refine v_inc_4 1 dK_placesCrossed_82 rfl (by decide) rfl ?_
        refine v_goto dK_placesCrossed_85 ?_
        exact v_kw (ih _ _ hm) (wk_s (wk_n (wk_s (wk_s (wk_s (wk_n (wk_n wk_e)))))))
      · replace hm := ie hc hm
        refine v_inc_4 1 dK_placesCrossed_82 rfl (by decide) rfl ?_
        refine v_goto dK_placesCrossed_85 ?_
        exact v_kw (ih _ _ hm) (wk_s (wk_n (wk_s (wk_s (wk_s (wk_n (wk_n wk_e)))))))
theorem ctK_placesCrossed (G : GG) (d : Nat) (a1 : Nat) (q1 : shL[a1]? = some (6, 4)) (h0 : PH) (r : Int32 × PH) (hm : mK_placesCrossed a1 h0 = some r) : Kx G tK_placesCrossed (d + 2) [.ref (gB G + 98), .ref (gB G + a1)] h0 (some (.int r.1)) r.2 := by
  refine K_of_V (by decide) (by simp [cat_i, cat_r, fmtV_cat]) (by simp [tK_placesCrossed]) ?_
  change Vx G tK_placesCrossed (d + 2) 0 [some (.ref (gB G + 98)), some (.ref (gB G + a1)), none, none, none, none, none] [] h0 (some (.int r.1)) r.2
  unfold mK_placesCrossed at hm
  refine v_ald_0 dK_placesCrossed_0 ?_
  refine v_ald_1 dK_placesCrossed_1 ?_
  obtain ⟨r1, h2, he, hm⟩ := bd2_s hm
  refine v_cv1i (M' := tK_walk) dK_placesCrossed_2 mlK_63 okK_walk sh_98 hc_2 (Nat.le_of_ble_eq_true rfl) (ctK_walk G d _ q1 _ _ he) ?_
  refine v_ist_2 dK_placesCrossed_5 (by decide) rfl ?_
  refine v_iconst (x := 0) dK_placesCrossed_6 rfl ?_
  refine v_ist_3 dK_placesCrossed_7 (by decide) rfl ?_
  refine v_iconst (x := 0) dK_placesCrossed_8 rfl ?_
  refine v_ist_4 dK_placesCrossed_9 (by decide) rfl ?_
  exact v_kw (wK_placesCrossed_L11 G d _ _ _ FU _ _ hm) (wk_s (wk_n (wk_s (wk_s (wk_s (wk_n (wk_n wk_e)))))))
def mK_doneBy_L7 (a0 : Nat) (p1 : Int32) (p2 : Int32) (p3 : Int32) (f0 : Nat → Int32 → Int32 → Int32 → PH → Option (Int32)) (h0 : PH) (k0 : Int32 → Option (Int32)) : Nat → Int32 → Int32 → Option (Int32)
  | 0, _, _ => none
  | n + 1, v4, v5 =>
    if (h0 a0 3) ≤ v5 then
      k0 v4
    else
      if ((p1 >>> (v5 &&& 31)) &&& 1) = 0 then
        bd (mR_at a0 v5 0 h0) fun r1 =>
        lt (p2 + r1) fun x2 =>
        bd (mR_at a0 v5 1 h0) fun r3 =>
        lt ((imax p3 x2) + r3) fun x4 =>
        bd (f0 a0 (p1 ||| (1 <<< (v5 &&& 31))) x2 x4 h0) fun r5 =>
        lt (imin v4 r5) fun x6 =>
        mK_doneBy_L7 a0 p1 p2 p3 f0 h0 k0 n x6 (v5 + 1)
      else
        mK_doneBy_L7 a0 p1 p2 p3 f0 h0 k0 n v4 (v5 + 1)
def mK_doneBy_F (f0 : Nat → Int32 → Int32 → Int32 → PH → Option (Int32)) (a0 : Nat) (p1 : Int32) (p2 : Int32) (p3 : Int32) (h0 : PH) : Option (Int32) :=
  mK_doneBy_L7 a0 p1 p2 p3 f0 h0 (fun (x7 : Int32) =>
    if x7 = 1000000 then
      some p3
    else
      some x7) FU 1000000 0
theorem wK_doneBy_L7 (G : GG) (d : Nat) (a0 : Nat) (p1 : Int32) (p2 : Int32) (p3 : Int32) (f0 : Nat → Int32 → Int32 → Int32 → PH → Option (Int32)) (h0 : PH) (q0 : shL[a0]? = some (6, 4)) (g0 : ∀ (a0 : Nat) (p1 : Int32) (p2 : Int32) (p3 : Int32) (q0 : shL[a0]? = some (6, 4)) (h0 : PH) (r : Int32), f0 a0 p1 p2 p3 h0 = some r → Kx G tK_doneBy d [.ref (gB G + a0), .int p1, .int p2, .int p3] h0 (some (.int r)) h0) (k0 : Int32 → Option (Int32)) (r : Int32) (kk0 : ∀ (y4 : Int32), k0 y4 = some r → Vx G tK_doneBy (d + 1) 79 [none, none, none, some (.int p3), some (.int y4), none, none, none] [] h0 (some (.int r)) h0) : ∀ (n : Nat) (v4 : Int32) (v5 : Int32), mK_doneBy_L7 a0 p1 p2 p3 f0 h0 k0 n v4 v5 = some r → Vx G tK_doneBy (d + 1) 7 [some (.ref (gB G + a0)), some (.int p1), some (.int p2), some (.int p3), some (.int v4), some (.int v5), none, none] [] h0 (some (.int r)) h0 := by
  intro n
  induction n with
  | zero => intro v4 v5 hm; cases hm
  | succ n ih =>
    intro v4 v5 hm
    unfold mK_doneBy_L7 at hm
    refine v_ild_5 dK_doneBy_7 ?_
    refine v_ald_0 dK_doneBy_9 ?_
    refine v_getI dK_doneBy_10 fuK_21 q0 (rf_rows_3 q0) ?_
    refine v_cmp_ge dK_doneBy_13 (fun hc => ?_) (fun hc => ?_)
    · replace hm := it hc hm
      exact v_kw (kk0 _ hm) (wk_n (wk_n (wk_n (wk_s (wk_s (wk_n (wk_n (wk_n wk_e))))))))
    · replace hm := ie hc hm
      refine v_ild_1 dK_doneBy_16 ?_
      refine v_ild_5 dK_doneBy_17 ?_
      refine v_ishr dK_doneBy_19 ?_
      refine v_iconst (x := 1) dK_doneBy_20 rfl ?_
      refine v_iand dK_doneBy_21 ?_
      refine v_if_ne dK_doneBy_22 (fun hc => ?_) (fun hc => ?_)
      · replace hm := it hc hm
        refine v_ild_2 dK_doneBy_25 ?_
        refine v_ald_0 dK_doneBy_26 ?_
        refine v_ild_5 dK_doneBy_27 ?_
        refine v_iconst (x := 0) dK_doneBy_29 rfl ?_
        obtain ⟨r1, he, hm⟩ := bd_s hm
        refine v_cv2i (M' := tR_at) dK_doneBy_30 mlK_27 okR_at q0 hc_6 (Nat.le_of_ble_eq_true rfl) (ctR_at G d _ _ _ q0 _ _ he) ?_
        refine v_iadd dK_doneBy_33 ?_
        refine v_top hm (fun x2 hm => ?_)
        refine v_ist_6 dK_doneBy_34 (by decide) rfl ?_
        refine v_ild_3 dK_doneBy_36 ?_
        refine v_ild_6 dK_doneBy_37 ?_
        refine v_mmax dK_doneBy_39 mlK_40 (Nat.le_of_ble_eq_true rfl) ?_
        refine v_ald_0 dK_doneBy_42 ?_
        refine v_ild_5 dK_doneBy_43 ?_
        refine v_iconst (x := 1) dK_doneBy_45 rfl ?_
        obtain ⟨r3, he, hm⟩ := bd_s hm
        refine v_cv2i (M' := tR_at) dK_doneBy_46 mlK_27 okR_at q0 hc_6 (Nat.le_of_ble_eq_true rfl) (ctR_at G d _ _ _ q0 _ _ he) ?_
        refine v_iadd dK_doneBy_49 ?_
        refine v_top hm (fun x4 hm => ?_)
        refine v_ist_7 dK_doneBy_50 (by decide) rfl ?_
        refine v_ild_4 dK_doneBy_52 ?_
        refine v_ald_0 dK_doneBy_54 ?_
        refine v_ild_1 dK_doneBy_55 ?_
        refine v_iconst (x := 1) dK_doneBy_56 rfl ?_
        refine v_ild_5 dK_doneBy_57 ?_
        refine v_ishl dK_doneBy_59 ?_
        refine v_ior dK_doneBy_60 ?_
        refine v_ild_6 dK_doneBy_61 ?_
        refine v_ild_7 dK_doneBy_63 ?_
        obtain ⟨r5, he, hm⟩ := bd_s hm
        refine v_cs4i (M' := tK_doneBy) dK_doneBy_65 mlK_68 okK_doneBy (Nat.le_of_ble_eq_true rfl) (g0 _ _ _ _ q0 _ _ he) ?_
        refine v_mmin dK_doneBy_68 mlK_35 (Nat.le_of_ble_eq_true rfl) ?_
        refine v_top hm (fun x6 hm => ?_)
        refine v_ist_4 dK_doneBy_71 (by decide) rfl ?_
        refine v_inc_5 1 dK_doneBy_73 rfl (by decide) rfl ?_
        refine v_goto dK_doneBy_76 ?_
        exact v_kw (ih _ _ hm) (wk_s (wk_s (wk_s (wk_s (wk_s (wk_s (wk_n (wk_n wk_e))))))))
      · replace hm := ie hc hm
        refine v_inc_5 1 dK_doneBy_73 rfl (by decide) rfl ?_
        refine v_goto dK_doneBy_76 ?_
        exact v_kw (ih _ _ hm) (wk_s (wk_s (wk_s (wk_s (wk_s (wk_s (wk_n (wk_n wk_e))))))))
theorem ctK_doneBy_F (G : GG) (d : Nat) (f0 : Nat → Int32 → Int32 → Int32 → PH → Option (Int32)) (g0 : ∀ (a0 : Nat) (p1 : Int32) (p2 : Int32) (p3 : Int32) (q0 : shL[a0]? = some (6, 4)) (h0 : PH) (r : Int32), f0 a0 p1 p2 p3 h0 = some r → Kx G tK_doneBy d [.ref (gB G + a0), .int p1, .int p2, .int p3] h0 (some (.int r)) h0) (a0 : Nat) (p1 : Int32) (p2 : Int32) (p3 : Int32) (q0 : shL[a0]? = some (6, 4)) (h0 : PH) (r : Int32) (hm : mK_doneBy_F f0 a0 p1 p2 p3 h0 = some r) : Kx G tK_doneBy (d + 1) [.ref (gB G + a0), .int p1, .int p2, .int p3] h0 (some (.int r)) h0 := by
  refine K_of_V (by decide) (by simp [cat_i, cat_r, fmtV_cat]) (by simp [tK_doneBy]) ?_
  change Vx G tK_doneBy (d + 1) 0 [some (.ref (gB G + a0)), some (.int p1), some (.int p2), some (.int p3), none, none, none, none] [] h0 (some (.int r)) h0
  unfold mK_doneBy_F at hm
  refine v_ldc (x := 1000000) dK_doneBy_0 lcK_67 ?_
  refine v_ist_4 dK_doneBy_2 (by decide) rfl ?_
  refine v_iconst (x := 0) dK_doneBy_4 rfl ?_
  refine v_ist_5 dK_doneBy_5 (by decide) rfl ?_
  refine v_kw (wK_doneBy_L7 G d _ _ _ _ _ _ q0 g0 _ _ (fun x7 hm => ?_) FU _ _ hm) (wk_s (wk_s (wk_s (wk_s (wk_s (wk_s (wk_n (wk_n wk_e))))))))
  refine v_ild_4 dK_doneBy_79 ?_
  refine v_ldc (x := 1000000) dK_doneBy_81 lcK_67 ?_
  refine v_cmp_ne dK_doneBy_83 (fun hc => ?_) (fun hc => ?_)
  · replace hm := it hc hm
    refine v_ild_3 dK_doneBy_86 ?_
    refine v_goto dK_doneBy_87 ?_
    cases hm
    exact v_iret dK_doneBy_92 rfl
  · replace hm := ie hc hm
    refine v_ild_4 dK_doneBy_90 ?_
    cases hm
    exact v_iret dK_doneBy_92 rfl
def mK_doneBy : Nat → Nat → Int32 → Int32 → Int32 → PH → Option (Int32)
  | 0, _, _, _, _, _ => none
  | n + 1, a0, p1, p2, p3, h0 => mK_doneBy_F (mK_doneBy n) a0 p1 p2 p3 h0
theorem ctK_doneBy (G : GG) : ∀ (n d : Nat) (a0 : Nat) (p1 : Int32) (p2 : Int32) (p3 : Int32) (q0 : shL[a0]? = some (6, 4)) (h0 : PH) (r : Int32), mK_doneBy n a0 p1 p2 p3 h0 = some r → Kx G tK_doneBy (d + n) [.ref (gB G + a0), .int p1, .int p2, .int p3] h0 (some (.int r)) h0 := by
  intro n
  induction n with
  | zero => intro d a0 p1 p2 p3 q0 h0 r hm; cases hm
  | succ n ih =>
    intro d a0 p1 p2 p3 q0 h0 r hm
    exact ctK_doneBy_F G (d + n) (mK_doneBy n) (ih d) a0 p1 p2 p3 q0 h0 r hm
def mK_firstThatKeeps_L3 (a0 : Nat) (p1 : Int32) (p2 : Int32) (p3 : Int32) (p4 : Int32) (h0 : PH) : Nat → Int32 → Option (Int32)
  | 0, _ => none
  | n + 1, v5 =>
    if (h0 a0 3) ≤ v5 then
      some (-1)
    else
      if ((p1 >>> (v5 &&& 31)) &&& 1) = 0 then
        bd (mR_at a0 v5 0 h0) fun r1 =>
        lt (p2 + r1) fun x2 =>
        bd (mR_at a0 v5 1 h0) fun r3 =>
        lt ((imax p3 x2) + r3) fun x4 =>
        bd (mK_doneBy 30 a0 (p1 ||| (1 <<< (v5 &&& 31))) x2 x4 h0) fun r5 =>
        if r5 = p4 then
          some v5
        else
          mK_firstThatKeeps_L3 a0 p1 p2 p3 p4 h0 n (v5 + 1)
      else
        mK_firstThatKeeps_L3 a0 p1 p2 p3 p4 h0 n (v5 + 1)
def mK_firstThatKeeps (a0 : Nat) (p1 : Int32) (p2 : Int32) (p3 : Int32) (p4 : Int32) (h0 : PH) : Option (Int32) :=
  mK_firstThatKeeps_L3 a0 p1 p2 p3 p4 h0 FU 0
theorem wK_firstThatKeeps_L3 (G : GG) (d : Nat) (a0 : Nat) (p1 : Int32) (p2 : Int32) (p3 : Int32) (p4 : Int32) (h0 : PH) (q0 : shL[a0]? = some (6, 4)) (r : Int32) : ∀ (n : Nat) (v5 : Int32), mK_firstThatKeeps_L3 a0 p1 p2 p3 p4 h0 n v5 = some r → Vx G tK_firstThatKeeps (d + 31) 3 [some (.ref (gB G + a0)), some (.int p1), some (.int p2), some (.int p3), some (.int p4), some (.int v5), none, none] [] h0 (some (.int r)) h0 := by
  intro n
  induction n with
  | zero => intro v5 hm; cases hm
  | succ n ih =>
    intro v5 hm
    unfold mK_firstThatKeeps_L3 at hm
    refine v_ild_5 dK_firstThatKeeps_3 ?_
    refine v_ald_0 dK_firstThatKeeps_5 ?_
    refine v_getI dK_firstThatKeeps_6 fuK_21 q0 (rf_rows_3 q0) ?_
    refine v_cmp_ge dK_firstThatKeeps_9 (fun hc => ?_) (fun hc => ?_)
    · replace hm := it hc hm
      refine v_iconst (x := (-1)) dK_firstThatKeeps_76 rfl ?_
      cases hm
      exact v_iret dK_firstThatKeeps_77 rfl
    · replace hm := ie hc hm
      refine v_ild_1 dK_firstThatKeeps_12 ?_
      refine v_ild_5 dK_firstThatKeeps_13 ?_
      refine v_ishr dK_firstThatKeeps_15 ?_
      refine v_iconst (x := 1) dK_firstThatKeeps_16 rfl ?_
      refine v_iand dK_firstThatKeeps_17 ?_
      refine v_if_ne dK_firstThatKeeps_18 (fun hc => ?_) (fun hc => ?_)
      · replace hm := it hc hm
        refine v_ild_2 dK_firstThatKeeps_21 ?_
        refine v_ald_0 dK_firstThatKeeps_22 ?_
        refine v_ild_5 dK_firstThatKeeps_23 ?_
        refine v_iconst (x := 0) dK_firstThatKeeps_25 rfl ?_
        obtain ⟨r1, he, hm⟩ := bd_s hm
        refine v_cv2i (M' := tR_at) dK_firstThatKeeps_26 mlK_27 okR_at q0 hc_6 (Nat.le_of_ble_eq_true rfl) (ctR_at G (d + 30) _ _ _ q0 _ _ he) ?_
        refine v_iadd dK_firstThatKeeps_29 ?_
        refine v_top hm (fun x2 hm => ?_)
        refine v_ist_6 dK_firstThatKeeps_30 (by decide) rfl ?_
        refine v_ild_3 dK_firstThatKeeps_32 ?_
        refine v_ild_6 dK_firstThatKeeps_33 ?_
        refine v_mmax dK_firstThatKeeps_35 mlK_40 (Nat.le_of_ble_eq_true rfl) ?_
        refine v_ald_0 dK_firstThatKeeps_38 ?_
        refine v_ild_5 dK_firstThatKeeps_39 ?_
        refine v_iconst (x := 1) dK_firstThatKeeps_41 rfl ?_
        obtain ⟨r3, he, hm⟩ := bd_s hm
        refine v_cv2i (M' := tR_at) dK_firstThatKeeps_42 mlK_27 okR_at q0 hc_6 (Nat.le_of_ble_eq_true rfl) (ctR_at G (d + 30) _ _ _ q0 _ _ he) ?_
        refine v_iadd dK_firstThatKeeps_45 ?_
        refine v_top hm (fun x4 hm => ?_)
        refine v_ist_7 dK_firstThatKeeps_46 (by decide) rfl ?_
        refine v_ald_0 dK_firstThatKeeps_48 ?_
        refine v_ild_1 dK_firstThatKeeps_49 ?_
        refine v_iconst (x := 1) dK_firstThatKeeps_50 rfl ?_
        refine v_ild_5 dK_firstThatKeeps_51 ?_
        refine v_ishl dK_firstThatKeeps_53 ?_
        refine v_ior dK_firstThatKeeps_54 ?_
        refine v_ild_6 dK_firstThatKeeps_55 ?_
        refine v_ild_7 dK_firstThatKeeps_57 ?_
        obtain ⟨r5, he, hm⟩ := bd_s hm
        refine v_cs4i (M' := tK_doneBy) dK_firstThatKeeps_59 mlK_68 okK_doneBy (Nat.le_of_ble_eq_true rfl) (ctK_doneBy G 30 d _ _ _ _ q0 _ _ he) ?_
        refine v_ild_4 dK_firstThatKeeps_62 ?_
        refine v_cmp_ne dK_firstThatKeeps_64 (fun hc => ?_) (fun hc => ?_)
        · replace hm := it hc hm
          refine v_ild_5 dK_firstThatKeeps_67 ?_
          cases hm
          exact v_iret dK_firstThatKeeps_69 rfl
        · replace hm := ie hc hm
          refine v_inc_5 1 dK_firstThatKeeps_70 rfl (by decide) rfl ?_
          refine v_goto dK_firstThatKeeps_73 ?_
          exact v_kw (ih _ hm) (wk_s (wk_s (wk_s (wk_s (wk_s (wk_s (wk_n (wk_n wk_e))))))))
      · replace hm := ie hc hm
        refine v_inc_5 1 dK_firstThatKeeps_70 rfl (by decide) rfl ?_
        refine v_goto dK_firstThatKeeps_73 ?_
        exact v_kw (ih _ hm) (wk_s (wk_s (wk_s (wk_s (wk_s (wk_s (wk_n (wk_n wk_e))))))))
theorem ctK_firstThatKeeps (G : GG) (d : Nat) (a0 : Nat) (p1 : Int32) (p2 : Int32) (p3 : Int32) (p4 : Int32) (q0 : shL[a0]? = some (6, 4)) (h0 : PH) (r : Int32) (hm : mK_firstThatKeeps a0 p1 p2 p3 p4 h0 = some r) : Kx G tK_firstThatKeeps (d + 31) [.ref (gB G + a0), .int p1, .int p2, .int p3, .int p4] h0 (some (.int r)) h0 := by
  refine K_of_V (by decide) (by simp [cat_i, cat_r, fmtV_cat]) (by simp [tK_firstThatKeeps]) ?_
  change Vx G tK_firstThatKeeps (d + 31) 0 [some (.ref (gB G + a0)), some (.int p1), some (.int p2), some (.int p3), some (.int p4), none, none, none] [] h0 (some (.int r)) h0
  unfold mK_firstThatKeeps at hm
  refine v_iconst (x := 0) dK_firstThatKeeps_0 rfl ?_
  refine v_ist_5 dK_firstThatKeeps_1 (by decide) rfl ?_
  exact v_kw (wK_firstThatKeeps_L3 G d _ _ _ _ _ _ q0 _ FU _ hm) (wk_s (wk_s (wk_s (wk_s (wk_s (wk_s (wk_n (wk_n wk_e))))))))
def mK_loafAt_L22 (a0 : Nat) (p1 : Int32) (p2 : Int32) (h0 : PH) : Nat → Int32 → Int32 → Int32 → Int32 → Int32 → Option (Int32)
  | 0, _, _, _, _, _ => none
  | n + 1, v3, v4, v5, v6, v7 =>
    if p1 < v7 then
      some v6
    else
      bd (mK_firstThatKeeps a0 v3 v4 v5 p2 h0) fun r2 =>
      if r2 = (-1) then
        some (-1)
      else
        lt (v3 ||| (1 <<< (r2 &&& 31))) fun x3 =>
        bd (mR_at a0 r2 0 h0) fun r4 =>
        lt (v4 + r4) fun x5 =>
        bd (mR_at a0 r2 1 h0) fun r6 =>
        lt ((imax v5 x5) + r6) fun x7 =>
        mK_loafAt_L22 a0 p1 p2 h0 n x3 x5 x7 r2 (v7 + 1)
def mK_loafAt (a0 : Nat) (p1 : Int32) (h0 : PH) : Option (Int32) :=
  bd (mK_doneBy 30 a0 0 0 0 h0) fun r1 =>
  mK_loafAt_L22 a0 p1 r1 h0 FU 0 0 0 (-1) 0
theorem wK_loafAt_L22 (G : GG) (d : Nat) (a0 : Nat) (p1 : Int32) (p2 : Int32) (h0 : PH) (q0 : shL[a0]? = some (6, 4)) (r : Int32) : ∀ (n : Nat) (v3 : Int32) (v4 : Int32) (v5 : Int32) (v6 : Int32) (v7 : Int32), mK_loafAt_L22 a0 p1 p2 h0 n v3 v4 v5 v6 v7 = some r → Vx G tK_loafAt (d + 32) 22 [some (.ref (gB G + a0)), some (.int p1), some (.int p2), some (.int v3), some (.int v4), some (.int v5), some (.int v6), some (.int v7)] [] h0 (some (.int r)) h0 := by
  intro n
  induction n with
  | zero => intro v3 v4 v5 v6 v7 hm; cases hm
  | succ n ih =>
    intro v3 v4 v5 v6 v7 hm
    unfold mK_loafAt_L22 at hm
    refine v_ild_7 dK_loafAt_22 ?_
    refine v_ild_1 dK_loafAt_24 ?_
    refine v_cmp_gt dK_loafAt_25 (fun hc => ?_) (fun hc => ?_)
    · replace hm := it hc hm
      refine v_ild_6 dK_loafAt_90 ?_
      cases hm
      exact v_iret dK_loafAt_92 rfl
    · replace hm := ie hc hm
      refine v_ald_0 dK_loafAt_28 ?_
      refine v_ild_3 dK_loafAt_29 ?_
      refine v_ild_4 dK_loafAt_30 ?_
      refine v_ild_5 dK_loafAt_32 ?_
      refine v_ild_2 dK_loafAt_34 ?_
      obtain ⟨r2, he, hm⟩ := bd_s hm
      refine v_cs5i (M' := tK_firstThatKeeps) dK_loafAt_35 mlK_72 okK_firstThatKeeps (Nat.le_of_ble_eq_true rfl) (ctK_firstThatKeeps G d _ _ _ _ _ q0 _ _ he) ?_
      refine v_ist_6 dK_loafAt_38 (by decide) rfl ?_
      refine v_ild_6 dK_loafAt_40 ?_
      refine v_iconst (x := (-1)) dK_loafAt_42 rfl ?_
      refine v_cmp_ne dK_loafAt_43 (fun hc => ?_) (fun hc => ?_)
      · replace hm := it hc hm
        refine v_iconst (x := (-1)) dK_loafAt_46 rfl ?_
        cases hm
        exact v_iret dK_loafAt_47 rfl
      · replace hm := ie hc hm
        refine v_ild_3 dK_loafAt_48 ?_
        refine v_iconst (x := 1) dK_loafAt_49 rfl ?_
        refine v_ild_6 dK_loafAt_50 ?_
        refine v_ishl dK_loafAt_52 ?_
        refine v_ior dK_loafAt_53 ?_
        refine v_top hm (fun x3 hm => ?_)
        refine v_ist_3 dK_loafAt_54 (by decide) rfl ?_
        refine v_ild_4 dK_loafAt_55 ?_
        refine v_ald_0 dK_loafAt_57 ?_
        refine v_ild_6 dK_loafAt_58 ?_
        refine v_iconst (x := 0) dK_loafAt_60 rfl ?_
        obtain ⟨r4, he, hm⟩ := bd_s hm
        refine v_cv2i (M' := tR_at) dK_loafAt_61 mlK_27 okR_at q0 hc_6 (Nat.le_of_ble_eq_true rfl) (ctR_at G (d + 31) _ _ _ q0 _ _ he) ?_
        refine v_iadd dK_loafAt_64 ?_
        refine v_top hm (fun x5 hm => ?_)
        refine v_ist_4 dK_loafAt_65 (by decide) rfl ?_
        refine v_ild_5 dK_loafAt_67 ?_
        refine v_ild_4 dK_loafAt_69 ?_
        refine v_mmax dK_loafAt_71 mlK_40 (Nat.le_of_ble_eq_true rfl) ?_
        refine v_ald_0 dK_loafAt_74 ?_
        refine v_ild_6 dK_loafAt_75 ?_
        refine v_iconst (x := 1) dK_loafAt_77 rfl ?_
        obtain ⟨r6, he, hm⟩ := bd_s hm
        refine v_cv2i (M' := tR_at) dK_loafAt_78 mlK_27 okR_at q0 hc_6 (Nat.le_of_ble_eq_true rfl) (ctR_at G (d + 31) _ _ _ q0 _ _ he) ?_
        refine v_iadd dK_loafAt_81 ?_
        refine v_top hm (fun x7 hm => ?_)
        refine v_ist_5 dK_loafAt_82 (by decide) rfl ?_
        refine v_inc_7 1 dK_loafAt_84 rfl (by decide) rfl ?_
        refine v_goto dK_loafAt_87 ?_
        exact v_kw (ih _ _ _ _ _ hm) (wk_s (wk_s (wk_s (wk_s (wk_s (wk_s (wk_s (wk_s wk_e))))))))
theorem ctK_loafAt (G : GG) (d : Nat) (a0 : Nat) (p1 : Int32) (q0 : shL[a0]? = some (6, 4)) (h0 : PH) (r : Int32) (hm : mK_loafAt a0 p1 h0 = some r) : Kx G tK_loafAt (d + 32) [.ref (gB G + a0), .int p1] h0 (some (.int r)) h0 := by
  refine K_of_V (by decide) (by simp [cat_i, cat_r, fmtV_cat]) (by simp [tK_loafAt]) ?_
  change Vx G tK_loafAt (d + 32) 0 [some (.ref (gB G + a0)), some (.int p1), none, none, none, none, none, none] [] h0 (some (.int r)) h0
  unfold mK_loafAt at hm
  refine v_ald_0 dK_loafAt_0 ?_
  refine v_iconst (x := 0) dK_loafAt_1 rfl ?_
  refine v_iconst (x := 0) dK_loafAt_2 rfl ?_
  refine v_iconst (x := 0) dK_loafAt_3 rfl ?_
  obtain ⟨r1, he, hm⟩ := bd_s hm
  refine v_cs4i (M' := tK_doneBy) dK_loafAt_4 mlK_68 okK_doneBy (Nat.le_of_ble_eq_true rfl) (ctK_doneBy G 30 (d + 1) _ _ _ _ q0 _ _ he) ?_
  refine v_ist_2 dK_loafAt_7 (by decide) rfl ?_
  refine v_iconst (x := 0) dK_loafAt_8 rfl ?_
  refine v_ist_3 dK_loafAt_9 (by decide) rfl ?_
  refine v_iconst (x := 0) dK_loafAt_10 rfl ?_
  refine v_ist_4 dK_loafAt_11 (by decide) rfl ?_
  refine v_iconst (x := 0) dK_loafAt_13 rfl ?_
  refine v_ist_5 dK_loafAt_14 (by decide) rfl ?_
  refine v_iconst (x := (-1)) dK_loafAt_16 rfl ?_
  refine v_ist_6 dK_loafAt_17 (by decide) rfl ?_
  refine v_iconst (x := 0) dK_loafAt_19 rfl ?_
  refine v_ist_7 dK_loafAt_20 (by decide) rfl ?_
  exact v_kw (wK_loafAt_L22 G d _ _ _ _ q0 _ FU _ _ _ _ _ hm) (wk_s (wk_s (wk_s (wk_s (wk_s (wk_s (wk_s (wk_s wk_e))))))))
def mK_leftBy_L2 (a0 : Nat) (p1 : Int32) (h0 : PH) (k0 : Int32 → Option (Int32)) : Nat → Int32 → Option (Int32)
  | 0, _ => none
  | n + 1, v2 =>
    if (h0 a0 3) ≤ v2 then
      some (-1)
    else
      bd (mR_at a0 v2 0 h0) fun r1 =>
      if r1 = p1 then
        k0 v2
      else
        mK_leftBy_L2 a0 p1 h0 k0 n (v2 + 1)
def mK_leftBy (a0 : Nat) (p1 : Int32) (h0 : PH) : Option (Int32) :=
  mK_leftBy_L2 a0 p1 h0 (fun (x2 : Int32) =>
    bd (mR_at a0 x2 1 h0) fun r3 =>
    some r3) FU 0
theorem wK_leftBy_L2 (G : GG) (d : Nat) (a0 : Nat) (p1 : Int32) (h0 : PH) (q0 : shL[a0]? = some (6, 4)) (k0 : Int32 → Option (Int32)) (r : Int32) (kk0 : ∀ (y2 : Int32), k0 y2 = some r → Vx G tK_leftBy (d + 1) 20 [some (.ref (gB G + a0)), none, some (.int y2)] [] h0 (some (.int r)) h0) : ∀ (n : Nat) (v2 : Int32), mK_leftBy_L2 a0 p1 h0 k0 n v2 = some r → Vx G tK_leftBy (d + 1) 2 [some (.ref (gB G + a0)), some (.int p1), some (.int v2)] [] h0 (some (.int r)) h0 := by
  intro n
  induction n with
  | zero => intro v2 hm; cases hm
  | succ n ih =>
    intro v2 hm
    unfold mK_leftBy_L2 at hm
    refine v_ild_2 dK_leftBy_2 ?_
    refine v_ald_0 dK_leftBy_3 ?_
    refine v_getI dK_leftBy_4 fuK_21 q0 (rf_rows_3 q0) ?_
    refine v_cmp_ge dK_leftBy_7 (fun hc => ?_) (fun hc => ?_)
    · replace hm := it hc hm
      refine v_iconst (x := (-1)) dK_leftBy_33 rfl ?_
      cases hm
      exact v_iret dK_leftBy_34 rfl
    · replace hm := ie hc hm
      refine v_ald_0 dK_leftBy_10 ?_
      refine v_ild_2 dK_leftBy_11 ?_
      refine v_iconst (x := 0) dK_leftBy_12 rfl ?_
      obtain ⟨r1, he, hm⟩ := bd_s hm
      refine v_cv2i (M' := tR_at) dK_leftBy_13 mlK_27 okR_at q0 hc_6 (Nat.le_of_ble_eq_true rfl) (ctR_at G d _ _ _ q0 _ _ he) ?_
      refine v_ild_1 dK_leftBy_16 ?_
      refine v_cmp_ne dK_leftBy_17 (fun hc => ?_) (fun hc => ?_)
      · replace hm := it hc hm
        exact v_kw (kk0 _ hm) (wk_s (wk_n (wk_s wk_e)))
      · replace hm := ie hc hm
        refine v_inc_2 1 dK_leftBy_27 rfl (by decide) rfl ?_
        refine v_goto dK_leftBy_30 ?_
        exact v_kw (ih _ hm) (wk_s (wk_s (wk_s wk_e)))
theorem ctK_leftBy (G : GG) (d : Nat) (a0 : Nat) (p1 : Int32) (q0 : shL[a0]? = some (6, 4)) (h0 : PH) (r : Int32) (hm : mK_leftBy a0 p1 h0 = some r) : Kx G tK_leftBy (d + 1) [.ref (gB G + a0), .int p1] h0 (some (.int r)) h0 := by
  refine K_of_V (by decide) (by simp [cat_i, cat_r, fmtV_cat]) (by simp [tK_leftBy]) ?_
  change Vx G tK_leftBy (d + 1) 0 [some (.ref (gB G + a0)), some (.int p1), none] [] h0 (some (.int r)) h0
  unfold mK_leftBy at hm
  refine v_iconst (x := 0) dK_leftBy_0 rfl ?_
  refine v_ist_2 dK_leftBy_1 (by decide) rfl ?_
  refine v_kw (wK_leftBy_L2 G d _ _ _ q0 _ _ (fun x2 hm => ?_) FU _ hm) (wk_s (wk_s (wk_s wk_e)))
  refine v_ald_0 dK_leftBy_20 ?_
  refine v_ild_2 dK_leftBy_21 ?_
  refine v_iconst (x := 1) dK_leftBy_22 rfl ?_
  obtain ⟨r3, he, hm⟩ := bd_s hm
  refine v_cv2i (M' := tR_at) dK_leftBy_23 mlK_27 okR_at q0 hc_6 (Nat.le_of_ble_eq_true rfl) (ctR_at G d _ _ _ q0 _ _ he) ?_
  cases hm
  exact v_iret dK_leftBy_26 rfl
def mK_lineOf_L5 (a0 : Nat) (p2 : Int32) (h0 : PH) (k0 : Int32 → Int32 → Option (Int32)) : Nat → Int32 → Int32 → Option (Int32)
  | 0, _, _ => none
  | n + 1, v3, v4 =>
    if 12 ≤ v4 then
      some (-1)
    else
      bd (mK_leftBy a0 v3 h0) fun r1 =>
      if r1 = (-1) then
        k0 v3 v4
      else
        mK_lineOf_L5 a0 p2 h0 k0 n r1 (v4 + 1)
def mK_lineOf (a0 : Nat) (p1 : Int32) (p2 : Int32) (h0 : PH) : Option (Int32) :=
  mK_lineOf_L5 a0 p2 h0 (fun (x2 : Int32) (x3 : Int32) =>
    if p2 = 0 then
      some x2
    else
      some x3) FU p1 0
theorem wK_lineOf_L5 (G : GG) (d : Nat) (a0 : Nat) (p2 : Int32) (h0 : PH) (q0 : shL[a0]? = some (6, 4)) (k0 : Int32 → Int32 → Option (Int32)) (r : Int32) (kk0 : ∀ (y3 : Int32) (y4 : Int32), k0 y3 y4 = some r → Vx G tK_lineOf (d + 2) 25 [none, none, some (.int p2), some (.int y3), some (.int y4), none] [] h0 (some (.int r)) h0) : ∀ (n : Nat) (v3 : Int32) (v4 : Int32), mK_lineOf_L5 a0 p2 h0 k0 n v3 v4 = some r → Vx G tK_lineOf (d + 2) 5 [some (.ref (gB G + a0)), none, some (.int p2), some (.int v3), some (.int v4), none] [] h0 (some (.int r)) h0 := by
  intro n
  induction n with
  | zero => intro v3 v4 hm; cases hm
  | succ n ih =>
    intro v3 v4 hm
    unfold mK_lineOf_L5 at hm
    refine v_ild_4 dK_lineOf_5 ?_
    refine v_bipush (x := 12) dK_lineOf_7 rfl ?_
    refine v_cmp_ge dK_lineOf_9 (fun hc => ?_) (fun hc => ?_)
    · replace hm := it hc hm
      refine v_iconst (x := (-1)) dK_lineOf_45 rfl ?_
      cases hm
      exact v_iret dK_lineOf_46 rfl
    · replace hm := ie hc hm
      refine v_ald_0 dK_lineOf_12 ?_
      refine v_ild_3 dK_lineOf_13 ?_
      obtain ⟨r1, he, hm⟩ := bd_s hm
      refine v_cs2i (M' := tK_leftBy) dK_lineOf_14 mlK_76 okK_leftBy (Nat.le_of_ble_eq_true rfl) (ctK_leftBy G d _ _ q0 _ _ he) ?_
      refine v_ist_5 dK_lineOf_17 (by decide) rfl ?_
      refine v_ild_5 dK_lineOf_19 ?_
      refine v_iconst (x := (-1)) dK_lineOf_21 rfl ?_
      refine v_cmp_ne dK_lineOf_22 (fun hc => ?_) (fun hc => ?_)
      · replace hm := it hc hm
        exact v_kw (kk0 _ _ hm) (wk_n (wk_n (wk_s (wk_s (wk_s (wk_n wk_e))))))
      · replace hm := ie hc hm
        refine v_ild_5 dK_lineOf_36 ?_
        refine v_ist_3 dK_lineOf_38 (by decide) rfl ?_
        refine v_inc_4 1 dK_lineOf_39 rfl (by decide) rfl ?_
        refine v_goto dK_lineOf_42 ?_
        exact v_kw (ih _ _ hm) (wk_s (wk_n (wk_s (wk_s (wk_s (wk_n wk_e))))))
theorem ctK_lineOf (G : GG) (d : Nat) (a0 : Nat) (p1 : Int32) (p2 : Int32) (q0 : shL[a0]? = some (6, 4)) (h0 : PH) (r : Int32) (hm : mK_lineOf a0 p1 p2 h0 = some r) : Kx G tK_lineOf (d + 2) [.ref (gB G + a0), .int p1, .int p2] h0 (some (.int r)) h0 := by
  refine K_of_V (by decide) (by simp [cat_i, cat_r, fmtV_cat]) (by simp [tK_lineOf]) ?_
  change Vx G tK_lineOf (d + 2) 0 [some (.ref (gB G + a0)), some (.int p1), some (.int p2), none, none, none] [] h0 (some (.int r)) h0
  unfold mK_lineOf at hm
  refine v_ild_1 dK_lineOf_0 ?_
  refine v_ist_3 dK_lineOf_1 (by decide) rfl ?_
  refine v_iconst (x := 0) dK_lineOf_2 rfl ?_
  refine v_ist_4 dK_lineOf_3 (by decide) rfl ?_
  refine v_kw (wK_lineOf_L5 G d _ _ _ q0 _ _ (fun x2 x3 hm => ?_) FU _ _ hm) (wk_s (wk_n (wk_s (wk_s (wk_s (wk_n wk_e))))))
  refine v_ild_2 dK_lineOf_25 ?_
  refine v_if_eq dK_lineOf_26 (fun hc => ?_) (fun hc => ?_)
  · replace hm := it hc hm
    refine v_ild_3 dK_lineOf_34 ?_
    cases hm
    exact v_iret dK_lineOf_35 rfl
  · replace hm := ie hc hm
    refine v_ild_4 dK_lineOf_29 ?_
    refine v_goto dK_lineOf_31 ?_
    cases hm
    exact v_iret dK_lineOf_35 rfl
def mK_windowWays_L15 (p0 : Int32) (h0 : PH) : Nat → Int32 → Int32 → Int32 → Int32 → Int32 → Int32 → Option (Int32)
  | 0, _, _, _, _, _, _ => none
  | n + 1, v1, v2, v3, v4, v5, v6 =>
    if p0 < v6 then
      some (v1 + v4)
    else
      lt (((v1 + v4) + v2) + v5) fun x1 =>
      mK_windowWays_L15 p0 h0 n x1 v1 v2 v3 v4 (v6 + 1)
def mK_windowWays (p0 : Int32) (h0 : PH) : Option (Int32) :=
  mK_windowWays_L15 p0 h0 FU 1 0 0 0 0 1
theorem wK_windowWays_L15 (G : GG) (d : Nat) (p0 : Int32) (h0 : PH) (r : Int32) : ∀ (n : Nat) (v1 : Int32) (v2 : Int32) (v3 : Int32) (v4 : Int32) (v5 : Int32) (v6 : Int32), mK_windowWays_L15 p0 h0 n v1 v2 v3 v4 v5 v6 = some r → Vx G tK_windowWays d 15 [some (.int p0), some (.int v1), some (.int v2), some (.int v3), some (.int v4), some (.int v5), some (.int v6), none, none] [] h0 (some (.int r)) h0 := by
  intro n
  induction n with
  | zero => intro v1 v2 v3 v4 v5 v6 hm; cases hm
  | succ n ih =>
    intro v1 v2 v3 v4 v5 v6 hm
    unfold mK_windowWays_L15 at hm
    refine v_ild_6 dK_windowWays_15 ?_
    refine v_ild_0 dK_windowWays_17 ?_
    refine v_cmp_gt dK_windowWays_18 (fun hc => ?_) (fun hc => ?_)
    · replace hm := it hc hm
      refine v_ild_1 dK_windowWays_56 ?_
      refine v_ild_4 dK_windowWays_57 ?_
      refine v_iadd dK_windowWays_59 ?_
      cases hm
      exact v_iret dK_windowWays_60 rfl
    · replace hm := ie hc hm
      refine v_ild_1 dK_windowWays_21 ?_
      refine v_ild_4 dK_windowWays_22 ?_
      refine v_iadd dK_windowWays_24 ?_
      refine v_ild_2 dK_windowWays_25 ?_
      refine v_iadd dK_windowWays_26 ?_
      refine v_ild_5 dK_windowWays_27 ?_
      refine v_iadd dK_windowWays_29 ?_
      refine v_top hm (fun x1 hm => ?_)
      refine v_ist_7 dK_windowWays_30 (by decide) rfl ?_
      refine v_ild_3 dK_windowWays_32 ?_
      refine v_ist_8 dK_windowWays_33 (by decide) rfl ?_
      refine v_ild_2 dK_windowWays_35 ?_
      refine v_ist_3 dK_windowWays_36 (by decide) rfl ?_
      refine v_ild_1 dK_windowWays_37 ?_
      refine v_ist_2 dK_windowWays_38 (by decide) rfl ?_
      refine v_ild_7 dK_windowWays_39 ?_
      refine v_ist_1 dK_windowWays_41 (by decide) rfl ?_
      refine v_ild_4 dK_windowWays_42 ?_
      refine v_ist_5 dK_windowWays_44 (by decide) rfl ?_
      refine v_ild_8 dK_windowWays_46 ?_
      refine v_ist_4 dK_windowWays_48 (by decide) rfl ?_
      refine v_inc_6 1 dK_windowWays_50 rfl (by decide) rfl ?_
      refine v_goto dK_windowWays_53 ?_
      exact v_kw (ih _ _ _ _ _ _ hm) (wk_s (wk_s (wk_s (wk_s (wk_s (wk_s (wk_s (wk_n (wk_n wk_e)))))))))
theorem ctK_windowWays (G : GG) (d : Nat) (p0 : Int32) (h0 : PH) (r : Int32) (hm : mK_windowWays p0 h0 = some r) : Kx G tK_windowWays d [.int p0] h0 (some (.int r)) h0 := by
  refine K_of_V (by decide) (by simp [cat_i, cat_r, fmtV_cat]) (by simp [tK_windowWays]) ?_
  change Vx G tK_windowWays d 0 [some (.int p0), none, none, none, none, none, none, none, none] [] h0 (some (.int r)) h0
  unfold mK_windowWays at hm
  refine v_iconst (x := 1) dK_windowWays_0 rfl ?_
  refine v_ist_1 dK_windowWays_1 (by decide) rfl ?_
  refine v_iconst (x := 0) dK_windowWays_2 rfl ?_
  refine v_ist_2 dK_windowWays_3 (by decide) rfl ?_
  refine v_iconst (x := 0) dK_windowWays_4 rfl ?_
  refine v_ist_3 dK_windowWays_5 (by decide) rfl ?_
  refine v_iconst (x := 0) dK_windowWays_6 rfl ?_
  refine v_ist_4 dK_windowWays_7 (by decide) rfl ?_
  refine v_iconst (x := 0) dK_windowWays_9 rfl ?_
  refine v_ist_5 dK_windowWays_10 (by decide) rfl ?_
  refine v_iconst (x := 1) dK_windowWays_12 rfl ?_
  refine v_ist_6 dK_windowWays_13 (by decide) rfl ?_
  exact v_kw (wK_windowWays_L15 G d _ _ _ FU _ _ _ _ _ _ hm) (wk_s (wk_s (wk_s (wk_s (wk_s (wk_s (wk_s (wk_n (wk_n wk_e)))))))))
def mK_weightOf_L4 (a0 : Nat) (h0 : PH) : Nat → Int32 → Int32 → Option (Int32)
  | 0, _, _ => none
  | n + 1, v1, v2 =>
    if (h0 a0 3) ≤ v2 then
      some v1
    else
      bd (mR_at a0 v2 1 h0) fun r1 =>
      lt (v1 + r1) fun x2 =>
      mK_weightOf_L4 a0 h0 n x2 (v2 + 1)
def mK_weightOf (a0 : Nat) (h0 : PH) : Option (Int32) :=
  mK_weightOf_L4 a0 h0 FU 0 0
theorem wK_weightOf_L4 (G : GG) (d : Nat) (a0 : Nat) (h0 : PH) (q0 : shL[a0]? = some (6, 4)) (r : Int32) : ∀ (n : Nat) (v1 : Int32) (v2 : Int32), mK_weightOf_L4 a0 h0 n v1 v2 = some r → Vx G tK_weightOf (d + 1) 4 [some (.ref (gB G + a0)), some (.int v1), some (.int v2)] [] h0 (some (.int r)) h0 := by
  intro n
  induction n with
  | zero => intro v1 v2 hm; cases hm
  | succ n ih =>
    intro v1 v2 hm
    unfold mK_weightOf_L4 at hm
    refine v_ild_2 dK_weightOf_4 ?_
    refine v_ald_0 dK_weightOf_5 ?_
    refine v_getI dK_weightOf_6 fuK_21 q0 (rf_rows_3 q0) ?_
    refine v_cmp_ge dK_weightOf_9 (fun hc => ?_) (fun hc => ?_)
    · replace hm := it hc hm
      refine v_ild_1 dK_weightOf_27 ?_
      cases hm
      exact v_iret dK_weightOf_28 rfl
    · replace hm := ie hc hm
      refine v_ild_1 dK_weightOf_12 ?_
      refine v_ald_0 dK_weightOf_13 ?_
      refine v_ild_2 dK_weightOf_14 ?_
      refine v_iconst (x := 1) dK_weightOf_15 rfl ?_
      obtain ⟨r1, he, hm⟩ := bd_s hm
      refine v_cv2i (M' := tR_at) dK_weightOf_16 mlK_27 okR_at q0 hc_6 (Nat.le_of_ble_eq_true rfl) (ctR_at G d _ _ _ q0 _ _ he) ?_
      refine v_iadd dK_weightOf_19 ?_
      refine v_top hm (fun x2 hm => ?_)
      refine v_ist_1 dK_weightOf_20 (by decide) rfl ?_
      refine v_inc_2 1 dK_weightOf_21 rfl (by decide) rfl ?_
      refine v_goto dK_weightOf_24 ?_
      exact v_kw (ih _ _ hm) (wk_s (wk_s (wk_s wk_e)))
theorem ctK_weightOf (G : GG) (d : Nat) (a0 : Nat) (q0 : shL[a0]? = some (6, 4)) (h0 : PH) (r : Int32) (hm : mK_weightOf a0 h0 = some r) : Kx G tK_weightOf (d + 1) [.ref (gB G + a0)] h0 (some (.int r)) h0 := by
  refine K_of_V (by decide) (by simp [cat_i, cat_r, fmtV_cat]) (by simp [tK_weightOf]) ?_
  change Vx G tK_weightOf (d + 1) 0 [some (.ref (gB G + a0)), none, none] [] h0 (some (.int r)) h0
  unfold mK_weightOf at hm
  refine v_iconst (x := 0) dK_weightOf_0 rfl ?_
  refine v_ist_1 dK_weightOf_1 (by decide) rfl ?_
  refine v_iconst (x := 0) dK_weightOf_2 rfl ?_
  refine v_ist_2 dK_weightOf_3 (by decide) rfl ?_
  exact v_kw (wK_weightOf_L4 G d _ _ q0 _ FU _ _ hm) (wk_s (wk_s (wk_s wk_e)))
def mK_agreed_L21 (a0 : Nat) (p1 : Int32) (p2 : Int32) (p3 : Int32) (h0 : PH) (k0 : Int32 → Option (Int32)) : Nat → Int32 → Int32 → Option (Int32)
  | 0, _, _ => none
  | n + 1, v4, v5 =>
    if (h0 a0 3) ≤ v5 then
      k0 v4
    else
      bd (mR_at a0 v5 0 h0) fun r2 =>
      if ((r2 >>> (p3 &&& 31)) &&& 1) = 1 then
        bd (mR_at a0 v5 1 h0) fun r3 =>
        lt (v4 + r3) fun x4 =>
        mK_agreed_L21 a0 p1 p2 p3 h0 k0 n x4 (v5 + 1)
      else
        mK_agreed_L21 a0 p1 p2 p3 h0 k0 n v4 (v5 + 1)
def mK_agreed_L9 (a0 : Nat) (p1 : Int32) (h0 : PH) : Nat → Int32 → Int32 → Option (Int32)
  | 0, _, _ => none
  | n + 1, v2, v3 =>
    if 12 ≤ v3 then
      some v2
    else
      mK_agreed_L21 a0 p1 v2 v3 h0 (fun (x5 : Int32) =>
        if (2 * x5) ≤ p1 then
          mK_agreed_L9 a0 p1 h0 n v2 (v3 + 1)
        else
          lt (v2 ||| (1 <<< (v3 &&& 31))) fun x6 =>
          mK_agreed_L9 a0 p1 h0 n x6 (v3 + 1)) FU 0 0
def mK_agreed (a0 : Nat) (h0 : PH) : Option (Int32) :=
  bd (mK_weightOf a0 h0) fun r1 =>
  mK_agreed_L9 a0 r1 h0 FU 0 0
theorem wK_agreed_L21 (G : GG) (d : Nat) (a0 : Nat) (p1 : Int32) (p2 : Int32) (p3 : Int32) (h0 : PH) (q0 : shL[a0]? = some (6, 4)) (k0 : Int32 → Option (Int32)) (r : Int32) (kk0 : ∀ (y4 : Int32), k0 y4 = some r → Vx G tK_agreed (d + 2) 63 [some (.ref (gB G + a0)), some (.int p1), some (.int p2), some (.int p3), some (.int y4), none] [] h0 (some (.int r)) h0) : ∀ (n : Nat) (v4 : Int32) (v5 : Int32), mK_agreed_L21 a0 p1 p2 p3 h0 k0 n v4 v5 = some r → Vx G tK_agreed (d + 2) 21 [some (.ref (gB G + a0)), some (.int p1), some (.int p2), some (.int p3), some (.int v4), some (.int v5)] [] h0 (some (.int r)) h0 := by
  intro n
  induction n with
  | zero => intro v4 v5 hm; cases hm
  | succ n ih =>
    intro v4 v5 hm
    unfold mK_agreed_L21 at hm
    refine v_ild_5 dK_agreed_21 ?_
    refine v_ald_0 dK_agreed_23 ?_
    refine v_getI dK_agreed_24 fuK_21 q0 (rf_rows_3 q0) ?_
    refine v_cmp_ge dK_agreed_27 (fun hc => ?_) (fun hc => ?_)
    · replace hm := it hc hm
      exact v_kw (kk0 _ hm) (wk_s (wk_s (wk_s (wk_s (wk_s (wk_n wk_e))))))
    · replace hm := ie hc hm
      refine v_ald_0 dK_agreed_30 ?_
      refine v_ild_5 dK_agreed_31 ?_
      refine v_iconst (x := 0) dK_agreed_33 rfl ?_
      obtain ⟨r2, he, hm⟩ := bd_s hm
      refine v_cv2i (M' := tR_at) dK_agreed_34 mlK_27 okR_at q0 hc_6 (Nat.le_of_ble_eq_true rfl) (ctR_at G (d + 1) _ _ _ q0 _ _ he) ?_
      refine v_ild_3 dK_agreed_37 ?_
      refine v_ishr dK_agreed_38 ?_
      refine v_iconst (x := 1) dK_agreed_39 rfl ?_
      refine v_iand dK_agreed_40 ?_
      refine v_iconst (x := 1) dK_agreed_41 rfl ?_
      refine v_cmp_ne dK_agreed_42 (fun hc => ?_) (fun hc => ?_)
      · replace hm := it hc hm
        refine v_ild_4 dK_agreed_45 ?_
        refine v_ald_0 dK_agreed_47 ?_
        refine v_ild_5 dK_agreed_48 ?_
        refine v_iconst (x := 1) dK_agreed_50 rfl ?_
        obtain ⟨r3, he, hm⟩ := bd_s hm
        refine v_cv2i (M' := tR_at) dK_agreed_51 mlK_27 okR_at q0 hc_6 (Nat.le_of_ble_eq_true rfl) (ctR_at G (d + 1) _ _ _ q0 _ _ he) ?_
        refine v_iadd dK_agreed_54 ?_
        refine v_top hm (fun x4 hm => ?_)
        refine v_ist_4 dK_agreed_55 (by decide) rfl ?_
        refine v_inc_5 1 dK_agreed_57 rfl (by decide) rfl ?_
        refine v_goto dK_agreed_60 ?_
        exact v_kw (ih _ _ hm) (wk_s (wk_s (wk_s (wk_s (wk_s (wk_s wk_e))))))
      · replace hm := ie hc hm
        refine v_inc_5 1 dK_agreed_57 rfl (by decide) rfl ?_
        refine v_goto dK_agreed_60 ?_
        exact v_kw (ih _ _ hm) (wk_s (wk_s (wk_s (wk_s (wk_s (wk_s wk_e))))))
theorem wK_agreed_L9 (G : GG) (d : Nat) (a0 : Nat) (p1 : Int32) (h0 : PH) (q0 : shL[a0]? = some (6, 4)) (r : Int32) : ∀ (n : Nat) (v2 : Int32) (v3 : Int32), mK_agreed_L9 a0 p1 h0 n v2 v3 = some r → Vx G tK_agreed (d + 2) 9 [some (.ref (gB G + a0)), some (.int p1), some (.int v2), some (.int v3), none, none] [] h0 (some (.int r)) h0 := by
  intro n
  induction n with
  | zero => intro v2 v3 hm; cases hm
  | succ n ih =>
    intro v2 v3 hm
    unfold mK_agreed_L9 at hm
    refine v_ild_3 dK_agreed_9 ?_
    refine v_bipush (x := 12) dK_agreed_10 rfl ?_
    refine v_cmp_ge dK_agreed_12 (fun hc => ?_) (fun hc => ?_)
    · replace hm := it hc hm
      refine v_ild_2 dK_agreed_83 ?_
      cases hm
      exact v_iret dK_agreed_84 rfl
    · replace hm := ie hc hm
      refine v_iconst (x := 0) dK_agreed_15 rfl ?_
      refine v_ist_4 dK_agreed_16 (by decide) rfl ?_
      refine v_iconst (x := 0) dK_agreed_18 rfl ?_
      refine v_ist_5 dK_agreed_19 (by decide) rfl ?_
      refine v_kw (wK_agreed_L21 G d _ _ _ _ _ q0 _ _ (fun x5 hm => ?_) FU _ _ hm) (wk_s (wk_s (wk_s (wk_s (wk_s (wk_s wk_e))))))
      refine v_iconst (x := 2) dK_agreed_63 rfl ?_
      refine v_ild_4 dK_agreed_64 ?_
      refine v_imul dK_agreed_66 ?_
      refine v_ild_1 dK_agreed_67 ?_
      refine v_cmp_le dK_agreed_68 (fun hc => ?_) (fun hc => ?_)
      · replace hm := it hc hm
        refine v_inc_3 1 dK_agreed_77 rfl (by decide) rfl ?_
        refine v_goto dK_agreed_80 ?_
        exact v_kw (ih _ _ hm) (wk_s (wk_s (wk_s (wk_s (wk_n (wk_n wk_e))))))
      · replace hm := ie hc hm
        refine v_ild_2 dK_agreed_71 ?_
        refine v_iconst (x := 1) dK_agreed_72 rfl ?_
        refine v_ild_3 dK_agreed_73 ?_
        refine v_ishl dK_agreed_74 ?_
        refine v_ior dK_agreed_75 ?_
        refine v_top hm (fun x6 hm => ?_)
        refine v_ist_2 dK_agreed_76 (by decide) rfl ?_
        refine v_inc_3 1 dK_agreed_77 rfl (by decide) rfl ?_
        refine v_goto dK_agreed_80 ?_
        exact v_kw (ih _ _ hm) (wk_s (wk_s (wk_s (wk_s (wk_n (wk_n wk_e))))))
theorem ctK_agreed (G : GG) (d : Nat) (a0 : Nat) (q0 : shL[a0]? = some (6, 4)) (h0 : PH) (r : Int32) (hm : mK_agreed a0 h0 = some r) : Kx G tK_agreed (d + 2) [.ref (gB G + a0)] h0 (some (.int r)) h0 := by
  refine K_of_V (by decide) (by simp [cat_i, cat_r, fmtV_cat]) (by simp [tK_agreed]) ?_
  change Vx G tK_agreed (d + 2) 0 [some (.ref (gB G + a0)), none, none, none, none, none] [] h0 (some (.int r)) h0
  unfold mK_agreed at hm
  refine v_ald_0 dK_agreed_0 ?_
  obtain ⟨r1, he, hm⟩ := bd_s hm
  refine v_cs1i (M' := tK_weightOf) dK_agreed_1 mlK_80 okK_weightOf (Nat.le_of_ble_eq_true rfl) (ctK_weightOf G d _ q0 _ _ he) ?_
  refine v_ist_1 dK_agreed_4 (by decide) rfl ?_
  refine v_iconst (x := 0) dK_agreed_5 rfl ?_
  refine v_ist_2 dK_agreed_6 (by decide) rfl ?_
  refine v_iconst (x := 0) dK_agreed_7 rfl ?_
  refine v_ist_3 dK_agreed_8 (by decide) rfl ?_
  exact v_kw (wK_agreed_L9 G d _ _ _ q0 _ FU _ _ hm) (wk_s (wk_s (wk_s (wk_s (wk_n (wk_n wk_e))))))
def mK_leastMajority_L22 (a0 : Nat) (p1 : Int32) (p4 : Int32) (h0 : PH) (k0 : Int32 → Int32 → Option (Int32)) : Nat → Int32 → Int32 → Int32 → Option (Int32)
  | 0, _, _, _ => none
  | n + 1, v2, v3, v5 =>
    if (h0 a0 3) ≤ v5 then
      k0 v2 v3
    else
      bd (mR_at a0 v5 1 h0) fun r2 =>
      if r2 = p4 then
        if p1 < (2 * v2) then
          mK_leastMajority_L22 a0 p1 p4 h0 k0 n v2 v3 (v5 + 1)
        else
          lt (v2 + p4) fun x3 =>
          mK_leastMajority_L22 a0 p1 p4 h0 k0 n x3 (v3 + 1) (v5 + 1)
      else
        mK_leastMajority_L22 a0 p1 p4 h0 k0 n v2 v3 (v5 + 1)
def mK_leastMajority_L13 (a0 : Nat) (p1 : Int32) (h0 : PH) : Nat → Int32 → Int32 → Int32 → Option (Int32)
  | 0, _, _, _ => none
  | n + 1, v2, v3, v4 =>
    if v4 < 1 then
      some v3
    else
      mK_leastMajority_L22 a0 p1 v4 h0 (fun (x4 : Int32) (x5 : Int32) =>
        mK_leastMajority_L13 a0 p1 h0 n x4 x5 (v4 + (-1))) FU v2 v3 0
def mK_leastMajority (a0 : Nat) (h0 : PH) : Option (Int32) :=
  bd (mK_weightOf a0 h0) fun r1 =>
  mK_leastMajority_L13 a0 r1 h0 FU 0 0 9
theorem wK_leastMajority_L22 (G : GG) (d : Nat) (a0 : Nat) (p1 : Int32) (p4 : Int32) (h0 : PH) (q0 : shL[a0]? = some (6, 4)) (k0 : Int32 → Int32 → Option (Int32)) (r : Int32) (kk0 : ∀ (y2 : Int32) (y3 : Int32), k0 y2 y3 = some r → Vx G tK_leastMajority (d + 2) 64 [some (.ref (gB G + a0)), some (.int p1), some (.int y2), some (.int y3), some (.int p4), none] [] h0 (some (.int r)) h0) : ∀ (n : Nat) (v2 : Int32) (v3 : Int32) (v5 : Int32), mK_leastMajority_L22 a0 p1 p4 h0 k0 n v2 v3 v5 = some r → Vx G tK_leastMajority (d + 2) 22 [some (.ref (gB G + a0)), some (.int p1), some (.int v2), some (.int v3), some (.int p4), some (.int v5)] [] h0 (some (.int r)) h0 := by
  intro n
  induction n with
  | zero => intro v2 v3 v5 hm; cases hm
  | succ n ih =>
    intro v2 v3 v5 hm
    unfold mK_leastMajority_L22 at hm
    refine v_ild_5 dK_leastMajority_22 ?_
    refine v_ald_0 dK_leastMajority_24 ?_
    refine v_getI dK_leastMajority_25 fuK_21 q0 (rf_rows_3 q0) ?_
    refine v_cmp_ge dK_leastMajority_28 (fun hc => ?_) (fun hc => ?_)
    · replace hm := it hc hm
      exact v_kw (kk0 _ _ hm) (wk_s (wk_s (wk_s (wk_s (wk_s (wk_n wk_e))))))
    · replace hm := ie hc hm
      refine v_ald_0 dK_leastMajority_31 ?_
      refine v_ild_5 dK_leastMajority_32 ?_
      refine v_iconst (x := 1) dK_leastMajority_34 rfl ?_
      obtain ⟨r2, he, hm⟩ := bd_s hm
      refine v_cv2i (M' := tR_at) dK_leastMajority_35 mlK_27 okR_at q0 hc_6 (Nat.le_of_ble_eq_true rfl) (ctR_at G (d + 1) _ _ _ q0 _ _ he) ?_
      refine v_ild_4 dK_leastMajority_38 ?_
      refine v_cmp_ne dK_leastMajority_40 (fun hc => ?_) (fun hc => ?_)
      · replace hm := it hc hm
        refine v_iconst (x := 2) dK_leastMajority_43 rfl ?_
        refine v_ild_2 dK_leastMajority_44 ?_
        refine v_imul dK_leastMajority_45 ?_
        refine v_ild_1 dK_leastMajority_46 ?_
        refine v_cmp_gt dK_leastMajority_47 (fun hc => ?_) (fun hc => ?_)
        · replace hm := it hc hm
          refine v_inc_5 1 dK_leastMajority_58 rfl (by decide) rfl ?_
          refine v_goto dK_leastMajority_61 ?_
          exact v_kw (ih _ _ _ hm) (wk_s (wk_s (wk_s (wk_s (wk_s (wk_s wk_e))))))
        · replace hm := ie hc hm
          refine v_ild_2 dK_leastMajority_50 ?_
          refine v_ild_4 dK_leastMajority_51 ?_
          refine v_iadd dK_leastMajority_53 ?_
          refine v_top hm (fun x3 hm => ?_)
          refine v_ist_2 dK_leastMajority_54 (by decide) rfl ?_
          refine v_inc_3 1 dK_leastMajority_55 rfl (by decide) rfl ?_
          refine v_inc_5 1 dK_leastMajority_58 rfl (by decide) rfl ?_
          refine v_goto dK_leastMajority_61 ?_
          exact v_kw (ih _ _ _ hm) (wk_s (wk_s (wk_s (wk_s (wk_s (wk_s wk_e))))))
      · replace hm := ie hc hm
        refine v_inc_5 1 dK_leastMajority_58 rfl (by decide) rfl ?_
        refine v_goto dK_leastMajority_61 ?_
        exact v_kw (ih _ _ _ hm) (wk_s (wk_s (wk_s (wk_s (wk_s (wk_s wk_e))))))
theorem wK_leastMajority_L13 (G : GG) (d : Nat) (a0 : Nat) (p1 : Int32) (h0 : PH) (q0 : shL[a0]? = some (6, 4)) (r : Int32) : ∀ (n : Nat) (v2 : Int32) (v3 : Int32) (v4 : Int32), mK_leastMajority_L13 a0 p1 h0 n v2 v3 v4 = some r → Vx G tK_leastMajority (d + 2) 13 [some (.ref (gB G + a0)), some (.int p1), some (.int v2), some (.int v3), some (.int v4), none] [] h0 (some (.int r)) h0 := by
  intro n
  induction n with
  | zero => intro v2 v3 v4 hm; cases hm
  | succ n ih =>
    intro v2 v3 v4 hm
    unfold mK_leastMajority_L13 at hm
    refine v_ild_4 dK_leastMajority_13 ?_
    refine v_iconst (x := 1) dK_leastMajority_15 rfl ?_
    refine v_cmp_lt dK_leastMajority_16 (fun hc => ?_) (fun hc => ?_)
    · replace hm := it hc hm
      refine v_ild_3 dK_leastMajority_70 ?_
      cases hm
      exact v_iret dK_leastMajority_71 rfl
    · replace hm := ie hc hm
      refine v_iconst (x := 0) dK_leastMajority_19 rfl ?_
      refine v_ist_5 dK_leastMajority_20 (by decide) rfl ?_
      refine v_kw (wK_leastMajority_L22 G d _ _ _ _ q0 _ _ (fun x4 x5 hm => ?_) FU _ _ _ hm) (wk_s (wk_s (wk_s (wk_s (wk_s (wk_s wk_e))))))
      refine v_inc_4 (-1) dK_leastMajority_64 rfl (by decide) rfl ?_
      refine v_goto dK_leastMajority_67 ?_
      exact v_kw (ih _ _ _ hm) (wk_s (wk_s (wk_s (wk_s (wk_s (wk_n wk_e))))))
theorem ctK_leastMajority (G : GG) (d : Nat) (a0 : Nat) (q0 : shL[a0]? = some (6, 4)) (h0 : PH) (r : Int32) (hm : mK_leastMajority a0 h0 = some r) : Kx G tK_leastMajority (d + 2) [.ref (gB G + a0)] h0 (some (.int r)) h0 := by
  refine K_of_V (by decide) (by simp [cat_i, cat_r, fmtV_cat]) (by simp [tK_leastMajority]) ?_
  change Vx G tK_leastMajority (d + 2) 0 [some (.ref (gB G + a0)), none, none, none, none, none] [] h0 (some (.int r)) h0
  unfold mK_leastMajority at hm
  refine v_ald_0 dK_leastMajority_0 ?_
  obtain ⟨r1, he, hm⟩ := bd_s hm
  refine v_cs1i (M' := tK_weightOf) dK_leastMajority_1 mlK_80 okK_weightOf (Nat.le_of_ble_eq_true rfl) (ctK_weightOf G d _ q0 _ _ he) ?_
  refine v_ist_1 dK_leastMajority_4 (by decide) rfl ?_
  refine v_iconst (x := 0) dK_leastMajority_5 rfl ?_
  refine v_ist_2 dK_leastMajority_6 (by decide) rfl ?_
  refine v_iconst (x := 0) dK_leastMajority_7 rfl ?_
  refine v_ist_3 dK_leastMajority_8 (by decide) rfl ?_
  refine v_bipush (x := 9) dK_leastMajority_9 rfl ?_
  refine v_ist_4 dK_leastMajority_11 (by decide) rfl ?_
  exact v_kw (wK_leastMajority_L13 G d _ _ _ q0 _ FU _ _ _ hm) (wk_s (wk_s (wk_s (wk_s (wk_s (wk_n wk_e))))))
def mW_gather (a1 : Nat) (p2 : Int32) (p3 : Int32) (h0 : PH) : Option (PH) :=
  bd (mB_read a1 p2 p3 h0) fun r1 =>
  ck 0 12 <|
  lt (up h0 35 (ix 0) r1) fun h2 =>
  bd (mB_sumOf a1 p2 h2) fun r3 =>
  ck 1 12 <|
  lt (up h2 35 (ix 1) r3) fun h4 =>
  bd (mB_read a1 p2 4 h4) fun r5 =>
  ck 2 12 <|
  lt (up h4 35 (ix 2) r5) fun h6 =>
  bd (mB_read a1 p2 5 h6) fun r7 =>
  ck 3 12 <|
  lt (up h6 35 (ix 3) r7) fun h8 =>
  bd (mB_read a1 p2 6 h8) fun r9 =>
  ck 4 12 <|
  lt (up h8 35 (ix 4) r9) fun h10 =>
  bd (mB_read a1 p2 8 h10) fun r11 =>
  ck 5 12 <|
  lt (up h10 35 (ix 5) r11) fun h12 =>
  bd (mB_read a1 p2 7 h12) fun r13 =>
  ck 6 12 <|
  lt (up h12 35 (ix 6) r13) fun h14 =>
  bd (mB_read a1 p2 9 h14) fun r15 =>
  ck 7 12 <|
  lt (up h14 35 (ix 7) r15) fun h16 =>
  bd (mB_read a1 p2 10 h16) fun r17 =>
  ck 8 12 <|
  lt (up h16 35 (ix 8) r17) fun h18 =>
  ck 9 12 <|
  lt (up h18 35 (ix 9) (h18 a1 2)) fun h19 =>
  ck 10 12 <|
  lt (up h19 35 (ix 10) (h19 a1 3)) fun h20 =>
  ck 11 12 <|
  lt (up h20 35 (ix 11) (h20 a1 6)) fun h21 =>
  some h21
theorem ctW_gather (G : GG) (d : Nat) (a1 : Nat) (p2 : Int32) (p3 : Int32) (q1 : shL[a1]? = some (1, 8)) (h0 : PH) (r : PH) (hm : mW_gather a1 p2 p3 h0 = some r) : Kx G tW_gather (d + 1) [.ref (gB G + 34), .ref (gB G + a1), .int p2, .int p3] h0 none r := by
  refine K_of_V (by decide) (by simp [cat_i, cat_r, fmtV_cat]) (by simp [tW_gather]) ?_
  change Vx G tW_gather (d + 1) 0 [some (.ref (gB G + 34)), some (.ref (gB G + a1)), some (.int p2), some (.int p3)] [] h0 none r
  unfold mW_gather at hm
  refine v_ald_0 dW_gather_0 ?_
  refine v_getR dW_gather_1 fuW_11 sh_34 rf_34_2 ?_
  refine v_iconst (x := 0) dW_gather_4 rfl ?_
  refine v_ald_1 dW_gather_5 ?_
  refine v_ild_2 dW_gather_6 ?_
  refine v_ild_3 dW_gather_7 ?_
  obtain ⟨r1, he, hm⟩ := bd_s hm
  refine v_cv2i (M' := tB_read) dW_gather_8 mlW_52 okB_read q1 hc_1 (Nat.le_of_ble_eq_true rfl) (ctB_read G d _ _ _ q1 _ _ he) ?_
  obtain ⟨hi, hm⟩ := ck_s hm
  refine v_iastl dW_gather_11 sh_35 hi hm (fun h2 hm => ?_)
  refine v_ald_0 dW_gather_12 ?_
  refine v_getR dW_gather_13 fuW_11 sh_34 rf_34_2 ?_
  refine v_iconst (x := 1) dW_gather_16 rfl ?_
  refine v_ald_1 dW_gather_17 ?_
  refine v_ild_2 dW_gather_18 ?_
  obtain ⟨r3, he, hm⟩ := bd_s hm
  refine v_cv1i (M' := tB_sumOf) dW_gather_19 mlW_57 okB_sumOf q1 hc_1 (Nat.le_of_ble_eq_true rfl) (ctB_sumOf G d _ _ q1 _ _ he) ?_
  obtain ⟨hi, hm⟩ := ck_s hm
  refine v_iastl dW_gather_22 sh_35 hi hm (fun h4 hm => ?_)
  refine v_ald_0 dW_gather_23 ?_
  refine v_getR dW_gather_24 fuW_11 sh_34 rf_34_2 ?_
  refine v_iconst (x := 2) dW_gather_27 rfl ?_
  refine v_ald_1 dW_gather_28 ?_
  refine v_ild_2 dW_gather_29 ?_
  refine v_iconst (x := 4) dW_gather_30 rfl ?_
  obtain ⟨r5, he, hm⟩ := bd_s hm
  refine v_cv2i (M' := tB_read) dW_gather_31 mlW_52 okB_read q1 hc_1 (Nat.le_of_ble_eq_true rfl) (ctB_read G d _ _ _ q1 _ _ he) ?_
  obtain ⟨hi, hm⟩ := ck_s hm
  refine v_iastl dW_gather_34 sh_35 hi hm (fun h6 hm => ?_)
  refine v_ald_0 dW_gather_35 ?_
  refine v_getR dW_gather_36 fuW_11 sh_34 rf_34_2 ?_
  refine v_iconst (x := 3) dW_gather_39 rfl ?_
  refine v_ald_1 dW_gather_40 ?_
  refine v_ild_2 dW_gather_41 ?_
  refine v_iconst (x := 5) dW_gather_42 rfl ?_
  obtain ⟨r7, he, hm⟩ := bd_s hm
  refine v_cv2i (M' := tB_read) dW_gather_43 mlW_52 okB_read q1 hc_1 (Nat.le_of_ble_eq_true rfl) (ctB_read G d _ _ _ q1 _ _ he) ?_
  obtain ⟨hi, hm⟩ := ck_s hm
  refine v_iastl dW_gather_46 sh_35 hi hm (fun h8 hm => ?_)
  refine v_ald_0 dW_gather_47 ?_
  refine v_getR dW_gather_48 fuW_11 sh_34 rf_34_2 ?_
  refine v_iconst (x := 4) dW_gather_51 rfl ?_
  refine v_ald_1 dW_gather_52 ?_
  refine v_ild_2 dW_gather_53 ?_
  refine v_bipush (x := 6) dW_gather_54 rfl ?_
  obtain ⟨r9, he, hm⟩ := bd_s hm
  refine v_cv2i (M' := tB_read) dW_gather_56 mlW_52 okB_read q1 hc_1 (Nat.le_of_ble_eq_true rfl) (ctB_read G d _ _ _ q1 _ _ he) ?_
  obtain ⟨hi, hm⟩ := ck_s hm
  refine v_iastl dW_gather_59 sh_35 hi hm (fun h10 hm => ?_)
  refine v_ald_0 dW_gather_60 ?_
  refine v_getR dW_gather_61 fuW_11 sh_34 rf_34_2 ?_
  refine v_iconst (x := 5) dW_gather_64 rfl ?_
  refine v_ald_1 dW_gather_65 ?_
  refine v_ild_2 dW_gather_66 ?_
  refine v_bipush (x := 8) dW_gather_67 rfl ?_
  obtain ⟨r11, he, hm⟩ := bd_s hm
  refine v_cv2i (M' := tB_read) dW_gather_69 mlW_52 okB_read q1 hc_1 (Nat.le_of_ble_eq_true rfl) (ctB_read G d _ _ _ q1 _ _ he) ?_
  obtain ⟨hi, hm⟩ := ck_s hm
  refine v_iastl dW_gather_72 sh_35 hi hm (fun h12 hm => ?_)
  refine v_ald_0 dW_gather_73 ?_
  refine v_getR dW_gather_74 fuW_11 sh_34 rf_34_2 ?_
  refine v_bipush (x := 6) dW_gather_77 rfl ?_
  refine v_ald_1 dW_gather_79 ?_
  refine v_ild_2 dW_gather_80 ?_
  refine v_bipush (x := 7) dW_gather_81 rfl ?_
  obtain ⟨r13, he, hm⟩ := bd_s hm
  refine v_cv2i (M' := tB_read) dW_gather_83 mlW_52 okB_read q1 hc_1 (Nat.le_of_ble_eq_true rfl) (ctB_read G d _ _ _ q1 _ _ he) ?_
  obtain ⟨hi, hm⟩ := ck_s hm
  refine v_iastl dW_gather_86 sh_35 hi hm (fun h14 hm => ?_)
  refine v_ald_0 dW_gather_87 ?_
  refine v_getR dW_gather_88 fuW_11 sh_34 rf_34_2 ?_
  refine v_bipush (x := 7) dW_gather_91 rfl ?_
  refine v_ald_1 dW_gather_93 ?_
  refine v_ild_2 dW_gather_94 ?_
  refine v_bipush (x := 9) dW_gather_95 rfl ?_
  obtain ⟨r15, he, hm⟩ := bd_s hm
  refine v_cv2i (M' := tB_read) dW_gather_97 mlW_52 okB_read q1 hc_1 (Nat.le_of_ble_eq_true rfl) (ctB_read G d _ _ _ q1 _ _ he) ?_
  obtain ⟨hi, hm⟩ := ck_s hm
  refine v_iastl dW_gather_100 sh_35 hi hm (fun h16 hm => ?_)
  refine v_ald_0 dW_gather_101 ?_
  refine v_getR dW_gather_102 fuW_11 sh_34 rf_34_2 ?_
  refine v_bipush (x := 8) dW_gather_105 rfl ?_
  refine v_ald_1 dW_gather_107 ?_
  refine v_ild_2 dW_gather_108 ?_
  refine v_bipush (x := 10) dW_gather_109 rfl ?_
  obtain ⟨r17, he, hm⟩ := bd_s hm
  refine v_cv2i (M' := tB_read) dW_gather_111 mlW_52 okB_read q1 hc_1 (Nat.le_of_ble_eq_true rfl) (ctB_read G d _ _ _ q1 _ _ he) ?_
  obtain ⟨hi, hm⟩ := ck_s hm
  refine v_iastl dW_gather_114 sh_35 hi hm (fun h18 hm => ?_)
  refine v_ald_0 dW_gather_115 ?_
  refine v_getR dW_gather_116 fuW_11 sh_34 rf_34_2 ?_
  refine v_bipush (x := 9) dW_gather_119 rfl ?_
  refine v_ald_1 dW_gather_121 ?_
  refine v_getI dW_gather_122 fuW_61 q1 (rf_bor_2 q1) ?_
  obtain ⟨hi, hm⟩ := ck_s hm
  refine v_iastl dW_gather_125 sh_35 hi hm (fun h19 hm => ?_)
  refine v_ald_0 dW_gather_126 ?_
  refine v_getR dW_gather_127 fuW_11 sh_34 rf_34_2 ?_
  refine v_bipush (x := 10) dW_gather_130 rfl ?_
  refine v_ald_1 dW_gather_132 ?_
  refine v_getI dW_gather_133 fuW_64 q1 (rf_bor_3 q1) ?_
  obtain ⟨hi, hm⟩ := ck_s hm
  refine v_iastl dW_gather_136 sh_35 hi hm (fun h20 hm => ?_)
  refine v_ald_0 dW_gather_137 ?_
  refine v_getR dW_gather_138 fuW_11 sh_34 rf_34_2 ?_
  refine v_bipush (x := 11) dW_gather_141 rfl ?_
  refine v_ald_1 dW_gather_143 ?_
  refine v_getI dW_gather_144 fuW_67 q1 (rf_bor_6 q1) ?_
  obtain ⟨hi, hm⟩ := ck_s hm
  refine v_iastl dW_gather_147 sh_35 hi hm (fun h21 hm => ?_)
  cases hm
  exact v_ret dW_gather_148 rfl
def mW_joined (p0 : Int32) (p1 : Int32) (p2 : Int32) (h0 : PH) : Option (Int32) :=
  if p0 = 2 then
    some (p1 + p2)
  else
    if p0 = 3 then
      some (p1 - p2)
    else
      if p0 = 4 then
        some (p1 * p2)
      else
        if p0 = 5 then
          some (p1 ||| p2)
        else
          if p0 = 6 then
            if p2 ≤ p1 then
              some 0
            else
              some 1
          else
            if p0 = 7 then
              if p1 = p2 then
                some 1
              else
                some 0
            else
              if p0 = 8 then
                if p1 ≤ p2 then
                  some 0
                else
                  some 1
              else
                if p0 = 9 then
                  some (p1 ||| p2)
                else
                  if p0 = 10 then
                    some (p1 &&& p2)
                  else
                    some (p1 ||| p2)
theorem ctW_joined (G : GG) (d : Nat) (p0 : Int32) (p1 : Int32) (p2 : Int32) (h0 : PH) (r : Int32) (hm : mW_joined p0 p1 p2 h0 = some r) : Kx G tW_joined d [.int p0, .int p1, .int p2] h0 (some (.int r)) h0 := by
  refine K_of_V (by decide) (by simp [cat_i, cat_r, fmtV_cat]) (by simp [tW_joined]) ?_
  change Vx G tW_joined d 0 [some (.int p0), some (.int p1), some (.int p2)] [] h0 (some (.int r)) h0
  unfold mW_joined at hm
  refine v_ild_0 dW_joined_0 ?_
  refine v_sw dW_joined_1 ?_
  refine v_selc (fun hc => ?_) (fun hc => ?_)
  · replace hm := it hc hm
    refine v_ild_1 dW_joined_52 ?_
    refine v_ild_2 dW_joined_53 ?_
    refine v_iadd dW_joined_54 ?_
    cases hm
    exact v_iret dW_joined_55 rfl
  · replace hm := ie hc hm
    refine v_selc (fun hc => ?_) (fun hc => ?_)
    · replace hm := it hc hm
      refine v_ild_1 dW_joined_56 ?_
      refine v_ild_2 dW_joined_57 ?_
      refine v_isub dW_joined_58 ?_
      cases hm
      exact v_iret dW_joined_59 rfl
    · replace hm := ie hc hm
      refine v_selc (fun hc => ?_) (fun hc => ?_)
      · replace hm := it hc hm
        refine v_ild_1 dW_joined_60 ?_
        refine v_ild_2 dW_joined_61 ?_
        refine v_imul dW_joined_62 ?_
        cases hm
        exact v_iret dW_joined_63 rfl
      · replace hm := ie hc hm
        refine v_selc (fun hc => ?_) (fun hc => ?_)
        · replace hm := it hc hm
          refine v_ild_1 dW_joined_101 ?_
          refine v_ild_2 dW_joined_102 ?_
          refine v_ior dW_joined_103 ?_
          cases hm
          exact v_iret dW_joined_104 rfl
        · replace hm := ie hc hm
          refine v_selc (fun hc => ?_) (fun hc => ?_)
          · replace hm := it hc hm
            refine v_ild_1 dW_joined_64 ?_
            refine v_ild_2 dW_joined_65 ?_
            refine v_cmp_ge dW_joined_66 (fun hc => ?_) (fun hc => ?_)
            · replace hm := it hc hm
              refine v_iconst (x := 0) dW_joined_73 rfl ?_
              cases hm
              exact v_iret dW_joined_74 rfl
            · replace hm := ie hc hm
              refine v_iconst (x := 1) dW_joined_69 rfl ?_
              refine v_goto dW_joined_70 ?_
              cases hm
              exact v_iret dW_joined_74 rfl
          · replace hm := ie hc hm
            refine v_selc (fun hc => ?_) (fun hc => ?_)
            · replace hm := it hc hm
              refine v_ild_1 dW_joined_75 ?_
              refine v_ild_2 dW_joined_76 ?_
              refine v_cmp_ne dW_joined_77 (fun hc => ?_) (fun hc => ?_)
              · replace hm := it hc hm
                refine v_iconst (x := 1) dW_joined_80 rfl ?_
                refine v_goto dW_joined_81 ?_
                cases hm
                exact v_iret dW_joined_85 rfl
              · replace hm := ie hc hm
                refine v_iconst (x := 0) dW_joined_84 rfl ?_
                cases hm
                exact v_iret dW_joined_85 rfl
            · replace hm := ie hc hm
              refine v_selc (fun hc => ?_) (fun hc => ?_)
              · replace hm := it hc hm
                refine v_ild_1 dW_joined_86 ?_
                refine v_ild_2 dW_joined_87 ?_
                refine v_cmp_le dW_joined_88 (fun hc => ?_) (fun hc => ?_)
                · replace hm := it hc hm
                  refine v_iconst (x := 0) dW_joined_95 rfl ?_
                  cases hm
                  exact v_iret dW_joined_96 rfl
                · replace hm := ie hc hm
                  refine v_iconst (x := 1) dW_joined_91 rfl ?_
                  refine v_goto dW_joined_92 ?_
                  cases hm
                  exact v_iret dW_joined_96 rfl
              · replace hm := ie hc hm
                refine v_selc (fun hc => ?_) (fun hc => ?_)
                · replace hm := it hc hm
                  refine v_ild_1 dW_joined_101 ?_
                  refine v_ild_2 dW_joined_102 ?_
                  refine v_ior dW_joined_103 ?_
                  cases hm
                  exact v_iret dW_joined_104 rfl
                · replace hm := ie hc hm
                  refine v_selc (fun hc => ?_) (fun hc => ?_)
                  · replace hm := it hc hm
                    refine v_ild_1 dW_joined_97 ?_
                    refine v_ild_2 dW_joined_98 ?_
                    refine v_iand dW_joined_99 ?_
                    cases hm
                    exact v_iret dW_joined_100 rfl
                  · replace hm := ie hc hm
                    refine v_seln ?_
                    refine v_ild_1 dW_joined_101 ?_
                    refine v_ild_2 dW_joined_102 ?_
                    refine v_ior dW_joined_103 ?_
                    cases hm
                    exact v_iret dW_joined_104 rfl
def mW_step (p1 : Int32) (p2 : Int32) (h0 : PH) : Option (PH) :=
  jn0 (if 64 ≤ (h0 34 4) then
      some h0
    else
      jn1 (fun (x3 : Int32) =>
        jn1 (fun (x5 : Int32) =>
          ck (h0 34 4) 64 <|
          lt (up h0 36 (ix (h0 34 4)) x5) fun h6 =>
          lt (up h6 34 4 ((h6 34 4) + 1)) fun h7 =>
          some h7) fun j4 =>
        if x3 = 0 then
          j4 p2
        else
          ck p2 12 <|
          j4 (h0 35 (ix p2))) fun j2 =>
      if p1 = 1 then
        if p2 < 0 then
          j2 0
        else
          if 12 ≤ p2 then
            j2 0
          else
            j2 1
      else
        j2 0) fun j1 =>
  if p1 = 0 then
    j1
  else
    if p1 = 1 then
      j1
    else
      if p1 = 5 then
        if (h0 34 4) ≤ 0 then
          some h0
        else
          if p2 = 0 then
            some h0
          else
            ck ((h0 34 4) - 1) 64 <|
            dz p2 <|
            ck ((h0 34 4) - 1) 64 <|
            lt (up h0 36 (ix ((h0 34 4) - 1)) ((h0 36 (ix ((h0 34 4) - 1))) / p2)) fun h8 =>
            some h8
      else
        if p1 = 9 then
          if (h0 34 4) ≤ 0 then
            some h0
          else
            ck ((h0 34 4) - 1) 64 <|
            jn1 (fun (x10 : Int32) =>
              ck ((h0 34 4) - 1) 64 <|
              lt (up h0 36 (ix ((h0 34 4) - 1)) x10) fun h11 =>
              some h11) fun j9 =>
            if (h0 36 (ix ((h0 34 4) - 1))) = 0 then
              j9 1
            else
              j9 0
        else
          if (h0 34 4) ≤ 1 then
            some h0
          else
            lt (up h0 34 4 ((h0 34 4) - 1)) fun h12 =>
            ck ((h12 34 4) - 1) 64 <|
            ck (h12 34 4) 64 <|
            bd (mW_joined p1 (h12 36 (ix ((h12 34 4) - 1))) (h12 36 (ix (h12 34 4))) h12) fun r13 =>
            ck ((h12 34 4) - 1) 64 <|
            lt (up h12 36 (ix ((h12 34 4) - 1)) r13) fun h14 =>
            some h14
theorem ctW_step (G : GG) (d : Nat) (p1 : Int32) (p2 : Int32) (h0 : PH) (r : PH) (hm : mW_step p1 p2 h0 = some r) : Kx G tW_step (d + 1) [.ref (gB G + 34), .int p1, .int p2] h0 none r := by
  refine K_of_V (by decide) (by simp [cat_i, cat_r, fmtV_cat]) (by simp [tW_step]) ?_
  change Vx G tW_step (d + 1) 0 [some (.ref (gB G + 34)), some (.int p1), some (.int p2), none] [] h0 none r
  unfold mW_step at hm
  refine v_ild_1 dW_step_0 ?_
  refine v_j0 (Vx G tW_step (d + 1) 9 [some (.ref (gB G + 34)), some (.int p1), some (.int p2), none] [] h0 none r) hm (fun hm => ?_) (fun j1 kj1 hm => ?_)
  · refine v_ald_0 dW_step_9 ?_
    refine v_getI dW_step_10 fuW_78 sh_34 rf_34_4 ?_
    refine v_bipush (x := 64) dW_step_13 rfl ?_
    refine v_cmp_ge dW_step_15 (fun hc => ?_) (fun hc => ?_)
    · replace hm := it hc hm
      cases hm
      exact v_ret dW_step_208 rfl
    · replace hm := ie hc hm
      refine v_ild_1 dW_step_18 ?_
      refine v_iconst (x := 1) dW_step_19 rfl ?_
      refine v_j1 (fun (x3 : Int32) => Vx G tW_step (d + 1) 38 [some (.ref (gB G + 34)), none, some (.int p2), none] [.int x3] h0 none r) hm (fun x3 hm => ?_) (fun j2 kj2 hm => ?_)
      · refine v_ist_3 dW_step_38 (by decide) rfl ?_
        refine v_ald_0 dW_step_39 ?_
        refine v_getR dW_step_40 fuW_15 sh_34 rf_34_3 ?_
        refine v_ald_0 dW_step_43 ?_
        refine v_getI dW_step_44 fuW_78 sh_34 rf_34_4 ?_
        refine v_ild_3 dW_step_47 ?_
        refine v_j1 (fun (x5 : Int32) => Vx G tW_step (d + 1) 61 [some (.ref (gB G + 34)), none, none, none] [.int x5, .int (h0 34 4), .ref (gB G + 36)] h0 none r) hm (fun x5 hm => ?_) (fun j4 kj4 hm => ?_)
        · obtain ⟨hi, hm⟩ := ck_s hm
          refine v_iastl dW_step_61 sh_36 hi hm (fun h6 hm => ?_)
          refine v_ald_0 dW_step_62 ?_
          refine v_dup dW_step_63 rfl ?_
          refine v_getI dW_step_64 fuW_78 sh_34 rf_34_4 ?_
          refine v_iconst (x := 1) dW_step_67 rfl ?_
          refine v_iadd dW_step_68 ?_
          refine v_putIl dW_step_69 fuW_78 ft_3_4 sh_34 rf_34_4 hm (fun h7 hm => ?_)
          refine v_goto dW_step_72 ?_
          cases hm
          exact v_ret dW_step_208 rfl
        · refine v_if_eq dW_step_48 (fun hc => ?_) (fun hc => ?_)
          · replace hm := it hc hm
            refine v_ild_2 dW_step_60 ?_
            exact v_kw (kj4 _ hm) (wk_s (wk_n (wk_n (wk_n wk_e))))
          · replace hm := ie hc hm
            refine v_ald_0 dW_step_51 ?_
            refine v_getR dW_step_52 fuW_11 sh_34 rf_34_2 ?_
            refine v_ild_2 dW_step_55 ?_
            obtain ⟨hi, hm⟩ := ck_s hm
            refine v_iald dW_step_56 sh_35 hi ?_
            refine v_goto dW_step_57 ?_
            exact v_kw (kj4 _ hm) (wk_s (wk_n (wk_n (wk_n wk_e))))
      · refine v_cmp_ne dW_step_20 (fun hc => ?_) (fun hc => ?_)
        · replace hm := it hc hm
          refine v_ild_2 dW_step_23 ?_
          refine v_if_lt dW_step_24 (fun hc => ?_) (fun hc => ?_)
          · replace hm := it hc hm
            refine v_iconst (x := 0) dW_step_37 rfl ?_
            exact v_kw (kj2 _ hm) (wk_s (wk_n (wk_s (wk_n wk_e))))
          · replace hm := ie hc hm
            refine v_ild_2 dW_step_27 ?_
            refine v_bipush (x := 12) dW_step_28 rfl ?_
            refine v_cmp_ge dW_step_30 (fun hc => ?_) (fun hc => ?_)
            · replace hm := it hc hm
              refine v_iconst (x := 0) dW_step_37 rfl ?_
              exact v_kw (kj2 _ hm) (wk_s (wk_n (wk_s (wk_n wk_e))))
            · replace hm := ie hc hm
              refine v_iconst (x := 1) dW_step_33 rfl ?_
              refine v_goto dW_step_34 ?_
              exact v_kw (kj2 _ hm) (wk_s (wk_n (wk_s (wk_n wk_e))))
        · replace hm := ie hc hm
          refine v_iconst (x := 0) dW_step_37 rfl ?_
          exact v_kw (kj2 _ hm) (wk_s (wk_n (wk_s (wk_n wk_e))))
  · refine v_if_eq dW_step_1 (fun hc => ?_) (fun hc => ?_)
    · replace hm := it hc hm
      exact v_kw (kj1 hm) (wk_s (wk_s (wk_s (wk_n wk_e))))
    · replace hm := ie hc hm
      refine v_ild_1 dW_step_4 ?_
      refine v_iconst (x := 1) dW_step_5 rfl ?_
      refine v_cmp_ne dW_step_6 (fun hc => ?_) (fun hc => ?_)
      · replace hm := it hc hm
        exact v_kw (kj1 hm) (wk_s (wk_s (wk_s (wk_n wk_e))))
      · replace hm := ie hc hm
        refine v_ild_1 dW_step_75 ?_
        refine v_iconst (x := 5) dW_step_76 rfl ?_
        refine v_cmp_ne dW_step_77 (fun hc => ?_) (fun hc => ?_)
        · replace hm := it hc hm
          refine v_ald_0 dW_step_80 ?_
          refine v_getI dW_step_81 fuW_78 sh_34 rf_34_4 ?_
          refine v_if_le dW_step_84 (fun hc => ?_) (fun hc => ?_)
          · replace hm := it hc hm
            cases hm
            exact v_ret dW_step_208 rfl
          · replace hm := ie hc hm
            refine v_ild_2 dW_step_87 ?_
            refine v_if_eq dW_step_88 (fun hc => ?_) (fun hc => ?_)
            · replace hm := it hc hm
              cases hm
              exact v_ret dW_step_208 rfl
            · replace hm := ie hc hm
              refine v_ald_0 dW_step_91 ?_
              refine v_getR dW_step_92 fuW_15 sh_34 rf_34_3 ?_
              refine v_ald_0 dW_step_95 ?_
              refine v_getI dW_step_96 fuW_78 sh_34 rf_34_4 ?_
              refine v_iconst (x := 1) dW_step_99 rfl ?_
              refine v_isub dW_step_100 ?_
              refine v_dup2 dW_step_101 rfl rfl ?_
              obtain ⟨hi, hm⟩ := ck_s hm
              refine v_iald dW_step_102 sh_36 hi ?_
              refine v_ild_2 dW_step_103 ?_
              obtain ⟨hz, hm⟩ := dz_s hm
              refine v_idiv dW_step_104 hz ?_
              obtain ⟨hi, hm⟩ := ck_s hm
              refine v_iastl dW_step_105 sh_36 hi hm (fun h8 hm => ?_)
              refine v_goto dW_step_106 ?_
              cases hm
              exact v_ret dW_step_208 rfl
        · replace hm := ie hc hm
          refine v_ild_1 dW_step_109 ?_
          refine v_bipush (x := 9) dW_step_110 rfl ?_
          refine v_cmp_ne dW_step_112 (fun hc => ?_) (fun hc => ?_)
          · replace hm := it hc hm
            refine v_ald_0 dW_step_115 ?_
            refine v_getI dW_step_116 fuW_78 sh_34 rf_34_4 ?_
            refine v_if_le dW_step_119 (fun hc => ?_) (fun hc => ?_)
            · replace hm := it hc hm
              cases hm
              exact v_ret dW_step_208 rfl
            · replace hm := ie hc hm
              refine v_ald_0 dW_step_122 ?_
              refine v_getR dW_step_123 fuW_15 sh_34 rf_34_3 ?_
              refine v_ald_0 dW_step_126 ?_
              refine v_getI dW_step_127 fuW_78 sh_34 rf_34_4 ?_
              refine v_iconst (x := 1) dW_step_130 rfl ?_
              refine v_isub dW_step_131 ?_
              refine v_ald_0 dW_step_132 ?_
              refine v_getR dW_step_133 fuW_15 sh_34 rf_34_3 ?_
              refine v_ald_0 dW_step_136 ?_
              refine v_getI dW_step_137 fuW_78 sh_34 rf_34_4 ?_
              refine v_iconst (x := 1) dW_step_140 rfl ?_
              refine v_isub dW_step_141 ?_
              obtain ⟨hi, hm⟩ := ck_s hm
              refine v_iald dW_step_142 sh_36 hi ?_
              refine v_j1 (fun (x10 : Int32) => Vx G tW_step (d + 1) 151 [none, none, none, none] [.int x10, .int ((h0 34 4) - 1), .ref (gB G + 36)] h0 none r) hm (fun x10 hm => ?_) (fun j9 kj9 hm => ?_)
              · obtain ⟨hi, hm⟩ := ck_s hm
                refine v_iastl dW_step_151 sh_36 hi hm (fun h11 hm => ?_)
                refine v_goto dW_step_152 ?_
                cases hm
                exact v_ret dW_step_208 rfl
              · refine v_if_ne dW_step_143 (fun hc => ?_) (fun hc => ?_)
                · replace hm := it hc hm
                  refine v_iconst (x := 1) dW_step_146 rfl ?_
                  refine v_goto dW_step_147 ?_
                  exact v_kw (kj9 _ hm) (wk_n (wk_n (wk_n (wk_n wk_e))))
                · replace hm := ie hc hm
                  refine v_iconst (x := 0) dW_step_150 rfl ?_
                  exact v_kw (kj9 _ hm) (wk_n (wk_n (wk_n (wk_n wk_e))))
          · replace hm := ie hc hm
            refine v_ald_0 dW_step_155 ?_
            refine v_getI dW_step_156 fuW_78 sh_34 rf_34_4 ?_
            refine v_iconst (x := 1) dW_step_159 rfl ?_
            refine v_cmp_le dW_step_160 (fun hc => ?_) (fun hc => ?_)
            · replace hm := it hc hm
              cases hm
              exact v_ret dW_step_208 rfl
            · replace hm := ie hc hm
              refine v_ald_0 dW_step_163 ?_
              refine v_dup dW_step_164 rfl ?_
              refine v_getI dW_step_165 fuW_78 sh_34 rf_34_4 ?_
              refine v_iconst (x := 1) dW_step_168 rfl ?_
              refine v_isub dW_step_169 ?_
              refine v_putIl dW_step_170 fuW_78 ft_3_4 sh_34 rf_34_4 hm (fun h12 hm => ?_)
              refine v_ald_0 dW_step_173 ?_
              refine v_getR dW_step_174 fuW_15 sh_34 rf_34_3 ?_
              refine v_ald_0 dW_step_177 ?_
              refine v_getI dW_step_178 fuW_78 sh_34 rf_34_4 ?_
              refine v_iconst (x := 1) dW_step_181 rfl ?_
              refine v_isub dW_step_182 ?_
              refine v_ild_1 dW_step_183 ?_
              refine v_ald_0 dW_step_184 ?_
              refine v_getR dW_step_185 fuW_15 sh_34 rf_34_3 ?_
              refine v_ald_0 dW_step_188 ?_
              refine v_getI dW_step_189 fuW_78 sh_34 rf_34_4 ?_
              refine v_iconst (x := 1) dW_step_192 rfl ?_
              refine v_isub dW_step_193 ?_
              obtain ⟨hi, hm⟩ := ck_s hm
              refine v_iald dW_step_194 sh_36 hi ?_
              refine v_ald_0 dW_step_195 ?_
              refine v_getR dW_step_196 fuW_15 sh_34 rf_34_3 ?_
              refine v_ald_0 dW_step_199 ?_
              refine v_getI dW_step_200 fuW_78 sh_34 rf_34_4 ?_
              obtain ⟨hi, hm⟩ := ck_s hm
              refine v_iald dW_step_203 sh_36 hi ?_
              obtain ⟨r13, he, hm⟩ := bd_s hm
              refine v_cs3i (M' := tW_joined) dW_step_204 mlW_85 okW_joined (Nat.le_of_ble_eq_true rfl) (ctW_joined G d _ _ _ _ _ he) ?_
              obtain ⟨hi, hm⟩ := ck_s hm
              refine v_iastl dW_step_207 sh_36 hi hm (fun h14 hm => ?_)
              cases hm
              exact v_ret dW_step_208 rfl
def mW_run_L7 (p2 : Int32) (k0 : PH → Option (Int32 × PH)) : Nat → Int32 → PH → Option (Int32 × PH)
  | 0, _, _ => none
  | n + 1, v3, hv =>
    if p2 ≤ v3 then
      k0 hv
    else
      bd (mR_at 8 v3 0 hv) fun r2 =>
      bd (mR_at 8 v3 1 hv) fun r3 =>
      bd (mW_step r2 r3 hv) fun h4 =>
      mW_run_L7 p2 k0 n (v3 + 1) h4
def mW_run (p1 : Int32) (p2 : Int32) (h0 : PH) : Option (Int32 × PH) :=
  lt (up h0 34 4 0) fun h1 =>
  mW_run_L7 p2 (fun (h5 : PH) =>
    if (h5 34 4) ≤ 0 then
      some (0, h5)
    else
      ck 0 64 <|
      some (h5 36 (ix 0), h5)) FU p1 h1
theorem wW_run_L7 (G : GG) (d : Nat) (p2 : Int32) (k0 : PH → Option (Int32 × PH)) (r : Int32 × PH) (kk0 : ∀ (hy : PH), k0 hy = some r → Vx G tW_run (d + 2) 40 [some (.ref (gB G + 34)), none, none, none] [] hy (some (.int r.1)) r.2) : ∀ (n : Nat) (v3 : Int32) (hv : PH), mW_run_L7 p2 k0 n v3 hv = some r → Vx G tW_run (d + 2) 7 [some (.ref (gB G + 34)), none, some (.int p2), some (.int v3)] [] hv (some (.int r.1)) r.2 := by
  intro n
  induction n with
  | zero => intro v3 hv hm; cases hm
  | succ n ih =>
    intro v3 hv hm
    unfold mW_run_L7 at hm
    refine v_ild_3 dW_run_7 ?_
    refine v_ild_2 dW_run_8 ?_
    refine v_cmp_ge dW_run_9 (fun hc => ?_) (fun hc => ?_)
    · replace hm := it hc hm
      exact v_kw (kk0 _ hm) (wk_s (wk_n (wk_n (wk_n wk_e))))
    · replace hm := ie hc hm
      refine v_ald_0 dW_run_12 ?_
      refine v_ald_0 dW_run_13 ?_
      refine v_getR dW_run_14 fuW_22 sh_34 rf_34_1 ?_
      refine v_ild_3 dW_run_17 ?_
      refine v_iconst (x := 0) dW_run_18 rfl ?_
      obtain ⟨r2, he, hm⟩ := bd_s hm
      refine v_cv2i (M' := tR_at) dW_run_19 mlW_30 okR_at sh_8 hc_6 (Nat.le_of_ble_eq_true rfl) (ctR_at G (d + 1) _ _ _ sh_8 _ _ he) ?_
      refine v_ald_0 dW_run_22 ?_
      refine v_getR dW_run_23 fuW_22 sh_34 rf_34_1 ?_
      refine v_ild_3 dW_run_26 ?_
      refine v_iconst (x := 1) dW_run_27 rfl ?_
      obtain ⟨r3, he, hm⟩ := bd_s hm
      refine v_cv2i (M' := tR_at) dW_run_28 mlW_30 okR_at sh_8 hc_6 (Nat.le_of_ble_eq_true rfl) (ctR_at G (d + 1) _ _ _ sh_8 _ _ he) ?_
      obtain ⟨h4, he, hm⟩ := bd_s hm
      refine v_cv2v (M' := tW_step) dW_run_31 mlW_81 okW_step sh_34 hc_3 (Nat.le_of_ble_eq_true rfl) (ctW_step G d _ _ _ _ he) ?_
      refine v_inc_3 1 dW_run_34 rfl (by decide) rfl ?_
      refine v_goto dW_run_37 ?_
      exact v_kw (ih _ _ hm) (wk_s (wk_n (wk_s (wk_s wk_e))))
theorem ctW_run (G : GG) (d : Nat) (p1 : Int32) (p2 : Int32) (h0 : PH) (r : Int32 × PH) (hm : mW_run p1 p2 h0 = some r) : Kx G tW_run (d + 2) [.ref (gB G + 34), .int p1, .int p2] h0 (some (.int r.1)) r.2 := by
  refine K_of_V (by decide) (by simp [cat_i, cat_r, fmtV_cat]) (by simp [tW_run]) ?_
  change Vx G tW_run (d + 2) 0 [some (.ref (gB G + 34)), some (.int p1), some (.int p2), none] [] h0 (some (.int r.1)) r.2
  unfold mW_run at hm
  refine v_ald_0 dW_run_0 ?_
  refine v_iconst (x := 0) dW_run_1 rfl ?_
  refine v_putIl dW_run_2 fuW_78 ft_3_4 sh_34 rf_34_4 hm (fun h1 hm => ?_)
  refine v_ild_1 dW_run_5 ?_
  refine v_ist_3 dW_run_6 (by decide) rfl ?_
  refine v_kw (wW_run_L7 G d _ _ _ (fun h5 hm => ?_) FU _ _ hm) (wk_s (wk_n (wk_s (wk_s wk_e))))
  refine v_ald_0 dW_run_40 ?_
  refine v_getI dW_run_41 fuW_78 sh_34 rf_34_4 ?_
  refine v_if_le dW_run_44 (fun hc => ?_) (fun hc => ?_)
  · replace hm := it hc hm
    refine v_iconst (x := 0) dW_run_56 rfl ?_
    cases hm
    exact v_iret dW_run_57 rfl
  · replace hm := ie hc hm
    refine v_ald_0 dW_run_47 ?_
    refine v_getR dW_run_48 fuW_15 sh_34 rf_34_3 ?_
    refine v_iconst (x := 0) dW_run_51 rfl ?_
    obtain ⟨hi, hm⟩ := ck_s hm
    refine v_iald dW_run_52 sh_36 hi ?_
    refine v_goto dW_run_53 ?_
    cases hm
    exact v_iret dW_run_57 rfl
def mW_applies (p1 : Int32) (h0 : PH) : Option (Int32 × PH) :=
  bd (mR_at 6 p1 2 h0) fun r1 =>
  bd (mR_at 6 p1 3 h0) fun r2 =>
  if r2 ≤ r1 then
    some (1, h0)
  else
    bd2 (mW_run r1 r2 h0) fun r3 h4 =>
    if r3 = 0 then
      some (0, h4)
    else
      some (1, h4)
theorem ctW_applies (G : GG) (d : Nat) (p1 : Int32) (h0 : PH) (r : Int32 × PH) (hm : mW_applies p1 h0 = some r) : Kx G tW_applies (d + 3) [.ref (gB G + 34), .int p1] h0 (some (.int r.1)) r.2 := by
  refine K_of_V (by decide) (by simp [cat_i, cat_r, fmtV_cat]) (by simp [tW_applies]) ?_
  change Vx G tW_applies (d + 3) 0 [some (.ref (gB G + 34)), some (.int p1), none, none] [] h0 (some (.int r.1)) r.2
  unfold mW_applies at hm
  refine v_ald_0 dW_applies_0 ?_
  refine v_getR dW_applies_1 fuW_18 sh_34 rf_34_0 ?_
  refine v_ild_1 dW_applies_4 ?_
  refine v_iconst (x := 2) dW_applies_5 rfl ?_
  obtain ⟨r1, he, hm⟩ := bd_s hm
  refine v_cv2i (M' := tR_at) dW_applies_6 mlW_30 okR_at sh_6 hc_6 (Nat.le_of_ble_eq_true rfl) (ctR_at G (d + 2) _ _ _ sh_6 _ _ he) ?_
  refine v_ist_2 dW_applies_9 (by decide) rfl ?_
  refine v_ald_0 dW_applies_10 ?_
  refine v_getR dW_applies_11 fuW_18 sh_34 rf_34_0 ?_
  refine v_ild_1 dW_applies_14 ?_
  refine v_iconst (x := 3) dW_applies_15 rfl ?_
  obtain ⟨r2, he, hm⟩ := bd_s hm
  refine v_cv2i (M' := tR_at) dW_applies_16 mlW_30 okR_at sh_6 hc_6 (Nat.le_of_ble_eq_true rfl) (ctR_at G (d + 2) _ _ _ sh_6 _ _ he) ?_
  refine v_ist_3 dW_applies_19 (by decide) rfl ?_
  refine v_ild_2 dW_applies_20 ?_
  refine v_ild_3 dW_applies_21 ?_
  refine v_cmp_ge dW_applies_22 (fun hc => ?_) (fun hc => ?_)
  · replace hm := it hc hm
    refine v_iconst (x := 1) dW_applies_34 rfl ?_
    refine v_goto dW_applies_35 ?_
    cases hm
    exact v_zret1 dW_applies_39 rfl
  · replace hm := ie hc hm
    refine v_ald_0 dW_applies_25 ?_
    refine v_ild_2 dW_applies_26 ?_
    refine v_ild_3 dW_applies_27 ?_
    obtain ⟨r3, h4, he, hm⟩ := bd2_s hm
    refine v_cv2i (M' := tW_run) dW_applies_28 mlW_42 okW_run sh_34 hc_3 (Nat.le_of_ble_eq_true rfl) (ctW_run G d _ _ _ _ he) ?_
    refine v_if_eq dW_applies_31 (fun hc => ?_) (fun hc => ?_)
    · replace hm := it hc hm
      refine v_iconst (x := 0) dW_applies_38 rfl ?_
      cases hm
      exact v_zret0 dW_applies_39 rfl
    · replace hm := ie hc hm
      refine v_iconst (x := 1) dW_applies_34 rfl ?_
      refine v_goto dW_applies_35 ?_
      cases hm
      exact v_zret1 dW_applies_39 rfl
def mW_held (p0 : Int32) (p1 : Int32) (h0 : PH) : Option (Int32) :=
  some (imax 0 (imin p1 p0))
theorem ctW_held (G : GG) (d : Nat) (p0 : Int32) (p1 : Int32) (h0 : PH) (r : Int32) (hm : mW_held p0 p1 h0 = some r) : Kx G tW_held (d + 1) [.int p0, .int p1] h0 (some (.int r)) h0 := by
  refine K_of_V (by decide) (by simp [cat_i, cat_r, fmtV_cat]) (by simp [tW_held]) ?_
  change Vx G tW_held (d + 1) 0 [some (.int p0), some (.int p1)] [] h0 (some (.int r)) h0
  unfold mW_held at hm
  refine v_iconst (x := 0) dW_held_0 rfl ?_
  refine v_ild_1 dW_held_1 ?_
  refine v_ild_0 dW_held_2 ?_
  refine v_mmin dW_held_3 mlW_70 (Nat.le_of_ble_eq_true rfl) ?_
  refine v_mmax dW_held_6 mlW_75 (Nat.le_of_ble_eq_true rfl) ?_
  cases hm
  exact v_iret dW_held_9 rfl
def mW_customary (a0 : Nat) (p1 : Int32) (p2 : Int32) (h0 : PH) : Option (Int32) :=
  if p2 = 0 then
    bd (mB_read a0 p1 7 h0) fun r1 =>
    some (4 + (2 * r1))
  else
    if p2 = 1 then
      bd (mB_read a0 p1 6 h0) fun r2 =>
      some (300 - (30 * r2))
    else
      bd (mB_read a0 p1 6 h0) fun r3 =>
      some ((h0 a0 2) - r3)
theorem ctW_customary (G : GG) (d : Nat) (a0 : Nat) (p1 : Int32) (p2 : Int32) (q0 : shL[a0]? = some (1, 8)) (h0 : PH) (r : Int32) (hm : mW_customary a0 p1 p2 h0 = some r) : Kx G tW_customary (d + 1) [.ref (gB G + a0), .int p1, .int p2] h0 (some (.int r)) h0 := by
  refine K_of_V (by decide) (by simp [cat_i, cat_r, fmtV_cat]) (by simp [tW_customary]) ?_
  change Vx G tW_customary (d + 1) 0 [some (.ref (gB G + a0)), some (.int p1), some (.int p2)] [] h0 (some (.int r)) h0
  unfold mW_customary at hm
  refine v_ild_2 dW_customary_0 ?_
  refine v_sw dW_customary_1 ?_
  refine v_selc (fun hc => ?_) (fun hc => ?_)
  · replace hm := it hc hm
    refine v_iconst (x := 4) dW_customary_28 rfl ?_
    refine v_iconst (x := 2) dW_customary_29 rfl ?_
    refine v_ald_0 dW_customary_30 ?_
    refine v_ild_1 dW_customary_31 ?_
    refine v_bipush (x := 7) dW_customary_32 rfl ?_
    obtain ⟨r1, he, hm⟩ := bd_s hm
    refine v_cv2i (M' := tB_read) dW_customary_34 mlW_52 okB_read q0 hc_1 (Nat.le_of_ble_eq_true rfl) (ctB_read G d _ _ _ q0 _ _ he) ?_
    refine v_imul dW_customary_37 ?_
    refine v_iadd dW_customary_38 ?_
    cases hm
    exact v_iret dW_customary_39 rfl
  · replace hm := ie hc hm
    refine v_selc (fun hc => ?_) (fun hc => ?_)
    · replace hm := it hc hm
      refine v_sipush (x := 300) dW_customary_40 rfl ?_
      refine v_bipush (x := 30) dW_customary_43 rfl ?_
      refine v_ald_0 dW_customary_45 ?_
      refine v_ild_1 dW_customary_46 ?_
      refine v_bipush (x := 6) dW_customary_47 rfl ?_
      obtain ⟨r2, he, hm⟩ := bd_s hm
      refine v_cv2i (M' := tB_read) dW_customary_49 mlW_52 okB_read q0 hc_1 (Nat.le_of_ble_eq_true rfl) (ctB_read G d _ _ _ q0 _ _ he) ?_
      refine v_imul dW_customary_52 ?_
      refine v_isub dW_customary_53 ?_
      cases hm
      exact v_iret dW_customary_54 rfl
    · replace hm := ie hc hm
      refine v_seln ?_
      refine v_ald_0 dW_customary_55 ?_
      refine v_getI dW_customary_56 fuW_61 q0 (rf_bor_2 q0) ?_
      refine v_ald_0 dW_customary_59 ?_
      refine v_ild_1 dW_customary_60 ?_
      refine v_bipush (x := 6) dW_customary_61 rfl ?_
      obtain ⟨r3, he, hm⟩ := bd_s hm
      refine v_cv2i (M' := tB_read) dW_customary_63 mlW_52 okB_read q0 hc_1 (Nat.le_of_ble_eq_true rfl) (ctB_read G d _ _ _ q0 _ _ he) ?_
      refine v_isub dW_customary_66 ?_
      cases hm
      exact v_iret dW_customary_67 rfl
def mW_tells_L22 (a1 : Nat) (p2 : Int32) (p3 : Int32) (p4 : Int32) (p5 : Int32) (k0 : Int32 → PH → Option (Int32 × PH)) (k1 : PH → Option (Int32 × PH)) : Nat → Int32 → Int32 → PH → Option (Int32 × PH)
  | 0, _, _, _ => none
  | n + 1, v6, v7, hv =>
    if (hv 6 3) ≤ v7 then
      k1 hv
    else
      bd (mR_at 6 v7 0 hv) fun r3 =>
      if r3 = p4 then
        jn2 (fun (x5 : Int32) (h6 : PH) =>
          bd2 (mW_applies v7 h6) fun r7 h8 =>
          if r7 = 0 then
            mW_tells_L22 a1 p2 p3 p4 p5 k0 k1 n x5 (v7 + 1) h8
          else
            k0 v7 h8) fun j4 =>
        if v6 = 0 then
          bd (mW_gather a1 p2 p3 hv) fun h9 =>
          j4 1 h9
        else
          j4 v6 hv
      else
        mW_tells_L22 a1 p2 p3 p4 p5 k0 k1 n v6 (v7 + 1) hv
def mW_tells (a1 : Nat) (p2 : Int32) (p3 : Int32) (p4 : Int32) (h0 : PH) : Option (Int32 × PH) :=
  jn1 (fun (x2 : Int32) =>
    mW_tells_L22 a1 p2 p3 p4 x2 (fun (x10 : Int32) (h11 : PH) =>
      bd (mR_at 6 x10 1 h11) fun r12 =>
      bd (mR_at 6 x10 2 h11) fun r13 =>
      bd2 (mW_run r12 r13 h11) fun r14 h15 =>
      bd (mW_held r14 x2 h15) fun r16 =>
      some (r16, h15)) (fun (h17 : PH) =>
      bd (mW_customary a1 p2 p4 h17) fun r18 =>
      bd (mW_held r18 x2 h17) fun r19 =>
      some (r19, h17)) FU 0 0 h0) fun j1 =>
  if p4 = 1 then
    j1 1000
  else
    j1 99
theorem wW_tells_L22 (G : GG) (d : Nat) (a1 : Nat) (p2 : Int32) (p3 : Int32) (p4 : Int32) (p5 : Int32) (q1 : shL[a1]? = some (1, 8)) (k0 : Int32 → PH → Option (Int32 × PH)) (k1 : PH → Option (Int32 × PH)) (r : Int32 × PH) (kk0 : ∀ (y7 : Int32) (hy : PH), k0 y7 hy = some r → Vx G tW_tells (d + 4) 76 [some (.ref (gB G + 34)), none, none, none, none, some (.int p5), none, some (.int y7)] [] hy (some (.int r.1)) r.2) (kk1 : ∀ (hy : PH), k1 hy = some r → Vx G tW_tells (d + 4) 112 [none, some (.ref (gB G + a1)), some (.int p2), none, some (.int p4), some (.int p5), none, none] [] hy (some (.int r.1)) r.2) : ∀ (n : Nat) (v6 : Int32) (v7 : Int32) (hv : PH), mW_tells_L22 a1 p2 p3 p4 p5 k0 k1 n v6 v7 hv = some r → Vx G tW_tells (d + 4) 22 [some (.ref (gB G + 34)), some (.ref (gB G + a1)), some (.int p2), some (.int p3), some (.int p4), some (.int p5), some (.int v6), some (.int v7)] [] hv (some (.int r.1)) r.2 := by
  intro n
  induction n with
  | zero => intro v6 v7 hv hm; cases hm
  | succ n ih =>
    intro v6 v7 hv hm
    unfold mW_tells_L22 at hm
    refine v_ild_7 dW_tells_22 ?_
    refine v_ald_0 dW_tells_24 ?_
    refine v_getR dW_tells_25 fuW_18 sh_34 rf_34_0 ?_
    refine v_getI dW_tells_28 fuW_25 sh_6 rf_6_3 ?_
    refine v_cmp_ge dW_tells_31 (fun hc => ?_) (fun hc => ?_)
    · replace hm := it hc hm
      exact v_kw (kk1 _ hm) (wk_n (wk_s (wk_s (wk_n (wk_s (wk_s (wk_n (wk_n wk_e))))))))
    · replace hm := ie hc hm
      refine v_ald_0 dW_tells_34 ?_
      refine v_getR dW_tells_35 fuW_18 sh_34 rf_34_0 ?_
      refine v_ild_7 dW_tells_38 ?_
      refine v_iconst (x := 0) dW_tells_40 rfl ?_
      obtain ⟨r3, he, hm⟩ := bd_s hm
      refine v_cv2i (M' := tR_at) dW_tells_41 mlW_30 okR_at sh_6 hc_6 (Nat.le_of_ble_eq_true rfl) (ctR_at G (d + 3) _ _ _ sh_6 _ _ he) ?_
      refine v_ild_4 dW_tells_44 ?_
      refine v_cmp_eq dW_tells_46 (fun hc => ?_) (fun hc => ?_)
      · replace hm := it hc hm
        refine v_ild_6 dW_tells_52 ?_
        refine v_j2 (fun (x5 : Int32) (h6 : PH) => Vx G tW_tells (d + 4) 67 [some (.ref (gB G + 34)), some (.ref (gB G + a1)), some (.int p2), some (.int p3), some (.int p4), some (.int p5), some (.int x5), some (.int v7)] [] h6 (some (.int r.1)) r.2) hm (fun x5 h6 hm => ?_) (fun j4 kj4 hm => ?_)
        · refine v_ald_0 dW_tells_67 ?_
          refine v_ild_7 dW_tells_68 ?_
          obtain ⟨r7, h8, he, hm⟩ := bd2_s hm
          refine v_cv1i (M' := tW_applies) dW_tells_70 mlW_38 okW_applies sh_34 hc_3 (Nat.le_of_ble_eq_true rfl) (ctW_applies G d _ _ _ he) ?_
          refine v_if_eq dW_tells_73 (fun hc => ?_) (fun hc => ?_)
          · replace hm := it hc hm
            refine v_inc_7 1 dW_tells_106 rfl (by decide) rfl ?_
            refine v_goto dW_tells_109 ?_
            exact v_kw (ih _ _ _ hm) (wk_s (wk_s (wk_s (wk_s (wk_s (wk_s (wk_s (wk_s wk_e))))))))
          · replace hm := ie hc hm
            exact v_kw (kk0 _ _ hm) (wk_s (wk_n (wk_n (wk_n (wk_n (wk_s (wk_n (wk_s wk_e))))))))
        · refine v_if_ne dW_tells_54 (fun hc => ?_) (fun hc => ?_)
          · replace hm := it hc hm
            refine v_ald_0 dW_tells_57 ?_
            refine v_ald_1 dW_tells_58 ?_
            refine v_ild_2 dW_tells_59 ?_
            refine v_ild_3 dW_tells_60 ?_
            obtain ⟨h9, he, hm⟩ := bd_s hm
            refine v_cv3v (M' := tW_gather) dW_tells_61 mlW_34 okW_gather sh_34 hc_3 (Nat.le_of_ble_eq_true rfl) (ctW_gather G (d + 2) _ _ _ q1 _ _ he) ?_
            refine v_iconst (x := 1) dW_tells_64 rfl ?_
            refine v_ist_6 dW_tells_65 (by decide) rfl ?_
            exact v_kw (kj4 _ _ hm) (wk_s (wk_s (wk_s (wk_s (wk_s (wk_s (wk_s (wk_s wk_e))))))))
          · replace hm := ie hc hm
            exact v_kw (kj4 _ _ hm) (wk_s (wk_s (wk_s (wk_s (wk_s (wk_s (wk_s (wk_s wk_e))))))))
      · replace hm := ie hc hm
        refine v_goto dW_tells_49 ?_
        refine v_inc_7 1 dW_tells_106 rfl (by decide) rfl ?_
        refine v_goto dW_tells_109 ?_
        exact v_kw (ih _ _ _ hm) (wk_s (wk_s (wk_s (wk_s (wk_s (wk_s (wk_s (wk_s wk_e))))))))
theorem ctW_tells (G : GG) (d : Nat) (a1 : Nat) (p2 : Int32) (p3 : Int32) (p4 : Int32) (q1 : shL[a1]? = some (1, 8)) (h0 : PH) (r : Int32 × PH) (hm : mW_tells a1 p2 p3 p4 h0 = some r) : Kx G tW_tells (d + 4) [.ref (gB G + 34), .ref (gB G + a1), .int p2, .int p3, .int p4] h0 (some (.int r.1)) r.2 := by
  refine K_of_V (by decide) (by simp [cat_i, cat_r, fmtV_cat]) (by simp [tW_tells]) ?_
  change Vx G tW_tells (d + 4) 0 [some (.ref (gB G + 34)), some (.ref (gB G + a1)), some (.int p2), some (.int p3), some (.int p4), none, none, none] [] h0 (some (.int r.1)) r.2
  unfold mW_tells at hm
  refine v_ild_4 dW_tells_0 ?_
  refine v_iconst (x := 1) dW_tells_2 rfl ?_
  refine v_j1 (fun (x2 : Int32) => Vx G tW_tells (d + 4) 14 [some (.ref (gB G + 34)), some (.ref (gB G + a1)), some (.int p2), some (.int p3), some (.int p4), none, none, none] [.int x2] h0 (some (.int r.1)) r.2) hm (fun x2 hm => ?_) (fun j1 kj1 hm => ?_)
  · refine v_ist_5 dW_tells_14 (by decide) rfl ?_
    refine v_iconst (x := 0) dW_tells_16 rfl ?_
    refine v_ist_6 dW_tells_17 (by decide) rfl ?_
    refine v_iconst (x := 0) dW_tells_19 rfl ?_
    refine v_ist_7 dW_tells_20 (by decide) rfl ?_
    refine v_kw (wW_tells_L22 G d _ _ _ _ _ q1 _ _ _ (fun x10 h11 hm => ?_) (fun h17 hm => ?_) FU _ _ _ hm) (wk_s (wk_s (wk_s (wk_s (wk_s (wk_s (wk_s (wk_s wk_e))))))))
    · refine v_ald_0 dW_tells_76 ?_
      refine v_ald_0 dW_tells_77 ?_
      refine v_getR dW_tells_78 fuW_18 sh_34 rf_34_0 ?_
      refine v_ild_7 dW_tells_81 ?_
      refine v_iconst (x := 1) dW_tells_83 rfl ?_
      obtain ⟨r12, he, hm⟩ := bd_s hm
      refine v_cv2i (M' := tR_at) dW_tells_84 mlW_30 okR_at sh_6 hc_6 (Nat.le_of_ble_eq_true rfl) (ctR_at G (d + 3) _ _ _ sh_6 _ _ he) ?_
      refine v_ald_0 dW_tells_87 ?_
      refine v_getR dW_tells_88 fuW_18 sh_34 rf_34_0 ?_
      refine v_ild_7 dW_tells_91 ?_
      refine v_iconst (x := 2) dW_tells_93 rfl ?_
      obtain ⟨r13, he, hm⟩ := bd_s hm
      refine v_cv2i (M' := tR_at) dW_tells_94 mlW_30 okR_at sh_6 hc_6 (Nat.le_of_ble_eq_true rfl) (ctR_at G (d + 3) _ _ _ sh_6 _ _ he) ?_
      obtain ⟨r14, h15, he, hm⟩ := bd2_s hm
      refine v_cv2i (M' := tW_run) dW_tells_97 mlW_42 okW_run sh_34 hc_3 (Nat.le_of_ble_eq_true rfl) (ctW_run G (d + 1) _ _ _ _ he) ?_
      refine v_ild_5 dW_tells_100 ?_
      obtain ⟨r16, he, hm⟩ := bd_s hm
      refine v_cs2i (M' := tW_held) dW_tells_102 mlW_45 okW_held (Nat.le_of_ble_eq_true rfl) (ctW_held G (d + 2) _ _ _ _ he) ?_
      cases hm
      exact v_iret dW_tells_105 rfl
    · refine v_ald_1 dW_tells_112 ?_
      refine v_ild_2 dW_tells_113 ?_
      refine v_ild_4 dW_tells_114 ?_
      obtain ⟨r18, he, hm⟩ := bd_s hm
      refine v_cs3i (M' := tW_customary) dW_tells_116 mlW_48 okW_customary (Nat.le_of_ble_eq_true rfl) (ctW_customary G (d + 2) _ _ _ q1 _ _ he) ?_
      refine v_ild_5 dW_tells_119 ?_
      obtain ⟨r19, he, hm⟩ := bd_s hm
      refine v_cs2i (M' := tW_held) dW_tells_121 mlW_45 okW_held (Nat.le_of_ble_eq_true rfl) (ctW_held G (d + 2) _ _ _ _ he) ?_
      cases hm
      exact v_iret dW_tells_124 rfl
  · refine v_cmp_ne dW_tells_3 (fun hc => ?_) (fun hc => ?_)
    · replace hm := it hc hm
      refine v_sipush (x := 1000) dW_tells_6 rfl ?_
      refine v_goto dW_tells_9 ?_
      exact v_kw (kj1 _ hm) (wk_s (wk_s (wk_s (wk_s (wk_s (wk_n (wk_n (wk_n wk_e))))))))
    · replace hm := ie hc hm
      refine v_bipush (x := 99) dW_tells_12 rfl ?_
      exact v_kw (kj1 _ hm) (wk_s (wk_s (wk_s (wk_s (wk_s (wk_n (wk_n (wk_n wk_e))))))))
def mP_keep (a1 : Nat) (p2 : Int32) (h0 : PH) : Option (PH) :=
  dz 6 <|
  lt (irm ((h0 70 2) + (h0 70 3)) 6) fun x1 =>
  ck x1 6 <|
  bd (mB_copyFrom (73 + 2 * ix x1) a1 h0) fun h3 =>
  ck x1 6 <|
  lt (up h3 72 (ix x1) p2) fun h4 =>
  if 6 ≤ (h4 70 3) then
    dz 6 <|
    lt (up h4 70 2 (irm ((h4 70 2) + 1) 6)) fun h5 =>
    some h5
  else
    lt (up h4 70 3 ((h4 70 3) + 1)) fun h6 =>
    some h6
theorem ctP_keep (G : GG) (d : Nat) (a1 : Nat) (p2 : Int32) (q1 : shL[a1]? = some (1, 8)) (h0 : PH) (r : PH) (hm : mP_keep a1 p2 h0 = some r) : Kx G tP_keep (d + 1) [.ref (gB G + 70), .ref (gB G + a1), .int p2] h0 none r := by
  refine K_of_V (by decide) (by simp [cat_i, cat_r, fmtV_cat]) (by simp [tP_keep]) ?_
  change Vx G tP_keep (d + 1) 0 [some (.ref (gB G + 70)), some (.ref (gB G + a1)), some (.int p2), none] [] h0 none r
  unfold mP_keep at hm
  refine v_ald_0 dP_keep_0 ?_
  refine v_getI dP_keep_1 fuP_20 sh_70 rf_70_2 ?_
  refine v_ald_0 dP_keep_4 ?_
  refine v_getI dP_keep_5 fuP_24 sh_70 rf_70_3 ?_
  refine v_iadd dP_keep_8 ?_
  refine v_bipush (x := 6) dP_keep_9 rfl ?_
  obtain ⟨hz, hm⟩ := dz_s hm
  refine v_irem dP_keep_11 hz ?_
  refine v_top hm (fun x1 hm => ?_)
  refine v_ist_3 dP_keep_12 (by decide) rfl ?_
  refine v_ald_0 dP_keep_13 ?_
  refine v_getR dP_keep_14 fuP_11 sh_70 rf_70_0 ?_
  refine v_ild_3 dP_keep_17 ?_
  obtain ⟨hi, hm⟩ := ck_s hm
  have u2 := kept_all (ix x1) (Nat.not_le.mp fun q => hi (Or.inr q))
  refine v_aald dP_keep_18 sh_71 hi u2.1 ?_
  refine v_ald_1 dP_keep_19 ?_
  obtain ⟨h3, he, hm⟩ := bd_s hm
  refine v_cv1v (M' := tB_copyFrom) dP_keep_20 mlP_27 okB_copyFrom u2.2 hc_1 (Nat.le_of_ble_eq_true rfl) (ctB_copyFrom G d _ _ u2.2 q1 _ _ he) ?_
  refine v_ald_0 dP_keep_23 ?_
  refine v_getR dP_keep_24 fuP_15 sh_70 rf_70_1 ?_
  refine v_ild_3 dP_keep_27 ?_
  refine v_ild_2 dP_keep_28 ?_
  obtain ⟨hi, hm⟩ := ck_s hm
  refine v_iastl dP_keep_29 sh_72 hi hm (fun h4 hm => ?_)
  refine v_ald_0 dP_keep_30 ?_
  refine v_getI dP_keep_31 fuP_24 sh_70 rf_70_3 ?_
  refine v_bipush (x := 6) dP_keep_34 rfl ?_
  refine v_cmp_ge dP_keep_36 (fun hc => ?_) (fun hc => ?_)
  · replace hm := it hc hm
    refine v_ald_0 dP_keep_52 ?_
    refine v_ald_0 dP_keep_53 ?_
    refine v_getI dP_keep_54 fuP_20 sh_70 rf_70_2 ?_
    refine v_iconst (x := 1) dP_keep_57 rfl ?_
    refine v_iadd dP_keep_58 ?_
    refine v_bipush (x := 6) dP_keep_59 rfl ?_
    obtain ⟨hz, hm⟩ := dz_s hm
    refine v_irem dP_keep_61 hz ?_
    refine v_putIl dP_keep_62 fuP_20 ft_4_2 sh_70 rf_70_2 hm (fun h5 hm => ?_)
    cases hm
    exact v_ret dP_keep_65 rfl
  · replace hm := ie hc hm
    refine v_ald_0 dP_keep_39 ?_
    refine v_dup dP_keep_40 rfl ?_
    refine v_getI dP_keep_41 fuP_24 sh_70 rf_70_3 ?_
    refine v_iconst (x := 1) dP_keep_44 rfl ?_
    refine v_iadd dP_keep_45 ?_
    refine v_putIl dP_keep_46 fuP_24 ft_4_3 sh_70 rf_70_3 hm (fun h6 hm => ?_)
    refine v_goto dP_keep_49 ?_
    cases hm
    exact v_ret dP_keep_65 rfl
def mP_goBack (a1 : Nat) (h0 : PH) : Option (Int32 × PH) :=
  lt (up h0 70 3 (imax 0 ((h0 70 3) - 1))) fun h1 =>
  dz 6 <|
  lt (irm ((h1 70 2) + (h1 70 3)) 6) fun x2 =>
  ck x2 6 <|
  bd (mB_copyFrom a1 (73 + 2 * ix x2) h1) fun h4 =>
  ck x2 6 <|
  some (h4 72 (ix x2), h4)
theorem ctP_goBack (G : GG) (d : Nat) (a1 : Nat) (q1 : shL[a1]? = some (1, 8)) (h0 : PH) (r : Int32 × PH) (hm : mP_goBack a1 h0 = some r) : Kx G tP_goBack (d + 1) [.ref (gB G + 70), .ref (gB G + a1)] h0 (some (.int r.1)) r.2 := by
  refine K_of_V (by decide) (by simp [cat_i, cat_r, fmtV_cat]) (by simp [tP_goBack]) ?_
  change Vx G tP_goBack (d + 1) 0 [some (.ref (gB G + 70)), some (.ref (gB G + a1)), none] [] h0 (some (.int r.1)) r.2
  unfold mP_goBack at hm
  refine v_ald_0 dP_goBack_0 ?_
  refine v_iconst (x := 0) dP_goBack_1 rfl ?_
  refine v_ald_0 dP_goBack_2 ?_
  refine v_getI dP_goBack_3 fuP_24 sh_70 rf_70_3 ?_
  refine v_iconst (x := 1) dP_goBack_6 rfl ?_
  refine v_isub dP_goBack_7 ?_
  refine v_mmax dP_goBack_8 mlP_31 (Nat.le_of_ble_eq_true rfl) ?_
  refine v_putIl dP_goBack_11 fuP_24 ft_4_3 sh_70 rf_70_3 hm (fun h1 hm => ?_)
  refine v_ald_0 dP_goBack_14 ?_
  refine v_getI dP_goBack_15 fuP_20 sh_70 rf_70_2 ?_
  refine v_ald_0 dP_goBack_18 ?_
  refine v_getI dP_goBack_19 fuP_24 sh_70 rf_70_3 ?_
  refine v_iadd dP_goBack_22 ?_
  refine v_bipush (x := 6) dP_goBack_23 rfl ?_
  obtain ⟨hz, hm⟩ := dz_s hm
  refine v_irem dP_goBack_25 hz ?_
  refine v_top hm (fun x2 hm => ?_)
  refine v_ist_2 dP_goBack_26 (by decide) rfl ?_
  refine v_ald_1 dP_goBack_27 ?_
  refine v_ald_0 dP_goBack_28 ?_
  refine v_getR dP_goBack_29 fuP_11 sh_70 rf_70_0 ?_
  refine v_ild_2 dP_goBack_32 ?_
  obtain ⟨hi, hm⟩ := ck_s hm
  have u3 := kept_all (ix x2) (Nat.not_le.mp fun q => hi (Or.inr q))
  refine v_aald dP_goBack_33 sh_71 hi u3.1 ?_
  obtain ⟨h4, he, hm⟩ := bd_s hm
  refine v_cv1v (M' := tB_copyFrom) dP_goBack_34 mlP_27 okB_copyFrom q1 hc_1 (Nat.le_of_ble_eq_true rfl) (ctB_copyFrom G d _ _ q1 u3.2 _ _ he) ?_
  refine v_ald_0 dP_goBack_37 ?_
  refine v_getR dP_goBack_38 fuP_15 sh_70 rf_70_1 ?_
  refine v_ild_2 dP_goBack_41 ?_
  obtain ⟨hi, hm⟩ := ck_s hm
  refine v_iald dP_goBack_42 sh_72 hi ?_
  cases hm
  exact v_iret dP_goBack_43 rfl
def mP_forget (h0 : PH) : Option (PH) :=
  lt (up h0 70 3 0) fun h1 =>
  some h1
theorem ctP_forget (G : GG) (d : Nat) (h0 : PH) (r : PH) (hm : mP_forget h0 = some r) : Kx G tP_forget d [.ref (gB G + 70)] h0 none r := by
  refine K_of_V (by decide) (by simp [cat_i, cat_r, fmtV_cat]) (by simp [tP_forget]) ?_
  change Vx G tP_forget d 0 [some (.ref (gB G + 70))] [] h0 none r
  unfold mP_forget at hm
  refine v_ald_0 dP_forget_0 ?_
  refine v_iconst (x := 0) dP_forget_1 rfl ?_
  refine v_putIl dP_forget_2 fuP_24 ft_4_3 sh_70 rf_70_3 hm (fun h1 hm => ?_)
  cases hm
  exact v_ret dP_forget_5 rfl
def mO_nextTo_L4 (a0 : Nat) (p1 : Int32) (h0 : PH) : Nat → Int32 → Int32 → Option (Int32)
  | 0, _, _ => none
  | n + 1, v2, v3 =>
    if (h0 (a0 + 9) 3) ≤ v3 then
      some v2
    else
      bd (mR_at (a0 + 9) v3 0 h0) fun r1 =>
      bd (mR_at (a0 + 9) v3 1 h0) fun r2 =>
      jn1 (fun (x4 : Int32) =>
        if r2 = p1 then
          lt (x4 ||| (1 <<< (r1 &&& 31))) fun x5 =>
          mO_nextTo_L4 a0 p1 h0 n x5 (v3 + 1)
        else
          mO_nextTo_L4 a0 p1 h0 n x4 (v3 + 1)) fun j3 =>
      if r1 = p1 then
        lt (v2 ||| (1 <<< (r2 &&& 31))) fun x6 =>
        j3 x6
      else
        j3 v2
def mO_nextTo (a0 : Nat) (p1 : Int32) (h0 : PH) : Option (Int32) :=
  mO_nextTo_L4 a0 p1 h0 FU 0 0
theorem wO_nextTo_L4 (G : GG) (d : Nat) (a0 : Nat) (p1 : Int32) (h0 : PH) (q0 : shL[a0]? = some (11, 14)) (r : Int32) : ∀ (n : Nat) (v2 : Int32) (v3 : Int32), mO_nextTo_L4 a0 p1 h0 n v2 v3 = some r → Vx G tO_nextTo (d + 1) 4 [some (.ref (gB G + a0)), some (.int p1), some (.int v2), some (.int v3), none, none] [] h0 (some (.int r)) h0 := by
  intro n
  induction n with
  | zero => intro v2 v3 hm; cases hm
  | succ n ih =>
    intro v2 v3 hm
    unfold mO_nextTo_L4 at hm
    refine v_ild_3 dO_nextTo_4 ?_
    refine v_ald_0 dO_nextTo_5 ?_
    refine v_getR dO_nextTo_6 fuO_29 q0 (rf_told_4 q0) ?_
    refine v_getI dO_nextTo_9 fuO_61 (sh_told_4 q0) (rf_rows_3 (sh_told_4 q0)) ?_
    refine v_cmp_ge dO_nextTo_12 (fun hc => ?_) (fun hc => ?_)
    · replace hm := it hc hm
      refine v_ild_2 dO_nextTo_69 ?_
      cases hm
      exact v_iret dO_nextTo_70 rfl
    · replace hm := ie hc hm
      refine v_ald_0 dO_nextTo_15 ?_
      refine v_getR dO_nextTo_16 fuO_29 q0 (rf_told_4 q0) ?_
      refine v_ild_3 dO_nextTo_19 ?_
      refine v_iconst (x := 0) dO_nextTo_20 rfl ?_
      obtain ⟨r1, he, hm⟩ := bd_s hm
      refine v_cv2i (M' := tR_at) dO_nextTo_21 mlO_65 okR_at (sh_told_4 q0) hc_6 (Nat.le_of_ble_eq_true rfl) (ctR_at G d _ _ _ (sh_told_4 q0) _ _ he) ?_
      refine v_ist_4 dO_nextTo_24 (by decide) rfl ?_
      refine v_ald_0 dO_nextTo_26 ?_
      refine v_getR dO_nextTo_27 fuO_29 q0 (rf_told_4 q0) ?_
      refine v_ild_3 dO_nextTo_30 ?_
      refine v_iconst (x := 1) dO_nextTo_31 rfl ?_
      obtain ⟨r2, he, hm⟩ := bd_s hm
      refine v_cv2i (M' := tR_at) dO_nextTo_32 mlO_65 okR_at (sh_told_4 q0) hc_6 (Nat.le_of_ble_eq_true rfl) (ctR_at G d _ _ _ (sh_told_4 q0) _ _ he) ?_
      refine v_ist_5 dO_nextTo_35 (by decide) rfl ?_
      refine v_ild_4 dO_nextTo_37 ?_
      refine v_ild_1 dO_nextTo_39 ?_
      refine v_j1 (fun (x4 : Int32) => Vx G tO_nextTo (d + 1) 50 [some (.ref (gB G + a0)), some (.int p1), some (.int x4), some (.int v3), some (.int r1), some (.int r2)] [] h0 (some (.int r)) h0) hm (fun x4 hm => ?_) (fun j3 kj3 hm => ?_)
      · refine v_ild_5 dO_nextTo_50 ?_
        refine v_ild_1 dO_nextTo_52 ?_
        refine v_cmp_ne dO_nextTo_53 (fun hc => ?_) (fun hc => ?_)
        · replace hm := it hc hm
          refine v_ild_2 dO_nextTo_56 ?_
          refine v_iconst (x := 1) dO_nextTo_57 rfl ?_
          refine v_ild_4 dO_nextTo_58 ?_
          refine v_ishl dO_nextTo_60 ?_
          refine v_ior dO_nextTo_61 ?_
          refine v_top hm (fun x5 hm => ?_)
          refine v_ist_2 dO_nextTo_62 (by decide) rfl ?_
          refine v_inc_3 1 dO_nextTo_63 rfl (by decide) rfl ?_
          refine v_goto dO_nextTo_66 ?_
          exact v_kw (ih _ _ hm) (wk_s (wk_s (wk_s (wk_s (wk_n (wk_n wk_e))))))
        · replace hm := ie hc hm
          refine v_inc_3 1 dO_nextTo_63 rfl (by decide) rfl ?_
          refine v_goto dO_nextTo_66 ?_
          exact v_kw (ih _ _ hm) (wk_s (wk_s (wk_s (wk_s (wk_n (wk_n wk_e))))))
      · refine v_cmp_ne dO_nextTo_40 (fun hc => ?_) (fun hc => ?_)
        · replace hm := it hc hm
          refine v_ild_2 dO_nextTo_43 ?_
          refine v_iconst (x := 1) dO_nextTo_44 rfl ?_
          refine v_ild_5 dO_nextTo_45 ?_
          refine v_ishl dO_nextTo_47 ?_
          refine v_ior dO_nextTo_48 ?_
          refine v_top hm (fun x6 hm => ?_)
          refine v_ist_2 dO_nextTo_49 (by decide) rfl ?_
          exact v_kw (kj3 _ hm) (wk_s (wk_s (wk_s (wk_s (wk_s (wk_s wk_e))))))
        · replace hm := ie hc hm
          exact v_kw (kj3 _ hm) (wk_s (wk_s (wk_s (wk_s (wk_s (wk_s wk_e))))))
theorem ctO_nextTo (G : GG) (d : Nat) (a0 : Nat) (p1 : Int32) (q0 : shL[a0]? = some (11, 14)) (h0 : PH) (r : Int32) (hm : mO_nextTo a0 p1 h0 = some r) : Kx G tO_nextTo (d + 1) [.ref (gB G + a0), .int p1] h0 (some (.int r)) h0 := by
  refine K_of_V (by decide) (by simp [cat_i, cat_r, fmtV_cat]) (by simp [tO_nextTo]) ?_
  change Vx G tO_nextTo (d + 1) 0 [some (.ref (gB G + a0)), some (.int p1), none, none, none, none] [] h0 (some (.int r)) h0
  unfold mO_nextTo at hm
  refine v_iconst (x := 0) dO_nextTo_0 rfl ?_
  refine v_ist_2 dO_nextTo_1 (by decide) rfl ?_
  refine v_iconst (x := 0) dO_nextTo_2 rfl ?_
  refine v_ist_3 dO_nextTo_3 (by decide) rfl ?_
  exact v_kw (wO_nextTo_L4 G d _ _ _ q0 _ FU _ _ hm) (wk_s (wk_s (wk_s (wk_s (wk_n (wk_n wk_e))))))
def mO_copyFrom (a0 : Nat) (a1 : Nat) (h0 : PH) : Option (PH) :=
  bd (mR_copyFrom (a0 + 1) (a1 + 1) h0) fun h1 =>
  bd (mR_copyFrom (a0 + 3) (a1 + 3) h1) fun h2 =>
  bd (mR_copyFrom (a0 + 5) (a1 + 5) h2) fun h3 =>
  bd (mR_copyFrom (a0 + 7) (a1 + 7) h3) fun h4 =>
  bd (mR_copyFrom (a0 + 9) (a1 + 9) h4) fun h5 =>
  bd (mR_copyFrom (a0 + 11) (a1 + 11) h5) fun h6 =>
  bd (mR_copyFrom (a0 + 13) (a1 + 13) h6) fun h7 =>
  bd (mR_copyFrom (a0 + 15) (a1 + 15) h7) fun h8 =>
  bd (mR_copyFrom (a0 + 17) (a1 + 17) h8) fun h9 =>
  bd (mR_copyFrom (a0 + 19) (a1 + 19) h9) fun h10 =>
  bd (mR_copyFrom (a0 + 21) (a1 + 21) h10) fun h11 =>
  bd (mR_copyFrom (a0 + 23) (a1 + 23) h11) fun h12 =>
  bd (mR_copyFrom (a0 + 25) (a1 + 25) h12) fun h13 =>
  bd (mR_copyFrom (a0 + 27) (a1 + 27) h13) fun h14 =>
  some h14
theorem ctO_copyFrom (G : GG) (d : Nat) (a0 : Nat) (a1 : Nat) (q0 : shL[a0]? = some (11, 14)) (q1 : shL[a1]? = some (11, 14)) (h0 : PH) (r : PH) (hm : mO_copyFrom a0 a1 h0 = some r) : Kx G tO_copyFrom (d + 1) [.ref (gB G + a0), .ref (gB G + a1)] h0 none r := by
  refine K_of_V (by decide) (by simp [cat_i, cat_r, fmtV_cat]) (by simp [tO_copyFrom]) ?_
  change Vx G tO_copyFrom (d + 1) 0 [some (.ref (gB G + a0)), some (.ref (gB G + a1))] [] h0 none r
  unfold mO_copyFrom at hm
  refine v_ald_0 dO_copyFrom_0 ?_
  refine v_getR dO_copyFrom_1 fuO_14 q0 (rf_told_0 q0) ?_
  refine v_ald_1 dO_copyFrom_4 ?_
  refine v_getR dO_copyFrom_5 fuO_14 q1 (rf_told_0 q1) ?_
  obtain ⟨h1, he, hm⟩ := bd_s hm
  refine v_cv1v (M' := tR_copyFrom) dO_copyFrom_8 mlO_69 okR_copyFrom (sh_told_0 q0) hc_6 (Nat.le_of_ble_eq_true rfl) (ctR_copyFrom G d _ _ (sh_told_0 q0) (sh_told_0 q1) _ _ he) ?_
  refine v_ald_0 dO_copyFrom_11 ?_
  refine v_getR dO_copyFrom_12 fuO_20 q0 (rf_told_1 q0) ?_
  refine v_ald_1 dO_copyFrom_15 ?_
  refine v_getR dO_copyFrom_16 fuO_20 q1 (rf_told_1 q1) ?_
  obtain ⟨h2, he, hm⟩ := bd_s hm
  refine v_cv1v (M' := tR_copyFrom) dO_copyFrom_19 mlO_69 okR_copyFrom (sh_told_1 q0) hc_6 (Nat.le_of_ble_eq_true rfl) (ctR_copyFrom G d _ _ (sh_told_1 q0) (sh_told_1 q1) _ _ he) ?_
  refine v_ald_0 dO_copyFrom_22 ?_
  refine v_getR dO_copyFrom_23 fuO_23 q0 (rf_told_2 q0) ?_
  refine v_ald_1 dO_copyFrom_26 ?_
  refine v_getR dO_copyFrom_27 fuO_23 q1 (rf_told_2 q1) ?_
  obtain ⟨h3, he, hm⟩ := bd_s hm
  refine v_cv1v (M' := tR_copyFrom) dO_copyFrom_30 mlO_69 okR_copyFrom (sh_told_2 q0) hc_6 (Nat.le_of_ble_eq_true rfl) (ctR_copyFrom G d _ _ (sh_told_2 q0) (sh_told_2 q1) _ _ he) ?_
  refine v_ald_0 dO_copyFrom_33 ?_
  refine v_getR dO_copyFrom_34 fuO_26 q0 (rf_told_3 q0) ?_
  refine v_ald_1 dO_copyFrom_37 ?_
  refine v_getR dO_copyFrom_38 fuO_26 q1 (rf_told_3 q1) ?_
  obtain ⟨h4, he, hm⟩ := bd_s hm
  refine v_cv1v (M' := tR_copyFrom) dO_copyFrom_41 mlO_69 okR_copyFrom (sh_told_3 q0) hc_6 (Nat.le_of_ble_eq_true rfl) (ctR_copyFrom G d _ _ (sh_told_3 q0) (sh_told_3 q1) _ _ he) ?_
  refine v_ald_0 dO_copyFrom_44 ?_
  refine v_getR dO_copyFrom_45 fuO_29 q0 (rf_told_4 q0) ?_
  refine v_ald_1 dO_copyFrom_48 ?_
  refine v_getR dO_copyFrom_49 fuO_29 q1 (rf_told_4 q1) ?_
  obtain ⟨h5, he, hm⟩ := bd_s hm
  refine v_cv1v (M' := tR_copyFrom) dO_copyFrom_52 mlO_69 okR_copyFrom (sh_told_4 q0) hc_6 (Nat.le_of_ble_eq_true rfl) (ctR_copyFrom G d _ _ (sh_told_4 q0) (sh_told_4 q1) _ _ he) ?_
  refine v_ald_0 dO_copyFrom_55 ?_
  refine v_getR dO_copyFrom_56 fuO_32 q0 (rf_told_5 q0) ?_
  refine v_ald_1 dO_copyFrom_59 ?_
  refine v_getR dO_copyFrom_60 fuO_32 q1 (rf_told_5 q1) ?_
  obtain ⟨h6, he, hm⟩ := bd_s hm
  refine v_cv1v (M' := tR_copyFrom) dO_copyFrom_63 mlO_69 okR_copyFrom (sh_told_5 q0) hc_6 (Nat.le_of_ble_eq_true rfl) (ctR_copyFrom G d _ _ (sh_told_5 q0) (sh_told_5 q1) _ _ he) ?_
  refine v_ald_0 dO_copyFrom_66 ?_
  refine v_getR dO_copyFrom_67 fuO_35 q0 (rf_told_6 q0) ?_
  refine v_ald_1 dO_copyFrom_70 ?_
  refine v_getR dO_copyFrom_71 fuO_35 q1 (rf_told_6 q1) ?_
  obtain ⟨h7, he, hm⟩ := bd_s hm
  refine v_cv1v (M' := tR_copyFrom) dO_copyFrom_74 mlO_69 okR_copyFrom (sh_told_6 q0) hc_6 (Nat.le_of_ble_eq_true rfl) (ctR_copyFrom G d _ _ (sh_told_6 q0) (sh_told_6 q1) _ _ he) ?_
  refine v_ald_0 dO_copyFrom_77 ?_
  refine v_getR dO_copyFrom_78 fuO_40 q0 (rf_told_7 q0) ?_
  refine v_ald_1 dO_copyFrom_81 ?_
  refine v_getR dO_copyFrom_82 fuO_40 q1 (rf_told_7 q1) ?_
  obtain ⟨h8, he, hm⟩ := bd_s hm
  refine v_cv1v (M' := tR_copyFrom) dO_copyFrom_85 mlO_69 okR_copyFrom (sh_told_7 q0) hc_6 (Nat.le_of_ble_eq_true rfl) (ctR_copyFrom G d _ _ (sh_told_7 q0) (sh_told_7 q1) _ _ he) ?_
  refine v_ald_0 dO_copyFrom_88 ?_
  refine v_getR dO_copyFrom_89 fuO_43 q0 (rf_told_8 q0) ?_
  refine v_ald_1 dO_copyFrom_92 ?_
  refine v_getR dO_copyFrom_93 fuO_43 q1 (rf_told_8 q1) ?_
  obtain ⟨h9, he, hm⟩ := bd_s hm
  refine v_cv1v (M' := tR_copyFrom) dO_copyFrom_96 mlO_69 okR_copyFrom (sh_told_8 q0) hc_6 (Nat.le_of_ble_eq_true rfl) (ctR_copyFrom G d _ _ (sh_told_8 q0) (sh_told_8 q1) _ _ he) ?_
  refine v_ald_0 dO_copyFrom_99 ?_
  refine v_getR dO_copyFrom_100 fuO_46 q0 (rf_told_9 q0) ?_
  refine v_ald_1 dO_copyFrom_103 ?_
  refine v_getR dO_copyFrom_104 fuO_46 q1 (rf_told_9 q1) ?_
  obtain ⟨h10, he, hm⟩ := bd_s hm
  refine v_cv1v (M' := tR_copyFrom) dO_copyFrom_107 mlO_69 okR_copyFrom (sh_told_9 q0) hc_6 (Nat.le_of_ble_eq_true rfl) (ctR_copyFrom G d _ _ (sh_told_9 q0) (sh_told_9 q1) _ _ he) ?_
  refine v_ald_0 dO_copyFrom_110 ?_
  refine v_getR dO_copyFrom_111 fuO_49 q0 (rf_told_10 q0) ?_
  refine v_ald_1 dO_copyFrom_114 ?_
  refine v_getR dO_copyFrom_115 fuO_49 q1 (rf_told_10 q1) ?_
  obtain ⟨h11, he, hm⟩ := bd_s hm
  refine v_cv1v (M' := tR_copyFrom) dO_copyFrom_118 mlO_69 okR_copyFrom (sh_told_10 q0) hc_6 (Nat.le_of_ble_eq_true rfl) (ctR_copyFrom G d _ _ (sh_told_10 q0) (sh_told_10 q1) _ _ he) ?_
  refine v_ald_0 dO_copyFrom_121 ?_
  refine v_getR dO_copyFrom_122 fuO_52 q0 (rf_told_11 q0) ?_
  refine v_ald_1 dO_copyFrom_125 ?_
  refine v_getR dO_copyFrom_126 fuO_52 q1 (rf_told_11 q1) ?_
  obtain ⟨h12, he, hm⟩ := bd_s hm
  refine v_cv1v (M' := tR_copyFrom) dO_copyFrom_129 mlO_69 okR_copyFrom (sh_told_11 q0) hc_6 (Nat.le_of_ble_eq_true rfl) (ctR_copyFrom G d _ _ (sh_told_11 q0) (sh_told_11 q1) _ _ he) ?_
  refine v_ald_0 dO_copyFrom_132 ?_
  refine v_getR dO_copyFrom_133 fuO_55 q0 (rf_told_12 q0) ?_
  refine v_ald_1 dO_copyFrom_136 ?_
  refine v_getR dO_copyFrom_137 fuO_55 q1 (rf_told_12 q1) ?_
  obtain ⟨h13, he, hm⟩ := bd_s hm
  refine v_cv1v (M' := tR_copyFrom) dO_copyFrom_140 mlO_69 okR_copyFrom (sh_told_12 q0) hc_6 (Nat.le_of_ble_eq_true rfl) (ctR_copyFrom G d _ _ (sh_told_12 q0) (sh_told_12 q1) _ _ he) ?_
  refine v_ald_0 dO_copyFrom_143 ?_
  refine v_getR dO_copyFrom_144 fuO_58 q0 (rf_told_13 q0) ?_
  refine v_ald_1 dO_copyFrom_147 ?_
  refine v_getR dO_copyFrom_148 fuO_58 q1 (rf_told_13 q1) ?_
  obtain ⟨h14, he, hm⟩ := bd_s hm
  refine v_cv1v (M' := tR_copyFrom) dO_copyFrom_151 mlO_69 okR_copyFrom (sh_told_13 q0) hc_6 (Nat.le_of_ble_eq_true rfl) (ctR_copyFrom G d _ _ (sh_told_13 q0) (sh_told_13 q1) _ _ he) ?_
  cases hm
  exact v_ret dO_copyFrom_154 rfl
def mT_onwards (p0 : Int32) (p1 : Int32) (p2 : Int32) (h0 : PH) : Option (Int32) :=
  if p2 = 0 then
    some (p0 + p1)
  else
    some (imax p0 p1)
theorem ctT_onwards (G : GG) (d : Nat) (p0 : Int32) (p1 : Int32) (p2 : Int32) (h0 : PH) (r : Int32) (hm : mT_onwards p0 p1 p2 h0 = some r) : Kx G tT_onwards (d + 1) [.int p0, .int p1, .int p2] h0 (some (.int r)) h0 := by
  refine K_of_V (by decide) (by simp [cat_i, cat_r, fmtV_cat]) (by simp [tT_onwards]) ?_
  change Vx G tT_onwards (d + 1) 0 [some (.int p0), some (.int p1), some (.int p2)] [] h0 (some (.int r)) h0
  unfold mT_onwards at hm
  refine v_ild_2 dT_onwards_0 ?_
  refine v_if_eq dT_onwards_1 (fun hc => ?_) (fun hc => ?_)
  · replace hm := it hc hm
    refine v_ild_0 dT_onwards_12 ?_
    refine v_ild_1 dT_onwards_13 ?_
    refine v_iadd dT_onwards_14 ?_
    cases hm
    exact v_iret dT_onwards_15 rfl
  · replace hm := ie hc hm
    refine v_ild_0 dT_onwards_4 ?_
    refine v_ild_1 dT_onwards_5 ?_
    refine v_mmax dT_onwards_6 mlT_48 (Nat.le_of_ble_eq_true rfl) ?_
    refine v_goto dT_onwards_9 ?_
    cases hm
    exact v_iret dT_onwards_15 rfl
def mT_spread_L3 (a1 : Nat) (a2 : Nat) (p3 : Int32) (p4 : Int32) (k0 : PH → Option (PH)) : Nat → Int32 → PH → Option (PH)
  | 0, _, _ => none
  | n + 1, v5, hv =>
    if 12 ≤ v5 then
      k0 hv
    else
      jn1 (fun (x2 : Int32) =>
        ck v5 12 <|
        lt (up hv 96 (ix v5) x2) fun h3 =>
        mT_spread_L3 a1 a2 p3 p4 k0 n (v5 + 1) h3) fun j1 =>
      if v5 = p3 then
        j1 0
      else
        j1 1000000
def mT_spread_L48 (a1 : Nat) (a2 : Nat) (p4 : Int32) (p5 : Int32) (k0 : PH → Option (PH)) : Nat → Int32 → PH → Option (PH)
  | 0, _, _ => none
  | n + 1, v6, hv =>
    if (hv a2 3) ≤ v6 then
      k0 hv
    else
      bd (mR_at a2 v6 0 hv) fun r5 =>
      bd (mR_at a2 v6 1 hv) fun r6 =>
      bd (mB_has a1 r5 hv) fun r7 =>
      if r7 = 0 then
        mT_spread_L48 a1 a2 p4 p5 k0 n (v6 + 1) hv
      else
        bd (mB_has a1 r6 hv) fun r8 =>
        if r8 = 0 then
          mT_spread_L48 a1 a2 p4 p5 k0 n (v6 + 1) hv
        else
          bd (mB_sumOf a1 r5 hv) fun r9 =>
          bd (mB_sumOf a1 r6 hv) fun r10 =>
          lt (r9 + r10) fun x11 =>
          ck r6 12 <|
          ck r5 12 <|
          bd (mT_onwards (hv 96 (ix r5)) x11 p4 hv) fun r12 =>
          ck r6 12 <|
          lt (up hv 96 (ix r6) (imin (hv 96 (ix r6)) r12)) fun h13 =>
          ck r5 12 <|
          ck r6 12 <|
          bd (mT_onwards (h13 96 (ix r6)) x11 p4 h13) fun r14 =>
          ck r5 12 <|
          lt (up h13 96 (ix r5) (imin (h13 96 (ix r5)) r14)) fun h15 =>
          mT_spread_L48 a1 a2 p4 p5 k0 n (v6 + 1) h15
def mT_spread_L38 (a1 : Nat) (a2 : Nat) (p4 : Int32) : Nat → Int32 → PH → Option (PH)
  | 0, _, _ => none
  | n + 1, v5, hv =>
    if 12 ≤ v5 then
      some hv
    else
      mT_spread_L48 a1 a2 p4 v5 (fun (h16 : PH) =>
        mT_spread_L38 a1 a2 p4 n (v5 + 1) h16) FU 0 hv
def mT_spread (a1 : Nat) (a2 : Nat) (p3 : Int32) (p4 : Int32) (h0 : PH) : Option (PH) :=
  mT_spread_L3 a1 a2 p3 p4 (fun (h4 : PH) =>
    mT_spread_L38 a1 a2 p4 FU 0 h4) FU 0 h0
theorem wT_spread_L3 (G : GG) (d : Nat) (a1 : Nat) (a2 : Nat) (p3 : Int32) (p4 : Int32) (q1 : shL[a1]? = some (1, 8)) (q2 : shL[a2]? = some (6, 4)) (k0 : PH → Option (PH)) (r : PH) (kk0 : ∀ (hy : PH), k0 hy = some r → Vx G tT_spread (d + 2) 35 [some (.ref (gB G + 95)), some (.ref (gB G + a1)), some (.ref (gB G + a2)), none, some (.int p4), none, none, none, none, none] [] hy none r) : ∀ (n : Nat) (v5 : Int32) (hv : PH), mT_spread_L3 a1 a2 p3 p4 k0 n v5 hv = some r → Vx G tT_spread (d + 2) 3 [some (.ref (gB G + 95)), some (.ref (gB G + a1)), some (.ref (gB G + a2)), some (.int p3), some (.int p4), some (.int v5), none, none, none, none] [] hv none r := by
  intro n
  induction n with
  | zero => intro v5 hv hm; cases hm
  | succ n ih =>
    intro v5 hv hm
    unfold mT_spread_L3 at hm
    refine v_ild_5 dT_spread_3 ?_
    refine v_bipush (x := 12) dT_spread_5 rfl ?_
    refine v_cmp_ge dT_spread_7 (fun hc => ?_) (fun hc => ?_)
    · replace hm := it hc hm
      exact v_kw (kk0 _ hm) (wk_s (wk_s (wk_s (wk_n (wk_s (wk_n (wk_n (wk_n (wk_n (wk_n wk_e))))))))))
    · replace hm := ie hc hm
      refine v_ald_0 dT_spread_10 ?_
      refine v_getR dT_spread_11 fuT_9 sh_95 rf_95_0 ?_
      refine v_ild_5 dT_spread_14 ?_
      refine v_ild_5 dT_spread_16 ?_
      refine v_ild_3 dT_spread_18 ?_
      refine v_j1 (fun (x2 : Int32) => Vx G tT_spread (d + 2) 28 [some (.ref (gB G + 95)), some (.ref (gB G + a1)), some (.ref (gB G + a2)), some (.int p3), some (.int p4), some (.int v5), none, none, none, none] [.int x2, .int v5, .ref (gB G + 96)] hv none r) hm (fun x2 hm => ?_) (fun j1 kj1 hm => ?_)
      · obtain ⟨hi, hm⟩ := ck_s hm
        refine v_iastl dT_spread_28 sh_96 hi hm (fun h3 hm => ?_)
        refine v_inc_5 1 dT_spread_29 rfl (by decide) rfl ?_
        refine v_goto dT_spread_32 ?_
        exact v_kw (ih _ _ hm) (wk_s (wk_s (wk_s (wk_s (wk_s (wk_s (wk_n (wk_n (wk_n (wk_n wk_e))))))))))
      · refine v_cmp_ne dT_spread_19 (fun hc => ?_) (fun hc => ?_)
        · replace hm := it hc hm
          refine v_iconst (x := 0) dT_spread_22 rfl ?_
          refine v_goto dT_spread_23 ?_
          exact v_kw (kj1 _ hm) (wk_s (wk_s (wk_s (wk_s (wk_s (wk_s (wk_n (wk_n (wk_n (wk_n wk_e))))))))))
        · replace hm := ie hc hm
          refine v_ldc (x := 1000000) dT_spread_26 lcT_18 ?_
          exact v_kw (kj1 _ hm) (wk_s (wk_s (wk_s (wk_s (wk_s (wk_s (wk_n (wk_n (wk_n (wk_n wk_e))))))))))
theorem wT_spread_L48 (G : GG) (d : Nat) (a1 : Nat) (a2 : Nat) (p4 : Int32) (p5 : Int32) (q1 : shL[a1]? = some (1, 8)) (q2 : shL[a2]? = some (6, 4)) (k0 : PH → Option (PH)) (r : PH) (kk0 : ∀ (hy : PH), k0 hy = some r → Vx G tT_spread (d + 2) 176 [some (.ref (gB G + 95)), some (.ref (gB G + a1)), some (.ref (gB G + a2)), none, some (.int p4), some (.int p5), none, none, none, none] [] hy none r) : ∀ (n : Nat) (v6 : Int32) (hv : PH), mT_spread_L48 a1 a2 p4 p5 k0 n v6 hv = some r → Vx G tT_spread (d + 2) 48 [some (.ref (gB G + 95)), some (.ref (gB G + a1)), some (.ref (gB G + a2)), none, some (.int p4), some (.int p5), some (.int v6), none, none, none] [] hv none r := by
  intro n
  induction n with
  | zero => intro v6 hv hm; cases hm
  | succ n ih =>
    intro v6 hv hm
    unfold mT_spread_L48 at hm
    refine v_ild_6 dT_spread_48 ?_
    refine v_ald_2 dT_spread_50 ?_
    refine v_getI dT_spread_51 fuT_19 q2 (rf_rows_3 q2) ?_
    refine v_cmp_ge dT_spread_54 (fun hc => ?_) (fun hc => ?_)
    · replace hm := it hc hm
      exact v_kw (kk0 _ hm) (wk_s (wk_s (wk_s (wk_n (wk_s (wk_s (wk_n (wk_n (wk_n (wk_n wk_e))))))))))
    · replace hm := ie hc hm
      refine v_ald_2 dT_spread_57 ?_
      refine v_ild_6 dT_spread_58 ?_
      refine v_iconst (x := 0) dT_spread_60 rfl ?_
      obtain ⟨r5, he, hm⟩ := bd_s hm
      refine v_cv2i (M' := tR_at) dT_spread_61 mlT_25 okR_at q2 hc_6 (Nat.le_of_ble_eq_true rfl) (ctR_at G (d + 1) _ _ _ q2 _ _ he) ?_
      refine v_ist_7 dT_spread_64 (by decide) rfl ?_
      refine v_ald_2 dT_spread_66 ?_
      refine v_ild_6 dT_spread_67 ?_
      refine v_iconst (x := 1) dT_spread_69 rfl ?_
      obtain ⟨r6, he, hm⟩ := bd_s hm
      refine v_cv2i (M' := tR_at) dT_spread_70 mlT_25 okR_at q2 hc_6 (Nat.le_of_ble_eq_true rfl) (ctR_at G (d + 1) _ _ _ q2 _ _ he) ?_
      refine v_ist_8 dT_spread_73 (by decide) rfl ?_
      refine v_ald_1 dT_spread_75 ?_
      refine v_ild_7 dT_spread_76 ?_
      obtain ⟨r7, he, hm⟩ := bd_s hm
      refine v_cv1i (M' := tB_has) dT_spread_78 mlT_29 okB_has q1 hc_1 (Nat.le_of_ble_eq_true rfl) (ctB_has G (d + 1) _ _ q1 _ _ he) ?_
      refine v_if_eq dT_spread_81 (fun hc => ?_) (fun hc => ?_)
      · replace hm := it hc hm
        refine v_inc_6 1 dT_spread_170 rfl (by decide) rfl ?_
        refine v_goto dT_spread_173 ?_
        exact v_kw (ih _ _ hm) (wk_s (wk_s (wk_s (wk_n (wk_s (wk_s (wk_s (wk_n (wk_n (wk_n wk_e))))))))))
      · replace hm := ie hc hm
        refine v_ald_1 dT_spread_84 ?_
        refine v_ild_8 dT_spread_85 ?_
        obtain ⟨r8, he, hm⟩ := bd_s hm
        refine v_cv1i (M' := tB_has) dT_spread_87 mlT_29 okB_has q1 hc_1 (Nat.le_of_ble_eq_true rfl) (ctB_has G (d + 1) _ _ q1 _ _ he) ?_
        refine v_if_eq dT_spread_90 (fun hc => ?_) (fun hc => ?_)
        · replace hm := it hc hm
          refine v_inc_6 1 dT_spread_170 rfl (by decide) rfl ?_
          refine v_goto dT_spread_173 ?_
          exact v_kw (ih _ _ hm) (wk_s (wk_s (wk_s (wk_n (wk_s (wk_s (wk_s (wk_n (wk_n (wk_n wk_e))))))))))
        · replace hm := ie hc hm
          refine v_ald_1 dT_spread_93 ?_
          refine v_ild_7 dT_spread_94 ?_
          obtain ⟨r9, he, hm⟩ := bd_s hm
          refine v_cv1i (M' := tB_sumOf) dT_spread_96 mlT_35 okB_sumOf q1 hc_1 (Nat.le_of_ble_eq_true rfl) (ctB_sumOf G (d + 1) _ _ q1 _ _ he) ?_
          refine v_ald_1 dT_spread_99 ?_
          refine v_ild_8 dT_spread_100 ?_
          obtain ⟨r10, he, hm⟩ := bd_s hm
          refine v_cv1i (M' := tB_sumOf) dT_spread_102 mlT_35 okB_sumOf q1 hc_1 (Nat.le_of_ble_eq_true rfl) (ctB_sumOf G (d + 1) _ _ q1 _ _ he) ?_
          refine v_iadd dT_spread_105 ?_
          refine v_top hm (fun x11 hm => ?_)
          refine v_ist_9 dT_spread_106 (by decide) rfl ?_
          refine v_ald_0 dT_spread_108 ?_
          refine v_getR dT_spread_109 fuT_9 sh_95 rf_95_0 ?_
          refine v_ild_8 dT_spread_112 ?_
          refine v_ald_0 dT_spread_114 ?_
          refine v_getR dT_spread_115 fuT_9 sh_95 rf_95_0 ?_
          refine v_ild_8 dT_spread_118 ?_
          obtain ⟨hi, hm⟩ := ck_s hm
          refine v_iald dT_spread_120 sh_96 hi ?_
          refine v_ald_0 dT_spread_121 ?_
          refine v_getR dT_spread_122 fuT_9 sh_95 rf_95_0 ?_
          refine v_ild_7 dT_spread_125 ?_
          obtain ⟨hi, hm⟩ := ck_s hm
          refine v_iald dT_spread_127 sh_96 hi ?_
          refine v_ild_9 dT_spread_128 ?_
          refine v_ild_4 dT_spread_130 ?_
          obtain ⟨r12, he, hm⟩ := bd_s hm
          refine v_cs3i (M' := tT_onwards) dT_spread_132 mlT_39 okT_onwards (Nat.le_of_ble_eq_true rfl) (ctT_onwards G d _ _ _ _ _ he) ?_
          refine v_mmin dT_spread_135 mlT_43 (Nat.le_of_ble_eq_true rfl) ?_
          obtain ⟨hi, hm⟩ := ck_s hm
          refine v_iastl dT_spread_138 sh_96 hi hm (fun h13 hm => ?_)
          refine v_ald_0 dT_spread_139 ?_
          refine v_getR dT_spread_140 fuT_9 sh_95 rf_95_0 ?_
          refine v_ild_7 dT_spread_143 ?_
          refine v_ald_0 dT_spread_145 ?_
          refine v_getR dT_spread_146 fuT_9 sh_95 rf_95_0 ?_
          refine v_ild_7 dT_spread_149 ?_
          obtain ⟨hi, hm⟩ := ck_s hm
          refine v_iald dT_spread_151 sh_96 hi ?_
          refine v_ald_0 dT_spread_152 ?_
          refine v_getR dT_spread_153 fuT_9 sh_95 rf_95_0 ?_
          refine v_ild_8 dT_spread_156 ?_
          obtain ⟨hi, hm⟩ := ck_s hm
          refine v_iald dT_spread_158 sh_96 hi ?_
          refine v_ild_9 dT_spread_159 ?_
          refine v_ild_4 dT_spread_161 ?_
          obtain ⟨r14, he, hm⟩ := bd_s hm
          refine v_cs3i (M' := tT_onwards) dT_spread_163 mlT_39 okT_onwards (Nat.le_of_ble_eq_true rfl) (ctT_onwards G d _ _ _ _ _ he) ?_
          refine v_mmin dT_spread_166 mlT_43 (Nat.le_of_ble_eq_true rfl) ?_
          obtain ⟨hi, hm⟩ := ck_s hm
          refine v_iastl dT_spread_169 sh_96 hi hm (fun h15 hm => ?_)
          refine v_inc_6 1 dT_spread_170 rfl (by decide) rfl ?_
          refine v_goto dT_spread_173 ?_
          exact v_kw (ih _ _ hm) (wk_s (wk_s (wk_s (wk_n (wk_s (wk_s (wk_s (wk_n (wk_n (wk_n wk_e))))))))))
theorem wT_spread_L38 (G : GG) (d : Nat) (a1 : Nat) (a2 : Nat) (p4 : Int32) (q1 : shL[a1]? = some (1, 8)) (q2 : shL[a2]? = some (6, 4)) (r : PH) : ∀ (n : Nat) (v5 : Int32) (hv : PH), mT_spread_L38 a1 a2 p4 n v5 hv = some r → Vx G tT_spread (d + 2) 38 [some (.ref (gB G + 95)), some (.ref (gB G + a1)), some (.ref (gB G + a2)), none, some (.int p4), some (.int v5), none, none, none, none] [] hv none r := by
  intro n
  induction n with
  | zero => intro v5 hv hm; cases hm
  | succ n ih =>
    intro v5 hv hm
    unfold mT_spread_L38 at hm
    refine v_ild_5 dT_spread_38 ?_
    refine v_bipush (x := 12) dT_spread_40 rfl ?_
    refine v_cmp_ge dT_spread_42 (fun hc => ?_) (fun hc => ?_)
    · replace hm := it hc hm
      cases hm
      exact v_ret dT_spread_182 rfl
    · replace hm := ie hc hm
      refine v_iconst (x := 0) dT_spread_45 rfl ?_
      refine v_ist_6 dT_spread_46 (by decide) rfl ?_
      refine v_kw (wT_spread_L48 G d _ _ _ _ q1 q2 _ _ (fun h16 hm => ?_) FU _ _ hm) (wk_s (wk_s (wk_s (wk_n (wk_s (wk_s (wk_s (wk_n (wk_n (wk_n wk_e))))))))))
      refine v_inc_5 1 dT_spread_176 rfl (by decide) rfl ?_
      refine v_goto dT_spread_179 ?_
      exact v_kw (ih _ _ hm) (wk_s (wk_s (wk_s (wk_n (wk_s (wk_s (wk_n (wk_n (wk_n (wk_n wk_e))))))))))
theorem ctT_spread (G : GG) (d : Nat) (a1 : Nat) (a2 : Nat) (p3 : Int32) (p4 : Int32) (q1 : shL[a1]? = some (1, 8)) (q2 : shL[a2]? = some (6, 4)) (h0 : PH) (r : PH) (hm : mT_spread a1 a2 p3 p4 h0 = some r) : Kx G tT_spread (d + 2) [.ref (gB G + 95), .ref (gB G + a1), .ref (gB G + a2), .int p3, .int p4] h0 none r := by
  refine K_of_V (by decide) (by simp [cat_i, cat_r, fmtV_cat]) (by simp [tT_spread]) ?_
  change Vx G tT_spread (d + 2) 0 [some (.ref (gB G + 95)), some (.ref (gB G + a1)), some (.ref (gB G + a2)), some (.int p3), some (.int p4), none, none, none, none, none] [] h0 none r
  unfold mT_spread at hm
  refine v_iconst (x := 0) dT_spread_0 rfl ?_
  refine v_ist_5 dT_spread_1 (by decide) rfl ?_
  refine v_kw (wT_spread_L3 G d _ _ _ _ q1 q2 _ _ (fun h4 hm => ?_) FU _ _ hm) (wk_s (wk_s (wk_s (wk_s (wk_s (wk_s (wk_n (wk_n (wk_n (wk_n wk_e))))))))))
  refine v_iconst (x := 0) dT_spread_35 rfl ?_
  refine v_ist_5 dT_spread_36 (by decide) rfl ?_
  exact v_kw (wT_spread_L38 G d _ _ _ q1 q2 _ FU _ _ hm) (wk_s (wk_s (wk_s (wk_n (wk_s (wk_s (wk_n (wk_n (wk_n (wk_n wk_e))))))))))
def mT_costTo (p1 : Int32) (h0 : PH) : Option (Int32) :=
  if p1 < 0 then
    some (-1)
  else
    if 12 ≤ p1 then
      some (-1)
    else
      ck p1 12 <|
      if (h0 96 (ix p1)) < 1000000 then
        ck p1 12 <|
        some (h0 96 (ix p1))
      else
        some (-1)
theorem ctT_costTo (G : GG) (d : Nat) (p1 : Int32) (h0 : PH) (r : Int32) (hm : mT_costTo p1 h0 = some r) : Kx G tT_costTo d [.ref (gB G + 95), .int p1] h0 (some (.int r)) h0 := by
  refine K_of_V (by decide) (by simp [cat_i, cat_r, fmtV_cat]) (by simp [tT_costTo]) ?_
  change Vx G tT_costTo d 0 [some (.ref (gB G + 95)), some (.int p1)] [] h0 (some (.int r)) h0
  unfold mT_costTo at hm
  refine v_ild_1 dT_costTo_0 ?_
  refine v_if_lt dT_costTo_1 (fun hc => ?_) (fun hc => ?_)
  · replace hm := it hc hm
    refine v_iconst (x := (-1)) dT_costTo_21 rfl ?_
    cases hm
    exact v_iret dT_costTo_22 rfl
  · replace hm := ie hc hm
    refine v_ild_1 dT_costTo_4 ?_
    refine v_bipush (x := 12) dT_costTo_5 rfl ?_
    refine v_cmp_ge dT_costTo_7 (fun hc => ?_) (fun hc => ?_)
    · replace hm := it hc hm
      refine v_iconst (x := (-1)) dT_costTo_21 rfl ?_
      cases hm
      exact v_iret dT_costTo_22 rfl
    · replace hm := ie hc hm
      refine v_ald_0 dT_costTo_10 ?_
      refine v_getR dT_costTo_11 fuT_9 sh_95 rf_95_0 ?_
      refine v_ild_1 dT_costTo_14 ?_
      obtain ⟨hi, hm⟩ := ck_s hm
      refine v_iald dT_costTo_15 sh_96 hi ?_
      refine v_ldc (x := 1000000) dT_costTo_16 lcT_18 ?_
      refine v_cmp_lt dT_costTo_18 (fun hc => ?_) (fun hc => ?_)
      · replace hm := it hc hm
        refine v_ald_0 dT_costTo_23 ?_
        refine v_getR dT_costTo_24 fuT_9 sh_95 rf_95_0 ?_
        refine v_ild_1 dT_costTo_27 ?_
        obtain ⟨hi, hm⟩ := ck_s hm
        refine v_iald dT_costTo_28 sh_96 hi ?_
        cases hm
        exact v_iret dT_costTo_29 rfl
      · replace hm := ie hc hm
        refine v_iconst (x := (-1)) dT_costTo_21 rfl ?_
        cases hm
        exact v_iret dT_costTo_22 rfl
def mT_countWithin_L6 (p1 : Int32) (p2 : Int32) (p3 : Int32) (h0 : PH) : Nat → Int32 → Int32 → Option (Int32)
  | 0, _, _ => none
  | n + 1, v4, v5 =>
    if p1 ≤ v5 then
      some v4
    else
      if 12 ≤ v5 then
        some v4
      else
        if v5 = p2 then
          mT_countWithin_L6 p1 p2 p3 h0 n v4 (v5 + 1)
        else
          ck v5 12 <|
          if p3 < (h0 96 (ix v5)) then
            mT_countWithin_L6 p1 p2 p3 h0 n v4 (v5 + 1)
          else
            mT_countWithin_L6 p1 p2 p3 h0 n (v4 + 1) (v5 + 1)
def mT_countWithin (p1 : Int32) (p2 : Int32) (p3 : Int32) (h0 : PH) : Option (Int32) :=
  mT_countWithin_L6 p1 p2 p3 h0 FU 0 0
theorem wT_countWithin_L6 (G : GG) (d : Nat) (p1 : Int32) (p2 : Int32) (p3 : Int32) (h0 : PH) (r : Int32) : ∀ (n : Nat) (v4 : Int32) (v5 : Int32), mT_countWithin_L6 p1 p2 p3 h0 n v4 v5 = some r → Vx G tT_countWithin d 6 [some (.ref (gB G + 95)), some (.int p1), some (.int p2), some (.int p3), some (.int v4), some (.int v5)] [] h0 (some (.int r)) h0 := by
  intro n
  induction n with
  | zero => intro v4 v5 hm; cases hm
  | succ n ih =>
    intro v4 v5 hm
    unfold mT_countWithin_L6 at hm
    refine v_ild_5 dT_countWithin_6 ?_
    refine v_ild_1 dT_countWithin_8 ?_
    refine v_cmp_ge dT_countWithin_9 (fun hc => ?_) (fun hc => ?_)
    · replace hm := it hc hm
      refine v_ild_4 dT_countWithin_45 ?_
      cases hm
      exact v_iret dT_countWithin_47 rfl
    · replace hm := ie hc hm
      refine v_ild_5 dT_countWithin_12 ?_
      refine v_bipush (x := 12) dT_countWithin_14 rfl ?_
      refine v_cmp_ge dT_countWithin_16 (fun hc => ?_) (fun hc => ?_)
      · replace hm := it hc hm
        refine v_ild_4 dT_countWithin_45 ?_
        cases hm
        exact v_iret dT_countWithin_47 rfl
      · replace hm := ie hc hm
        refine v_ild_5 dT_countWithin_19 ?_
        refine v_ild_2 dT_countWithin_21 ?_
        refine v_cmp_eq dT_countWithin_22 (fun hc => ?_) (fun hc => ?_)
        · replace hm := it hc hm
          refine v_inc_5 1 dT_countWithin_39 rfl (by decide) rfl ?_
          refine v_goto dT_countWithin_42 ?_
          exact v_kw (ih _ _ hm) (wk_s (wk_s (wk_s (wk_s (wk_s (wk_s wk_e))))))
        · replace hm := ie hc hm
          refine v_ald_0 dT_countWithin_25 ?_
          refine v_getR dT_countWithin_26 fuT_9 sh_95 rf_95_0 ?_
          refine v_ild_5 dT_countWithin_29 ?_
          obtain ⟨hi, hm⟩ := ck_s hm
          refine v_iald dT_countWithin_31 sh_96 hi ?_
          refine v_ild_3 dT_countWithin_32 ?_
          refine v_cmp_gt dT_countWithin_33 (fun hc => ?_) (fun hc => ?_)
          · replace hm := it hc hm
            refine v_inc_5 1 dT_countWithin_39 rfl (by decide) rfl ?_
            refine v_goto dT_countWithin_42 ?_
            exact v_kw (ih _ _ hm) (wk_s (wk_s (wk_s (wk_s (wk_s (wk_s wk_e))))))
          · replace hm := ie hc hm
            refine v_inc_4 1 dT_countWithin_36 rfl (by decide) rfl ?_
            refine v_inc_5 1 dT_countWithin_39 rfl (by decide) rfl ?_
            refine v_goto dT_countWithin_42 ?_
            exact v_kw (ih _ _ hm) (wk_s (wk_s (wk_s (wk_s (wk_s (wk_s wk_e))))))
theorem ctT_countWithin (G : GG) (d : Nat) (p1 : Int32) (p2 : Int32) (p3 : Int32) (h0 : PH) (r : Int32) (hm : mT_countWithin p1 p2 p3 h0 = some r) : Kx G tT_countWithin d [.ref (gB G + 95), .int p1, .int p2, .int p3] h0 (some (.int r)) h0 := by
  refine K_of_V (by decide) (by simp [cat_i, cat_r, fmtV_cat]) (by simp [tT_countWithin]) ?_
  change Vx G tT_countWithin d 0 [some (.ref (gB G + 95)), some (.int p1), some (.int p2), some (.int p3), none, none] [] h0 (some (.int r)) h0
  unfold mT_countWithin at hm
  refine v_iconst (x := 0) dT_countWithin_0 rfl ?_
  refine v_ist_4 dT_countWithin_1 (by decide) rfl ?_
  refine v_iconst (x := 0) dT_countWithin_3 rfl ?_
  refine v_ist_5 dT_countWithin_4 (by decide) rfl ?_
  exact v_kw (wT_countWithin_L6 G d _ _ _ _ _ FU _ _ hm) (wk_s (wk_s (wk_s (wk_s (wk_s (wk_s wk_e))))))
def mT_isAlone_L2 (p1 : Int32) (h0 : PH) : Nat → Int32 → Option (Int32)
  | 0, _ => none
  | n + 1, v2 =>
    if 12 ≤ v2 then
      some 1
    else
      if ((p1 >>> (v2 &&& 31)) &&& 1) = 1 then
        ck v2 12 <|
        if ((h0 97 (ix v2)) &&& p1) = 0 then
          mT_isAlone_L2 p1 h0 n (v2 + 1)
        else
          some 0
      else
        mT_isAlone_L2 p1 h0 n (v2 + 1)
def mT_isAlone (p1 : Int32) (h0 : PH) : Option (Int32) :=
  mT_isAlone_L2 p1 h0 FU 0
theorem wT_isAlone_L2 (G : GG) (d : Nat) (p1 : Int32) (h0 : PH) (r : Int32) : ∀ (n : Nat) (v2 : Int32), mT_isAlone_L2 p1 h0 n v2 = some r → Vx G tT_isAlone d 2 [some (.ref (gB G + 95)), some (.int p1), some (.int v2)] [] h0 (some (.int r)) h0 := by
  intro n
  induction n with
  | zero => intro v2 hm; cases hm
  | succ n ih =>
    intro v2 hm
    unfold mT_isAlone_L2 at hm
    refine v_ild_2 dT_isAlone_2 ?_
    refine v_bipush (x := 12) dT_isAlone_3 rfl ?_
    refine v_cmp_ge dT_isAlone_5 (fun hc => ?_) (fun hc => ?_)
    · replace hm := it hc hm
      refine v_iconst (x := 1) dT_isAlone_36 rfl ?_
      cases hm
      exact v_zret1 dT_isAlone_37 rfl
    · replace hm := ie hc hm
      refine v_ild_1 dT_isAlone_8 ?_
      refine v_ild_2 dT_isAlone_9 ?_
      refine v_ishr dT_isAlone_10 ?_
      refine v_iconst (x := 1) dT_isAlone_11 rfl ?_
      refine v_iand dT_isAlone_12 ?_
      refine v_iconst (x := 1) dT_isAlone_13 rfl ?_
      refine v_cmp_ne dT_isAlone_14 (fun hc => ?_) (fun hc => ?_)
      · replace hm := it hc hm
        refine v_ald_0 dT_isAlone_17 ?_
        refine v_getR dT_isAlone_18 fuT_15 sh_95 rf_95_1 ?_
        refine v_ild_2 dT_isAlone_21 ?_
        obtain ⟨hi, hm⟩ := ck_s hm
        refine v_iald dT_isAlone_22 sh_97 hi ?_
        refine v_ild_1 dT_isAlone_23 ?_
        refine v_iand dT_isAlone_24 ?_
        refine v_if_eq dT_isAlone_25 (fun hc => ?_) (fun hc => ?_)
        · replace hm := it hc hm
          refine v_inc_2 1 dT_isAlone_30 rfl (by decide) rfl ?_
          refine v_goto dT_isAlone_33 ?_
          exact v_kw (ih _ hm) (wk_s (wk_s (wk_s wk_e)))
        · replace hm := ie hc hm
          refine v_iconst (x := 0) dT_isAlone_28 rfl ?_
          cases hm
          exact v_zret0 dT_isAlone_29 rfl
      · replace hm := ie hc hm
        refine v_inc_2 1 dT_isAlone_30 rfl (by decide) rfl ?_
        refine v_goto dT_isAlone_33 ?_
        exact v_kw (ih _ hm) (wk_s (wk_s (wk_s wk_e)))
theorem ctT_isAlone (G : GG) (d : Nat) (p1 : Int32) (h0 : PH) (r : Int32) (hm : mT_isAlone p1 h0 = some r) : Kx G tT_isAlone d [.ref (gB G + 95), .int p1] h0 (some (.int r)) h0 := by
  refine K_of_V (by decide) (by simp [cat_i, cat_r, fmtV_cat]) (by simp [tT_isAlone]) ?_
  change Vx G tT_isAlone d 0 [some (.ref (gB G + 95)), some (.int p1), none] [] h0 (some (.int r)) h0
  unfold mT_isAlone at hm
  refine v_iconst (x := 0) dT_isAlone_0 rfl ?_
  refine v_ist_2 dT_isAlone_1 (by decide) rfl ?_
  exact v_kw (wT_isAlone_L2 G d _ _ _ FU _ hm) (wk_s (wk_s (wk_s wk_e)))
def mT_mostAlone_L8 (a2 : Nat) (p3 : Int32) (k0 : PH → Option (Int32 × PH)) : Nat → Int32 → PH → Option (Int32 × PH)
  | 0, _, _ => none
  | n + 1, v4, hv =>
    if 12 ≤ v4 then
      k0 hv
    else
      bd (mO_nextTo a2 v4 hv) fun r2 =>
      ck v4 12 <|
      lt (up hv 97 (ix v4) r2) fun h3 =>
      mT_mostAlone_L8 a2 p3 k0 n (v4 + 1) h3
def mT_mostAlone_L43 (p3 : Int32) (h0 : PH) : Nat → Int32 → Int32 → Int32 → Option (Int32 × PH)
  | 0, _, _, _ => none
  | n + 1, v4, v5, v6 =>
    if 4096 ≤ v6 then
      some (v4, h0)
    else
      if (v6 &&& p3) = v6 then
        bd (mJ_bitCount v6 h0) fun r5 =>
        if r5 ≤ v5 then
          mT_mostAlone_L43 p3 h0 n v4 v5 (v6 + 1)
        else
          bd (mT_isAlone v6 h0) fun r6 =>
          if r6 = 0 then
            mT_mostAlone_L43 p3 h0 n v4 v5 (v6 + 1)
          else
            bd (mJ_bitCount v6 h0) fun r7 =>
            mT_mostAlone_L43 p3 h0 n v6 r7 (v6 + 1)
      else
        mT_mostAlone_L43 p3 h0 n v4 v5 (v6 + 1)
def mT_mostAlone (a1 : Nat) (a2 : Nat) (h0 : PH) : Option (Int32 × PH) :=
  bd (mB_upSet a1 h0) fun r1 =>
  mT_mostAlone_L8 a2 r1 (fun (h4 : PH) =>
    mT_mostAlone_L43 r1 h4 FU 0 0 1) FU 0 h0
theorem wT_mostAlone_L8 (G : GG) (d : Nat) (a2 : Nat) (p3 : Int32) (q2 : shL[a2]? = some (11, 14)) (k0 : PH → Option (Int32 × PH)) (r : Int32 × PH) (kk0 : ∀ (hy : PH), k0 hy = some r → Vx G tT_mostAlone (d + 3) 34 [some (.ref (gB G + 95)), none, none, some (.int p3), none, none, none] [] hy (some (.int r.1)) r.2) : ∀ (n : Nat) (v4 : Int32) (hv : PH), mT_mostAlone_L8 a2 p3 k0 n v4 hv = some r → Vx G tT_mostAlone (d + 3) 8 [some (.ref (gB G + 95)), none, some (.ref (gB G + a2)), some (.int p3), some (.int v4), none, none] [] hv (some (.int r.1)) r.2 := by
  intro n
  induction n with
  | zero => intro v4 hv hm; cases hm
  | succ n ih =>
    intro v4 hv hm
    unfold mT_mostAlone_L8 at hm
    refine v_ild_4 dT_mostAlone_8 ?_
    refine v_bipush (x := 12) dT_mostAlone_10 rfl ?_
    refine v_cmp_ge dT_mostAlone_12 (fun hc => ?_) (fun hc => ?_)
    · replace hm := it hc hm
      exact v_kw (kk0 _ hm) (wk_s (wk_n (wk_n (wk_s (wk_n (wk_n (wk_n wk_e)))))))
    · replace hm := ie hc hm
      refine v_ald_0 dT_mostAlone_15 ?_
      refine v_getR dT_mostAlone_16 fuT_15 sh_95 rf_95_1 ?_
      refine v_ild_4 dT_mostAlone_19 ?_
      refine v_ald_2 dT_mostAlone_21 ?_
      refine v_ild_4 dT_mostAlone_22 ?_
      obtain ⟨r2, he, hm⟩ := bd_s hm
      refine v_cv1i (M' := tO_nextTo) dT_mostAlone_24 mlT_55 okO_nextTo q2 hc_11 (Nat.le_of_ble_eq_true rfl) (ctO_nextTo G (d + 1) _ _ q2 _ _ he) ?_
      obtain ⟨hi, hm⟩ := ck_s hm
      refine v_iastl dT_mostAlone_27 sh_97 hi hm (fun h3 hm => ?_)
      refine v_inc_4 1 dT_mostAlone_28 rfl (by decide) rfl ?_
      refine v_goto dT_mostAlone_31 ?_
      exact v_kw (ih _ _ hm) (wk_s (wk_n (wk_s (wk_s (wk_s (wk_n (wk_n wk_e)))))))
theorem wT_mostAlone_L43 (G : GG) (d : Nat) (p3 : Int32) (h0 : PH) (r : Int32 × PH) : ∀ (n : Nat) (v4 : Int32) (v5 : Int32) (v6 : Int32), mT_mostAlone_L43 p3 h0 n v4 v5 v6 = some r → Vx G tT_mostAlone (d + 3) 43 [some (.ref (gB G + 95)), none, none, some (.int p3), some (.int v4), some (.int v5), some (.int v6)] [] h0 (some (.int r.1)) r.2 := by
  intro n
  induction n with
  | zero => intro v4 v5 v6 hm; cases hm
  | succ n ih =>
    intro v4 v5 v6 hm
    unfold mT_mostAlone_L43 at hm
    refine v_ild_6 dT_mostAlone_43 ?_
    refine v_sipush (x := 4096) dT_mostAlone_45 rfl ?_
    refine v_cmp_ge dT_mostAlone_48 (fun hc => ?_) (fun hc => ?_)
    · replace hm := it hc hm
      refine v_ild_4 dT_mostAlone_96 ?_
      cases hm
      exact v_iret dT_mostAlone_98 rfl
    · replace hm := ie hc hm
      refine v_ild_6 dT_mostAlone_51 ?_
      refine v_ild_3 dT_mostAlone_53 ?_
      refine v_iand dT_mostAlone_54 ?_
      refine v_ild_6 dT_mostAlone_55 ?_
      refine v_cmp_ne dT_mostAlone_57 (fun hc => ?_) (fun hc => ?_)
      · replace hm := it hc hm
        refine v_ild_6 dT_mostAlone_60 ?_
        obtain ⟨r5, he, hm⟩ := bd_s hm
        refine v_cs1i (M' := tJ_bitCount) dT_mostAlone_62 mlT_60 okJ_bitCount (Nat.le_of_ble_eq_true rfl) (ctJ_bitCount G (d + 2) _ _ _ he) ?_
        refine v_ild_5 dT_mostAlone_65 ?_
        refine v_cmp_le dT_mostAlone_67 (fun hc => ?_) (fun hc => ?_)
        · replace hm := it hc hm
          refine v_inc_6 1 dT_mostAlone_90 rfl (by decide) rfl ?_
          refine v_goto dT_mostAlone_93 ?_
          exact v_kw (ih _ _ _ hm) (wk_s (wk_n (wk_n (wk_s (wk_s (wk_s (wk_s wk_e)))))))
        · replace hm := ie hc hm
          refine v_ald_0 dT_mostAlone_70 ?_
          refine v_ild_6 dT_mostAlone_71 ?_
          obtain ⟨r6, he, hm⟩ := bd_s hm
          refine v_cv1i (M' := tT_isAlone) dT_mostAlone_73 mlT_65 okT_isAlone sh_95 hc_9 (Nat.le_of_ble_eq_true rfl) (ctT_isAlone G (d + 2) _ _ _ he) ?_
          refine v_if_eq dT_mostAlone_76 (fun hc => ?_) (fun hc => ?_)
          · replace hm := it hc hm
            refine v_inc_6 1 dT_mostAlone_90 rfl (by decide) rfl ?_
            refine v_goto dT_mostAlone_93 ?_
            exact v_kw (ih _ _ _ hm) (wk_s (wk_n (wk_n (wk_s (wk_s (wk_s (wk_s wk_e)))))))
          · replace hm := ie hc hm
            refine v_ild_6 dT_mostAlone_79 ?_
            refine v_ist_4 dT_mostAlone_81 (by decide) rfl ?_
            refine v_ild_6 dT_mostAlone_83 ?_
            obtain ⟨r7, he, hm⟩ := bd_s hm
            refine v_cs1i (M' := tJ_bitCount) dT_mostAlone_85 mlT_60 okJ_bitCount (Nat.le_of_ble_eq_true rfl) (ctJ_bitCount G (d + 2) _ _ _ he) ?_
            refine v_ist_5 dT_mostAlone_88 (by decide) rfl ?_
            refine v_inc_6 1 dT_mostAlone_90 rfl (by decide) rfl ?_
            refine v_goto dT_mostAlone_93 ?_
            exact v_kw (ih _ _ _ hm) (wk_s (wk_n (wk_n (wk_s (wk_s (wk_s (wk_s wk_e)))))))
      · replace hm := ie hc hm
        refine v_inc_6 1 dT_mostAlone_90 rfl (by decide) rfl ?_
        refine v_goto dT_mostAlone_93 ?_
        exact v_kw (ih _ _ _ hm) (wk_s (wk_n (wk_n (wk_s (wk_s (wk_s (wk_s wk_e)))))))
theorem ctT_mostAlone (G : GG) (d : Nat) (a1 : Nat) (a2 : Nat) (q1 : shL[a1]? = some (1, 8)) (q2 : shL[a2]? = some (11, 14)) (h0 : PH) (r : Int32 × PH) (hm : mT_mostAlone a1 a2 h0 = some r) : Kx G tT_mostAlone (d + 3) [.ref (gB G + 95), .ref (gB G + a1), .ref (gB G + a2)] h0 (some (.int r.1)) r.2 := by
  refine K_of_V (by decide) (by simp [cat_i, cat_r, fmtV_cat]) (by simp [tT_mostAlone]) ?_
  change Vx G tT_mostAlone (d + 3) 0 [some (.ref (gB G + 95)), some (.ref (gB G + a1)), some (.ref (gB G + a2)), none, none, none, none] [] h0 (some (.int r.1)) r.2
  unfold mT_mostAlone at hm
  refine v_ald_1 dT_mostAlone_0 ?_
  obtain ⟨r1, he, hm⟩ := bd_s hm
  refine v_cv0i (M' := tB_upSet) dT_mostAlone_1 mlT_51 okB_upSet q1 hc_1 (Nat.le_of_ble_eq_true rfl) (ctB_upSet G d _ q1 _ _ he) ?_
  refine v_ist_3 dT_mostAlone_4 (by decide) rfl ?_
  refine v_iconst (x := 0) dT_mostAlone_5 rfl ?_
  refine v_ist_4 dT_mostAlone_6 (by decide) rfl ?_
  refine v_kw (wT_mostAlone_L8 G d _ _ q2 _ _ (fun h4 hm => ?_) FU _ _ hm) (wk_s (wk_n (wk_s (wk_s (wk_s (wk_n (wk_n wk_e)))))))
  refine v_iconst (x := 0) dT_mostAlone_34 rfl ?_
  refine v_ist_4 dT_mostAlone_35 (by decide) rfl ?_
  refine v_iconst (x := 0) dT_mostAlone_37 rfl ?_
  refine v_ist_5 dT_mostAlone_38 (by decide) rfl ?_
  refine v_iconst (x := 1) dT_mostAlone_40 rfl ?_
  refine v_ist_6 dT_mostAlone_41 (by decide) rfl ?_
  exact v_kw (wT_mostAlone_L43 G d _ _ _ FU _ _ _ hm) (wk_s (wk_n (wk_n (wk_s (wk_s (wk_s (wk_s wk_e)))))))
def mA_take_L3 (p1 : Int32) : Nat → Int32 → PH → Option (PH)
  | 0, _, _ => none
  | n + 1, v2, hv =>
    if v2 < 0 then
      some hv
    else
      if 400 ≤ (hv 85 4) then
        mA_take_L3 p1 n (v2 + (-8)) hv
      else
        ck (hv 85 4) 400 <|
        lt (up hv 86 (ix (hv 85 4)) (i2b (i2b (ushr p1 v2)))) fun h1 =>
        lt (up h1 85 4 ((h1 85 4) + 1)) fun h2 =>
        mA_take_L3 p1 n (v2 + (-8)) h2
def mA_take (p1 : Int32) (h0 : PH) : Option (PH) :=
  mA_take_L3 p1 FU 24 h0
theorem wA_take_L3 (G : GG) (d : Nat) (p1 : Int32) (r : PH) : ∀ (n : Nat) (v2 : Int32) (hv : PH), mA_take_L3 p1 n v2 hv = some r → Vx G tA_take d 3 [some (.ref (gB G + 85)), some (.int p1), some (.int v2)] [] hv none r := by
  intro n
  induction n with
  | zero => intro v2 hv hm; cases hm
  | succ n ih =>
    intro v2 hv hm
    unfold mA_take_L3 at hm
    refine v_ild_2 dA_take_3 ?_
    refine v_if_lt dA_take_4 (fun hc => ?_) (fun hc => ?_)
    · replace hm := it hc hm
      cases hm
      exact v_ret dA_take_46 rfl
    · replace hm := ie hc hm
      refine v_ald_0 dA_take_7 ?_
      refine v_getI dA_take_8 fuA_25 sh_85 rf_85_4 ?_
      refine v_sipush (x := 400) dA_take_11 rfl ?_
      refine v_cmp_ge dA_take_14 (fun hc => ?_) (fun hc => ?_)
      · replace hm := it hc hm
        refine v_inc_2 (-8) dA_take_40 rfl (by decide) rfl ?_
        refine v_goto dA_take_43 ?_
        exact v_kw (ih _ _ hm) (wk_s (wk_s (wk_s wk_e)))
      · replace hm := ie hc hm
        refine v_ald_0 dA_take_17 ?_
        refine v_getR dA_take_18 fuA_9 sh_85 rf_85_0 ?_
        refine v_ald_0 dA_take_21 ?_
        refine v_getI dA_take_22 fuA_25 sh_85 rf_85_4 ?_
        refine v_ild_1 dA_take_25 ?_
        refine v_ild_2 dA_take_26 ?_
        refine v_iushr dA_take_27 ?_
        refine v_i2b dA_take_28 ?_
        obtain ⟨hi, hm⟩ := ck_s hm
        refine v_bastl dA_take_29 sh_86 hi hm (fun h1 hm => ?_)
        refine v_ald_0 dA_take_30 ?_
        refine v_dup dA_take_31 rfl ?_
        refine v_getI dA_take_32 fuA_25 sh_85 rf_85_4 ?_
        refine v_iconst (x := 1) dA_take_35 rfl ?_
        refine v_iadd dA_take_36 ?_
        refine v_putIl dA_take_37 fuA_25 ft_10_4 sh_85 rf_85_4 hm (fun h2 hm => ?_)
        refine v_inc_2 (-8) dA_take_40 rfl (by decide) rfl ?_
        refine v_goto dA_take_43 ?_
        exact v_kw (ih _ _ hm) (wk_s (wk_s (wk_s wk_e)))
theorem ctA_take (G : GG) (d : Nat) (p1 : Int32) (h0 : PH) (r : PH) (hm : mA_take p1 h0 = some r) : Kx G tA_take d [.ref (gB G + 85), .int p1] h0 none r := by
  refine K_of_V (by decide) (by simp [cat_i, cat_r, fmtV_cat]) (by simp [tA_take]) ?_
  change Vx G tA_take d 0 [some (.ref (gB G + 85)), some (.int p1), none] [] h0 none r
  unfold mA_take at hm
  refine v_bipush (x := 24) dA_take_0 rfl ?_
  refine v_ist_2 dA_take_2 (by decide) rfl ?_
  exact v_kw (wA_take_L3 G d _ _ FU _ _ hm) (wk_s (wk_s (wk_s wk_e)))
def mA_byteAt (p1 : Int32) (h0 : PH) : Option (Int32) :=
  if p1 < 0 then
    some 0
  else
    if (h0 85 4) ≤ p1 then
      some 0
    else
      if 400 ≤ p1 then
        some 0
      else
        ck p1 400 <|
        some ((h0 86 (ix p1)) &&& 255)
theorem ctA_byteAt (G : GG) (d : Nat) (p1 : Int32) (h0 : PH) (r : Int32) (hm : mA_byteAt p1 h0 = some r) : Kx G tA_byteAt d [.ref (gB G + 85), .int p1] h0 (some (.int r)) h0 := by
  refine K_of_V (by decide) (by simp [cat_i, cat_r, fmtV_cat]) (by simp [tA_byteAt]) ?_
  change Vx G tA_byteAt d 0 [some (.ref (gB G + 85)), some (.int p1)] [] h0 (some (.int r)) h0
  unfold mA_byteAt at hm
  refine v_ild_1 dA_byteAt_0 ?_
  refine v_if_lt dA_byteAt_1 (fun hc => ?_) (fun hc => ?_)
  · replace hm := it hc hm
    refine v_iconst (x := 0) dA_byteAt_32 rfl ?_
    cases hm
    exact v_iret dA_byteAt_33 rfl
  · replace hm := ie hc hm
    refine v_ild_1 dA_byteAt_4 ?_
    refine v_ald_0 dA_byteAt_5 ?_
    refine v_getI dA_byteAt_6 fuA_25 sh_85 rf_85_4 ?_
    refine v_cmp_ge dA_byteAt_9 (fun hc => ?_) (fun hc => ?_)
    · replace hm := it hc hm
      refine v_iconst (x := 0) dA_byteAt_32 rfl ?_
      cases hm
      exact v_iret dA_byteAt_33 rfl
    · replace hm := ie hc hm
      refine v_ild_1 dA_byteAt_12 ?_
      refine v_sipush (x := 400) dA_byteAt_13 rfl ?_
      refine v_cmp_ge dA_byteAt_16 (fun hc => ?_) (fun hc => ?_)
      · replace hm := it hc hm
        refine v_iconst (x := 0) dA_byteAt_32 rfl ?_
        cases hm
        exact v_iret dA_byteAt_33 rfl
      · replace hm := ie hc hm
        refine v_ald_0 dA_byteAt_19 ?_
        refine v_getR dA_byteAt_20 fuA_9 sh_85 rf_85_0 ?_
        refine v_ild_1 dA_byteAt_23 ?_
        obtain ⟨hi, hm⟩ := ck_s hm
        refine v_bald dA_byteAt_24 sh_86 hi ?_
        refine v_sipush (x := 255) dA_byteAt_25 rfl ?_
        refine v_iand dA_byteAt_28 ?_
        refine v_goto dA_byteAt_29 ?_
        cases hm
        exact v_iret dA_byteAt_33 rfl
def mX_within (p0 : Int32) (p1 : Int32) (p2 : Int32) (h0 : PH) : Option (Int32) :=
  if p0 < p1 then
    some 0
  else
    if p2 < p0 then
      some 0
    else
      some 1
theorem ctX_within (G : GG) (d : Nat) (p0 : Int32) (p1 : Int32) (p2 : Int32) (h0 : PH) (r : Int32) (hm : mX_within p0 p1 p2 h0 = some r) : Kx G tX_within d [.int p0, .int p1, .int p2] h0 (some (.int r)) h0 := by
  refine K_of_V (by decide) (by simp [cat_i, cat_r, fmtV_cat]) (by simp [tX_within]) ?_
  change Vx G tX_within d 0 [some (.int p0), some (.int p1), some (.int p2)] [] h0 (some (.int r)) h0
  unfold mX_within at hm
  refine v_ild_0 dX_within_0 ?_
  refine v_ild_1 dX_within_1 ?_
  refine v_cmp_lt dX_within_2 (fun hc => ?_) (fun hc => ?_)
  · replace hm := it hc hm
    refine v_iconst (x := 0) dX_within_14 rfl ?_
    cases hm
    exact v_zret0 dX_within_15 rfl
  · replace hm := ie hc hm
    refine v_ild_0 dX_within_5 ?_
    refine v_ild_2 dX_within_6 ?_
    refine v_cmp_gt dX_within_7 (fun hc => ?_) (fun hc => ?_)
    · replace hm := it hc hm
      refine v_iconst (x := 0) dX_within_14 rfl ?_
      cases hm
      exact v_zret0 dX_within_15 rfl
    · replace hm := ie hc hm
      refine v_iconst (x := 1) dX_within_10 rfl ?_
      refine v_goto dX_within_11 ?_
      cases hm
      exact v_zret1 dX_within_15 rfl
def mA_isLetter (p0 : Int32) (h0 : PH) : Option (Int32) :=
  bd (mX_within p0 97 122 h0) fun r1 =>
  if r1 = 0 then
    bd (mX_within p0 65 90 h0) fun r2 =>
    if r2 = 0 then
      some 0
    else
      some 1
  else
    some 1
