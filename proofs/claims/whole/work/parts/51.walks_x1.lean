def mW_run_L7 (p2 : Int32) (k0 : PH → Option (Int32 × PH)) : Nat → Int32 → PH → Option (Int32 × PH)
  | 0, _, _ => none
  | n + 1, v3, hv =>
    if p2 ≤ v3 then
      k0 hv
    else
      bd (mR_at 8 v3 0 hv) fun r2 =>
      bd (mR_at 8 v3 1 hv) fun r3 =>
      bd (mW_step r2 r3 hv) fun h4 =>
      mW_run_L7 p2 k0 n (v3 + 1) h4
def mW_run (p1 : Int32) (p2 : Int32) (h0 : PH) : Option (Int32 × PH) :=
  lt (up h0 34 4 0) fun h1 =>
  mW_run_L7 p2 (fun (h5 : PH) =>
    if (h5 34 4) ≤ 0 then
      some (0, h5)
    else
      ck 0 64 <|
      some (h5 36 (ix 0), h5)) FU p1 h1
theorem wW_run_L7 (G : GG) (d : Nat) (p2 : Int32) (k0 : PH → Option (Int32 × PH)) (r : Int32 × PH) (kk0 : ∀ (hy : PH), k0 hy = some r → Vx G tW_run (d + 2) 40 [some (.ref (gB G + 34)), none, none, none] [] hy (some (.int r.1)) r.2) : ∀ (n : Nat) (v3 : Int32) (hv : PH), mW_run_L7 p2 k0 n v3 hv = some r → Vx G tW_run (d + 2) 7 [some (.ref (gB G + 34)), none, some (.int p2), some (.int v3)] [] hv (some (.int r.1)) r.2 := by
  intro n
  induction n with
  | zero => intro v3 hv hm; cases hm
  | succ n ih =>
    intro v3 hv hm
    unfold mW_run_L7 at hm
    refine v_ild_3 dW_run_7 ?_
    refine v_ild_2 dW_run_8 ?_
    refine v_cmp_ge dW_run_9 (fun hc => ?_) (fun hc => ?_)
    · replace hm := it hc hm
      exact v_kw (kk0 _ hm) (wk_s (wk_n (wk_n (wk_n wk_e))))
    · replace hm := ie hc hm
      refine v_ald_0 dW_run_12 ?_
      refine v_ald_0 dW_run_13 ?_
      refine v_getR dW_run_14 fuW_22 sh_34 rf_34_1 ?_
      refine v_ild_3 dW_run_17 ?_
      refine v_iconst (x := 0) dW_run_18 rfl ?_
      obtain ⟨r2, he, hm⟩ := bd_s hm
      refine v_cv2i (M' := tR_at) dW_run_19 mlW_30 okR_at sh_8 hc_6 (Nat.le_of_ble_eq_true rfl) (ctR_at G (d + 1) _ _ _ sh_8 _ _ he) ?_
      refine v_ald_0 dW_run_22 ?_
      refine v_getR dW_run_23 fuW_22 sh_34 rf_34_1 ?_
      refine v_ild_3 dW_run_26 ?_
      refine v_iconst (x := 1) dW_run_27 rfl ?_
      obtain ⟨r3, he, hm⟩ := bd_s hm
      refine v_cv2i (M' := tR_at) dW_run_28 mlW_30 okR_at sh_8 hc_6 (Nat.le_of_ble_eq_true rfl) (ctR_at G (d + 1) _ _ _ sh_8 _ _ he) ?_
      obtain ⟨h4, he, hm⟩ := bd_s hm
      refine v_cv2v (M' := tW_step) dW_run_31 mlW_81 okW_step sh_34 hc_3 (Nat.le_of_ble_eq_true rfl) (ctW_step G d _ _ _ _ he) ?_
      refine v_inc_3 1 dW_run_34 rfl (by decide) rfl ?_
      refine v_goto dW_run_37 ?_
      exact v_kw (ih _ _ hm) (wk_s (wk_n (wk_s (wk_s wk_e))))
theorem ctW_run (G : GG) (d : Nat) (p1 : Int32) (p2 : Int32) (h0 : PH) (r : Int32 × PH) (hm : mW_run p1 p2 h0 = some r) : Kx G tW_run (d + 2) [.ref (gB G + 34), .int p1, .int p2] h0 (some (.int r.1)) r.2 := by
  refine K_of_V (by decide) (by simp [Value.category]) (by simp [tW_run]) ?_
  change Vx G tW_run (d + 2) 0 [some (.ref (gB G + 34)), some (.int p1), some (.int p2), none] [] h0 (some (.int r.1)) r.2
  unfold mW_run at hm
  refine v_ald_0 dW_run_0 ?_
  refine v_iconst (x := 0) dW_run_1 rfl ?_
  refine v_putIl dW_run_2 fuW_78 ft_3_4 sh_34 rf_34_4 hm (fun h1 hm => ?_)
  refine v_ild_1 dW_run_5 ?_
  refine v_ist_3 dW_run_6 (by decide) rfl ?_
  refine v_kw (wW_run_L7 G d _ _ _ (fun h5 hm => ?_) FU _ _ hm) (wk_s (wk_n (wk_s (wk_s wk_e))))
  refine v_ald_0 dW_run_40 ?_
  refine v_getI dW_run_41 fuW_78 sh_34 rf_34_4 ?_
  refine v_if_le dW_run_44 (fun hc => ?_) (fun hc => ?_)
  · replace hm := it hc hm
    refine v_iconst (x := 0) dW_run_56 rfl ?_
    cases hm
    exact v_iret dW_run_57 rfl
  · replace hm := ie hc hm
    refine v_ald_0 dW_run_47 ?_
    refine v_getR dW_run_48 fuW_15 sh_34 rf_34_3 ?_
    refine v_iconst (x := 0) dW_run_51 rfl ?_
    obtain ⟨hi, hm⟩ := ck_s hm
    refine v_iald dW_run_52 sh_36 hi ?_
    refine v_goto dW_run_53 ?_
    cases hm
    exact v_iret dW_run_57 rfl
def mW_applies (p1 : Int32) (h0 : PH) : Option (Int32 × PH) :=
  bd (mR_at 6 p1 2 h0) fun r1 =>
  bd (mR_at 6 p1 3 h0) fun r2 =>
  if r2 ≤ r1 then
    some (1, h0)
  else
    bd2 (mW_run r1 r2 h0) fun r3 h4 =>
    if r3 = 0 then
      some (0, h4)
    else
      some (1, h4)
theorem ctW_applies (G : GG) (d : Nat) (p1 : Int32) (h0 : PH) (r : Int32 × PH) (hm : mW_applies p1 h0 = some r) : Kx G tW_applies (d + 3) [.ref (gB G + 34), .int p1] h0 (some (.int r.1)) r.2 := by
  refine K_of_V (by decide) (by simp [Value.category]) (by simp [tW_applies]) ?_
  change Vx G tW_applies (d + 3) 0 [some (.ref (gB G + 34)), some (.int p1), none, none] [] h0 (some (.int r.1)) r.2
  unfold mW_applies at hm
  refine v_ald_0 dW_applies_0 ?_
  refine v_getR dW_applies_1 fuW_18 sh_34 rf_34_0 ?_
  refine v_ild_1 dW_applies_4 ?_
  refine v_iconst (x := 2) dW_applies_5 rfl ?_
  obtain ⟨r1, he, hm⟩ := bd_s hm
  refine v_cv2i (M' := tR_at) dW_applies_6 mlW_30 okR_at sh_6 hc_6 (Nat.le_of_ble_eq_true rfl) (ctR_at G (d + 2) _ _ _ sh_6 _ _ he) ?_
  refine v_ist_2 dW_applies_9 (by decide) rfl ?_
  refine v_ald_0 dW_applies_10 ?_
  refine v_getR dW_applies_11 fuW_18 sh_34 rf_34_0 ?_
  refine v_ild_1 dW_applies_14 ?_
  refine v_iconst (x := 3) dW_applies_15 rfl ?_
  obtain ⟨r2, he, hm⟩ := bd_s hm
  refine v_cv2i (M' := tR_at) dW_applies_16 mlW_30 okR_at sh_6 hc_6 (Nat.le_of_ble_eq_true rfl) (ctR_at G (d + 2) _ _ _ sh_6 _ _ he) ?_
  refine v_ist_3 dW_applies_19 (by decide) rfl ?_
  refine v_ild_2 dW_applies_20 ?_
  refine v_ild_3 dW_applies_21 ?_
  refine v_cmp_ge dW_applies_22 (fun hc => ?_) (fun hc => ?_)
  · replace hm := it hc hm
    refine v_iconst (x := 1) dW_applies_34 rfl ?_
    refine v_goto dW_applies_35 ?_
    cases hm
    exact v_zret1 dW_applies_39 rfl
  · replace hm := ie hc hm
    refine v_ald_0 dW_applies_25 ?_
    refine v_ild_2 dW_applies_26 ?_
    refine v_ild_3 dW_applies_27 ?_
    obtain ⟨r3, h4, he, hm⟩ := bd2_s hm
    refine v_cv2i (M' := tW_run) dW_applies_28 mlW_42 okW_run sh_34 hc_3 (Nat.le_of_ble_eq_true rfl) (ctW_run G d _ _ _ _ he) ?_
    refine v_if_eq dW_applies_31 (fun hc => ?_) (fun hc => ?_)
    · replace hm := it hc hm
      refine v_iconst (x := 0) dW_applies_38 rfl ?_
      cases hm
      exact v_zret0 dW_applies_39 rfl
    · replace hm := ie hc hm
      refine v_iconst (x := 1) dW_applies_34 rfl ?_
      refine v_goto dW_applies_35 ?_
      cases hm
      exact v_zret1 dW_applies_39 rfl
def mW_held (p0 : Int32) (p1 : Int32) (h0 : PH) : Option (Int32) :=
  some (imax 0 (imin p1 p0))
theorem ctW_held (G : GG) (d : Nat) (p0 : Int32) (p1 : Int32) (h0 : PH) (r : Int32) (hm : mW_held p0 p1 h0 = some r) : Kx G tW_held d [.int p0, .int p1] h0 (some (.int r)) h0 := by
  refine K_of_V (by decide) (by simp [Value.category]) (by simp [tW_held]) ?_
  change Vx G tW_held d 0 [some (.int p0), some (.int p1)] [] h0 (some (.int r)) h0
  unfold mW_held at hm
  refine v_iconst (x := 0) dW_held_0 rfl ?_
  refine v_ild_1 dW_held_1 ?_
  refine v_ild_0 dW_held_2 ?_
  refine v_mmin dW_held_3 mlW_70 (Nat.le_of_ble_eq_true rfl) ?_
  refine v_mmax dW_held_6 mlW_75 (Nat.le_of_ble_eq_true rfl) ?_
  cases hm
  exact v_iret dW_held_9 rfl
def mW_customary (a0 : Nat) (p1 : Int32) (p2 : Int32) (h0 : PH) : Option (Int32) :=
  if p2 = 0 then
    bd (mB_read a0 p1 7 h0) fun r1 =>
    some (4 + (2 * r1))
  else
    if p2 = 1 then
      bd (mB_read a0 p1 6 h0) fun r2 =>
      some (300 - (30 * r2))
    else
      bd (mB_read a0 p1 6 h0) fun r3 =>
      some ((h0 a0 2) - r3)
theorem ctW_customary (G : GG) (d : Nat) (a0 : Nat) (p1 : Int32) (p2 : Int32) (q0 : shL[a0]? = some (1, 8)) (h0 : PH) (r : Int32) (hm : mW_customary a0 p1 p2 h0 = some r) : Kx G tW_customary (d + 1) [.ref (gB G + a0), .int p1, .int p2] h0 (some (.int r)) h0 := by
  refine K_of_V (by decide) (by simp [Value.category]) (by simp [tW_customary]) ?_
  change Vx G tW_customary (d + 1) 0 [some (.ref (gB G + a0)), some (.int p1), some (.int p2)] [] h0 (some (.int r)) h0
  unfold mW_customary at hm
  refine v_ild_2 dW_customary_0 ?_
  refine v_sw dW_customary_1 ?_
  refine v_selc (fun hc => ?_) (fun hc => ?_)
  · replace hm := it hc hm
    refine v_iconst (x := 4) dW_customary_28 rfl ?_
    refine v_iconst (x := 2) dW_customary_29 rfl ?_
    refine v_ald_0 dW_customary_30 ?_
    refine v_ild_1 dW_customary_31 ?_
    refine v_bipush (x := 7) dW_customary_32 rfl ?_
    obtain ⟨r1, he, hm⟩ := bd_s hm
    refine v_cv2i (M' := tB_read) dW_customary_34 mlW_52 okB_read q0 hc_1 (Nat.le_of_ble_eq_true rfl) (ctB_read G d _ _ _ q0 _ _ he) ?_
    refine v_imul dW_customary_37 ?_
    refine v_iadd dW_customary_38 ?_
    cases hm
    exact v_iret dW_customary_39 rfl
  · replace hm := ie hc hm
    refine v_selc (fun hc => ?_) (fun hc => ?_)
    · replace hm := it hc hm
      refine v_sipush (x := 300) dW_customary_40 rfl ?_
      refine v_bipush (x := 30) dW_customary_43 rfl ?_
      refine v_ald_0 dW_customary_45 ?_
      refine v_ild_1 dW_customary_46 ?_
      refine v_bipush (x := 6) dW_customary_47 rfl ?_
      obtain ⟨r2, he, hm⟩ := bd_s hm
      refine v_cv2i (M' := tB_read) dW_customary_49 mlW_52 okB_read q0 hc_1 (Nat.le_of_ble_eq_true rfl) (ctB_read G d _ _ _ q0 _ _ he) ?_
      refine v_imul dW_customary_52 ?_
      refine v_isub dW_customary_53 ?_
      cases hm
      exact v_iret dW_customary_54 rfl
    · replace hm := ie hc hm
      refine v_seln ?_
      refine v_ald_0 dW_customary_55 ?_
      refine v_getI dW_customary_56 fuW_61 q0 (rf_bor_2 q0) ?_
      refine v_ald_0 dW_customary_59 ?_
      refine v_ild_1 dW_customary_60 ?_
      refine v_bipush (x := 6) dW_customary_61 rfl ?_
      obtain ⟨r3, he, hm⟩ := bd_s hm
      refine v_cv2i (M' := tB_read) dW_customary_63 mlW_52 okB_read q0 hc_1 (Nat.le_of_ble_eq_true rfl) (ctB_read G d _ _ _ q0 _ _ he) ?_
      refine v_isub dW_customary_66 ?_
      cases hm
      exact v_iret dW_customary_67 rfl
def mW_tells_L22 (a1 : Nat) (p2 : Int32) (p3 : Int32) (p4 : Int32) (p5 : Int32) (k0 : Int32 → PH → Option (Int32 × PH)) (k1 : PH → Option (Int32 × PH)) : Nat → Int32 → Int32 → PH → Option (Int32 × PH)
  | 0, _, _, _ => none
  | n + 1, v6, v7, hv =>
    if (hv 6 3) ≤ v7 then
      k1 hv
    else
      bd (mR_at 6 v7 0 hv) fun r3 =>
      if r3 = p4 then
        jn2 (fun (x5 : Int32) (h6 : PH) =>
          bd2 (mW_applies v7 h6) fun r7 h8 =>
          if r7 = 0 then
            mW_tells_L22 a1 p2 p3 p4 p5 k0 k1 n x5 (v7 + 1) h8
          else
            k0 v7 h8) fun j4 =>
        if v6 = 0 then
          bd (mW_gather a1 p2 p3 hv) fun h9 =>
          j4 1 h9
        else
          j4 v6 hv
      else
        mW_tells_L22 a1 p2 p3 p4 p5 k0 k1 n v6 (v7 + 1) hv
def mW_tells (a1 : Nat) (p2 : Int32) (p3 : Int32) (p4 : Int32) (h0 : PH) : Option (Int32 × PH) :=
  jn1 (fun (x2 : Int32) =>
    mW_tells_L22 a1 p2 p3 p4 x2 (fun (x10 : Int32) (h11 : PH) =>
      bd (mR_at 6 x10 1 h11) fun r12 =>
      bd (mR_at 6 x10 2 h11) fun r13 =>
      bd2 (mW_run r12 r13 h11) fun r14 h15 =>
      bd (mW_held r14 x2 h15) fun r16 =>
      some (r16, h15)) (fun (h17 : PH) =>
      bd (mW_customary a1 p2 p4 h17) fun r18 =>
      bd (mW_held r18 x2 h17) fun r19 =>
      some (r19, h17)) FU 0 0 h0) fun j1 =>
  if p4 = 1 then
    j1 1000
  else
    j1 99
theorem wW_tells_L22 (G : GG) (d : Nat) (a1 : Nat) (p2 : Int32) (p3 : Int32) (p4 : Int32) (p5 : Int32) (q1 : shL[a1]? = some (1, 8)) (k0 : Int32 → PH → Option (Int32 × PH)) (k1 : PH → Option (Int32 × PH)) (r : Int32 × PH) (kk0 : ∀ (y7 : Int32) (hy : PH), k0 y7 hy = some r → Vx G tW_tells (d + 4) 76 [some (.ref (gB G + 34)), none, none, none, none, some (.int p5), none, some (.int y7)] [] hy (some (.int r.1)) r.2) (kk1 : ∀ (hy : PH), k1 hy = some r → Vx G tW_tells (d + 4) 112 [none, some (.ref (gB G + a1)), some (.int p2), none, some (.int p4), some (.int p5), none, none] [] hy (some (.int r.1)) r.2) : ∀ (n : Nat) (v6 : Int32) (v7 : Int32) (hv : PH), mW_tells_L22 a1 p2 p3 p4 p5 k0 k1 n v6 v7 hv = some r → Vx G tW_tells (d + 4) 22 [some (.ref (gB G + 34)), some (.ref (gB G + a1)), some (.int p2), some (.int p3), some (.int p4), some (.int p5), some (.int v6), some (.int v7)] [] hv (some (.int r.1)) r.2 := by
  intro n
  induction n with
  | zero => intro v6 v7 hv hm; cases hm
  | succ n ih =>
    intro v6 v7 hv hm
    unfold mW_tells_L22 at hm
    refine v_ild_7 dW_tells_22 ?_
    refine v_ald_0 dW_tells_24 ?_
    refine v_getR dW_tells_25 fuW_18 sh_34 rf_34_0 ?_
    refine v_getI dW_tells_28 fuW_25 sh_6 rf_6_3 ?_
    refine v_cmp_ge dW_tells_31 (fun hc => ?_) (fun hc => ?_)
    · replace hm := it hc hm
      exact v_kw (kk1 _ hm) (wk_n (wk_s (wk_s (wk_n (wk_s (wk_s (wk_n (wk_n wk_e))))))))
    · replace hm := ie hc hm
      refine v_ald_0 dW_tells_34 ?_
      refine v_getR dW_tells_35 fuW_18 sh_34 rf_34_0 ?_
      refine v_ild_7 dW_tells_38 ?_
      refine v_iconst (x := 0) dW_tells_40 rfl ?_
      obtain ⟨r3, he, hm⟩ := bd_s hm
      refine v_cv2i (M' := tR_at) dW_tells_41 mlW_30 okR_at sh_6 hc_6 (Nat.le_of_ble_eq_true rfl) (ctR_at G (d + 3) _ _ _ sh_6 _ _ he) ?_
      refine v_ild_4 dW_tells_44 ?_
      refine v_cmp_eq dW_tells_46 (fun hc => ?_) (fun hc => ?_)
      · replace hm := it hc hm
        refine v_ild_6 dW_tells_52 ?_
        refine v_j2 (fun (x5 : Int32) (h6 : PH) => Vx G tW_tells (d + 4) 67 [some (.ref (gB G + 34)), some (.ref (gB G + a1)), some (.int p2), some (.int p3), some (.int p4), some (.int p5), some (.int x5), some (.int v7)] [] h6 (some (.int r.1)) r.2) hm (fun x5 h6 hm => ?_) (fun j4 kj4 hm => ?_)
        · refine v_ald_0 dW_tells_67 ?_
          refine v_ild_7 dW_tells_68 ?_
          obtain ⟨r7, h8, he, hm⟩ := bd2_s hm
          refine v_cv1i (M' := tW_applies) dW_tells_70 mlW_38 okW_applies sh_34 hc_3 (Nat.le_of_ble_eq_true rfl) (ctW_applies G d _ _ _ he) ?_
          refine v_if_eq dW_tells_73 (fun hc => ?_) (fun hc => ?_)
          · replace hm := it hc hm
            refine v_inc_7 1 dW_tells_106 rfl (by decide) rfl ?_
            refine v_goto dW_tells_109 ?_
            exact v_kw (ih _ _ _ hm) (wk_s (wk_s (wk_s (wk_s (wk_s (wk_s (wk_s (wk_s wk_e))))))))
          · replace hm := ie hc hm
            exact v_kw (kk0 _ _ hm) (wk_s (wk_n (wk_n (wk_n (wk_n (wk_s (wk_n (wk_s wk_e))))))))
        · refine v_if_ne dW_tells_54 (fun hc => ?_) (fun hc => ?_)
          · replace hm := it hc hm
            refine v_ald_0 dW_tells_57 ?_
            refine v_ald_1 dW_tells_58 ?_
            refine v_ild_2 dW_tells_59 ?_
            refine v_ild_3 dW_tells_60 ?_
            obtain ⟨h9, he, hm⟩ := bd_s hm
            refine v_cv3v (M' := tW_gather) dW_tells_61 mlW_34 okW_gather sh_34 hc_3 (Nat.le_of_ble_eq_true rfl) (ctW_gather G (d + 2) _ _ _ q1 _ _ he) ?_
            refine v_iconst (x := 1) dW_tells_64 rfl ?_
            refine v_ist_6 dW_tells_65 (by decide) rfl ?_
            exact v_kw (kj4 _ _ hm) (wk_s (wk_s (wk_s (wk_s (wk_s (wk_s (wk_s (wk_s wk_e))))))))
          · replace hm := ie hc hm
            exact v_kw (kj4 _ _ hm) (wk_s (wk_s (wk_s (wk_s (wk_s (wk_s (wk_s (wk_s wk_e))))))))
      · replace hm := ie hc hm
        refine v_goto dW_tells_49 ?_
        refine v_inc_7 1 dW_tells_106 rfl (by decide) rfl ?_
        refine v_goto dW_tells_109 ?_
        exact v_kw (ih _ _ _ hm) (wk_s (wk_s (wk_s (wk_s (wk_s (wk_s (wk_s (wk_s wk_e))))))))
theorem ctW_tells (G : GG) (d : Nat) (a1 : Nat) (p2 : Int32) (p3 : Int32) (p4 : Int32) (q1 : shL[a1]? = some (1, 8)) (h0 : PH) (r : Int32 × PH) (hm : mW_tells a1 p2 p3 p4 h0 = some r) : Kx G tW_tells (d + 4) [.ref (gB G + 34), .ref (gB G + a1), .int p2, .int p3, .int p4] h0 (some (.int r.1)) r.2 := by
  refine K_of_V (by decide) (by simp [Value.category]) (by simp [tW_tells]) ?_
  change Vx G tW_tells (d + 4) 0 [some (.ref (gB G + 34)), some (.ref (gB G + a1)), some (.int p2), some (.int p3), some (.int p4), none, none, none] [] h0 (some (.int r.1)) r.2
  unfold mW_tells at hm
  refine v_ild_4 dW_tells_0 ?_
  refine v_iconst (x := 1) dW_tells_2 rfl ?_
  refine v_j1 (fun (x2 : Int32) => Vx G tW_tells (d + 4) 14 [some (.ref (gB G + 34)), some (.ref (gB G + a1)), some (.int p2), some (.int p3), some (.int p4), none, none, none] [.int x2] h0 (some (.int r.1)) r.2) hm (fun x2 hm => ?_) (fun j1 kj1 hm => ?_)
  · refine v_ist_5 dW_tells_14 (by decide) rfl ?_
    refine v_iconst (x := 0) dW_tells_16 rfl ?_
    refine v_ist_6 dW_tells_17 (by decide) rfl ?_
    refine v_iconst (x := 0) dW_tells_19 rfl ?_
    refine v_ist_7 dW_tells_20 (by decide) rfl ?_
    refine v_kw (wW_tells_L22 G d _ _ _ _ _ q1 _ _ _ (fun x10 h11 hm => ?_) (fun h17 hm => ?_) FU _ _ _ hm) (wk_s (wk_s (wk_s (wk_s (wk_s (wk_s (wk_s (wk_s wk_e))))))))
    · refine v_ald_0 dW_tells_76 ?_
      refine v_ald_0 dW_tells_77 ?_
      refine v_getR dW_tells_78 fuW_18 sh_34 rf_34_0 ?_
      refine v_ild_7 dW_tells_81 ?_
      refine v_iconst (x := 1) dW_tells_83 rfl ?_
      obtain ⟨r12, he, hm⟩ := bd_s hm
      refine v_cv2i (M' := tR_at) dW_tells_84 mlW_30 okR_at sh_6 hc_6 (Nat.le_of_ble_eq_true rfl) (ctR_at G (d + 3) _ _ _ sh_6 _ _ he) ?_
      refine v_ald_0 dW_tells_87 ?_
      refine v_getR dW_tells_88 fuW_18 sh_34 rf_34_0 ?_
      refine v_ild_7 dW_tells_91 ?_
      refine v_iconst (x := 2) dW_tells_93 rfl ?_
      obtain ⟨r13, he, hm⟩ := bd_s hm
      refine v_cv2i (M' := tR_at) dW_tells_94 mlW_30 okR_at sh_6 hc_6 (Nat.le_of_ble_eq_true rfl) (ctR_at G (d + 3) _ _ _ sh_6 _ _ he) ?_
      obtain ⟨r14, h15, he, hm⟩ := bd2_s hm
      refine v_cv2i (M' := tW_run) dW_tells_97 mlW_42 okW_run sh_34 hc_3 (Nat.le_of_ble_eq_true rfl) (ctW_run G (d + 1) _ _ _ _ he) ?_
      refine v_ild_5 dW_tells_100 ?_
      obtain ⟨r16, he, hm⟩ := bd_s hm
      refine v_cs2i (M' := tW_held) dW_tells_102 mlW_45 okW_held (Nat.le_of_ble_eq_true rfl) (ctW_held G (d + 3) _ _ _ _ he) ?_
      cases hm
      exact v_iret dW_tells_105 rfl
    · refine v_ald_1 dW_tells_112 ?_
      refine v_ild_2 dW_tells_113 ?_
      refine v_ild_4 dW_tells_114 ?_
      obtain ⟨r18, he, hm⟩ := bd_s hm
      refine v_cs3i (M' := tW_customary) dW_tells_116 mlW_48 okW_customary (Nat.le_of_ble_eq_true rfl) (ctW_customary G (d + 2) _ _ _ q1 _ _ he) ?_
      refine v_ild_5 dW_tells_119 ?_
      obtain ⟨r19, he, hm⟩ := bd_s hm
      refine v_cs2i (M' := tW_held) dW_tells_121 mlW_45 okW_held (Nat.le_of_ble_eq_true rfl) (ctW_held G (d + 3) _ _ _ _ he) ?_
      cases hm
      exact v_iret dW_tells_124 rfl
  · refine v_cmp_ne dW_tells_3 (fun hc => ?_) (fun hc => ?_)
    · replace hm := it hc hm
      refine v_sipush (x := 1000) dW_tells_6 rfl ?_
      refine v_goto dW_tells_9 ?_
      exact v_kw (kj1 _ hm) (wk_s (wk_s (wk_s (wk_s (wk_s (wk_n (wk_n (wk_n wk_e))))))))
    · replace hm := ie hc hm
      refine v_bipush (x := 99) dW_tells_12 rfl ?_
      exact v_kw (kj1 _ hm) (wk_s (wk_s (wk_s (wk_s (wk_s (wk_n (wk_n (wk_n wk_e))))))))
def mP_keep (a1 : Nat) (p2 : Int32) (h0 : PH) : Option (PH) :=
  dz 6 <|
  lt (irm ((h0 70 2) + (h0 70 3)) 6) fun x1 =>
  ck x1 6 <|
  bd (mB_copyFrom (73 + 2 * ix x1) a1 h0) fun h3 =>
  ck x1 6 <|
  lt (up h3 72 (ix x1) p2) fun h4 =>
  if 6 ≤ (h4 70 3) then
    dz 6 <|
    lt (up h4 70 2 (irm ((h4 70 2) + 1) 6)) fun h5 =>
    some h5
  else
    lt (up h4 70 3 ((h4 70 3) + 1)) fun h6 =>
    some h6
theorem ctP_keep (G : GG) (d : Nat) (a1 : Nat) (p2 : Int32) (q1 : shL[a1]? = some (1, 8)) (h0 : PH) (r : PH) (hm : mP_keep a1 p2 h0 = some r) : Kx G tP_keep (d + 1) [.ref (gB G + 70), .ref (gB G + a1), .int p2] h0 none r := by
  refine K_of_V (by decide) (by simp [Value.category]) (by simp [tP_keep]) ?_
  change Vx G tP_keep (d + 1) 0 [some (.ref (gB G + 70)), some (.ref (gB G + a1)), some (.int p2), none] [] h0 none r
  unfold mP_keep at hm
  refine v_ald_0 dP_keep_0 ?_
  refine v_getI dP_keep_1 fuP_20 sh_70 rf_70_2 ?_
  refine v_ald_0 dP_keep_4 ?_
  refine v_getI dP_keep_5 fuP_24 sh_70 rf_70_3 ?_
  refine v_iadd dP_keep_8 ?_
  refine v_bipush (x := 6) dP_keep_9 rfl ?_
  obtain ⟨hz, hm⟩ := dz_s hm
  refine v_irem dP_keep_11 hz ?_
  refine v_top hm (fun x1 hm => ?_)
  refine v_ist_3 dP_keep_12 (by decide) rfl ?_
  refine v_ald_0 dP_keep_13 ?_
  refine v_getR dP_keep_14 fuP_11 sh_70 rf_70_0 ?_
  refine v_ild_3 dP_keep_17 ?_
  obtain ⟨hi, hm⟩ := ck_s hm
  have u2 := kept_all (ix x1) (Nat.not_le.mp fun q => hi (Or.inr q))
  refine v_aald dP_keep_18 sh_71 hi u2.1 ?_
  refine v_ald_1 dP_keep_19 ?_
  obtain ⟨h3, he, hm⟩ := bd_s hm
  refine v_cv1v (M' := tB_copyFrom) dP_keep_20 mlP_27 okB_copyFrom u2.2 hc_1 (Nat.le_of_ble_eq_true rfl) (ctB_copyFrom G d _ _ u2.2 q1 _ _ he) ?_
  refine v_ald_0 dP_keep_23 ?_
  refine v_getR dP_keep_24 fuP_15 sh_70 rf_70_1 ?_
  refine v_ild_3 dP_keep_27 ?_
  refine v_ild_2 dP_keep_28 ?_
  obtain ⟨hi, hm⟩ := ck_s hm
  refine v_iastl dP_keep_29 sh_72 hi hm (fun h4 hm => ?_)
  refine v_ald_0 dP_keep_30 ?_
  refine v_getI dP_keep_31 fuP_24 sh_70 rf_70_3 ?_
  refine v_bipush (x := 6) dP_keep_34 rfl ?_
  refine v_cmp_ge dP_keep_36 (fun hc => ?_) (fun hc => ?_)
  · replace hm := it hc hm
    refine v_ald_0 dP_keep_52 ?_
    refine v_ald_0 dP_keep_53 ?_
    refine v_getI dP_keep_54 fuP_20 sh_70 rf_70_2 ?_
    refine v_iconst (x := 1) dP_keep_57 rfl ?_
    refine v_iadd dP_keep_58 ?_
    refine v_bipush (x := 6) dP_keep_59 rfl ?_
    obtain ⟨hz, hm⟩ := dz_s hm
    refine v_irem dP_keep_61 hz ?_
    refine v_putIl dP_keep_62 fuP_20 ft_4_2 sh_70 rf_70_2 hm (fun h5 hm => ?_)
    cases hm
    exact v_ret dP_keep_65 rfl
  · replace hm := ie hc hm
    refine v_ald_0 dP_keep_39 ?_
    refine v_dup dP_keep_40 rfl ?_
    refine v_getI dP_keep_41 fuP_24 sh_70 rf_70_3 ?_
    refine v_iconst (x := 1) dP_keep_44 rfl ?_
    refine v_iadd dP_keep_45 ?_
    refine v_putIl dP_keep_46 fuP_24 ft_4_3 sh_70 rf_70_3 hm (fun h6 hm => ?_)
    refine v_goto dP_keep_49 ?_
    cases hm
    exact v_ret dP_keep_65 rfl
def mP_goBack (a1 : Nat) (h0 : PH) : Option (Int32 × PH) :=
  lt (up h0 70 3 (imax 0 ((h0 70 3) - 1))) fun h1 =>
  dz 6 <|
  lt (irm ((h1 70 2) + (h1 70 3)) 6) fun x2 =>
  ck x2 6 <|
  bd (mB_copyFrom a1 (73 + 2 * ix x2) h1) fun h4 =>
  ck x2 6 <|
  some (h4 72 (ix x2), h4)
theorem ctP_goBack (G : GG) (d : Nat) (a1 : Nat) (q1 : shL[a1]? = some (1, 8)) (h0 : PH) (r : Int32 × PH) (hm : mP_goBack a1 h0 = some r) : Kx G tP_goBack (d + 1) [.ref (gB G + 70), .ref (gB G + a1)] h0 (some (.int r.1)) r.2 := by
  refine K_of_V (by decide) (by simp [Value.category]) (by simp [tP_goBack]) ?_
  change Vx G tP_goBack (d + 1) 0 [some (.ref (gB G + 70)), some (.ref (gB G + a1)), none] [] h0 (some (.int r.1)) r.2
  unfold mP_goBack at hm
  refine v_ald_0 dP_goBack_0 ?_
  refine v_iconst (x := 0) dP_goBack_1 rfl ?_
  refine v_ald_0 dP_goBack_2 ?_
  refine v_getI dP_goBack_3 fuP_24 sh_70 rf_70_3 ?_
  refine v_iconst (x := 1) dP_goBack_6 rfl ?_
  refine v_isub dP_goBack_7 ?_
  refine v_mmax dP_goBack_8 mlP_31 (Nat.le_of_ble_eq_true rfl) ?_
  refine v_putIl dP_goBack_11 fuP_24 ft_4_3 sh_70 rf_70_3 hm (fun h1 hm => ?_)
  refine v_ald_0 dP_goBack_14 ?_
  refine v_getI dP_goBack_15 fuP_20 sh_70 rf_70_2 ?_
  refine v_ald_0 dP_goBack_18 ?_
  refine v_getI dP_goBack_19 fuP_24 sh_70 rf_70_3 ?_
  refine v_iadd dP_goBack_22 ?_
  refine v_bipush (x := 6) dP_goBack_23 rfl ?_
  obtain ⟨hz, hm⟩ := dz_s hm
  refine v_irem dP_goBack_25 hz ?_
  refine v_top hm (fun x2 hm => ?_)
  refine v_ist_2 dP_goBack_26 (by decide) rfl ?_
  refine v_ald_1 dP_goBack_27 ?_
  refine v_ald_0 dP_goBack_28 ?_
  refine v_getR dP_goBack_29 fuP_11 sh_70 rf_70_0 ?_
  refine v_ild_2 dP_goBack_32 ?_
  obtain ⟨hi, hm⟩ := ck_s hm
  have u3 := kept_all (ix x2) (Nat.not_le.mp fun q => hi (Or.inr q))
  refine v_aald dP_goBack_33 sh_71 hi u3.1 ?_
  obtain ⟨h4, he, hm⟩ := bd_s hm
  refine v_cv1v (M' := tB_copyFrom) dP_goBack_34 mlP_27 okB_copyFrom q1 hc_1 (Nat.le_of_ble_eq_true rfl) (ctB_copyFrom G d _ _ q1 u3.2 _ _ he) ?_
  refine v_ald_0 dP_goBack_37 ?_
  refine v_getR dP_goBack_38 fuP_15 sh_70 rf_70_1 ?_
  refine v_ild_2 dP_goBack_41 ?_
  obtain ⟨hi, hm⟩ := ck_s hm
  refine v_iald dP_goBack_42 sh_72 hi ?_
  cases hm
  exact v_iret dP_goBack_43 rfl
def mP_forget (h0 : PH) : Option (PH) :=
  lt (up h0 70 3 0) fun h1 =>
  some h1
theorem ctP_forget (G : GG) (d : Nat) (h0 : PH) (r : PH) (hm : mP_forget h0 = some r) : Kx G tP_forget d [.ref (gB G + 70)] h0 none r := by
  refine K_of_V (by decide) (by simp [Value.category]) (by simp [tP_forget]) ?_
  change Vx G tP_forget d 0 [some (.ref (gB G + 70))] [] h0 none r
  unfold mP_forget at hm
  refine v_ald_0 dP_forget_0 ?_
  refine v_iconst (x := 0) dP_forget_1 rfl ?_
  refine v_putIl dP_forget_2 fuP_24 ft_4_3 sh_70 rf_70_3 hm (fun h1 hm => ?_)
  cases hm
  exact v_ret dP_forget_5 rfl
def mO_nextTo_L4 (a0 : Nat) (p1 : Int32) (h0 : PH) : Nat → Int32 → Int32 → Option (Int32)
  | 0, _, _ => none
  | n + 1, v2, v3 =>
    if (h0 (a0 + 9) 3) ≤ v3 then
      some v2
    else
      bd (mR_at (a0 + 9) v3 0 h0) fun r1 =>
      bd (mR_at (a0 + 9) v3 1 h0) fun r2 =>
      jn1 (fun (x4 : Int32) =>
        if r2 = p1 then
          lt (x4 ||| (1 <<< (r1 &&& 31))) fun x5 =>
          mO_nextTo_L4 a0 p1 h0 n x5 (v3 + 1)
        else
          mO_nextTo_L4 a0 p1 h0 n x4 (v3 + 1)) fun j3 =>
      if r1 = p1 then
        lt (v2 ||| (1 <<< (r2 &&& 31))) fun x6 =>
        j3 x6
      else
        j3 v2
def mO_nextTo (a0 : Nat) (p1 : Int32) (h0 : PH) : Option (Int32) :=
  mO_nextTo_L4 a0 p1 h0 FU 0 0
theorem wO_nextTo_L4 (G : GG) (d : Nat) (a0 : Nat) (p1 : Int32) (h0 : PH) (q0 : shL[a0]? = some (11, 14)) (r : Int32) : ∀ (n : Nat) (v2 : Int32) (v3 : Int32), mO_nextTo_L4 a0 p1 h0 n v2 v3 = some r → Vx G tO_nextTo (d + 1) 4 [some (.ref (gB G + a0)), some (.int p1), some (.int v2), some (.int v3), none, none] [] h0 (some (.int r)) h0 := by
  intro n
  induction n with
  | zero => intro v2 v3 hm; cases hm
  | succ n ih =>
    intro v2 v3 hm
    unfold mO_nextTo_L4 at hm
    refine v_ild_3 dO_nextTo_4 ?_
    refine v_ald_0 dO_nextTo_5 ?_
    refine v_getR dO_nextTo_6 fuO_29 q0 (rf_told_4 q0) ?_
    refine v_getI dO_nextTo_9 fuO_61 (sh_told_4 q0) (rf_rows_3 (sh_told_4 q0)) ?_
    refine v_cmp_ge dO_nextTo_12 (fun hc => ?_) (fun hc => ?_)
    · replace hm := it hc hm
      refine v_ild_2 dO_nextTo_69 ?_
      cases hm
      exact v_iret dO_nextTo_70 rfl
    · replace hm := ie hc hm
      refine v_ald_0 dO_nextTo_15 ?_
      refine v_getR dO_nextTo_16 fuO_29 q0 (rf_told_4 q0) ?_
      refine v_ild_3 dO_nextTo_19 ?_
      refine v_iconst (x := 0) dO_nextTo_20 rfl ?_
      obtain ⟨r1, he, hm⟩ := bd_s hm
      refine v_cv2i (M' := tR_at) dO_nextTo_21 mlO_65 okR_at (sh_told_4 q0) hc_6 (Nat.le_of_ble_eq_true rfl) (ctR_at G d _ _ _ (sh_told_4 q0) _ _ he) ?_
      refine v_ist_4 dO_nextTo_24 (by decide) rfl ?_
      refine v_ald_0 dO_nextTo_26 ?_
      refine v_getR dO_nextTo_27 fuO_29 q0 (rf_told_4 q0) ?_
      refine v_ild_3 dO_nextTo_30 ?_
      refine v_iconst (x := 1) dO_nextTo_31 rfl ?_
      obtain ⟨r2, he, hm⟩ := bd_s hm
      refine v_cv2i (M' := tR_at) dO_nextTo_32 mlO_65 okR_at (sh_told_4 q0) hc_6 (Nat.le_of_ble_eq_true rfl) (ctR_at G d _ _ _ (sh_told_4 q0) _ _ he) ?_
      refine v_ist_5 dO_nextTo_35 (by decide) rfl ?_
      refine v_ild_4 dO_nextTo_37 ?_
      refine v_ild_1 dO_nextTo_39 ?_
      refine v_j1 (fun (x4 : Int32) => Vx G tO_nextTo (d + 1) 50 [some (.ref (gB G + a0)), some (.int p1), some (.int x4), some (.int v3), some (.int r1), some (.int r2)] [] h0 (some (.int r)) h0) hm (fun x4 hm => ?_) (fun j3 kj3 hm => ?_)
      · refine v_ild_5 dO_nextTo_50 ?_
        refine v_ild_1 dO_nextTo_52 ?_
        refine v_cmp_ne dO_nextTo_53 (fun hc => ?_) (fun hc => ?_)
        · replace hm := it hc hm
          refine v_ild_2 dO_nextTo_56 ?_
          refine v_iconst (x := 1) dO_nextTo_57 rfl ?_
          refine v_ild_4 dO_nextTo_58 ?_
          refine v_ishl dO_nextTo_60 ?_
          refine v_ior dO_nextTo_61 ?_
          refine v_top hm (fun x5 hm => ?_)
          refine v_ist_2 dO_nextTo_62 (by decide) rfl ?_
          refine v_inc_3 1 dO_nextTo_63 rfl (by decide) rfl ?_
          refine v_goto dO_nextTo_66 ?_
          exact v_kw (ih _ _ hm) (wk_s (wk_s (wk_s (wk_s (wk_n (wk_n wk_e))))))
        · replace hm := ie hc hm
          refine v_inc_3 1 dO_nextTo_63 rfl (by decide) rfl ?_
          refine v_goto dO_nextTo_66 ?_
          exact v_kw (ih _ _ hm) (wk_s (wk_s (wk_s (wk_s (wk_n (wk_n wk_e))))))
      · refine v_cmp_ne dO_nextTo_40 (fun hc => ?_) (fun hc => ?_)
        · replace hm := it hc hm
          refine v_ild_2 dO_nextTo_43 ?_
          refine v_iconst (x := 1) dO_nextTo_44 rfl ?_
          refine v_ild_5 dO_nextTo_45 ?_
          refine v_ishl dO_nextTo_47 ?_
          refine v_ior dO_nextTo_48 ?_
          refine v_top hm (fun x6 hm => ?_)
          refine v_ist_2 dO_nextTo_49 (by decide) rfl ?_
          exact v_kw (kj3 _ hm) (wk_s (wk_s (wk_s (wk_s (wk_s (wk_s wk_e))))))
        · replace hm := ie hc hm
          exact v_kw (kj3 _ hm) (wk_s (wk_s (wk_s (wk_s (wk_s (wk_s wk_e))))))
theorem ctO_nextTo (G : GG) (d : Nat) (a0 : Nat) (p1 : Int32) (q0 : shL[a0]? = some (11, 14)) (h0 : PH) (r : Int32) (hm : mO_nextTo a0 p1 h0 = some r) : Kx G tO_nextTo (d + 1) [.ref (gB G + a0), .int p1] h0 (some (.int r)) h0 := by
  refine K_of_V (by decide) (by simp [Value.category]) (by simp [tO_nextTo]) ?_
  change Vx G tO_nextTo (d + 1) 0 [some (.ref (gB G + a0)), some (.int p1), none, none, none, none] [] h0 (some (.int r)) h0
  unfold mO_nextTo at hm
  refine v_iconst (x := 0) dO_nextTo_0 rfl ?_
  refine v_ist_2 dO_nextTo_1 (by decide) rfl ?_
  refine v_iconst (x := 0) dO_nextTo_2 rfl ?_
  refine v_ist_3 dO_nextTo_3 (by decide) rfl ?_
  exact v_kw (wO_nextTo_L4 G d _ _ _ q0 _ FU _ _ hm) (wk_s (wk_s (wk_s (wk_s (wk_n (wk_n wk_e))))))
def mO_copyFrom (a0 : Nat) (a1 : Nat) (h0 : PH) : Option (PH) :=
  bd (mR_copyFrom (a0 + 1) (a1 + 1) h0) fun h1 =>
  bd (mR_copyFrom (a0 + 3) (a1 + 3) h1) fun h2 =>
  bd (mR_copyFrom (a0 + 5) (a1 + 5) h2) fun h3 =>
  bd (mR_copyFrom (a0 + 7) (a1 + 7) h3) fun h4 =>
  bd (mR_copyFrom (a0 + 9) (a1 + 9) h4) fun h5 =>
  bd (mR_copyFrom (a0 + 11) (a1 + 11) h5) fun h6 =>
  bd (mR_copyFrom (a0 + 13) (a1 + 13) h6) fun h7 =>
  bd (mR_copyFrom (a0 + 15) (a1 + 15) h7) fun h8 =>
  bd (mR_copyFrom (a0 + 17) (a1 + 17) h8) fun h9 =>
  bd (mR_copyFrom (a0 + 19) (a1 + 19) h9) fun h10 =>
  bd (mR_copyFrom (a0 + 21) (a1 + 21) h10) fun h11 =>
  bd (mR_copyFrom (a0 + 23) (a1 + 23) h11) fun h12 =>
  bd (mR_copyFrom (a0 + 25) (a1 + 25) h12) fun h13 =>
  bd (mR_copyFrom (a0 + 27) (a1 + 27) h13) fun h14 =>
  some h14
theorem ctO_copyFrom (G : GG) (d : Nat) (a0 : Nat) (a1 : Nat) (q0 : shL[a0]? = some (11, 14)) (q1 : shL[a1]? = some (11, 14)) (h0 : PH) (r : PH) (hm : mO_copyFrom a0 a1 h0 = some r) : Kx G tO_copyFrom (d + 1) [.ref (gB G + a0), .ref (gB G + a1)] h0 none r := by
  refine K_of_V (by decide) (by simp [Value.category]) (by simp [tO_copyFrom]) ?_
  change Vx G tO_copyFrom (d + 1) 0 [some (.ref (gB G + a0)), some (.ref (gB G + a1))] [] h0 none r
  unfold mO_copyFrom at hm
  refine v_ald_0 dO_copyFrom_0 ?_
  refine v_getR dO_copyFrom_1 fuO_14 q0 (rf_told_0 q0) ?_
  refine v_ald_1 dO_copyFrom_4 ?_
  refine v_getR dO_copyFrom_5 fuO_14 q1 (rf_told_0 q1) ?_
  obtain ⟨h1, he, hm⟩ := bd_s hm
  refine v_cv1v (M' := tR_copyFrom) dO_copyFrom_8 mlO_69 okR_copyFrom (sh_told_0 q0) hc_6 (Nat.le_of_ble_eq_true rfl) (ctR_copyFrom G d _ _ (sh_told_0 q0) (sh_told_0 q1) _ _ he) ?_
  refine v_ald_0 dO_copyFrom_11 ?_
  refine v_getR dO_copyFrom_12 fuO_20 q0 (rf_told_1 q0) ?_
  refine v_ald_1 dO_copyFrom_15 ?_
  refine v_getR dO_copyFrom_16 fuO_20 q1 (rf_told_1 q1) ?_
  obtain ⟨h2, he, hm⟩ := bd_s hm
  refine v_cv1v (M' := tR_copyFrom) dO_copyFrom_19 mlO_69 okR_copyFrom (sh_told_1 q0) hc_6 (Nat.le_of_ble_eq_true rfl) (ctR_copyFrom G d _ _ (sh_told_1 q0) (sh_told_1 q1) _ _ he) ?_
  refine v_ald_0 dO_copyFrom_22 ?_
  refine v_getR dO_copyFrom_23 fuO_23 q0 (rf_told_2 q0) ?_
  refine v_ald_1 dO_copyFrom_26 ?_
  refine v_getR dO_copyFrom_27 fuO_23 q1 (rf_told_2 q1) ?_
  obtain ⟨h3, he, hm⟩ := bd_s hm
  refine v_cv1v (M' := tR_copyFrom) dO_copyFrom_30 mlO_69 okR_copyFrom (sh_told_2 q0) hc_6 (Nat.le_of_ble_eq_true rfl) (ctR_copyFrom G d _ _ (sh_told_2 q0) (sh_told_2 q1) _ _ he) ?_
  refine v_ald_0 dO_copyFrom_33 ?_
  refine v_getR dO_copyFrom_34 fuO_26 q0 (rf_told_3 q0) ?_
  refine v_ald_1 dO_copyFrom_37 ?_
  refine v_getR dO_copyFrom_38 fuO_26 q1 (rf_told_3 q1) ?_
  obtain ⟨h4, he, hm⟩ := bd_s hm
  refine v_cv1v (M' := tR_copyFrom) dO_copyFrom_41 mlO_69 okR_copyFrom (sh_told_3 q0) hc_6 (Nat.le_of_ble_eq_true rfl) (ctR_copyFrom G d _ _ (sh_told_3 q0) (sh_told_3 q1) _ _ he) ?_
  refine v_ald_0 dO_copyFrom_44 ?_
  refine v_getR dO_copyFrom_45 fuO_29 q0 (rf_told_4 q0) ?_
  refine v_ald_1 dO_copyFrom_48 ?_
  refine v_getR dO_copyFrom_49 fuO_29 q1 (rf_told_4 q1) ?_
  obtain ⟨h5, he, hm⟩ := bd_s hm
  refine v_cv1v (M' := tR_copyFrom) dO_copyFrom_52 mlO_69 okR_copyFrom (sh_told_4 q0) hc_6 (Nat.le_of_ble_eq_true rfl) (ctR_copyFrom G d _ _ (sh_told_4 q0) (sh_told_4 q1) _ _ he) ?_
  refine v_ald_0 dO_copyFrom_55 ?_
  refine v_getR dO_copyFrom_56 fuO_32 q0 (rf_told_5 q0) ?_
  refine v_ald_1 dO_copyFrom_59 ?_
  refine v_getR dO_copyFrom_60 fuO_32 q1 (rf_told_5 q1) ?_
  obtain ⟨h6, he, hm⟩ := bd_s hm
  refine v_cv1v (M' := tR_copyFrom) dO_copyFrom_63 mlO_69 okR_copyFrom (sh_told_5 q0) hc_6 (Nat.le_of_ble_eq_true rfl) (ctR_copyFrom G d _ _ (sh_told_5 q0) (sh_told_5 q1) _ _ he) ?_
  refine v_ald_0 dO_copyFrom_66 ?_
  refine v_getR dO_copyFrom_67 fuO_35 q0 (rf_told_6 q0) ?_
  refine v_ald_1 dO_copyFrom_70 ?_
  refine v_getR dO_copyFrom_71 fuO_35 q1 (rf_told_6 q1) ?_
  obtain ⟨h7, he, hm⟩ := bd_s hm
  refine v_cv1v (M' := tR_copyFrom) dO_copyFrom_74 mlO_69 okR_copyFrom (sh_told_6 q0) hc_6 (Nat.le_of_ble_eq_true rfl) (ctR_copyFrom G d _ _ (sh_told_6 q0) (sh_told_6 q1) _ _ he) ?_
  refine v_ald_0 dO_copyFrom_77 ?_
  refine v_getR dO_copyFrom_78 fuO_40 q0 (rf_told_7 q0) ?_
  refine v_ald_1 dO_copyFrom_81 ?_
  refine v_getR dO_copyFrom_82 fuO_40 q1 (rf_told_7 q1) ?_
  obtain ⟨h8, he, hm⟩ := bd_s hm
  refine v_cv1v (M' := tR_copyFrom) dO_copyFrom_85 mlO_69 okR_copyFrom (sh_told_7 q0) hc_6 (Nat.le_of_ble_eq_true rfl) (ctR_copyFrom G d _ _ (sh_told_7 q0) (sh_told_7 q1) _ _ he) ?_
  refine v_ald_0 dO_copyFrom_88 ?_
  refine v_getR dO_copyFrom_89 fuO_43 q0 (rf_told_8 q0) ?_
  refine v_ald_1 dO_copyFrom_92 ?_
  refine v_getR dO_copyFrom_93 fuO_43 q1 (rf_told_8 q1) ?_
  obtain ⟨h9, he, hm⟩ := bd_s hm
  refine v_cv1v (M' := tR_copyFrom) dO_copyFrom_96 mlO_69 okR_copyFrom (sh_told_8 q0) hc_6 (Nat.le_of_ble_eq_true rfl) (ctR_copyFrom G d _ _ (sh_told_8 q0) (sh_told_8 q1) _ _ he) ?_
  refine v_ald_0 dO_copyFrom_99 ?_
  refine v_getR dO_copyFrom_100 fuO_46 q0 (rf_told_9 q0) ?_
  refine v_ald_1 dO_copyFrom_103 ?_
  refine v_getR dO_copyFrom_104 fuO_46 q1 (rf_told_9 q1) ?_
  obtain ⟨h10, he, hm⟩ := bd_s hm
  refine v_cv1v (M' := tR_copyFrom) dO_copyFrom_107 mlO_69 okR_copyFrom (sh_told_9 q0) hc_6 (Nat.le_of_ble_eq_true rfl) (ctR_copyFrom G d _ _ (sh_told_9 q0) (sh_told_9 q1) _ _ he) ?_
  refine v_ald_0 dO_copyFrom_110 ?_
  refine v_getR dO_copyFrom_111 fuO_49 q0 (rf_told_10 q0) ?_
  refine v_ald_1 dO_copyFrom_114 ?_
  refine v_getR dO_copyFrom_115 fuO_49 q1 (rf_told_10 q1) ?_
  obtain ⟨h11, he, hm⟩ := bd_s hm
  refine v_cv1v (M' := tR_copyFrom) dO_copyFrom_118 mlO_69 okR_copyFrom (sh_told_10 q0) hc_6 (Nat.le_of_ble_eq_true rfl) (ctR_copyFrom G d _ _ (sh_told_10 q0) (sh_told_10 q1) _ _ he) ?_
  refine v_ald_0 dO_copyFrom_121 ?_
  refine v_getR dO_copyFrom_122 fuO_52 q0 (rf_told_11 q0) ?_
  refine v_ald_1 dO_copyFrom_125 ?_
  refine v_getR dO_copyFrom_126 fuO_52 q1 (rf_told_11 q1) ?_
  obtain ⟨h12, he, hm⟩ := bd_s hm
  refine v_cv1v (M' := tR_copyFrom) dO_copyFrom_129 mlO_69 okR_copyFrom (sh_told_11 q0) hc_6 (Nat.le_of_ble_eq_true rfl) (ctR_copyFrom G d _ _ (sh_told_11 q0) (sh_told_11 q1) _ _ he) ?_
  refine v_ald_0 dO_copyFrom_132 ?_
  refine v_getR dO_copyFrom_133 fuO_55 q0 (rf_told_12 q0) ?_
  refine v_ald_1 dO_copyFrom_136 ?_
  refine v_getR dO_copyFrom_137 fuO_55 q1 (rf_told_12 q1) ?_
  obtain ⟨h13, he, hm⟩ := bd_s hm
  refine v_cv1v (M' := tR_copyFrom) dO_copyFrom_140 mlO_69 okR_copyFrom (sh_told_12 q0) hc_6 (Nat.le_of_ble_eq_true rfl) (ctR_copyFrom G d _ _ (sh_told_12 q0) (sh_told_12 q1) _ _ he) ?_
  refine v_ald_0 dO_copyFrom_143 ?_
  refine v_getR dO_copyFrom_144 fuO_58 q0 (rf_told_13 q0) ?_
  refine v_ald_1 dO_copyFrom_147 ?_
  refine v_getR dO_copyFrom_148 fuO_58 q1 (rf_told_13 q1) ?_
  obtain ⟨h14, he, hm⟩ := bd_s hm
  refine v_cv1v (M' := tR_copyFrom) dO_copyFrom_151 mlO_69 okR_copyFrom (sh_told_13 q0) hc_6 (Nat.le_of_ble_eq_true rfl) (ctR_copyFrom G d _ _ (sh_told_13 q0) (sh_told_13 q1) _ _ he) ?_
  cases hm
  exact v_ret dO_copyFrom_154 rfl
def mT_onwards (p0 : Int32) (p1 : Int32) (p2 : Int32) (h0 : PH) : Option (Int32) :=
  if p2 = 0 then
    some (p0 + p1)
  else
    some (imax p0 p1)
theorem ctT_onwards (G : GG) (d : Nat) (p0 : Int32) (p1 : Int32) (p2 : Int32) (h0 : PH) (r : Int32) (hm : mT_onwards p0 p1 p2 h0 = some r) : Kx G tT_onwards d [.int p0, .int p1, .int p2] h0 (some (.int r)) h0 := by
  refine K_of_V (by decide) (by simp [Value.category]) (by simp [tT_onwards]) ?_
  change Vx G tT_onwards d 0 [some (.int p0), some (.int p1), some (.int p2)] [] h0 (some (.int r)) h0
  unfold mT_onwards at hm
  refine v_ild_2 dT_onwards_0 ?_
  refine v_if_eq dT_onwards_1 (fun hc => ?_) (fun hc => ?_)
  · replace hm := it hc hm
    refine v_ild_0 dT_onwards_12 ?_
    refine v_ild_1 dT_onwards_13 ?_
    refine v_iadd dT_onwards_14 ?_
    cases hm
    exact v_iret dT_onwards_15 rfl
  · replace hm := ie hc hm
    refine v_ild_0 dT_onwards_4 ?_
    refine v_ild_1 dT_onwards_5 ?_
    refine v_mmax dT_onwards_6 mlT_48 (Nat.le_of_ble_eq_true rfl) ?_
    refine v_goto dT_onwards_9 ?_
    cases hm
    exact v_iret dT_onwards_15 rfl
def mT_spread_L3 (a1 : Nat) (a2 : Nat) (p3 : Int32) (p4 : Int32) (k0 : PH → Option (PH)) : Nat → Int32 → PH → Option (PH)
  | 0, _, _ => none
  | n + 1, v5, hv =>
    if 12 ≤ v5 then
      k0 hv
    else
      jn1 (fun (x2 : Int32) =>
        ck v5 12 <|
        lt (up hv 96 (ix v5) x2) fun h3 =>
        mT_spread_L3 a1 a2 p3 p4 k0 n (v5 + 1) h3) fun j1 =>
      if v5 = p3 then
        j1 0
      else
        j1 1000000
def mT_spread_L48 (a1 : Nat) (a2 : Nat) (p4 : Int32) (p5 : Int32) (k0 : PH → Option (PH)) : Nat → Int32 → PH → Option (PH)
  | 0, _, _ => none
  | n + 1, v6, hv =>
    if (hv a2 3) ≤ v6 then
      k0 hv
    else
      bd (mR_at a2 v6 0 hv) fun r5 =>
      bd (mR_at a2 v6 1 hv) fun r6 =>
      bd (mB_has a1 r5 hv) fun r7 =>
      if r7 = 0 then
        mT_spread_L48 a1 a2 p4 p5 k0 n (v6 + 1) hv
      else
        bd (mB_has a1 r6 hv) fun r8 =>
        if r8 = 0 then
          mT_spread_L48 a1 a2 p4 p5 k0 n (v6 + 1) hv
        else
          bd (mB_sumOf a1 r5 hv) fun r9 =>
          bd (mB_sumOf a1 r6 hv) fun r10 =>
          lt (r9 + r10) fun x11 =>
          ck r6 12 <|
          ck r5 12 <|
          bd (mT_onwards (hv 96 (ix r5)) x11 p4 hv) fun r12 =>
          ck r6 12 <|
          lt (up hv 96 (ix r6) (imin (hv 96 (ix r6)) r12)) fun h13 =>
          ck r5 12 <|
          ck r6 12 <|
          bd (mT_onwards (h13 96 (ix r6)) x11 p4 h13) fun r14 =>
          ck r5 12 <|
          lt (up h13 96 (ix r5) (imin (h13 96 (ix r5)) r14)) fun h15 =>
          mT_spread_L48 a1 a2 p4 p5 k0 n (v6 + 1) h15
def mT_spread_L38 (a1 : Nat) (a2 : Nat) (p4 : Int32) : Nat → Int32 → PH → Option (PH)
  | 0, _, _ => none
  | n + 1, v5, hv =>
    if 12 ≤ v5 then
      some hv
    else
      mT_spread_L48 a1 a2 p4 v5 (fun (h16 : PH) =>
        mT_spread_L38 a1 a2 p4 n (v5 + 1) h16) FU 0 hv
def mT_spread (a1 : Nat) (a2 : Nat) (p3 : Int32) (p4 : Int32) (h0 : PH) : Option (PH) :=
  mT_spread_L3 a1 a2 p3 p4 (fun (h4 : PH) =>
    mT_spread_L38 a1 a2 p4 FU 0 h4) FU 0 h0
theorem wT_spread_L3 (G : GG) (d : Nat) (a1 : Nat) (a2 : Nat) (p3 : Int32) (p4 : Int32) (q1 : shL[a1]? = some (1, 8)) (q2 : shL[a2]? = some (6, 4)) (k0 : PH → Option (PH)) (r : PH) (kk0 : ∀ (hy : PH), k0 hy = some r → Vx G tT_spread (d + 1) 35 [some (.ref (gB G + 95)), some (.ref (gB G + a1)), some (.ref (gB G + a2)), none, some (.int p4), none, none, none, none, none] [] hy none r) : ∀ (n : Nat) (v5 : Int32) (hv : PH), mT_spread_L3 a1 a2 p3 p4 k0 n v5 hv = some r → Vx G tT_spread (d + 1) 3 [some (.ref (gB G + 95)), some (.ref (gB G + a1)), some (.ref (gB G + a2)), some (.int p3), some (.int p4), some (.int v5), none, none, none, none] [] hv none r := by
  intro n
  induction n with
  | zero => intro v5 hv hm; cases hm
  | succ n ih =>
    intro v5 hv hm
    unfold mT_spread_L3 at hm
    refine v_ild_5 dT_spread_3 ?_
    refine v_bipush (x := 12) dT_spread_5 rfl ?_
    refine v_cmp_ge dT_spread_7 (fun hc => ?_) (fun hc => ?_)
    · replace hm := it hc hm
      exact v_kw (kk0 _ hm) (wk_s (wk_s (wk_s (wk_n (wk_s (wk_n (wk_n (wk_n (wk_n (wk_n wk_e))))))))))
    · replace hm := ie hc hm
      refine v_ald_0 dT_spread_10 ?_
      refine v_getR dT_spread_11 fuT_9 sh_95 rf_95_0 ?_
      refine v_ild_5 dT_spread_14 ?_
      refine v_ild_5 dT_spread_16 ?_
      refine v_ild_3 dT_spread_18 ?_
      refine v_j1 (fun (x2 : Int32) => Vx G tT_spread (d + 1) 28 [some (.ref (gB G + 95)), some (.ref (gB G + a1)), some (.ref (gB G + a2)), some (.int p3), some (.int p4), some (.int v5), none, none, none, none] [.int x2, .int v5, .ref (gB G + 96)] hv none r) hm (fun x2 hm => ?_) (fun j1 kj1 hm => ?_)
      · obtain ⟨hi, hm⟩ := ck_s hm
        refine v_iastl dT_spread_28 sh_96 hi hm (fun h3 hm => ?_)
        refine v_inc_5 1 dT_spread_29 rfl (by decide) rfl ?_
        refine v_goto dT_spread_32 ?_
        exact v_kw (ih _ _ hm) (wk_s (wk_s (wk_s (wk_s (wk_s (wk_s (wk_n (wk_n (wk_n (wk_n wk_e))))))))))
      · refine v_cmp_ne dT_spread_19 (fun hc => ?_) (fun hc => ?_)
        · replace hm := it hc hm
          refine v_iconst (x := 0) dT_spread_22 rfl ?_
          refine v_goto dT_spread_23 ?_
          exact v_kw (kj1 _ hm) (wk_s (wk_s (wk_s (wk_s (wk_s (wk_s (wk_n (wk_n (wk_n (wk_n wk_e))))))))))
        · replace hm := ie hc hm
          refine v_ldc (x := 1000000) dT_spread_26 lcT_18 ?_
          exact v_kw (kj1 _ hm) (wk_s (wk_s (wk_s (wk_s (wk_s (wk_s (wk_n (wk_n (wk_n (wk_n wk_e))))))))))
theorem wT_spread_L48 (G : GG) (d : Nat) (a1 : Nat) (a2 : Nat) (p4 : Int32) (p5 : Int32) (q1 : shL[a1]? = some (1, 8)) (q2 : shL[a2]? = some (6, 4)) (k0 : PH → Option (PH)) (r : PH) (kk0 : ∀ (hy : PH), k0 hy = some r → Vx G tT_spread (d + 1) 176 [some (.ref (gB G + 95)), some (.ref (gB G + a1)), some (.ref (gB G + a2)), none, some (.int p4), some (.int p5), none, none, none, none] [] hy none r) : ∀ (n : Nat) (v6 : Int32) (hv : PH), mT_spread_L48 a1 a2 p4 p5 k0 n v6 hv = some r → Vx G tT_spread (d + 1) 48 [some (.ref (gB G + 95)), some (.ref (gB G + a1)), some (.ref (gB G + a2)), none, some (.int p4), some (.int p5), some (.int v6), none, none, none] [] hv none r := by
  intro n
  induction n with
  | zero => intro v6 hv hm; cases hm
  | succ n ih =>
    intro v6 hv hm
    unfold mT_spread_L48 at hm
    refine v_ild_6 dT_spread_48 ?_
    refine v_ald_2 dT_spread_50 ?_
    refine v_getI dT_spread_51 fuT_19 q2 (rf_rows_3 q2) ?_
    refine v_cmp_ge dT_spread_54 (fun hc => ?_) (fun hc => ?_)
    · replace hm := it hc hm
      exact v_kw (kk0 _ hm) (wk_s (wk_s (wk_s (wk_n (wk_s (wk_s (wk_n (wk_n (wk_n (wk_n wk_e))))))))))
    · replace hm := ie hc hm
      refine v_ald_2 dT_spread_57 ?_
      refine v_ild_6 dT_spread_58 ?_
      refine v_iconst (x := 0) dT_spread_60 rfl ?_
      obtain ⟨r5, he, hm⟩ := bd_s hm
      refine v_cv2i (M' := tR_at) dT_spread_61 mlT_25 okR_at q2 hc_6 (Nat.le_of_ble_eq_true rfl) (ctR_at G d _ _ _ q2 _ _ he) ?_
      refine v_ist_7 dT_spread_64 (by decide) rfl ?_
      refine v_ald_2 dT_spread_66 ?_
      refine v_ild_6 dT_spread_67 ?_
      refine v_iconst (x := 1) dT_spread_69 rfl ?_
      obtain ⟨r6, he, hm⟩ := bd_s hm
      refine v_cv2i (M' := tR_at) dT_spread_70 mlT_25 okR_at q2 hc_6 (Nat.le_of_ble_eq_true rfl) (ctR_at G d _ _ _ q2 _ _ he) ?_
      refine v_ist_8 dT_spread_73 (by decide) rfl ?_
      refine v_ald_1 dT_spread_75 ?_
      refine v_ild_7 dT_spread_76 ?_
      obtain ⟨r7, he, hm⟩ := bd_s hm
      refine v_cv1i (M' := tB_has) dT_spread_78 mlT_29 okB_has q1 hc_1 (Nat.le_of_ble_eq_true rfl) (ctB_has G d _ _ q1 _ _ he) ?_
      refine v_if_eq dT_spread_81 (fun hc => ?_) (fun hc => ?_)
      · replace hm := it hc hm
        refine v_inc_6 1 dT_spread_170 rfl (by decide) rfl ?_
        refine v_goto dT_spread_173 ?_
        exact v_kw (ih _ _ hm) (wk_s (wk_s (wk_s (wk_n (wk_s (wk_s (wk_s (wk_n (wk_n (wk_n wk_e))))))))))
      · replace hm := ie hc hm
        refine v_ald_1 dT_spread_84 ?_
        refine v_ild_8 dT_spread_85 ?_
        obtain ⟨r8, he, hm⟩ := bd_s hm
        refine v_cv1i (M' := tB_has) dT_spread_87 mlT_29 okB_has q1 hc_1 (Nat.le_of_ble_eq_true rfl) (ctB_has G d _ _ q1 _ _ he) ?_
        refine v_if_eq dT_spread_90 (fun hc => ?_) (fun hc => ?_)
        · replace hm := it hc hm
          refine v_inc_6 1 dT_spread_170 rfl (by decide) rfl ?_
          refine v_goto dT_spread_173 ?_
          exact v_kw (ih _ _ hm) (wk_s (wk_s (wk_s (wk_n (wk_s (wk_s (wk_s (wk_n (wk_n (wk_n wk_e))))))))))
        · replace hm := ie hc hm
          refine v_ald_1 dT_spread_93 ?_
          refine v_ild_7 dT_spread_94 ?_
          obtain ⟨r9, he, hm⟩ := bd_s hm
          refine v_cv1i (M' := tB_sumOf) dT_spread_96 mlT_35 okB_sumOf q1 hc_1 (Nat.le_of_ble_eq_true rfl) (ctB_sumOf G d _ _ q1 _ _ he) ?_
          refine v_ald_1 dT_spread_99 ?_
          refine v_ild_8 dT_spread_100 ?_
          obtain ⟨r10, he, hm⟩ := bd_s hm
          refine v_cv1i (M' := tB_sumOf) dT_spread_102 mlT_35 okB_sumOf q1 hc_1 (Nat.le_of_ble_eq_true rfl) (ctB_sumOf G d _ _ q1 _ _ he) ?_
          refine v_iadd dT_spread_105 ?_
          refine v_top hm (fun x11 hm => ?_)
          refine v_ist_9 dT_spread_106 (by decide) rfl ?_
          refine v_ald_0 dT_spread_108 ?_
          refine v_getR dT_spread_109 fuT_9 sh_95 rf_95_0 ?_
          refine v_ild_8 dT_spread_112 ?_
          refine v_ald_0 dT_spread_114 ?_
          refine v_getR dT_spread_115 fuT_9 sh_95 rf_95_0 ?_
          refine v_ild_8 dT_spread_118 ?_
          obtain ⟨hi, hm⟩ := ck_s hm
          refine v_iald dT_spread_120 sh_96 hi ?_
          refine v_ald_0 dT_spread_121 ?_
          refine v_getR dT_spread_122 fuT_9 sh_95 rf_95_0 ?_
          refine v_ild_7 dT_spread_125 ?_
          obtain ⟨hi, hm⟩ := ck_s hm
          refine v_iald dT_spread_127 sh_96 hi ?_
          refine v_ild_9 dT_spread_128 ?_
          refine v_ild_4 dT_spread_130 ?_
          obtain ⟨r12, he, hm⟩ := bd_s hm
          refine v_cs3i (M' := tT_onwards) dT_spread_132 mlT_39 okT_onwards (Nat.le_of_ble_eq_true rfl) (ctT_onwards G d _ _ _ _ _ he) ?_
          refine v_mmin dT_spread_135 mlT_43 (Nat.le_of_ble_eq_true rfl) ?_
          obtain ⟨hi, hm⟩ := ck_s hm
          refine v_iastl dT_spread_138 sh_96 hi hm (fun h13 hm => ?_)
          refine v_ald_0 dT_spread_139 ?_
          refine v_getR dT_spread_140 fuT_9 sh_95 rf_95_0 ?_
          refine v_ild_7 dT_spread_143 ?_
          refine v_ald_0 dT_spread_145 ?_
          refine v_getR dT_spread_146 fuT_9 sh_95 rf_95_0 ?_
          refine v_ild_7 dT_spread_149 ?_
          obtain ⟨hi, hm⟩ := ck_s hm
          refine v_iald dT_spread_151 sh_96 hi ?_
          refine v_ald_0 dT_spread_152 ?_
          refine v_getR dT_spread_153 fuT_9 sh_95 rf_95_0 ?_
          refine v_ild_8 dT_spread_156 ?_
          obtain ⟨hi, hm⟩ := ck_s hm
          refine v_iald dT_spread_158 sh_96 hi ?_
          refine v_ild_9 dT_spread_159 ?_
          refine v_ild_4 dT_spread_161 ?_
          obtain ⟨r14, he, hm⟩ := bd_s hm
          refine v_cs3i (M' := tT_onwards) dT_spread_163 mlT_39 okT_onwards (Nat.le_of_ble_eq_true rfl) (ctT_onwards G d _ _ _ _ _ he) ?_
          refine v_mmin dT_spread_166 mlT_43 (Nat.le_of_ble_eq_true rfl) ?_
          obtain ⟨hi, hm⟩ := ck_s hm
          refine v_iastl dT_spread_169 sh_96 hi hm (fun h15 hm => ?_)
          refine v_inc_6 1 dT_spread_170 rfl (by decide) rfl ?_
          refine v_goto dT_spread_173 ?_
          exact v_kw (ih _ _ hm) (wk_s (wk_s (wk_s (wk_n (wk_s (wk_s (wk_s (wk_n (wk_n (wk_n wk_e))))))))))
theorem wT_spread_L38 (G : GG) (d : Nat) (a1 : Nat) (a2 : Nat) (p4 : Int32) (q1 : shL[a1]? = some (1, 8)) (q2 : shL[a2]? = some (6, 4)) (r : PH) : ∀ (n : Nat) (v5 : Int32) (hv : PH), mT_spread_L38 a1 a2 p4 n v5 hv = some r → Vx G tT_spread (d + 1) 38 [some (.ref (gB G + 95)), some (.ref (gB G + a1)), some (.ref (gB G + a2)), none, some (.int p4), some (.int v5), none, none, none, none] [] hv none r := by
  intro n
  induction n with
  | zero => intro v5 hv hm; cases hm
  | succ n ih =>
    intro v5 hv hm
    unfold mT_spread_L38 at hm
    refine v_ild_5 dT_spread_38 ?_
    refine v_bipush (x := 12) dT_spread_40 rfl ?_
    refine v_cmp_ge dT_spread_42 (fun hc => ?_) (fun hc => ?_)
    · replace hm := it hc hm
      cases hm
      exact v_ret dT_spread_182 rfl
    · replace hm := ie hc hm
      refine v_iconst (x := 0) dT_spread_45 rfl ?_
      refine v_ist_6 dT_spread_46 (by decide) rfl ?_
      refine v_kw (wT_spread_L48 G d _ _ _ _ q1 q2 _ _ (fun h16 hm => ?_) FU _ _ hm) (wk_s (wk_s (wk_s (wk_n (wk_s (wk_s (wk_s (wk_n (wk_n (wk_n wk_e))))))))))
      refine v_inc_5 1 dT_spread_176 rfl (by decide) rfl ?_
      refine v_goto dT_spread_179 ?_
      exact v_kw (ih _ _ hm) (wk_s (wk_s (wk_s (wk_n (wk_s (wk_s (wk_n (wk_n (wk_n (wk_n wk_e))))))))))
theorem ctT_spread (G : GG) (d : Nat) (a1 : Nat) (a2 : Nat) (p3 : Int32) (p4 : Int32) (q1 : shL[a1]? = some (1, 8)) (q2 : shL[a2]? = some (6, 4)) (h0 : PH) (r : PH) (hm : mT_spread a1 a2 p3 p4 h0 = some r) : Kx G tT_spread (d + 1) [.ref (gB G + 95), .ref (gB G + a1), .ref (gB G + a2), .int p3, .int p4] h0 none r := by
  refine K_of_V (by decide) (by simp [Value.category]) (by simp [tT_spread]) ?_
  change Vx G tT_spread (d + 1) 0 [some (.ref (gB G + 95)), some (.ref (gB G + a1)), some (.ref (gB G + a2)), some (.int p3), some (.int p4), none, none, none, none, none] [] h0 none r
  unfold mT_spread at hm
  refine v_iconst (x := 0) dT_spread_0 rfl ?_
  refine v_ist_5 dT_spread_1 (by decide) rfl ?_
  refine v_kw (wT_spread_L3 G d _ _ _ _ q1 q2 _ _ (fun h4 hm => ?_) FU _ _ hm) (wk_s (wk_s (wk_s (wk_s (wk_s (wk_s (wk_n (wk_n (wk_n (wk_n wk_e))))))))))
  refine v_iconst (x := 0) dT_spread_35 rfl ?_
  refine v_ist_5 dT_spread_36 (by decide) rfl ?_
  exact v_kw (wT_spread_L38 G d _ _ _ q1 q2 _ FU _ _ hm) (wk_s (wk_s (wk_s (wk_n (wk_s (wk_s (wk_n (wk_n (wk_n (wk_n wk_e))))))))))
def mT_costTo (p1 : Int32) (h0 : PH) : Option (Int32) :=
  if p1 < 0 then
    some (-1)
  else
    if 12 ≤ p1 then
      some (-1)
    else
      ck p1 12 <|
      if (h0 96 (ix p1)) < 1000000 then
        ck p1 12 <|
        some (h0 96 (ix p1))
      else
        some (-1)
theorem ctT_costTo (G : GG) (d : Nat) (p1 : Int32) (h0 : PH) (r : Int32) (hm : mT_costTo p1 h0 = some r) : Kx G tT_costTo d [.ref (gB G + 95), .int p1] h0 (some (.int r)) h0 := by
  refine K_of_V (by decide) (by simp [Value.category]) (by simp [tT_costTo]) ?_
  change Vx G tT_costTo d 0 [some (.ref (gB G + 95)), some (.int p1)] [] h0 (some (.int r)) h0
  unfold mT_costTo at hm
  refine v_ild_1 dT_costTo_0 ?_
  refine v_if_lt dT_costTo_1 (fun hc => ?_) (fun hc => ?_)
  · replace hm := it hc hm
    refine v_iconst (x := (-1)) dT_costTo_21 rfl ?_
    cases hm
    exact v_iret dT_costTo_22 rfl
  · replace hm := ie hc hm
    refine v_ild_1 dT_costTo_4 ?_
    refine v_bipush (x := 12) dT_costTo_5 rfl ?_
    refine v_cmp_ge dT_costTo_7 (fun hc => ?_) (fun hc => ?_)
    · replace hm := it hc hm
      refine v_iconst (x := (-1)) dT_costTo_21 rfl ?_
      cases hm
      exact v_iret dT_costTo_22 rfl
    · replace hm := ie hc hm
      refine v_ald_0 dT_costTo_10 ?_
      refine v_getR dT_costTo_11 fuT_9 sh_95 rf_95_0 ?_
      refine v_ild_1 dT_costTo_14 ?_
      obtain ⟨hi, hm⟩ := ck_s hm
      refine v_iald dT_costTo_15 sh_96 hi ?_
      refine v_ldc (x := 1000000) dT_costTo_16 lcT_18 ?_
      refine v_cmp_lt dT_costTo_18 (fun hc => ?_) (fun hc => ?_)
      · replace hm := it hc hm
        refine v_ald_0 dT_costTo_23 ?_
        refine v_getR dT_costTo_24 fuT_9 sh_95 rf_95_0 ?_
        refine v_ild_1 dT_costTo_27 ?_
        obtain ⟨hi, hm⟩ := ck_s hm
        refine v_iald dT_costTo_28 sh_96 hi ?_
        cases hm
        exact v_iret dT_costTo_29 rfl
      · replace hm := ie hc hm
        refine v_iconst (x := (-1)) dT_costTo_21 rfl ?_
        cases hm
        exact v_iret dT_costTo_22 rfl
def mT_countWithin_L6 (p1 : Int32) (p2 : Int32) (p3 : Int32) (h0 : PH) : Nat → Int32 → Int32 → Option (Int32)
  | 0, _, _ => none
  | n + 1, v4, v5 =>
    if p1 ≤ v5 then
      some v4
    else
      if 12 ≤ v5 then
        some v4
      else
        if v5 = p2 then
          mT_countWithin_L6 p1 p2 p3 h0 n v4 (v5 + 1)
        else
          ck v5 12 <|
          if p3 < (h0 96 (ix v5)) then
            mT_countWithin_L6 p1 p2 p3 h0 n v4 (v5 + 1)
          else
            mT_countWithin_L6 p1 p2 p3 h0 n (v4 + 1) (v5 + 1)
def mT_countWithin (p1 : Int32) (p2 : Int32) (p3 : Int32) (h0 : PH) : Option (Int32) :=
  mT_countWithin_L6 p1 p2 p3 h0 FU 0 0
theorem wT_countWithin_L6 (G : GG) (d : Nat) (p1 : Int32) (p2 : Int32) (p3 : Int32) (h0 : PH) (r : Int32) : ∀ (n : Nat) (v4 : Int32) (v5 : Int32), mT_countWithin_L6 p1 p2 p3 h0 n v4 v5 = some r → Vx G tT_countWithin d 6 [some (.ref (gB G + 95)), some (.int p1), some (.int p2), some (.int p3), some (.int v4), some (.int v5)] [] h0 (some (.int r)) h0 := by
  intro n
  induction n with
  | zero => intro v4 v5 hm; cases hm
  | succ n ih =>
    intro v4 v5 hm
    unfold mT_countWithin_L6 at hm
    refine v_ild_5 dT_countWithin_6 ?_
    refine v_ild_1 dT_countWithin_8 ?_
    refine v_cmp_ge dT_countWithin_9 (fun hc => ?_) (fun hc => ?_)
    · replace hm := it hc hm
      refine v_ild_4 dT_countWithin_45 ?_
      cases hm
      exact v_iret dT_countWithin_47 rfl
    · replace hm := ie hc hm
      refine v_ild_5 dT_countWithin_12 ?_
      refine v_bipush (x := 12) dT_countWithin_14 rfl ?_
      refine v_cmp_ge dT_countWithin_16 (fun hc => ?_) (fun hc => ?_)
      · replace hm := it hc hm
        refine v_ild_4 dT_countWithin_45 ?_
        cases hm
        exact v_iret dT_countWithin_47 rfl
      · replace hm := ie hc hm
        refine v_ild_5 dT_countWithin_19 ?_
        refine v_ild_2 dT_countWithin_21 ?_
        refine v_cmp_eq dT_countWithin_22 (fun hc => ?_) (fun hc => ?_)
        · replace hm := it hc hm
          refine v_inc_5 1 dT_countWithin_39 rfl (by decide) rfl ?_
          refine v_goto dT_countWithin_42 ?_
          exact v_kw (ih _ _ hm) (wk_s (wk_s (wk_s (wk_s (wk_s (wk_s wk_e))))))
        · replace hm := ie hc hm
          refine v_ald_0 dT_countWithin_25 ?_
          refine v_getR dT_countWithin_26 fuT_9 sh_95 rf_95_0 ?_
          refine v_ild_5 dT_countWithin_29 ?_
          obtain ⟨hi, hm⟩ := ck_s hm
          refine v_iald dT_countWithin_31 sh_96 hi ?_
          refine v_ild_3 dT_countWithin_32 ?_
          refine v_cmp_gt dT_countWithin_33 (fun hc => ?_) (fun hc => ?_)
          · replace hm := it hc hm
            refine v_inc_5 1 dT_countWithin_39 rfl (by decide) rfl ?_
            refine v_goto dT_countWithin_42 ?_
            exact v_kw (ih _ _ hm) (wk_s (wk_s (wk_s (wk_s (wk_s (wk_s wk_e))))))
          · replace hm := ie hc hm
            refine v_inc_4 1 dT_countWithin_36 rfl (by decide) rfl ?_
            refine v_inc_5 1 dT_countWithin_39 rfl (by decide) rfl ?_
            refine v_goto dT_countWithin_42 ?_
            exact v_kw (ih _ _ hm) (wk_s (wk_s (wk_s (wk_s (wk_s (wk_s wk_e))))))
theorem ctT_countWithin (G : GG) (d : Nat) (p1 : Int32) (p2 : Int32) (p3 : Int32) (h0 : PH) (r : Int32) (hm : mT_countWithin p1 p2 p3 h0 = some r) : Kx G tT_countWithin d [.ref (gB G + 95), .int p1, .int p2, .int p3] h0 (some (.int r)) h0 := by
  refine K_of_V (by decide) (by simp [Value.category]) (by simp [tT_countWithin]) ?_
  change Vx G tT_countWithin d 0 [some (.ref (gB G + 95)), some (.int p1), some (.int p2), some (.int p3), none, none] [] h0 (some (.int r)) h0
  unfold mT_countWithin at hm
  refine v_iconst (x := 0) dT_countWithin_0 rfl ?_
  refine v_ist_4 dT_countWithin_1 (by decide) rfl ?_
  refine v_iconst (x := 0) dT_countWithin_3 rfl ?_
  refine v_ist_5 dT_countWithin_4 (by decide) rfl ?_
  exact v_kw (wT_countWithin_L6 G d _ _ _ _ _ FU _ _ hm) (wk_s (wk_s (wk_s (wk_s (wk_s (wk_s wk_e))))))
def mT_isAlone_L2 (p1 : Int32) (h0 : PH) : Nat → Int32 → Option (Int32)
  | 0, _ => none
  | n + 1, v2 =>
    if 12 ≤ v2 then
      some 1
    else
      if ((p1 >>> (v2 &&& 31)) &&& 1) = 1 then
        ck v2 12 <|
        if ((h0 97 (ix v2)) &&& p1) = 0 then
          mT_isAlone_L2 p1 h0 n (v2 + 1)
        else
          some 0
      else
        mT_isAlone_L2 p1 h0 n (v2 + 1)
def mT_isAlone (p1 : Int32) (h0 : PH) : Option (Int32) :=
  mT_isAlone_L2 p1 h0 FU 0
theorem wT_isAlone_L2 (G : GG) (d : Nat) (p1 : Int32) (h0 : PH) (r : Int32) : ∀ (n : Nat) (v2 : Int32), mT_isAlone_L2 p1 h0 n v2 = some r → Vx G tT_isAlone d 2 [some (.ref (gB G + 95)), some (.int p1), some (.int v2)] [] h0 (some (.int r)) h0 := by
  intro n
  induction n with
  | zero => intro v2 hm; cases hm
  | succ n ih =>
    intro v2 hm
    unfold mT_isAlone_L2 at hm
    refine v_ild_2 dT_isAlone_2 ?_
    refine v_bipush (x := 12) dT_isAlone_3 rfl ?_
    refine v_cmp_ge dT_isAlone_5 (fun hc => ?_) (fun hc => ?_)
    · replace hm := it hc hm
      refine v_iconst (x := 1) dT_isAlone_36 rfl ?_
      cases hm
      exact v_zret1 dT_isAlone_37 rfl
    · replace hm := ie hc hm
      refine v_ild_1 dT_isAlone_8 ?_
      refine v_ild_2 dT_isAlone_9 ?_
      refine v_ishr dT_isAlone_10 ?_
      refine v_iconst (x := 1) dT_isAlone_11 rfl ?_
      refine v_iand dT_isAlone_12 ?_
      refine v_iconst (x := 1) dT_isAlone_13 rfl ?_
      refine v_cmp_ne dT_isAlone_14 (fun hc => ?_) (fun hc => ?_)
      · replace hm := it hc hm
        refine v_ald_0 dT_isAlone_17 ?_
        refine v_getR dT_isAlone_18 fuT_15 sh_95 rf_95_1 ?_
        refine v_ild_2 dT_isAlone_21 ?_
        obtain ⟨hi, hm⟩ := ck_s hm
        refine v_iald dT_isAlone_22 sh_97 hi ?_
        refine v_ild_1 dT_isAlone_23 ?_
        refine v_iand dT_isAlone_24 ?_
        refine v_if_eq dT_isAlone_25 (fun hc => ?_) (fun hc => ?_)
        · replace hm := it hc hm
          refine v_inc_2 1 dT_isAlone_30 rfl (by decide) rfl ?_
          refine v_goto dT_isAlone_33 ?_
          exact v_kw (ih _ hm) (wk_s (wk_s (wk_s wk_e)))
        · replace hm := ie hc hm
          refine v_iconst (x := 0) dT_isAlone_28 rfl ?_
          cases hm
          exact v_zret0 dT_isAlone_29 rfl
      · replace hm := ie hc hm
        refine v_inc_2 1 dT_isAlone_30 rfl (by decide) rfl ?_
        refine v_goto dT_isAlone_33 ?_
        exact v_kw (ih _ hm) (wk_s (wk_s (wk_s wk_e)))
theorem ctT_isAlone (G : GG) (d : Nat) (p1 : Int32) (h0 : PH) (r : Int32) (hm : mT_isAlone p1 h0 = some r) : Kx G tT_isAlone d [.ref (gB G + 95), .int p1] h0 (some (.int r)) h0 := by
  refine K_of_V (by decide) (by simp [Value.category]) (by simp [tT_isAlone]) ?_
  change Vx G tT_isAlone d 0 [some (.ref (gB G + 95)), some (.int p1), none] [] h0 (some (.int r)) h0
  unfold mT_isAlone at hm
  refine v_iconst (x := 0) dT_isAlone_0 rfl ?_
  refine v_ist_2 dT_isAlone_1 (by decide) rfl ?_
  exact v_kw (wT_isAlone_L2 G d _ _ _ FU _ hm) (wk_s (wk_s (wk_s wk_e)))
def mT_mostAlone_L8 (a2 : Nat) (p3 : Int32) (k0 : PH → Option (Int32 × PH)) : Nat → Int32 → PH → Option (Int32 × PH)
  | 0, _, _ => none
  | n + 1, v4, hv =>
    if 12 ≤ v4 then
      k0 hv
    else
      bd (mO_nextTo a2 v4 hv) fun r2 =>
      ck v4 12 <|
      lt (up hv 97 (ix v4) r2) fun h3 =>
      mT_mostAlone_L8 a2 p3 k0 n (v4 + 1) h3
def mT_mostAlone_L43 (p3 : Int32) (h0 : PH) : Nat → Int32 → Int32 → Int32 → Option (Int32 × PH)
  | 0, _, _, _ => none
  | n + 1, v4, v5, v6 =>
    if 4096 ≤ v6 then
      some (v4, h0)
    else
      if (v6 &&& p3) = v6 then
        bd (mJ_bitCount v6 h0) fun r5 =>
        if r5 ≤ v5 then
          mT_mostAlone_L43 p3 h0 n v4 v5 (v6 + 1)
        else
          bd (mT_isAlone v6 h0) fun r6 =>
          if r6 = 0 then
            mT_mostAlone_L43 p3 h0 n v4 v5 (v6 + 1)
          else
            bd (mJ_bitCount v6 h0) fun r7 =>
            mT_mostAlone_L43 p3 h0 n v6 r7 (v6 + 1)
      else
        mT_mostAlone_L43 p3 h0 n v4 v5 (v6 + 1)
def mT_mostAlone (a1 : Nat) (a2 : Nat) (h0 : PH) : Option (Int32 × PH) :=
  bd (mB_upSet a1 h0) fun r1 =>
  mT_mostAlone_L8 a2 r1 (fun (h4 : PH) =>
    mT_mostAlone_L43 r1 h4 FU 0 0 1) FU 0 h0
theorem wT_mostAlone_L8 (G : GG) (d : Nat) (a2 : Nat) (p3 : Int32) (q2 : shL[a2]? = some (11, 14)) (k0 : PH → Option (Int32 × PH)) (r : Int32 × PH) (kk0 : ∀ (hy : PH), k0 hy = some r → Vx G tT_mostAlone (d + 3) 34 [some (.ref (gB G + 95)), none, none, some (.int p3), none, none, none] [] hy (some (.int r.1)) r.2) : ∀ (n : Nat) (v4 : Int32) (hv : PH), mT_mostAlone_L8 a2 p3 k0 n v4 hv = some r → Vx G tT_mostAlone (d + 3) 8 [some (.ref (gB G + 95)), none, some (.ref (gB G + a2)), some (.int p3), some (.int v4), none, none] [] hv (some (.int r.1)) r.2 := by
  intro n
  induction n with
  | zero => intro v4 hv hm; cases hm
  | succ n ih =>
    intro v4 hv hm
    unfold mT_mostAlone_L8 at hm
    refine v_ild_4 dT_mostAlone_8 ?_
    refine v_bipush (x := 12) dT_mostAlone_10 rfl ?_
    refine v_cmp_ge dT_mostAlone_12 (fun hc => ?_) (fun hc => ?_)
    · replace hm := it hc hm
      exact v_kw (kk0 _ hm) (wk_s (wk_n (wk_n (wk_s (wk_n (wk_n (wk_n wk_e)))))))
    · replace hm := ie hc hm
      refine v_ald_0 dT_mostAlone_15 ?_
      refine v_getR dT_mostAlone_16 fuT_15 sh_95 rf_95_1 ?_
      refine v_ild_4 dT_mostAlone_19 ?_
      refine v_ald_2 dT_mostAlone_21 ?_
      refine v_ild_4 dT_mostAlone_22 ?_
      obtain ⟨r2, he, hm⟩ := bd_s hm
      refine v_cv1i (M' := tO_nextTo) dT_mostAlone_24 mlT_55 okO_nextTo q2 hc_11 (Nat.le_of_ble_eq_true rfl) (ctO_nextTo G (d + 1) _ _ q2 _ _ he) ?_
      obtain ⟨hi, hm⟩ := ck_s hm
      refine v_iastl dT_mostAlone_27 sh_97 hi hm (fun h3 hm => ?_)
      refine v_inc_4 1 dT_mostAlone_28 rfl (by decide) rfl ?_
      refine v_goto dT_mostAlone_31 ?_
      exact v_kw (ih _ _ hm) (wk_s (wk_n (wk_s (wk_s (wk_s (wk_n (wk_n wk_e)))))))
theorem wT_mostAlone_L43 (G : GG) (d : Nat) (p3 : Int32) (h0 : PH) (r : Int32 × PH) : ∀ (n : Nat) (v4 : Int32) (v5 : Int32) (v6 : Int32), mT_mostAlone_L43 p3 h0 n v4 v5 v6 = some r → Vx G tT_mostAlone (d + 3) 43 [some (.ref (gB G + 95)), none, none, some (.int p3), some (.int v4), some (.int v5), some (.int v6)] [] h0 (some (.int r.1)) r.2 := by
  intro n
  induction n with
  | zero => intro v4 v5 v6 hm; cases hm
  | succ n ih =>
    intro v4 v5 v6 hm
    unfold mT_mostAlone_L43 at hm
    refine v_ild_6 dT_mostAlone_43 ?_
    refine v_sipush (x := 4096) dT_mostAlone_45 rfl ?_
    refine v_cmp_ge dT_mostAlone_48 (fun hc => ?_) (fun hc => ?_)
    · replace hm := it hc hm
      refine v_ild_4 dT_mostAlone_96 ?_
      cases hm
      exact v_iret dT_mostAlone_98 rfl
    · replace hm := ie hc hm
      refine v_ild_6 dT_mostAlone_51 ?_
      refine v_ild_3 dT_mostAlone_53 ?_
      refine v_iand dT_mostAlone_54 ?_
      refine v_ild_6 dT_mostAlone_55 ?_
      refine v_cmp_ne dT_mostAlone_57 (fun hc => ?_) (fun hc => ?_)
      · replace hm := it hc hm
        refine v_ild_6 dT_mostAlone_60 ?_
        obtain ⟨r5, he, hm⟩ := bd_s hm
        refine v_cs1i (M' := tJ_bitCount) dT_mostAlone_62 mlT_60 okJ_bitCount (Nat.le_of_ble_eq_true rfl) (ctJ_bitCount G (d + 2) _ _ _ he) ?_
        refine v_ild_5 dT_mostAlone_65 ?_
        refine v_cmp_le dT_mostAlone_67 (fun hc => ?_) (fun hc => ?_)
        · replace hm := it hc hm
          refine v_inc_6 1 dT_mostAlone_90 rfl (by decide) rfl ?_
          refine v_goto dT_mostAlone_93 ?_
          exact v_kw (ih _ _ _ hm) (wk_s (wk_n (wk_n (wk_s (wk_s (wk_s (wk_s wk_e)))))))
        · replace hm := ie hc hm
          refine v_ald_0 dT_mostAlone_70 ?_
          refine v_ild_6 dT_mostAlone_71 ?_
          obtain ⟨r6, he, hm⟩ := bd_s hm
          refine v_cv1i (M' := tT_isAlone) dT_mostAlone_73 mlT_65 okT_isAlone sh_95 hc_9 (Nat.le_of_ble_eq_true rfl) (ctT_isAlone G (d + 2) _ _ _ he) ?_
          refine v_if_eq dT_mostAlone_76 (fun hc => ?_) (fun hc => ?_)
          · replace hm := it hc hm
            refine v_inc_6 1 dT_mostAlone_90 rfl (by decide) rfl ?_
            refine v_goto dT_mostAlone_93 ?_
            exact v_kw (ih _ _ _ hm) (wk_s (wk_n (wk_n (wk_s (wk_s (wk_s (wk_s wk_e)))))))
          · replace hm := ie hc hm
            refine v_ild_6 dT_mostAlone_79 ?_
            refine v_ist_4 dT_mostAlone_81 (by decide) rfl ?_
            refine v_ild_6 dT_mostAlone_83 ?_
            obtain ⟨r7, he, hm⟩ := bd_s hm
            refine v_cs1i (M' := tJ_bitCount) dT_mostAlone_85 mlT_60 okJ_bitCount (Nat.le_of_ble_eq_true rfl) (ctJ_bitCount G (d + 2) _ _ _ he) ?_
            refine v_ist_5 dT_mostAlone_88 (by decide) rfl ?_
            refine v_inc_6 1 dT_mostAlone_90 rfl (by decide) rfl ?_
            refine v_goto dT_mostAlone_93 ?_
            exact v_kw (ih _ _ _ hm) (wk_s (wk_n (wk_n (wk_s (wk_s (wk_s (wk_s wk_e)))))))
      · replace hm := ie hc hm
        refine v_inc_6 1 dT_mostAlone_90 rfl (by decide) rfl ?_
        refine v_goto dT_mostAlone_93 ?_
        exact v_kw (ih _ _ _ hm) (wk_s (wk_n (wk_n (wk_s (wk_s (wk_s (wk_s wk_e)))))))
theorem ctT_mostAlone (G : GG) (d : Nat) (a1 : Nat) (a2 : Nat) (q1 : shL[a1]? = some (1, 8)) (q2 : shL[a2]? = some (11, 14)) (h0 : PH) (r : Int32 × PH) (hm : mT_mostAlone a1 a2 h0 = some r) : Kx G tT_mostAlone (d + 3) [.ref (gB G + 95), .ref (gB G + a1), .ref (gB G + a2)] h0 (some (.int r.1)) r.2 := by
  refine K_of_V (by decide) (by simp [Value.category]) (by simp [tT_mostAlone]) ?_
  change Vx G tT_mostAlone (d + 3) 0 [some (.ref (gB G + 95)), some (.ref (gB G + a1)), some (.ref (gB G + a2)), none, none, none, none] [] h0 (some (.int r.1)) r.2
  unfold mT_mostAlone at hm
  refine v_ald_1 dT_mostAlone_0 ?_
  obtain ⟨r1, he, hm⟩ := bd_s hm
  refine v_cv0i (M' := tB_upSet) dT_mostAlone_1 mlT_51 okB_upSet q1 hc_1 (Nat.le_of_ble_eq_true rfl) (ctB_upSet G d _ q1 _ _ he) ?_
  refine v_ist_3 dT_mostAlone_4 (by decide) rfl ?_
  refine v_iconst (x := 0) dT_mostAlone_5 rfl ?_
  refine v_ist_4 dT_mostAlone_6 (by decide) rfl ?_
  refine v_kw (wT_mostAlone_L8 G d _ _ q2 _ _ (fun h4 hm => ?_) FU _ _ hm) (wk_s (wk_n (wk_s (wk_s (wk_s (wk_n (wk_n wk_e)))))))
  refine v_iconst (x := 0) dT_mostAlone_34 rfl ?_
  refine v_ist_4 dT_mostAlone_35 (by decide) rfl ?_
  refine v_iconst (x := 0) dT_mostAlone_37 rfl ?_
  refine v_ist_5 dT_mostAlone_38 (by decide) rfl ?_
  refine v_iconst (x := 1) dT_mostAlone_40 rfl ?_
  refine v_ist_6 dT_mostAlone_41 (by decide) rfl ?_
  exact v_kw (wT_mostAlone_L43 G d _ _ _ FU _ _ _ hm) (wk_s (wk_n (wk_n (wk_s (wk_s (wk_s (wk_s wk_e)))))))
def mA_take_L3 (p1 : Int32) : Nat → Int32 → PH → Option (PH)
  | 0, _, _ => none
  | n + 1, v2, hv =>
    if v2 < 0 then
      some hv
    else
      if 400 ≤ (hv 85 4) then
        mA_take_L3 p1 n (v2 + (-8)) hv
      else
        ck (hv 85 4) 400 <|
        lt (up hv 86 (ix (hv 85 4)) (i2b (i2b (ushr p1 v2)))) fun h1 =>
        lt (up h1 85 4 ((h1 85 4) + 1)) fun h2 =>
        mA_take_L3 p1 n (v2 + (-8)) h2
def mA_take (p1 : Int32) (h0 : PH) : Option (PH) :=
  mA_take_L3 p1 FU 24 h0
theorem wA_take_L3 (G : GG) (d : Nat) (p1 : Int32) (r : PH) : ∀ (n : Nat) (v2 : Int32) (hv : PH), mA_take_L3 p1 n v2 hv = some r → Vx G tA_take d 3 [some (.ref (gB G + 85)), some (.int p1), some (.int v2)] [] hv none r := by
  intro n
  induction n with
  | zero => intro v2 hv hm; cases hm
  | succ n ih =>
    intro v2 hv hm
    unfold mA_take_L3 at hm
    refine v_ild_2 dA_take_3 ?_
    refine v_if_lt dA_take_4 (fun hc => ?_) (fun hc => ?_)
    · replace hm := it hc hm
      cases hm
      exact v_ret dA_take_46 rfl
    · replace hm := ie hc hm
      refine v_ald_0 dA_take_7 ?_
      refine v_getI dA_take_8 fuA_25 sh_85 rf_85_4 ?_
      refine v_sipush (x := 400) dA_take_11 rfl ?_
      refine v_cmp_ge dA_take_14 (fun hc => ?_) (fun hc => ?_)
      · replace hm := it hc hm
        refine v_inc_2 (-8) dA_take_40 rfl (by decide) rfl ?_
        refine v_goto dA_take_43 ?_
        exact v_kw (ih _ _ hm) (wk_s (wk_s (wk_s wk_e)))
      · replace hm := ie hc hm
        refine v_ald_0 dA_take_17 ?_
        refine v_getR dA_take_18 fuA_9 sh_85 rf_85_0 ?_
        refine v_ald_0 dA_take_21 ?_
        refine v_getI dA_take_22 fuA_25 sh_85 rf_85_4 ?_
        refine v_ild_1 dA_take_25 ?_
        refine v_ild_2 dA_take_26 ?_
        refine v_iushr dA_take_27 ?_
        refine v_i2b dA_take_28 ?_
        obtain ⟨hi, hm⟩ := ck_s hm
        refine v_bastl dA_take_29 sh_86 hi hm (fun h1 hm => ?_)
        refine v_ald_0 dA_take_30 ?_
        refine v_dup dA_take_31 rfl ?_
        refine v_getI dA_take_32 fuA_25 sh_85 rf_85_4 ?_
        refine v_iconst (x := 1) dA_take_35 rfl ?_
        refine v_iadd dA_take_36 ?_
        refine v_putIl dA_take_37 fuA_25 ft_10_4 sh_85 rf_85_4 hm (fun h2 hm => ?_)
        refine v_inc_2 (-8) dA_take_40 rfl (by decide) rfl ?_
        refine v_goto dA_take_43 ?_
        exact v_kw (ih _ _ hm) (wk_s (wk_s (wk_s wk_e)))
theorem ctA_take (G : GG) (d : Nat) (p1 : Int32) (h0 : PH) (r : PH) (hm : mA_take p1 h0 = some r) : Kx G tA_take d [.ref (gB G + 85), .int p1] h0 none r := by
  refine K_of_V (by decide) (by simp [Value.category]) (by simp [tA_take]) ?_
  change Vx G tA_take d 0 [some (.ref (gB G + 85)), some (.int p1), none] [] h0 none r
  unfold mA_take at hm
  refine v_bipush (x := 24) dA_take_0 rfl ?_
  refine v_ist_2 dA_take_2 (by decide) rfl ?_
  exact v_kw (wA_take_L3 G d _ _ FU _ _ hm) (wk_s (wk_s (wk_s wk_e)))
def mA_byteAt (p1 : Int32) (h0 : PH) : Option (Int32) :=
  if p1 < 0 then
    some 0
  else
    if (h0 85 4) ≤ p1 then
      some 0
    else
      if 400 ≤ p1 then
        some 0
      else
        ck p1 400 <|
        some ((h0 86 (ix p1)) &&& 255)
theorem ctA_byteAt (G : GG) (d : Nat) (p1 : Int32) (h0 : PH) (r : Int32) (hm : mA_byteAt p1 h0 = some r) : Kx G tA_byteAt d [.ref (gB G + 85), .int p1] h0 (some (.int r)) h0 := by
  refine K_of_V (by decide) (by simp [Value.category]) (by simp [tA_byteAt]) ?_
  change Vx G tA_byteAt d 0 [some (.ref (gB G + 85)), some (.int p1)] [] h0 (some (.int r)) h0
  unfold mA_byteAt at hm
  refine v_ild_1 dA_byteAt_0 ?_
  refine v_if_lt dA_byteAt_1 (fun hc => ?_) (fun hc => ?_)
  · replace hm := it hc hm
    refine v_iconst (x := 0) dA_byteAt_32 rfl ?_
    cases hm
    exact v_iret dA_byteAt_33 rfl
  · replace hm := ie hc hm
    refine v_ild_1 dA_byteAt_4 ?_
    refine v_ald_0 dA_byteAt_5 ?_
    refine v_getI dA_byteAt_6 fuA_25 sh_85 rf_85_4 ?_
    refine v_cmp_ge dA_byteAt_9 (fun hc => ?_) (fun hc => ?_)
    · replace hm := it hc hm
      refine v_iconst (x := 0) dA_byteAt_32 rfl ?_
      cases hm
      exact v_iret dA_byteAt_33 rfl
    · replace hm := ie hc hm
      refine v_ild_1 dA_byteAt_12 ?_
      refine v_sipush (x := 400) dA_byteAt_13 rfl ?_
      refine v_cmp_ge dA_byteAt_16 (fun hc => ?_) (fun hc => ?_)
      · replace hm := it hc hm
        refine v_iconst (x := 0) dA_byteAt_32 rfl ?_
        cases hm
        exact v_iret dA_byteAt_33 rfl
      · replace hm := ie hc hm
        refine v_ald_0 dA_byteAt_19 ?_
        refine v_getR dA_byteAt_20 fuA_9 sh_85 rf_85_0 ?_
        refine v_ild_1 dA_byteAt_23 ?_
        obtain ⟨hi, hm⟩ := ck_s hm
        refine v_bald dA_byteAt_24 sh_86 hi ?_
        refine v_sipush (x := 255) dA_byteAt_25 rfl ?_
        refine v_iand dA_byteAt_28 ?_
        refine v_goto dA_byteAt_29 ?_
        cases hm
        exact v_iret dA_byteAt_33 rfl
def mA_isLetter (p0 : Int32) (h0 : PH) : Option (Int32) :=
  bd (mX_within p0 97 122 h0) fun r1 =>
  if r1 = 0 then
    bd (mX_within p0 65 90 h0) fun r2 =>
    if r2 = 0 then
      some 0
    else
      some 1
  else
    some 1
theorem ctA_isLetter (G : GG) (d : Nat) (p0 : Int32) (h0 : PH) (r : Int32) (hm : mA_isLetter p0 h0 = some r) : Kx G tA_isLetter (d + 1) [.int p0] h0 (some (.int r)) h0 := by
  refine K_of_V (by decide) (by simp [Value.category]) (by simp [tA_isLetter]) ?_
  change Vx G tA_isLetter (d + 1) 0 [some (.int p0)] [] h0 (some (.int r)) h0
  unfold mA_isLetter at hm
  refine v_ild_0 dA_isLetter_0 ?_
  refine v_bipush (x := 97) dA_isLetter_1 rfl ?_
  refine v_bipush (x := 122) dA_isLetter_3 rfl ?_
  obtain ⟨r1, he, hm⟩ := bd_s hm
  refine v_cn3i (M' := tX_within) dA_isLetter_5 mlA_86 okX_within (Nat.le_of_ble_eq_true rfl) (ctX_within G d _ _ _ _ _ he) ?_
  refine v_if_ne dA_isLetter_8 (fun hc => ?_) (fun hc => ?_)
  · replace hm := it hc hm
    refine v_ild_0 dA_isLetter_11 ?_
    refine v_bipush (x := 65) dA_isLetter_12 rfl ?_
    refine v_bipush (x := 90) dA_isLetter_14 rfl ?_
    obtain ⟨r2, he, hm⟩ := bd_s hm
    refine v_cn3i (M' := tX_within) dA_isLetter_16 mlA_86 okX_within (Nat.le_of_ble_eq_true rfl) (ctX_within G d _ _ _ _ _ he) ?_
    refine v_if_eq dA_isLetter_19 (fun hc => ?_) (fun hc => ?_)
    · replace hm := it hc hm
      refine v_iconst (x := 0) dA_isLetter_26 rfl ?_
      cases hm
      exact v_zret0 dA_isLetter_27 rfl
    · replace hm := ie hc hm
      refine v_iconst (x := 1) dA_isLetter_22 rfl ?_
      refine v_goto dA_isLetter_23 ?_
      cases hm
      exact v_zret1 dA_isLetter_27 rfl
  · replace hm := ie hc hm
    refine v_iconst (x := 1) dA_isLetter_22 rfl ?_
    refine v_goto dA_isLetter_23 ?_
    cases hm
    exact v_zret1 dA_isLetter_27 rfl
def mA_isDigit (p0 : Int32) (h0 : PH) : Option (Int32) :=
  bd (mX_within p0 48 57 h0) fun r1 =>
  some (nb r1)
theorem ctA_isDigit (G : GG) (d : Nat) (p0 : Int32) (h0 : PH) (r : Int32) (hm : mA_isDigit p0 h0 = some r) : Kx G tA_isDigit (d + 1) [.int p0] h0 (some (.int r)) h0 := by
  refine K_of_V (by decide) (by simp [Value.category]) (by simp [tA_isDigit]) ?_
  change Vx G tA_isDigit (d + 1) 0 [some (.int p0)] [] h0 (some (.int r)) h0
  unfold mA_isDigit at hm
  refine v_ild_0 dA_isDigit_0 ?_
  refine v_bipush (x := 48) dA_isDigit_1 rfl ?_
  refine v_bipush (x := 57) dA_isDigit_3 rfl ?_
  obtain ⟨r1, he, hm⟩ := bd_s hm
  refine v_cn3i (M' := tX_within) dA_isDigit_5 mlA_86 okX_within (Nat.le_of_ble_eq_true rfl) (ctX_within G d _ _ _ _ _ he) ?_
  cases hm
  exact v_zret dA_isDigit_8 rfl
def mA_behindToken_L49 (h0 : PH) : Nat → Int32 → Option (Int32)
  | 0, _ => none
  | n + 1, v3 =>
    if (h0 85 4) ≤ v3 then
      some v3
    else
      bd (mA_byteAt v3 h0) fun r5 =>
      bd (mA_isDigit r5 h0) fun r6 =>
      if r6 = 0 then
        some v3
      else
        mA_behindToken_L49 h0 n (v3 + 1)
def mA_behindToken_L17 (h0 : PH) : Nat → Int32 → Option (Int32)
  | 0, _ => none
  | n + 1, v3 =>
    if (h0 85 4) ≤ v3 then
      some v3
    else
      bd (mA_byteAt v3 h0) fun r7 =>
      bd (mA_isLetter r7 h0) fun r8 =>
      if r8 = 0 then
        some v3
      else
        mA_behindToken_L17 h0 n (v3 + 1)
def mA_behindToken (p1 : Int32) (h0 : PH) : Option (Int32) :=
  bd (mA_byteAt p1 h0) fun r1 =>
  lt (p1 + 1) fun x2 =>
  bd (mA_isLetter r1 h0) fun r3 =>
  if r3 = 0 then
    bd (mA_isDigit r1 h0) fun r4 =>
    if r4 = 0 then
      some x2
    else
      mA_behindToken_L49 h0 FU x2
  else
    mA_behindToken_L17 h0 FU x2
theorem wA_behindToken_L49 (G : GG) (d : Nat) (h0 : PH) (r : Int32) : ∀ (n : Nat) (v3 : Int32), mA_behindToken_L49 h0 n v3 = some r → Vx G tA_behindToken (d + 2) 49 [some (.ref (gB G + 85)), none, none, some (.int v3)] [] h0 (some (.int r)) h0 := by
  intro n
  induction n with
  | zero => intro v3 hm; cases hm
  | succ n ih =>
    intro v3 hm
    unfold mA_behindToken_L49 at hm
    refine v_ild_3 dA_behindToken_49 ?_
    refine v_ald_0 dA_behindToken_50 ?_
    refine v_getI dA_behindToken_51 fuA_25 sh_85 rf_85_4 ?_
    refine v_cmp_ge dA_behindToken_54 (fun hc => ?_) (fun hc => ?_)
    · replace hm := it hc hm
      refine v_ild_3 dA_behindToken_74 ?_
      cases hm
      exact v_iret dA_behindToken_75 rfl
    · replace hm := ie hc hm
      refine v_ald_0 dA_behindToken_57 ?_
      refine v_ild_3 dA_behindToken_58 ?_
      obtain ⟨r5, he, hm⟩ := bd_s hm
      refine v_cv1i (M' := tA_byteAt) dA_behindToken_59 mlA_36 okA_byteAt sh_85 hc_10 (Nat.le_of_ble_eq_true rfl) (ctA_byteAt G (d + 1) _ _ _ he) ?_
      obtain ⟨r6, he, hm⟩ := bd_s hm
      refine v_cs1i (M' := tA_isDigit) dA_behindToken_62 mlA_58 okA_isDigit (Nat.le_of_ble_eq_true rfl) (ctA_isDigit G d _ _ _ he) ?_
      refine v_if_eq dA_behindToken_65 (fun hc => ?_) (fun hc => ?_)
      · replace hm := it hc hm
        refine v_ild_3 dA_behindToken_74 ?_
        cases hm
        exact v_iret dA_behindToken_75 rfl
      · replace hm := ie hc hm
        refine v_inc_3 1 dA_behindToken_68 rfl (by decide) rfl ?_
        refine v_goto dA_behindToken_71 ?_
        exact v_kw (ih _ hm) (wk_s (wk_n (wk_n (wk_s wk_e))))
theorem wA_behindToken_L17 (G : GG) (d : Nat) (h0 : PH) (r : Int32) : ∀ (n : Nat) (v3 : Int32), mA_behindToken_L17 h0 n v3 = some r → Vx G tA_behindToken (d + 2) 17 [some (.ref (gB G + 85)), none, none, some (.int v3)] [] h0 (some (.int r)) h0 := by
  intro n
  induction n with
  | zero => intro v3 hm; cases hm
  | succ n ih =>
    intro v3 hm
    unfold mA_behindToken_L17 at hm
    refine v_ild_3 dA_behindToken_17 ?_
    refine v_ald_0 dA_behindToken_18 ?_
    refine v_getI dA_behindToken_19 fuA_25 sh_85 rf_85_4 ?_
    refine v_cmp_ge dA_behindToken_22 (fun hc => ?_) (fun hc => ?_)
    · replace hm := it hc hm
      refine v_ild_3 dA_behindToken_74 ?_
      cases hm
      exact v_iret dA_behindToken_75 rfl
    · replace hm := ie hc hm
      refine v_ald_0 dA_behindToken_25 ?_
      refine v_ild_3 dA_behindToken_26 ?_
      obtain ⟨r7, he, hm⟩ := bd_s hm
      refine v_cv1i (M' := tA_byteAt) dA_behindToken_27 mlA_36 okA_byteAt sh_85 hc_10 (Nat.le_of_ble_eq_true rfl) (ctA_byteAt G (d + 1) _ _ _ he) ?_
      obtain ⟨r8, he, hm⟩ := bd_s hm
      refine v_cs1i (M' := tA_isLetter) dA_behindToken_30 mlA_55 okA_isLetter (Nat.le_of_ble_eq_true rfl) (ctA_isLetter G d _ _ _ he) ?_
      refine v_if_eq dA_behindToken_33 (fun hc => ?_) (fun hc => ?_)
      · replace hm := it hc hm
        refine v_ild_3 dA_behindToken_74 ?_
        cases hm
        exact v_iret dA_behindToken_75 rfl
      · replace hm := ie hc hm
        refine v_inc_3 1 dA_behindToken_36 rfl (by decide) rfl ?_
        refine v_goto dA_behindToken_39 ?_
        exact v_kw (ih _ hm) (wk_s (wk_n (wk_n (wk_s wk_e))))
theorem ctA_behindToken (G : GG) (d : Nat) (p1 : Int32) (h0 : PH) (r : Int32) (hm : mA_behindToken p1 h0 = some r) : Kx G tA_behindToken (d + 2) [.ref (gB G + 85), .int p1] h0 (some (.int r)) h0 := by
  refine K_of_V (by decide) (by simp [Value.category]) (by simp [tA_behindToken]) ?_
  change Vx G tA_behindToken (d + 2) 0 [some (.ref (gB G + 85)), some (.int p1), none, none] [] h0 (some (.int r)) h0
  unfold mA_behindToken at hm
  refine v_ald_0 dA_behindToken_0 ?_
  refine v_ild_1 dA_behindToken_1 ?_
  obtain ⟨r1, he, hm⟩ := bd_s hm
  refine v_cv1i (M' := tA_byteAt) dA_behindToken_2 mlA_36 okA_byteAt sh_85 hc_10 (Nat.le_of_ble_eq_true rfl) (ctA_byteAt G (d + 1) _ _ _ he) ?_
  refine v_ist_2 dA_behindToken_5 (by decide) rfl ?_
  refine v_ild_1 dA_behindToken_6 ?_
  refine v_iconst (x := 1) dA_behindToken_7 rfl ?_
  refine v_iadd dA_behindToken_8 ?_
  refine v_top hm (fun x2 hm => ?_)
  refine v_ist_3 dA_behindToken_9 (by decide) rfl ?_
  refine v_ild_2 dA_behindToken_10 ?_
  obtain ⟨r3, he, hm⟩ := bd_s hm
  refine v_cs1i (M' := tA_isLetter) dA_behindToken_11 mlA_55 okA_isLetter (Nat.le_of_ble_eq_true rfl) (ctA_isLetter G d _ _ _ he) ?_
  refine v_if_eq dA_behindToken_14 (fun hc => ?_) (fun hc => ?_)
  · replace hm := it hc hm
    refine v_ild_2 dA_behindToken_42 ?_
    obtain ⟨r4, he, hm⟩ := bd_s hm
    refine v_cs1i (M' := tA_isDigit) dA_behindToken_43 mlA_58 okA_isDigit (Nat.le_of_ble_eq_true rfl) (ctA_isDigit G d _ _ _ he) ?_
    refine v_if_eq dA_behindToken_46 (fun hc => ?_) (fun hc => ?_)
    · replace hm := it hc hm
      refine v_ild_3 dA_behindToken_74 ?_
      cases hm
      exact v_iret dA_behindToken_75 rfl
    · replace hm := ie hc hm
      exact v_kw (wA_behindToken_L49 G d _ _ FU _ hm) (wk_s (wk_n (wk_n (wk_s wk_e))))
  · replace hm := ie hc hm
    exact v_kw (wA_behindToken_L17 G d _ _ FU _ hm) (wk_s (wk_n (wk_n (wk_s wk_e))))
def mA_isBlank (p0 : Int32) (h0 : PH) : Option (Int32) :=
  if p0 = 32 then
    some 1
  else
    if p0 = 10 then
      some 1
    else
      some 0
theorem ctA_isBlank (G : GG) (d : Nat) (p0 : Int32) (h0 : PH) (r : Int32) (hm : mA_isBlank p0 h0 = some r) : Kx G tA_isBlank d [.int p0] h0 (some (.int r)) h0 := by
  refine K_of_V (by decide) (by simp [Value.category]) (by simp [tA_isBlank]) ?_
  change Vx G tA_isBlank d 0 [some (.int p0)] [] h0 (some (.int r)) h0
  unfold mA_isBlank at hm
  refine v_ild_0 dA_isBlank_0 ?_
  refine v_bipush (x := 32) dA_isBlank_1 rfl ?_
  refine v_cmp_eq dA_isBlank_3 (fun hc => ?_) (fun hc => ?_)
  · replace hm := it hc hm
    refine v_iconst (x := 1) dA_isBlank_12 rfl ?_
    refine v_goto dA_isBlank_13 ?_
    cases hm
    exact v_zret1 dA_isBlank_17 rfl
  · replace hm := ie hc hm
    refine v_ild_0 dA_isBlank_6 ?_
    refine v_bipush (x := 10) dA_isBlank_7 rfl ?_
    refine v_cmp_ne dA_isBlank_9 (fun hc => ?_) (fun hc => ?_)
    · replace hm := it hc hm
      refine v_iconst (x := 1) dA_isBlank_12 rfl ?_
      refine v_goto dA_isBlank_13 ?_
      cases hm
      exact v_zret1 dA_isBlank_17 rfl
    · replace hm := ie hc hm
      refine v_iconst (x := 0) dA_isBlank_16 rfl ?_
      cases hm
      exact v_zret0 dA_isBlank_17 rfl
def mA_numberAt_L5 (p2 : Int32) (h0 : PH) : Nat → Int32 → Int32 → Option (Int32)
  | 0, _, _ => none
  | n + 1, v3, v4 =>
    if p2 ≤ v4 then
      some v3
    else
      bd (mA_byteAt v4 h0) fun r1 =>
      lt (((10 * v3) + r1) - 48) fun x2 =>
      mA_numberAt_L5 p2 h0 n x2 (v4 + 1)
def mA_numberAt (p1 : Int32) (p2 : Int32) (h0 : PH) : Option (Int32) :=
  mA_numberAt_L5 p2 h0 FU 0 p1
theorem wA_numberAt_L5 (G : GG) (d : Nat) (p2 : Int32) (h0 : PH) (r : Int32) : ∀ (n : Nat) (v3 : Int32) (v4 : Int32), mA_numberAt_L5 p2 h0 n v3 v4 = some r → Vx G tA_numberAt (d + 1) 5 [some (.ref (gB G + 85)), none, some (.int p2), some (.int v3), some (.int v4)] [] h0 (some (.int r)) h0 := by
  intro n
  induction n with
  | zero => intro v3 v4 hm; cases hm
  | succ n ih =>
    intro v3 v4 hm
    unfold mA_numberAt_L5 at hm
    refine v_ild_4 dA_numberAt_5 ?_
    refine v_ild_2 dA_numberAt_7 ?_
    refine v_cmp_ge dA_numberAt_8 (fun hc => ?_) (fun hc => ?_)
    · replace hm := it hc hm
      refine v_ild_3 dA_numberAt_32 ?_
      cases hm
      exact v_iret dA_numberAt_33 rfl
    · replace hm := ie hc hm
      refine v_bipush (x := 10) dA_numberAt_11 rfl ?_
      refine v_ild_3 dA_numberAt_13 ?_
      refine v_imul dA_numberAt_14 ?_
      refine v_ald_0 dA_numberAt_15 ?_
      refine v_ild_4 dA_numberAt_16 ?_
      obtain ⟨r1, he, hm⟩ := bd_s hm
      refine v_cv1i (M' := tA_byteAt) dA_numberAt_18 mlA_36 okA_byteAt sh_85 hc_10 (Nat.le_of_ble_eq_true rfl) (ctA_byteAt G d _ _ _ he) ?_
      refine v_iadd dA_numberAt_21 ?_
      refine v_bipush (x := 48) dA_numberAt_22 rfl ?_
      refine v_isub dA_numberAt_24 ?_
      refine v_top hm (fun x2 hm => ?_)
      refine v_ist_3 dA_numberAt_25 (by decide) rfl ?_
      refine v_inc_4 1 dA_numberAt_26 rfl (by decide) rfl ?_
      refine v_goto dA_numberAt_29 ?_
      exact v_kw (ih _ _ hm) (wk_s (wk_n (wk_s (wk_s (wk_s wk_e)))))
theorem ctA_numberAt (G : GG) (d : Nat) (p1 : Int32) (p2 : Int32) (h0 : PH) (r : Int32) (hm : mA_numberAt p1 p2 h0 = some r) : Kx G tA_numberAt (d + 1) [.ref (gB G + 85), .int p1, .int p2] h0 (some (.int r)) h0 := by
  refine K_of_V (by decide) (by simp [Value.category]) (by simp [tA_numberAt]) ?_
  change Vx G tA_numberAt (d + 1) 0 [some (.ref (gB G + 85)), some (.int p1), some (.int p2), none, none] [] h0 (some (.int r)) h0
  unfold mA_numberAt at hm
  refine v_iconst (x := 0) dA_numberAt_0 rfl ?_
  refine v_ist_3 dA_numberAt_1 (by decide) rfl ?_
  refine v_ild_1 dA_numberAt_2 ?_
  refine v_ist_4 dA_numberAt_3 (by decide) rfl ?_
  exact v_kw (wA_numberAt_L5 G d _ _ _ FU _ _ hm) (wk_s (wk_n (wk_s (wk_s (wk_s wk_e)))))
def mA_keepToken (p1 : Int32) (p2 : Int32) (p3 : Int32) (h0 : PH) : Option (PH) :=
  if 400 < (h0 85 5) then
    some h0
  else
    ck (h0 85 5) 401 <|
    lt (up h0 87 (ix (h0 85 5)) p1) fun h1 =>
    ck (h1 85 5) 401 <|
    lt (up h1 88 (ix (h1 85 5)) p2) fun h2 =>
    ck (h2 85 5) 401 <|
    lt (up h2 89 (ix (h2 85 5)) p3) fun h3 =>
    lt (up h3 85 5 ((h3 85 5) + 1)) fun h4 =>
    some h4
theorem ctA_keepToken (G : GG) (d : Nat) (p1 : Int32) (p2 : Int32) (p3 : Int32) (h0 : PH) (r : PH) (hm : mA_keepToken p1 p2 p3 h0 = some r) : Kx G tA_keepToken d [.ref (gB G + 85), .int p1, .int p2, .int p3] h0 none r := by
  refine K_of_V (by decide) (by simp [Value.category]) (by simp [tA_keepToken]) ?_
  change Vx G tA_keepToken d 0 [some (.ref (gB G + 85)), some (.int p1), some (.int p2), some (.int p3)] [] h0 none r
  unfold mA_keepToken at hm
  refine v_ald_0 dA_keepToken_0 ?_
  refine v_getI dA_keepToken_1 fuA_29 sh_85 rf_85_5 ?_
  refine v_sipush (x := 400) dA_keepToken_4 rfl ?_
  refine v_cmp_gt dA_keepToken_7 (fun hc => ?_) (fun hc => ?_)
  · replace hm := it hc hm
    cases hm
    exact v_ret dA_keepToken_50 rfl
  · replace hm := ie hc hm
    refine v_ald_0 dA_keepToken_10 ?_
    refine v_getR dA_keepToken_11 fuA_15 sh_85 rf_85_1 ?_
    refine v_ald_0 dA_keepToken_14 ?_
    refine v_getI dA_keepToken_15 fuA_29 sh_85 rf_85_5 ?_
    refine v_ild_1 dA_keepToken_18 ?_
    obtain ⟨hi, hm⟩ := ck_s hm
    refine v_iastl dA_keepToken_19 sh_87 hi hm (fun h1 hm => ?_)
    refine v_ald_0 dA_keepToken_20 ?_
    refine v_getR dA_keepToken_21 fuA_19 sh_85 rf_85_2 ?_
    refine v_ald_0 dA_keepToken_24 ?_
    refine v_getI dA_keepToken_25 fuA_29 sh_85 rf_85_5 ?_
    refine v_ild_2 dA_keepToken_28 ?_
    obtain ⟨hi, hm⟩ := ck_s hm
    refine v_iastl dA_keepToken_29 sh_88 hi hm (fun h2 hm => ?_)
    refine v_ald_0 dA_keepToken_30 ?_
    refine v_getR dA_keepToken_31 fuA_22 sh_85 rf_85_3 ?_
    refine v_ald_0 dA_keepToken_34 ?_
    refine v_getI dA_keepToken_35 fuA_29 sh_85 rf_85_5 ?_
    refine v_ild_3 dA_keepToken_38 ?_
    obtain ⟨hi, hm⟩ := ck_s hm
    refine v_iastl dA_keepToken_39 sh_89 hi hm (fun h3 hm => ?_)
    refine v_ald_0 dA_keepToken_40 ?_
    refine v_dup dA_keepToken_41 rfl ?_
    refine v_getI dA_keepToken_42 fuA_29 sh_85 rf_85_5 ?_
    refine v_iconst (x := 1) dA_keepToken_45 rfl ?_
    refine v_iadd dA_keepToken_46 ?_
    refine v_putIl dA_keepToken_47 fuA_29 ft_10_5 sh_85 rf_85_5 hm (fun h4 hm => ?_)
    cases hm
    exact v_ret dA_keepToken_50 rfl
def mS_weather_L10 (a0 : Nat) : Nat → Int32 → PH → Option (PH)
  | 0, _, _ => none
  | n + 1, v2, hv =>
    if (hv 10 3) ≤ v2 then
      some hv
    else
      bd (mR_at 10 v2 0 hv) fun r1 =>
      if r1 = (hv (sT a0) 6) then
        bd (mR_at 10 v2 1 hv) fun r2 =>
        if r2 = 1 then
          bd (mR_at 10 v2 2 hv) fun r3 =>
          lt (up hv (sT a0) 2 r3) fun h4 =>
          mS_weather_L10 a0 n (v2 + 1) h4
        else
          if r2 = 2 then
            lt (up hv (sT a0) 3 1) fun h5 =>
            mS_weather_L10 a0 n (v2 + 1) h5
          else
            lt (up hv (sT a0) 3 0) fun h6 =>
            mS_weather_L10 a0 n (v2 + 1) h6
      else
        mS_weather_L10 a0 n (v2 + 1) hv
def mS_weather (a0 : Nat) (h0 : PH) : Option (PH) :=
  mS_weather_L10 a0 FU 0 h0
theorem wS_weather_L10 (G : GG) (d : Nat) (a0 : Nat) (q0 : shL[a0]? = some (7, 4)) (r : PH) : ∀ (n : Nat) (v2 : Int32) (hv : PH), mS_weather_L10 a0 n v2 hv = some r → Vx G tS_weather (d + 1) 10 [some (.ref (gB G + a0)), some (.ref (gB G + 10)), some (.int v2)] [] hv none r := by
  intro n
  induction n with
  | zero => intro v2 hv hm; cases hm
  | succ n ih =>
    intro v2 hv hm
    unfold mS_weather_L10 at hm
    refine v_ild_2 dS_weather_10 ?_
    refine v_ald_1 dS_weather_11 ?_
    refine v_getI dS_weather_12 fuS_36 sh_10 rf_10_3 ?_
    refine v_cmp_ge dS_weather_15 (fun hc => ?_) (fun hc => ?_)
    · replace hm := it hc hm
      cases hm
      exact v_ret dS_weather_109 rfl
    · replace hm := ie hc hm
      refine v_ald_1 dS_weather_18 ?_
      refine v_ild_2 dS_weather_19 ?_
      refine v_iconst (x := 0) dS_weather_20 rfl ?_
      obtain ⟨r1, he, hm⟩ := bd_s hm
      refine v_cv2i (M' := tR_at) dS_weather_21 mlS_42 okR_at sh_10 hc_6 (Nat.le_of_ble_eq_true rfl) (ctR_at G d _ _ _ sh_10 _ _ he) ?_
      refine v_ald_0 dS_weather_24 ?_
      refine v_getR dS_weather_25 fuS_9 q0 (rf_sea_0 q0) ?_
      refine v_getI dS_weather_28 fuS_46 (sh_sea q0) (rf_bor_6 (sh_sea q0)) ?_
      refine v_cmp_ne dS_weather_31 (fun hc => ?_) (fun hc => ?_)
      · replace hm := it hc hm
        refine v_ald_1 dS_weather_34 ?_
        refine v_ild_2 dS_weather_35 ?_
        refine v_iconst (x := 1) dS_weather_36 rfl ?_
        obtain ⟨r2, he, hm⟩ := bd_s hm
        refine v_cv2i (M' := tR_at) dS_weather_37 mlS_42 okR_at sh_10 hc_6 (Nat.le_of_ble_eq_true rfl) (ctR_at G d _ _ _ sh_10 _ _ he) ?_
        refine v_sw dS_weather_40 ?_
        refine v_selc (fun hc => ?_) (fun hc => ?_)
        · replace hm := it hc hm
          refine v_ald_0 dS_weather_68 ?_
          refine v_getR dS_weather_69 fuS_9 q0 (rf_sea_0 q0) ?_
          refine v_ald_1 dS_weather_72 ?_
          refine v_ild_2 dS_weather_73 ?_
          refine v_iconst (x := 2) dS_weather_74 rfl ?_
          obtain ⟨r3, he, hm⟩ := bd_s hm
          refine v_cv2i (M' := tR_at) dS_weather_75 mlS_42 okR_at sh_10 hc_6 (Nat.le_of_ble_eq_true rfl) (ctR_at G d _ _ _ sh_10 _ _ he) ?_
          refine v_putIl dS_weather_78 fuS_91 ft_1_2 (sh_sea q0) (rf_bor_2 (sh_sea q0)) hm (fun h4 hm => ?_)
          refine v_goto dS_weather_81 ?_
          refine v_inc_2 1 dS_weather_103 rfl (by decide) rfl ?_
          refine v_goto dS_weather_106 ?_
          exact v_kw (ih _ _ hm) (wk_s (wk_s (wk_s wk_e)))
        · replace hm := ie hc hm
          refine v_selc (fun hc => ?_) (fun hc => ?_)
          · replace hm := it hc hm
            refine v_ald_0 dS_weather_84 ?_
            refine v_getR dS_weather_85 fuS_9 q0 (rf_sea_0 q0) ?_
            refine v_iconst (x := 1) dS_weather_88 rfl ?_
            refine v_putIl dS_weather_89 fuS_94 ft_1_3 (sh_sea q0) (rf_bor_3 (sh_sea q0)) hm (fun h5 hm => ?_)
            refine v_goto dS_weather_92 ?_
            refine v_inc_2 1 dS_weather_103 rfl (by decide) rfl ?_
            refine v_goto dS_weather_106 ?_
            exact v_kw (ih _ _ hm) (wk_s (wk_s (wk_s wk_e)))
          · replace hm := ie hc hm
            refine v_seln ?_
            refine v_ald_0 dS_weather_95 ?_
            refine v_getR dS_weather_96 fuS_9 q0 (rf_sea_0 q0) ?_
            refine v_iconst (x := 0) dS_weather_99 rfl ?_
            refine v_putIl dS_weather_100 fuS_94 ft_1_3 (sh_sea q0) (rf_bor_3 (sh_sea q0)) hm (fun h6 hm => ?_)
            refine v_inc_2 1 dS_weather_103 rfl (by decide) rfl ?_
            refine v_goto dS_weather_106 ?_
            exact v_kw (ih _ _ hm) (wk_s (wk_s (wk_s wk_e)))
      · replace hm := ie hc hm
        refine v_inc_2 1 dS_weather_103 rfl (by decide) rfl ?_
        refine v_goto dS_weather_106 ?_
        exact v_kw (ih _ _ hm) (wk_s (wk_s (wk_s wk_e)))
theorem ctS_weather (G : GG) (d : Nat) (a0 : Nat) (q0 : shL[a0]? = some (7, 4)) (h0 : PH) (r : PH) (hm : mS_weather a0 h0 = some r) : Kx G tS_weather (d + 1) [.ref (gB G + a0)] h0 none r := by
  refine K_of_V (by decide) (by simp [Value.category]) (by simp [tS_weather]) ?_
  change Vx G tS_weather (d + 1) 0 [some (.ref (gB G + a0)), none, none] [] h0 none r
  unfold mS_weather at hm
  refine v_ald_0 dS_weather_0 ?_
  refine v_getR dS_weather_1 fuS_15 q0 (rf_sea_1 q0) ?_
  refine v_getR dS_weather_4 fuS_88 sh_5 rf_5_2 ?_
  refine v_ast_1 dS_weather_7 (by decide) rfl ?_
  refine v_iconst (x := 0) dS_weather_8 rfl ?_
  refine v_ist_2 dS_weather_9 (by decide) rfl ?_
  exact v_kw (wS_weather_L10 G d _ q0 _ FU _ _ hm) (wk_s (wk_s (wk_s wk_e)))
def mS_mayWed (a0 : Nat) (p1 : Int32) (h0 : PH) : Option (Int32) :=
  bd (mB_isUp (sT a0) p1 h0) fun r1 =>
  if r1 = 0 then
    some 0
  else
    bd (mB_read (sT a0) p1 9 h0) fun r2 =>
    if r2 = 0 then
      bd (mB_read (sT a0) p1 7 h0) fun r3 =>
      if r3 ≤ 0 then
        some 0
      else
        some 1
    else
      some 0
theorem ctS_mayWed (G : GG) (d : Nat) (a0 : Nat) (p1 : Int32) (q0 : shL[a0]? = some (7, 4)) (h0 : PH) (r : Int32) (hm : mS_mayWed a0 p1 h0 = some r) : Kx G tS_mayWed (d + 2) [.ref (gB G + a0), .int p1] h0 (some (.int r)) h0 := by
  refine K_of_V (by decide) (by simp [Value.category]) (by simp [tS_mayWed]) ?_
  change Vx G tS_mayWed (d + 2) 0 [some (.ref (gB G + a0)), some (.int p1)] [] h0 (some (.int r)) h0
  unfold mS_mayWed at hm
  refine v_ald_0 dS_mayWed_0 ?_
  refine v_getR dS_mayWed_1 fuS_9 q0 (rf_sea_0 q0) ?_
  refine v_ild_1 dS_mayWed_4 ?_
  obtain ⟨r1, he, hm⟩ := bd_s hm
  refine v_cv1i (M' := tB_isUp) dS_mayWed_5 mlS_62 okB_isUp (sh_sea q0) hc_1 (Nat.le_of_ble_eq_true rfl) (ctB_isUp G d _ _ (sh_sea q0) _ _ he) ?_
  refine v_if_eq dS_mayWed_8 (fun hc => ?_) (fun hc => ?_)
  · replace hm := it hc hm
    refine v_iconst (x := 0) dS_mayWed_41 rfl ?_
    cases hm
    exact v_zret0 dS_mayWed_42 rfl
  · replace hm := ie hc hm
    refine v_ald_0 dS_mayWed_11 ?_
    refine v_getR dS_mayWed_12 fuS_9 q0 (rf_sea_0 q0) ?_
    refine v_ild_1 dS_mayWed_15 ?_
    refine v_bipush (x := 9) dS_mayWed_16 rfl ?_
    obtain ⟨r2, he, hm⟩ := bd_s hm
    refine v_cv2i (M' := tB_read) dS_mayWed_18 mlS_66 okB_read (sh_sea q0) hc_1 (Nat.le_of_ble_eq_true rfl) (ctB_read G (d + 1) _ _ _ (sh_sea q0) _ _ he) ?_
    refine v_if_ne dS_mayWed_21 (fun hc => ?_) (fun hc => ?_)
    · replace hm := it hc hm
      refine v_ald_0 dS_mayWed_24 ?_
      refine v_getR dS_mayWed_25 fuS_9 q0 (rf_sea_0 q0) ?_
      refine v_ild_1 dS_mayWed_28 ?_
      refine v_bipush (x := 7) dS_mayWed_29 rfl ?_
      obtain ⟨r3, he, hm⟩ := bd_s hm
      refine v_cv2i (M' := tB_read) dS_mayWed_31 mlS_66 okB_read (sh_sea q0) hc_1 (Nat.le_of_ble_eq_true rfl) (ctB_read G (d + 1) _ _ _ (sh_sea q0) _ _ he) ?_
      refine v_if_le dS_mayWed_34 (fun hc => ?_) (fun hc => ?_)
      · replace hm := it hc hm
        refine v_iconst (x := 0) dS_mayWed_41 rfl ?_
        cases hm
        exact v_zret0 dS_mayWed_42 rfl
      · replace hm := ie hc hm
        refine v_iconst (x := 1) dS_mayWed_37 rfl ?_
        refine v_goto dS_mayWed_38 ?_
        cases hm
        exact v_zret1 dS_mayWed_42 rfl
    · replace hm := ie hc hm
      refine v_iconst (x := 0) dS_mayWed_41 rfl ?_
      cases hm
      exact v_zret0 dS_mayWed_42 rfl
def mS_note (a0 : Nat) (p1 : Int32) (p2 : Int32) (p3 : Int32) (h0 : PH) : Option (PH) :=
  if (h0 a0 3) = 0 then
    some h0
  else
    bd2 (mR_add 16 (h0 (sT a0) 6) p1 p2 p3 0 h0) fun r1 h2 =>
    some h2
theorem ctS_note (G : GG) (d : Nat) (a0 : Nat) (p1 : Int32) (p2 : Int32) (p3 : Int32) (q0 : shL[a0]? = some (7, 4)) (h0 : PH) (r : PH) (hm : mS_note a0 p1 p2 p3 h0 = some r) : Kx G tS_note (d + 1) [.ref (gB G + a0), .int p1, .int p2, .int p3] h0 none r := by
  refine K_of_V (by decide) (by simp [Value.category]) (by simp [tS_note]) ?_
  change Vx G tS_note (d + 1) 0 [some (.ref (gB G + a0)), some (.int p1), some (.int p2), some (.int p3)] [] h0 none r
  unfold mS_note at hm
  refine v_ald_0 dS_note_0 ?_
  refine v_getI dS_note_1 fuS_23 q0 (rf_sea_3 q0) ?_
  refine v_if_eq dS_note_4 (fun hc => ?_) (fun hc => ?_)
  · replace hm := it hc hm
    cases hm
    exact v_ret dS_note_29 rfl
  · replace hm := ie hc hm
    refine v_ald_0 dS_note_7 ?_
    refine v_getR dS_note_8 fuS_15 q0 (rf_sea_1 q0) ?_
    refine v_getR dS_note_11 fuS_163 sh_5 rf_5_5 ?_
    refine v_ald_0 dS_note_14 ?_
    refine v_getR dS_note_15 fuS_9 q0 (rf_sea_0 q0) ?_
    refine v_getI dS_note_18 fuS_46 (sh_sea q0) (rf_bor_6 (sh_sea q0)) ?_
    refine v_ild_1 dS_note_21 ?_
    refine v_ild_2 dS_note_22 ?_
    refine v_ild_3 dS_note_23 ?_
    refine v_iconst (x := 0) dS_note_24 rfl ?_
    obtain ⟨r1, h2, he, hm⟩ := bd2_s hm
    refine v_cv5i (M' := tR_add) dS_note_25 mlS_166 okR_add sh_16 hc_6 (Nat.le_of_ble_eq_true rfl) (ctR_add G d _ _ _ _ _ _ sh_16 _ _ he) ?_
    refine v_pop dS_note_28 rfl ?_
    cases hm
    exact v_ret dS_note_29 rfl
def mS_refuge_L11 (a0 : Nat) (p2 : Int32) (h0 : PH) : Nat → Int32 → Option (Int32)
  | 0, _ => none
  | n + 1, v3 =>
    if (h0 (sT a0) 1) ≤ v3 then
      some (-1)
    else
      if ((p2 >>> (v3 &&& 31)) &&& 1) = 1 then
        bd (mB_isUp (sT a0) v3 h0) fun r2 =>
        if r2 = 0 then
          mS_refuge_L11 a0 p2 h0 n (v3 + 1)
        else
          some v3
      else
        mS_refuge_L11 a0 p2 h0 n (v3 + 1)
def mS_refuge (a0 : Nat) (p1 : Int32) (h0 : PH) : Option (Int32) :=
  bd (mO_nextTo 5 p1 h0) fun r1 =>
  mS_refuge_L11 a0 r1 h0 FU 0
theorem wS_refuge_L11 (G : GG) (d : Nat) (a0 : Nat) (p2 : Int32) (h0 : PH) (q0 : shL[a0]? = some (7, 4)) (r : Int32) : ∀ (n : Nat) (v3 : Int32), mS_refuge_L11 a0 p2 h0 n v3 = some r → Vx G tS_refuge (d + 2) 11 [some (.ref (gB G + a0)), none, some (.int p2), some (.int v3)] [] h0 (some (.int r)) h0 := by
  intro n
  induction n with
  | zero => intro v3 hm; cases hm
  | succ n ih =>
    intro v3 hm
    unfold mS_refuge_L11 at hm
    refine v_ild_3 dS_refuge_11 ?_
    refine v_ald_0 dS_refuge_12 ?_
    refine v_getR dS_refuge_13 fuS_9 q0 (rf_sea_0 q0) ?_
    refine v_getI dS_refuge_16 fuS_59 (sh_sea q0) (rf_bor_1 (sh_sea q0)) ?_
    refine v_cmp_ge dS_refuge_19 (fun hc => ?_) (fun hc => ?_)
    · replace hm := it hc hm
      refine v_iconst (x := (-1)) dS_refuge_50 rfl ?_
      cases hm
      exact v_iret dS_refuge_51 rfl
    · replace hm := ie hc hm
      refine v_ild_2 dS_refuge_22 ?_
      refine v_ild_3 dS_refuge_23 ?_
      refine v_ishr dS_refuge_24 ?_
      refine v_iconst (x := 1) dS_refuge_25 rfl ?_
      refine v_iand dS_refuge_26 ?_
      refine v_iconst (x := 1) dS_refuge_27 rfl ?_
      refine v_cmp_ne dS_refuge_28 (fun hc => ?_) (fun hc => ?_)
      · replace hm := it hc hm
        refine v_ald_0 dS_refuge_31 ?_
        refine v_getR dS_refuge_32 fuS_9 q0 (rf_sea_0 q0) ?_
        refine v_ild_3 dS_refuge_35 ?_
        obtain ⟨r2, he, hm⟩ := bd_s hm
        refine v_cv1i (M' := tB_isUp) dS_refuge_36 mlS_62 okB_isUp (sh_sea q0) hc_1 (Nat.le_of_ble_eq_true rfl) (ctB_isUp G d _ _ (sh_sea q0) _ _ he) ?_
        refine v_if_eq dS_refuge_39 (fun hc => ?_) (fun hc => ?_)
        · replace hm := it hc hm
          refine v_inc_3 1 dS_refuge_44 rfl (by decide) rfl ?_
          refine v_goto dS_refuge_47 ?_
          exact v_kw (ih _ hm) (wk_s (wk_n (wk_s (wk_s wk_e))))
        · replace hm := ie hc hm
          refine v_ild_3 dS_refuge_42 ?_
          cases hm
          exact v_iret dS_refuge_43 rfl
      · replace hm := ie hc hm
        refine v_inc_3 1 dS_refuge_44 rfl (by decide) rfl ?_
        refine v_goto dS_refuge_47 ?_
        exact v_kw (ih _ hm) (wk_s (wk_n (wk_s (wk_s wk_e))))
theorem ctS_refuge (G : GG) (d : Nat) (a0 : Nat) (p1 : Int32) (q0 : shL[a0]? = some (7, 4)) (h0 : PH) (r : Int32) (hm : mS_refuge a0 p1 h0 = some r) : Kx G tS_refuge (d + 2) [.ref (gB G + a0), .int p1] h0 (some (.int r)) h0 := by
  refine K_of_V (by decide) (by simp [Value.category]) (by simp [tS_refuge]) ?_
  change Vx G tS_refuge (d + 2) 0 [some (.ref (gB G + a0)), some (.int p1), none, none] [] h0 (some (.int r)) h0
  unfold mS_refuge at hm
  refine v_ald_0 dS_refuge_0 ?_
  refine v_getR dS_refuge_1 fuS_15 q0 (rf_sea_1 q0) ?_
  refine v_ild_1 dS_refuge_4 ?_
  obtain ⟨r1, he, hm⟩ := bd_s hm
  refine v_cv1i (M' := tO_nextTo) dS_refuge_5 mlS_157 okO_nextTo sh_5 hc_11 (Nat.le_of_ble_eq_true rfl) (ctO_nextTo G d _ _ sh_5 _ _ he) ?_
  refine v_ist_2 dS_refuge_8 (by decide) rfl ?_
  refine v_iconst (x := 0) dS_refuge_9 rfl ?_
  refine v_ist_3 dS_refuge_10 (by decide) rfl ?_
  exact v_kw (wS_refuge_L11 G d _ _ _ q0 _ FU _ hm) (wk_s (wk_n (wk_s (wk_s wk_e))))
def mS_moveLodgers (a0 : Nat) (p1 : Int32) (p2 : Int32) (h0 : PH) : Option (PH) :=
  bd (mB_read (sT a0) p1 7 h0) fun r1 =>
  bd (mB_write (sT a0) p1 7 0 h0) fun h2 =>
  jn1 (fun (h4 : PH) =>
    bd (mS_note a0 4 p1 p2 h4) fun h5 =>
    some h5) fun j3 =>
  if p2 = (-1) then
    j3 h2
  else
    bd (mB_read (sT a0) p2 7 h2) fun r6 =>
    bd (mB_write (sT a0) p2 7 (r6 + r1) h2) fun h7 =>
    j3 h7
theorem ctS_moveLodgers (G : GG) (d : Nat) (a0 : Nat) (p1 : Int32) (p2 : Int32) (q0 : shL[a0]? = some (7, 4)) (h0 : PH) (r : PH) (hm : mS_moveLodgers a0 p1 p2 h0 = some r) : Kx G tS_moveLodgers (d + 2) [.ref (gB G + a0), .int p1, .int p2] h0 none r := by
  refine K_of_V (by decide) (by simp [Value.category]) (by simp [tS_moveLodgers]) ?_
  change Vx G tS_moveLodgers (d + 2) 0 [some (.ref (gB G + a0)), some (.int p1), some (.int p2), none] [] h0 none r
  unfold mS_moveLodgers at hm
  refine v_ald_0 dS_moveLodgers_0 ?_
  refine v_getR dS_moveLodgers_1 fuS_9 q0 (rf_sea_0 q0) ?_
  refine v_ild_1 dS_moveLodgers_4 ?_
  refine v_bipush (x := 7) dS_moveLodgers_5 rfl ?_
  obtain ⟨r1, he, hm⟩ := bd_s hm
  refine v_cv2i (M' := tB_read) dS_moveLodgers_7 mlS_66 okB_read (sh_sea q0) hc_1 (Nat.le_of_ble_eq_true rfl) (ctB_read G (d + 1) _ _ _ (sh_sea q0) _ _ he) ?_
  refine v_ist_3 dS_moveLodgers_10 (by decide) rfl ?_
  refine v_ald_0 dS_moveLodgers_11 ?_
  refine v_getR dS_moveLodgers_12 fuS_9 q0 (rf_sea_0 q0) ?_
  refine v_ild_1 dS_moveLodgers_15 ?_
  refine v_bipush (x := 7) dS_moveLodgers_16 rfl ?_
  refine v_iconst (x := 0) dS_moveLodgers_18 rfl ?_
  obtain ⟨h2, he, hm⟩ := bd_s hm
  refine v_cv3v (M' := tB_write) dS_moveLodgers_19 mlS_102 okB_write (sh_sea q0) hc_1 (Nat.le_of_ble_eq_true rfl) (ctB_write G (d + 1) _ _ _ _ (sh_sea q0) _ _ he) ?_
  refine v_ild_2 dS_moveLodgers_22 ?_
  refine v_iconst (x := (-1)) dS_moveLodgers_23 rfl ?_
  refine v_j1 (fun (h4 : PH) => Vx G tS_moveLodgers (d + 2) 49 [some (.ref (gB G + a0)), some (.int p1), some (.int p2), none] [] h4 none r) hm (fun h4 hm => ?_) (fun j3 kj3 hm => ?_)
  · refine v_ald_0 dS_moveLodgers_49 ?_
    refine v_iconst (x := 4) dS_moveLodgers_50 rfl ?_
    refine v_ild_1 dS_moveLodgers_51 ?_
    refine v_ild_2 dS_moveLodgers_52 ?_
    obtain ⟨h5, he, hm⟩ := bd_s hm
    refine v_cv3v (M' := tS_note) dS_moveLodgers_53 mlS_160 okS_note q0 hc_7 (Nat.le_of_ble_eq_true rfl) (ctS_note G d _ _ _ _ q0 _ _ he) ?_
    cases hm
    exact v_ret dS_moveLodgers_56 rfl
  · refine v_cmp_eq dS_moveLodgers_24 (fun hc => ?_) (fun hc => ?_)
    · replace hm := it hc hm
      exact v_kw (kj3 _ hm) (wk_s (wk_s (wk_s (wk_n wk_e))))
    · replace hm := ie hc hm
      refine v_ald_0 dS_moveLodgers_27 ?_
      refine v_getR dS_moveLodgers_28 fuS_9 q0 (rf_sea_0 q0) ?_
      refine v_ild_2 dS_moveLodgers_31 ?_
      refine v_bipush (x := 7) dS_moveLodgers_32 rfl ?_
      refine v_ald_0 dS_moveLodgers_34 ?_
      refine v_getR dS_moveLodgers_35 fuS_9 q0 (rf_sea_0 q0) ?_
      refine v_ild_2 dS_moveLodgers_38 ?_
      refine v_bipush (x := 7) dS_moveLodgers_39 rfl ?_
      obtain ⟨r6, he, hm⟩ := bd_s hm
      refine v_cv2i (M' := tB_read) dS_moveLodgers_41 mlS_66 okB_read (sh_sea q0) hc_1 (Nat.le_of_ble_eq_true rfl) (ctB_read G (d + 1) _ _ _ (sh_sea q0) _ _ he) ?_
      refine v_ild_3 dS_moveLodgers_44 ?_
      refine v_iadd dS_moveLodgers_45 ?_
      obtain ⟨h7, he, hm⟩ := bd_s hm
      refine v_cv3v (M' := tB_write) dS_moveLodgers_46 mlS_102 okB_write (sh_sea q0) hc_1 (Nat.le_of_ble_eq_true rfl) (ctB_write G (d + 1) _ _ _ _ (sh_sea q0) _ _ he) ?_
      exact v_kw (kj3 _ hm) (wk_s (wk_s (wk_s (wk_n wk_e))))
def mS_leaveIfFallen (a0 : Nat) (p1 : Int32) (h0 : PH) : Option (PH) :=
  bd (mB_isUp (sT a0) p1 h0) fun r1 =>
  if r1 = 0 then
    bd (mB_read (sT a0) p1 7 h0) fun r2 =>
    if 0 < r2 then
      bd (mS_refuge a0 p1 h0) fun r3 =>
      bd (mS_moveLodgers a0 p1 r3 h0) fun h4 =>
      some h4
    else
      some h0
  else
    some h0
theorem ctS_leaveIfFallen (G : GG) (d : Nat) (a0 : Nat) (p1 : Int32) (q0 : shL[a0]? = some (7, 4)) (h0 : PH) (r : PH) (hm : mS_leaveIfFallen a0 p1 h0 = some r) : Kx G tS_leaveIfFallen (d + 3) [.ref (gB G + a0), .int p1] h0 none r := by
  refine K_of_V (by decide) (by simp [Value.category]) (by simp [tS_leaveIfFallen]) ?_
  change Vx G tS_leaveIfFallen (d + 3) 0 [some (.ref (gB G + a0)), some (.int p1)] [] h0 none r
  unfold mS_leaveIfFallen at hm
  refine v_ald_0 dS_leaveIfFallen_0 ?_
  refine v_getR dS_leaveIfFallen_1 fuS_9 q0 (rf_sea_0 q0) ?_
  refine v_ild_1 dS_leaveIfFallen_4 ?_
  obtain ⟨r1, he, hm⟩ := bd_s hm
  refine v_cv1i (M' := tB_isUp) dS_leaveIfFallen_5 mlS_62 okB_isUp (sh_sea q0) hc_1 (Nat.le_of_ble_eq_true rfl) (ctB_isUp G (d + 1) _ _ (sh_sea q0) _ _ he) ?_
  refine v_if_ne dS_leaveIfFallen_8 (fun hc => ?_) (fun hc => ?_)
  · replace hm := it hc hm
    refine v_ald_0 dS_leaveIfFallen_11 ?_
    refine v_getR dS_leaveIfFallen_12 fuS_9 q0 (rf_sea_0 q0) ?_
    refine v_ild_1 dS_leaveIfFallen_15 ?_
    refine v_bipush (x := 7) dS_leaveIfFallen_16 rfl ?_
    obtain ⟨r2, he, hm⟩ := bd_s hm
    refine v_cv2i (M' := tB_read) dS_leaveIfFallen_18 mlS_66 okB_read (sh_sea q0) hc_1 (Nat.le_of_ble_eq_true rfl) (ctB_read G (d + 2) _ _ _ (sh_sea q0) _ _ he) ?_
    refine v_if_gt dS_leaveIfFallen_21 (fun hc => ?_) (fun hc => ?_)
    · replace hm := it hc hm
      refine v_ald_0 dS_leaveIfFallen_25 ?_
      refine v_ild_1 dS_leaveIfFallen_26 ?_
      refine v_ald_0 dS_leaveIfFallen_27 ?_
      refine v_ild_1 dS_leaveIfFallen_28 ?_
      obtain ⟨r3, he, hm⟩ := bd_s hm
      refine v_cv1i (M' := tS_refuge) dS_leaveIfFallen_29 mlS_150 okS_refuge q0 hc_7 (Nat.le_of_ble_eq_true rfl) (ctS_refuge G d _ _ q0 _ _ he) ?_
      obtain ⟨h4, he, hm⟩ := bd_s hm
      refine v_cv2v (M' := tS_moveLodgers) dS_leaveIfFallen_32 mlS_153 okS_moveLodgers q0 hc_7 (Nat.le_of_ble_eq_true rfl) (ctS_moveLodgers G d _ _ _ q0 _ _ he) ?_
      cases hm
      exact v_ret dS_leaveIfFallen_35 rfl
    · replace hm := ie hc hm
      cases hm
      exact v_ret dS_leaveIfFallen_24 rfl
  · replace hm := ie hc hm
    cases hm
    exact v_ret dS_leaveIfFallen_24 rfl
def mS_wed (a0 : Nat) (p1 : Int32) (h0 : PH) : Option (PH) :=
  bd (mB_write (sT a0) p1 9 1 h0) fun h1 =>
  bd (mB_thickest (sT a0) p1 h1) fun r2 =>
  bd2 (mB_thin (sT a0) p1 r2 10 h1) fun r3 h4 =>
  bd (mB_read (sT a0) p1 7 h4) fun r5 =>
  lt (r5 + 1) fun x6 =>
  bd (mB_write (sT a0) p1 7 x6 h4) fun h7 =>
  bd (mS_note a0 5 p1 x6 h7) fun h8 =>
  bd (mS_leaveIfFallen a0 p1 h8) fun h9 =>
  some h9
theorem ctS_wed (G : GG) (d : Nat) (a0 : Nat) (p1 : Int32) (q0 : shL[a0]? = some (7, 4)) (h0 : PH) (r : PH) (hm : mS_wed a0 p1 h0 = some r) : Kx G tS_wed (d + 4) [.ref (gB G + a0), .int p1] h0 none r := by
  refine K_of_V (by decide) (by simp [Value.category]) (by simp [tS_wed]) ?_
  change Vx G tS_wed (d + 4) 0 [some (.ref (gB G + a0)), some (.int p1), none] [] h0 none r
  unfold mS_wed at hm
  refine v_ald_0 dS_wed_0 ?_
  refine v_getR dS_wed_1 fuS_9 q0 (rf_sea_0 q0) ?_
  refine v_ild_1 dS_wed_4 ?_
  refine v_bipush (x := 9) dS_wed_5 rfl ?_
  refine v_iconst (x := 1) dS_wed_7 rfl ?_
  obtain ⟨h1, he, hm⟩ := bd_s hm
  refine v_cv3v (M' := tB_write) dS_wed_8 mlS_102 okB_write (sh_sea q0) hc_1 (Nat.le_of_ble_eq_true rfl) (ctB_write G (d + 3) _ _ _ _ (sh_sea q0) _ _ he) ?_
  refine v_ald_0 dS_wed_11 ?_
  refine v_getR dS_wed_12 fuS_9 q0 (rf_sea_0 q0) ?_
  refine v_ild_1 dS_wed_15 ?_
  refine v_ald_0 dS_wed_16 ?_
  refine v_getR dS_wed_17 fuS_9 q0 (rf_sea_0 q0) ?_
  refine v_ild_1 dS_wed_20 ?_
  obtain ⟨r2, he, hm⟩ := bd_s hm
  refine v_cv1i (M' := tB_thickest) dS_wed_21 mlS_118 okB_thickest (sh_sea q0) hc_1 (Nat.le_of_ble_eq_true rfl) (ctB_thickest G (d + 2) _ _ (sh_sea q0) _ _ he) ?_
  refine v_bipush (x := 10) dS_wed_24 rfl ?_
  obtain ⟨r3, h4, he, hm⟩ := bd2_s hm
  refine v_cv3i (M' := tB_thin) dS_wed_26 mlS_128 okB_thin (sh_sea q0) hc_1 (Nat.le_of_ble_eq_true rfl) (ctB_thin G (d + 2) _ _ _ _ (sh_sea q0) _ _ he) ?_
  refine v_pop dS_wed_29 rfl ?_
  refine v_ald_0 dS_wed_30 ?_
  refine v_getR dS_wed_31 fuS_9 q0 (rf_sea_0 q0) ?_
  refine v_ild_1 dS_wed_34 ?_
  refine v_bipush (x := 7) dS_wed_35 rfl ?_
  obtain ⟨r5, he, hm⟩ := bd_s hm
  refine v_cv2i (M' := tB_read) dS_wed_37 mlS_66 okB_read (sh_sea q0) hc_1 (Nat.le_of_ble_eq_true rfl) (ctB_read G (d + 3) _ _ _ (sh_sea q0) _ _ he) ?_
  refine v_iconst (x := 1) dS_wed_40 rfl ?_
  refine v_iadd dS_wed_41 ?_
  refine v_top hm (fun x6 hm => ?_)
  refine v_ist_2 dS_wed_42 (by decide) rfl ?_
  refine v_ald_0 dS_wed_43 ?_
  refine v_getR dS_wed_44 fuS_9 q0 (rf_sea_0 q0) ?_
  refine v_ild_1 dS_wed_47 ?_
  refine v_bipush (x := 7) dS_wed_48 rfl ?_
  refine v_ild_2 dS_wed_50 ?_
  obtain ⟨h7, he, hm⟩ := bd_s hm
  refine v_cv3v (M' := tB_write) dS_wed_51 mlS_102 okB_write (sh_sea q0) hc_1 (Nat.le_of_ble_eq_true rfl) (ctB_write G (d + 3) _ _ _ _ (sh_sea q0) _ _ he) ?_
  refine v_ald_0 dS_wed_54 ?_
  refine v_iconst (x := 5) dS_wed_55 rfl ?_
  refine v_ild_1 dS_wed_56 ?_
  refine v_ild_2 dS_wed_57 ?_
  obtain ⟨h8, he, hm⟩ := bd_s hm
  refine v_cv3v (M' := tS_note) dS_wed_58 mlS_160 okS_note q0 hc_7 (Nat.le_of_ble_eq_true rfl) (ctS_note G (d + 2) _ _ _ _ q0 _ _ he) ?_
  refine v_ald_0 dS_wed_61 ?_
  refine v_ild_1 dS_wed_62 ?_
  obtain ⟨h9, he, hm⟩ := bd_s hm
  refine v_cv1v (M' := tS_leaveIfFallen) dS_wed_63 mlS_82 okS_leaveIfFallen q0 hc_7 (Nat.le_of_ble_eq_true rfl) (ctS_leaveIfFallen G d _ _ q0 _ _ he) ?_
  cases hm
  exact v_ret dS_wed_66 rfl
def mS_raze_L2 (a0 : Nat) (p1 : Int32) (k0 : PH → Option (PH)) : Nat → Int32 → PH → Option (PH)
  | 0, _, _ => none
  | n + 1, v2, hv =>
    if 4 ≤ v2 then
      k0 hv
    else
      bd (mB_write (sT a0) p1 v2 0 hv) fun h1 =>
      mS_raze_L2 a0 p1 k0 n (v2 + 1) h1
def mS_raze (a0 : Nat) (p1 : Int32) (h0 : PH) : Option (PH) :=
  mS_raze_L2 a0 p1 (fun (h2 : PH) =>
    bd (mS_leaveIfFallen a0 p1 h2) fun h3 =>
    some h3) FU 0 h0
theorem wS_raze_L2 (G : GG) (d : Nat) (a0 : Nat) (p1 : Int32) (q0 : shL[a0]? = some (7, 4)) (k0 : PH → Option (PH)) (r : PH) (kk0 : ∀ (hy : PH), k0 hy = some r → Vx G tS_raze (d + 4) 23 [some (.ref (gB G + a0)), some (.int p1), none] [] hy none r) : ∀ (n : Nat) (v2 : Int32) (hv : PH), mS_raze_L2 a0 p1 k0 n v2 hv = some r → Vx G tS_raze (d + 4) 2 [some (.ref (gB G + a0)), some (.int p1), some (.int v2)] [] hv none r := by
  intro n
  induction n with
  | zero => intro v2 hv hm; cases hm
  | succ n ih =>
    intro v2 hv hm
    unfold mS_raze_L2 at hm
    refine v_ild_2 dS_raze_2 ?_
    refine v_iconst (x := 4) dS_raze_3 rfl ?_
    refine v_cmp_ge dS_raze_4 (fun hc => ?_) (fun hc => ?_)
    · replace hm := it hc hm
      exact v_kw (kk0 _ hm) (wk_s (wk_s (wk_n wk_e)))
    · replace hm := ie hc hm
      refine v_ald_0 dS_raze_7 ?_
      refine v_getR dS_raze_8 fuS_9 q0 (rf_sea_0 q0) ?_
      refine v_ild_1 dS_raze_11 ?_
      refine v_ild_2 dS_raze_12 ?_
      refine v_iconst (x := 0) dS_raze_13 rfl ?_
      obtain ⟨h1, he, hm⟩ := bd_s hm
      refine v_cv3v (M' := tB_write) dS_raze_14 mlS_102 okB_write (sh_sea q0) hc_1 (Nat.le_of_ble_eq_true rfl) (ctB_write G (d + 3) _ _ _ _ (sh_sea q0) _ _ he) ?_
      refine v_inc_2 1 dS_raze_17 rfl (by decide) rfl ?_
      refine v_goto dS_raze_20 ?_
      exact v_kw (ih _ _ hm) (wk_s (wk_s (wk_s wk_e)))
theorem ctS_raze (G : GG) (d : Nat) (a0 : Nat) (p1 : Int32) (q0 : shL[a0]? = some (7, 4)) (h0 : PH) (r : PH) (hm : mS_raze a0 p1 h0 = some r) : Kx G tS_raze (d + 4) [.ref (gB G + a0), .int p1] h0 none r := by
  refine K_of_V (by decide) (by simp [Value.category]) (by simp [tS_raze]) ?_
  change Vx G tS_raze (d + 4) 0 [some (.ref (gB G + a0)), some (.int p1), none] [] h0 none r
  unfold mS_raze at hm
  refine v_iconst (x := 0) dS_raze_0 rfl ?_
  refine v_ist_2 dS_raze_1 (by decide) rfl ?_
  refine v_kw (wS_raze_L2 G d _ _ q0 _ _ (fun h2 hm => ?_) FU _ _ hm) (wk_s (wk_s (wk_s wk_e)))
  refine v_ald_0 dS_raze_23 ?_
  refine v_ild_1 dS_raze_24 ?_
  obtain ⟨h3, he, hm⟩ := bd_s hm
  refine v_cv1v (M' := tS_leaveIfFallen) dS_raze_25 mlS_82 okS_leaveIfFallen q0 hc_7 (Nat.le_of_ble_eq_true rfl) (ctS_leaveIfFallen G d _ _ q0 _ _ he) ?_
  cases hm
  exact v_ret dS_raze_28 rfl
def mS_officeLine (a0 : Nat) (a1 : Nat) (p2 : Int32) (h0 : PH) : Option (PH) :=
  bd (mR_at a1 p2 2 h0) fun r1 =>
  bd (mR_at a1 p2 4 h0) fun r2 =>
  bd (mR_at a1 p2 1 h0) fun r3 =>
  if r3 = 1 then
    bd (mB_read (sT a0) r1 8 h0) fun r4 =>
    bd (mB_write (sT a0) r1 8 (imax 0 (r4 - r2)) h0) fun h5 =>
    some h5
  else
    if r3 = 2 then
      bd (mR_at a1 p2 3 h0) fun r6 =>
      bd (mB_thicken (sT a0) r1 r6 r2 h0) fun h7 =>
      some h7
    else
      if r3 = 3 then
        bd (mS_mayWed a0 r1 h0) fun r8 =>
        if r8 = 0 then
          some h0
        else
          bd (mS_wed a0 r1 h0) fun h9 =>
          some h9
      else
        bd (mB_isUp (sT a0) r1 h0) fun r10 =>
        if r10 = 0 then
          some h0
        else
          bd (mS_raze a0 r1 h0) fun h11 =>
          some h11
theorem ctS_officeLine (G : GG) (d : Nat) (a0 : Nat) (a1 : Nat) (p2 : Int32) (q0 : shL[a0]? = some (7, 4)) (q1 : shL[a1]? = some (6, 4)) (h0 : PH) (r : PH) (hm : mS_officeLine a0 a1 p2 h0 = some r) : Kx G tS_officeLine (d + 5) [.ref (gB G + a0), .ref (gB G + a1), .int p2] h0 none r := by
  refine K_of_V (by decide) (by simp [Value.category]) (by simp [tS_officeLine]) ?_
  change Vx G tS_officeLine (d + 5) 0 [some (.ref (gB G + a0)), some (.ref (gB G + a1)), some (.int p2), none, none] [] h0 none r
  unfold mS_officeLine at hm
  refine v_ald_1 dS_officeLine_0 ?_
  refine v_ild_2 dS_officeLine_1 ?_
  refine v_iconst (x := 2) dS_officeLine_2 rfl ?_
  obtain ⟨r1, he, hm⟩ := bd_s hm
  refine v_cv2i (M' := tR_at) dS_officeLine_3 mlS_42 okR_at q1 hc_6 (Nat.le_of_ble_eq_true rfl) (ctR_at G (d + 4) _ _ _ q1 _ _ he) ?_
  refine v_ist_3 dS_officeLine_6 (by decide) rfl ?_
  refine v_ald_1 dS_officeLine_7 ?_
  refine v_ild_2 dS_officeLine_8 ?_
  refine v_iconst (x := 4) dS_officeLine_9 rfl ?_
  obtain ⟨r2, he, hm⟩ := bd_s hm
  refine v_cv2i (M' := tR_at) dS_officeLine_10 mlS_42 okR_at q1 hc_6 (Nat.le_of_ble_eq_true rfl) (ctR_at G (d + 4) _ _ _ q1 _ _ he) ?_
  refine v_ist_4 dS_officeLine_13 (by decide) rfl ?_
  refine v_ald_1 dS_officeLine_15 ?_
  refine v_ild_2 dS_officeLine_16 ?_
  refine v_iconst (x := 1) dS_officeLine_17 rfl ?_
  obtain ⟨r3, he, hm⟩ := bd_s hm
  refine v_cv2i (M' := tR_at) dS_officeLine_18 mlS_42 okR_at q1 hc_6 (Nat.le_of_ble_eq_true rfl) (ctR_at G (d + 4) _ _ _ q1 _ _ he) ?_
  refine v_sw dS_officeLine_21 ?_
  refine v_selc (fun hc => ?_) (fun hc => ?_)
  · replace hm := it hc hm
    refine v_ald_0 dS_officeLine_48 ?_
    refine v_getR dS_officeLine_49 fuS_9 q0 (rf_sea_0 q0) ?_
    refine v_ild_3 dS_officeLine_52 ?_
    refine v_bipush (x := 8) dS_officeLine_53 rfl ?_
    refine v_iconst (x := 0) dS_officeLine_55 rfl ?_
    refine v_ald_0 dS_officeLine_56 ?_
    refine v_getR dS_officeLine_57 fuS_9 q0 (rf_sea_0 q0) ?_
    refine v_ild_3 dS_officeLine_60 ?_
    refine v_bipush (x := 8) dS_officeLine_61 rfl ?_
    obtain ⟨r4, he, hm⟩ := bd_s hm
    refine v_cv2i (M' := tB_read) dS_officeLine_63 mlS_66 okB_read (sh_sea q0) hc_1 (Nat.le_of_ble_eq_true rfl) (ctB_read G (d + 4) _ _ _ (sh_sea q0) _ _ he) ?_
    refine v_ild_4 dS_officeLine_66 ?_
    refine v_isub dS_officeLine_68 ?_
    refine v_mmax dS_officeLine_69 mlS_97 (Nat.le_of_ble_eq_true rfl) ?_
    obtain ⟨h5, he, hm⟩ := bd_s hm
    refine v_cv3v (M' := tB_write) dS_officeLine_72 mlS_102 okB_write (sh_sea q0) hc_1 (Nat.le_of_ble_eq_true rfl) (ctB_write G (d + 4) _ _ _ _ (sh_sea q0) _ _ he) ?_
    refine v_goto dS_officeLine_75 ?_
    cases hm
    exact v_ret dS_officeLine_129 rfl
  · replace hm := ie hc hm
    refine v_selc (fun hc => ?_) (fun hc => ?_)
    · replace hm := it hc hm
      refine v_ald_0 dS_officeLine_78 ?_
      refine v_getR dS_officeLine_79 fuS_9 q0 (rf_sea_0 q0) ?_
      refine v_ild_3 dS_officeLine_82 ?_
      refine v_ald_1 dS_officeLine_83 ?_
      refine v_ild_2 dS_officeLine_84 ?_
      refine v_iconst (x := 3) dS_officeLine_85 rfl ?_
      obtain ⟨r6, he, hm⟩ := bd_s hm
      refine v_cv2i (M' := tR_at) dS_officeLine_86 mlS_42 okR_at q1 hc_6 (Nat.le_of_ble_eq_true rfl) (ctR_at G (d + 4) _ _ _ q1 _ _ he) ?_
      refine v_ild_4 dS_officeLine_89 ?_
      obtain ⟨h7, he, hm⟩ := bd_s hm
      refine v_cv3v (M' := tB_thicken) dS_officeLine_91 mlS_106 okB_thicken (sh_sea q0) hc_1 (Nat.le_of_ble_eq_true rfl) (ctB_thicken G (d + 3) _ _ _ _ (sh_sea q0) _ _ he) ?_
      refine v_goto dS_officeLine_94 ?_
      cases hm
      exact v_ret dS_officeLine_129 rfl
    · replace hm := ie hc hm
      refine v_selc (fun hc => ?_) (fun hc => ?_)
      · replace hm := it hc hm
        refine v_ald_0 dS_officeLine_97 ?_
        refine v_ild_3 dS_officeLine_98 ?_
        obtain ⟨r8, he, hm⟩ := bd_s hm
        refine v_cv1i (M' := tS_mayWed) dS_officeLine_99 mlS_109 okS_mayWed q0 hc_7 (Nat.le_of_ble_eq_true rfl) (ctS_mayWed G (d + 2) _ _ q0 _ _ he) ?_
        refine v_if_eq dS_officeLine_102 (fun hc => ?_) (fun hc => ?_)
        · replace hm := it hc hm
          cases hm
          exact v_ret dS_officeLine_129 rfl
        · replace hm := ie hc hm
          refine v_ald_0 dS_officeLine_105 ?_
          refine v_ild_3 dS_officeLine_106 ?_
          obtain ⟨h9, he, hm⟩ := bd_s hm
          refine v_cv1v (M' := tS_wed) dS_officeLine_107 mlS_112 okS_wed q0 hc_7 (Nat.le_of_ble_eq_true rfl) (ctS_wed G d _ _ q0 _ _ he) ?_
          refine v_goto dS_officeLine_110 ?_
          cases hm
          exact v_ret dS_officeLine_129 rfl
      · replace hm := ie hc hm
        refine v_seln ?_
        refine v_ald_0 dS_officeLine_113 ?_
        refine v_getR dS_officeLine_114 fuS_9 q0 (rf_sea_0 q0) ?_
        refine v_ild_3 dS_officeLine_117 ?_
        obtain ⟨r10, he, hm⟩ := bd_s hm
        refine v_cv1i (M' := tB_isUp) dS_officeLine_118 mlS_62 okB_isUp (sh_sea q0) hc_1 (Nat.le_of_ble_eq_true rfl) (ctB_isUp G (d + 3) _ _ (sh_sea q0) _ _ he) ?_
        refine v_if_eq dS_officeLine_121 (fun hc => ?_) (fun hc => ?_)
        · replace hm := it hc hm
          cases hm
          exact v_ret dS_officeLine_129 rfl
        · replace hm := ie hc hm
          refine v_ald_0 dS_officeLine_124 ?_
          refine v_ild_3 dS_officeLine_125 ?_
          obtain ⟨h11, he, hm⟩ := bd_s hm
          refine v_cv1v (M' := tS_raze) dS_officeLine_126 mlS_115 okS_raze q0 hc_7 (Nat.le_of_ble_eq_true rfl) (ctS_raze G d _ _ q0 _ _ he) ?_
          cases hm
          exact v_ret dS_officeLine_129 rfl
def mS_noteIfAny (a0 : Nat) (p1 : Int32) (p2 : Int32) (p3 : Int32) (h0 : PH) : Option (PH) :=
  if p3 ≤ 0 then
    some h0
  else
    bd (mS_note a0 p1 p2 p3 h0) fun h1 =>
    some h1
theorem ctS_noteIfAny (G : GG) (d : Nat) (a0 : Nat) (p1 : Int32) (p2 : Int32) (p3 : Int32) (q0 : shL[a0]? = some (7, 4)) (h0 : PH) (r : PH) (hm : mS_noteIfAny a0 p1 p2 p3 h0 = some r) : Kx G tS_noteIfAny (d + 2) [.ref (gB G + a0), .int p1, .int p2, .int p3] h0 none r := by
  refine K_of_V (by decide) (by simp [Value.category]) (by simp [tS_noteIfAny]) ?_
  change Vx G tS_noteIfAny (d + 2) 0 [some (.ref (gB G + a0)), some (.int p1), some (.int p2), some (.int p3)] [] h0 none r
  unfold mS_noteIfAny at hm
  refine v_ild_3 dS_noteIfAny_0 ?_
  refine v_if_le dS_noteIfAny_1 (fun hc => ?_) (fun hc => ?_)
  · replace hm := it hc hm
    cases hm
    exact v_ret dS_noteIfAny_11 rfl
  · replace hm := ie hc hm
    refine v_ald_0 dS_noteIfAny_4 ?_
    refine v_ild_1 dS_noteIfAny_5 ?_
    refine v_ild_2 dS_noteIfAny_6 ?_
    refine v_ild_3 dS_noteIfAny_7 ?_
    obtain ⟨h1, he, hm⟩ := bd_s hm
    refine v_cv3v (M' := tS_note) dS_noteIfAny_8 mlS_160 okS_note q0 hc_7 (Nat.le_of_ble_eq_true rfl) (ctS_note G d _ _ _ _ q0 _ _ he) ?_
    cases hm
    exact v_ret dS_noteIfAny_11 rfl
def mS_payRent_L27 (a0 : Nat) (p1 : Int32) (p2 : Int32) (k0 : Int32 → PH → Option (PH)) : Nat → Int32 → Int32 → PH → Option (PH)
  | 0, _, _, _ => none
  | n + 1, v3, v4, hv =>
    if p2 ≤ v4 then
      k0 v3 hv
    else
      bd (mB_isUp (sT a0) p1 hv) fun r4 =>
      if r4 = 0 then
        k0 v3 hv
      else
        bd (mB_thickest (sT a0) p1 hv) fun r5 =>
        bd2 (mB_thin (sT a0) p1 r5 1 hv) fun r6 h7 =>
        lt (v3 + r6) fun x8 =>
        mS_payRent_L27 a0 p1 p2 k0 n x8 (v4 + 1) h7
def mS_payRent (a0 : Nat) (p1 : Int32) (h0 : PH) : Option (PH) :=
  bd (mB_thickest (sT a0) p1 h0) fun r1 =>
  bd2 (mW_tells (sT a0) p1 r1 0 h0) fun r2 h3 =>
  mS_payRent_L27 a0 p1 r2 (fun (x9 : Int32) (h10 : PH) =>
    lt (up h10 (sT a0) 4 ((h10 (sT a0) 4) + x9)) fun h11 =>
    bd (mS_noteIfAny a0 0 p1 x9 h11) fun h12 =>
    lt (r2 - x9) fun x13 =>
    bd (mB_read (sT a0) p1 8 h12) fun r14 =>
    bd (mB_write (sT a0) p1 8 (r14 + x13) h12) fun h15 =>
    bd (mS_noteIfAny a0 1 p1 x13 h15) fun h16 =>
    bd (mS_leaveIfFallen a0 p1 h16) fun h17 =>
    some h17) FU 0 0 h3
theorem wS_payRent_L27 (G : GG) (d : Nat) (a0 : Nat) (p1 : Int32) (p2 : Int32) (q0 : shL[a0]? = some (7, 4)) (k0 : Int32 → PH → Option (PH)) (r : PH) (kk0 : ∀ (y3 : Int32) (hy : PH), k0 y3 hy = some r → Vx G tS_payRent (d + 5) 70 [some (.ref (gB G + a0)), some (.int p1), some (.int p2), some (.int y3), none] [] hy none r) : ∀ (n : Nat) (v3 : Int32) (v4 : Int32) (hv : PH), mS_payRent_L27 a0 p1 p2 k0 n v3 v4 hv = some r → Vx G tS_payRent (d + 5) 27 [some (.ref (gB G + a0)), some (.int p1), some (.int p2), some (.int v3), some (.int v4)] [] hv none r := by
  intro n
  induction n with
  | zero => intro v3 v4 hv hm; cases hm
  | succ n ih =>
    intro v3 v4 hv hm
    unfold mS_payRent_L27 at hm
    refine v_ild_4 dS_payRent_27 ?_
    refine v_ild_2 dS_payRent_29 ?_
    refine v_cmp_ge dS_payRent_30 (fun hc => ?_) (fun hc => ?_)
    · replace hm := it hc hm
      exact v_kw (kk0 _ _ hm) (wk_s (wk_s (wk_s (wk_s (wk_n wk_e)))))
    · replace hm := ie hc hm
      refine v_ald_0 dS_payRent_33 ?_
      refine v_getR dS_payRent_34 fuS_9 q0 (rf_sea_0 q0) ?_
      refine v_ild_1 dS_payRent_37 ?_
      obtain ⟨r4, he, hm⟩ := bd_s hm
      refine v_cv1i (M' := tB_isUp) dS_payRent_38 mlS_62 okB_isUp (sh_sea q0) hc_1 (Nat.le_of_ble_eq_true rfl) (ctB_isUp G (d + 3) _ _ (sh_sea q0) _ _ he) ?_
      refine v_if_eq dS_payRent_41 (fun hc => ?_) (fun hc => ?_)
      · replace hm := it hc hm
        exact v_kw (kk0 _ _ hm) (wk_s (wk_s (wk_s (wk_s (wk_n wk_e)))))
      · replace hm := ie hc hm
        refine v_ild_3 dS_payRent_44 ?_
        refine v_ald_0 dS_payRent_45 ?_
        refine v_getR dS_payRent_46 fuS_9 q0 (rf_sea_0 q0) ?_
        refine v_ild_1 dS_payRent_49 ?_
        refine v_ald_0 dS_payRent_50 ?_
        refine v_getR dS_payRent_51 fuS_9 q0 (rf_sea_0 q0) ?_
        refine v_ild_1 dS_payRent_54 ?_
        obtain ⟨r5, he, hm⟩ := bd_s hm
        refine v_cv1i (M' := tB_thickest) dS_payRent_55 mlS_118 okB_thickest (sh_sea q0) hc_1 (Nat.le_of_ble_eq_true rfl) (ctB_thickest G (d + 3) _ _ (sh_sea q0) _ _ he) ?_
        refine v_iconst (x := 1) dS_payRent_58 rfl ?_
        obtain ⟨r6, h7, he, hm⟩ := bd2_s hm
        refine v_cv3i (M' := tB_thin) dS_payRent_59 mlS_128 okB_thin (sh_sea q0) hc_1 (Nat.le_of_ble_eq_true rfl) (ctB_thin G (d + 3) _ _ _ _ (sh_sea q0) _ _ he) ?_
        refine v_iadd dS_payRent_62 ?_
        refine v_top hm (fun x8 hm => ?_)
        refine v_ist_3 dS_payRent_63 (by decide) rfl ?_
        refine v_inc_4 1 dS_payRent_64 rfl (by decide) rfl ?_
        refine v_goto dS_payRent_67 ?_
        exact v_kw (ih _ _ _ hm) (wk_s (wk_s (wk_s (wk_s (wk_s wk_e)))))
theorem ctS_payRent (G : GG) (d : Nat) (a0 : Nat) (p1 : Int32) (q0 : shL[a0]? = some (7, 4)) (h0 : PH) (r : PH) (hm : mS_payRent a0 p1 h0 = some r) : Kx G tS_payRent (d + 5) [.ref (gB G + a0), .int p1] h0 none r := by
  refine K_of_V (by decide) (by simp [Value.category]) (by simp [tS_payRent]) ?_
  change Vx G tS_payRent (d + 5) 0 [some (.ref (gB G + a0)), some (.int p1), none, none, none] [] h0 none r
  unfold mS_payRent at hm
  refine v_ald_0 dS_payRent_0 ?_
  refine v_getR dS_payRent_1 fuS_19 q0 (rf_sea_2 q0) ?_
  refine v_ald_0 dS_payRent_4 ?_
  refine v_getR dS_payRent_5 fuS_9 q0 (rf_sea_0 q0) ?_
  refine v_ild_1 dS_payRent_8 ?_
  refine v_ald_0 dS_payRent_9 ?_
  refine v_getR dS_payRent_10 fuS_9 q0 (rf_sea_0 q0) ?_
  refine v_ild_1 dS_payRent_13 ?_
  obtain ⟨r1, he, hm⟩ := bd_s hm
  refine v_cv1i (M' := tB_thickest) dS_payRent_14 mlS_118 okB_thickest (sh_sea q0) hc_1 (Nat.le_of_ble_eq_true rfl) (ctB_thickest G (d + 3) _ _ (sh_sea q0) _ _ he) ?_
  refine v_iconst (x := 0) dS_payRent_17 rfl ?_
  obtain ⟨r2, h3, he, hm⟩ := bd2_s hm
  refine v_cv4i (M' := tW_tells) dS_payRent_18 mlS_122 okW_tells sh_34 hc_3 (Nat.le_of_ble_eq_true rfl) (ctW_tells G d _ _ _ _ (sh_sea q0) _ _ he) ?_
  refine v_ist_2 dS_payRent_21 (by decide) rfl ?_
  refine v_iconst (x := 0) dS_payRent_22 rfl ?_
  refine v_ist_3 dS_payRent_23 (by decide) rfl ?_
  refine v_iconst (x := 0) dS_payRent_24 rfl ?_
  refine v_ist_4 dS_payRent_25 (by decide) rfl ?_
  refine v_kw (wS_payRent_L27 G d _ _ _ q0 _ _ (fun x9 h10 hm => ?_) FU _ _ _ hm) (wk_s (wk_s (wk_s (wk_s (wk_s wk_e)))))
  refine v_ald_0 dS_payRent_70 ?_
  refine v_getR dS_payRent_71 fuS_9 q0 (rf_sea_0 q0) ?_
  refine v_dup dS_payRent_74 rfl ?_
  refine v_getI dS_payRent_75 fuS_132 (sh_sea q0) (rf_bor_4 (sh_sea q0)) ?_
  refine v_ild_3 dS_payRent_78 ?_
  refine v_iadd dS_payRent_79 ?_
  refine v_putIl dS_payRent_80 fuS_132 ft_1_4 (sh_sea q0) (rf_bor_4 (sh_sea q0)) hm (fun h11 hm => ?_)
  refine v_ald_0 dS_payRent_83 ?_
  refine v_iconst (x := 0) dS_payRent_84 rfl ?_
  refine v_ild_1 dS_payRent_85 ?_
  refine v_ild_3 dS_payRent_86 ?_
  obtain ⟨h12, he, hm⟩ := bd_s hm
  refine v_cv3v (M' := tS_noteIfAny) dS_payRent_87 mlS_135 okS_noteIfAny q0 hc_7 (Nat.le_of_ble_eq_true rfl) (ctS_noteIfAny G (d + 2) _ _ _ _ q0 _ _ he) ?_
  refine v_ild_2 dS_payRent_90 ?_
  refine v_ild_3 dS_payRent_91 ?_
  refine v_isub dS_payRent_92 ?_
  refine v_top hm (fun x13 hm => ?_)
  refine v_ist_4 dS_payRent_93 (by decide) rfl ?_
  refine v_ald_0 dS_payRent_95 ?_
  refine v_getR dS_payRent_96 fuS_9 q0 (rf_sea_0 q0) ?_
  refine v_ild_1 dS_payRent_99 ?_
  refine v_bipush (x := 8) dS_payRent_100 rfl ?_
  refine v_ald_0 dS_payRent_102 ?_
  refine v_getR dS_payRent_103 fuS_9 q0 (rf_sea_0 q0) ?_
  refine v_ild_1 dS_payRent_106 ?_
  refine v_bipush (x := 8) dS_payRent_107 rfl ?_
  obtain ⟨r14, he, hm⟩ := bd_s hm
  refine v_cv2i (M' := tB_read) dS_payRent_109 mlS_66 okB_read (sh_sea q0) hc_1 (Nat.le_of_ble_eq_true rfl) (ctB_read G (d + 4) _ _ _ (sh_sea q0) _ _ he) ?_
  refine v_ild_4 dS_payRent_112 ?_
  refine v_iadd dS_payRent_114 ?_
  obtain ⟨h15, he, hm⟩ := bd_s hm
  refine v_cv3v (M' := tB_write) dS_payRent_115 mlS_102 okB_write (sh_sea q0) hc_1 (Nat.le_of_ble_eq_true rfl) (ctB_write G (d + 4) _ _ _ _ (sh_sea q0) _ _ he) ?_
  refine v_ald_0 dS_payRent_118 ?_
  refine v_iconst (x := 1) dS_payRent_119 rfl ?_
  refine v_ild_1 dS_payRent_120 ?_
  refine v_ild_4 dS_payRent_121 ?_
  obtain ⟨h16, he, hm⟩ := bd_s hm
  refine v_cv3v (M' := tS_noteIfAny) dS_payRent_123 mlS_135 okS_noteIfAny q0 hc_7 (Nat.le_of_ble_eq_true rfl) (ctS_noteIfAny G (d + 2) _ _ _ _ q0 _ _ he) ?_
  refine v_ald_0 dS_payRent_126 ?_
  refine v_ild_1 dS_payRent_127 ?_
  obtain ⟨h17, he, hm⟩ := bd_s hm
  refine v_cv1v (M' := tS_leaveIfFallen) dS_payRent_128 mlS_82 okS_leaveIfFallen q0 hc_7 (Nat.le_of_ble_eq_true rfl) (ctS_leaveIfFallen G (d + 1) _ _ q0 _ _ he) ?_
  cases hm
  exact v_ret dS_payRent_131 rfl
def mS_ratsGnaw (a0 : Nat) (p1 : Int32) (h0 : PH) : Option (Int32 × PH) :=
  if (h0 a0 3) = 0 then
    if p1 < 500 then
      some (0, h0)
    else
      some (1, h0)
  else
    if p1 ≤ 0 then
      some (0, h0)
    else
      bd2 (mB_draw (sT a0) 1000 h0) fun r1 h2 =>
      if p1 ≤ r1 then
        some (0, h2)
      else
        some (1, h2)
theorem ctS_ratsGnaw (G : GG) (d : Nat) (a0 : Nat) (p1 : Int32) (q0 : shL[a0]? = some (7, 4)) (h0 : PH) (r : Int32 × PH) (hm : mS_ratsGnaw a0 p1 h0 = some r) : Kx G tS_ratsGnaw (d + 1) [.ref (gB G + a0), .int p1] h0 (some (.int r.1)) r.2 := by
  refine K_of_V (by decide) (by simp [Value.category]) (by simp [tS_ratsGnaw]) ?_
  change Vx G tS_ratsGnaw (d + 1) 0 [some (.ref (gB G + a0)), some (.int p1)] [] h0 (some (.int r.1)) r.2
  unfold mS_ratsGnaw at hm
  refine v_ald_0 dS_ratsGnaw_0 ?_
  refine v_getI dS_ratsGnaw_1 fuS_23 q0 (rf_sea_3 q0) ?_
  refine v_if_ne dS_ratsGnaw_4 (fun hc => ?_) (fun hc => ?_)
  · replace hm := it hc hm
    refine v_ild_1 dS_ratsGnaw_7 ?_
    refine v_sipush (x := 500) dS_ratsGnaw_8 rfl ?_
    refine v_cmp_lt dS_ratsGnaw_11 (fun hc => ?_) (fun hc => ?_)
    · replace hm := it hc hm
      refine v_iconst (x := 0) dS_ratsGnaw_18 rfl ?_
      cases hm
      exact v_zret0 dS_ratsGnaw_19 rfl
    · replace hm := ie hc hm
      refine v_iconst (x := 1) dS_ratsGnaw_14 rfl ?_
      refine v_goto dS_ratsGnaw_15 ?_
      cases hm
      exact v_zret1 dS_ratsGnaw_19 rfl
  · replace hm := ie hc hm
    refine v_ild_1 dS_ratsGnaw_20 ?_
    refine v_if_le dS_ratsGnaw_21 (fun hc => ?_) (fun hc => ?_)
    · replace hm := it hc hm
      refine v_iconst (x := 0) dS_ratsGnaw_42 rfl ?_
      cases hm
      exact v_zret0 dS_ratsGnaw_43 rfl
    · replace hm := ie hc hm
      refine v_ald_0 dS_ratsGnaw_24 ?_
      refine v_getR dS_ratsGnaw_25 fuS_9 q0 (rf_sea_0 q0) ?_
      refine v_sipush (x := 1000) dS_ratsGnaw_28 rfl ?_
      obtain ⟨r1, h2, he, hm⟩ := bd2_s hm
      refine v_cv1i (M' := tB_draw) dS_ratsGnaw_31 mlS_144 okB_draw (sh_sea q0) hc_1 (Nat.le_of_ble_eq_true rfl) (ctB_draw G d _ _ (sh_sea q0) _ _ he) ?_
      refine v_ild_1 dS_ratsGnaw_34 ?_
      refine v_cmp_ge dS_ratsGnaw_35 (fun hc => ?_) (fun hc => ?_)
      · replace hm := it hc hm
        refine v_iconst (x := 0) dS_ratsGnaw_42 rfl ?_
        cases hm
        exact v_zret0 dS_ratsGnaw_43 rfl
      · replace hm := ie hc hm
        refine v_iconst (x := 1) dS_ratsGnaw_38 rfl ?_
        refine v_goto dS_ratsGnaw_39 ?_
        cases hm
        exact v_zret1 dS_ratsGnaw_43 rfl
def mS_gnaw_L4 (a0 : Nat) (p1 : Int32) (k0 : Int32 → PH → Option (PH)) : Nat → Int32 → Int32 → PH → Option (PH)
  | 0, _, _, _ => none
  | n + 1, v2, v3, hv =>
    if 4 ≤ v3 then
      k0 v2 hv
    else
      bd (mB_read (sT a0) p1 v3 hv) fun r1 =>
      if r1 ≤ 0 then
        mS_gnaw_L4 a0 p1 k0 n v2 (v3 + 1) hv
      else
        bd2 (mW_tells (sT a0) p1 v3 1 hv) fun r2 h3 =>
        bd2 (mS_ratsGnaw a0 r2 h3) fun r4 h5 =>
        if r4 = 0 then
          mS_gnaw_L4 a0 p1 k0 n v2 (v3 + 1) h5
        else
          bd2 (mB_thin (sT a0) p1 v3 1 h5) fun r6 h7 =>
          lt (v2 + r6) fun x8 =>
          mS_gnaw_L4 a0 p1 k0 n x8 (v3 + 1) h7
def mS_gnaw (a0 : Nat) (p1 : Int32) (h0 : PH) : Option (PH) :=
  mS_gnaw_L4 a0 p1 (fun (x9 : Int32) (h10 : PH) =>
    lt (up h10 (sT a0) 5 ((h10 (sT a0) 5) + x9)) fun h11 =>
    bd (mS_noteIfAny a0 2 p1 x9 h11) fun h12 =>
    some h12) FU 0 0 h0
theorem wS_gnaw_L4 (G : GG) (d : Nat) (a0 : Nat) (p1 : Int32) (q0 : shL[a0]? = some (7, 4)) (k0 : Int32 → PH → Option (PH)) (r : PH) (kk0 : ∀ (y2 : Int32) (hy : PH), k0 y2 hy = some r → Vx G tS_gnaw (d + 5) 61 [some (.ref (gB G + a0)), some (.int p1), some (.int y2), none] [] hy none r) : ∀ (n : Nat) (v2 : Int32) (v3 : Int32) (hv : PH), mS_gnaw_L4 a0 p1 k0 n v2 v3 hv = some r → Vx G tS_gnaw (d + 5) 4 [some (.ref (gB G + a0)), some (.int p1), some (.int v2), some (.int v3)] [] hv none r := by
  intro n
  induction n with
  | zero => intro v2 v3 hv hm; cases hm
  | succ n ih =>
    intro v2 v3 hv hm
    unfold mS_gnaw_L4 at hm
    refine v_ild_3 dS_gnaw_4 ?_
    refine v_iconst (x := 4) dS_gnaw_5 rfl ?_
    refine v_cmp_ge dS_gnaw_6 (fun hc => ?_) (fun hc => ?_)
    · replace hm := it hc hm
      exact v_kw (kk0 _ _ hm) (wk_s (wk_s (wk_s (wk_n wk_e))))
    · replace hm := ie hc hm
      refine v_ald_0 dS_gnaw_9 ?_
      refine v_getR dS_gnaw_10 fuS_9 q0 (rf_sea_0 q0) ?_
      refine v_ild_1 dS_gnaw_13 ?_
      refine v_ild_3 dS_gnaw_14 ?_
      obtain ⟨r1, he, hm⟩ := bd_s hm
      refine v_cv2i (M' := tB_read) dS_gnaw_15 mlS_66 okB_read (sh_sea q0) hc_1 (Nat.le_of_ble_eq_true rfl) (ctB_read G (d + 4) _ _ _ (sh_sea q0) _ _ he) ?_
      refine v_if_le dS_gnaw_18 (fun hc => ?_) (fun hc => ?_)
      · replace hm := it hc hm
        refine v_inc_3 1 dS_gnaw_55 rfl (by decide) rfl ?_
        refine v_goto dS_gnaw_58 ?_
        exact v_kw (ih _ _ _ hm) (wk_s (wk_s (wk_s (wk_s wk_e))))
      · replace hm := ie hc hm
        refine v_ald_0 dS_gnaw_21 ?_
        refine v_ald_0 dS_gnaw_22 ?_
        refine v_getR dS_gnaw_23 fuS_19 q0 (rf_sea_2 q0) ?_
        refine v_ald_0 dS_gnaw_26 ?_
        refine v_getR dS_gnaw_27 fuS_9 q0 (rf_sea_0 q0) ?_
        refine v_ild_1 dS_gnaw_30 ?_
        refine v_ild_3 dS_gnaw_31 ?_
        refine v_iconst (x := 1) dS_gnaw_32 rfl ?_
        obtain ⟨r2, h3, he, hm⟩ := bd2_s hm
        refine v_cv4i (M' := tW_tells) dS_gnaw_33 mlS_122 okW_tells sh_34 hc_3 (Nat.le_of_ble_eq_true rfl) (ctW_tells G d _ _ _ _ (sh_sea q0) _ _ he) ?_
        obtain ⟨r4, h5, he, hm⟩ := bd2_s hm
        refine v_cv1i (M' := tS_ratsGnaw) dS_gnaw_36 mlS_138 okS_ratsGnaw q0 hc_7 (Nat.le_of_ble_eq_true rfl) (ctS_ratsGnaw G (d + 3) _ _ q0 _ _ he) ?_
        refine v_if_eq dS_gnaw_39 (fun hc => ?_) (fun hc => ?_)
        · replace hm := it hc hm
          refine v_inc_3 1 dS_gnaw_55 rfl (by decide) rfl ?_
          refine v_goto dS_gnaw_58 ?_
          exact v_kw (ih _ _ _ hm) (wk_s (wk_s (wk_s (wk_s wk_e))))
        · replace hm := ie hc hm
          refine v_ild_2 dS_gnaw_42 ?_
          refine v_ald_0 dS_gnaw_43 ?_
          refine v_getR dS_gnaw_44 fuS_9 q0 (rf_sea_0 q0) ?_
          refine v_ild_1 dS_gnaw_47 ?_
          refine v_ild_3 dS_gnaw_48 ?_
          refine v_iconst (x := 1) dS_gnaw_49 rfl ?_
          obtain ⟨r6, h7, he, hm⟩ := bd2_s hm
          refine v_cv3i (M' := tB_thin) dS_gnaw_50 mlS_128 okB_thin (sh_sea q0) hc_1 (Nat.le_of_ble_eq_true rfl) (ctB_thin G (d + 3) _ _ _ _ (sh_sea q0) _ _ he) ?_
          refine v_iadd dS_gnaw_53 ?_
          refine v_top hm (fun x8 hm => ?_)
          refine v_ist_2 dS_gnaw_54 (by decide) rfl ?_
          refine v_inc_3 1 dS_gnaw_55 rfl (by decide) rfl ?_
          refine v_goto dS_gnaw_58 ?_
          exact v_kw (ih _ _ _ hm) (wk_s (wk_s (wk_s (wk_s wk_e))))
theorem ctS_gnaw (G : GG) (d : Nat) (a0 : Nat) (p1 : Int32) (q0 : shL[a0]? = some (7, 4)) (h0 : PH) (r : PH) (hm : mS_gnaw a0 p1 h0 = some r) : Kx G tS_gnaw (d + 5) [.ref (gB G + a0), .int p1] h0 none r := by
  refine K_of_V (by decide) (by simp [Value.category]) (by simp [tS_gnaw]) ?_
  change Vx G tS_gnaw (d + 5) 0 [some (.ref (gB G + a0)), some (.int p1), none, none] [] h0 none r
  unfold mS_gnaw at hm
  refine v_iconst (x := 0) dS_gnaw_0 rfl ?_
  refine v_ist_2 dS_gnaw_1 (by decide) rfl ?_
  refine v_iconst (x := 0) dS_gnaw_2 rfl ?_
  refine v_ist_3 dS_gnaw_3 (by decide) rfl ?_
  refine v_kw (wS_gnaw_L4 G d _ _ q0 _ _ (fun x9 h10 hm => ?_) FU _ _ _ hm) (wk_s (wk_s (wk_s (wk_s wk_e))))
  refine v_ald_0 dS_gnaw_61 ?_
  refine v_getR dS_gnaw_62 fuS_9 q0 (rf_sea_0 q0) ?_
  refine v_dup dS_gnaw_65 rfl ?_
  refine v_getI dS_gnaw_66 fuS_141 (sh_sea q0) (rf_bor_5 (sh_sea q0)) ?_
  refine v_ild_2 dS_gnaw_69 ?_
  refine v_iadd dS_gnaw_70 ?_
  refine v_putIl dS_gnaw_71 fuS_141 ft_1_5 (sh_sea q0) (rf_bor_5 (sh_sea q0)) hm (fun h11 hm => ?_)
  refine v_ald_0 dS_gnaw_74 ?_
  refine v_iconst (x := 2) dS_gnaw_75 rfl ?_
  refine v_ild_1 dS_gnaw_76 ?_
  refine v_ild_2 dS_gnaw_77 ?_
  obtain ⟨h12, he, hm⟩ := bd_s hm
  refine v_cv3v (M' := tS_noteIfAny) dS_gnaw_78 mlS_135 okS_noteIfAny q0 hc_7 (Nat.le_of_ble_eq_true rfl) (ctS_noteIfAny G (d + 2) _ _ _ _ q0 _ _ he) ?_
  cases hm
  exact v_ret dS_gnaw_81 rfl
def mS_melt_L15 (a0 : Nat) (p1 : Int32) (k0 : Int32 → PH → Option (PH)) : Nat → Int32 → Int32 → PH → Option (PH)
  | 0, _, _, _ => none
  | n + 1, v2, v3, hv =>
    if 4 ≤ v3 then
      k0 v2 hv
    else
      bd (mB_read (sT a0) p1 v3 hv) fun r1 =>
      if r1 ≤ 0 then
        mS_melt_L15 a0 p1 k0 n v2 (v3 + 1) hv
      else
        bd2 (mW_tells (sT a0) p1 v3 2 hv) fun r2 h3 =>
        bd2 (mB_thin (sT a0) p1 v3 r2 h3) fun r4 h5 =>
        lt (v2 + r4) fun x6 =>
        mS_melt_L15 a0 p1 k0 n x6 (v3 + 1) h5
def mS_melt (a0 : Nat) (p1 : Int32) (h0 : PH) : Option (PH) :=
  if (h0 (sT a0) 3) = 0 then
    mS_melt_L15 a0 p1 (fun (x7 : Int32) (h8 : PH) =>
      bd (mS_noteIfAny a0 3 p1 x7 h8) fun h9 =>
      some h9) FU 0 0 h0
  else
    some h0
theorem wS_melt_L15 (G : GG) (d : Nat) (a0 : Nat) (p1 : Int32) (q0 : shL[a0]? = some (7, 4)) (k0 : Int32 → PH → Option (PH)) (r : PH) (kk0 : ∀ (y2 : Int32) (hy : PH), k0 y2 hy = some r → Vx G tS_melt (d + 5) 64 [some (.ref (gB G + a0)), some (.int p1), some (.int y2), none] [] hy none r) : ∀ (n : Nat) (v2 : Int32) (v3 : Int32) (hv : PH), mS_melt_L15 a0 p1 k0 n v2 v3 hv = some r → Vx G tS_melt (d + 5) 15 [some (.ref (gB G + a0)), some (.int p1), some (.int v2), some (.int v3)] [] hv none r := by
  intro n
  induction n with
  | zero => intro v2 v3 hv hm; cases hm
  | succ n ih =>
    intro v2 v3 hv hm
    unfold mS_melt_L15 at hm
    refine v_ild_3 dS_melt_15 ?_
    refine v_iconst (x := 4) dS_melt_16 rfl ?_
    refine v_cmp_ge dS_melt_17 (fun hc => ?_) (fun hc => ?_)
    · replace hm := it hc hm
      exact v_kw (kk0 _ _ hm) (wk_s (wk_s (wk_s (wk_n wk_e))))
    · replace hm := ie hc hm
      refine v_ald_0 dS_melt_20 ?_
      refine v_getR dS_melt_21 fuS_9 q0 (rf_sea_0 q0) ?_
      refine v_ild_1 dS_melt_24 ?_
      refine v_ild_3 dS_melt_25 ?_
      obtain ⟨r1, he, hm⟩ := bd_s hm
      refine v_cv2i (M' := tB_read) dS_melt_26 mlS_66 okB_read (sh_sea q0) hc_1 (Nat.le_of_ble_eq_true rfl) (ctB_read G (d + 4) _ _ _ (sh_sea q0) _ _ he) ?_
      refine v_if_le dS_melt_29 (fun hc => ?_) (fun hc => ?_)
      · replace hm := it hc hm
        refine v_inc_3 1 dS_melt_58 rfl (by decide) rfl ?_
        refine v_goto dS_melt_61 ?_
        exact v_kw (ih _ _ _ hm) (wk_s (wk_s (wk_s (wk_s wk_e))))
      · replace hm := ie hc hm
        refine v_ild_2 dS_melt_32 ?_
        refine v_ald_0 dS_melt_33 ?_
        refine v_getR dS_melt_34 fuS_9 q0 (rf_sea_0 q0) ?_
        refine v_ild_1 dS_melt_37 ?_
        refine v_ild_3 dS_melt_38 ?_
        refine v_ald_0 dS_melt_39 ?_
        refine v_getR dS_melt_40 fuS_19 q0 (rf_sea_2 q0) ?_
        refine v_ald_0 dS_melt_43 ?_
        refine v_getR dS_melt_44 fuS_9 q0 (rf_sea_0 q0) ?_
        refine v_ild_1 dS_melt_47 ?_
        refine v_ild_3 dS_melt_48 ?_
        refine v_iconst (x := 2) dS_melt_49 rfl ?_
        obtain ⟨r2, h3, he, hm⟩ := bd2_s hm
        refine v_cv4i (M' := tW_tells) dS_melt_50 mlS_122 okW_tells sh_34 hc_3 (Nat.le_of_ble_eq_true rfl) (ctW_tells G d _ _ _ _ (sh_sea q0) _ _ he) ?_
        obtain ⟨r4, h5, he, hm⟩ := bd2_s hm
        refine v_cv3i (M' := tB_thin) dS_melt_53 mlS_128 okB_thin (sh_sea q0) hc_1 (Nat.le_of_ble_eq_true rfl) (ctB_thin G (d + 3) _ _ _ _ (sh_sea q0) _ _ he) ?_
        refine v_iadd dS_melt_56 ?_
        refine v_top hm (fun x6 hm => ?_)
        refine v_ist_2 dS_melt_57 (by decide) rfl ?_
        refine v_inc_3 1 dS_melt_58 rfl (by decide) rfl ?_
        refine v_goto dS_melt_61 ?_
        exact v_kw (ih _ _ _ hm) (wk_s (wk_s (wk_s (wk_s wk_e))))
theorem ctS_melt (G : GG) (d : Nat) (a0 : Nat) (p1 : Int32) (q0 : shL[a0]? = some (7, 4)) (h0 : PH) (r : PH) (hm : mS_melt a0 p1 h0 = some r) : Kx G tS_melt (d + 5) [.ref (gB G + a0), .int p1] h0 none r := by
  refine K_of_V (by decide) (by simp [Value.category]) (by simp [tS_melt]) ?_
  change Vx G tS_melt (d + 5) 0 [some (.ref (gB G + a0)), some (.int p1), none, none] [] h0 none r
  unfold mS_melt at hm
  refine v_ald_0 dS_melt_0 ?_
  refine v_getR dS_melt_1 fuS_9 q0 (rf_sea_0 q0) ?_
  refine v_getI dS_melt_4 fuS_94 (sh_sea q0) (rf_bor_3 (sh_sea q0)) ?_
  refine v_if_eq dS_melt_7 (fun hc => ?_) (fun hc => ?_)
  · replace hm := it hc hm
    refine v_iconst (x := 0) dS_melt_11 rfl ?_
    refine v_ist_2 dS_melt_12 (by decide) rfl ?_
    refine v_iconst (x := 0) dS_melt_13 rfl ?_
    refine v_ist_3 dS_melt_14 (by decide) rfl ?_
    refine v_kw (wS_melt_L15 G d _ _ q0 _ _ (fun x7 h8 hm => ?_) FU _ _ _ hm) (wk_s (wk_s (wk_s (wk_s wk_e))))
    refine v_ald_0 dS_melt_64 ?_
    refine v_iconst (x := 3) dS_melt_65 rfl ?_
    refine v_ild_1 dS_melt_66 ?_
    refine v_ild_2 dS_melt_67 ?_
    obtain ⟨h9, he, hm⟩ := bd_s hm
    refine v_cv3v (M' := tS_noteIfAny) dS_melt_68 mlS_135 okS_noteIfAny q0 hc_7 (Nat.le_of_ble_eq_true rfl) (ctS_noteIfAny G (d + 2) _ _ _ _ q0 _ _ he) ?_
    cases hm
    exact v_ret dS_melt_71 rfl
  · replace hm := ie hc hm
    cases hm
    exact v_ret dS_melt_10 rfl
def mS_harden_L2 (a0 : Nat) : Nat → Int32 → PH → Option (PH)
  | 0, _, _ => none
  | n + 1, v1, hv =>
    if (hv (sT a0) 1) ≤ v1 then
      some hv
    else
      if (hv (sT a0) 3) = 1 then
        bd (mB_isUp (sT a0) v1 hv) fun r1 =>
        if r1 = 0 then
          mS_harden_L2 a0 n (v1 + 1) hv
        else
          bd (mB_read (sT a0) v1 6 hv) fun r2 =>
          bd (mB_write (sT a0) v1 6 (imin 9 (r2 + 1)) hv) fun h3 =>
          mS_harden_L2 a0 n (v1 + 1) h3
      else
        mS_harden_L2 a0 n (v1 + 1) hv
def mS_harden (a0 : Nat) (h0 : PH) : Option (PH) :=
  mS_harden_L2 a0 FU 0 h0
theorem wS_harden_L2 (G : GG) (d : Nat) (a0 : Nat) (q0 : shL[a0]? = some (7, 4)) (r : PH) : ∀ (n : Nat) (v1 : Int32) (hv : PH), mS_harden_L2 a0 n v1 hv = some r → Vx G tS_harden (d + 2) 2 [some (.ref (gB G + a0)), some (.int v1)] [] hv none r := by
  intro n
  induction n with
  | zero => intro v1 hv hm; cases hm
  | succ n ih =>
    intro v1 hv hm
    unfold mS_harden_L2 at hm
    refine v_ild_1 dS_harden_2 ?_
    refine v_ald_0 dS_harden_3 ?_
    refine v_getR dS_harden_4 fuS_9 q0 (rf_sea_0 q0) ?_
    refine v_getI dS_harden_7 fuS_59 (sh_sea q0) (rf_bor_1 (sh_sea q0)) ?_
    refine v_cmp_ge dS_harden_10 (fun hc => ?_) (fun hc => ?_)
    · replace hm := it hc hm
      cases hm
      exact v_ret dS_harden_68 rfl
    · replace hm := ie hc hm
      refine v_ald_0 dS_harden_13 ?_
      refine v_getR dS_harden_14 fuS_9 q0 (rf_sea_0 q0) ?_
      refine v_getI dS_harden_17 fuS_94 (sh_sea q0) (rf_bor_3 (sh_sea q0)) ?_
      refine v_iconst (x := 1) dS_harden_20 rfl ?_
      refine v_cmp_ne dS_harden_21 (fun hc => ?_) (fun hc => ?_)
      · replace hm := it hc hm
        refine v_ald_0 dS_harden_24 ?_
        refine v_getR dS_harden_25 fuS_9 q0 (rf_sea_0 q0) ?_
        refine v_ild_1 dS_harden_28 ?_
        obtain ⟨r1, he, hm⟩ := bd_s hm
        refine v_cv1i (M' := tB_isUp) dS_harden_29 mlS_62 okB_isUp (sh_sea q0) hc_1 (Nat.le_of_ble_eq_true rfl) (ctB_isUp G d _ _ (sh_sea q0) _ _ he) ?_
        refine v_if_eq dS_harden_32 (fun hc => ?_) (fun hc => ?_)
        · replace hm := it hc hm
          refine v_inc_1 1 dS_harden_62 rfl (by decide) rfl ?_
          refine v_goto dS_harden_65 ?_
          exact v_kw (ih _ _ hm) (wk_s (wk_s wk_e))
        · replace hm := ie hc hm
          refine v_ald_0 dS_harden_35 ?_
          refine v_getR dS_harden_36 fuS_9 q0 (rf_sea_0 q0) ?_
          refine v_ild_1 dS_harden_39 ?_
          refine v_bipush (x := 6) dS_harden_40 rfl ?_
          refine v_bipush (x := 9) dS_harden_42 rfl ?_
          refine v_ald_0 dS_harden_44 ?_
          refine v_getR dS_harden_45 fuS_9 q0 (rf_sea_0 q0) ?_
          refine v_ild_1 dS_harden_48 ?_
          refine v_bipush (x := 6) dS_harden_49 rfl ?_
          obtain ⟨r2, he, hm⟩ := bd_s hm
          refine v_cv2i (M' := tB_read) dS_harden_51 mlS_66 okB_read (sh_sea q0) hc_1 (Nat.le_of_ble_eq_true rfl) (ctB_read G (d + 1) _ _ _ (sh_sea q0) _ _ he) ?_
          refine v_iconst (x := 1) dS_harden_54 rfl ?_
          refine v_iadd dS_harden_55 ?_
          refine v_mmin dS_harden_56 mlS_147 (Nat.le_of_ble_eq_true rfl) ?_
          obtain ⟨h3, he, hm⟩ := bd_s hm
          refine v_cv3v (M' := tB_write) dS_harden_59 mlS_102 okB_write (sh_sea q0) hc_1 (Nat.le_of_ble_eq_true rfl) (ctB_write G (d + 1) _ _ _ _ (sh_sea q0) _ _ he) ?_
          refine v_inc_1 1 dS_harden_62 rfl (by decide) rfl ?_
          refine v_goto dS_harden_65 ?_
          exact v_kw (ih _ _ hm) (wk_s (wk_s wk_e))
      · replace hm := ie hc hm
        refine v_inc_1 1 dS_harden_62 rfl (by decide) rfl ?_
        refine v_goto dS_harden_65 ?_
        exact v_kw (ih _ _ hm) (wk_s (wk_s wk_e))
theorem ctS_harden (G : GG) (d : Nat) (a0 : Nat) (q0 : shL[a0]? = some (7, 4)) (h0 : PH) (r : PH) (hm : mS_harden a0 h0 = some r) : Kx G tS_harden (d + 2) [.ref (gB G + a0)] h0 none r := by
  refine K_of_V (by decide) (by simp [Value.category]) (by simp [tS_harden]) ?_
  change Vx G tS_harden (d + 2) 0 [some (.ref (gB G + a0)), none] [] h0 none r
  unfold mS_harden at hm
  refine v_iconst (x := 0) dS_harden_0 rfl ?_
  refine v_ist_1 dS_harden_1 (by decide) rfl ?_
  exact v_kw (wS_harden_L2 G d _ q0 _ FU _ _ hm) (wk_s (wk_s wk_e))
def mS_grow_L2 (a0 : Nat) (k0 : PH → Option (PH)) : Nat → Int32 → PH → Option (PH)
  | 0, _, _ => none
  | n + 1, v1, hv =>
    if (hv (sT a0) 1) ≤ v1 then
      k0 hv
    else
      bd (mB_isUp (sT a0) v1 hv) fun r1 =>
      if r1 = 0 then
        mS_grow_L2 a0 k0 n (v1 + 1) hv
      else
        bd (mB_read (sT a0) v1 10 hv) fun r2 =>
        bd (mB_write (sT a0) v1 10 (r2 + 1) hv) fun h3 =>
        mS_grow_L2 a0 k0 n (v1 + 1) h3
def mS_grow (a0 : Nat) (h0 : PH) : Option (PH) :=
  mS_grow_L2 a0 (fun (h4 : PH) =>
    lt (up h4 (sT a0) 6 ((h4 (sT a0) 6) + 1)) fun h5 =>
    some h5) FU 0 h0
theorem wS_grow_L2 (G : GG) (d : Nat) (a0 : Nat) (q0 : shL[a0]? = some (7, 4)) (k0 : PH → Option (PH)) (r : PH) (kk0 : ∀ (hy : PH), k0 hy = some r → Vx G tS_grow (d + 2) 52 [some (.ref (gB G + a0)), none] [] hy none r) : ∀ (n : Nat) (v1 : Int32) (hv : PH), mS_grow_L2 a0 k0 n v1 hv = some r → Vx G tS_grow (d + 2) 2 [some (.ref (gB G + a0)), some (.int v1)] [] hv none r := by
  intro n
  induction n with
  | zero => intro v1 hv hm; cases hm
  | succ n ih =>
    intro v1 hv hm
    unfold mS_grow_L2 at hm
    refine v_ild_1 dS_grow_2 ?_
    refine v_ald_0 dS_grow_3 ?_
    refine v_getR dS_grow_4 fuS_9 q0 (rf_sea_0 q0) ?_
    refine v_getI dS_grow_7 fuS_59 (sh_sea q0) (rf_bor_1 (sh_sea q0)) ?_
    refine v_cmp_ge dS_grow_10 (fun hc => ?_) (fun hc => ?_)
    · replace hm := it hc hm
      exact v_kw (kk0 _ hm) (wk_s (wk_n wk_e))
    · replace hm := ie hc hm
      refine v_ald_0 dS_grow_13 ?_
      refine v_getR dS_grow_14 fuS_9 q0 (rf_sea_0 q0) ?_
      refine v_ild_1 dS_grow_17 ?_
      obtain ⟨r1, he, hm⟩ := bd_s hm
      refine v_cv1i (M' := tB_isUp) dS_grow_18 mlS_62 okB_isUp (sh_sea q0) hc_1 (Nat.le_of_ble_eq_true rfl) (ctB_isUp G d _ _ (sh_sea q0) _ _ he) ?_
      refine v_if_eq dS_grow_21 (fun hc => ?_) (fun hc => ?_)
      · replace hm := it hc hm
        refine v_inc_1 1 dS_grow_46 rfl (by decide) rfl ?_
        refine v_goto dS_grow_49 ?_
        exact v_kw (ih _ _ hm) (wk_s (wk_s wk_e))
      · replace hm := ie hc hm
        refine v_ald_0 dS_grow_24 ?_
        refine v_getR dS_grow_25 fuS_9 q0 (rf_sea_0 q0) ?_
        refine v_ild_1 dS_grow_28 ?_
        refine v_bipush (x := 10) dS_grow_29 rfl ?_
        refine v_ald_0 dS_grow_31 ?_
        refine v_getR dS_grow_32 fuS_9 q0 (rf_sea_0 q0) ?_
        refine v_ild_1 dS_grow_35 ?_
        refine v_bipush (x := 10) dS_grow_36 rfl ?_
        obtain ⟨r2, he, hm⟩ := bd_s hm
        refine v_cv2i (M' := tB_read) dS_grow_38 mlS_66 okB_read (sh_sea q0) hc_1 (Nat.le_of_ble_eq_true rfl) (ctB_read G (d + 1) _ _ _ (sh_sea q0) _ _ he) ?_
        refine v_iconst (x := 1) dS_grow_41 rfl ?_
        refine v_iadd dS_grow_42 ?_
        obtain ⟨h3, he, hm⟩ := bd_s hm
        refine v_cv3v (M' := tB_write) dS_grow_43 mlS_102 okB_write (sh_sea q0) hc_1 (Nat.le_of_ble_eq_true rfl) (ctB_write G (d + 1) _ _ _ _ (sh_sea q0) _ _ he) ?_
        refine v_inc_1 1 dS_grow_46 rfl (by decide) rfl ?_
        refine v_goto dS_grow_49 ?_
        exact v_kw (ih _ _ hm) (wk_s (wk_s wk_e))
theorem ctS_grow (G : GG) (d : Nat) (a0 : Nat) (q0 : shL[a0]? = some (7, 4)) (h0 : PH) (r : PH) (hm : mS_grow a0 h0 = some r) : Kx G tS_grow (d + 2) [.ref (gB G + a0)] h0 none r := by
  refine K_of_V (by decide) (by simp [Value.category]) (by simp [tS_grow]) ?_
  change Vx G tS_grow (d + 2) 0 [some (.ref (gB G + a0)), none] [] h0 none r
  unfold mS_grow at hm
  refine v_iconst (x := 0) dS_grow_0 rfl ?_
  refine v_ist_1 dS_grow_1 (by decide) rfl ?_
  refine v_kw (wS_grow_L2 G d _ q0 _ _ (fun h4 hm => ?_) FU _ _ hm) (wk_s (wk_s wk_e))
  refine v_ald_0 dS_grow_52 ?_
  refine v_getR dS_grow_53 fuS_9 q0 (rf_sea_0 q0) ?_
  refine v_dup dS_grow_56 rfl ?_
  refine v_getI dS_grow_57 fuS_46 (sh_sea q0) (rf_bor_6 (sh_sea q0)) ?_
  refine v_iconst (x := 1) dS_grow_60 rfl ?_
  refine v_iadd dS_grow_61 ?_
  refine v_putIl dS_grow_62 fuS_46 ft_1_6 (sh_sea q0) (rf_bor_6 (sh_sea q0)) hm (fun h5 hm => ?_)
  cases hm
  exact v_ret dS_grow_65 rfl
def mS_pass_L6 (a0 : Nat) (k0 : PH → Option (Int32 × PH)) : Nat → Int32 → PH → Option (Int32 × PH)
  | 0, _, _ => none
  | n + 1, v1, hv =>
    if (hv 12 3) ≤ v1 then
      k0 hv
    else
      bd (mR_at 12 v1 0 hv) fun r2 =>
      if r2 = (hv (sT a0) 6) then
        bd (mS_officeLine a0 12 v1 hv) fun h3 =>
        mS_pass_L6 a0 k0 n (v1 + 1) h3
      else
        mS_pass_L6 a0 k0 n (v1 + 1) hv
def mS_pass_L70 (a0 : Nat) (p1 : Int32) (k0 : PH → Option (Int32 × PH)) : Nat → Int32 → PH → Option (Int32 × PH)
  | 0, _, _ => none
  | n + 1, v2, hv =>
    if (hv (sT a0) 1) ≤ v2 then
      k0 hv
    else
      bd (mB_isUp (sT a0) v2 hv) fun r6 =>
      if r6 = 0 then
        mS_pass_L70 a0 p1 k0 n (v2 + 1) hv
      else
        bd (mB_read (sT a0) v2 7 hv) fun r7 =>
        if r7 ≤ 0 then
          mS_pass_L70 a0 p1 k0 n (v2 + 1) hv
        else
          bd (mS_payRent a0 v2 hv) fun h8 =>
          mS_pass_L70 a0 p1 k0 n (v2 + 1) h8
def mS_pass_L118 (a0 : Nat) (p1 : Int32) (k0 : PH → Option (Int32 × PH)) : Nat → Int32 → PH → Option (Int32 × PH)
  | 0, _, _ => none
  | n + 1, v2, hv =>
    if (hv (sT a0) 1) ≤ v2 then
      k0 hv
    else
      bd (mS_gnaw a0 v2 hv) fun h10 =>
      mS_pass_L118 a0 p1 k0 n (v2 + 1) h10
def mS_pass_L142 (a0 : Nat) (p1 : Int32) (k0 : PH → Option (Int32 × PH)) : Nat → Int32 → PH → Option (Int32 × PH)
  | 0, _, _ => none
  | n + 1, v2, hv =>
    if (hv (sT a0) 1) ≤ v2 then
      k0 hv
    else
      bd (mS_melt a0 v2 hv) fun h12 =>
      mS_pass_L142 a0 p1 k0 n (v2 + 1) h12
def mS_pass_L180 (a0 : Nat) (p2 : Int32) (k0 : PH → Option (Int32 × PH)) : Nat → Int32 → PH → Option (Int32 × PH)
  | 0, _, _ => none
  | n + 1, v3, hv =>
    if (hv (sT a0) 1) ≤ v3 then
      k0 hv
    else
      bd (mS_leaveIfFallen a0 v3 hv) fun h17 =>
      mS_pass_L180 a0 p2 k0 n (v3 + 1) h17
def mS_pass (a0 : Nat) (h0 : PH) : Option (Int32 × PH) :=
  bd (mS_weather a0 h0) fun h1 =>
  mS_pass_L6 a0 (fun (h4 : PH) =>
    bd (mB_countUp (sT a0) h4) fun r5 =>
    mS_pass_L70 a0 r5 (fun (h9 : PH) =>
      mS_pass_L118 a0 r5 (fun (h11 : PH) =>
        mS_pass_L142 a0 r5 (fun (h13 : PH) =>
          bd (mB_countUp (sT a0) h13) fun r14 =>
          lt (r5 - r14) fun x15 =>
          bd (mS_harden a0 h13) fun h16 =>
          mS_pass_L180 a0 x15 (fun (h18 : PH) =>
            bd (mS_grow a0 h18) fun h19 =>
            some (x15, h19)) FU 0 h16) FU 0 h11) FU 0 h9) FU 0 h4) FU 0 h1
