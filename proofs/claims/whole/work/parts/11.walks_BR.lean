def mJ_bitCount (p0 : Int32) (h0 : PH) : Option (Int32) :=
  lt (p0 - ((ushr p0 1) &&& 1431655765)) fun x1 =>
  lt ((x1 &&& 858993459) + ((ushr x1 2) &&& 858993459)) fun x2 =>
  lt ((x2 + (ushr x2 4)) &&& 252645135) fun x3 =>
  lt (x3 + (ushr x3 8)) fun x4 =>
  lt (x4 + (ushr x4 16)) fun x5 =>
  some (x5 &&& 63)
theorem cJ_bitCount (G : GG) (d : Nat) (p0 : Int32) (h0 : PH) (r : Int32) (hm : mJ_bitCount p0 h0 = some r) : Kx G tJ_bitCount d [.int p0] h0 (some (.int r)) h0 := by
  refine K_of_V (by decide) (by simp [Value.category]) (by simp [tJ_bitCount]) ?_
  change Vx G tJ_bitCount d 0 [some (.int p0)] [] h0 (some (.int r)) h0
  unfold mJ_bitCount at hm
  refine v_ild_0 dJ_bitCount_0 ?_
  refine v_ild_0 dJ_bitCount_1 ?_
  refine v_iconst (x := 1) dJ_bitCount_2 rfl ?_
  refine v_iushr dJ_bitCount_3 ?_
  refine v_ldcw (x := 1431655765) dJ_bitCount_4 lcJ_265 ?_
  refine v_iand dJ_bitCount_7 ?_
  refine v_isub dJ_bitCount_8 ?_
  refine v_top hm (fun x1 hm => ?_)
  refine v_ist_0 dJ_bitCount_9 (by decide) rfl ?_
  refine v_ild_0 dJ_bitCount_10 ?_
  refine v_ldcw (x := 858993459) dJ_bitCount_11 lcJ_266 ?_
  refine v_iand dJ_bitCount_14 ?_
  refine v_ild_0 dJ_bitCount_15 ?_
  refine v_iconst (x := 2) dJ_bitCount_16 rfl ?_
  refine v_iushr dJ_bitCount_17 ?_
  refine v_ldcw (x := 858993459) dJ_bitCount_18 lcJ_266 ?_
  refine v_iand dJ_bitCount_21 ?_
  refine v_iadd dJ_bitCount_22 ?_
  refine v_top hm (fun x2 hm => ?_)
  refine v_ist_0 dJ_bitCount_23 (by decide) rfl ?_
  refine v_ild_0 dJ_bitCount_24 ?_
  refine v_ild_0 dJ_bitCount_25 ?_
  refine v_iconst (x := 4) dJ_bitCount_26 rfl ?_
  refine v_iushr dJ_bitCount_27 ?_
  refine v_iadd dJ_bitCount_28 ?_
  refine v_ldcw (x := 252645135) dJ_bitCount_29 lcJ_267 ?_
  refine v_iand dJ_bitCount_32 ?_
  refine v_top hm (fun x3 hm => ?_)
  refine v_ist_0 dJ_bitCount_33 (by decide) rfl ?_
  refine v_ild_0 dJ_bitCount_34 ?_
  refine v_ild_0 dJ_bitCount_35 ?_
  refine v_bipush (x := 8) dJ_bitCount_36 rfl ?_
  refine v_iushr dJ_bitCount_38 ?_
  refine v_iadd dJ_bitCount_39 ?_
  refine v_top hm (fun x4 hm => ?_)
  refine v_ist_0 dJ_bitCount_40 (by decide) rfl ?_
  refine v_ild_0 dJ_bitCount_41 ?_
  refine v_ild_0 dJ_bitCount_42 ?_
  refine v_bipush (x := 16) dJ_bitCount_43 rfl ?_
  refine v_iushr dJ_bitCount_45 ?_
  refine v_iadd dJ_bitCount_46 ?_
  refine v_top hm (fun x5 hm => ?_)
  refine v_ist_0 dJ_bitCount_47 (by decide) rfl ?_
  refine v_ild_0 dJ_bitCount_48 ?_
  refine v_bipush (x := 63) dJ_bitCount_49 rfl ?_
  refine v_iand dJ_bitCount_51 ?_
  cases hm
  exact v_iret dJ_bitCount_52 rfl
def mB_has (a0 : Nat) (p1 : Int32) (h0 : PH) : Option (Int32) :=
  if p1 < 0 then
    some 0
  else
    if (h0 a0 1) ≤ p1 then
      some 0
    else
      some 1
theorem cB_has (G : GG) (d : Nat) (a0 : Nat) (p1 : Int32) (q0 : shL[a0]? = some (1, 8)) (h0 : PH) (r : Int32) (hm : mB_has a0 p1 h0 = some r) : Kx G tB_has d [.ref (gB G + a0), .int p1] h0 (some (.int r)) h0 := by
  refine K_of_V (by decide) (by simp [Value.category]) (by simp [tB_has]) ?_
  change Vx G tB_has d 0 [some (.ref (gB G + a0)), some (.int p1)] [] h0 (some (.int r)) h0
  unfold mB_has at hm
  refine v_ild_1 dB_has_0 ?_
  refine v_if_lt dB_has_1 (fun hc => ?_) (fun hc => ?_)
  · replace hm := it hc hm
    refine v_iconst (x := 0) dB_has_16 rfl ?_
    cases hm
    exact v_zret0 dB_has_17 rfl
  · replace hm := ie hc hm
    refine v_ild_1 dB_has_4 ?_
    refine v_ald_0 dB_has_5 ?_
    refine v_getI dB_has_6 fuB_15 q0 (rf_bor_1 q0) ?_
    refine v_cmp_ge dB_has_9 (fun hc => ?_) (fun hc => ?_)
    · replace hm := it hc hm
      refine v_iconst (x := 0) dB_has_16 rfl ?_
      cases hm
      exact v_zret0 dB_has_17 rfl
    · replace hm := ie hc hm
      refine v_iconst (x := 1) dB_has_12 rfl ?_
      refine v_goto dB_has_13 ?_
      cases hm
      exact v_zret1 dB_has_17 rfl
def mB_read (a0 : Nat) (p1 : Int32) (p2 : Int32) (h0 : PH) : Option (Int32) :=
  if p1 < 0 then
    some 0
  else
    if (h0 a0 1) ≤ p1 then
      some 0
    else
      if p2 < 0 then
        some 0
      else
        if p2 < 11 then
          ck ((p1 * 11) + p2) 132 <|
          some (h0 (a0 + 1) (ix ((p1 * 11) + p2)))
        else
          some 0
theorem cB_read (G : GG) (d : Nat) (a0 : Nat) (p1 : Int32) (p2 : Int32) (q0 : shL[a0]? = some (1, 8)) (h0 : PH) (r : Int32) (hm : mB_read a0 p1 p2 h0 = some r) : Kx G tB_read d [.ref (gB G + a0), .int p1, .int p2] h0 (some (.int r)) h0 := by
  refine K_of_V (by decide) (by simp [Value.category]) (by simp [tB_read]) ?_
  change Vx G tB_read d 0 [some (.ref (gB G + a0)), some (.int p1), some (.int p2)] [] h0 (some (.int r)) h0
  unfold mB_read at hm
  refine v_ild_1 dB_read_0 ?_
  refine v_if_lt dB_read_1 (fun hc => ?_) (fun hc => ?_)
  · replace hm := it hc hm
    refine v_iconst (x := 0) dB_read_22 rfl ?_
    cases hm
    exact v_iret dB_read_23 rfl
  · replace hm := ie hc hm
    refine v_ild_1 dB_read_4 ?_
    refine v_ald_0 dB_read_5 ?_
    refine v_getI dB_read_6 fuB_15 q0 (rf_bor_1 q0) ?_
    refine v_cmp_ge dB_read_9 (fun hc => ?_) (fun hc => ?_)
    · replace hm := it hc hm
      refine v_iconst (x := 0) dB_read_22 rfl ?_
      cases hm
      exact v_iret dB_read_23 rfl
    · replace hm := ie hc hm
      refine v_ild_2 dB_read_12 ?_
      refine v_if_lt dB_read_13 (fun hc => ?_) (fun hc => ?_)
      · replace hm := it hc hm
        refine v_iconst (x := 0) dB_read_22 rfl ?_
        cases hm
        exact v_iret dB_read_23 rfl
      · replace hm := ie hc hm
        refine v_ild_2 dB_read_16 ?_
        refine v_bipush (x := 11) dB_read_17 rfl ?_
        refine v_cmp_lt dB_read_19 (fun hc => ?_) (fun hc => ?_)
        · replace hm := it hc hm
          refine v_ald_0 dB_read_24 ?_
          refine v_getR dB_read_25 fuB_11 q0 (rf_bor_0 q0) ?_
          refine v_ild_1 dB_read_28 ?_
          refine v_bipush (x := 11) dB_read_29 rfl ?_
          refine v_imul dB_read_31 ?_
          refine v_ild_2 dB_read_32 ?_
          refine v_iadd dB_read_33 ?_
          obtain ⟨hi, hm⟩ := ck_s hm
          refine v_iald dB_read_34 (sh_bor q0) hi ?_
          cases hm
          exact v_iret dB_read_35 rfl
        · replace hm := ie hc hm
          refine v_iconst (x := 0) dB_read_22 rfl ?_
          cases hm
          exact v_iret dB_read_23 rfl
def mB_write (a0 : Nat) (p1 : Int32) (p2 : Int32) (p3 : Int32) (h0 : PH) : Option (PH) :=
  if p1 < 0 then
    some h0
  else
    if (h0 a0 1) ≤ p1 then
      some h0
    else
      if p2 < 0 then
        some h0
      else
        if 11 ≤ p2 then
          some h0
        else
          ck ((p1 * 11) + p2) 132 <|
          lt (up h0 (a0 + 1) (ix ((p1 * 11) + p2)) p3) fun h1 =>
          some h1
theorem cB_write (G : GG) (d : Nat) (a0 : Nat) (p1 : Int32) (p2 : Int32) (p3 : Int32) (q0 : shL[a0]? = some (1, 8)) (h0 : PH) (r : PH) (hm : mB_write a0 p1 p2 p3 h0 = some r) : Kx G tB_write d [.ref (gB G + a0), .int p1, .int p2, .int p3] h0 none r := by
  refine K_of_V (by decide) (by simp [Value.category]) (by simp [tB_write]) ?_
  change Vx G tB_write d 0 [some (.ref (gB G + a0)), some (.int p1), some (.int p2), some (.int p3)] [] h0 none r
  unfold mB_write at hm
  refine v_ild_1 dB_write_0 ?_
  refine v_if_lt dB_write_1 (fun hc => ?_) (fun hc => ?_)
  · replace hm := it hc hm
    cases hm
    exact v_ret dB_write_34 rfl
  · replace hm := ie hc hm
    refine v_ild_1 dB_write_4 ?_
    refine v_ald_0 dB_write_5 ?_
    refine v_getI dB_write_6 fuB_15 q0 (rf_bor_1 q0) ?_
    refine v_cmp_ge dB_write_9 (fun hc => ?_) (fun hc => ?_)
    · replace hm := it hc hm
      cases hm
      exact v_ret dB_write_34 rfl
    · replace hm := ie hc hm
      refine v_ild_2 dB_write_12 ?_
      refine v_if_lt dB_write_13 (fun hc => ?_) (fun hc => ?_)
      · replace hm := it hc hm
        cases hm
        exact v_ret dB_write_34 rfl
      · replace hm := ie hc hm
        refine v_ild_2 dB_write_16 ?_
        refine v_bipush (x := 11) dB_write_17 rfl ?_
        refine v_cmp_ge dB_write_19 (fun hc => ?_) (fun hc => ?_)
        · replace hm := it hc hm
          cases hm
          exact v_ret dB_write_34 rfl
        · replace hm := ie hc hm
          refine v_ald_0 dB_write_22 ?_
          refine v_getR dB_write_23 fuB_11 q0 (rf_bor_0 q0) ?_
          refine v_ild_1 dB_write_26 ?_
          refine v_bipush (x := 11) dB_write_27 rfl ?_
          refine v_imul dB_write_29 ?_
          refine v_ild_2 dB_write_30 ?_
          refine v_iadd dB_write_31 ?_
          refine v_ild_3 dB_write_32 ?_
          obtain ⟨hi, hm⟩ := ck_s hm
          refine v_iastl dB_write_33 (sh_bor q0) hi hm (fun h1 hm => ?_)
          cases hm
          exact v_ret dB_write_34 rfl
def mB_build_L19 (a0 : Nat) (p1 : Int32) (p2 : Int32) (p3 : Int32) (p4 : Int32) (k0 : PH → Option (Int32 × PH)) : Nat → Int32 → PH → Option (Int32 × PH)
  | 0, _, _ => none
  | n + 1, v5, hv =>
    if 4 ≤ v5 then
      k0 hv
    else
      bd (mB_write a0 p4 v5 p1 hv) fun h3 =>
      mB_build_L19 a0 p1 p2 p3 p4 k0 n (v5 + 1) h3
def mB_build (a0 : Nat) (p1 : Int32) (p2 : Int32) (p3 : Int32) (h0 : PH) : Option (Int32 × PH) :=
  lt (h0 a0 1) fun x1 =>
  lt (up h0 a0 1 ((h0 a0 1) + 1)) fun h2 =>
  mB_build_L19 a0 p1 p2 p3 x1 (fun (h4 : PH) =>
    bd (mB_write a0 x1 4 p2 h4) fun h5 =>
    bd (mB_write a0 x1 5 p3 h5) fun h6 =>
    bd (mB_write a0 x1 6 0 h6) fun h7 =>
    bd (mB_write a0 x1 7 1 h7) fun h8 =>
    bd (mB_write a0 x1 8 0 h8) fun h9 =>
    bd (mB_write a0 x1 9 0 h9) fun h10 =>
    bd (mB_write a0 x1 10 0 h10) fun h11 =>
    some (x1, h11)) FU 0 h2
theorem wB_build_L19 (G : GG) (d : Nat) (a0 : Nat) (p1 : Int32) (p2 : Int32) (p3 : Int32) (p4 : Int32) (q0 : shL[a0]? = some (1, 8)) (k0 : PH → Option (Int32 × PH)) (r : Int32 × PH) (kk0 : ∀ (hy : PH), k0 hy = some r → Vx G tB_build (d + 1) 40 [some (.ref (gB G + a0)), none, some (.int p2), some (.int p3), some (.int p4), none] [] hy (some (.int r.1)) r.2) : ∀ (n : Nat) (v5 : Int32) (hv : PH), mB_build_L19 a0 p1 p2 p3 p4 k0 n v5 hv = some r → Vx G tB_build (d + 1) 19 [some (.ref (gB G + a0)), some (.int p1), some (.int p2), some (.int p3), some (.int p4), some (.int v5)] [] hv (some (.int r.1)) r.2 := by
  intro n
  induction n with
  | zero => intro v5 hv hm; cases hm
  | succ n ih =>
    intro v5 hv hm
    unfold mB_build_L19 at hm
    refine v_ild_5 dB_build_19 ?_
    refine v_iconst (x := 4) dB_build_21 rfl ?_
    refine v_cmp_ge dB_build_22 (fun hc => ?_) (fun hc => ?_)
    · replace hm := it hc hm
      exact v_kw (kk0 _ hm) (wk_s (wk_n (wk_s (wk_s (wk_s (wk_n wk_e))))))
    · replace hm := ie hc hm
      refine v_ald_0 dB_build_25 ?_
      refine v_ild_4 dB_build_26 ?_
      refine v_ild_5 dB_build_28 ?_
      refine v_ild_1 dB_build_30 ?_
      obtain ⟨h3, he, hm⟩ := bd_s hm
      refine v_cv3v (M' := tB_write) dB_build_31 mlB_19 okB_write q0 hc_1 (Nat.le_of_ble_eq_true rfl) (cB_write G d _ _ _ _ q0 _ _ he) ?_
      refine v_inc_5 1 dB_build_34 rfl (by decide) rfl ?_
      refine v_goto dB_build_37 ?_
      exact v_kw (ih _ _ hm) (wk_s (wk_s (wk_s (wk_s (wk_s (wk_s wk_e))))))
theorem cB_build (G : GG) (d : Nat) (a0 : Nat) (p1 : Int32) (p2 : Int32) (p3 : Int32) (q0 : shL[a0]? = some (1, 8)) (h0 : PH) (r : Int32 × PH) (hm : mB_build a0 p1 p2 p3 h0 = some r) : Kx G tB_build (d + 1) [.ref (gB G + a0), .int p1, .int p2, .int p3] h0 (some (.int r.1)) r.2 := by
  refine K_of_V (by decide) (by simp [Value.category]) (by simp [tB_build]) ?_
  change Vx G tB_build (d + 1) 0 [some (.ref (gB G + a0)), some (.int p1), some (.int p2), some (.int p3), none, none] [] h0 (some (.int r.1)) r.2
  unfold mB_build at hm
  refine v_ald_0 dB_build_0 ?_
  refine v_getI dB_build_1 fuB_15 q0 (rf_bor_1 q0) ?_
  refine v_top hm (fun x1 hm => ?_)
  refine v_ist_4 dB_build_4 (by decide) rfl ?_
  refine v_ald_0 dB_build_6 ?_
  refine v_dup dB_build_7 rfl ?_
  refine v_getI dB_build_8 fuB_15 q0 (rf_bor_1 q0) ?_
  refine v_iconst (x := 1) dB_build_11 rfl ?_
  refine v_iadd dB_build_12 ?_
  refine v_putIl dB_build_13 fuB_15 ft_1_1 q0 (rf_bor_1 q0) hm (fun h2 hm => ?_)
  refine v_iconst (x := 0) dB_build_16 rfl ?_
  refine v_ist_5 dB_build_17 (by decide) rfl ?_
  refine v_kw (wB_build_L19 G d _ _ _ _ _ q0 _ _ (fun h4 hm => ?_) FU _ _ hm) (wk_s (wk_s (wk_s (wk_s (wk_s (wk_s wk_e))))))
  refine v_ald_0 dB_build_40 ?_
  refine v_ild_4 dB_build_41 ?_
  refine v_iconst (x := 4) dB_build_43 rfl ?_
  refine v_ild_2 dB_build_44 ?_
  obtain ⟨h5, he, hm⟩ := bd_s hm
  refine v_cv3v (M' := tB_write) dB_build_45 mlB_19 okB_write q0 hc_1 (Nat.le_of_ble_eq_true rfl) (cB_write G d _ _ _ _ q0 _ _ he) ?_
  refine v_ald_0 dB_build_48 ?_
  refine v_ild_4 dB_build_49 ?_
  refine v_iconst (x := 5) dB_build_51 rfl ?_
  refine v_ild_3 dB_build_52 ?_
  obtain ⟨h6, he, hm⟩ := bd_s hm
  refine v_cv3v (M' := tB_write) dB_build_53 mlB_19 okB_write q0 hc_1 (Nat.le_of_ble_eq_true rfl) (cB_write G d _ _ _ _ q0 _ _ he) ?_
  refine v_ald_0 dB_build_56 ?_
  refine v_ild_4 dB_build_57 ?_
  refine v_bipush (x := 6) dB_build_59 rfl ?_
  refine v_iconst (x := 0) dB_build_61 rfl ?_
  obtain ⟨h7, he, hm⟩ := bd_s hm
  refine v_cv3v (M' := tB_write) dB_build_62 mlB_19 okB_write q0 hc_1 (Nat.le_of_ble_eq_true rfl) (cB_write G d _ _ _ _ q0 _ _ he) ?_
  refine v_ald_0 dB_build_65 ?_
  refine v_ild_4 dB_build_66 ?_
  refine v_bipush (x := 7) dB_build_68 rfl ?_
  refine v_iconst (x := 1) dB_build_70 rfl ?_
  obtain ⟨h8, he, hm⟩ := bd_s hm
  refine v_cv3v (M' := tB_write) dB_build_71 mlB_19 okB_write q0 hc_1 (Nat.le_of_ble_eq_true rfl) (cB_write G d _ _ _ _ q0 _ _ he) ?_
  refine v_ald_0 dB_build_74 ?_
  refine v_ild_4 dB_build_75 ?_
  refine v_bipush (x := 8) dB_build_77 rfl ?_
  refine v_iconst (x := 0) dB_build_79 rfl ?_
  obtain ⟨h9, he, hm⟩ := bd_s hm
  refine v_cv3v (M' := tB_write) dB_build_80 mlB_19 okB_write q0 hc_1 (Nat.le_of_ble_eq_true rfl) (cB_write G d _ _ _ _ q0 _ _ he) ?_
  refine v_ald_0 dB_build_83 ?_
  refine v_ild_4 dB_build_84 ?_
  refine v_bipush (x := 9) dB_build_86 rfl ?_
  refine v_iconst (x := 0) dB_build_88 rfl ?_
  obtain ⟨h10, he, hm⟩ := bd_s hm
  refine v_cv3v (M' := tB_write) dB_build_89 mlB_19 okB_write q0 hc_1 (Nat.le_of_ble_eq_true rfl) (cB_write G d _ _ _ _ q0 _ _ he) ?_
  refine v_ald_0 dB_build_92 ?_
  refine v_ild_4 dB_build_93 ?_
  refine v_bipush (x := 10) dB_build_95 rfl ?_
  refine v_iconst (x := 0) dB_build_97 rfl ?_
  obtain ⟨h11, he, hm⟩ := bd_s hm
  refine v_cv3v (M' := tB_write) dB_build_98 mlB_19 okB_write q0 hc_1 (Nat.le_of_ble_eq_true rfl) (cB_write G d _ _ _ _ q0 _ _ he) ?_
  refine v_ild_4 dB_build_101 ?_
  cases hm
  exact v_iret dB_build_103 rfl
def mB_sumOf (a0 : Nat) (p1 : Int32) (h0 : PH) : Option (Int32) :=
  if p1 < 0 then
    some 0
  else
    if p1 < (h0 a0 1) then
      lt (p1 * 11) fun x1 =>
      ck x1 132 <|
      ck (x1 + 1) 132 <|
      ck (x1 + 2) 132 <|
      ck (x1 + 3) 132 <|
      some ((((h0 (a0 + 1) (ix x1)) + (h0 (a0 + 1) (ix (x1 + 1)))) + (h0 (a0 + 1) (ix (x1 + 2)))) + (h0 (a0 + 1) (ix (x1 + 3))))
    else
      some 0
theorem cB_sumOf (G : GG) (d : Nat) (a0 : Nat) (p1 : Int32) (q0 : shL[a0]? = some (1, 8)) (h0 : PH) (r : Int32) (hm : mB_sumOf a0 p1 h0 = some r) : Kx G tB_sumOf d [.ref (gB G + a0), .int p1] h0 (some (.int r)) h0 := by
  refine K_of_V (by decide) (by simp [Value.category]) (by simp [tB_sumOf]) ?_
  change Vx G tB_sumOf d 0 [some (.ref (gB G + a0)), some (.int p1), none] [] h0 (some (.int r)) h0
  unfold mB_sumOf at hm
  refine v_ild_1 dB_sumOf_0 ?_
  refine v_if_lt dB_sumOf_1 (fun hc => ?_) (fun hc => ?_)
  · replace hm := it hc hm
    refine v_iconst (x := 0) dB_sumOf_12 rfl ?_
    cases hm
    exact v_iret dB_sumOf_13 rfl
  · replace hm := ie hc hm
    refine v_ild_1 dB_sumOf_4 ?_
    refine v_ald_0 dB_sumOf_5 ?_
    refine v_getI dB_sumOf_6 fuB_15 q0 (rf_bor_1 q0) ?_
    refine v_cmp_lt dB_sumOf_9 (fun hc => ?_) (fun hc => ?_)
    · replace hm := it hc hm
      refine v_ild_1 dB_sumOf_14 ?_
      refine v_bipush (x := 11) dB_sumOf_15 rfl ?_
      refine v_imul dB_sumOf_17 ?_
      refine v_top hm (fun x1 hm => ?_)
      refine v_ist_2 dB_sumOf_18 (by decide) rfl ?_
      refine v_ald_0 dB_sumOf_19 ?_
      refine v_getR dB_sumOf_20 fuB_11 q0 (rf_bor_0 q0) ?_
      refine v_ild_2 dB_sumOf_23 ?_
      obtain ⟨hi, hm⟩ := ck_s hm
      refine v_iald dB_sumOf_24 (sh_bor q0) hi ?_
      refine v_ald_0 dB_sumOf_25 ?_
      refine v_getR dB_sumOf_26 fuB_11 q0 (rf_bor_0 q0) ?_
      refine v_ild_2 dB_sumOf_29 ?_
      refine v_iconst (x := 1) dB_sumOf_30 rfl ?_
      refine v_iadd dB_sumOf_31 ?_
      obtain ⟨hi, hm⟩ := ck_s hm
      refine v_iald dB_sumOf_32 (sh_bor q0) hi ?_
      refine v_iadd dB_sumOf_33 ?_
      refine v_ald_0 dB_sumOf_34 ?_
      refine v_getR dB_sumOf_35 fuB_11 q0 (rf_bor_0 q0) ?_
      refine v_ild_2 dB_sumOf_38 ?_
      refine v_iconst (x := 2) dB_sumOf_39 rfl ?_
      refine v_iadd dB_sumOf_40 ?_
      obtain ⟨hi, hm⟩ := ck_s hm
      refine v_iald dB_sumOf_41 (sh_bor q0) hi ?_
      refine v_iadd dB_sumOf_42 ?_
      refine v_ald_0 dB_sumOf_43 ?_
      refine v_getR dB_sumOf_44 fuB_11 q0 (rf_bor_0 q0) ?_
      refine v_ild_2 dB_sumOf_47 ?_
      refine v_iconst (x := 3) dB_sumOf_48 rfl ?_
      refine v_iadd dB_sumOf_49 ?_
      obtain ⟨hi, hm⟩ := ck_s hm
      refine v_iald dB_sumOf_50 (sh_bor q0) hi ?_
      refine v_iadd dB_sumOf_51 ?_
      cases hm
      exact v_iret dB_sumOf_52 rfl
    · replace hm := ie hc hm
      refine v_iconst (x := 0) dB_sumOf_12 rfl ?_
      cases hm
      exact v_iret dB_sumOf_13 rfl
def mB_isUp (a0 : Nat) (p1 : Int32) (h0 : PH) : Option (Int32) :=
  bd (mB_sumOf a0 p1 h0) fun r1 =>
  if r1 ≤ 0 then
    some 0
  else
    some 1
theorem cB_isUp (G : GG) (d : Nat) (a0 : Nat) (p1 : Int32) (q0 : shL[a0]? = some (1, 8)) (h0 : PH) (r : Int32) (hm : mB_isUp a0 p1 h0 = some r) : Kx G tB_isUp (d + 1) [.ref (gB G + a0), .int p1] h0 (some (.int r)) h0 := by
  refine K_of_V (by decide) (by simp [Value.category]) (by simp [tB_isUp]) ?_
  change Vx G tB_isUp (d + 1) 0 [some (.ref (gB G + a0)), some (.int p1)] [] h0 (some (.int r)) h0
  unfold mB_isUp at hm
  refine v_ald_0 dB_isUp_0 ?_
  refine v_ild_1 dB_isUp_1 ?_
  obtain ⟨r1, he, hm⟩ := bd_s hm
  refine v_cv1i (M' := tB_sumOf) dB_isUp_2 mlB_23 okB_sumOf q0 hc_1 (Nat.le_of_ble_eq_true rfl) (cB_sumOf G d _ _ q0 _ _ he) ?_
  refine v_if_le dB_isUp_5 (fun hc => ?_) (fun hc => ?_)
  · replace hm := it hc hm
    refine v_iconst (x := 0) dB_isUp_12 rfl ?_
    cases hm
    exact v_zret0 dB_isUp_13 rfl
  · replace hm := ie hc hm
    refine v_iconst (x := 1) dB_isUp_8 rfl ?_
    refine v_goto dB_isUp_9 ?_
    cases hm
    exact v_zret1 dB_isUp_13 rfl
def mB_thickest_L4 (a0 : Nat) (p1 : Int32) (h0 : PH) : Nat → Int32 → Int32 → Option (Int32)
  | 0, _, _ => none
  | n + 1, v2, v3 =>
    if 4 ≤ v3 then
      some v2
    else
      bd (mB_read a0 p1 v3 h0) fun r1 =>
      bd (mB_read a0 p1 v2 h0) fun r2 =>
      if r1 ≤ r2 then
        mB_thickest_L4 a0 p1 h0 n v2 (v3 + 1)
      else
        mB_thickest_L4 a0 p1 h0 n v3 (v3 + 1)
def mB_thickest (a0 : Nat) (p1 : Int32) (h0 : PH) : Option (Int32) :=
  mB_thickest_L4 a0 p1 h0 FU 0 1
theorem wB_thickest_L4 (G : GG) (d : Nat) (a0 : Nat) (p1 : Int32) (h0 : PH) (q0 : shL[a0]? = some (1, 8)) (r : Int32) : ∀ (n : Nat) (v2 : Int32) (v3 : Int32), mB_thickest_L4 a0 p1 h0 n v2 v3 = some r → Vx G tB_thickest (d + 1) 4 [some (.ref (gB G + a0)), some (.int p1), some (.int v2), some (.int v3)] [] h0 (some (.int r)) h0 := by
  intro n
  induction n with
  | zero => intro v2 v3 hm; cases hm
  | succ n ih =>
    intro v2 v3 hm
    unfold mB_thickest_L4 at hm
    refine v_ild_3 dB_thickest_4 ?_
    refine v_iconst (x := 4) dB_thickest_5 rfl ?_
    refine v_cmp_ge dB_thickest_6 (fun hc => ?_) (fun hc => ?_)
    · replace hm := it hc hm
      refine v_ild_2 dB_thickest_32 ?_
      cases hm
      exact v_iret dB_thickest_33 rfl
    · replace hm := ie hc hm
      refine v_ald_0 dB_thickest_9 ?_
      refine v_ild_1 dB_thickest_10 ?_
      refine v_ild_3 dB_thickest_11 ?_
      obtain ⟨r1, he, hm⟩ := bd_s hm
      refine v_cv2i (M' := tB_read) dB_thickest_12 mlB_27 okB_read q0 hc_1 (Nat.le_of_ble_eq_true rfl) (cB_read G d _ _ _ q0 _ _ he) ?_
      refine v_ald_0 dB_thickest_15 ?_
      refine v_ild_1 dB_thickest_16 ?_
      refine v_ild_2 dB_thickest_17 ?_
      obtain ⟨r2, he, hm⟩ := bd_s hm
      refine v_cv2i (M' := tB_read) dB_thickest_18 mlB_27 okB_read q0 hc_1 (Nat.le_of_ble_eq_true rfl) (cB_read G d _ _ _ q0 _ _ he) ?_
      refine v_cmp_le dB_thickest_21 (fun hc => ?_) (fun hc => ?_)
      · replace hm := it hc hm
        refine v_inc_3 1 dB_thickest_26 rfl (by decide) rfl ?_
        refine v_goto dB_thickest_29 ?_
        exact v_kw (ih _ _ hm) (wk_s (wk_s (wk_s (wk_s wk_e))))
      · replace hm := ie hc hm
        refine v_ild_3 dB_thickest_24 ?_
        refine v_ist_2 dB_thickest_25 (by decide) rfl ?_
        refine v_inc_3 1 dB_thickest_26 rfl (by decide) rfl ?_
        refine v_goto dB_thickest_29 ?_
        exact v_kw (ih _ _ hm) (wk_s (wk_s (wk_s (wk_s wk_e))))
theorem cB_thickest (G : GG) (d : Nat) (a0 : Nat) (p1 : Int32) (q0 : shL[a0]? = some (1, 8)) (h0 : PH) (r : Int32) (hm : mB_thickest a0 p1 h0 = some r) : Kx G tB_thickest (d + 1) [.ref (gB G + a0), .int p1] h0 (some (.int r)) h0 := by
  refine K_of_V (by decide) (by simp [Value.category]) (by simp [tB_thickest]) ?_
  change Vx G tB_thickest (d + 1) 0 [some (.ref (gB G + a0)), some (.int p1), none, none] [] h0 (some (.int r)) h0
  unfold mB_thickest at hm
  refine v_iconst (x := 0) dB_thickest_0 rfl ?_
  refine v_ist_2 dB_thickest_1 (by decide) rfl ?_
  refine v_iconst (x := 1) dB_thickest_2 rfl ?_
  refine v_ist_3 dB_thickest_3 (by decide) rfl ?_
  exact v_kw (wB_thickest_L4 G d _ _ _ q0 _ FU _ _ hm) (wk_s (wk_s (wk_s (wk_s wk_e))))
def mB_upSet_L4 (a0 : Nat) (h0 : PH) : Nat → Int32 → Int32 → Option (Int32)
  | 0, _, _ => none
  | n + 1, v1, v2 =>
    if (h0 a0 1) ≤ v2 then
      some v1
    else
      bd (mB_isUp a0 v2 h0) fun r1 =>
      if r1 = 0 then
        mB_upSet_L4 a0 h0 n v1 (v2 + 1)
      else
        lt (v1 ||| (1 <<< (v2 &&& 31))) fun x2 =>
        mB_upSet_L4 a0 h0 n x2 (v2 + 1)
def mB_upSet (a0 : Nat) (h0 : PH) : Option (Int32) :=
  mB_upSet_L4 a0 h0 FU 0 0
theorem wB_upSet_L4 (G : GG) (d : Nat) (a0 : Nat) (h0 : PH) (q0 : shL[a0]? = some (1, 8)) (r : Int32) : ∀ (n : Nat) (v1 : Int32) (v2 : Int32), mB_upSet_L4 a0 h0 n v1 v2 = some r → Vx G tB_upSet (d + 2) 4 [some (.ref (gB G + a0)), some (.int v1), some (.int v2)] [] h0 (some (.int r)) h0 := by
  intro n
  induction n with
  | zero => intro v1 v2 hm; cases hm
  | succ n ih =>
    intro v1 v2 hm
    unfold mB_upSet_L4 at hm
    refine v_ild_2 dB_upSet_4 ?_
    refine v_ald_0 dB_upSet_5 ?_
    refine v_getI dB_upSet_6 fuB_15 q0 (rf_bor_1 q0) ?_
    refine v_cmp_ge dB_upSet_9 (fun hc => ?_) (fun hc => ?_)
    · replace hm := it hc hm
      refine v_ild_1 dB_upSet_32 ?_
      cases hm
      exact v_iret dB_upSet_33 rfl
    · replace hm := ie hc hm
      refine v_ald_0 dB_upSet_12 ?_
      refine v_ild_2 dB_upSet_13 ?_
      obtain ⟨r1, he, hm⟩ := bd_s hm
      refine v_cv1i (M' := tB_isUp) dB_upSet_14 mlB_40 okB_isUp q0 hc_1 (Nat.le_of_ble_eq_true rfl) (cB_isUp G d _ _ q0 _ _ he) ?_
      refine v_if_eq dB_upSet_17 (fun hc => ?_) (fun hc => ?_)
      · replace hm := it hc hm
        refine v_inc_2 1 dB_upSet_26 rfl (by decide) rfl ?_
        refine v_goto dB_upSet_29 ?_
        exact v_kw (ih _ _ hm) (wk_s (wk_s (wk_s wk_e)))
      · replace hm := ie hc hm
        refine v_ild_1 dB_upSet_20 ?_
        refine v_iconst (x := 1) dB_upSet_21 rfl ?_
        refine v_ild_2 dB_upSet_22 ?_
        refine v_ishl dB_upSet_23 ?_
        refine v_ior dB_upSet_24 ?_
        refine v_top hm (fun x2 hm => ?_)
        refine v_ist_1 dB_upSet_25 (by decide) rfl ?_
        refine v_inc_2 1 dB_upSet_26 rfl (by decide) rfl ?_
        refine v_goto dB_upSet_29 ?_
        exact v_kw (ih _ _ hm) (wk_s (wk_s (wk_s wk_e)))
theorem cB_upSet (G : GG) (d : Nat) (a0 : Nat) (q0 : shL[a0]? = some (1, 8)) (h0 : PH) (r : Int32) (hm : mB_upSet a0 h0 = some r) : Kx G tB_upSet (d + 2) [.ref (gB G + a0)] h0 (some (.int r)) h0 := by
  refine K_of_V (by decide) (by simp [Value.category]) (by simp [tB_upSet]) ?_
  change Vx G tB_upSet (d + 2) 0 [some (.ref (gB G + a0)), none, none] [] h0 (some (.int r)) h0
  unfold mB_upSet at hm
  refine v_iconst (x := 0) dB_upSet_0 rfl ?_
  refine v_ist_1 dB_upSet_1 (by decide) rfl ?_
  refine v_iconst (x := 0) dB_upSet_2 rfl ?_
  refine v_ist_2 dB_upSet_3 (by decide) rfl ?_
  exact v_kw (wB_upSet_L4 G d _ _ q0 _ FU _ _ hm) (wk_s (wk_s (wk_s wk_e)))
def mB_countUp (a0 : Nat) (h0 : PH) : Option (Int32) :=
  bd (mB_upSet a0 h0) fun r1 =>
  bd (mJ_bitCount r1 h0) fun r2 =>
  some r2
theorem cB_countUp (G : GG) (d : Nat) (a0 : Nat) (q0 : shL[a0]? = some (1, 8)) (h0 : PH) (r : Int32) (hm : mB_countUp a0 h0 = some r) : Kx G tB_countUp (d + 3) [.ref (gB G + a0)] h0 (some (.int r)) h0 := by
  refine K_of_V (by decide) (by simp [Value.category]) (by simp [tB_countUp]) ?_
  change Vx G tB_countUp (d + 3) 0 [some (.ref (gB G + a0))] [] h0 (some (.int r)) h0
  unfold mB_countUp at hm
  refine v_ald_0 dB_countUp_0 ?_
  obtain ⟨r1, he, hm⟩ := bd_s hm
  refine v_cv0i (M' := tB_upSet) dB_countUp_1 mlB_31 okB_upSet q0 hc_1 (Nat.le_of_ble_eq_true rfl) (cB_upSet G d _ q0 _ _ he) ?_
  obtain ⟨r2, he, hm⟩ := bd_s hm
  refine v_cs1i (M' := tJ_bitCount) dB_countUp_4 mlB_35 okJ_bitCount (Nat.le_of_ble_eq_true rfl) (cJ_bitCount G (d + 2) _ _ _ he) ?_
  cases hm
  exact v_iret dB_countUp_7 rfl
def mB_total_L4 (a0 : Nat) (p1 : Int32) (h0 : PH) : Nat → Int32 → Int32 → Option (Int32)
  | 0, _, _ => none
  | n + 1, v2, v3 =>
    if (h0 a0 1) ≤ v3 then
      some v2
    else
      bd (mB_read a0 v3 p1 h0) fun r1 =>
      lt (v2 + r1) fun x2 =>
      mB_total_L4 a0 p1 h0 n x2 (v3 + 1)
def mB_total (a0 : Nat) (p1 : Int32) (h0 : PH) : Option (Int32) :=
  mB_total_L4 a0 p1 h0 FU 0 0
theorem wB_total_L4 (G : GG) (d : Nat) (a0 : Nat) (p1 : Int32) (h0 : PH) (q0 : shL[a0]? = some (1, 8)) (r : Int32) : ∀ (n : Nat) (v2 : Int32) (v3 : Int32), mB_total_L4 a0 p1 h0 n v2 v3 = some r → Vx G tB_total (d + 1) 4 [some (.ref (gB G + a0)), some (.int p1), some (.int v2), some (.int v3)] [] h0 (some (.int r)) h0 := by
  intro n
  induction n with
  | zero => intro v2 v3 hm; cases hm
  | succ n ih =>
    intro v2 v3 hm
    unfold mB_total_L4 at hm
    refine v_ild_3 dB_total_4 ?_
    refine v_ald_0 dB_total_5 ?_
    refine v_getI dB_total_6 fuB_15 q0 (rf_bor_1 q0) ?_
    refine v_cmp_ge dB_total_9 (fun hc => ?_) (fun hc => ?_)
    · replace hm := it hc hm
      refine v_ild_2 dB_total_27 ?_
      cases hm
      exact v_iret dB_total_28 rfl
    · replace hm := ie hc hm
      refine v_ild_2 dB_total_12 ?_
      refine v_ald_0 dB_total_13 ?_
      refine v_ild_3 dB_total_14 ?_
      refine v_ild_1 dB_total_15 ?_
      obtain ⟨r1, he, hm⟩ := bd_s hm
      refine v_cv2i (M' := tB_read) dB_total_16 mlB_27 okB_read q0 hc_1 (Nat.le_of_ble_eq_true rfl) (cB_read G d _ _ _ q0 _ _ he) ?_
      refine v_iadd dB_total_19 ?_
      refine v_top hm (fun x2 hm => ?_)
      refine v_ist_2 dB_total_20 (by decide) rfl ?_
      refine v_inc_3 1 dB_total_21 rfl (by decide) rfl ?_
      refine v_goto dB_total_24 ?_
      exact v_kw (ih _ _ hm) (wk_s (wk_s (wk_s (wk_s wk_e))))
theorem cB_total (G : GG) (d : Nat) (a0 : Nat) (p1 : Int32) (q0 : shL[a0]? = some (1, 8)) (h0 : PH) (r : Int32) (hm : mB_total a0 p1 h0 = some r) : Kx G tB_total (d + 1) [.ref (gB G + a0), .int p1] h0 (some (.int r)) h0 := by
  refine K_of_V (by decide) (by simp [Value.category]) (by simp [tB_total]) ?_
  change Vx G tB_total (d + 1) 0 [some (.ref (gB G + a0)), some (.int p1), none, none] [] h0 (some (.int r)) h0
  unfold mB_total at hm
  refine v_iconst (x := 0) dB_total_0 rfl ?_
  refine v_ist_2 dB_total_1 (by decide) rfl ?_
  refine v_iconst (x := 0) dB_total_2 rfl ?_
  refine v_ist_3 dB_total_3 (by decide) rfl ?_
  exact v_kw (wB_total_L4 G d _ _ _ q0 _ FU _ _ hm) (wk_s (wk_s (wk_s (wk_s wk_e))))
def mB_thin (a0 : Nat) (p1 : Int32) (p2 : Int32) (p3 : Int32) (h0 : PH) : Option (Int32 × PH) :=
  bd (mB_read a0 p1 p2 h0) fun r1 =>
  lt (imin r1 p3) fun x2 =>
  bd (mB_write a0 p1 p2 (r1 - x2) h0) fun h3 =>
  some (x2, h3)
theorem cB_thin (G : GG) (d : Nat) (a0 : Nat) (p1 : Int32) (p2 : Int32) (p3 : Int32) (q0 : shL[a0]? = some (1, 8)) (h0 : PH) (r : Int32 × PH) (hm : mB_thin a0 p1 p2 p3 h0 = some r) : Kx G tB_thin (d + 1) [.ref (gB G + a0), .int p1, .int p2, .int p3] h0 (some (.int r.1)) r.2 := by
  refine K_of_V (by decide) (by simp [Value.category]) (by simp [tB_thin]) ?_
  change Vx G tB_thin (d + 1) 0 [some (.ref (gB G + a0)), some (.int p1), some (.int p2), some (.int p3), none, none] [] h0 (some (.int r.1)) r.2
  unfold mB_thin at hm
  refine v_ald_0 dB_thin_0 ?_
  refine v_ild_1 dB_thin_1 ?_
  refine v_ild_2 dB_thin_2 ?_
  obtain ⟨r1, he, hm⟩ := bd_s hm
  refine v_cv2i (M' := tB_read) dB_thin_3 mlB_27 okB_read q0 hc_1 (Nat.le_of_ble_eq_true rfl) (cB_read G d _ _ _ q0 _ _ he) ?_
  refine v_ist_4 dB_thin_6 (by decide) rfl ?_
  refine v_ild_4 dB_thin_8 ?_
  refine v_ild_3 dB_thin_10 ?_
  refine v_mmin dB_thin_11 mlB_44 (Nat.le_of_ble_eq_true rfl) ?_
  refine v_top hm (fun x2 hm => ?_)
  refine v_ist_5 dB_thin_14 (by decide) rfl ?_
  refine v_ald_0 dB_thin_16 ?_
  refine v_ild_1 dB_thin_17 ?_
  refine v_ild_2 dB_thin_18 ?_
  refine v_ild_4 dB_thin_19 ?_
  refine v_ild_5 dB_thin_21 ?_
  refine v_isub dB_thin_23 ?_
  obtain ⟨h3, he, hm⟩ := bd_s hm
  refine v_cv3v (M' := tB_write) dB_thin_24 mlB_19 okB_write q0 hc_1 (Nat.le_of_ble_eq_true rfl) (cB_write G d _ _ _ _ q0 _ _ he) ?_
  refine v_ild_5 dB_thin_27 ?_
  cases hm
  exact v_iret dB_thin_29 rfl
def mB_thicken (a0 : Nat) (p1 : Int32) (p2 : Int32) (p3 : Int32) (h0 : PH) : Option (PH) :=
  bd (mB_read a0 p1 p2 h0) fun r1 =>
  bd (mB_write a0 p1 p2 (imin 99 (r1 + p3)) h0) fun h2 =>
  some h2
theorem cB_thicken (G : GG) (d : Nat) (a0 : Nat) (p1 : Int32) (p2 : Int32) (p3 : Int32) (q0 : shL[a0]? = some (1, 8)) (h0 : PH) (r : PH) (hm : mB_thicken a0 p1 p2 p3 h0 = some r) : Kx G tB_thicken (d + 1) [.ref (gB G + a0), .int p1, .int p2, .int p3] h0 none r := by
  refine K_of_V (by decide) (by simp [Value.category]) (by simp [tB_thicken]) ?_
  change Vx G tB_thicken (d + 1) 0 [some (.ref (gB G + a0)), some (.int p1), some (.int p2), some (.int p3)] [] h0 none r
  unfold mB_thicken at hm
  refine v_ald_0 dB_thicken_0 ?_
  refine v_ild_1 dB_thicken_1 ?_
  refine v_ild_2 dB_thicken_2 ?_
  refine v_bipush (x := 99) dB_thicken_3 rfl ?_
  refine v_ald_0 dB_thicken_5 ?_
  refine v_ild_1 dB_thicken_6 ?_
  refine v_ild_2 dB_thicken_7 ?_
  obtain ⟨r1, he, hm⟩ := bd_s hm
  refine v_cv2i (M' := tB_read) dB_thicken_8 mlB_27 okB_read q0 hc_1 (Nat.le_of_ble_eq_true rfl) (cB_read G d _ _ _ q0 _ _ he) ?_
  refine v_ild_3 dB_thicken_11 ?_
  refine v_iadd dB_thicken_12 ?_
  refine v_mmin dB_thicken_13 mlB_44 (Nat.le_of_ble_eq_true rfl) ?_
  obtain ⟨h2, he, hm⟩ := bd_s hm
  refine v_cv3v (M' := tB_write) dB_thicken_16 mlB_19 okB_write q0 hc_1 (Nat.le_of_ble_eq_true rfl) (cB_write G d _ _ _ _ q0 _ _ he) ?_
  cases hm
  exact v_ret dB_thicken_19 rfl
def mB_draw (a0 : Nat) (p1 : Int32) (h0 : PH) : Option (Int32 × PH) :=
  lt (up h0 a0 7 ((1664525 * (h0 a0 7)) + 1013904223)) fun h1 =>
  if p1 ≤ 0 then
    some (0, h1)
  else
    dz p1 <|
    some (irm (ushr (h1 a0 7) 8) p1, h1)
theorem cB_draw (G : GG) (d : Nat) (a0 : Nat) (p1 : Int32) (q0 : shL[a0]? = some (1, 8)) (h0 : PH) (r : Int32 × PH) (hm : mB_draw a0 p1 h0 = some r) : Kx G tB_draw d [.ref (gB G + a0), .int p1] h0 (some (.int r.1)) r.2 := by
  refine K_of_V (by decide) (by simp [Value.category]) (by simp [tB_draw]) ?_
  change Vx G tB_draw d 0 [some (.ref (gB G + a0)), some (.int p1)] [] h0 (some (.int r.1)) r.2
  unfold mB_draw at hm
  refine v_ald_0 dB_draw_0 ?_
  refine v_ldc (x := 1664525) dB_draw_1 lcB_49 ?_
  refine v_ald_0 dB_draw_3 ?_
  refine v_getI dB_draw_4 fuB_50 q0 (rf_bor_7 q0) ?_
  refine v_imul dB_draw_7 ?_
  refine v_ldc (x := 1013904223) dB_draw_8 lcB_53 ?_
  refine v_iadd dB_draw_10 ?_
  refine v_putIl dB_draw_11 fuB_50 ft_1_7 q0 (rf_bor_7 q0) hm (fun h1 hm => ?_)
  refine v_ild_1 dB_draw_14 ?_
  refine v_if_le dB_draw_15 (fun hc => ?_) (fun hc => ?_)
  · replace hm := it hc hm
    refine v_iconst (x := 0) dB_draw_30 rfl ?_
    cases hm
    exact v_iret dB_draw_31 rfl
  · replace hm := ie hc hm
    refine v_ald_0 dB_draw_18 ?_
    refine v_getI dB_draw_19 fuB_50 q0 (rf_bor_7 q0) ?_
    refine v_bipush (x := 8) dB_draw_22 rfl ?_
    refine v_iushr dB_draw_24 ?_
    refine v_ild_1 dB_draw_25 ?_
    obtain ⟨hz, hm⟩ := dz_s hm
    refine v_irem dB_draw_26 hz ?_
    refine v_goto dB_draw_27 ?_
    cases hm
    exact v_iret dB_draw_31 rfl
def mB_copyFrom (a0 : Nat) (a1 : Nat) (h0 : PH) : Option (PH) :=
  cc 132 132 0 0 132 <|
  lt (cpy h0 (a1 + 1) (a0 + 1) (ix 0) (ix 0) (ix 132)) fun h1 =>
  lt (up h1 a0 1 (h1 a1 1)) fun h2 =>
  lt (up h2 a0 2 (h2 a1 2)) fun h3 =>
  lt (up h3 a0 3 (h3 a1 3)) fun h4 =>
  lt (up h4 a0 4 (h4 a1 4)) fun h5 =>
  lt (up h5 a0 5 (h5 a1 5)) fun h6 =>
  lt (up h6 a0 6 (h6 a1 6)) fun h7 =>
  lt (up h7 a0 7 (h7 a1 7)) fun h8 =>
  some h8
theorem cB_copyFrom (G : GG) (d : Nat) (a0 : Nat) (a1 : Nat) (q0 : shL[a0]? = some (1, 8)) (q1 : shL[a1]? = some (1, 8)) (h0 : PH) (r : PH) (hm : mB_copyFrom a0 a1 h0 = some r) : Kx G tB_copyFrom d [.ref (gB G + a0), .ref (gB G + a1)] h0 none r := by
  refine K_of_V (by decide) (by simp [Value.category]) (by simp [tB_copyFrom]) ?_
  change Vx G tB_copyFrom d 0 [some (.ref (gB G + a0)), some (.ref (gB G + a1))] [] h0 none r
  unfold mB_copyFrom at hm
  refine v_ald_1 dB_copyFrom_0 ?_
  refine v_getR dB_copyFrom_1 fuB_11 q1 (rf_bor_0 q1) ?_
  refine v_iconst (x := 0) dB_copyFrom_4 rfl ?_
  refine v_ald_0 dB_copyFrom_5 ?_
  refine v_getR dB_copyFrom_6 fuB_11 q0 (rf_bor_0 q0) ?_
  refine v_iconst (x := 0) dB_copyFrom_9 rfl ?_
  refine v_ald_0 dB_copyFrom_10 ?_
  refine v_getR dB_copyFrom_11 fuB_11 q0 (rf_bor_0 q0) ?_
  refine v_alen (x := 132) dB_copyFrom_14 (sh_bor q0) rfl ?_
  obtain ⟨hq, hm⟩ := cc_s hm
  refine v_cpy dB_copyFrom_15 mlB_54 (sh_bor q1) (sh_bor q0) (Nat.le_of_ble_eq_true rfl) hq hm (fun h1 hm => ?_)
  refine v_ald_0 dB_copyFrom_18 ?_
  refine v_ald_1 dB_copyFrom_19 ?_
  refine v_getI dB_copyFrom_20 fuB_15 q1 (rf_bor_1 q1) ?_
  refine v_putIl dB_copyFrom_23 fuB_15 ft_1_1 q0 (rf_bor_1 q0) hm (fun h2 hm => ?_)
  refine v_ald_0 dB_copyFrom_26 ?_
  refine v_ald_1 dB_copyFrom_27 ?_
  refine v_getI dB_copyFrom_28 fuB_60 q1 (rf_bor_2 q1) ?_
  refine v_putIl dB_copyFrom_31 fuB_60 ft_1_2 q0 (rf_bor_2 q0) hm (fun h3 hm => ?_)
  refine v_ald_0 dB_copyFrom_34 ?_
  refine v_ald_1 dB_copyFrom_35 ?_
  refine v_getI dB_copyFrom_36 fuB_63 q1 (rf_bor_3 q1) ?_
  refine v_putIl dB_copyFrom_39 fuB_63 ft_1_3 q0 (rf_bor_3 q0) hm (fun h4 hm => ?_)
  refine v_ald_0 dB_copyFrom_42 ?_
  refine v_ald_1 dB_copyFrom_43 ?_
  refine v_getI dB_copyFrom_44 fuB_66 q1 (rf_bor_4 q1) ?_
  refine v_putIl dB_copyFrom_47 fuB_66 ft_1_4 q0 (rf_bor_4 q0) hm (fun h5 hm => ?_)
  refine v_ald_0 dB_copyFrom_50 ?_
  refine v_ald_1 dB_copyFrom_51 ?_
  refine v_getI dB_copyFrom_52 fuB_69 q1 (rf_bor_5 q1) ?_
  refine v_putIl dB_copyFrom_55 fuB_69 ft_1_5 q0 (rf_bor_5 q0) hm (fun h6 hm => ?_)
  refine v_ald_0 dB_copyFrom_58 ?_
  refine v_ald_1 dB_copyFrom_59 ?_
  refine v_getI dB_copyFrom_60 fuB_72 q1 (rf_bor_6 q1) ?_
  refine v_putIl dB_copyFrom_63 fuB_72 ft_1_6 q0 (rf_bor_6 q0) hm (fun h7 hm => ?_)
  refine v_ald_0 dB_copyFrom_66 ?_
  refine v_ald_1 dB_copyFrom_67 ?_
  refine v_getI dB_copyFrom_68 fuB_50 q1 (rf_bor_7 q1) ?_
  refine v_putIl dB_copyFrom_71 fuB_50 ft_1_7 q0 (rf_bor_7 q0) hm (fun h8 hm => ?_)
  cases hm
  exact v_ret dB_copyFrom_74 rfl
def mR_at (a0 : Nat) (p1 : Int32) (p2 : Int32) (h0 : PH) : Option (Int32) :=
  if p1 < 0 then
    some (-1)
  else
    if (h0 a0 3) ≤ p1 then
      some (-1)
    else
      if p2 < 0 then
        some (-1)
      else
        if p2 < (h0 a0 1) then
          ck ((p1 * (h0 a0 1)) + p2) (ln (a0 + 1)) <|
          some (h0 (a0 + 1) (ix ((p1 * (h0 a0 1)) + p2)))
        else
          some (-1)
theorem cR_at (G : GG) (d : Nat) (a0 : Nat) (p1 : Int32) (p2 : Int32) (q0 : shL[a0]? = some (6, 4)) (h0 : PH) (r : Int32) (hm : mR_at a0 p1 p2 h0 = some r) : Kx G tR_at d [.ref (gB G + a0), .int p1, .int p2] h0 (some (.int r)) h0 := by
  refine K_of_V (by decide) (by simp [Value.category]) (by simp [tR_at]) ?_
  change Vx G tR_at d 0 [some (.ref (gB G + a0)), some (.int p1), some (.int p2)] [] h0 (some (.int r)) h0
  unfold mR_at at hm
  refine v_ild_1 dR_at_0 ?_
  refine v_if_lt dR_at_1 (fun hc => ?_) (fun hc => ?_)
  · replace hm := it hc hm
    refine v_iconst (x := (-1)) dR_at_24 rfl ?_
    cases hm
    exact v_iret dR_at_25 rfl
  · replace hm := ie hc hm
    refine v_ild_1 dR_at_4 ?_
    refine v_ald_0 dR_at_5 ?_
    refine v_getI dR_at_6 fuR_28 q0 (rf_rows_3 q0) ?_
    refine v_cmp_ge dR_at_9 (fun hc => ?_) (fun hc => ?_)
    · replace hm := it hc hm
      refine v_iconst (x := (-1)) dR_at_24 rfl ?_
      cases hm
      exact v_iret dR_at_25 rfl
    · replace hm := ie hc hm
      refine v_ild_2 dR_at_12 ?_
      refine v_if_lt dR_at_13 (fun hc => ?_) (fun hc => ?_)
      · replace hm := it hc hm
        refine v_iconst (x := (-1)) dR_at_24 rfl ?_
        cases hm
        exact v_iret dR_at_25 rfl
      · replace hm := ie hc hm
        refine v_ild_2 dR_at_16 ?_
        refine v_ald_0 dR_at_17 ?_
        refine v_getI dR_at_18 fuR_21 q0 (rf_rows_1 q0) ?_
        refine v_cmp_lt dR_at_21 (fun hc => ?_) (fun hc => ?_)
        · replace hm := it hc hm
          refine v_ald_0 dR_at_26 ?_
          refine v_getR dR_at_27 fuR_24 q0 (rf_rows_2 q0) ?_
          refine v_ild_1 dR_at_30 ?_
          refine v_ald_0 dR_at_31 ?_
          refine v_getI dR_at_32 fuR_21 q0 (rf_rows_1 q0) ?_
          refine v_imul dR_at_35 ?_
          refine v_ild_2 dR_at_36 ?_
          refine v_iadd dR_at_37 ?_
          obtain ⟨hi, hm⟩ := ck_s hm
          refine v_iald dR_at_38 (sh_rows q0) hi ?_
          cases hm
          exact v_iret dR_at_39 rfl
        · replace hm := ie hc hm
          refine v_iconst (x := (-1)) dR_at_24 rfl ?_
          cases hm
          exact v_iret dR_at_25 rfl
def mR_add (a0 : Nat) (p1 : Int32) (p2 : Int32) (p3 : Int32) (p4 : Int32) (p5 : Int32) (h0 : PH) : Option (Int32 × PH) :=
  if (h0 a0 3) < (h0 a0 0) then
    lt ((h0 a0 3) * (h0 a0 1)) fun x1 =>
    ck x1 (ln (a0 + 1)) <|
    lt (up h0 (a0 + 1) (ix x1) p1) fun h2 =>
    jn1 (fun (h4 : PH) =>
      jn1 (fun (h6 : PH) =>
        jn1 (fun (h8 : PH) =>
          jn1 (fun (h10 : PH) =>
            lt (up h10 a0 3 ((h10 a0 3) + 1)) fun h11 =>
            some (1, h11)) fun j9 =>
          if (h8 a0 1) ≤ 4 then
            j9 h8
          else
            ck (x1 + 4) (ln (a0 + 1)) <|
            lt (up h8 (a0 + 1) (ix (x1 + 4)) p5) fun h12 =>
            j9 h12) fun j7 =>
        if (h6 a0 1) ≤ 3 then
          j7 h6
        else
          ck (x1 + 3) (ln (a0 + 1)) <|
          lt (up h6 (a0 + 1) (ix (x1 + 3)) p4) fun h13 =>
          j7 h13) fun j5 =>
      if (h4 a0 1) ≤ 2 then
        j5 h4
      else
        ck (x1 + 2) (ln (a0 + 1)) <|
        lt (up h4 (a0 + 1) (ix (x1 + 2)) p3) fun h14 =>
        j5 h14) fun j3 =>
    if (h2 a0 1) ≤ 1 then
      j3 h2
    else
      ck (x1 + 1) (ln (a0 + 1)) <|
      lt (up h2 (a0 + 1) (ix (x1 + 1)) p2) fun h15 =>
      j3 h15
  else
    some (0, h0)
theorem cR_add (G : GG) (d : Nat) (a0 : Nat) (p1 : Int32) (p2 : Int32) (p3 : Int32) (p4 : Int32) (p5 : Int32) (q0 : shL[a0]? = some (6, 4)) (h0 : PH) (r : Int32 × PH) (hm : mR_add a0 p1 p2 p3 p4 p5 h0 = some r) : Kx G tR_add d [.ref (gB G + a0), .int p1, .int p2, .int p3, .int p4, .int p5] h0 (some (.int r.1)) r.2 := by
  refine K_of_V (by decide) (by simp [Value.category]) (by simp [tR_add]) ?_
  change Vx G tR_add d 0 [some (.ref (gB G + a0)), some (.int p1), some (.int p2), some (.int p3), some (.int p4), some (.int p5), none] [] h0 (some (.int r.1)) r.2
  unfold mR_add at hm
  refine v_ald_0 dR_add_0 ?_
  refine v_getI dR_add_1 fuR_28 q0 (rf_rows_3 q0) ?_
  refine v_ald_0 dR_add_4 ?_
  refine v_getI dR_add_5 fuR_15 q0 (rf_rows_0 q0) ?_
  refine v_cmp_lt dR_add_8 (fun hc => ?_) (fun hc => ?_)
  · replace hm := it hc hm
    refine v_ald_0 dR_add_13 ?_
    refine v_getI dR_add_14 fuR_28 q0 (rf_rows_3 q0) ?_
    refine v_ald_0 dR_add_17 ?_
    refine v_getI dR_add_18 fuR_21 q0 (rf_rows_1 q0) ?_
    refine v_imul dR_add_21 ?_
    refine v_top hm (fun x1 hm => ?_)
    refine v_ist_6 dR_add_22 (by decide) rfl ?_
    refine v_ald_0 dR_add_24 ?_
    refine v_getR dR_add_25 fuR_24 q0 (rf_rows_2 q0) ?_
    refine v_ild_6 dR_add_28 ?_
    refine v_ild_1 dR_add_30 ?_
    obtain ⟨hi, hm⟩ := ck_s hm
    refine v_iastl dR_add_31 (sh_rows q0) hi hm (fun h2 hm => ?_)
    refine v_ald_0 dR_add_32 ?_
    refine v_getI dR_add_33 fuR_21 q0 (rf_rows_1 q0) ?_
    refine v_iconst (x := 1) dR_add_36 rfl ?_
    refine v_j1 (fun (h4 : PH) => Vx G tR_add d 50 [some (.ref (gB G + a0)), none, none, some (.int p3), some (.int p4), some (.int p5), some (.int x1)] [] h4 (some (.int r.1)) r.2) hm (fun h4 hm => ?_) (fun j3 kj3 hm => ?_)
    · refine v_ald_0 dR_add_50 ?_
      refine v_getI dR_add_51 fuR_21 q0 (rf_rows_1 q0) ?_
      refine v_iconst (x := 2) dR_add_54 rfl ?_
      refine v_j1 (fun (h6 : PH) => Vx G tR_add d 68 [some (.ref (gB G + a0)), none, none, none, some (.int p4), some (.int p5), some (.int x1)] [] h6 (some (.int r.1)) r.2) hm (fun h6 hm => ?_) (fun j5 kj5 hm => ?_)
      · refine v_ald_0 dR_add_68 ?_
        refine v_getI dR_add_69 fuR_21 q0 (rf_rows_1 q0) ?_
        refine v_iconst (x := 3) dR_add_72 rfl ?_
        refine v_j1 (fun (h8 : PH) => Vx G tR_add d 87 [some (.ref (gB G + a0)), none, none, none, none, some (.int p5), some (.int x1)] [] h8 (some (.int r.1)) r.2) hm (fun h8 hm => ?_) (fun j7 kj7 hm => ?_)
        · refine v_ald_0 dR_add_87 ?_
          refine v_getI dR_add_88 fuR_21 q0 (rf_rows_1 q0) ?_
          refine v_iconst (x := 4) dR_add_91 rfl ?_
          refine v_j1 (fun (h10 : PH) => Vx G tR_add d 106 [some (.ref (gB G + a0)), none, none, none, none, none, none] [] h10 (some (.int r.1)) r.2) hm (fun h10 hm => ?_) (fun j9 kj9 hm => ?_)
          · refine v_ald_0 dR_add_106 ?_
            refine v_dup dR_add_107 rfl ?_
            refine v_getI dR_add_108 fuR_28 q0 (rf_rows_3 q0) ?_
            refine v_iconst (x := 1) dR_add_111 rfl ?_
            refine v_iadd dR_add_112 ?_
            refine v_putIl dR_add_113 fuR_28 ft_6_3 q0 (rf_rows_3 q0) hm (fun h11 hm => ?_)
            refine v_iconst (x := 1) dR_add_116 rfl ?_
            cases hm
            exact v_zret1 dR_add_117 rfl
          · refine v_cmp_le dR_add_92 (fun hc => ?_) (fun hc => ?_)
            · replace hm := it hc hm
              exact v_kw (kj9 _ hm) (wk_s (wk_n (wk_n (wk_n (wk_n (wk_n (wk_n wk_e)))))))
            · replace hm := ie hc hm
              refine v_ald_0 dR_add_95 ?_
              refine v_getR dR_add_96 fuR_24 q0 (rf_rows_2 q0) ?_
              refine v_ild_6 dR_add_99 ?_
              refine v_iconst (x := 4) dR_add_101 rfl ?_
              refine v_iadd dR_add_102 ?_
              refine v_ild_5 dR_add_103 ?_
              obtain ⟨hi, hm⟩ := ck_s hm
              refine v_iastl dR_add_105 (sh_rows q0) hi hm (fun h12 hm => ?_)
              exact v_kw (kj9 _ hm) (wk_s (wk_n (wk_n (wk_n (wk_n (wk_n (wk_n wk_e)))))))
        · refine v_cmp_le dR_add_73 (fun hc => ?_) (fun hc => ?_)
          · replace hm := it hc hm
            exact v_kw (kj7 _ hm) (wk_s (wk_n (wk_n (wk_n (wk_n (wk_s (wk_s wk_e)))))))
          · replace hm := ie hc hm
            refine v_ald_0 dR_add_76 ?_
            refine v_getR dR_add_77 fuR_24 q0 (rf_rows_2 q0) ?_
            refine v_ild_6 dR_add_80 ?_
            refine v_iconst (x := 3) dR_add_82 rfl ?_
            refine v_iadd dR_add_83 ?_
            refine v_ild_4 dR_add_84 ?_
            obtain ⟨hi, hm⟩ := ck_s hm
            refine v_iastl dR_add_86 (sh_rows q0) hi hm (fun h13 hm => ?_)
            exact v_kw (kj7 _ hm) (wk_s (wk_n (wk_n (wk_n (wk_n (wk_s (wk_s wk_e)))))))
      · refine v_cmp_le dR_add_55 (fun hc => ?_) (fun hc => ?_)
        · replace hm := it hc hm
          exact v_kw (kj5 _ hm) (wk_s (wk_n (wk_n (wk_n (wk_s (wk_s (wk_s wk_e)))))))
        · replace hm := ie hc hm
          refine v_ald_0 dR_add_58 ?_
          refine v_getR dR_add_59 fuR_24 q0 (rf_rows_2 q0) ?_
          refine v_ild_6 dR_add_62 ?_
          refine v_iconst (x := 2) dR_add_64 rfl ?_
          refine v_iadd dR_add_65 ?_
          refine v_ild_3 dR_add_66 ?_
          obtain ⟨hi, hm⟩ := ck_s hm
          refine v_iastl dR_add_67 (sh_rows q0) hi hm (fun h14 hm => ?_)
          exact v_kw (kj5 _ hm) (wk_s (wk_n (wk_n (wk_n (wk_s (wk_s (wk_s wk_e)))))))
    · refine v_cmp_le dR_add_37 (fun hc => ?_) (fun hc => ?_)
      · replace hm := it hc hm
        exact v_kw (kj3 _ hm) (wk_s (wk_n (wk_n (wk_s (wk_s (wk_s (wk_s wk_e)))))))
      · replace hm := ie hc hm
        refine v_ald_0 dR_add_40 ?_
        refine v_getR dR_add_41 fuR_24 q0 (rf_rows_2 q0) ?_
        refine v_ild_6 dR_add_44 ?_
        refine v_iconst (x := 1) dR_add_46 rfl ?_
        refine v_iadd dR_add_47 ?_
        refine v_ild_2 dR_add_48 ?_
        obtain ⟨hi, hm⟩ := ck_s hm
        refine v_iastl dR_add_49 (sh_rows q0) hi hm (fun h15 hm => ?_)
        exact v_kw (kj3 _ hm) (wk_s (wk_n (wk_n (wk_s (wk_s (wk_s (wk_s wk_e)))))))
  · replace hm := ie hc hm
    refine v_iconst (x := 0) dR_add_11 rfl ?_
    cases hm
    exact v_zret0 dR_add_12 rfl
def mR_copyFrom (a0 : Nat) (a1 : Nat) (h0 : PH) : Option (PH) :=
  lt ((h0 a1 3) * (h0 a1 1)) fun x1 =>
  if (h0 a1 1) = (h0 a0 1) then
    if (Int32.ofNat (ln (a0 + 1))) < x1 then
      some h0
    else
      cc (ln (a1 + 1)) (ln (a0 + 1)) 0 0 x1 <|
      lt (cpy h0 (a1 + 1) (a0 + 1) (ix 0) (ix 0) (ix x1)) fun h2 =>
      lt (up h2 a0 3 (h2 a1 3)) fun h3 =>
      some h3
  else
    some h0
theorem cR_copyFrom (G : GG) (d : Nat) (a0 : Nat) (a1 : Nat) (q0 : shL[a0]? = some (6, 4)) (q1 : shL[a1]? = some (6, 4)) (h0 : PH) (r : PH) (hm : mR_copyFrom a0 a1 h0 = some r) : Kx G tR_copyFrom d [.ref (gB G + a0), .ref (gB G + a1)] h0 none r := by
  refine K_of_V (by decide) (by simp [Value.category]) (by simp [tR_copyFrom]) ?_
  change Vx G tR_copyFrom d 0 [some (.ref (gB G + a0)), some (.ref (gB G + a1)), none] [] h0 none r
  unfold mR_copyFrom at hm
  refine v_ald_1 dR_copyFrom_0 ?_
  refine v_getI dR_copyFrom_1 fuR_28 q1 (rf_rows_3 q1) ?_
  refine v_ald_1 dR_copyFrom_4 ?_
  refine v_getI dR_copyFrom_5 fuR_21 q1 (rf_rows_1 q1) ?_
  refine v_imul dR_copyFrom_8 ?_
  refine v_top hm (fun x1 hm => ?_)
  refine v_ist_2 dR_copyFrom_9 (by decide) rfl ?_
  refine v_ald_1 dR_copyFrom_10 ?_
  refine v_getI dR_copyFrom_11 fuR_21 q1 (rf_rows_1 q1) ?_
  refine v_ald_0 dR_copyFrom_14 ?_
  refine v_getI dR_copyFrom_15 fuR_21 q0 (rf_rows_1 q0) ?_
  refine v_cmp_ne dR_copyFrom_18 (fun hc => ?_) (fun hc => ?_)
  · replace hm := it hc hm
    refine v_ild_2 dR_copyFrom_21 ?_
    refine v_ald_0 dR_copyFrom_22 ?_
    refine v_getR dR_copyFrom_23 fuR_24 q0 (rf_rows_2 q0) ?_
    refine v_alen (x := (Int32.ofNat (ln (a0 + 1)))) dR_copyFrom_26 (sh_rows q0) rfl ?_
    refine v_cmp_gt dR_copyFrom_27 (fun hc => ?_) (fun hc => ?_)
    · replace hm := it hc hm
      cases hm
      exact v_ret dR_copyFrom_52 rfl
    · replace hm := ie hc hm
      refine v_ald_1 dR_copyFrom_30 ?_
      refine v_getR dR_copyFrom_31 fuR_24 q1 (rf_rows_2 q1) ?_
      refine v_iconst (x := 0) dR_copyFrom_34 rfl ?_
      refine v_ald_0 dR_copyFrom_35 ?_
      refine v_getR dR_copyFrom_36 fuR_24 q0 (rf_rows_2 q0) ?_
      refine v_iconst (x := 0) dR_copyFrom_39 rfl ?_
      refine v_ild_2 dR_copyFrom_40 ?_
      obtain ⟨hq, hm⟩ := cc_s hm
      refine v_cpy dR_copyFrom_41 mlR_31 (sh_rows q1) (sh_rows q0) (Nat.le_of_ble_eq_true rfl) hq hm (fun h2 hm => ?_)
      refine v_ald_0 dR_copyFrom_44 ?_
      refine v_ald_1 dR_copyFrom_45 ?_
      refine v_getI dR_copyFrom_46 fuR_28 q1 (rf_rows_3 q1) ?_
      refine v_putIl dR_copyFrom_49 fuR_28 ft_6_3 q0 (rf_rows_3 q0) hm (fun h3 hm => ?_)
      cases hm
      exact v_ret dR_copyFrom_52 rfl
  · replace hm := ie hc hm
    cases hm
    exact v_ret dR_copyFrom_52 rfl
