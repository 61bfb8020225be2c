theorem ctm_moreOf (G : GG) (d : Nat) (p1 : Int32) (h0 : PH) (r : Int32) (hm : mm_moreOf p1 h0 = some r) : Kx G tm_moreOf (d + 1) [.ref (gB G + 104), .int p1] h0 (some (.int r)) h0 := by
  refine K_of_V (by decide) (by simp [cat_i, cat_r, fmtV_cat]) (by simp [tm_moreOf]) ?_
  change Vx G tm_moreOf (d + 1) 0 [some (.ref (gB G + 104)), some (.int p1), none, none] [] h0 (some (.int r)) h0
  unfold mm_moreOf at hm
  refine v_iconst (x := 0) dm_moreOf_0 rfl ?_
  refine v_ist_2 dm_moreOf_1 (by decide) rfl ?_
  refine v_iconst (x := 0) dm_moreOf_2 rfl ?_
  refine v_ist_3 dm_moreOf_3 (by decide) rfl ?_
  exact v_kw (wm_moreOf_L4 G d _ _ _ FU _ _ hm) (wk_s (wk_s (wk_s (wk_s wk_e))))
def mm_council_L29 (h0 : PH) : Nat → Int32 → Int32 → Option (Int32 × PH)
  | 0, _, _ => none
  | n + 1, v2, v3 =>
    if (1 <<< ((h0 104 66) &&& 31)) ≤ v3 then
      some (v2, h0)
    else
      bd (mm_onesOf v3 h0) fun r4 =>
      if v2 ≤ r4 then
        mm_council_L29 h0 n v2 (v3 + 1)
      else
        bd (mm_moreOf v3 h0) fun r5 =>
        if r5 ≤ 0 then
          mm_council_L29 h0 n v2 (v3 + 1)
        else
          bd (mm_onesOf v3 h0) fun r6 =>
          mm_council_L29 h0 n r6 (v3 + 1)
def mm_council_L86 (p2 : Int32) (p3 : Int32) (h0 : PH) (k0 : Int32 → Option (Int32 × PH)) : Nat → Int32 → Int32 → Option (Int32 × PH)
  | 0, _, _ => none
  | n + 1, v4, v5 =>
    if (h0 104 66) ≤ v5 then
      k0 v4
    else
      ck v5 8 <|
      bd (mm_has (h0 144 (ix v5)) p3 h0) fun r7 =>
      if r7 = 0 then
        mm_council_L86 p2 p3 h0 k0 n v4 (v5 + 1)
      else
        lt (v4 ||| (1 <<< (v5 &&& 31))) fun x8 =>
        mm_council_L86 p2 p3 h0 k0 n x8 (v5 + 1)
def mm_council_L74 (h0 : PH) : Nat → Int32 → Int32 → Option (Int32 × PH)
  | 0, _, _ => none
  | n + 1, v2, v3 =>
    if 12 ≤ v3 then
      some (v2, h0)
    else
      mm_council_L86 v2 v3 h0 (fun (x9 : Int32) =>
        bd (mm_moreOf x9 h0) fun r10 =>
        if r10 ≤ 0 then
          mm_council_L74 h0 n v2 (v3 + 1)
        else
          lt (v2 ||| (1 <<< (v3 &&& 31))) fun x11 =>
          mm_council_L74 h0 n x11 (v3 + 1)) FU 0 0
def mm_council (p1 : Int32) (h0 : PH) : Option (Int32 × PH) :=
  lt (up h0 104 0 0) fun h1 =>
  bd (mm_isIn p1 0 1 h1) fun r2 =>
  if r2 = 0 then
    some ((-1), h1)
  else
    if p1 = 1 then
      lt (h1 104 66) fun x3 =>
      mm_council_L29 h1 FU x3 0
    else
      mm_council_L74 h1 FU 0 0
theorem wm_council_L29 (G : GG) (d : Nat) (h0 : PH) (r : Int32 × PH) : ∀ (n : Nat) (v2 : Int32) (v3 : Int32), mm_council_L29 h0 n v2 v3 = some r → Vx G tm_council (d + 2) 29 [some (.ref (gB G + 104)), none, some (.int v2), some (.int v3), none, none] [] h0 (some (.int r.1)) r.2 := by
  intro n
  induction n with
  | zero => intro v2 v3 hm; cases hm
  | succ n ih =>
    intro v2 v3 hm
    unfold mm_council_L29 at hm
    refine v_ild_3 dm_council_29 ?_
    refine v_iconst (x := 1) dm_council_30 rfl ?_
    refine v_ald_0 dm_council_31 ?_
    refine v_getI dm_council_32 fum_499 sh_104 rf_104_66 ?_
    refine v_ishl dm_council_35 ?_
    refine v_cmp_ge dm_council_36 (fun hc => ?_) (fun hc => ?_)
    · replace hm := it hc hm
      refine v_ild_2 dm_council_68 ?_
      cases hm
      exact v_iret dm_council_69 rfl
    · replace hm := ie hc hm
      refine v_ald_0 dm_council_39 ?_
      refine v_ild_3 dm_council_40 ?_
      obtain ⟨r4, he, hm⟩ := bd_s hm
      refine v_cv1i (M' := tm_onesOf) dm_council_41 mlm_421 okm_onesOf sh_104 hc_12 (Nat.le_of_ble_eq_true rfl) (ctm_onesOf G (d + 1) _ _ _ he) ?_
      refine v_ild_2 dm_council_44 ?_
      refine v_cmp_ge dm_council_45 (fun hc => ?_) (fun hc => ?_)
      · replace hm := it hc hm
        refine v_inc_3 1 dm_council_62 rfl (by decide) rfl ?_
        refine v_goto dm_council_65 ?_
        exact v_kw (ih _ _ hm) (wk_s (wk_n (wk_s (wk_s (wk_n (wk_n wk_e))))))
      · replace hm := ie hc hm
        refine v_ald_0 dm_council_48 ?_
        refine v_ild_3 dm_council_49 ?_
        obtain ⟨r5, he, hm⟩ := bd_s hm
        refine v_cv1i (M' := tm_moreOf) dm_council_50 mlm_502 okm_moreOf sh_104 hc_12 (Nat.le_of_ble_eq_true rfl) (ctm_moreOf G d _ _ _ he) ?_
        refine v_if_le dm_council_53 (fun hc => ?_) (fun hc => ?_)
        · replace hm := it hc hm
          refine v_inc_3 1 dm_council_62 rfl (by decide) rfl ?_
          refine v_goto dm_council_65 ?_
          exact v_kw (ih _ _ hm) (wk_s (wk_n (wk_s (wk_s (wk_n (wk_n wk_e))))))
        · replace hm := ie hc hm
          refine v_ald_0 dm_council_56 ?_
          refine v_ild_3 dm_council_57 ?_
          obtain ⟨r6, he, hm⟩ := bd_s hm
          refine v_cv1i (M' := tm_onesOf) dm_council_58 mlm_421 okm_onesOf sh_104 hc_12 (Nat.le_of_ble_eq_true rfl) (ctm_onesOf G (d + 1) _ _ _ he) ?_
          refine v_ist_2 dm_council_61 (by decide) rfl ?_
          refine v_inc_3 1 dm_council_62 rfl (by decide) rfl ?_
          refine v_goto dm_council_65 ?_
          exact v_kw (ih _ _ hm) (wk_s (wk_n (wk_s (wk_s (wk_n (wk_n wk_e))))))
theorem wm_council_L86 (G : GG) (d : Nat) (p2 : Int32) (p3 : Int32) (h0 : PH) (k0 : Int32 → Option (Int32 × PH)) (r : Int32 × PH) (kk0 : ∀ (y4 : Int32), k0 y4 = some r → Vx G tm_council (d + 2) 125 [some (.ref (gB G + 104)), none, some (.int p2), some (.int p3), some (.int y4), none] [] h0 (some (.int r.1)) r.2) : ∀ (n : Nat) (v4 : Int32) (v5 : Int32), mm_council_L86 p2 p3 h0 k0 n v4 v5 = some r → Vx G tm_council (d + 2) 86 [some (.ref (gB G + 104)), none, some (.int p2), some (.int p3), some (.int v4), some (.int v5)] [] h0 (some (.int r.1)) r.2 := by
  intro n
  induction n with
  | zero => intro v4 v5 hm; cases hm
  | succ n ih =>
    intro v4 v5 hm
    unfold mm_council_L86 at hm
    refine v_ild_5 dm_council_86 ?_
    refine v_ald_0 dm_council_88 ?_
    refine v_getI dm_council_89 fum_499 sh_104 rf_104_66 ?_
    refine v_cmp_ge dm_council_92 (fun hc => ?_) (fun hc => ?_)
    · replace hm := it hc hm
      exact v_kw (kk0 _ hm) (wk_s (wk_n (wk_s (wk_s (wk_s (wk_n wk_e))))))
    · replace hm := ie hc hm
      refine v_ald_0 dm_council_95 ?_
      refine v_ald_0 dm_council_96 ?_
      refine v_getR dm_council_97 fum_131 sh_104 rf_104_67 ?_
      refine v_ild_5 dm_council_100 ?_
      obtain ⟨hi, hm⟩ := ck_s hm
      refine v_iald dm_council_102 sh_144 hi ?_
      refine v_ild_3 dm_council_103 ?_
      obtain ⟨r7, he, hm⟩ := bd_s hm
      refine v_cv2i (M' := tm_has) dm_council_104 mlm_360 okm_has sh_104 hc_12 (Nat.le_of_ble_eq_true rfl) (ctm_has G (d + 1) _ _ _ _ he) ?_
      refine v_if_eq dm_council_107 (fun hc => ?_) (fun hc => ?_)
      · replace hm := it hc hm
        refine v_inc_5 1 dm_council_119 rfl (by decide) rfl ?_
        refine v_goto dm_council_122 ?_
        exact v_kw (ih _ _ hm) (wk_s (wk_n (wk_s (wk_s (wk_s (wk_s wk_e))))))
      · replace hm := ie hc hm
        refine v_ild_4 dm_council_110 ?_
        refine v_iconst (x := 1) dm_council_112 rfl ?_
        refine v_ild_5 dm_council_113 ?_
        refine v_ishl dm_council_115 ?_
        refine v_ior dm_council_116 ?_
        refine v_top hm (fun x8 hm => ?_)
        refine v_ist_4 dm_council_117 (by decide) rfl ?_
        refine v_inc_5 1 dm_council_119 rfl (by decide) rfl ?_
        refine v_goto dm_council_122 ?_
        exact v_kw (ih _ _ hm) (wk_s (wk_n (wk_s (wk_s (wk_s (wk_s wk_e))))))
theorem wm_council_L74 (G : GG) (d : Nat) (h0 : PH) (r : Int32 × PH) : ∀ (n : Nat) (v2 : Int32) (v3 : Int32), mm_council_L74 h0 n v2 v3 = some r → Vx G tm_council (d + 2) 74 [some (.ref (gB G + 104)), none, some (.int v2), some (.int v3), none, none] [] h0 (some (.int r.1)) r.2 := by
  intro n
  induction n with
  | zero => intro v2 v3 hm; cases hm
  | succ n ih =>
    intro v2 v3 hm
    unfold mm_council_L74 at hm
    refine v_ild_3 dm_council_74 ?_
    refine v_bipush (x := 12) dm_council_75 rfl ?_
    refine v_cmp_ge dm_council_77 (fun hc => ?_) (fun hc => ?_)
    · replace hm := it hc hm
      refine v_ild_2 dm_council_146 ?_
      cases hm
      exact v_iret dm_council_147 rfl
    · replace hm := ie hc hm
      refine v_iconst (x := 0) dm_council_80 rfl ?_
      refine v_ist_4 dm_council_81 (by decide) rfl ?_
      refine v_iconst (x := 0) dm_council_83 rfl ?_
      refine v_ist_5 dm_council_84 (by decide) rfl ?_
      refine v_kw (wm_council_L86 G d _ _ _ _ _ (fun x9 hm => ?_) FU _ _ hm) (wk_s (wk_n (wk_s (wk_s (wk_s (wk_s wk_e))))))
      refine v_ald_0 dm_council_125 ?_
      refine v_ild_4 dm_council_126 ?_
      obtain ⟨r10, he, hm⟩ := bd_s hm
      refine v_cv1i (M' := tm_moreOf) dm_council_128 mlm_502 okm_moreOf sh_104 hc_12 (Nat.le_of_ble_eq_true rfl) (ctm_moreOf G d _ _ _ he) ?_
      refine v_if_le dm_council_131 (fun hc => ?_) (fun hc => ?_)
      · replace hm := it hc hm
        refine v_inc_3 1 dm_council_140 rfl (by decide) rfl ?_
        refine v_goto dm_council_143 ?_
        exact v_kw (ih _ _ hm) (wk_s (wk_n (wk_s (wk_s (wk_n (wk_n wk_e))))))
      · replace hm := ie hc hm
        refine v_ild_2 dm_council_134 ?_
        refine v_iconst (x := 1) dm_council_135 rfl ?_
        refine v_ild_3 dm_council_136 ?_
        refine v_ishl dm_council_137 ?_
        refine v_ior dm_council_138 ?_
        refine v_top hm (fun x11 hm => ?_)
        refine v_ist_2 dm_council_139 (by decide) rfl ?_
        refine v_inc_3 1 dm_council_140 rfl (by decide) rfl ?_
        refine v_goto dm_council_143 ?_
        exact v_kw (ih _ _ hm) (wk_s (wk_n (wk_s (wk_s (wk_n (wk_n wk_e))))))
theorem ctm_council (G : GG) (d : Nat) (p1 : Int32) (h0 : PH) (r : Int32 × PH) (hm : mm_council p1 h0 = some r) : Kx G tm_council (d + 2) [.ref (gB G + 104), .int p1] h0 (some (.int r.1)) r.2 := by
  refine K_of_V (by decide) (by simp [cat_i, cat_r, fmtV_cat]) (by simp [tm_council]) ?_
  change Vx G tm_council (d + 2) 0 [some (.ref (gB G + 104)), some (.int p1), none, none, none, none] [] h0 (some (.int r.1)) r.2
  unfold mm_council at hm
  refine v_ald_0 dm_council_0 ?_
  refine v_iconst (x := 0) dm_council_1 rfl ?_
  refine v_putIl dm_council_2 fum_146 ft_12_0 sh_104 rf_104_0 hm (fun h1 hm => ?_)
  refine v_ald_0 dm_council_5 ?_
  refine v_ild_1 dm_council_6 ?_
  refine v_iconst (x := 0) dm_council_7 rfl ?_
  refine v_iconst (x := 1) dm_council_8 rfl ?_
  obtain ⟨r2, he, hm⟩ := bd_s hm
  refine v_cv3i (M' := tm_isIn) dm_council_9 mlm_177 okm_isIn sh_104 hc_12 (Nat.le_of_ble_eq_true rfl) (ctm_isIn G (d + 1) _ _ _ _ _ he) ?_
  refine v_if_ne dm_council_12 (fun hc => ?_) (fun hc => ?_)
  · replace hm := it hc hm
    refine v_iconst (x := (-1)) dm_council_15 rfl ?_
    cases hm
    exact v_iret dm_council_16 rfl
  · replace hm := ie hc hm
    refine v_ild_1 dm_council_17 ?_
    refine v_iconst (x := 1) dm_council_18 rfl ?_
    refine v_cmp_ne dm_council_19 (fun hc => ?_) (fun hc => ?_)
    · replace hm := it hc hm
      refine v_ald_0 dm_council_22 ?_
      refine v_getI dm_council_23 fum_499 sh_104 rf_104_66 ?_
      refine v_top hm (fun x3 hm => ?_)
      refine v_ist_2 dm_council_26 (by decide) rfl ?_
      refine v_iconst (x := 0) dm_council_27 rfl ?_
      refine v_ist_3 dm_council_28 (by decide) rfl ?_
      exact v_kw (wm_council_L29 G d _ _ FU _ _ hm) (wk_s (wk_n (wk_s (wk_s (wk_n (wk_n wk_e))))))
    · replace hm := ie hc hm
      refine v_iconst (x := 0) dm_council_70 rfl ?_
      refine v_ist_2 dm_council_71 (by decide) rfl ?_
      refine v_iconst (x := 0) dm_council_72 rfl ?_
      refine v_ist_3 dm_council_73 (by decide) rfl ?_
      exact v_kw (wm_council_L74 G d _ _ FU _ _ hm) (wk_s (wk_n (wk_s (wk_s (wk_n (wk_n wk_e))))))
def mm_takesSlab_L4 : Nat → Int32 → Int32 → PH → Option (PH)
  | 0, _, _, _ => none
  | n + 1, v2, v3, hv =>
    if 5 ≤ v3 then
      some hv
    else
      dz 7 <|
      ck v3 5 <|
      lt (up hv 147 (ix v3) (irm v2 7)) fun h1 =>
      dz 7 <|
      lt (v2 / 7) fun x2 =>
      mm_takesSlab_L4 n x2 (v3 + 1) h1
def mm_takesSlab (p1 : Int32) (h0 : PH) : Option (PH) :=
  mm_takesSlab_L4 FU p1 0 h0
theorem wm_takesSlab_L4 (G : GG) (d : Nat)  (r : PH) : ∀ (n : Nat) (v2 : Int32) (v3 : Int32) (hv : PH), mm_takesSlab_L4  n v2 v3 hv = some r → Vx G tm_takesSlab d 4 [some (.ref (gB G + 104)), none, some (.int v2), some (.int v3)] [] hv none r := by
  intro n
  induction n with
  | zero => intro v2 v3 hv hm; cases hm
  | succ n ih =>
    intro v2 v3 hv hm
    unfold mm_takesSlab_L4 at hm
    refine v_ild_3 dm_takesSlab_4 ?_
    refine v_iconst (x := 5) dm_takesSlab_5 rfl ?_
    refine v_cmp_ge dm_takesSlab_6 (fun hc => ?_) (fun hc => ?_)
    · replace hm := it hc hm
      cases hm
      exact v_ret dm_takesSlab_30 rfl
    · replace hm := ie hc hm
      refine v_ald_0 dm_takesSlab_9 ?_
      refine v_getR dm_takesSlab_10 fum_140 sh_104 rf_104_70 ?_
      refine v_ild_3 dm_takesSlab_13 ?_
      refine v_ild_2 dm_takesSlab_14 ?_
      refine v_bipush (x := 7) dm_takesSlab_15 rfl ?_
      obtain ⟨hz, hm⟩ := dz_s hm
      refine v_irem dm_takesSlab_17 hz ?_
      obtain ⟨hi, hm⟩ := ck_s hm
      refine v_iastl dm_takesSlab_18 sh_147 hi hm (fun h1 hm => ?_)
      refine v_ild_2 dm_takesSlab_19 ?_
      refine v_bipush (x := 7) dm_takesSlab_20 rfl ?_
      obtain ⟨hz, hm⟩ := dz_s hm
      refine v_idiv dm_takesSlab_22 hz ?_
      refine v_top hm (fun x2 hm => ?_)
      refine v_ist_2 dm_takesSlab_23 (by decide) rfl ?_
      refine v_inc_3 1 dm_takesSlab_24 rfl (by decide) rfl ?_
      refine v_goto dm_takesSlab_27 ?_
      exact v_kw (ih _ _ _ hm) (wk_s (wk_n (wk_s (wk_s wk_e))))
theorem ctm_takesSlab (G : GG) (d : Nat) (p1 : Int32) (h0 : PH) (r : PH) (hm : mm_takesSlab p1 h0 = some r) : Kx G tm_takesSlab d [.ref (gB G + 104), .int p1] h0 none r := by
  refine K_of_V (by decide) (by simp [cat_i, cat_r, fmtV_cat]) (by simp [tm_takesSlab]) ?_
  change Vx G tm_takesSlab d 0 [some (.ref (gB G + 104)), some (.int p1), none, none] [] h0 none r
  unfold mm_takesSlab at hm
  refine v_ild_1 dm_takesSlab_0 ?_
  refine v_ist_2 dm_takesSlab_1 (by decide) rfl ?_
  refine v_iconst (x := 0) dm_takesSlab_2 rfl ?_
  refine v_ist_3 dm_takesSlab_3 (by decide) rfl ?_
  exact v_kw (wm_takesSlab_L4 G d  _ FU _ _ _ hm) (wk_s (wk_n (wk_s (wk_s wk_e))))
def mm_isSlab_L2 (h0 : PH) : Nat → Int32 → Option (Int32)
  | 0, _ => none
  | n + 1, v1 =>
    if 5 ≤ v1 then
      some 1
    else
      ck v1 5 <|
      ck (v1 - 1) 5 <|
      if (h0 147 (ix v1)) ≤ (h0 147 (ix (v1 - 1))) then
        mm_isSlab_L2 h0 n (v1 + 1)
      else
        some 0
def mm_isSlab (h0 : PH) : Option (Int32) :=
  mm_isSlab_L2 h0 FU 1
theorem wm_isSlab_L2 (G : GG) (d : Nat) (h0 : PH) (r : Int32) : ∀ (n : Nat) (v1 : Int32), mm_isSlab_L2 h0 n v1 = some r → Vx G tm_isSlab d 2 [some (.ref (gB G + 104)), some (.int v1)] [] h0 (some (.int r)) h0 := by
  intro n
  induction n with
  | zero => intro v1 hm; cases hm
  | succ n ih =>
    intro v1 hm
    unfold mm_isSlab_L2 at hm
    refine v_ild_1 dm_isSlab_2 ?_
    refine v_iconst (x := 5) dm_isSlab_3 rfl ?_
    refine v_cmp_ge dm_isSlab_4 (fun hc => ?_) (fun hc => ?_)
    · replace hm := it hc hm
      refine v_iconst (x := 1) dm_isSlab_32 rfl ?_
      cases hm
      exact v_zret1 dm_isSlab_33 rfl
    · replace hm := ie hc hm
      refine v_ald_0 dm_isSlab_7 ?_
      refine v_getR dm_isSlab_8 fum_140 sh_104 rf_104_70 ?_
      refine v_ild_1 dm_isSlab_11 ?_
      obtain ⟨hi, hm⟩ := ck_s hm
      refine v_iald dm_isSlab_12 sh_147 hi ?_
      refine v_ald_0 dm_isSlab_13 ?_
      refine v_getR dm_isSlab_14 fum_140 sh_104 rf_104_70 ?_
      refine v_ild_1 dm_isSlab_17 ?_
      refine v_iconst (x := 1) dm_isSlab_18 rfl ?_
      refine v_isub dm_isSlab_19 ?_
      obtain ⟨hi, hm⟩ := ck_s hm
      refine v_iald dm_isSlab_20 sh_147 hi ?_
      refine v_cmp_le dm_isSlab_21 (fun hc => ?_) (fun hc => ?_)
      · replace hm := it hc hm
        refine v_inc_1 1 dm_isSlab_26 rfl (by decide) rfl ?_
        refine v_goto dm_isSlab_29 ?_
        exact v_kw (ih _ hm) (wk_s (wk_s wk_e))
      · replace hm := ie hc hm
        refine v_iconst (x := 0) dm_isSlab_24 rfl ?_
        cases hm
        exact v_zret0 dm_isSlab_25 rfl
theorem ctm_isSlab (G : GG) (d : Nat) (h0 : PH) (r : Int32) (hm : mm_isSlab h0 = some r) : Kx G tm_isSlab d [.ref (gB G + 104)] h0 (some (.int r)) h0 := by
  refine K_of_V (by decide) (by simp [cat_i, cat_r, fmtV_cat]) (by simp [tm_isSlab]) ?_
  change Vx G tm_isSlab d 0 [some (.ref (gB G + 104)), none] [] h0 (some (.int r)) h0
  unfold mm_isSlab at hm
  refine v_iconst (x := 1) dm_isSlab_0 rfl ?_
  refine v_ist_1 dm_isSlab_1 (by decide) rfl ?_
  exact v_kw (wm_isSlab_L2 G d _ _ FU _ hm) (wk_s (wk_s wk_e))
def mm_bitten_L5 (p1 : Int32) (p2 : Int32) (h0 : PH) : Nat → Int32 → Int32 → Option (Int32)
  | 0, _, _ => none
  | n + 1, v3, v4 =>
    if v4 < 0 then
      some v3
    else
      if p1 ≤ v4 then
        ck v4 5 <|
        bd (mm_lesser (h0 147 (ix v4)) p2 h0) fun r1 =>
        lt ((7 * v3) + r1) fun x2 =>
        mm_bitten_L5 p1 p2 h0 n x2 (v4 + (-1))
      else
        ck v4 5 <|
        lt ((7 * v3) + (h0 147 (ix v4))) fun x3 =>
        mm_bitten_L5 p1 p2 h0 n x3 (v4 + (-1))
def mm_bitten (p1 : Int32) (p2 : Int32) (h0 : PH) : Option (Int32) :=
  mm_bitten_L5 p1 p2 h0 FU 0 4
theorem wm_bitten_L5 (G : GG) (d : Nat) (p1 : Int32) (p2 : Int32) (h0 : PH) (r : Int32) : ∀ (n : Nat) (v3 : Int32) (v4 : Int32), mm_bitten_L5 p1 p2 h0 n v3 v4 = some r → Vx G tm_bitten (d + 1) 5 [some (.ref (gB G + 104)), some (.int p1), some (.int p2), some (.int v3), some (.int v4)] [] h0 (some (.int r)) h0 := by
  intro n
  induction n with
  | zero => intro v3 v4 hm; cases hm
  | succ n ih =>
    intro v3 v4 hm
    unfold mm_bitten_L5 at hm
    refine v_ild_4 dm_bitten_5 ?_
    refine v_if_lt dm_bitten_7 (fun hc => ?_) (fun hc => ?_)
    · replace hm := it hc hm
      refine v_ild_3 dm_bitten_50 ?_
      cases hm
      exact v_iret dm_bitten_51 rfl
    · replace hm := ie hc hm
      refine v_bipush (x := 7) dm_bitten_10 rfl ?_
      refine v_ild_3 dm_bitten_12 ?_
      refine v_imul dm_bitten_13 ?_
      refine v_ild_4 dm_bitten_14 ?_
      refine v_ild_1 dm_bitten_16 ?_
      refine v_cmp_ge dm_bitten_17 (fun hc => ?_) (fun hc => ?_)
      · replace hm := it hc hm
        refine v_ald_0 dm_bitten_30 ?_
        refine v_ald_0 dm_bitten_31 ?_
        refine v_getR dm_bitten_32 fum_140 sh_104 rf_104_70 ?_
        refine v_ild_4 dm_bitten_35 ?_
        obtain ⟨hi, hm⟩ := ck_s hm
        refine v_iald dm_bitten_37 sh_147 hi ?_
        refine v_ild_2 dm_bitten_38 ?_
        obtain ⟨r1, he, hm⟩ := bd_s hm
        refine v_cv2i (M' := tm_lesser) dm_bitten_39 mlm_400 okm_lesser sh_104 hc_12 (Nat.le_of_ble_eq_true rfl) (ctm_lesser G d _ _ _ _ he) ?_
        refine v_iadd dm_bitten_42 ?_
        refine v_top hm (fun x2 hm => ?_)
        refine v_ist_3 dm_bitten_43 (by decide) rfl ?_
        refine v_inc_4 (-1) dm_bitten_44 rfl (by decide) rfl ?_
        refine v_goto dm_bitten_47 ?_
        exact v_kw (ih _ _ hm) (wk_s (wk_s (wk_s (wk_s (wk_s wk_e)))))
      · replace hm := ie hc hm
        refine v_ald_0 dm_bitten_20 ?_
        refine v_getR dm_bitten_21 fum_140 sh_104 rf_104_70 ?_
        refine v_ild_4 dm_bitten_24 ?_
        obtain ⟨hi, hm⟩ := ck_s hm
        refine v_iald dm_bitten_26 sh_147 hi ?_
        refine v_goto dm_bitten_27 ?_
        refine v_iadd dm_bitten_42 ?_
        refine v_top hm (fun x3 hm => ?_)
        refine v_ist_3 dm_bitten_43 (by decide) rfl ?_
        refine v_inc_4 (-1) dm_bitten_44 rfl (by decide) rfl ?_
        refine v_goto dm_bitten_47 ?_
        exact v_kw (ih _ _ hm) (wk_s (wk_s (wk_s (wk_s (wk_s wk_e)))))
theorem ctm_bitten (G : GG) (d : Nat) (p1 : Int32) (p2 : Int32) (h0 : PH) (r : Int32) (hm : mm_bitten p1 p2 h0 = some r) : Kx G tm_bitten (d + 1) [.ref (gB G + 104), .int p1, .int p2] h0 (some (.int r)) h0 := by
  refine K_of_V (by decide) (by simp [cat_i, cat_r, fmtV_cat]) (by simp [tm_bitten]) ?_
  change Vx G tm_bitten (d + 1) 0 [some (.ref (gB G + 104)), some (.int p1), some (.int p2), none, none] [] h0 (some (.int r)) h0
  unfold mm_bitten at hm
  refine v_iconst (x := 0) dm_bitten_0 rfl ?_
  refine v_ist_3 dm_bitten_1 (by decide) rfl ?_
  refine v_iconst (x := 4) dm_bitten_2 rfl ?_
  refine v_ist_4 dm_bitten_3 (by decide) rfl ?_
  exact v_kw (wm_bitten_L5 G d _ _ _ _ FU _ _ hm) (wk_s (wk_s (wk_s (wk_s (wk_s wk_e)))))
def mm_goodBite_L9 (p1 : Int32) (h0 : PH) (k0 : Option (Int32)) : Nat → Int32 → Option (Int32)
  | 0, _ => none
  | n + 1, v2 =>
    ck p1 5 <|
    if (h0 147 (ix p1)) ≤ v2 then
      k0
    else
      if (p1 + v2) ≤ 0 then
        mm_goodBite_L9 p1 h0 k0 n (v2 + 1)
      else
        bd (mm_bitten p1 v2 h0) fun r1 =>
        ck r1 16807 <|
        if (h0 146 (ix r1)) = 0 then
          some ((10 * p1) + v2)
        else
          mm_goodBite_L9 p1 h0 k0 n (v2 + 1)
def mm_goodBite_L2 (h0 : PH) : Nat → Int32 → Option (Int32)
  | 0, _ => none
  | n + 1, v1 =>
    if 5 ≤ v1 then
      some (-1)
    else
      mm_goodBite_L9 v1 h0 (mm_goodBite_L2 h0 n (v1 + 1)) FU 0
def mm_goodBite (h0 : PH) : Option (Int32) :=
  mm_goodBite_L2 h0 FU 0
theorem wm_goodBite_L9 (G : GG) (d : Nat) (p1 : Int32) (h0 : PH) (k0 : Option (Int32)) (r : Int32) (kk0 : k0 = some r → Vx G tm_goodBite (d + 2) 52 [some (.ref (gB G + 104)), some (.int p1), none] [] h0 (some (.int r)) h0) : ∀ (n : Nat) (v2 : Int32), mm_goodBite_L9 p1 h0 k0 n v2 = some r → Vx G tm_goodBite (d + 2) 9 [some (.ref (gB G + 104)), some (.int p1), some (.int v2)] [] h0 (some (.int r)) h0 := by
  intro n
  induction n with
  | zero => intro v2 hm; cases hm
  | succ n ih =>
    intro v2 hm
    unfold mm_goodBite_L9 at hm
    refine v_ild_2 dm_goodBite_9 ?_
    refine v_ald_0 dm_goodBite_10 ?_
    refine v_getR dm_goodBite_11 fum_140 sh_104 rf_104_70 ?_
    refine v_ild_1 dm_goodBite_14 ?_
    obtain ⟨hi, hm⟩ := ck_s hm
    refine v_iald dm_goodBite_15 sh_147 hi ?_
    refine v_cmp_ge dm_goodBite_16 (fun hc => ?_) (fun hc => ?_)
    · replace hm := it hc hm
      exact v_kw (kk0 hm) (wk_s (wk_s (wk_n wk_e)))
    · replace hm := ie hc hm
      refine v_ild_1 dm_goodBite_19 ?_
      refine v_ild_2 dm_goodBite_20 ?_
      refine v_iadd dm_goodBite_21 ?_
      refine v_if_le dm_goodBite_22 (fun hc => ?_) (fun hc => ?_)
      · replace hm := it hc hm
        refine v_inc_2 1 dm_goodBite_46 rfl (by decide) rfl ?_
        refine v_goto dm_goodBite_49 ?_
        exact v_kw (ih _ hm) (wk_s (wk_s (wk_s wk_e)))
      · replace hm := ie hc hm
        refine v_ald_0 dm_goodBite_25 ?_
        refine v_getR dm_goodBite_26 fum_137 sh_104 rf_104_69 ?_
        refine v_ald_0 dm_goodBite_29 ?_
        refine v_ild_1 dm_goodBite_30 ?_
        refine v_ild_2 dm_goodBite_31 ?_
        obtain ⟨r1, he, hm⟩ := bd_s hm
        refine v_cv2i (M' := tm_bitten) dm_goodBite_32 mlm_505 okm_bitten sh_104 hc_12 (Nat.le_of_ble_eq_true rfl) (ctm_bitten G d _ _ _ _ he) ?_
        obtain ⟨hi, hm⟩ := ck_s hm
        refine v_iald dm_goodBite_35 sh_146 hi ?_
        refine v_if_ne dm_goodBite_36 (fun hc => ?_) (fun hc => ?_)
        · replace hm := it hc hm
          refine v_bipush (x := 10) dm_goodBite_39 rfl ?_
          refine v_ild_1 dm_goodBite_41 ?_
          refine v_imul dm_goodBite_42 ?_
          refine v_ild_2 dm_goodBite_43 ?_
          refine v_iadd dm_goodBite_44 ?_
          cases hm
          exact v_iret dm_goodBite_45 rfl
        · replace hm := ie hc hm
          refine v_inc_2 1 dm_goodBite_46 rfl (by decide) rfl ?_
          refine v_goto dm_goodBite_49 ?_
          exact v_kw (ih _ hm) (wk_s (wk_s (wk_s wk_e)))
theorem wm_goodBite_L2 (G : GG) (d : Nat) (h0 : PH) (r : Int32) : ∀ (n : Nat) (v1 : Int32), mm_goodBite_L2 h0 n v1 = some r → Vx G tm_goodBite (d + 2) 2 [some (.ref (gB G + 104)), some (.int v1), none] [] h0 (some (.int r)) h0 := by
  intro n
  induction n with
  | zero => intro v1 hm; cases hm
  | succ n ih =>
    intro v1 hm
    unfold mm_goodBite_L2 at hm
    refine v_ild_1 dm_goodBite_2 ?_
    refine v_iconst (x := 5) dm_goodBite_3 rfl ?_
    refine v_cmp_ge dm_goodBite_4 (fun hc => ?_) (fun hc => ?_)
    · replace hm := it hc hm
      refine v_iconst (x := (-1)) dm_goodBite_58 rfl ?_
      cases hm
      exact v_iret dm_goodBite_59 rfl
    · replace hm := ie hc hm
      refine v_iconst (x := 0) dm_goodBite_7 rfl ?_
      refine v_ist_2 dm_goodBite_8 (by decide) rfl ?_
      refine v_kw (wm_goodBite_L9 G d _ _ _ _ (fun hm => ?_) FU _ hm) (wk_s (wk_s (wk_s wk_e)))
      refine v_inc_1 1 dm_goodBite_52 rfl (by decide) rfl ?_
      refine v_goto dm_goodBite_55 ?_
      exact v_kw (ih _ hm) (wk_s (wk_s (wk_n wk_e)))
theorem ctm_goodBite (G : GG) (d : Nat) (h0 : PH) (r : Int32) (hm : mm_goodBite h0 = some r) : Kx G tm_goodBite (d + 2) [.ref (gB G + 104)] h0 (some (.int r)) h0 := by
  refine K_of_V (by decide) (by simp [cat_i, cat_r, fmtV_cat]) (by simp [tm_goodBite]) ?_
  change Vx G tm_goodBite (d + 2) 0 [some (.ref (gB G + 104)), none, none] [] h0 (some (.int r)) h0
  unfold mm_goodBite at hm
  refine v_iconst (x := 0) dm_goodBite_0 rfl ?_
  refine v_ist_1 dm_goodBite_1 (by decide) rfl ?_
  exact v_kw (wm_goodBite_L2 G d _ _ FU _ hm) (wk_s (wk_s (wk_n wk_e)))
def mm_game_L33 (p1 : Int32) (p2 : Int32) (h0 : PH) (k0 : Int32 → Option (Int32 × PH)) : Nat → Int32 → Int32 → Option (Int32 × PH)
  | 0, _, _ => none
  | n + 1, v3, v4 =>
    if p1 ≤ v4 then
      k0 v3
    else
      lt ((7 * v3) + p2) fun x4 =>
      mm_game_L33 p1 p2 h0 k0 n x4 (v4 + 1)
def mm_game_L55 (p3 : Int32) (k0 : PH → Option (Int32 × PH)) : Nat → Int32 → PH → Option (Int32 × PH)
  | 0, _, _ => none
  | n + 1, v4, hv =>
    if p3 < v4 then
      k0 hv
    else
      bd (mm_takesSlab v4 hv) fun h6 =>
      bd (mm_isSlab h6) fun r7 =>
      jn1 (fun (x9 : Int32) =>
        ck v4 16807 <|
        lt (up h6 146 (ix v4) x9) fun h10 =>
        mm_game_L55 p3 k0 n (v4 + 1) h10) fun j8 =>
      if r7 = 0 then
        j8 0
      else
        bd (mm_goodBite h6) fun r11 =>
        if r11 = (-1) then
          j8 0
        else
          j8 1
def mm_game (p1 : Int32) (p2 : Int32) (h0 : PH) : Option (Int32 × PH) :=
  lt (up h0 104 0 0) fun h1 =>
  bd (mm_isIn p1 1 5 h1) fun r2 =>
  if r2 = 0 then
    some ((-1), h1)
  else
    bd (mm_isIn p2 1 6 h1) fun r3 =>
    if r3 = 0 then
      some ((-1), h1)
    else
      mm_game_L33 p1 p2 h1 (fun (x5 : Int32) =>
        mm_game_L55 x5 (fun (h12 : PH) =>
          bd (mm_takesSlab x5 h12) fun h13 =>
          bd (mm_goodBite h13) fun r14 =>
          some (r14, h13)) FU 1 h1) FU 0 0
theorem wm_game_L33 (G : GG) (d : Nat) (p1 : Int32) (p2 : Int32) (h0 : PH) (k0 : Int32 → Option (Int32 × PH)) (r : Int32 × PH) (kk0 : ∀ (y3 : Int32), k0 y3 = some r → Vx G tm_game (d + 3) 52 [some (.ref (gB G + 104)), none, none, some (.int y3), none] [] h0 (some (.int r.1)) r.2) : ∀ (n : Nat) (v3 : Int32) (v4 : Int32), mm_game_L33 p1 p2 h0 k0 n v3 v4 = some r → Vx G tm_game (d + 3) 33 [some (.ref (gB G + 104)), some (.int p1), some (.int p2), some (.int v3), some (.int v4)] [] h0 (some (.int r.1)) r.2 := by
  intro n
  induction n with
  | zero => intro v3 v4 hm; cases hm
  | succ n ih =>
    intro v3 v4 hm
    unfold mm_game_L33 at hm
    refine v_ild_4 dm_game_33 ?_
    refine v_ild_1 dm_game_35 ?_
    refine v_cmp_ge dm_game_36 (fun hc => ?_) (fun hc => ?_)
    · replace hm := it hc hm
      exact v_kw (kk0 _ hm) (wk_s (wk_n (wk_n (wk_s (wk_n wk_e)))))
    · replace hm := ie hc hm
      refine v_bipush (x := 7) dm_game_39 rfl ?_
      refine v_ild_3 dm_game_41 ?_
      refine v_imul dm_game_42 ?_
      refine v_ild_2 dm_game_43 ?_
      refine v_iadd dm_game_44 ?_
      refine v_top hm (fun x4 hm => ?_)
      refine v_ist_3 dm_game_45 (by decide) rfl ?_
      refine v_inc_4 1 dm_game_46 rfl (by decide) rfl ?_
      refine v_goto dm_game_49 ?_
      exact v_kw (ih _ _ hm) (wk_s (wk_s (wk_s (wk_s (wk_s wk_e)))))
theorem wm_game_L55 (G : GG) (d : Nat) (p3 : Int32) (k0 : PH → Option (Int32 × PH)) (r : Int32 × PH) (kk0 : ∀ (hy : PH), k0 hy = some r → Vx G tm_game (d + 3) 100 [some (.ref (gB G + 104)), none, none, some (.int p3), none] [] hy (some (.int r.1)) r.2) : ∀ (n : Nat) (v4 : Int32) (hv : PH), mm_game_L55 p3 k0 n v4 hv = some r → Vx G tm_game (d + 3) 55 [some (.ref (gB G + 104)), none, none, some (.int p3), some (.int v4)] [] hv (some (.int r.1)) r.2 := by
  intro n
  induction n with
  | zero => intro v4 hv hm; cases hm
  | succ n ih =>
    intro v4 hv hm
    unfold mm_game_L55 at hm
    refine v_ild_4 dm_game_55 ?_
    refine v_ild_3 dm_game_57 ?_
    refine v_cmp_gt dm_game_58 (fun hc => ?_) (fun hc => ?_)
    · replace hm := it hc hm
      exact v_kw (kk0 _ hm) (wk_s (wk_n (wk_n (wk_s (wk_n wk_e)))))
    · replace hm := ie hc hm
      refine v_ald_0 dm_game_61 ?_
      refine v_ild_4 dm_game_62 ?_
      obtain ⟨h6, he, hm⟩ := bd_s hm
      refine v_cv1v (M' := tm_takesSlab) dm_game_64 mlm_508 okm_takesSlab sh_104 hc_12 (Nat.le_of_ble_eq_true rfl) (ctm_takesSlab G (d + 2) _ _ _ he) ?_
      refine v_ald_0 dm_game_67 ?_
      refine v_getR dm_game_68 fum_137 sh_104 rf_104_69 ?_
      refine v_ild_4 dm_game_71 ?_
      refine v_ald_0 dm_game_73 ?_
      obtain ⟨r7, he, hm⟩ := bd_s hm
      refine v_cv0i (M' := tm_isSlab) dm_game_74 mlm_511 okm_isSlab sh_104 hc_12 (Nat.le_of_ble_eq_true rfl) (ctm_isSlab G (d + 2) _ _ he) ?_
      refine v_j1 (fun (x9 : Int32) => Vx G tm_game (d + 3) 93 [some (.ref (gB G + 104)), none, none, some (.int p3), some (.int v4)] [.int x9, .int v4, .ref (gB G + 146)] h6 (some (.int r.1)) r.2) hm (fun x9 hm => ?_) (fun j8 kj8 hm => ?_)
      · obtain ⟨hi, hm⟩ := ck_s hm
        refine v_iastl dm_game_93 sh_146 hi hm (fun h10 hm => ?_)
        refine v_inc_4 1 dm_game_94 rfl (by decide) rfl ?_
        refine v_goto dm_game_97 ?_
        exact v_kw (ih _ _ hm) (wk_s (wk_n (wk_n (wk_s (wk_s wk_e)))))
      · refine v_if_eq dm_game_77 (fun hc => ?_) (fun hc => ?_)
        · replace hm := it hc hm
          refine v_iconst (x := 0) dm_game_92 rfl ?_
          exact v_kw (kj8 _ hm) (wk_s (wk_n (wk_n (wk_s (wk_s wk_e)))))
        · replace hm := ie hc hm
          refine v_ald_0 dm_game_80 ?_
          obtain ⟨r11, he, hm⟩ := bd_s hm
          refine v_cv0i (M' := tm_goodBite) dm_game_81 mlm_514 okm_goodBite sh_104 hc_12 (Nat.le_of_ble_eq_true rfl) (ctm_goodBite G d _ _ he) ?_
          refine v_iconst (x := (-1)) dm_game_84 rfl ?_
          refine v_cmp_eq dm_game_85 (fun hc => ?_) (fun hc => ?_)
          · replace hm := it hc hm
            refine v_iconst (x := 0) dm_game_92 rfl ?_
            exact v_kw (kj8 _ hm) (wk_s (wk_n (wk_n (wk_s (wk_s wk_e)))))
          · replace hm := ie hc hm
            refine v_iconst (x := 1) dm_game_88 rfl ?_
            refine v_goto dm_game_89 ?_
            exact v_kw (kj8 _ hm) (wk_s (wk_n (wk_n (wk_s (wk_s wk_e)))))
theorem ctm_game (G : GG) (d : Nat) (p1 : Int32) (p2 : Int32) (h0 : PH) (r : Int32 × PH) (hm : mm_game p1 p2 h0 = some r) : Kx G tm_game (d + 3) [.ref (gB G + 104), .int p1, .int p2] h0 (some (.int r.1)) r.2 := by
  refine K_of_V (by decide) (by simp [cat_i, cat_r, fmtV_cat]) (by simp [tm_game]) ?_
  change Vx G tm_game (d + 3) 0 [some (.ref (gB G + 104)), some (.int p1), some (.int p2), none, none] [] h0 (some (.int r.1)) r.2
  unfold mm_game at hm
  refine v_ald_0 dm_game_0 ?_
  refine v_iconst (x := 0) dm_game_1 rfl ?_
  refine v_putIl dm_game_2 fum_146 ft_12_0 sh_104 rf_104_0 hm (fun h1 hm => ?_)
  refine v_ald_0 dm_game_5 ?_
  refine v_ild_1 dm_game_6 ?_
  refine v_iconst (x := 1) dm_game_7 rfl ?_
  refine v_iconst (x := 5) dm_game_8 rfl ?_
  obtain ⟨r2, he, hm⟩ := bd_s hm
  refine v_cv3i (M' := tm_isIn) dm_game_9 mlm_177 okm_isIn sh_104 hc_12 (Nat.le_of_ble_eq_true rfl) (ctm_isIn G (d + 2) _ _ _ _ _ he) ?_
  refine v_if_eq dm_game_12 (fun hc => ?_) (fun hc => ?_)
  · replace hm := it hc hm
    refine v_iconst (x := (-1)) dm_game_26 rfl ?_
    cases hm
    exact v_iret dm_game_27 rfl
  · replace hm := ie hc hm
    refine v_ald_0 dm_game_15 ?_
    refine v_ild_2 dm_game_16 ?_
    refine v_iconst (x := 1) dm_game_17 rfl ?_
    refine v_bipush (x := 6) dm_game_18 rfl ?_
    obtain ⟨r3, he, hm⟩ := bd_s hm
    refine v_cv3i (M' := tm_isIn) dm_game_20 mlm_177 okm_isIn sh_104 hc_12 (Nat.le_of_ble_eq_true rfl) (ctm_isIn G (d + 2) _ _ _ _ _ he) ?_
    refine v_if_ne dm_game_23 (fun hc => ?_) (fun hc => ?_)
    · replace hm := it hc hm
      refine v_iconst (x := (-1)) dm_game_26 rfl ?_
      cases hm
      exact v_iret dm_game_27 rfl
    · replace hm := ie hc hm
      refine v_iconst (x := 0) dm_game_28 rfl ?_
      refine v_ist_3 dm_game_29 (by decide) rfl ?_
      refine v_iconst (x := 0) dm_game_30 rfl ?_
      refine v_ist_4 dm_game_31 (by decide) rfl ?_
      refine v_kw (wm_game_L33 G d _ _ _ _ _ (fun x5 hm => ?_) FU _ _ hm) (wk_s (wk_s (wk_s (wk_s (wk_s wk_e)))))
      refine v_iconst (x := 1) dm_game_52 rfl ?_
      refine v_ist_4 dm_game_53 (by decide) rfl ?_
      refine v_kw (wm_game_L55 G d _ _ _ (fun h12 hm => ?_) FU _ _ hm) (wk_s (wk_n (wk_n (wk_s (wk_s wk_e)))))
      refine v_ald_0 dm_game_100 ?_
      refine v_ild_3 dm_game_101 ?_
      obtain ⟨h13, he, hm⟩ := bd_s hm
      refine v_cv1v (M' := tm_takesSlab) dm_game_102 mlm_508 okm_takesSlab sh_104 hc_12 (Nat.le_of_ble_eq_true rfl) (ctm_takesSlab G (d + 2) _ _ _ he) ?_
      refine v_ald_0 dm_game_105 ?_
      obtain ⟨r14, he, hm⟩ := bd_s hm
      refine v_cv0i (M' := tm_goodBite) dm_game_106 mlm_514 okm_goodBite sh_104 hc_12 (Nat.le_of_ble_eq_true rfl) (ctm_goodBite G d _ _ he) ?_
      cases hm
      exact v_iret dm_game_109 rfl
def mm_keeps (p1 : Int32) (h0 : PH) : Option (Int32 × PH) :=
  lt (up h0 104 73 ((h0 104 73) + 1)) fun h1 =>
  if (h1 104 71) = 0 then
    ck ((h1 104 73) - 1) 2400 <|
    some (h1 148 (ix ((h1 104 73) - 1)), h1)
  else
    ck ((h1 104 73) - 1) 2400 <|
    lt (up h1 148 (ix ((h1 104 73) - 1)) p1) fun h2 =>
    some (p1, h2)
theorem ctm_keeps (G : GG) (d : Nat) (p1 : Int32) (h0 : PH) (r : Int32 × PH) (hm : mm_keeps p1 h0 = some r) : Kx G tm_keeps d [.ref (gB G + 104), .int p1] h0 (some (.int r.1)) r.2 := by
  refine K_of_V (by decide) (by simp [cat_i, cat_r, fmtV_cat]) (by simp [tm_keeps]) ?_
  change Vx G tm_keeps d 0 [some (.ref (gB G + 104)), some (.int p1)] [] h0 (some (.int r.1)) r.2
  unfold mm_keeps at hm
  refine v_ald_0 dm_keeps_0 ?_
  refine v_ald_0 dm_keeps_1 ?_
  refine v_getI dm_keeps_2 fum_517 sh_104 rf_104_73 ?_
  refine v_iconst (x := 1) dm_keeps_5 rfl ?_
  refine v_iadd dm_keeps_6 ?_
  refine v_putIl dm_keeps_7 fum_517 ft_12_73 sh_104 rf_104_73 hm (fun h1 hm => ?_)
  refine v_ald_0 dm_keeps_10 ?_
  refine v_getI dm_keeps_11 fum_520 sh_104 rf_104_71 ?_
  refine v_if_ne dm_keeps_14 (fun hc => ?_) (fun hc => ?_)
  · replace hm := it hc hm
    refine v_ald_0 dm_keeps_17 ?_
    refine v_getR dm_keeps_18 fum_143 sh_104 rf_104_74 ?_
    refine v_ald_0 dm_keeps_21 ?_
    refine v_getI dm_keeps_22 fum_517 sh_104 rf_104_73 ?_
    refine v_iconst (x := 1) dm_keeps_25 rfl ?_
    refine v_isub dm_keeps_26 ?_
    obtain ⟨hi, hm⟩ := ck_s hm
    refine v_iald dm_keeps_27 sh_148 hi ?_
    cases hm
    exact v_iret dm_keeps_28 rfl
  · replace hm := ie hc hm
    refine v_ald_0 dm_keeps_29 ?_
    refine v_getR dm_keeps_30 fum_143 sh_104 rf_104_74 ?_
    refine v_ald_0 dm_keeps_33 ?_
    refine v_getI dm_keeps_34 fum_517 sh_104 rf_104_73 ?_
    refine v_iconst (x := 1) dm_keeps_37 rfl ?_
    refine v_isub dm_keeps_38 ?_
    refine v_ild_1 dm_keeps_39 ?_
    obtain ⟨hi, hm⟩ := ck_s hm
    refine v_iastl dm_keeps_40 sh_148 hi hm (fun h2 hm => ?_)
    refine v_ild_1 dm_keeps_41 ?_
    cases hm
    exact v_iret dm_keeps_42 rfl
def mm_keepsLaw_L18 (k0 : PH → Option (PH)) : Nat → Int32 → PH → Option (PH)
  | 0, _, _ => none
  | n + 1, v1, hv =>
    if 16 ≤ v1 then
      k0 hv
    else
      ck v1 48 <|
      bd2 (mm_keeps (hv 114 (ix v1)) hv) fun r4 h5 =>
      ck v1 48 <|
      lt (up h5 114 (ix v1) r4) fun h6 =>
      ck v1 48 <|
      bd2 (mm_keeps (h6 115 (ix v1)) h6) fun r7 h8 =>
      ck v1 48 <|
      lt (up h8 115 (ix v1) r7) fun h9 =>
      ck v1 48 <|
      bd2 (mm_keeps (h9 116 (ix v1)) h9) fun r10 h11 =>
      ck v1 48 <|
      lt (up h11 116 (ix v1) r10) fun h12 =>
      ck v1 48 <|
      bd2 (mm_keeps (h12 117 (ix v1)) h12) fun r13 h14 =>
      ck v1 48 <|
      lt (up h14 117 (ix v1) r13) fun h15 =>
      mm_keepsLaw_L18 k0 n (v1 + 1) h15
def mm_keepsLaw_L96 : Nat → Int32 → PH → Option (PH)
  | 0, _, _ => none
  | n + 1, v1, hv =>
    if 400 ≤ v1 then
      some hv
    else
      ck v1 1200 <|
      bd2 (mm_keeps (hv 118 (ix v1)) hv) fun r17 h18 =>
      ck v1 1200 <|
      lt (up h18 118 (ix v1) r17) fun h19 =>
      ck v1 1200 <|
      bd2 (mm_keeps (h19 119 (ix v1)) h19) fun r20 h21 =>
      ck v1 1200 <|
      lt (up h21 119 (ix v1) r20) fun h22 =>
      mm_keepsLaw_L96 n (v1 + 1) h22
def mm_keepsLaw (h0 : PH) : Option (PH) :=
  ck 0 2 <|
  bd2 (mm_keeps (h0 113 (ix 0)) h0) fun r1 h2 =>
  ck 0 2 <|
  lt (up h2 113 (ix 0) r1) fun h3 =>
  mm_keepsLaw_L18 (fun (h16 : PH) =>
    mm_keepsLaw_L96 FU 0 h16) FU 0 h3
theorem wm_keepsLaw_L18 (G : GG) (d : Nat) (k0 : PH → Option (PH)) (r : PH) (kk0 : ∀ (hy : PH), k0 hy = some r → Vx G tm_keepsLaw (d + 1) 94 [some (.ref (gB G + 104)), none] [] hy none r) : ∀ (n : Nat) (v1 : Int32) (hv : PH), mm_keepsLaw_L18 k0 n v1 hv = some r → Vx G tm_keepsLaw (d + 1) 18 [some (.ref (gB G + 104)), some (.int v1)] [] hv none r := by
  intro n
  induction n with
  | zero => intro v1 hv hm; cases hm
  | succ n ih =>
    intro v1 hv hm
    unfold mm_keepsLaw_L18 at hm
    refine v_ild_1 dm_keepsLaw_18 ?_
    refine v_bipush (x := 16) dm_keepsLaw_19 rfl ?_
    refine v_cmp_ge dm_keepsLaw_21 (fun hc => ?_) (fun hc => ?_)
    · replace hm := it hc hm
      exact v_kw (kk0 _ hm) (wk_s (wk_n wk_e))
    · replace hm := ie hc hm
      refine v_ald_0 dm_keepsLaw_24 ?_
      refine v_getR dm_keepsLaw_25 fum_37 sh_104 rf_104_18 ?_
      refine v_ild_1 dm_keepsLaw_28 ?_
      refine v_ald_0 dm_keepsLaw_29 ?_
      refine v_ald_0 dm_keepsLaw_30 ?_
      refine v_getR dm_keepsLaw_31 fum_37 sh_104 rf_104_18 ?_
      refine v_ild_1 dm_keepsLaw_34 ?_
      obtain ⟨hi, hm⟩ := ck_s hm
      refine v_iald dm_keepsLaw_35 sh_114 hi ?_
      obtain ⟨r4, h5, he, hm⟩ := bd2_s hm
      refine v_cv1i (M' := tm_keeps) dm_keepsLaw_36 mlm_523 okm_keeps sh_104 hc_12 (Nat.le_of_ble_eq_true rfl) (ctm_keeps G d _ _ _ he) ?_
      obtain ⟨hi, hm⟩ := ck_s hm
      refine v_iastl dm_keepsLaw_39 sh_114 hi hm (fun h6 hm => ?_)
      refine v_ald_0 dm_keepsLaw_40 ?_
      refine v_getR dm_keepsLaw_41 fum_40 sh_104 rf_104_19 ?_
      refine v_ild_1 dm_keepsLaw_44 ?_
      refine v_ald_0 dm_keepsLaw_45 ?_
      refine v_ald_0 dm_keepsLaw_46 ?_
      refine v_getR dm_keepsLaw_47 fum_40 sh_104 rf_104_19 ?_
      refine v_ild_1 dm_keepsLaw_50 ?_
      obtain ⟨hi, hm⟩ := ck_s hm
      refine v_iald dm_keepsLaw_51 sh_115 hi ?_
      obtain ⟨r7, h8, he, hm⟩ := bd2_s hm
      refine v_cv1i (M' := tm_keeps) dm_keepsLaw_52 mlm_523 okm_keeps sh_104 hc_12 (Nat.le_of_ble_eq_true rfl) (ctm_keeps G d _ _ _ he) ?_
      obtain ⟨hi, hm⟩ := ck_s hm
      refine v_iastl dm_keepsLaw_55 sh_115 hi hm (fun h9 hm => ?_)
      refine v_ald_0 dm_keepsLaw_56 ?_
      refine v_getR dm_keepsLaw_57 fum_43 sh_104 rf_104_20 ?_
      refine v_ild_1 dm_keepsLaw_60 ?_
      refine v_ald_0 dm_keepsLaw_61 ?_
      refine v_ald_0 dm_keepsLaw_62 ?_
      refine v_getR dm_keepsLaw_63 fum_43 sh_104 rf_104_20 ?_
      refine v_ild_1 dm_keepsLaw_66 ?_
      obtain ⟨hi, hm⟩ := ck_s hm
      refine v_iald dm_keepsLaw_67 sh_116 hi ?_
      obtain ⟨r10, h11, he, hm⟩ := bd2_s hm
      refine v_cv1i (M' := tm_keeps) dm_keepsLaw_68 mlm_523 okm_keeps sh_104 hc_12 (Nat.le_of_ble_eq_true rfl) (ctm_keeps G d _ _ _ he) ?_
      obtain ⟨hi, hm⟩ := ck_s hm
      refine v_iastl dm_keepsLaw_71 sh_116 hi hm (fun h12 hm => ?_)
      refine v_ald_0 dm_keepsLaw_72 ?_
      refine v_getR dm_keepsLaw_73 fum_46 sh_104 rf_104_21 ?_
      refine v_ild_1 dm_keepsLaw_76 ?_
      refine v_ald_0 dm_keepsLaw_77 ?_
      refine v_ald_0 dm_keepsLaw_78 ?_
      refine v_getR dm_keepsLaw_79 fum_46 sh_104 rf_104_21 ?_
      refine v_ild_1 dm_keepsLaw_82 ?_
      obtain ⟨hi, hm⟩ := ck_s hm
      refine v_iald dm_keepsLaw_83 sh_117 hi ?_
      obtain ⟨r13, h14, he, hm⟩ := bd2_s hm
      refine v_cv1i (M' := tm_keeps) dm_keepsLaw_84 mlm_523 okm_keeps sh_104 hc_12 (Nat.le_of_ble_eq_true rfl) (ctm_keeps G d _ _ _ he) ?_
      obtain ⟨hi, hm⟩ := ck_s hm
      refine v_iastl dm_keepsLaw_87 sh_117 hi hm (fun h15 hm => ?_)
      refine v_inc_1 1 dm_keepsLaw_88 rfl (by decide) rfl ?_
      refine v_goto dm_keepsLaw_91 ?_
      exact v_kw (ih _ _ hm) (wk_s (wk_s wk_e))
theorem wm_keepsLaw_L96 (G : GG) (d : Nat)  (r : PH) : ∀ (n : Nat) (v1 : Int32) (hv : PH), mm_keepsLaw_L96  n v1 hv = some r → Vx G tm_keepsLaw (d + 1) 96 [some (.ref (gB G + 104)), some (.int v1)] [] hv none r := by
  intro n
  induction n with
  | zero => intro v1 hv hm; cases hm
  | succ n ih =>
    intro v1 hv hm
    unfold mm_keepsLaw_L96 at hm
    refine v_ild_1 dm_keepsLaw_96 ?_
    refine v_sipush (x := 400) dm_keepsLaw_97 rfl ?_
    refine v_cmp_ge dm_keepsLaw_100 (fun hc => ?_) (fun hc => ?_)
    · replace hm := it hc hm
      cases hm
      exact v_ret dm_keepsLaw_141 rfl
    · replace hm := ie hc hm
      refine v_ald_0 dm_keepsLaw_103 ?_
      refine v_getR dm_keepsLaw_104 fum_49 sh_104 rf_104_22 ?_
      refine v_ild_1 dm_keepsLaw_107 ?_
      refine v_ald_0 dm_keepsLaw_108 ?_
      refine v_ald_0 dm_keepsLaw_109 ?_
      refine v_getR dm_keepsLaw_110 fum_49 sh_104 rf_104_22 ?_
      refine v_ild_1 dm_keepsLaw_113 ?_
      obtain ⟨hi, hm⟩ := ck_s hm
      refine v_iald dm_keepsLaw_114 sh_118 hi ?_
      obtain ⟨r17, h18, he, hm⟩ := bd2_s hm
      refine v_cv1i (M' := tm_keeps) dm_keepsLaw_115 mlm_523 okm_keeps sh_104 hc_12 (Nat.le_of_ble_eq_true rfl) (ctm_keeps G d _ _ _ he) ?_
      obtain ⟨hi, hm⟩ := ck_s hm
      refine v_iastl dm_keepsLaw_118 sh_118 hi hm (fun h19 hm => ?_)
      refine v_ald_0 dm_keepsLaw_119 ?_
      refine v_getR dm_keepsLaw_120 fum_52 sh_104 rf_104_23 ?_
      refine v_ild_1 dm_keepsLaw_123 ?_
      refine v_ald_0 dm_keepsLaw_124 ?_
      refine v_ald_0 dm_keepsLaw_125 ?_
      refine v_getR dm_keepsLaw_126 fum_52 sh_104 rf_104_23 ?_
      refine v_ild_1 dm_keepsLaw_129 ?_
      obtain ⟨hi, hm⟩ := ck_s hm
      refine v_iald dm_keepsLaw_130 sh_119 hi ?_
      obtain ⟨r20, h21, he, hm⟩ := bd2_s hm
      refine v_cv1i (M' := tm_keeps) dm_keepsLaw_131 mlm_523 okm_keeps sh_104 hc_12 (Nat.le_of_ble_eq_true rfl) (ctm_keeps G d _ _ _ he) ?_
      obtain ⟨hi, hm⟩ := ck_s hm
      refine v_iastl dm_keepsLaw_134 sh_119 hi hm (fun h22 hm => ?_)
      refine v_inc_1 1 dm_keepsLaw_135 rfl (by decide) rfl ?_
      refine v_goto dm_keepsLaw_138 ?_
      exact v_kw (ih _ _ hm) (wk_s (wk_s wk_e))
theorem ctm_keepsLaw (G : GG) (d : Nat) (h0 : PH) (r : PH) (hm : mm_keepsLaw h0 = some r) : Kx G tm_keepsLaw (d + 1) [.ref (gB G + 104)] h0 none r := by
  refine K_of_V (by decide) (by simp [cat_i, cat_r, fmtV_cat]) (by simp [tm_keepsLaw]) ?_
  change Vx G tm_keepsLaw (d + 1) 0 [some (.ref (gB G + 104)), none] [] h0 none r
  unfold mm_keepsLaw at hm
  refine v_ald_0 dm_keepsLaw_0 ?_
  refine v_getR dm_keepsLaw_1 fum_34 sh_104 rf_104_17 ?_
  refine v_iconst (x := 0) dm_keepsLaw_4 rfl ?_
  refine v_ald_0 dm_keepsLaw_5 ?_
  refine v_ald_0 dm_keepsLaw_6 ?_
  refine v_getR dm_keepsLaw_7 fum_34 sh_104 rf_104_17 ?_
  refine v_iconst (x := 0) dm_keepsLaw_10 rfl ?_
  obtain ⟨hi, hm⟩ := ck_s hm
  refine v_iald dm_keepsLaw_11 sh_113 hi ?_
  obtain ⟨r1, h2, he, hm⟩ := bd2_s hm
  refine v_cv1i (M' := tm_keeps) dm_keepsLaw_12 mlm_523 okm_keeps sh_104 hc_12 (Nat.le_of_ble_eq_true rfl) (ctm_keeps G d _ _ _ he) ?_
  obtain ⟨hi, hm⟩ := ck_s hm
  refine v_iastl dm_keepsLaw_15 sh_113 hi hm (fun h3 hm => ?_)
  refine v_iconst (x := 0) dm_keepsLaw_16 rfl ?_
  refine v_ist_1 dm_keepsLaw_17 (by decide) rfl ?_
  refine v_kw (wm_keepsLaw_L18 G d _ _ (fun h16 hm => ?_) FU _ _ hm) (wk_s (wk_s wk_e))
  refine v_iconst (x := 0) dm_keepsLaw_94 rfl ?_
  refine v_ist_1 dm_keepsLaw_95 (by decide) rfl ?_
  exact v_kw (wm_keepsLaw_L96 G d  _ FU _ _ hm) (wk_s (wk_s wk_e))
def mm_keepsMany (h0 : PH) : Option (PH) :=
  bd2 (mm_keeps (h0 104 6) h0) fun r1 h2 =>
  lt (up h2 104 6 r1) fun h3 =>
  bd2 (mm_keeps (h3 104 33) h3) fun r4 h5 =>
  lt (up h5 104 33 r4) fun h6 =>
  bd2 (mm_keeps (h6 104 35) h6) fun r7 h8 =>
  lt (up h8 104 35 r7) fun h9 =>
  bd2 (mm_keeps (h9 104 37) h9) fun r10 h11 =>
  lt (up h11 104 37 r10) fun h12 =>
  bd2 (mm_keeps (h12 104 42) h12) fun r13 h14 =>
  lt (up h14 104 42 r13) fun h15 =>
  bd2 (mm_keeps (h15 104 45) h15) fun r16 h17 =>
  lt (up h17 104 45 r16) fun h18 =>
  bd2 (mm_keeps (h18 104 49) h18) fun r19 h20 =>
  lt (up h20 104 49 r19) fun h21 =>
  bd2 (mm_keeps (h21 104 51) h21) fun r22 h23 =>
  lt (up h23 104 51 r22) fun h24 =>
  bd2 (mm_keeps (h24 104 54) h24) fun r25 h26 =>
  lt (up h26 104 54 r25) fun h27 =>
  bd2 (mm_keeps (h27 104 57) h27) fun r28 h29 =>
  lt (up h29 104 57 r28) fun h30 =>
  bd2 (mm_keeps (h30 104 62) h30) fun r31 h32 =>
  lt (up h32 104 62 r31) fun h33 =>
  bd2 (mm_keeps (h33 104 66) h33) fun r34 h35 =>
  lt (up h35 104 66 r34) fun h36 =>
  some h36
theorem ctm_keepsMany (G : GG) (d : Nat) (h0 : PH) (r : PH) (hm : mm_keepsMany h0 = some r) : Kx G tm_keepsMany (d + 1) [.ref (gB G + 104)] h0 none r := by
  refine K_of_V (by decide) (by simp [cat_i, cat_r, fmtV_cat]) (by simp [tm_keepsMany]) ?_
  change Vx G tm_keepsMany (d + 1) 0 [some (.ref (gB G + 104))] [] h0 none r
  unfold mm_keepsMany at hm
  refine v_ald_0 dm_keepsMany_0 ?_
  refine v_ald_0 dm_keepsMany_1 ?_
  refine v_ald_0 dm_keepsMany_2 ?_
  refine v_getI dm_keepsMany_3 fum_158 sh_104 rf_104_6 ?_
  obtain ⟨r1, h2, he, hm⟩ := bd2_s hm
  refine v_cv1i (M' := tm_keeps) dm_keepsMany_6 mlm_523 okm_keeps sh_104 hc_12 (Nat.le_of_ble_eq_true rfl) (ctm_keeps G d _ _ _ he) ?_
  refine v_putIl dm_keepsMany_9 fum_158 ft_12_6 sh_104 rf_104_6 hm (fun h3 hm => ?_)
  refine v_ald_0 dm_keepsMany_12 ?_
  refine v_ald_0 dm_keepsMany_13 ?_
  refine v_ald_0 dm_keepsMany_14 ?_
  refine v_getI dm_keepsMany_15 fum_321 sh_104 rf_104_33 ?_
  obtain ⟨r4, h5, he, hm⟩ := bd2_s hm
  refine v_cv1i (M' := tm_keeps) dm_keepsMany_18 mlm_523 okm_keeps sh_104 hc_12 (Nat.le_of_ble_eq_true rfl) (ctm_keeps G d _ _ _ he) ?_
  refine v_putIl dm_keepsMany_21 fum_321 ft_12_33 sh_104 rf_104_33 hm (fun h6 hm => ?_)
  refine v_ald_0 dm_keepsMany_24 ?_
  refine v_ald_0 dm_keepsMany_25 ?_
  refine v_ald_0 dm_keepsMany_26 ?_
  refine v_getI dm_keepsMany_27 fum_324 sh_104 rf_104_35 ?_
  obtain ⟨r7, h8, he, hm⟩ := bd2_s hm
  refine v_cv1i (M' := tm_keeps) dm_keepsMany_30 mlm_523 okm_keeps sh_104 hc_12 (Nat.le_of_ble_eq_true rfl) (ctm_keeps G d _ _ _ he) ?_
  refine v_putIl dm_keepsMany_33 fum_324 ft_12_35 sh_104 rf_104_35 hm (fun h9 hm => ?_)
  refine v_ald_0 dm_keepsMany_36 ?_
  refine v_ald_0 dm_keepsMany_37 ?_
  refine v_ald_0 dm_keepsMany_38 ?_
  refine v_getI dm_keepsMany_39 fum_318 sh_104 rf_104_37 ?_
  obtain ⟨r10, h11, he, hm⟩ := bd2_s hm
  refine v_cv1i (M' := tm_keeps) dm_keepsMany_42 mlm_523 okm_keeps sh_104 hc_12 (Nat.le_of_ble_eq_true rfl) (ctm_keeps G d _ _ _ he) ?_
  refine v_putIl dm_keepsMany_45 fum_318 ft_12_37 sh_104 rf_104_37 hm (fun h12 hm => ?_)
  refine v_ald_0 dm_keepsMany_48 ?_
  refine v_ald_0 dm_keepsMany_49 ?_
  refine v_ald_0 dm_keepsMany_50 ?_
  refine v_getI dm_keepsMany_51 fum_448 sh_104 rf_104_42 ?_
  obtain ⟨r13, h14, he, hm⟩ := bd2_s hm
  refine v_cv1i (M' := tm_keeps) dm_keepsMany_54 mlm_523 okm_keeps sh_104 hc_12 (Nat.le_of_ble_eq_true rfl) (ctm_keeps G d _ _ _ he) ?_
  refine v_putIl dm_keepsMany_57 fum_448 ft_12_42 sh_104 rf_104_42 hm (fun h15 hm => ?_)
  refine v_ald_0 dm_keepsMany_60 ?_
  refine v_ald_0 dm_keepsMany_61 ?_
  refine v_ald_0 dm_keepsMany_62 ?_
  refine v_getI dm_keepsMany_63 fum_457 sh_104 rf_104_45 ?_
  obtain ⟨r16, h17, he, hm⟩ := bd2_s hm
  refine v_cv1i (M' := tm_keeps) dm_keepsMany_66 mlm_523 okm_keeps sh_104 hc_12 (Nat.le_of_ble_eq_true rfl) (ctm_keeps G d _ _ _ he) ?_
  refine v_putIl dm_keepsMany_69 fum_457 ft_12_45 sh_104 rf_104_45 hm (fun h18 hm => ?_)
  refine v_ald_0 dm_keepsMany_72 ?_
  refine v_ald_0 dm_keepsMany_73 ?_
  refine v_ald_0 dm_keepsMany_74 ?_
  refine v_getI dm_keepsMany_75 fum_469 sh_104 rf_104_49 ?_
  obtain ⟨r19, h20, he, hm⟩ := bd2_s hm
  refine v_cv1i (M' := tm_keeps) dm_keepsMany_78 mlm_523 okm_keeps sh_104 hc_12 (Nat.le_of_ble_eq_true rfl) (ctm_keeps G d _ _ _ he) ?_
  refine v_putIl dm_keepsMany_81 fum_469 ft_12_49 sh_104 rf_104_49 hm (fun h21 hm => ?_)
  refine v_ald_0 dm_keepsMany_84 ?_
  refine v_ald_0 dm_keepsMany_85 ?_
  refine v_ald_0 dm_keepsMany_86 ?_
  refine v_getI dm_keepsMany_87 fum_478 sh_104 rf_104_51 ?_
  obtain ⟨r22, h23, he, hm⟩ := bd2_s hm
  refine v_cv1i (M' := tm_keeps) dm_keepsMany_90 mlm_523 okm_keeps sh_104 hc_12 (Nat.le_of_ble_eq_true rfl) (ctm_keeps G d _ _ _ he) ?_
  refine v_putIl dm_keepsMany_93 fum_478 ft_12_51 sh_104 rf_104_51 hm (fun h24 hm => ?_)
  refine v_ald_0 dm_keepsMany_96 ?_
  refine v_ald_0 dm_keepsMany_97 ?_
  refine v_ald_0 dm_keepsMany_98 ?_
  refine v_getI dm_keepsMany_99 fum_481 sh_104 rf_104_54 ?_
  obtain ⟨r25, h26, he, hm⟩ := bd2_s hm
  refine v_cv1i (M' := tm_keeps) dm_keepsMany_102 mlm_523 okm_keeps sh_104 hc_12 (Nat.le_of_ble_eq_true rfl) (ctm_keeps G d _ _ _ he) ?_
  refine v_putIl dm_keepsMany_105 fum_481 ft_12_54 sh_104 rf_104_54 hm (fun h27 hm => ?_)
  refine v_ald_0 dm_keepsMany_108 ?_
  refine v_ald_0 dm_keepsMany_109 ?_
  refine v_ald_0 dm_keepsMany_110 ?_
  refine v_getI dm_keepsMany_111 fum_484 sh_104 rf_104_57 ?_
  obtain ⟨r28, h29, he, hm⟩ := bd2_s hm
  refine v_cv1i (M' := tm_keeps) dm_keepsMany_114 mlm_523 okm_keeps sh_104 hc_12 (Nat.le_of_ble_eq_true rfl) (ctm_keeps G d _ _ _ he) ?_
  refine v_putIl dm_keepsMany_117 fum_484 ft_12_57 sh_104 rf_104_57 hm (fun h30 hm => ?_)
  refine v_ald_0 dm_keepsMany_120 ?_
  refine v_ald_0 dm_keepsMany_121 ?_
  refine v_ald_0 dm_keepsMany_122 ?_
  refine v_getI dm_keepsMany_123 fum_496 sh_104 rf_104_62 ?_
  obtain ⟨r31, h32, he, hm⟩ := bd2_s hm
  refine v_cv1i (M' := tm_keeps) dm_keepsMany_126 mlm_523 okm_keeps sh_104 hc_12 (Nat.le_of_ble_eq_true rfl) (ctm_keeps G d _ _ _ he) ?_
  refine v_putIl dm_keepsMany_129 fum_496 ft_12_62 sh_104 rf_104_62 hm (fun h33 hm => ?_)
  refine v_ald_0 dm_keepsMany_132 ?_
  refine v_ald_0 dm_keepsMany_133 ?_
  refine v_ald_0 dm_keepsMany_134 ?_
  refine v_getI dm_keepsMany_135 fum_499 sh_104 rf_104_66 ?_
  obtain ⟨r34, h35, he, hm⟩ := bd2_s hm
  refine v_cv1i (M' := tm_keeps) dm_keepsMany_138 mlm_523 okm_keeps sh_104 hc_12 (Nat.le_of_ble_eq_true rfl) (ctm_keeps G d _ _ _ he) ?_
  refine v_putIl dm_keepsMany_141 fum_499 ft_12_66 sh_104 rf_104_66 hm (fun h36 hm => ?_)
  cases hm
  exact v_ret dm_keepsMany_144 rfl
def mm_keepsTold_L2 (k0 : PH → Option (PH)) : Nat → Int32 → PH → Option (PH)
  | 0, _, _ => none
  | n + 1, v1, hv =>
    if 12 ≤ v1 then
      k0 hv
    else
      ck v1 12 <|
      bd2 (mm_keeps (hv 108 (ix v1)) hv) fun r1 h2 =>
      ck v1 12 <|
      lt (up h2 108 (ix v1) r1) fun h3 =>
      ck v1 12 <|
      bd2 (mm_keeps (h3 109 (ix v1)) h3) fun r4 h5 =>
      ck v1 12 <|
      lt (up h5 109 (ix v1) r4) fun h6 =>
      ck v1 24 <|
      bd2 (mm_keeps (h6 123 (ix v1)) h6) fun r7 h8 =>
      ck v1 24 <|
      lt (up h8 123 (ix v1) r7) fun h9 =>
      ck v1 12 <|
      bd2 (mm_keeps (h9 141 (ix v1)) h9) fun r10 h11 =>
      ck v1 12 <|
      lt (up h11 141 (ix v1) r10) fun h12 =>
      mm_keepsTold_L2 k0 n (v1 + 1) h12
def mm_keepsTold_L80 (k0 : PH → Option (PH)) : Nat → Int32 → PH → Option (PH)
  | 0, _, _ => none
  | n + 1, v1, hv =>
    if 9 ≤ v1 then
      k0 hv
    else
      ck v1 9 <|
      bd2 (mm_keeps (hv 127 (ix v1)) hv) fun r14 h15 =>
      ck v1 9 <|
      lt (up h15 127 (ix v1) r14) fun h16 =>
      mm_keepsTold_L80 k0 n (v1 + 1) h16
def mm_keepsTold_L110 (k0 : PH → Option (PH)) : Nat → Int32 → PH → Option (PH)
  | 0, _, _ => none
  | n + 1, v1, hv =>
    if 8 ≤ v1 then
      k0 hv
    else
      ck v1 8 <|
      bd2 (mm_keeps (hv 129 (ix v1)) hv) fun r18 h19 =>
      ck v1 8 <|
      lt (up h19 129 (ix v1) r18) fun h20 =>
      ck v1 8 <|
      bd2 (mm_keeps (h20 133 (ix v1)) h20) fun r21 h22 =>
      ck v1 8 <|
      lt (up h22 133 (ix v1) r21) fun h23 =>
      ck v1 8 <|
      bd2 (mm_keeps (h23 134 (ix v1)) h23) fun r24 h25 =>
      ck v1 8 <|
      lt (up h25 134 (ix v1) r24) fun h26 =>
      ck v1 8 <|
      bd2 (mm_keeps (h26 144 (ix v1)) h26) fun r27 h28 =>
      ck v1 8 <|
      lt (up h28 144 (ix v1) r27) fun h29 =>
      ck v1 8 <|
      bd2 (mm_keeps (h29 145 (ix v1)) h29) fun r30 h31 =>
      ck v1 8 <|
      lt (up h31 145 (ix v1) r30) fun h32 =>
      mm_keepsTold_L110 k0 n (v1 + 1) h32
def mm_keepsTold_L204 (k0 : PH → Option (PH)) : Nat → Int32 → PH → Option (PH)
  | 0, _, _ => none
  | n + 1, v1, hv =>
    if 5 ≤ v1 then
      k0 hv
    else
      ck v1 5 <|
      bd2 (mm_keeps (hv 132 (ix v1)) hv) fun r34 h35 =>
      ck v1 5 <|
      lt (up h35 132 (ix v1) r34) fun h36 =>
      mm_keepsTold_L204 k0 n (v1 + 1) h36
def mm_keepsTold_L233 (k0 : PH → Option (PH)) : Nat → Int32 → PH → Option (PH)
  | 0, _, _ => none
  | n + 1, v1, hv =>
    if 16 ≤ v1 then
      k0 hv
    else
      ck v1 16 <|
      bd2 (mm_keeps (hv 135 (ix v1)) hv) fun r38 h39 =>
      ck v1 16 <|
      lt (up h39 135 (ix v1) r38) fun h40 =>
      mm_keepsTold_L233 k0 n (v1 + 1) h40
def mm_keepsTold_L263 (k0 : PH → Option (PH)) : Nat → Int32 → PH → Option (PH)
  | 0, _, _ => none
  | n + 1, v1, hv =>
    if 6 ≤ v1 then
      k0 hv
    else
      ck v1 6 <|
      bd2 (mm_keeps (hv 137 (ix v1)) hv) fun r42 h43 =>
      ck v1 6 <|
      lt (up h43 137 (ix v1) r42) fun h44 =>
      ck v1 6 <|
      bd2 (mm_keeps (h44 138 (ix v1)) h44) fun r45 h46 =>
      ck v1 6 <|
      lt (up h46 138 (ix v1) r45) fun h47 =>
      mm_keepsTold_L263 k0 n (v1 + 1) h47
def mm_keepsTold_L309 (k0 : PH → Option (PH)) : Nat → Int32 → PH → Option (PH)
  | 0, _, _ => none
  | n + 1, v1, hv =>
    if 48 ≤ v1 then
      k0 hv
    else
      ck v1 96 <|
      bd2 (mm_keeps (hv 121 (ix v1)) hv) fun r49 h50 =>
      ck v1 96 <|
      lt (up h50 121 (ix v1) r49) fun h51 =>
      mm_keepsTold_L309 k0 n (v1 + 1) h51
def mm_keepsTold_L339 : Nat → Int32 → PH → Option (PH)
  | 0, _, _ => none
  | n + 1, v1, hv =>
    if 80 ≤ v1 then
      some hv
    else
      ck v1 160 <|
      bd2 (mm_keeps (hv 122 (ix v1)) hv) fun r53 h54 =>
      ck v1 160 <|
      lt (up h54 122 (ix v1) r53) fun h55 =>
      mm_keepsTold_L339 n (v1 + 1) h55
def mm_keepsTold (h0 : PH) : Option (PH) :=
  mm_keepsTold_L2 (fun (h13 : PH) =>
    mm_keepsTold_L80 (fun (h17 : PH) =>
      mm_keepsTold_L110 (fun (h33 : PH) =>
        mm_keepsTold_L204 (fun (h37 : PH) =>
          mm_keepsTold_L233 (fun (h41 : PH) =>
            mm_keepsTold_L263 (fun (h48 : PH) =>
              mm_keepsTold_L309 (fun (h52 : PH) =>
                mm_keepsTold_L339 FU 0 h52) FU 0 h48) FU 0 h41) FU 0 h37) FU 0 h33) FU 0 h17) FU 0 h13) FU 0 h0
theorem wm_keepsTold_L2 (G : GG) (d : Nat) (k0 : PH → Option (PH)) (r : PH) (kk0 : ∀ (hy : PH), k0 hy = some r → Vx G tm_keepsTold (d + 1) 78 [some (.ref (gB G + 104)), none] [] hy none r) : ∀ (n : Nat) (v1 : Int32) (hv : PH), mm_keepsTold_L2 k0 n v1 hv = some r → Vx G tm_keepsTold (d + 1) 2 [some (.ref (gB G + 104)), some (.int v1)] [] hv none r := by
  intro n
  induction n with
  | zero => intro v1 hv hm; cases hm
  | succ n ih =>
    intro v1 hv hm
    unfold mm_keepsTold_L2 at hm
    refine v_ild_1 dm_keepsTold_2 ?_
    refine v_bipush (x := 12) dm_keepsTold_3 rfl ?_
    refine v_cmp_ge dm_keepsTold_5 (fun hc => ?_) (fun hc => ?_)
    · replace hm := it hc hm
      exact v_kw (kk0 _ hm) (wk_s (wk_n wk_e))
    · replace hm := ie hc hm
      refine v_ald_0 dm_keepsTold_8 ?_
      refine v_getR dm_keepsTold_9 fum_19 sh_104 rf_104_7 ?_
      refine v_ild_1 dm_keepsTold_12 ?_
      refine v_ald_0 dm_keepsTold_13 ?_
      refine v_ald_0 dm_keepsTold_14 ?_
      refine v_getR dm_keepsTold_15 fum_19 sh_104 rf_104_7 ?_
      refine v_ild_1 dm_keepsTold_18 ?_
      obtain ⟨hi, hm⟩ := ck_s hm
      refine v_iald dm_keepsTold_19 sh_108 hi ?_
      obtain ⟨r1, h2, he, hm⟩ := bd2_s hm
      refine v_cv1i (M' := tm_keeps) dm_keepsTold_20 mlm_523 okm_keeps sh_104 hc_12 (Nat.le_of_ble_eq_true rfl) (ctm_keeps G d _ _ _ he) ?_
      obtain ⟨hi, hm⟩ := ck_s hm
      refine v_iastl dm_keepsTold_23 sh_108 hi hm (fun h3 hm => ?_)
      refine v_ald_0 dm_keepsTold_24 ?_
      refine v_getR dm_keepsTold_25 fum_22 sh_104 rf_104_8 ?_
      refine v_ild_1 dm_keepsTold_28 ?_
      refine v_ald_0 dm_keepsTold_29 ?_
      refine v_ald_0 dm_keepsTold_30 ?_
      refine v_getR dm_keepsTold_31 fum_22 sh_104 rf_104_8 ?_
      refine v_ild_1 dm_keepsTold_34 ?_
      obtain ⟨hi, hm⟩ := ck_s hm
      refine v_iald dm_keepsTold_35 sh_109 hi ?_
      obtain ⟨r4, h5, he, hm⟩ := bd2_s hm
      refine v_cv1i (M' := tm_keeps) dm_keepsTold_36 mlm_523 okm_keeps sh_104 hc_12 (Nat.le_of_ble_eq_true rfl) (ctm_keeps G d _ _ _ he) ?_
      obtain ⟨hi, hm⟩ := ck_s hm
      refine v_iastl dm_keepsTold_39 sh_109 hi hm (fun h6 hm => ?_)
      refine v_ald_0 dm_keepsTold_40 ?_
      refine v_getR dm_keepsTold_41 fum_68 sh_104 rf_104_38 ?_
      refine v_ild_1 dm_keepsTold_44 ?_
      refine v_ald_0 dm_keepsTold_45 ?_
      refine v_ald_0 dm_keepsTold_46 ?_
      refine v_getR dm_keepsTold_47 fum_68 sh_104 rf_104_38 ?_
      refine v_ild_1 dm_keepsTold_50 ?_
      obtain ⟨hi, hm⟩ := ck_s hm
      refine v_iald dm_keepsTold_51 sh_123 hi ?_
      obtain ⟨r7, h8, he, hm⟩ := bd2_s hm
      refine v_cv1i (M' := tm_keeps) dm_keepsTold_52 mlm_523 okm_keeps sh_104 hc_12 (Nat.le_of_ble_eq_true rfl) (ctm_keeps G d _ _ _ he) ?_
      obtain ⟨hi, hm⟩ := ck_s hm
      refine v_iastl dm_keepsTold_55 sh_123 hi hm (fun h9 hm => ?_)
      refine v_ald_0 dm_keepsTold_56 ?_
      refine v_getR dm_keepsTold_57 fum_122 sh_104 rf_104_63 ?_
      refine v_ild_1 dm_keepsTold_60 ?_
      refine v_ald_0 dm_keepsTold_61 ?_
      refine v_ald_0 dm_keepsTold_62 ?_
      refine v_getR dm_keepsTold_63 fum_122 sh_104 rf_104_63 ?_
      refine v_ild_1 dm_keepsTold_66 ?_
      obtain ⟨hi, hm⟩ := ck_s hm
      refine v_iald dm_keepsTold_67 sh_141 hi ?_
      obtain ⟨r10, h11, he, hm⟩ := bd2_s hm
      refine v_cv1i (M' := tm_keeps) dm_keepsTold_68 mlm_523 okm_keeps sh_104 hc_12 (Nat.le_of_ble_eq_true rfl) (ctm_keeps G d _ _ _ he) ?_
      obtain ⟨hi, hm⟩ := ck_s hm
      refine v_iastl dm_keepsTold_71 sh_141 hi hm (fun h12 hm => ?_)
      refine v_inc_1 1 dm_keepsTold_72 rfl (by decide) rfl ?_
      refine v_goto dm_keepsTold_75 ?_
      exact v_kw (ih _ _ hm) (wk_s (wk_s wk_e))
theorem wm_keepsTold_L80 (G : GG) (d : Nat) (k0 : PH → Option (PH)) (r : PH) (kk0 : ∀ (hy : PH), k0 hy = some r → Vx G tm_keepsTold (d + 1) 108 [some (.ref (gB G + 104)), none] [] hy none r) : ∀ (n : Nat) (v1 : Int32) (hv : PH), mm_keepsTold_L80 k0 n v1 hv = some r → Vx G tm_keepsTold (d + 1) 80 [some (.ref (gB G + 104)), some (.int v1)] [] hv none r := by
  intro n
  induction n with
  | zero => intro v1 hv hm; cases hm
  | succ n ih =>
    intro v1 hv hm
    unfold mm_keepsTold_L80 at hm
    refine v_ild_1 dm_keepsTold_80 ?_
    refine v_bipush (x := 9) dm_keepsTold_81 rfl ?_
    refine v_cmp_ge dm_keepsTold_83 (fun hc => ?_) (fun hc => ?_)
    · replace hm := it hc hm
      exact v_kw (kk0 _ hm) (wk_s (wk_n wk_e))
    · replace hm := ie hc hm
      refine v_ald_0 dm_keepsTold_86 ?_
      refine v_getR dm_keepsTold_87 fum_80 sh_104 rf_104_43 ?_
      refine v_ild_1 dm_keepsTold_90 ?_
      refine v_ald_0 dm_keepsTold_91 ?_
      refine v_ald_0 dm_keepsTold_92 ?_
      refine v_getR dm_keepsTold_93 fum_80 sh_104 rf_104_43 ?_
      refine v_ild_1 dm_keepsTold_96 ?_
      obtain ⟨hi, hm⟩ := ck_s hm
      refine v_iald dm_keepsTold_97 sh_127 hi ?_
      obtain ⟨r14, h15, he, hm⟩ := bd2_s hm
      refine v_cv1i (M' := tm_keeps) dm_keepsTold_98 mlm_523 okm_keeps sh_104 hc_12 (Nat.le_of_ble_eq_true rfl) (ctm_keeps G d _ _ _ he) ?_
      obtain ⟨hi, hm⟩ := ck_s hm
      refine v_iastl dm_keepsTold_101 sh_127 hi hm (fun h16 hm => ?_)
      refine v_inc_1 1 dm_keepsTold_102 rfl (by decide) rfl ?_
      refine v_goto dm_keepsTold_105 ?_
      exact v_kw (ih _ _ hm) (wk_s (wk_s wk_e))
theorem wm_keepsTold_L110 (G : GG) (d : Nat) (k0 : PH → Option (PH)) (r : PH) (kk0 : ∀ (hy : PH), k0 hy = some r → Vx G tm_keepsTold (d + 1) 202 [some (.ref (gB G + 104)), none] [] hy none r) : ∀ (n : Nat) (v1 : Int32) (hv : PH), mm_keepsTold_L110 k0 n v1 hv = some r → Vx G tm_keepsTold (d + 1) 110 [some (.ref (gB G + 104)), some (.int v1)] [] hv none r := by
  intro n
  induction n with
  | zero => intro v1 hv hm; cases hm
  | succ n ih =>
    intro v1 hv hm
    unfold mm_keepsTold_L110 at hm
    refine v_ild_1 dm_keepsTold_110 ?_
    refine v_bipush (x := 8) dm_keepsTold_111 rfl ?_
    refine v_cmp_ge dm_keepsTold_113 (fun hc => ?_) (fun hc => ?_)
    · replace hm := it hc hm
      exact v_kw (kk0 _ hm) (wk_s (wk_n wk_e))
    · replace hm := ie hc hm
      refine v_ald_0 dm_keepsTold_116 ?_
      refine v_getR dm_keepsTold_117 fum_86 sh_104 rf_104_46 ?_
      refine v_ild_1 dm_keepsTold_120 ?_
      refine v_ald_0 dm_keepsTold_121 ?_
      refine v_ald_0 dm_keepsTold_122 ?_
      refine v_getR dm_keepsTold_123 fum_86 sh_104 rf_104_46 ?_
      refine v_ild_1 dm_keepsTold_126 ?_
      obtain ⟨hi, hm⟩ := ck_s hm
      refine v_iald dm_keepsTold_127 sh_129 hi ?_
      obtain ⟨r18, h19, he, hm⟩ := bd2_s hm
      refine v_cv1i (M' := tm_keeps) dm_keepsTold_128 mlm_523 okm_keeps sh_104 hc_12 (Nat.le_of_ble_eq_true rfl) (ctm_keeps G d _ _ _ he) ?_
      obtain ⟨hi, hm⟩ := ck_s hm
      refine v_iastl dm_keepsTold_131 sh_129 hi hm (fun h20 hm => ?_)
      refine v_ald_0 dm_keepsTold_132 ?_
      refine v_getR dm_keepsTold_133 fum_98 sh_104 rf_104_52 ?_
      refine v_ild_1 dm_keepsTold_136 ?_
      refine v_ald_0 dm_keepsTold_137 ?_
      refine v_ald_0 dm_keepsTold_138 ?_
      refine v_getR dm_keepsTold_139 fum_98 sh_104 rf_104_52 ?_
      refine v_ild_1 dm_keepsTold_142 ?_
      obtain ⟨hi, hm⟩ := ck_s hm
      refine v_iald dm_keepsTold_143 sh_133 hi ?_
      obtain ⟨r21, h22, he, hm⟩ := bd2_s hm
      refine v_cv1i (M' := tm_keeps) dm_keepsTold_144 mlm_523 okm_keeps sh_104 hc_12 (Nat.le_of_ble_eq_true rfl) (ctm_keeps G d _ _ _ he) ?_
      obtain ⟨hi, hm⟩ := ck_s hm
      refine v_iastl dm_keepsTold_147 sh_133 hi hm (fun h23 hm => ?_)
      refine v_ald_0 dm_keepsTold_148 ?_
      refine v_getR dm_keepsTold_149 fum_101 sh_104 rf_104_53 ?_
      refine v_ild_1 dm_keepsTold_152 ?_
      refine v_ald_0 dm_keepsTold_153 ?_
      refine v_ald_0 dm_keepsTold_154 ?_
      refine v_getR dm_keepsTold_155 fum_101 sh_104 rf_104_53 ?_
      refine v_ild_1 dm_keepsTold_158 ?_
      obtain ⟨hi, hm⟩ := ck_s hm
      refine v_iald dm_keepsTold_159 sh_134 hi ?_
      obtain ⟨r24, h25, he, hm⟩ := bd2_s hm
      refine v_cv1i (M' := tm_keeps) dm_keepsTold_160 mlm_523 okm_keeps sh_104 hc_12 (Nat.le_of_ble_eq_true rfl) (ctm_keeps G d _ _ _ he) ?_
      obtain ⟨hi, hm⟩ := ck_s hm
      refine v_iastl dm_keepsTold_163 sh_134 hi hm (fun h26 hm => ?_)
      refine v_ald_0 dm_keepsTold_164 ?_
      refine v_getR dm_keepsTold_165 fum_131 sh_104 rf_104_67 ?_
      refine v_ild_1 dm_keepsTold_168 ?_
      refine v_ald_0 dm_keepsTold_169 ?_
      refine v_ald_0 dm_keepsTold_170 ?_
      refine v_getR dm_keepsTold_171 fum_131 sh_104 rf_104_67 ?_
      refine v_ild_1 dm_keepsTold_174 ?_
      obtain ⟨hi, hm⟩ := ck_s hm
      refine v_iald dm_keepsTold_175 sh_144 hi ?_
      obtain ⟨r27, h28, he, hm⟩ := bd2_s hm
      refine v_cv1i (M' := tm_keeps) dm_keepsTold_176 mlm_523 okm_keeps sh_104 hc_12 (Nat.le_of_ble_eq_true rfl) (ctm_keeps G d _ _ _ he) ?_
      obtain ⟨hi, hm⟩ := ck_s hm
      refine v_iastl dm_keepsTold_179 sh_144 hi hm (fun h29 hm => ?_)
      refine v_ald_0 dm_keepsTold_180 ?_
      refine v_getR dm_keepsTold_181 fum_134 sh_104 rf_104_68 ?_
      refine v_ild_1 dm_keepsTold_184 ?_
      refine v_ald_0 dm_keepsTold_185 ?_
      refine v_ald_0 dm_keepsTold_186 ?_
      refine v_getR dm_keepsTold_187 fum_134 sh_104 rf_104_68 ?_
      refine v_ild_1 dm_keepsTold_190 ?_
      obtain ⟨hi, hm⟩ := ck_s hm
      refine v_iald dm_keepsTold_191 sh_145 hi ?_
      obtain ⟨r30, h31, he, hm⟩ := bd2_s hm
      refine v_cv1i (M' := tm_keeps) dm_keepsTold_192 mlm_523 okm_keeps sh_104 hc_12 (Nat.le_of_ble_eq_true rfl) (ctm_keeps G d _ _ _ he) ?_
      obtain ⟨hi, hm⟩ := ck_s hm
      refine v_iastl dm_keepsTold_195 sh_145 hi hm (fun h32 hm => ?_)
      refine v_inc_1 1 dm_keepsTold_196 rfl (by decide) rfl ?_
      refine v_goto dm_keepsTold_199 ?_
      exact v_kw (ih _ _ hm) (wk_s (wk_s wk_e))
theorem wm_keepsTold_L204 (G : GG) (d : Nat) (k0 : PH → Option (PH)) (r : PH) (kk0 : ∀ (hy : PH), k0 hy = some r → Vx G tm_keepsTold (d + 1) 231 [some (.ref (gB G + 104)), none] [] hy none r) : ∀ (n : Nat) (v1 : Int32) (hv : PH), mm_keepsTold_L204 k0 n v1 hv = some r → Vx G tm_keepsTold (d + 1) 204 [some (.ref (gB G + 104)), some (.int v1)] [] hv none r := by
  intro n
  induction n with
  | zero => intro v1 hv hm; cases hm
  | succ n ih =>
    intro v1 hv hm
    unfold mm_keepsTold_L204 at hm
    refine v_ild_1 dm_keepsTold_204 ?_
    refine v_iconst (x := 5) dm_keepsTold_205 rfl ?_
    refine v_cmp_ge dm_keepsTold_206 (fun hc => ?_) (fun hc => ?_)
    · replace hm := it hc hm
      exact v_kw (kk0 _ hm) (wk_s (wk_n wk_e))
    · replace hm := ie hc hm
      refine v_ald_0 dm_keepsTold_209 ?_
      refine v_getR dm_keepsTold_210 fum_95 sh_104 rf_104_50 ?_
      refine v_ild_1 dm_keepsTold_213 ?_
      refine v_ald_0 dm_keepsTold_214 ?_
      refine v_ald_0 dm_keepsTold_215 ?_
      refine v_getR dm_keepsTold_216 fum_95 sh_104 rf_104_50 ?_
      refine v_ild_1 dm_keepsTold_219 ?_
      obtain ⟨hi, hm⟩ := ck_s hm
      refine v_iald dm_keepsTold_220 sh_132 hi ?_
      obtain ⟨r34, h35, he, hm⟩ := bd2_s hm
      refine v_cv1i (M' := tm_keeps) dm_keepsTold_221 mlm_523 okm_keeps sh_104 hc_12 (Nat.le_of_ble_eq_true rfl) (ctm_keeps G d _ _ _ he) ?_
      obtain ⟨hi, hm⟩ := ck_s hm
      refine v_iastl dm_keepsTold_224 sh_132 hi hm (fun h36 hm => ?_)
      refine v_inc_1 1 dm_keepsTold_225 rfl (by decide) rfl ?_
      refine v_goto dm_keepsTold_228 ?_
      exact v_kw (ih _ _ hm) (wk_s (wk_s wk_e))
theorem wm_keepsTold_L233 (G : GG) (d : Nat) (k0 : PH → Option (PH)) (r : PH) (kk0 : ∀ (hy : PH), k0 hy = some r → Vx G tm_keepsTold (d + 1) 261 [some (.ref (gB G + 104)), none] [] hy none r) : ∀ (n : Nat) (v1 : Int32) (hv : PH), mm_keepsTold_L233 k0 n v1 hv = some r → Vx G tm_keepsTold (d + 1) 233 [some (.ref (gB G + 104)), some (.int v1)] [] hv none r := by
  intro n
  induction n with
  | zero => intro v1 hv hm; cases hm
  | succ n ih =>
    intro v1 hv hm
    unfold mm_keepsTold_L233 at hm
    refine v_ild_1 dm_keepsTold_233 ?_
    refine v_bipush (x := 16) dm_keepsTold_234 rfl ?_
    refine v_cmp_ge dm_keepsTold_236 (fun hc => ?_) (fun hc => ?_)
    · replace hm := it hc hm
      exact v_kw (kk0 _ hm) (wk_s (wk_n wk_e))
    · replace hm := ie hc hm
      refine v_ald_0 dm_keepsTold_239 ?_
      refine v_getR dm_keepsTold_240 fum_104 sh_104 rf_104_55 ?_
      refine v_ild_1 dm_keepsTold_243 ?_
      refine v_ald_0 dm_keepsTold_244 ?_
      refine v_ald_0 dm_keepsTold_245 ?_
      refine v_getR dm_keepsTold_246 fum_104 sh_104 rf_104_55 ?_
      refine v_ild_1 dm_keepsTold_249 ?_
      obtain ⟨hi, hm⟩ := ck_s hm
      refine v_iald dm_keepsTold_250 sh_135 hi ?_
      obtain ⟨r38, h39, he, hm⟩ := bd2_s hm
      refine v_cv1i (M' := tm_keeps) dm_keepsTold_251 mlm_523 okm_keeps sh_104 hc_12 (Nat.le_of_ble_eq_true rfl) (ctm_keeps G d _ _ _ he) ?_
      obtain ⟨hi, hm⟩ := ck_s hm
      refine v_iastl dm_keepsTold_254 sh_135 hi hm (fun h40 hm => ?_)
      refine v_inc_1 1 dm_keepsTold_255 rfl (by decide) rfl ?_
      refine v_goto dm_keepsTold_258 ?_
      exact v_kw (ih _ _ hm) (wk_s (wk_s wk_e))
theorem wm_keepsTold_L263 (G : GG) (d : Nat) (k0 : PH → Option (PH)) (r : PH) (kk0 : ∀ (hy : PH), k0 hy = some r → Vx G tm_keepsTold (d + 1) 307 [some (.ref (gB G + 104)), none] [] hy none r) : ∀ (n : Nat) (v1 : Int32) (hv : PH), mm_keepsTold_L263 k0 n v1 hv = some r → Vx G tm_keepsTold (d + 1) 263 [some (.ref (gB G + 104)), some (.int v1)] [] hv none r := by
  intro n
  induction n with
  | zero => intro v1 hv hm; cases hm
  | succ n ih =>
    intro v1 hv hm
    unfold mm_keepsTold_L263 at hm
    refine v_ild_1 dm_keepsTold_263 ?_
    refine v_bipush (x := 6) dm_keepsTold_264 rfl ?_
    refine v_cmp_ge dm_keepsTold_266 (fun hc => ?_) (fun hc => ?_)
    · replace hm := it hc hm
      exact v_kw (kk0 _ hm) (wk_s (wk_n wk_e))
    · replace hm := ie hc hm
      refine v_ald_0 dm_keepsTold_269 ?_
      refine v_getR dm_keepsTold_270 fum_110 sh_104 rf_104_58 ?_
      refine v_ild_1 dm_keepsTold_273 ?_
      refine v_ald_0 dm_keepsTold_274 ?_
      refine v_ald_0 dm_keepsTold_275 ?_
      refine v_getR dm_keepsTold_276 fum_110 sh_104 rf_104_58 ?_
      refine v_ild_1 dm_keepsTold_279 ?_
      obtain ⟨hi, hm⟩ := ck_s hm
      refine v_iald dm_keepsTold_280 sh_137 hi ?_
      obtain ⟨r42, h43, he, hm⟩ := bd2_s hm
      refine v_cv1i (M' := tm_keeps) dm_keepsTold_281 mlm_523 okm_keeps sh_104 hc_12 (Nat.le_of_ble_eq_true rfl) (ctm_keeps G d _ _ _ he) ?_
      obtain ⟨hi, hm⟩ := ck_s hm
      refine v_iastl dm_keepsTold_284 sh_137 hi hm (fun h44 hm => ?_)
      refine v_ald_0 dm_keepsTold_285 ?_
      refine v_getR dm_keepsTold_286 fum_113 sh_104 rf_104_59 ?_
      refine v_ild_1 dm_keepsTold_289 ?_
      refine v_ald_0 dm_keepsTold_290 ?_
      refine v_ald_0 dm_keepsTold_291 ?_
      refine v_getR dm_keepsTold_292 fum_113 sh_104 rf_104_59 ?_
      refine v_ild_1 dm_keepsTold_295 ?_
      obtain ⟨hi, hm⟩ := ck_s hm
      refine v_iald dm_keepsTold_296 sh_138 hi ?_
      obtain ⟨r45, h46, he, hm⟩ := bd2_s hm
      refine v_cv1i (M' := tm_keeps) dm_keepsTold_297 mlm_523 okm_keeps sh_104 hc_12 (Nat.le_of_ble_eq_true rfl) (ctm_keeps G d _ _ _ he) ?_
      obtain ⟨hi, hm⟩ := ck_s hm
      refine v_iastl dm_keepsTold_300 sh_138 hi hm (fun h47 hm => ?_)
      refine v_inc_1 1 dm_keepsTold_301 rfl (by decide) rfl ?_
      refine v_goto dm_keepsTold_304 ?_
      exact v_kw (ih _ _ hm) (wk_s (wk_s wk_e))
theorem wm_keepsTold_L309 (G : GG) (d : Nat) (k0 : PH → Option (PH)) (r : PH) (kk0 : ∀ (hy : PH), k0 hy = some r → Vx G tm_keepsTold (d + 1) 337 [some (.ref (gB G + 104)), none] [] hy none r) : ∀ (n : Nat) (v1 : Int32) (hv : PH), mm_keepsTold_L309 k0 n v1 hv = some r → Vx G tm_keepsTold (d + 1) 309 [some (.ref (gB G + 104)), some (.int v1)] [] hv none r := by
  intro n
  induction n with
  | zero => intro v1 hv hm; cases hm
  | succ n ih =>
    intro v1 hv hm
    unfold mm_keepsTold_L309 at hm
    refine v_ild_1 dm_keepsTold_309 ?_
    refine v_bipush (x := 48) dm_keepsTold_310 rfl ?_
    refine v_cmp_ge dm_keepsTold_312 (fun hc => ?_) (fun hc => ?_)
    · replace hm := it hc hm
      exact v_kw (kk0 _ hm) (wk_s (wk_n wk_e))
    · replace hm := ie hc hm
      refine v_ald_0 dm_keepsTold_315 ?_
      refine v_getR dm_keepsTold_316 fum_62 sh_104 rf_104_34 ?_
      refine v_ild_1 dm_keepsTold_319 ?_
      refine v_ald_0 dm_keepsTold_320 ?_
      refine v_ald_0 dm_keepsTold_321 ?_
      refine v_getR dm_keepsTold_322 fum_62 sh_104 rf_104_34 ?_
      refine v_ild_1 dm_keepsTold_325 ?_
      obtain ⟨hi, hm⟩ := ck_s hm
      refine v_iald dm_keepsTold_326 sh_121 hi ?_
      obtain ⟨r49, h50, he, hm⟩ := bd2_s hm
      refine v_cv1i (M' := tm_keeps) dm_keepsTold_327 mlm_523 okm_keeps sh_104 hc_12 (Nat.le_of_ble_eq_true rfl) (ctm_keeps G d _ _ _ he) ?_
      obtain ⟨hi, hm⟩ := ck_s hm
      refine v_iastl dm_keepsTold_330 sh_121 hi hm (fun h51 hm => ?_)
      refine v_inc_1 1 dm_keepsTold_331 rfl (by decide) rfl ?_
      refine v_goto dm_keepsTold_334 ?_
      exact v_kw (ih _ _ hm) (wk_s (wk_s wk_e))
theorem wm_keepsTold_L339 (G : GG) (d : Nat)  (r : PH) : ∀ (n : Nat) (v1 : Int32) (hv : PH), mm_keepsTold_L339  n v1 hv = some r → Vx G tm_keepsTold (d + 1) 339 [some (.ref (gB G + 104)), some (.int v1)] [] hv none r := by
  intro n
  induction n with
  | zero => intro v1 hv hm; cases hm
  | succ n ih =>
    intro v1 hv hm
    unfold mm_keepsTold_L339 at hm
    refine v_ild_1 dm_keepsTold_339 ?_
    refine v_bipush (x := 80) dm_keepsTold_340 rfl ?_
    refine v_cmp_ge dm_keepsTold_342 (fun hc => ?_) (fun hc => ?_)
    · replace hm := it hc hm
      cases hm
      exact v_ret dm_keepsTold_367 rfl
    · replace hm := ie hc hm
      refine v_ald_0 dm_keepsTold_345 ?_
      refine v_getR dm_keepsTold_346 fum_65 sh_104 rf_104_36 ?_
      refine v_ild_1 dm_keepsTold_349 ?_
      refine v_ald_0 dm_keepsTold_350 ?_
      refine v_ald_0 dm_keepsTold_351 ?_
      refine v_getR dm_keepsTold_352 fum_65 sh_104 rf_104_36 ?_
      refine v_ild_1 dm_keepsTold_355 ?_
      obtain ⟨hi, hm⟩ := ck_s hm
      refine v_iald dm_keepsTold_356 sh_122 hi ?_
      obtain ⟨r53, h54, he, hm⟩ := bd2_s hm
      refine v_cv1i (M' := tm_keeps) dm_keepsTold_357 mlm_523 okm_keeps sh_104 hc_12 (Nat.le_of_ble_eq_true rfl) (ctm_keeps G d _ _ _ he) ?_
      obtain ⟨hi, hm⟩ := ck_s hm
      refine v_iastl dm_keepsTold_360 sh_122 hi hm (fun h55 hm => ?_)
      refine v_inc_1 1 dm_keepsTold_361 rfl (by decide) rfl ?_
      refine v_goto dm_keepsTold_364 ?_
      exact v_kw (ih _ _ hm) (wk_s (wk_s wk_e))
theorem ctm_keepsTold (G : GG) (d : Nat) (h0 : PH) (r : PH) (hm : mm_keepsTold h0 = some r) : Kx G tm_keepsTold (d + 1) [.ref (gB G + 104)] h0 none r := by
  refine K_of_V (by decide) (by simp [cat_i, cat_r, fmtV_cat]) (by simp [tm_keepsTold]) ?_
  change Vx G tm_keepsTold (d + 1) 0 [some (.ref (gB G + 104)), none] [] h0 none r
  unfold mm_keepsTold at hm
  refine v_iconst (x := 0) dm_keepsTold_0 rfl ?_
  refine v_ist_1 dm_keepsTold_1 (by decide) rfl ?_
  refine v_kw (wm_keepsTold_L2 G d _ _ (fun h13 hm => ?_) FU _ _ hm) (wk_s (wk_s wk_e))
  refine v_iconst (x := 0) dm_keepsTold_78 rfl ?_
  refine v_ist_1 dm_keepsTold_79 (by decide) rfl ?_
  refine v_kw (wm_keepsTold_L80 G d _ _ (fun h17 hm => ?_) FU _ _ hm) (wk_s (wk_s wk_e))
  refine v_iconst (x := 0) dm_keepsTold_108 rfl ?_
  refine v_ist_1 dm_keepsTold_109 (by decide) rfl ?_
  refine v_kw (wm_keepsTold_L110 G d _ _ (fun h33 hm => ?_) FU _ _ hm) (wk_s (wk_s wk_e))
  refine v_iconst (x := 0) dm_keepsTold_202 rfl ?_
  refine v_ist_1 dm_keepsTold_203 (by decide) rfl ?_
  refine v_kw (wm_keepsTold_L204 G d _ _ (fun h37 hm => ?_) FU _ _ hm) (wk_s (wk_s wk_e))
  refine v_iconst (x := 0) dm_keepsTold_231 rfl ?_
  refine v_ist_1 dm_keepsTold_232 (by decide) rfl ?_
  refine v_kw (wm_keepsTold_L233 G d _ _ (fun h41 hm => ?_) FU _ _ hm) (wk_s (wk_s wk_e))
  refine v_iconst (x := 0) dm_keepsTold_261 rfl ?_
  refine v_ist_1 dm_keepsTold_262 (by decide) rfl ?_
  refine v_kw (wm_keepsTold_L263 G d _ _ (fun h48 hm => ?_) FU _ _ hm) (wk_s (wk_s wk_e))
  refine v_iconst (x := 0) dm_keepsTold_307 rfl ?_
  refine v_ist_1 dm_keepsTold_308 (by decide) rfl ?_
  refine v_kw (wm_keepsTold_L309 G d _ _ (fun h52 hm => ?_) FU _ _ hm) (wk_s (wk_s wk_e))
  refine v_iconst (x := 0) dm_keepsTold_337 rfl ?_
  refine v_ist_1 dm_keepsTold_338 (by decide) rfl ?_
  exact v_kw (wm_keepsTold_L339 G d  _ FU _ _ hm) (wk_s (wk_s wk_e))
def mm_image_L35 (p1 : Int32) (k0 : PH → Option (Int32 × PH)) : Nat → Int32 → PH → Option (Int32 × PH)
  | 0, _, _ => none
  | n + 1, v2, hv =>
    if 115 ≤ v2 then
      k0 hv
    else
      ck v2 115 <|
      bd2 (mm_keeps (hv 105 (ix v2)) hv) fun r6 h7 =>
      ck v2 115 <|
      lt (up h7 105 (ix v2) r6) fun h8 =>
      mm_image_L35 p1 k0 n (v2 + 1) h8
def mm_image_L73 (p1 : Int32) (k0 : PH → Option (Int32 × PH)) : Nat → Int32 → PH → Option (Int32 × PH)
  | 0, _, _ => none
  | n + 1, v2, hv =>
    if 600 ≤ v2 then
      k0 hv
    else
      ck v2 600 <|
      bd2 (mm_keeps (hv 110 (ix v2)) hv) fun r12 h13 =>
      ck v2 600 <|
      lt (up h13 110 (ix v2) r12) fun h14 =>
      mm_image_L73 p1 k0 n (v2 + 1) h14
def mm_image (p1 : Int32) (h0 : PH) : Option (Int32 × PH) :=
  lt (up h0 104 0 0) fun h1 =>
  jn0 (kz p1 <|
    lt (up h1 104 71 p1) fun h3 =>
    lt (up h3 104 72 1) fun h4 =>
    lt (up h4 104 73 0) fun h5 =>
    mm_image_L35 p1 (fun (h9 : PH) =>
      bd (mm_keepsMany h9) fun h10 =>
      bd (mm_keepsTold h10) fun h11 =>
      mm_image_L73 p1 (fun (h15 : PH) =>
        bd (mm_keepsLaw h15) fun h16 =>
        if p1 = 0 then
          lt (up h16 104 3 0) fun h17 =>
          some (1, h17)
        else
          some (1, h16)) FU 0 h11) FU 0 h5) fun j2 =>
  if p1 = 0 then
    if (h1 104 72) = 0 then
      some (0, h1)
    else
      j2
  else
    j2
theorem wm_image_L35 (G : GG) (d : Nat) (p1 : Int32) (k0 : PH → Option (Int32 × PH)) (r : Int32 × PH) (kk0 : ∀ (hy : PH), k0 hy = some r → Vx G tm_image (d + 2) 63 [some (.ref (gB G + 104)), some (.int p1), none] [] hy (some (.int r.1)) r.2) : ∀ (n : Nat) (v2 : Int32) (hv : PH), mm_image_L35 p1 k0 n v2 hv = some r → Vx G tm_image (d + 2) 35 [some (.ref (gB G + 104)), some (.int p1), some (.int v2)] [] hv (some (.int r.1)) r.2 := by
  intro n
  induction n with
  | zero => intro v2 hv hm; cases hm
  | succ n ih =>
    intro v2 hv hm
    unfold mm_image_L35 at hm
    refine v_ild_2 dm_image_35 ?_
    refine v_bipush (x := 115) dm_image_36 rfl ?_
    refine v_cmp_ge dm_image_38 (fun hc => ?_) (fun hc => ?_)
    · replace hm := it hc hm
      exact v_kw (kk0 _ hm) (wk_s (wk_s (wk_n wk_e)))
    · replace hm := ie hc hm
      refine v_ald_0 dm_image_41 ?_
      refine v_getR dm_image_42 fum_7 sh_104 rf_104_1 ?_
      refine v_ild_2 dm_image_45 ?_
      refine v_ald_0 dm_image_46 ?_
      refine v_ald_0 dm_image_47 ?_
      refine v_getR dm_image_48 fum_7 sh_104 rf_104_1 ?_
      refine v_ild_2 dm_image_51 ?_
      obtain ⟨hi, hm⟩ := ck_s hm
      refine v_iald dm_image_52 sh_105 hi ?_
      obtain ⟨r6, h7, he, hm⟩ := bd2_s hm
      refine v_cv1i (M' := tm_keeps) dm_image_53 mlm_523 okm_keeps sh_104 hc_12 (Nat.le_of_ble_eq_true rfl) (ctm_keeps G (d + 1) _ _ _ he) ?_
      obtain ⟨hi, hm⟩ := ck_s hm
      refine v_iastl dm_image_56 sh_105 hi hm (fun h8 hm => ?_)
      refine v_inc_2 1 dm_image_57 rfl (by decide) rfl ?_
      refine v_goto dm_image_60 ?_
      exact v_kw (ih _ _ hm) (wk_s (wk_s (wk_s wk_e)))
theorem wm_image_L73 (G : GG) (d : Nat) (p1 : Int32) (k0 : PH → Option (Int32 × PH)) (r : Int32 × PH) (kk0 : ∀ (hy : PH), k0 hy = some r → Vx G tm_image (d + 2) 102 [some (.ref (gB G + 104)), some (.int p1), none] [] hy (some (.int r.1)) r.2) : ∀ (n : Nat) (v2 : Int32) (hv : PH), mm_image_L73 p1 k0 n v2 hv = some r → Vx G tm_image (d + 2) 73 [some (.ref (gB G + 104)), some (.int p1), some (.int v2)] [] hv (some (.int r.1)) r.2 := by
  intro n
  induction n with
  | zero => intro v2 hv hm; cases hm
  | succ n ih =>
    intro v2 hv hm
    unfold mm_image_L73 at hm
    refine v_ild_2 dm_image_73 ?_
    refine v_sipush (x := 600) dm_image_74 rfl ?_
    refine v_cmp_ge dm_image_77 (fun hc => ?_) (fun hc => ?_)
    · replace hm := it hc hm
      exact v_kw (kk0 _ hm) (wk_s (wk_s (wk_n wk_e)))
    · replace hm := ie hc hm
      refine v_ald_0 dm_image_80 ?_
      refine v_getR dm_image_81 fum_25 sh_104 rf_104_9 ?_
      refine v_ild_2 dm_image_84 ?_
      refine v_ald_0 dm_image_85 ?_
      refine v_ald_0 dm_image_86 ?_
      refine v_getR dm_image_87 fum_25 sh_104 rf_104_9 ?_
      refine v_ild_2 dm_image_90 ?_
      obtain ⟨hi, hm⟩ := ck_s hm
      refine v_iald dm_image_91 sh_110 hi ?_
      obtain ⟨r12, h13, he, hm⟩ := bd2_s hm
      refine v_cv1i (M' := tm_keeps) dm_image_92 mlm_523 okm_keeps sh_104 hc_12 (Nat.le_of_ble_eq_true rfl) (ctm_keeps G (d + 1) _ _ _ he) ?_
      obtain ⟨hi, hm⟩ := ck_s hm
      refine v_iastl dm_image_95 sh_110 hi hm (fun h14 hm => ?_)
      refine v_inc_2 1 dm_image_96 rfl (by decide) rfl ?_
      refine v_goto dm_image_99 ?_
      exact v_kw (ih _ _ hm) (wk_s (wk_s (wk_s wk_e)))
theorem ctm_image (G : GG) (d : Nat) (p1 : Int32) (h0 : PH) (r : Int32 × PH) (hm : mm_image p1 h0 = some r) : Kx G tm_image (d + 2) [.ref (gB G + 104), .int p1] h0 (some (.int r.1)) r.2 := by
  refine K_of_V (by decide) (by simp [cat_i, cat_r, fmtV_cat]) (by simp [tm_image]) ?_
  change Vx G tm_image (d + 2) 0 [some (.ref (gB G + 104)), some (.int p1), none] [] h0 (some (.int r.1)) r.2
  unfold mm_image at hm
  refine v_ald_0 dm_image_0 ?_
  refine v_iconst (x := 0) dm_image_1 rfl ?_
  refine v_putIl dm_image_2 fum_146 ft_12_0 sh_104 rf_104_0 hm (fun h1 hm => ?_)
  refine v_ild_1 dm_image_5 ?_
  refine v_j0 (Vx G tm_image (d + 2) 18 [some (.ref (gB G + 104)), some (.int p1), none] [] h1 (some (.int r.1)) r.2) hm (fun hm => ?_) (fun j2 kj2 hm => ?_)
  · refine v_ald_0 dm_image_18 ?_
    refine v_ild_1 dm_image_19 ?_
    obtain ⟨hz, hm⟩ := kz_s hm
    refine v_putZl dm_image_20 fum_520 ft_12_71 sh_104 rf_104_71 hz hm (fun h3 hm => ?_)
    refine v_ald_0 dm_image_23 ?_
    refine v_iconst (x := 1) dm_image_24 rfl ?_
    refine v_putZl dm_image_25 fum_526 ft_12_72 sh_104 rf_104_72 (by decide) hm (fun h4 hm => ?_)
    refine v_ald_0 dm_image_28 ?_
    refine v_iconst (x := 0) dm_image_29 rfl ?_
    refine v_putIl dm_image_30 fum_517 ft_12_73 sh_104 rf_104_73 hm (fun h5 hm => ?_)
    refine v_iconst (x := 0) dm_image_33 rfl ?_
    refine v_ist_2 dm_image_34 (by decide) rfl ?_
    refine v_kw (wm_image_L35 G d _ _ _ (fun h9 hm => ?_) FU _ _ hm) (wk_s (wk_s (wk_s wk_e)))
    refine v_ald_0 dm_image_63 ?_
    obtain ⟨h10, he, hm⟩ := bd_s hm
    refine v_cv0v (M' := tm_keepsMany) dm_image_64 mlm_529 okm_keepsMany sh_104 hc_12 (Nat.le_of_ble_eq_true rfl) (ctm_keepsMany G d _ _ he) ?_
    refine v_ald_0 dm_image_67 ?_
    obtain ⟨h11, he, hm⟩ := bd_s hm
    refine v_cv0v (M' := tm_keepsTold) dm_image_68 mlm_532 okm_keepsTold sh_104 hc_12 (Nat.le_of_ble_eq_true rfl) (ctm_keepsTold G d _ _ he) ?_
    refine v_iconst (x := 0) dm_image_71 rfl ?_
    refine v_ist_2 dm_image_72 (by decide) rfl ?_
    refine v_kw (wm_image_L73 G d _ _ _ (fun h15 hm => ?_) FU _ _ hm) (wk_s (wk_s (wk_s wk_e)))
    refine v_ald_0 dm_image_102 ?_
    obtain ⟨h16, he, hm⟩ := bd_s hm
    refine v_cv0v (M' := tm_keepsLaw) dm_image_103 mlm_535 okm_keepsLaw sh_104 hc_12 (Nat.le_of_ble_eq_true rfl) (ctm_keepsLaw G d _ _ he) ?_
    refine v_ild_1 dm_image_106 ?_
    refine v_if_ne dm_image_107 (fun hc => ?_) (fun hc => ?_)
    · replace hm := it hc hm
      refine v_ald_0 dm_image_110 ?_
      refine v_iconst (x := 0) dm_image_111 rfl ?_
      refine v_putIl dm_image_112 fum_149 ft_12_3 sh_104 rf_104_3 hm (fun h17 hm => ?_)
      refine v_iconst (x := 1) dm_image_115 rfl ?_
      cases hm
      exact v_zret1 dm_image_116 rfl
    · replace hm := ie hc hm
      refine v_iconst (x := 1) dm_image_115 rfl ?_
      cases hm
      exact v_zret1 dm_image_116 rfl
  · refine v_if_ne dm_image_6 (fun hc => ?_) (fun hc => ?_)
    · replace hm := it hc hm
      refine v_ald_0 dm_image_9 ?_
      refine v_getI dm_image_10 fum_526 sh_104 rf_104_72 ?_
      refine v_if_ne dm_image_13 (fun hc => ?_) (fun hc => ?_)
      · replace hm := it hc hm
        refine v_iconst (x := 0) dm_image_16 rfl ?_
        cases hm
        exact v_zret0 dm_image_17 rfl
      · replace hm := ie hc hm
        exact v_kw (kj2 hm) (wk_s (wk_s (wk_n wk_e)))
    · replace hm := ie hc hm
      exact v_kw (kj2 hm) (wk_s (wk_s (wk_n wk_e)))
def mm_look (p1 : Int32) (h0 : PH) : Option (Int32 × PH) :=
  lt (up h0 104 0 0) fun h1 =>
  if p1 = 0 then
    some (h1 104 6, h1)
  else
    if p1 = 1 then
      ck 3 115 <|
      some (h1 105 (ix 3), h1)
    else
      if p1 = 2 then
        ck 4 115 <|
        some (h1 105 (ix 4), h1)
      else
        if p1 = 3 then
          ck 5 115 <|
          some (h1 105 (ix 5), h1)
        else
          if p1 = 4 then
            ck 6 115 <|
            some (h1 105 (ix 6), h1)
          else
            if p1 = 5 then
              ck 0 115 <|
              some (h1 105 (ix 0), h1)
            else
              if p1 = 6 then
                bd (mm_standingSet h1) fun r2 =>
                some (r2, h1)
              else
                if p1 = 7 then
                  ck 2 115 <|
                  some (h1 105 (ix 2), h1)
                else
                  if p1 = 8 then
                    ck 1 115 <|
                    some (h1 105 (ix 1), h1)
                  else
                    if p1 = 9 then
                      ck 0 2 <|
                      some (h1 113 (ix 0), h1)
                    else
                      if p1 = 10 then
                        some (h1 104 33, h1)
                      else
                        if p1 = 11 then
                          some (h1 104 35, h1)
                        else
                          if p1 = 12 then
                            some (h1 104 37, h1)
                          else
                            if p1 = 13 then
                              some (h1 104 3, h1)
                            else
                              some ((-1), h1)
theorem ctm_look (G : GG) (d : Nat) (p1 : Int32) (h0 : PH) (r : Int32 × PH) (hm : mm_look p1 h0 = some r) : Kx G tm_look (d + 4) [.ref (gB G + 104), .int p1] h0 (some (.int r.1)) r.2 := by
  refine K_of_V (by decide) (by simp [cat_i, cat_r, fmtV_cat]) (by simp [tm_look]) ?_
  change Vx G tm_look (d + 4) 0 [some (.ref (gB G + 104)), some (.int p1)] [] h0 (some (.int r.1)) r.2
  unfold mm_look at hm
  refine v_ald_0 dm_look_0 ?_
  refine v_iconst (x := 0) dm_look_1 rfl ?_
  refine v_putIl dm_look_2 fum_146 ft_12_0 sh_104 rf_104_0 hm (fun h1 hm => ?_)
  refine v_ild_1 dm_look_5 ?_
  refine v_if_ne dm_look_6 (fun hc => ?_) (fun hc => ?_)
  · replace hm := it hc hm
    refine v_ald_0 dm_look_9 ?_
    refine v_getI dm_look_10 fum_158 sh_104 rf_104_6 ?_
    cases hm
    exact v_iret dm_look_13 rfl
  · replace hm := ie hc hm
    refine v_ild_1 dm_look_14 ?_
    refine v_iconst (x := 1) dm_look_15 rfl ?_
    refine v_cmp_ne dm_look_16 (fun hc => ?_) (fun hc => ?_)
    · replace hm := it hc hm
      refine v_ald_0 dm_look_19 ?_
      refine v_getR dm_look_20 fum_7 sh_104 rf_104_1 ?_
      refine v_iconst (x := 3) dm_look_23 rfl ?_
      obtain ⟨hi, hm⟩ := ck_s hm
      refine v_iald dm_look_24 sh_105 hi ?_
      cases hm
      exact v_iret dm_look_25 rfl
    · replace hm := ie hc hm
      refine v_ild_1 dm_look_26 ?_
      refine v_iconst (x := 2) dm_look_27 rfl ?_
      refine v_cmp_ne dm_look_28 (fun hc => ?_) (fun hc => ?_)
      · replace hm := it hc hm
        refine v_ald_0 dm_look_31 ?_
        refine v_getR dm_look_32 fum_7 sh_104 rf_104_1 ?_
        refine v_iconst (x := 4) dm_look_35 rfl ?_
        obtain ⟨hi, hm⟩ := ck_s hm
        refine v_iald dm_look_36 sh_105 hi ?_
        cases hm
        exact v_iret dm_look_37 rfl
      · replace hm := ie hc hm
        refine v_ild_1 dm_look_38 ?_
        refine v_iconst (x := 3) dm_look_39 rfl ?_
        refine v_cmp_ne dm_look_40 (fun hc => ?_) (fun hc => ?_)
        · replace hm := it hc hm
          refine v_ald_0 dm_look_43 ?_
          refine v_getR dm_look_44 fum_7 sh_104 rf_104_1 ?_
          refine v_iconst (x := 5) dm_look_47 rfl ?_
          obtain ⟨hi, hm⟩ := ck_s hm
          refine v_iald dm_look_48 sh_105 hi ?_
          cases hm
          exact v_iret dm_look_49 rfl
        · replace hm := ie hc hm
          refine v_ild_1 dm_look_50 ?_
          refine v_iconst (x := 4) dm_look_51 rfl ?_
          refine v_cmp_ne dm_look_52 (fun hc => ?_) (fun hc => ?_)
          · replace hm := it hc hm
            refine v_ald_0 dm_look_55 ?_
            refine v_getR dm_look_56 fum_7 sh_104 rf_104_1 ?_
            refine v_bipush (x := 6) dm_look_59 rfl ?_
            obtain ⟨hi, hm⟩ := ck_s hm
            refine v_iald dm_look_61 sh_105 hi ?_
            cases hm
            exact v_iret dm_look_62 rfl
          · replace hm := ie hc hm
            refine v_ild_1 dm_look_63 ?_
            refine v_iconst (x := 5) dm_look_64 rfl ?_
            refine v_cmp_ne dm_look_65 (fun hc => ?_) (fun hc => ?_)
            · replace hm := it hc hm
              refine v_ald_0 dm_look_68 ?_
              refine v_getR dm_look_69 fum_7 sh_104 rf_104_1 ?_
              refine v_iconst (x := 0) dm_look_72 rfl ?_
              obtain ⟨hi, hm⟩ := ck_s hm
              refine v_iald dm_look_73 sh_105 hi ?_
              cases hm
              exact v_iret dm_look_74 rfl
            · replace hm := ie hc hm
              refine v_ild_1 dm_look_75 ?_
              refine v_bipush (x := 6) dm_look_76 rfl ?_
              refine v_cmp_ne dm_look_78 (fun hc => ?_) (fun hc => ?_)
              · replace hm := it hc hm
                refine v_ald_0 dm_look_81 ?_
                obtain ⟨r2, he, hm⟩ := bd_s hm
                refine v_cv0i (M' := tm_standingSet) dm_look_82 mlm_409 okm_standingSet sh_104 hc_12 (Nat.le_of_ble_eq_true rfl) (ctm_standingSet G d _ _ he) ?_
                cases hm
                exact v_iret dm_look_85 rfl
              · replace hm := ie hc hm
                refine v_ild_1 dm_look_86 ?_
                refine v_bipush (x := 7) dm_look_87 rfl ?_
                refine v_cmp_ne dm_look_89 (fun hc => ?_) (fun hc => ?_)
                · replace hm := it hc hm
                  refine v_ald_0 dm_look_92 ?_
                  refine v_getR dm_look_93 fum_7 sh_104 rf_104_1 ?_
                  refine v_iconst (x := 2) dm_look_96 rfl ?_
                  obtain ⟨hi, hm⟩ := ck_s hm
                  refine v_iald dm_look_97 sh_105 hi ?_
                  cases hm
                  exact v_iret dm_look_98 rfl
                · replace hm := ie hc hm
                  refine v_ild_1 dm_look_99 ?_
                  refine v_bipush (x := 8) dm_look_100 rfl ?_
                  refine v_cmp_ne dm_look_102 (fun hc => ?_) (fun hc => ?_)
                  · replace hm := it hc hm
                    refine v_ald_0 dm_look_105 ?_
                    refine v_getR dm_look_106 fum_7 sh_104 rf_104_1 ?_
                    refine v_iconst (x := 1) dm_look_109 rfl ?_
                    obtain ⟨hi, hm⟩ := ck_s hm
                    refine v_iald dm_look_110 sh_105 hi ?_
                    cases hm
                    exact v_iret dm_look_111 rfl
                  · replace hm := ie hc hm
                    refine v_ild_1 dm_look_112 ?_
                    refine v_bipush (x := 9) dm_look_113 rfl ?_
                    refine v_cmp_ne dm_look_115 (fun hc => ?_) (fun hc => ?_)
                    · replace hm := it hc hm
                      refine v_ald_0 dm_look_118 ?_
                      refine v_getR dm_look_119 fum_34 sh_104 rf_104_17 ?_
                      refine v_iconst (x := 0) dm_look_122 rfl ?_
                      obtain ⟨hi, hm⟩ := ck_s hm
                      refine v_iald dm_look_123 sh_113 hi ?_
                      cases hm
                      exact v_iret dm_look_124 rfl
                    · replace hm := ie hc hm
                      refine v_ild_1 dm_look_125 ?_
                      refine v_bipush (x := 10) dm_look_126 rfl ?_
                      refine v_cmp_ne dm_look_128 (fun hc => ?_) (fun hc => ?_)
                      · replace hm := it hc hm
                        refine v_ald_0 dm_look_131 ?_
                        refine v_getI dm_look_132 fum_321 sh_104 rf_104_33 ?_
                        cases hm
                        exact v_iret dm_look_135 rfl
                      · replace hm := ie hc hm
                        refine v_ild_1 dm_look_136 ?_
                        refine v_bipush (x := 11) dm_look_137 rfl ?_
                        refine v_cmp_ne dm_look_139 (fun hc => ?_) (fun hc => ?_)
                        · replace hm := it hc hm
                          refine v_ald_0 dm_look_142 ?_
                          refine v_getI dm_look_143 fum_324 sh_104 rf_104_35 ?_
                          cases hm
                          exact v_iret dm_look_146 rfl
                        · replace hm := ie hc hm
                          refine v_ild_1 dm_look_147 ?_
                          refine v_bipush (x := 12) dm_look_148 rfl ?_
                          refine v_cmp_ne dm_look_150 (fun hc => ?_) (fun hc => ?_)
                          · replace hm := it hc hm
                            refine v_ald_0 dm_look_153 ?_
                            refine v_getI dm_look_154 fum_318 sh_104 rf_104_37 ?_
                            cases hm
                            exact v_iret dm_look_157 rfl
                          · replace hm := ie hc hm
                            refine v_ild_1 dm_look_158 ?_
                            refine v_bipush (x := 13) dm_look_159 rfl ?_
                            refine v_cmp_ne dm_look_161 (fun hc => ?_) (fun hc => ?_)
                            · replace hm := it hc hm
                              refine v_ald_0 dm_look_164 ?_
                              refine v_getI dm_look_165 fum_149 sh_104 rf_104_3 ?_
                              refine v_goto dm_look_168 ?_
                              cases hm
                              exact v_iret dm_look_172 rfl
                            · replace hm := ie hc hm
                              refine v_iconst (x := (-1)) dm_look_171 rfl ?_
                              cases hm
                              exact v_iret dm_look_172 rfl
