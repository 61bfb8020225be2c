def mm_isRazed_L2 (p1 : Int32) (k0 : PH → Option (PH)) : Nat → Int32 → PH → Option (PH)
  | 0, _, _ => none
  | n + 1, v2, hv =>
    if 4 ≤ v2 then
      k0 hv
    else
      bd (mm_hasWall p1 v2 0 hv) fun h1 =>
      mm_isRazed_L2 p1 k0 n (v2 + 1) h1
def mm_isRazed (p1 : Int32) (h0 : PH) : Option (PH) :=
  mm_isRazed_L2 p1 (fun (h2 : PH) =>
    bd (mm_areOut p1 h2) fun h3 =>
    some h3) FU 0 h0
theorem wm_isRazed_L2 (G : GG) (d : Nat) (p1 : Int32) (k0 : PH → Option (PH)) (r : PH) (kk0 : ∀ (hy : PH), k0 hy = some r → Vx G tm_isRazed (d + 4) 20 [some (.ref (gB G + 104)), some (.int p1), none] [] hy none r) : ∀ (n : Nat) (v2 : Int32) (hv : PH), mm_isRazed_L2 p1 k0 n v2 hv = some r → Vx G tm_isRazed (d + 4) 2 [some (.ref (gB G + 104)), some (.int p1), some (.int v2)] [] hv none r := by
  intro n
  induction n with
  | zero => intro v2 hv hm; cases hm
  | succ n ih =>
    intro v2 hv hm
    unfold mm_isRazed_L2 at hm
    refine v_ild_2 dm_isRazed_2 ?_
    refine v_iconst (x := 4) dm_isRazed_3 rfl ?_
    refine v_cmp_ge dm_isRazed_4 (fun hc => ?_) (fun hc => ?_)
    · replace hm := it hc hm
      exact v_kw (kk0 _ hm) (wk_s (wk_s (wk_n wk_e)))
    · replace hm := ie hc hm
      refine v_ald_0 dm_isRazed_7 ?_
      refine v_ild_1 dm_isRazed_8 ?_
      refine v_ild_2 dm_isRazed_9 ?_
      refine v_iconst (x := 0) dm_isRazed_10 rfl ?_
      obtain ⟨h1, he, hm⟩ := bd_s hm
      refine v_cv3v (M' := tm_hasWall) dm_isRazed_11 mlm_187 okm_hasWall sh_104 hc_12 (Nat.le_of_ble_eq_true rfl) (ctm_hasWall G (d + 2) _ _ _ _ _ he) ?_
      refine v_inc_2 1 dm_isRazed_14 rfl (by decide) rfl ?_
      refine v_goto dm_isRazed_17 ?_
      exact v_kw (ih _ _ hm) (wk_s (wk_s (wk_s wk_e)))
theorem ctm_isRazed (G : GG) (d : Nat) (p1 : Int32) (h0 : PH) (r : PH) (hm : mm_isRazed p1 h0 = some r) : Kx G tm_isRazed (d + 4) [.ref (gB G + 104), .int p1] h0 none r := by
  refine K_of_V (by decide) (by simp [cat_i, cat_r, fmtV_cat]) (by simp [tm_isRazed]) ?_
  change Vx G tm_isRazed (d + 4) 0 [some (.ref (gB G + 104)), some (.int p1), none] [] h0 none r
  unfold mm_isRazed at hm
  refine v_iconst (x := 0) dm_isRazed_0 rfl ?_
  refine v_ist_2 dm_isRazed_1 (by decide) rfl ?_
  refine v_kw (wm_isRazed_L2 G d _ _ _ (fun h2 hm => ?_) FU _ _ hm) (wk_s (wk_s (wk_s wk_e)))
  refine v_ald_0 dm_isRazed_20 ?_
  refine v_ild_1 dm_isRazed_21 ?_
  obtain ⟨h3, he, hm⟩ := bd_s hm
  refine v_cv1v (M' := tm_areOut) dm_isRazed_22 mlm_367 okm_areOut sh_104 hc_12 (Nat.le_of_ble_eq_true rfl) (ctm_areOut G d _ _ _ he) ?_
  cases hm
  exact v_ret dm_isRazed_25 rfl
def mm_canAct (p1 : Int32) (p2 : Int32) (p3 : Int32) (h0 : PH) : Option (Int32) :=
  bd (mm_isHouse p2 h0) fun r1 =>
  if r1 = 0 then
    some 0
  else
    bd (mm_isIn p1 0 3 h0) fun r2 =>
    if r2 = 0 then
      bd (mm_isIn p1 10 13 h0) fun r3 =>
      if r3 = 0 then
        if p1 = 20 then
          bd (mm_canWed p2 h0) fun r4 =>
          some (nb r4)
        else
          if p1 = 21 then
            ck (79 + p2) 115 <|
            if (h0 105 (ix (79 + p2))) ≤ 0 then
              some 0
            else
              bd (mm_isHouse p3 h0) fun r5 =>
              if r5 = 0 then
                some 0
              else
                if p3 = p2 then
                  some 0
                else
                  bd (mm_doesStand p3 h0) fun r6 =>
                  if r6 = 0 then
                    some 0
                  else
                    some 1
          else
            if p1 = 22 then
              bd (mm_doesStand p2 h0) fun r7 =>
              if r7 = 0 then
                some 0
              else
                some 1
            else
              some 0
      else
        bd (mm_isIn p3 1 99 h0) fun r8 =>
        some (nb r8)
    else
      bd (mm_wallOf p2 p1 h0) fun r9 =>
      bd (mm_isIn p3 1 r9 h0) fun r10 =>
      some (nb r10)
theorem ctm_canAct (G : GG) (d : Nat) (p1 : Int32) (p2 : Int32) (p3 : Int32) (h0 : PH) (r : Int32) (hm : mm_canAct p1 p2 p3 h0 = some r) : Kx G tm_canAct (d + 4) [.ref (gB G + 104), .int p1, .int p2, .int p3] h0 (some (.int r)) h0 := by
  refine K_of_V (by decide) (by simp [cat_i, cat_r, fmtV_cat]) (by simp [tm_canAct]) ?_
  change Vx G tm_canAct (d + 4) 0 [some (.ref (gB G + 104)), some (.int p1), some (.int p2), some (.int p3)] [] h0 (some (.int r)) h0
  unfold mm_canAct at hm
  refine v_ald_0 dm_canAct_0 ?_
  refine v_ild_2 dm_canAct_1 ?_
  obtain ⟨r1, he, hm⟩ := bd_s hm
  refine v_cv1i (M' := tm_isHouse) dm_canAct_2 mlm_181 okm_isHouse sh_104 hc_12 (Nat.le_of_ble_eq_true rfl) (ctm_isHouse G (d + 3) _ _ _ he) ?_
  refine v_if_ne dm_canAct_5 (fun hc => ?_) (fun hc => ?_)
  · replace hm := it hc hm
    refine v_iconst (x := 0) dm_canAct_8 rfl ?_
    cases hm
    exact v_zret0 dm_canAct_9 rfl
  · replace hm := ie hc hm
    refine v_ald_0 dm_canAct_10 ?_
    refine v_ild_1 dm_canAct_11 ?_
    refine v_iconst (x := 0) dm_canAct_12 rfl ?_
    refine v_iconst (x := 3) dm_canAct_13 rfl ?_
    obtain ⟨r2, he, hm⟩ := bd_s hm
    refine v_cv3i (M' := tm_isIn) dm_canAct_14 mlm_177 okm_isIn sh_104 hc_12 (Nat.le_of_ble_eq_true rfl) (ctm_isIn G (d + 3) _ _ _ _ _ he) ?_
    refine v_if_eq dm_canAct_17 (fun hc => ?_) (fun hc => ?_)
    · replace hm := it hc hm
      refine v_ald_0 dm_canAct_33 ?_
      refine v_ild_1 dm_canAct_34 ?_
      refine v_bipush (x := 10) dm_canAct_35 rfl ?_
      refine v_bipush (x := 13) dm_canAct_37 rfl ?_
      obtain ⟨r3, he, hm⟩ := bd_s hm
      refine v_cv3i (M' := tm_isIn) dm_canAct_39 mlm_177 okm_isIn sh_104 hc_12 (Nat.le_of_ble_eq_true rfl) (ctm_isIn G (d + 3) _ _ _ _ _ he) ?_
      refine v_if_eq dm_canAct_42 (fun hc => ?_) (fun hc => ?_)
      · replace hm := it hc hm
        refine v_ild_1 dm_canAct_54 ?_
        refine v_bipush (x := 20) dm_canAct_55 rfl ?_
        refine v_cmp_ne dm_canAct_57 (fun hc => ?_) (fun hc => ?_)
        · replace hm := it hc hm
          refine v_ald_0 dm_canAct_60 ?_
          refine v_ild_2 dm_canAct_61 ?_
          obtain ⟨r4, he, hm⟩ := bd_s hm
          refine v_cv1i (M' := tm_canWed) dm_canAct_62 mlm_370 okm_canWed sh_104 hc_12 (Nat.le_of_ble_eq_true rfl) (ctm_canWed G d _ _ _ he) ?_
          cases hm
          exact v_zret dm_canAct_65 rfl
        · replace hm := ie hc hm
          refine v_ild_1 dm_canAct_66 ?_
          refine v_bipush (x := 21) dm_canAct_67 rfl ?_
          refine v_cmp_ne dm_canAct_69 (fun hc => ?_) (fun hc => ?_)
          · replace hm := it hc hm
            refine v_ald_0 dm_canAct_72 ?_
            refine v_getR dm_canAct_73 fum_7 sh_104 rf_104_1 ?_
            refine v_bipush (x := 79) dm_canAct_76 rfl ?_
            refine v_ild_2 dm_canAct_78 ?_
            refine v_iadd dm_canAct_79 ?_
            obtain ⟨hi, hm⟩ := ck_s hm
            refine v_iald dm_canAct_80 sh_105 hi ?_
            refine v_if_le dm_canAct_81 (fun hc => ?_) (fun hc => ?_)
            · replace hm := it hc hm
              refine v_iconst (x := 0) dm_canAct_109 rfl ?_
              cases hm
              exact v_zret0 dm_canAct_110 rfl
            · replace hm := ie hc hm
              refine v_ald_0 dm_canAct_84 ?_
              refine v_ild_3 dm_canAct_85 ?_
              obtain ⟨r5, he, hm⟩ := bd_s hm
              refine v_cv1i (M' := tm_isHouse) dm_canAct_86 mlm_181 okm_isHouse sh_104 hc_12 (Nat.le_of_ble_eq_true rfl) (ctm_isHouse G (d + 3) _ _ _ he) ?_
              refine v_if_eq dm_canAct_89 (fun hc => ?_) (fun hc => ?_)
              · replace hm := it hc hm
                refine v_iconst (x := 0) dm_canAct_109 rfl ?_
                cases hm
                exact v_zret0 dm_canAct_110 rfl
              · replace hm := ie hc hm
                refine v_ild_3 dm_canAct_92 ?_
                refine v_ild_2 dm_canAct_93 ?_
                refine v_cmp_eq dm_canAct_94 (fun hc => ?_) (fun hc => ?_)
                · replace hm := it hc hm
                  refine v_iconst (x := 0) dm_canAct_109 rfl ?_
                  cases hm
                  exact v_zret0 dm_canAct_110 rfl
                · replace hm := ie hc hm
                  refine v_ald_0 dm_canAct_97 ?_
                  refine v_ild_3 dm_canAct_98 ?_
                  obtain ⟨r6, he, hm⟩ := bd_s hm
                  refine v_cv1i (M' := tm_doesStand) dm_canAct_99 mlm_173 okm_doesStand sh_104 hc_12 (Nat.le_of_ble_eq_true rfl) (ctm_doesStand G (d + 1) _ _ _ he) ?_
                  refine v_if_eq dm_canAct_102 (fun hc => ?_) (fun hc => ?_)
                  · replace hm := it hc hm
                    refine v_iconst (x := 0) dm_canAct_109 rfl ?_
                    cases hm
                    exact v_zret0 dm_canAct_110 rfl
                  · replace hm := ie hc hm
                    refine v_iconst (x := 1) dm_canAct_105 rfl ?_
                    refine v_goto dm_canAct_106 ?_
                    cases hm
                    exact v_zret1 dm_canAct_110 rfl
          · replace hm := ie hc hm
            refine v_ild_1 dm_canAct_111 ?_
            refine v_bipush (x := 22) dm_canAct_112 rfl ?_
            refine v_cmp_ne dm_canAct_114 (fun hc => ?_) (fun hc => ?_)
            · replace hm := it hc hm
              refine v_ald_0 dm_canAct_117 ?_
              refine v_ild_2 dm_canAct_118 ?_
              obtain ⟨r7, he, hm⟩ := bd_s hm
              refine v_cv1i (M' := tm_doesStand) dm_canAct_119 mlm_173 okm_doesStand sh_104 hc_12 (Nat.le_of_ble_eq_true rfl) (ctm_doesStand G (d + 1) _ _ _ he) ?_
              refine v_if_eq dm_canAct_122 (fun hc => ?_) (fun hc => ?_)
              · replace hm := it hc hm
                refine v_iconst (x := 0) dm_canAct_129 rfl ?_
                cases hm
                exact v_zret0 dm_canAct_130 rfl
              · replace hm := ie hc hm
                refine v_iconst (x := 1) dm_canAct_125 rfl ?_
                refine v_goto dm_canAct_126 ?_
                cases hm
                exact v_zret1 dm_canAct_130 rfl
            · replace hm := ie hc hm
              refine v_iconst (x := 0) dm_canAct_129 rfl ?_
              cases hm
              exact v_zret0 dm_canAct_130 rfl
      · replace hm := ie hc hm
        refine v_ald_0 dm_canAct_45 ?_
        refine v_ild_3 dm_canAct_46 ?_
        refine v_iconst (x := 1) dm_canAct_47 rfl ?_
        refine v_bipush (x := 99) dm_canAct_48 rfl ?_
        obtain ⟨r8, he, hm⟩ := bd_s hm
        refine v_cv3i (M' := tm_isIn) dm_canAct_50 mlm_177 okm_isIn sh_104 hc_12 (Nat.le_of_ble_eq_true rfl) (ctm_isIn G (d + 3) _ _ _ _ _ he) ?_
        cases hm
        exact v_zret dm_canAct_53 rfl
    · replace hm := ie hc hm
      refine v_ald_0 dm_canAct_20 ?_
      refine v_ild_3 dm_canAct_21 ?_
      refine v_iconst (x := 1) dm_canAct_22 rfl ?_
      refine v_ald_0 dm_canAct_23 ?_
      refine v_ild_2 dm_canAct_24 ?_
      refine v_ild_1 dm_canAct_25 ?_
      obtain ⟨r9, he, hm⟩ := bd_s hm
      refine v_cv2i (M' := tm_wallOf) dm_canAct_26 mlm_165 okm_wallOf sh_104 hc_12 (Nat.le_of_ble_eq_true rfl) (ctm_wallOf G (d + 3) _ _ _ _ he) ?_
      obtain ⟨r10, he, hm⟩ := bd_s hm
      refine v_cv3i (M' := tm_isIn) dm_canAct_29 mlm_177 okm_isIn sh_104 hc_12 (Nat.le_of_ble_eq_true rfl) (ctm_isIn G (d + 3) _ _ _ _ _ he) ?_
      cases hm
      exact v_zret dm_canAct_32 rfl
def mm_act (p1 : Int32) (p2 : Int32) (p3 : Int32) (h0 : PH) : Option (Int32 × PH) :=
  lt (up h0 104 0 0) fun h1 =>
  bd (mm_canAct p1 p2 p3 h1) fun r2 =>
  if r2 = 0 then
    some (0, h1)
  else
    bd (mm_keepsAhead h1) fun h3 =>
    jn1 (fun (h5 : PH) =>
      bd (mm_isIn p1 10 13 h5) fun r6 =>
      jn1 (fun (h8 : PH) =>
        jn1 (fun (h10 : PH) =>
          jn1 (fun (h12 : PH) =>
            if p1 = 22 then
              bd (mm_isRazed p2 h12) fun h13 =>
              some (1, h13)
            else
              some (1, h12)) fun j11 =>
          if p1 = 21 then
            bd (mm_lodgersGo p2 p3 h10) fun h14 =>
            j11 h14
          else
            j11 h10) fun j9 =>
        if p1 = 20 then
          bd (mm_isWed p2 h8) fun h15 =>
          j9 h15
        else
          j9 h8) fun j7 =>
      if r6 = 0 then
        j7 h5
      else
        bd (mm_wallOf p2 (p1 - 10) h5) fun r16 =>
        bd (mm_hasWall p2 (p1 - 10) (r16 + p3) h5) fun h17 =>
        j7 h17) fun j4 =>
    if 4 ≤ p1 then
      j4 h3
    else
      bd (mm_wallOf p2 p1 h3) fun r18 =>
      bd (mm_hasWall p2 p1 (r18 - p3) h3) fun h19 =>
      ck 5 115 <|
      ck 5 115 <|
      lt (up h19 105 (ix 5) ((h19 105 (ix 5)) + p3)) fun h20 =>
      bd (mm_notes 0 p2 p3 h20) fun h21 =>
      bd (mm_areOut p2 h21) fun h22 =>
      j4 h22
theorem ctm_act (G : GG) (d : Nat) (p1 : Int32) (p2 : Int32) (p3 : Int32) (h0 : PH) (r : Int32 × PH) (hm : mm_act p1 p2 p3 h0 = some r) : Kx G tm_act (d + 5) [.ref (gB G + 104), .int p1, .int p2, .int p3] h0 (some (.int r.1)) r.2 := by
  refine K_of_V (by decide) (by simp [cat_i, cat_r, fmtV_cat]) (by simp [tm_act]) ?_
  change Vx G tm_act (d + 5) 0 [some (.ref (gB G + 104)), some (.int p1), some (.int p2), some (.int p3)] [] h0 (some (.int r.1)) r.2
  unfold mm_act at hm
  refine v_ald_0 dm_act_0 ?_
  refine v_iconst (x := 0) dm_act_1 rfl ?_
  refine v_putIl dm_act_2 fum_146 ft_12_0 sh_104 rf_104_0 hm (fun h1 hm => ?_)
  refine v_ald_0 dm_act_5 ?_
  refine v_ild_1 dm_act_6 ?_
  refine v_ild_2 dm_act_7 ?_
  refine v_ild_3 dm_act_8 ?_
  obtain ⟨r2, he, hm⟩ := bd_s hm
  refine v_cv3i (M' := tm_canAct) dm_act_9 mlm_373 okm_canAct sh_104 hc_12 (Nat.le_of_ble_eq_true rfl) (ctm_canAct G d _ _ _ _ _ he) ?_
  refine v_if_ne dm_act_12 (fun hc => ?_) (fun hc => ?_)
  · replace hm := it hc hm
    refine v_iconst (x := 0) dm_act_15 rfl ?_
    cases hm
    exact v_zret0 dm_act_16 rfl
  · replace hm := ie hc hm
    refine v_ald_0 dm_act_17 ?_
    obtain ⟨h3, he, hm⟩ := bd_s hm
    refine v_cv0v (M' := tm_keepsAhead) dm_act_18 mlm_376 okm_keepsAhead sh_104 hc_12 (Nat.le_of_ble_eq_true rfl) (ctm_keepsAhead G (d + 4) _ _ he) ?_
    refine v_ild_1 dm_act_21 ?_
    refine v_iconst (x := 4) dm_act_22 rfl ?_
    refine v_j1 (fun (h5 : PH) => Vx G tm_act (d + 5) 66 [some (.ref (gB G + 104)), some (.int p1), some (.int p2), some (.int p3)] [] h5 (some (.int r.1)) r.2) hm (fun h5 hm => ?_) (fun j4 kj4 hm => ?_)
    · refine v_ald_0 dm_act_66 ?_
      refine v_ild_1 dm_act_67 ?_
      refine v_bipush (x := 10) dm_act_68 rfl ?_
      refine v_bipush (x := 13) dm_act_70 rfl ?_
      obtain ⟨r6, he, hm⟩ := bd_s hm
      refine v_cv3i (M' := tm_isIn) dm_act_72 mlm_177 okm_isIn sh_104 hc_12 (Nat.le_of_ble_eq_true rfl) (ctm_isIn G (d + 4) _ _ _ _ _ he) ?_
      refine v_j1 (fun (h8 : PH) => Vx G tm_act (d + 5) 98 [some (.ref (gB G + 104)), some (.int p1), some (.int p2), some (.int p3)] [] h8 (some (.int r.1)) r.2) hm (fun h8 hm => ?_) (fun j7 kj7 hm => ?_)
      · refine v_ild_1 dm_act_98 ?_
        refine v_bipush (x := 20) dm_act_99 rfl ?_
        refine v_j1 (fun (h10 : PH) => Vx G tm_act (d + 5) 109 [some (.ref (gB G + 104)), some (.int p1), some (.int p2), some (.int p3)] [] h10 (some (.int r.1)) r.2) hm (fun h10 hm => ?_) (fun j9 kj9 hm => ?_)
        · refine v_ild_1 dm_act_109 ?_
          refine v_bipush (x := 21) dm_act_110 rfl ?_
          refine v_j1 (fun (h12 : PH) => Vx G tm_act (d + 5) 121 [some (.ref (gB G + 104)), some (.int p1), some (.int p2), none] [] h12 (some (.int r.1)) r.2) hm (fun h12 hm => ?_) (fun j11 kj11 hm => ?_)
          · refine v_ild_1 dm_act_121 ?_
            refine v_bipush (x := 22) dm_act_122 rfl ?_
            refine v_cmp_ne dm_act_124 (fun hc => ?_) (fun hc => ?_)
            · replace hm := it hc hm
              refine v_ald_0 dm_act_127 ?_
              refine v_ild_2 dm_act_128 ?_
              obtain ⟨h13, he, hm⟩ := bd_s hm
              refine v_cv1v (M' := tm_isRazed) dm_act_129 mlm_382 okm_isRazed sh_104 hc_12 (Nat.le_of_ble_eq_true rfl) (ctm_isRazed G d _ _ _ he) ?_
              refine v_iconst (x := 1) dm_act_132 rfl ?_
              cases hm
              exact v_zret1 dm_act_133 rfl
            · replace hm := ie hc hm
              refine v_iconst (x := 1) dm_act_132 rfl ?_
              cases hm
              exact v_zret1 dm_act_133 rfl
          · refine v_cmp_ne dm_act_112 (fun hc => ?_) (fun hc => ?_)
            · replace hm := it hc hm
              refine v_ald_0 dm_act_115 ?_
              refine v_ild_2 dm_act_116 ?_
              refine v_ild_3 dm_act_117 ?_
              obtain ⟨h14, he, hm⟩ := bd_s hm
              refine v_cv2v (M' := tm_lodgersGo) dm_act_118 mlm_364 okm_lodgersGo sh_104 hc_12 (Nat.le_of_ble_eq_true rfl) (ctm_lodgersGo G (d + 3) _ _ _ _ he) ?_
              exact v_kw (kj11 _ hm) (wk_s (wk_s (wk_s (wk_n wk_e))))
            · replace hm := ie hc hm
              exact v_kw (kj11 _ hm) (wk_s (wk_s (wk_s (wk_n wk_e))))
        · refine v_cmp_ne dm_act_101 (fun hc => ?_) (fun hc => ?_)
          · replace hm := it hc hm
            refine v_ald_0 dm_act_104 ?_
            refine v_ild_2 dm_act_105 ?_
            obtain ⟨h15, he, hm⟩ := bd_s hm
            refine v_cv1v (M' := tm_isWed) dm_act_106 mlm_379 okm_isWed sh_104 hc_12 (Nat.le_of_ble_eq_true rfl) (ctm_isWed G d _ _ _ he) ?_
            exact v_kw (kj9 _ hm) (wk_s (wk_s (wk_s (wk_s wk_e))))
          · replace hm := ie hc hm
            exact v_kw (kj9 _ hm) (wk_s (wk_s (wk_s (wk_s wk_e))))
      · refine v_if_eq dm_act_75 (fun hc => ?_) (fun hc => ?_)
        · replace hm := it hc hm
          exact v_kw (kj7 _ hm) (wk_s (wk_s (wk_s (wk_s wk_e))))
        · replace hm := ie hc hm
          refine v_ald_0 dm_act_78 ?_
          refine v_ild_2 dm_act_79 ?_
          refine v_ild_1 dm_act_80 ?_
          refine v_bipush (x := 10) dm_act_81 rfl ?_
          refine v_isub dm_act_83 ?_
          refine v_ald_0 dm_act_84 ?_
          refine v_ild_2 dm_act_85 ?_
          refine v_ild_1 dm_act_86 ?_
          refine v_bipush (x := 10) dm_act_87 rfl ?_
          refine v_isub dm_act_89 ?_
          obtain ⟨r16, he, hm⟩ := bd_s hm
          refine v_cv2i (M' := tm_wallOf) dm_act_90 mlm_165 okm_wallOf sh_104 hc_12 (Nat.le_of_ble_eq_true rfl) (ctm_wallOf G (d + 4) _ _ _ _ he) ?_
          refine v_ild_3 dm_act_93 ?_
          refine v_iadd dm_act_94 ?_
          obtain ⟨h17, he, hm⟩ := bd_s hm
          refine v_cv3v (M' := tm_hasWall) dm_act_95 mlm_187 okm_hasWall sh_104 hc_12 (Nat.le_of_ble_eq_true rfl) (ctm_hasWall G (d + 3) _ _ _ _ _ he) ?_
          exact v_kw (kj7 _ hm) (wk_s (wk_s (wk_s (wk_s wk_e))))
    · refine v_cmp_ge dm_act_23 (fun hc => ?_) (fun hc => ?_)
      · replace hm := it hc hm
        exact v_kw (kj4 _ hm) (wk_s (wk_s (wk_s (wk_s wk_e))))
      · replace hm := ie hc hm
        refine v_ald_0 dm_act_26 ?_
        refine v_ild_2 dm_act_27 ?_
        refine v_ild_1 dm_act_28 ?_
        refine v_ald_0 dm_act_29 ?_
        refine v_ild_2 dm_act_30 ?_
        refine v_ild_1 dm_act_31 ?_
        obtain ⟨r18, he, hm⟩ := bd_s hm
        refine v_cv2i (M' := tm_wallOf) dm_act_32 mlm_165 okm_wallOf sh_104 hc_12 (Nat.le_of_ble_eq_true rfl) (ctm_wallOf G (d + 4) _ _ _ _ he) ?_
        refine v_ild_3 dm_act_35 ?_
        refine v_isub dm_act_36 ?_
        obtain ⟨h19, he, hm⟩ := bd_s hm
        refine v_cv3v (M' := tm_hasWall) dm_act_37 mlm_187 okm_hasWall sh_104 hc_12 (Nat.le_of_ble_eq_true rfl) (ctm_hasWall G (d + 3) _ _ _ _ _ he) ?_
        refine v_ald_0 dm_act_40 ?_
        refine v_getR dm_act_41 fum_7 sh_104 rf_104_1 ?_
        refine v_iconst (x := 5) dm_act_44 rfl ?_
        refine v_ald_0 dm_act_45 ?_
        refine v_getR dm_act_46 fum_7 sh_104 rf_104_1 ?_
        refine v_iconst (x := 5) dm_act_49 rfl ?_
        obtain ⟨hi, hm⟩ := ck_s hm
        refine v_iald dm_act_50 sh_105 hi ?_
        refine v_ild_3 dm_act_51 ?_
        refine v_iadd dm_act_52 ?_
        obtain ⟨hi, hm⟩ := ck_s hm
        refine v_iastl dm_act_53 sh_105 hi hm (fun h20 hm => ?_)
        refine v_ald_0 dm_act_54 ?_
        refine v_iconst (x := 0) dm_act_55 rfl ?_
        refine v_ild_2 dm_act_56 ?_
        refine v_ild_3 dm_act_57 ?_
        obtain ⟨h21, he, hm⟩ := bd_s hm
        refine v_cv3v (M' := tm_notes) dm_act_58 mlm_357 okm_notes sh_104 hc_12 (Nat.le_of_ble_eq_true rfl) (ctm_notes G (d + 4) _ _ _ _ _ he) ?_
        refine v_ald_0 dm_act_61 ?_
        refine v_ild_2 dm_act_62 ?_
        obtain ⟨h22, he, hm⟩ := bd_s hm
        refine v_cv1v (M' := tm_areOut) dm_act_63 mlm_367 okm_areOut sh_104 hc_12 (Nat.le_of_ble_eq_true rfl) (ctm_areOut G (d + 1) _ _ _ he) ?_
        exact v_kw (kj4 _ hm) (wk_s (wk_s (wk_s (wk_s wk_e))))
def mm_skyOf_L2 : Nat → Int32 → PH → Option (PH)
  | 0, _, _ => none
  | n + 1, v1, hv =>
    if (3 * (hv 104 33)) ≤ v1 then
      some hv
    else
      ck v1 96 <|
      ck 0 115 <|
      if (hv 121 (ix v1)) = (hv 105 (ix 0)) then
        ck (v1 + 1) 96 <|
        if (hv 121 (ix (v1 + 1))) = 0 then
          ck (v1 + 2) 96 <|
          ck 3 115 <|
          lt (up hv 105 (ix 3) (hv 121 (ix (v1 + 2)))) fun h1 =>
          lt (v1 + 3) fun x2 =>
          mm_skyOf_L2 n x2 h1
        else
          ck (v1 + 1) 96 <|
          jn1 (fun (x4 : Int32) =>
            ck 4 115 <|
            lt (up hv 105 (ix 4) x4) fun h5 =>
            lt (v1 + 3) fun x6 =>
            mm_skyOf_L2 n x6 h5) fun j3 =>
          if (hv 121 (ix (v1 + 1))) = 1 then
            j3 1
          else
            j3 0
      else
        lt (v1 + 3) fun x7 =>
        mm_skyOf_L2 n x7 hv
def mm_skyOf (h0 : PH) : Option (PH) :=
  mm_skyOf_L2 FU 0 h0
theorem wm_skyOf_L2 (G : GG) (d : Nat)  (r : PH) : ∀ (n : Nat) (v1 : Int32) (hv : PH), mm_skyOf_L2  n v1 hv = some r → Vx G tm_skyOf d 2 [some (.ref (gB G + 104)), some (.int v1)] [] hv none r := by
  intro n
  induction n with
  | zero => intro v1 hv hm; cases hm
  | succ n ih =>
    intro v1 hv hm
    unfold mm_skyOf_L2 at hm
    refine v_ild_1 dm_skyOf_2 ?_
    refine v_iconst (x := 3) dm_skyOf_3 rfl ?_
    refine v_ald_0 dm_skyOf_4 ?_
    refine v_getI dm_skyOf_5 fum_321 sh_104 rf_104_33 ?_
    refine v_imul dm_skyOf_8 ?_
    refine v_cmp_ge dm_skyOf_9 (fun hc => ?_) (fun hc => ?_)
    · replace hm := it hc hm
      cases hm
      exact v_ret dm_skyOf_88 rfl
    · replace hm := ie hc hm
      refine v_ald_0 dm_skyOf_12 ?_
      refine v_getR dm_skyOf_13 fum_62 sh_104 rf_104_34 ?_
      refine v_ild_1 dm_skyOf_16 ?_
      obtain ⟨hi, hm⟩ := ck_s hm
      refine v_iald dm_skyOf_17 sh_121 hi ?_
      refine v_ald_0 dm_skyOf_18 ?_
      refine v_getR dm_skyOf_19 fum_7 sh_104 rf_104_1 ?_
      refine v_iconst (x := 0) dm_skyOf_22 rfl ?_
      obtain ⟨hi, hm⟩ := ck_s hm
      refine v_iald dm_skyOf_23 sh_105 hi ?_
      refine v_cmp_eq dm_skyOf_24 (fun hc => ?_) (fun hc => ?_)
      · replace hm := it hc hm
        refine v_ald_0 dm_skyOf_30 ?_
        refine v_getR dm_skyOf_31 fum_62 sh_104 rf_104_34 ?_
        refine v_ild_1 dm_skyOf_34 ?_
        refine v_iconst (x := 1) dm_skyOf_35 rfl ?_
        refine v_iadd dm_skyOf_36 ?_
        obtain ⟨hi, hm⟩ := ck_s hm
        refine v_iald dm_skyOf_37 sh_121 hi ?_
        refine v_if_ne dm_skyOf_38 (fun hc => ?_) (fun hc => ?_)
        · replace hm := it hc hm
          refine v_ald_0 dm_skyOf_41 ?_
          refine v_getR dm_skyOf_42 fum_7 sh_104 rf_104_1 ?_
          refine v_iconst (x := 3) dm_skyOf_45 rfl ?_
          refine v_ald_0 dm_skyOf_46 ?_
          refine v_getR dm_skyOf_47 fum_62 sh_104 rf_104_34 ?_
          refine v_ild_1 dm_skyOf_50 ?_
          refine v_iconst (x := 2) dm_skyOf_51 rfl ?_
          refine v_iadd dm_skyOf_52 ?_
          obtain ⟨hi, hm⟩ := ck_s hm
          refine v_iald dm_skyOf_53 sh_121 hi ?_
          obtain ⟨hi, hm⟩ := ck_s hm
          refine v_iastl dm_skyOf_54 sh_105 hi hm (fun h1 hm => ?_)
          refine v_goto dm_skyOf_55 ?_
          refine v_ild_1 dm_skyOf_81 ?_
          refine v_iconst (x := 3) dm_skyOf_82 rfl ?_
          refine v_iadd dm_skyOf_83 ?_
          refine v_top hm (fun x2 hm => ?_)
          refine v_ist_1 dm_skyOf_84 (by decide) rfl ?_
          refine v_goto dm_skyOf_85 ?_
          exact v_kw (ih _ _ hm) (wk_s (wk_s wk_e))
        · replace hm := ie hc hm
          refine v_ald_0 dm_skyOf_58 ?_
          refine v_getR dm_skyOf_59 fum_7 sh_104 rf_104_1 ?_
          refine v_iconst (x := 4) dm_skyOf_62 rfl ?_
          refine v_ald_0 dm_skyOf_63 ?_
          refine v_getR dm_skyOf_64 fum_62 sh_104 rf_104_34 ?_
          refine v_ild_1 dm_skyOf_67 ?_
          refine v_iconst (x := 1) dm_skyOf_68 rfl ?_
          refine v_iadd dm_skyOf_69 ?_
          obtain ⟨hi, hm⟩ := ck_s hm
          refine v_iald dm_skyOf_70 sh_121 hi ?_
          refine v_iconst (x := 1) dm_skyOf_71 rfl ?_
          refine v_j1 (fun (x4 : Int32) => Vx G tm_skyOf d 80 [some (.ref (gB G + 104)), some (.int v1)] [.int x4, .int 4, .ref (gB G + 105)] hv none r) hm (fun x4 hm => ?_) (fun j3 kj3 hm => ?_)
          · obtain ⟨hi, hm⟩ := ck_s hm
            refine v_iastl dm_skyOf_80 sh_105 hi hm (fun h5 hm => ?_)
            refine v_ild_1 dm_skyOf_81 ?_
            refine v_iconst (x := 3) dm_skyOf_82 rfl ?_
            refine v_iadd dm_skyOf_83 ?_
            refine v_top hm (fun x6 hm => ?_)
            refine v_ist_1 dm_skyOf_84 (by decide) rfl ?_
            refine v_goto dm_skyOf_85 ?_
            exact v_kw (ih _ _ hm) (wk_s (wk_s wk_e))
          · refine v_cmp_ne dm_skyOf_72 (fun hc => ?_) (fun hc => ?_)
            · replace hm := it hc hm
              refine v_iconst (x := 1) dm_skyOf_75 rfl ?_
              refine v_goto dm_skyOf_76 ?_
              exact v_kw (kj3 _ hm) (wk_s (wk_s wk_e))
            · replace hm := ie hc hm
              refine v_iconst (x := 0) dm_skyOf_79 rfl ?_
              exact v_kw (kj3 _ hm) (wk_s (wk_s wk_e))
      · replace hm := ie hc hm
        refine v_goto dm_skyOf_27 ?_
        refine v_ild_1 dm_skyOf_81 ?_
        refine v_iconst (x := 3) dm_skyOf_82 rfl ?_
        refine v_iadd dm_skyOf_83 ?_
        refine v_top hm (fun x7 hm => ?_)
        refine v_ist_1 dm_skyOf_84 (by decide) rfl ?_
        refine v_goto dm_skyOf_85 ?_
        exact v_kw (ih _ _ hm) (wk_s (wk_s wk_e))
theorem ctm_skyOf (G : GG) (d : Nat) (h0 : PH) (r : PH) (hm : mm_skyOf h0 = some r) : Kx G tm_skyOf d [.ref (gB G + 104)] h0 none r := by
  refine K_of_V (by decide) (by simp [cat_i, cat_r, fmtV_cat]) (by simp [tm_skyOf]) ?_
  change Vx G tm_skyOf d 0 [some (.ref (gB G + 104)), none] [] h0 none r
  unfold mm_skyOf at hm
  refine v_iconst (x := 0) dm_skyOf_0 rfl ?_
  refine v_ist_1 dm_skyOf_1 (by decide) rfl ?_
  exact v_kw (wm_skyOf_L2 G d  _ FU _ _ hm) (wk_s (wk_s wk_e))
def mm_does (p1 : Int32) (h0 : PH) : Option (PH) :=
  ck (p1 + 1) 160 <|
  lt (h0 122 (ix (p1 + 1))) fun x1 =>
  ck (p1 + 2) 160 <|
  lt (h0 122 (ix (p1 + 2))) fun x2 =>
  ck (p1 + 4) 160 <|
  lt (h0 122 (ix (p1 + 4))) fun x3 =>
  jn1 (fun (h5 : PH) =>
    jn1 (fun (h7 : PH) =>
      jn1 (fun (h9 : PH) =>
        if x1 = 3 then
          bd (mm_doesStand x2 h9) fun r10 =>
          if r10 = 0 then
            some h9
          else
            bd (mm_isRazed x2 h9) fun h11 =>
            some h11
        else
          some h9) fun j8 =>
      if x1 = 2 then
        bd (mm_canWed x2 h7) fun r12 =>
        if r12 = 0 then
          j8 h7
        else
          bd (mm_isWed x2 h7) fun h13 =>
          j8 h13
      else
        j8 h7) fun j6 =>
    if x1 = 1 then
      ck (p1 + 3) 160 <|
      ck (p1 + 3) 160 <|
      bd (mm_wallOf x2 (h5 122 (ix (p1 + 3))) h5) fun r14 =>
      bd (mm_hasWall x2 (h5 122 (ix (p1 + 3))) (r14 + x3) h5) fun h15 =>
      j6 h15
    else
      j6 h5) fun j4 =>
  if x1 = 0 then
    ck (67 + x2) 115 <|
    bd (mm_greater 0 ((h0 105 (ix (67 + x2))) - x3) h0) fun r16 =>
    ck (67 + x2) 115 <|
    lt (up h0 105 (ix (67 + x2)) r16) fun h17 =>
    j4 h17
  else
    j4 h0
theorem ctm_does (G : GG) (d : Nat) (p1 : Int32) (h0 : PH) (r : PH) (hm : mm_does p1 h0 = some r) : Kx G tm_does (d + 5) [.ref (gB G + 104), .int p1] h0 none r := by
  refine K_of_V (by decide) (by simp [cat_i, cat_r, fmtV_cat]) (by simp [tm_does]) ?_
  change Vx G tm_does (d + 5) 0 [some (.ref (gB G + 104)), some (.int p1), none, none, none] [] h0 none r
  unfold mm_does at hm
  refine v_ald_0 dm_does_0 ?_
  refine v_getR dm_does_1 fum_65 sh_104 rf_104_36 ?_
  refine v_ild_1 dm_does_4 ?_
  refine v_iconst (x := 1) dm_does_5 rfl ?_
  refine v_iadd dm_does_6 ?_
  obtain ⟨hi, hm⟩ := ck_s hm
  refine v_iald dm_does_7 sh_122 hi ?_
  refine v_top hm (fun x1 hm => ?_)
  refine v_ist_2 dm_does_8 (by decide) rfl ?_
  refine v_ald_0 dm_does_9 ?_
  refine v_getR dm_does_10 fum_65 sh_104 rf_104_36 ?_
  refine v_ild_1 dm_does_13 ?_
  refine v_iconst (x := 2) dm_does_14 rfl ?_
  refine v_iadd dm_does_15 ?_
  obtain ⟨hi, hm⟩ := ck_s hm
  refine v_iald dm_does_16 sh_122 hi ?_
  refine v_top hm (fun x2 hm => ?_)
  refine v_ist_3 dm_does_17 (by decide) rfl ?_
  refine v_ald_0 dm_does_18 ?_
  refine v_getR dm_does_19 fum_65 sh_104 rf_104_36 ?_
  refine v_ild_1 dm_does_22 ?_
  refine v_iconst (x := 4) dm_does_23 rfl ?_
  refine v_iadd dm_does_24 ?_
  obtain ⟨hi, hm⟩ := ck_s hm
  refine v_iald dm_does_25 sh_122 hi ?_
  refine v_top hm (fun x3 hm => ?_)
  refine v_ist_4 dm_does_26 (by decide) rfl ?_
  refine v_ild_2 dm_does_28 ?_
  refine v_j1 (fun (h5 : PH) => Vx G tm_does (d + 5) 58 [some (.ref (gB G + 104)), some (.int p1), some (.int x1), some (.int x2), some (.int x3)] [] h5 none r) hm (fun h5 hm => ?_) (fun j4 kj4 hm => ?_)
  · refine v_ild_2 dm_does_58 ?_
    refine v_iconst (x := 1) dm_does_59 rfl ?_
    refine v_j1 (fun (h7 : PH) => Vx G tm_does (d + 5) 92 [some (.ref (gB G + 104)), none, some (.int x1), some (.int x2), none] [] h7 none r) hm (fun h7 hm => ?_) (fun j6 kj6 hm => ?_)
    · refine v_ild_2 dm_does_92 ?_
      refine v_iconst (x := 2) dm_does_93 rfl ?_
      refine v_j1 (fun (h9 : PH) => Vx G tm_does (d + 5) 110 [some (.ref (gB G + 104)), none, some (.int x1), some (.int x2), none] [] h9 none r) hm (fun h9 hm => ?_) (fun j8 kj8 hm => ?_)
      · refine v_ild_2 dm_does_110 ?_
        refine v_iconst (x := 3) dm_does_111 rfl ?_
        refine v_cmp_ne dm_does_112 (fun hc => ?_) (fun hc => ?_)
        · replace hm := it hc hm
          refine v_ald_0 dm_does_115 ?_
          refine v_ild_3 dm_does_116 ?_
          obtain ⟨r10, he, hm⟩ := bd_s hm
          refine v_cv1i (M' := tm_doesStand) dm_does_117 mlm_173 okm_doesStand sh_104 hc_12 (Nat.le_of_ble_eq_true rfl) (ctm_doesStand G (d + 2) _ _ _ he) ?_
          refine v_if_eq dm_does_120 (fun hc => ?_) (fun hc => ?_)
          · replace hm := it hc hm
            cases hm
            exact v_ret dm_does_128 rfl
          · replace hm := ie hc hm
            refine v_ald_0 dm_does_123 ?_
            refine v_ild_3 dm_does_124 ?_
            obtain ⟨h11, he, hm⟩ := bd_s hm
            refine v_cv1v (M' := tm_isRazed) dm_does_125 mlm_382 okm_isRazed sh_104 hc_12 (Nat.le_of_ble_eq_true rfl) (ctm_isRazed G d _ _ _ he) ?_
            cases hm
            exact v_ret dm_does_128 rfl
        · replace hm := ie hc hm
          cases hm
          exact v_ret dm_does_128 rfl
      · refine v_cmp_ne dm_does_94 (fun hc => ?_) (fun hc => ?_)
        · replace hm := it hc hm
          refine v_ald_0 dm_does_97 ?_
          refine v_ild_3 dm_does_98 ?_
          obtain ⟨r12, he, hm⟩ := bd_s hm
          refine v_cv1i (M' := tm_canWed) dm_does_99 mlm_370 okm_canWed sh_104 hc_12 (Nat.le_of_ble_eq_true rfl) (ctm_canWed G (d + 1) _ _ _ he) ?_
          refine v_if_eq dm_does_102 (fun hc => ?_) (fun hc => ?_)
          · replace hm := it hc hm
            exact v_kw (kj8 _ hm) (wk_s (wk_n (wk_s (wk_s (wk_n wk_e)))))
          · replace hm := ie hc hm
            refine v_ald_0 dm_does_105 ?_
            refine v_ild_3 dm_does_106 ?_
            obtain ⟨h13, he, hm⟩ := bd_s hm
            refine v_cv1v (M' := tm_isWed) dm_does_107 mlm_379 okm_isWed sh_104 hc_12 (Nat.le_of_ble_eq_true rfl) (ctm_isWed G d _ _ _ he) ?_
            exact v_kw (kj8 _ hm) (wk_s (wk_n (wk_s (wk_s (wk_n wk_e)))))
        · replace hm := ie hc hm
          exact v_kw (kj8 _ hm) (wk_s (wk_n (wk_s (wk_s (wk_n wk_e)))))
    · refine v_cmp_ne dm_does_60 (fun hc => ?_) (fun hc => ?_)
      · replace hm := it hc hm
        refine v_ald_0 dm_does_63 ?_
        refine v_ild_3 dm_does_64 ?_
        refine v_ald_0 dm_does_65 ?_
        refine v_getR dm_does_66 fum_65 sh_104 rf_104_36 ?_
        refine v_ild_1 dm_does_69 ?_
        refine v_iconst (x := 3) dm_does_70 rfl ?_
        refine v_iadd dm_does_71 ?_
        obtain ⟨hi, hm⟩ := ck_s hm
        refine v_iald dm_does_72 sh_122 hi ?_
        refine v_ald_0 dm_does_73 ?_
        refine v_ild_3 dm_does_74 ?_
        refine v_ald_0 dm_does_75 ?_
        refine v_getR dm_does_76 fum_65 sh_104 rf_104_36 ?_
        refine v_ild_1 dm_does_79 ?_
        refine v_iconst (x := 3) dm_does_80 rfl ?_
        refine v_iadd dm_does_81 ?_
        obtain ⟨hi, hm⟩ := ck_s hm
        refine v_iald dm_does_82 sh_122 hi ?_
        obtain ⟨r14, he, hm⟩ := bd_s hm
        refine v_cv2i (M' := tm_wallOf) dm_does_83 mlm_165 okm_wallOf sh_104 hc_12 (Nat.le_of_ble_eq_true rfl) (ctm_wallOf G (d + 4) _ _ _ _ he) ?_
        refine v_ild_4 dm_does_86 ?_
        refine v_iadd dm_does_88 ?_
        obtain ⟨h15, he, hm⟩ := bd_s hm
        refine v_cv3v (M' := tm_hasWall) dm_does_89 mlm_187 okm_hasWall sh_104 hc_12 (Nat.le_of_ble_eq_true rfl) (ctm_hasWall G (d + 3) _ _ _ _ _ he) ?_
        exact v_kw (kj6 _ hm) (wk_s (wk_n (wk_s (wk_s (wk_n wk_e)))))
      · replace hm := ie hc hm
        exact v_kw (kj6 _ hm) (wk_s (wk_n (wk_s (wk_s (wk_n wk_e)))))
  · refine v_if_ne dm_does_29 (fun hc => ?_) (fun hc => ?_)
    · replace hm := it hc hm
      refine v_ald_0 dm_does_32 ?_
      refine v_getR dm_does_33 fum_7 sh_104 rf_104_1 ?_
      refine v_bipush (x := 67) dm_does_36 rfl ?_
      refine v_ild_3 dm_does_38 ?_
      refine v_iadd dm_does_39 ?_
      refine v_ald_0 dm_does_40 ?_
      refine v_iconst (x := 0) dm_does_41 rfl ?_
      refine v_ald_0 dm_does_42 ?_
      refine v_getR dm_does_43 fum_7 sh_104 rf_104_1 ?_
      refine v_bipush (x := 67) dm_does_46 rfl ?_
      refine v_ild_3 dm_does_48 ?_
      refine v_iadd dm_does_49 ?_
      obtain ⟨hi, hm⟩ := ck_s hm
      refine v_iald dm_does_50 sh_105 hi ?_
      refine v_ild_4 dm_does_51 ?_
      refine v_isub dm_does_53 ?_
      obtain ⟨r16, he, hm⟩ := bd_s hm
      refine v_cv2i (M' := tm_greater) dm_does_54 mlm_385 okm_greater sh_104 hc_12 (Nat.le_of_ble_eq_true rfl) (ctm_greater G (d + 4) _ _ _ _ he) ?_
      obtain ⟨hi, hm⟩ := ck_s hm
      refine v_iastl dm_does_57 sh_105 hi hm (fun h17 hm => ?_)
      exact v_kw (kj4 _ hm) (wk_s (wk_s (wk_s (wk_s (wk_s wk_e)))))
    · replace hm := ie hc hm
      exact v_kw (kj4 _ hm) (wk_s (wk_s (wk_s (wk_s (wk_s wk_e)))))
def mm_paysRent_L8 (p1 : Int32) (p2 : Int32) (k0 : Int32 → PH → Option (PH)) : Nat → Int32 → PH → Option (PH)
  | 0, _, _ => none
  | n + 1, v3, hv =>
    if p2 ≤ v3 then
      k0 v3 hv
    else
      bd (mm_doesStand p1 hv) fun r3 =>
      if r3 = 0 then
        k0 v3 hv
      else
        bd (mm_thickest p1 hv) fun r4 =>
        bd (mm_wallOf p1 r4 hv) fun r5 =>
        bd (mm_hasWall p1 r4 (r5 - 1) hv) fun h6 =>
        lt (v3 + 1) fun x7 =>
        mm_paysRent_L8 p1 p2 k0 n x7 h6
def mm_paysRent (p1 : Int32) (h0 : PH) : Option (PH) :=
  bd2 (mm_rentOf p1 h0) fun r1 h2 =>
  mm_paysRent_L8 p1 r1 (fun (x8 : Int32) (h9 : PH) =>
    ck 5 115 <|
    ck 5 115 <|
    lt (up h9 105 (ix 5) ((h9 105 (ix 5)) + x8)) fun h10 =>
    jn1 (fun (h12 : PH) =>
      ck (67 + p1) 115 <|
      ck (67 + p1) 115 <|
      lt (up h12 105 (ix (67 + p1)) (((h12 105 (ix (67 + p1))) + r1) - x8)) fun h13 =>
      jn1 (fun (h15 : PH) =>
        bd (mm_areOut p1 h15) fun h16 =>
        some h16) fun j14 =>
      if r1 ≤ x8 then
        j14 h13
      else
        bd (mm_notes 1 p1 (r1 - x8) h13) fun h17 =>
        j14 h17) fun j11 =>
    if x8 ≤ 0 then
      j11 h10
    else
      bd (mm_notes 0 p1 x8 h10) fun h18 =>
      j11 h18) FU 0 h2
theorem wm_paysRent_L8 (G : GG) (d : Nat) (p1 : Int32) (p2 : Int32) (k0 : Int32 → PH → Option (PH)) (r : PH) (kk0 : ∀ (y3 : Int32) (hy : PH), k0 y3 hy = some r → Vx G tm_paysRent (d + 5) 51 [some (.ref (gB G + 104)), some (.int p1), some (.int p2), some (.int y3), none] [] hy none r) : ∀ (n : Nat) (v3 : Int32) (hv : PH), mm_paysRent_L8 p1 p2 k0 n v3 hv = some r → Vx G tm_paysRent (d + 5) 8 [some (.ref (gB G + 104)), some (.int p1), some (.int p2), some (.int v3), none] [] hv none r := by
  intro n
  induction n with
  | zero => intro v3 hv hm; cases hm
  | succ n ih =>
    intro v3 hv hm
    unfold mm_paysRent_L8 at hm
    refine v_ild_3 dm_paysRent_8 ?_
    refine v_ild_2 dm_paysRent_9 ?_
    refine v_cmp_ge dm_paysRent_10 (fun hc => ?_) (fun hc => ?_)
    · replace hm := it hc hm
      exact v_kw (kk0 _ _ hm) (wk_s (wk_s (wk_s (wk_s (wk_n wk_e)))))
    · replace hm := ie hc hm
      refine v_ald_0 dm_paysRent_13 ?_
      refine v_ild_1 dm_paysRent_14 ?_
      obtain ⟨r3, he, hm⟩ := bd_s hm
      refine v_cv1i (M' := tm_doesStand) dm_paysRent_15 mlm_173 okm_doesStand sh_104 hc_12 (Nat.le_of_ble_eq_true rfl) (ctm_doesStand G (d + 2) _ _ _ he) ?_
      refine v_if_eq dm_paysRent_18 (fun hc => ?_) (fun hc => ?_)
      · replace hm := it hc hm
        exact v_kw (kk0 _ _ hm) (wk_s (wk_s (wk_s (wk_s (wk_n wk_e)))))
      · replace hm := ie hc hm
        refine v_ald_0 dm_paysRent_21 ?_
        refine v_ild_1 dm_paysRent_22 ?_
        obtain ⟨r4, he, hm⟩ := bd_s hm
        refine v_cv1i (M' := tm_thickest) dm_paysRent_23 mlm_348 okm_thickest sh_104 hc_12 (Nat.le_of_ble_eq_true rfl) (ctm_thickest G (d + 3) _ _ _ he) ?_
        refine v_ist_4 dm_paysRent_26 (by decide) rfl ?_
        refine v_ald_0 dm_paysRent_28 ?_
        refine v_ild_1 dm_paysRent_29 ?_
        refine v_ild_4 dm_paysRent_30 ?_
        refine v_ald_0 dm_paysRent_32 ?_
        refine v_ild_1 dm_paysRent_33 ?_
        refine v_ild_4 dm_paysRent_34 ?_
        obtain ⟨r5, he, hm⟩ := bd_s hm
        refine v_cv2i (M' := tm_wallOf) dm_paysRent_36 mlm_165 okm_wallOf sh_104 hc_12 (Nat.le_of_ble_eq_true rfl) (ctm_wallOf G (d + 4) _ _ _ _ he) ?_
        refine v_iconst (x := 1) dm_paysRent_39 rfl ?_
        refine v_isub dm_paysRent_40 ?_
        obtain ⟨h6, he, hm⟩ := bd_s hm
        refine v_cv3v (M' := tm_hasWall) dm_paysRent_41 mlm_187 okm_hasWall sh_104 hc_12 (Nat.le_of_ble_eq_true rfl) (ctm_hasWall G (d + 3) _ _ _ _ _ he) ?_
        refine v_ild_3 dm_paysRent_44 ?_
        refine v_iconst (x := 1) dm_paysRent_45 rfl ?_
        refine v_iadd dm_paysRent_46 ?_
        refine v_top hm (fun x7 hm => ?_)
        refine v_ist_3 dm_paysRent_47 (by decide) rfl ?_
        refine v_goto dm_paysRent_48 ?_
        exact v_kw (ih _ _ hm) (wk_s (wk_s (wk_s (wk_s (wk_n wk_e)))))
theorem ctm_paysRent (G : GG) (d : Nat) (p1 : Int32) (h0 : PH) (r : PH) (hm : mm_paysRent p1 h0 = some r) : Kx G tm_paysRent (d + 5) [.ref (gB G + 104), .int p1] h0 none r := by
  refine K_of_V (by decide) (by simp [cat_i, cat_r, fmtV_cat]) (by simp [tm_paysRent]) ?_
  change Vx G tm_paysRent (d + 5) 0 [some (.ref (gB G + 104)), some (.int p1), none, none, none] [] h0 none r
  unfold mm_paysRent at hm
  refine v_ald_0 dm_paysRent_0 ?_
  refine v_ild_1 dm_paysRent_1 ?_
  obtain ⟨r1, h2, he, hm⟩ := bd2_s hm
  refine v_cv1i (M' := tm_rentOf) dm_paysRent_2 mlm_388 okm_rentOf sh_104 hc_12 (Nat.le_of_ble_eq_true rfl) (ctm_rentOf G d _ _ _ he) ?_
  refine v_ist_2 dm_paysRent_5 (by decide) rfl ?_
  refine v_iconst (x := 0) dm_paysRent_6 rfl ?_
  refine v_ist_3 dm_paysRent_7 (by decide) rfl ?_
  refine v_kw (wm_paysRent_L8 G d _ _ _ _ (fun x8 h9 hm => ?_) FU _ _ hm) (wk_s (wk_s (wk_s (wk_s (wk_n wk_e)))))
  refine v_ald_0 dm_paysRent_51 ?_
  refine v_getR dm_paysRent_52 fum_7 sh_104 rf_104_1 ?_
  refine v_iconst (x := 5) dm_paysRent_55 rfl ?_
  refine v_ald_0 dm_paysRent_56 ?_
  refine v_getR dm_paysRent_57 fum_7 sh_104 rf_104_1 ?_
  refine v_iconst (x := 5) dm_paysRent_60 rfl ?_
  obtain ⟨hi, hm⟩ := ck_s hm
  refine v_iald dm_paysRent_61 sh_105 hi ?_
  refine v_ild_3 dm_paysRent_62 ?_
  refine v_iadd dm_paysRent_63 ?_
  obtain ⟨hi, hm⟩ := ck_s hm
  refine v_iastl dm_paysRent_64 sh_105 hi hm (fun h10 hm => ?_)
  refine v_ild_3 dm_paysRent_65 ?_
  refine v_j1 (fun (h12 : PH) => Vx G tm_paysRent (d + 5) 76 [some (.ref (gB G + 104)), some (.int p1), some (.int r1), some (.int x8), none] [] h12 none r) hm (fun h12 hm => ?_) (fun j11 kj11 hm => ?_)
  · refine v_ald_0 dm_paysRent_76 ?_
    refine v_getR dm_paysRent_77 fum_7 sh_104 rf_104_1 ?_
    refine v_bipush (x := 67) dm_paysRent_80 rfl ?_
    refine v_ild_1 dm_paysRent_82 ?_
    refine v_iadd dm_paysRent_83 ?_
    refine v_ald_0 dm_paysRent_84 ?_
    refine v_getR dm_paysRent_85 fum_7 sh_104 rf_104_1 ?_
    refine v_bipush (x := 67) dm_paysRent_88 rfl ?_
    refine v_ild_1 dm_paysRent_90 ?_
    refine v_iadd dm_paysRent_91 ?_
    obtain ⟨hi, hm⟩ := ck_s hm
    refine v_iald dm_paysRent_92 sh_105 hi ?_
    refine v_ild_2 dm_paysRent_93 ?_
    refine v_iadd dm_paysRent_94 ?_
    refine v_ild_3 dm_paysRent_95 ?_
    refine v_isub dm_paysRent_96 ?_
    obtain ⟨hi, hm⟩ := ck_s hm
    refine v_iastl dm_paysRent_97 sh_105 hi hm (fun h13 hm => ?_)
    refine v_ild_2 dm_paysRent_98 ?_
    refine v_ild_3 dm_paysRent_99 ?_
    refine v_j1 (fun (h15 : PH) => Vx G tm_paysRent (d + 5) 112 [some (.ref (gB G + 104)), some (.int p1), none, none, none] [] h15 none r) hm (fun h15 hm => ?_) (fun j14 kj14 hm => ?_)
    · refine v_ald_0 dm_paysRent_112 ?_
      refine v_ild_1 dm_paysRent_113 ?_
      obtain ⟨h16, he, hm⟩ := bd_s hm
      refine v_cv1v (M' := tm_areOut) dm_paysRent_114 mlm_367 okm_areOut sh_104 hc_12 (Nat.le_of_ble_eq_true rfl) (ctm_areOut G (d + 1) _ _ _ he) ?_
      cases hm
      exact v_ret dm_paysRent_117 rfl
    · refine v_cmp_le dm_paysRent_100 (fun hc => ?_) (fun hc => ?_)
      · replace hm := it hc hm
        exact v_kw (kj14 _ hm) (wk_s (wk_s (wk_n (wk_n (wk_n wk_e)))))
      · replace hm := ie hc hm
        refine v_ald_0 dm_paysRent_103 ?_
        refine v_iconst (x := 1) dm_paysRent_104 rfl ?_
        refine v_ild_1 dm_paysRent_105 ?_
        refine v_ild_2 dm_paysRent_106 ?_
        refine v_ild_3 dm_paysRent_107 ?_
        refine v_isub dm_paysRent_108 ?_
        obtain ⟨h17, he, hm⟩ := bd_s hm
        refine v_cv3v (M' := tm_notes) dm_paysRent_109 mlm_357 okm_notes sh_104 hc_12 (Nat.le_of_ble_eq_true rfl) (ctm_notes G (d + 4) _ _ _ _ _ he) ?_
        exact v_kw (kj14 _ hm) (wk_s (wk_s (wk_n (wk_n (wk_n wk_e)))))
  · refine v_if_le dm_paysRent_66 (fun hc => ?_) (fun hc => ?_)
    · replace hm := it hc hm
      exact v_kw (kj11 _ hm) (wk_s (wk_s (wk_s (wk_s (wk_n wk_e)))))
    · replace hm := ie hc hm
      refine v_ald_0 dm_paysRent_69 ?_
      refine v_iconst (x := 0) dm_paysRent_70 rfl ?_
      refine v_ild_1 dm_paysRent_71 ?_
      refine v_ild_3 dm_paysRent_72 ?_
      obtain ⟨h18, he, hm⟩ := bd_s hm
      refine v_cv3v (M' := tm_notes) dm_paysRent_73 mlm_357 okm_notes sh_104 hc_12 (Nat.le_of_ble_eq_true rfl) (ctm_notes G (d + 4) _ _ _ _ _ he) ?_
      exact v_kw (kj11 _ hm) (wk_s (wk_s (wk_s (wk_s (wk_n wk_e)))))
def mm_isGnawed_L4 (p1 : Int32) (k0 : Int32 → PH → Option (PH)) : Nat → Int32 → Int32 → PH → Option (PH)
  | 0, _, _, _ => none
  | n + 1, v2, v3, hv =>
    if 4 ≤ v3 then
      k0 v2 hv
    else
      bd (mm_wallOf p1 v3 hv) fun r1 =>
      if r1 = 0 then
        mm_isGnawed_L4 p1 k0 n v2 (v3 + 1) hv
      else
        bd2 (mm_gnawsOf p1 v3 hv) fun r2 h3 =>
        jn2 (fun (x5 : Int32) (h6 : PH) =>
          if x5 = 0 then
            mm_isGnawed_L4 p1 k0 n v2 (v3 + 1) h6
          else
            bd (mm_wallOf p1 v3 h6) fun r7 =>
            bd (mm_hasWall p1 v3 (r7 - 1) h6) fun h8 =>
            lt (v2 + 1) fun x9 =>
            mm_isGnawed_L4 p1 k0 n x9 (v3 + 1) h8) fun j4 =>
        if (h3 104 5) = 0 then
          if r2 ≤ 0 then
            j4 0 h3
          else
            bd2 (mm_draw 1000 h3) fun r10 h11 =>
            if r2 ≤ r10 then
              j4 0 h11
            else
              j4 1 h11
        else
          if (2 * r2) < 1000 then
            j4 0 h3
          else
            j4 1 h3
def mm_isGnawed (p1 : Int32) (h0 : PH) : Option (PH) :=
  mm_isGnawed_L4 p1 (fun (x12 : Int32) (h13 : PH) =>
    ck 6 115 <|
    ck 6 115 <|
    lt (up h13 105 (ix 6) ((h13 105 (ix 6)) + x12)) fun h14 =>
    if x12 ≤ 0 then
      some h14
    else
      bd (mm_notes 2 p1 x12 h14) fun h15 =>
      some h15) FU 0 0 h0
theorem wm_isGnawed_L4 (G : GG) (d : Nat) (p1 : Int32) (k0 : Int32 → PH → Option (PH)) (r : PH) (kk0 : ∀ (y2 : Int32) (hy : PH), k0 y2 hy = some r → Vx G tm_isGnawed (d + 5) 110 [some (.ref (gB G + 104)), some (.int p1), some (.int y2), none, none, none] [] hy none r) : ∀ (n : Nat) (v2 : Int32) (v3 : Int32) (hv : PH), mm_isGnawed_L4 p1 k0 n v2 v3 hv = some r → Vx G tm_isGnawed (d + 5) 4 [some (.ref (gB G + 104)), some (.int p1), some (.int v2), some (.int v3), none, none] [] hv none r := by
  intro n
  induction n with
  | zero => intro v2 v3 hv hm; cases hm
  | succ n ih =>
    intro v2 v3 hv hm
    unfold mm_isGnawed_L4 at hm
    refine v_ild_3 dm_isGnawed_4 ?_
    refine v_iconst (x := 4) dm_isGnawed_5 rfl ?_
    refine v_cmp_ge dm_isGnawed_6 (fun hc => ?_) (fun hc => ?_)
    · replace hm := it hc hm
      exact v_kw (kk0 _ _ hm) (wk_s (wk_s (wk_s (wk_n (wk_n (wk_n wk_e))))))
    · replace hm := ie hc hm
      refine v_ald_0 dm_isGnawed_9 ?_
      refine v_ild_1 dm_isGnawed_10 ?_
      refine v_ild_3 dm_isGnawed_11 ?_
      obtain ⟨r1, he, hm⟩ := bd_s hm
      refine v_cv2i (M' := tm_wallOf) dm_isGnawed_12 mlm_165 okm_wallOf sh_104 hc_12 (Nat.le_of_ble_eq_true rfl) (ctm_wallOf G (d + 4) _ _ _ _ he) ?_
      refine v_if_ne dm_isGnawed_15 (fun hc => ?_) (fun hc => ?_)
      · replace hm := it hc hm
        refine v_goto dm_isGnawed_18 ?_
        refine v_inc_3 1 dm_isGnawed_104 rfl (by decide) rfl ?_
        refine v_goto dm_isGnawed_107 ?_
        exact v_kw (ih _ _ _ hm) (wk_s (wk_s (wk_s (wk_s (wk_n (wk_n wk_e))))))
      · replace hm := ie hc hm
        refine v_ald_0 dm_isGnawed_21 ?_
        refine v_ild_1 dm_isGnawed_22 ?_
        refine v_ild_3 dm_isGnawed_23 ?_
        obtain ⟨r2, h3, he, hm⟩ := bd2_s hm
        refine v_cv2i (M' := tm_gnawsOf) dm_isGnawed_24 mlm_391 okm_gnawsOf sh_104 hc_12 (Nat.le_of_ble_eq_true rfl) (ctm_gnawsOf G d _ _ _ _ he) ?_
        refine v_ist_4 dm_isGnawed_27 (by decide) rfl ?_
        refine v_ald_0 dm_isGnawed_29 ?_
        refine v_getI dm_isGnawed_30 fum_152 sh_104 rf_104_5 ?_
        refine v_j2 (fun (x5 : Int32) (h6 : PH) => Vx G tm_isGnawed (d + 5) 76 [some (.ref (gB G + 104)), some (.int p1), some (.int v2), some (.int v3), none, none] [.int x5] h6 none r) hm (fun x5 h6 hm => ?_) (fun j4 kj4 hm => ?_)
        · refine v_ist_5 dm_isGnawed_76 (by decide) rfl ?_
          refine v_ild_5 dm_isGnawed_78 ?_
          refine v_if_ne dm_isGnawed_80 (fun hc => ?_) (fun hc => ?_)
          · replace hm := it hc hm
            refine v_goto dm_isGnawed_83 ?_
            refine v_inc_3 1 dm_isGnawed_104 rfl (by decide) rfl ?_
            refine v_goto dm_isGnawed_107 ?_
            exact v_kw (ih _ _ _ hm) (wk_s (wk_s (wk_s (wk_s (wk_n (wk_n wk_e))))))
          · replace hm := ie hc hm
            refine v_ald_0 dm_isGnawed_86 ?_
            refine v_ild_1 dm_isGnawed_87 ?_
            refine v_ild_3 dm_isGnawed_88 ?_
            refine v_ald_0 dm_isGnawed_89 ?_
            refine v_ild_1 dm_isGnawed_90 ?_
            refine v_ild_3 dm_isGnawed_91 ?_
            obtain ⟨r7, he, hm⟩ := bd_s hm
            refine v_cv2i (M' := tm_wallOf) dm_isGnawed_92 mlm_165 okm_wallOf sh_104 hc_12 (Nat.le_of_ble_eq_true rfl) (ctm_wallOf G (d + 4) _ _ _ _ he) ?_
            refine v_iconst (x := 1) dm_isGnawed_95 rfl ?_
            refine v_isub dm_isGnawed_96 ?_
            obtain ⟨h8, he, hm⟩ := bd_s hm
            refine v_cv3v (M' := tm_hasWall) dm_isGnawed_97 mlm_187 okm_hasWall sh_104 hc_12 (Nat.le_of_ble_eq_true rfl) (ctm_hasWall G (d + 3) _ _ _ _ _ he) ?_
            refine v_ild_2 dm_isGnawed_100 ?_
            refine v_iconst (x := 1) dm_isGnawed_101 rfl ?_
            refine v_iadd dm_isGnawed_102 ?_
            refine v_top hm (fun x9 hm => ?_)
            refine v_ist_2 dm_isGnawed_103 (by decide) rfl ?_
            refine v_inc_3 1 dm_isGnawed_104 rfl (by decide) rfl ?_
            refine v_goto dm_isGnawed_107 ?_
            exact v_kw (ih _ _ _ hm) (wk_s (wk_s (wk_s (wk_s (wk_n (wk_n wk_e))))))
        · refine v_if_eq dm_isGnawed_33 (fun hc => ?_) (fun hc => ?_)
          · replace hm := it hc hm
            refine v_ild_4 dm_isGnawed_54 ?_
            refine v_if_le dm_isGnawed_56 (fun hc => ?_) (fun hc => ?_)
            · replace hm := it hc hm
              refine v_iconst (x := 0) dm_isGnawed_75 rfl ?_
              exact v_kw (kj4 _ _ hm) (wk_s (wk_s (wk_s (wk_s (wk_n (wk_n wk_e))))))
            · replace hm := ie hc hm
              refine v_ald_0 dm_isGnawed_59 ?_
              refine v_sipush (x := 1000) dm_isGnawed_60 rfl ?_
              obtain ⟨r10, h11, he, hm⟩ := bd2_s hm
              refine v_cv1i (M' := tm_draw) dm_isGnawed_63 mlm_394 okm_draw sh_104 hc_12 (Nat.le_of_ble_eq_true rfl) (ctm_draw G (d + 4) _ _ _ he) ?_
              refine v_ild_4 dm_isGnawed_66 ?_
              refine v_cmp_ge dm_isGnawed_68 (fun hc => ?_) (fun hc => ?_)
              · replace hm := it hc hm
                refine v_iconst (x := 0) dm_isGnawed_75 rfl ?_
                exact v_kw (kj4 _ _ hm) (wk_s (wk_s (wk_s (wk_s (wk_n (wk_n wk_e))))))
              · replace hm := ie hc hm
                refine v_iconst (x := 1) dm_isGnawed_71 rfl ?_
                refine v_goto dm_isGnawed_72 ?_
                exact v_kw (kj4 _ _ hm) (wk_s (wk_s (wk_s (wk_s (wk_n (wk_n wk_e))))))
          · replace hm := ie hc hm
            refine v_iconst (x := 2) dm_isGnawed_36 rfl ?_
            refine v_ild_4 dm_isGnawed_37 ?_
            refine v_imul dm_isGnawed_39 ?_
            refine v_sipush (x := 1000) dm_isGnawed_40 rfl ?_
            refine v_cmp_lt dm_isGnawed_43 (fun hc => ?_) (fun hc => ?_)
            · replace hm := it hc hm
              refine v_iconst (x := 0) dm_isGnawed_50 rfl ?_
              refine v_goto dm_isGnawed_51 ?_
              exact v_kw (kj4 _ _ hm) (wk_s (wk_s (wk_s (wk_s (wk_n (wk_n wk_e))))))
            · replace hm := ie hc hm
              refine v_iconst (x := 1) dm_isGnawed_46 rfl ?_
              refine v_goto dm_isGnawed_47 ?_
              exact v_kw (kj4 _ _ hm) (wk_s (wk_s (wk_s (wk_s (wk_n (wk_n wk_e))))))
theorem ctm_isGnawed (G : GG) (d : Nat) (p1 : Int32) (h0 : PH) (r : PH) (hm : mm_isGnawed p1 h0 = some r) : Kx G tm_isGnawed (d + 5) [.ref (gB G + 104), .int p1] h0 none r := by
  refine K_of_V (by decide) (by simp [cat_i, cat_r, fmtV_cat]) (by simp [tm_isGnawed]) ?_
  change Vx G tm_isGnawed (d + 5) 0 [some (.ref (gB G + 104)), some (.int p1), none, none, none, none] [] h0 none r
  unfold mm_isGnawed at hm
  refine v_iconst (x := 0) dm_isGnawed_0 rfl ?_
  refine v_ist_2 dm_isGnawed_1 (by decide) rfl ?_
  refine v_iconst (x := 0) dm_isGnawed_2 rfl ?_
  refine v_ist_3 dm_isGnawed_3 (by decide) rfl ?_
  refine v_kw (wm_isGnawed_L4 G d _ _ _ (fun x12 h13 hm => ?_) FU _ _ _ hm) (wk_s (wk_s (wk_s (wk_s (wk_n (wk_n wk_e))))))
  refine v_ald_0 dm_isGnawed_110 ?_
  refine v_getR dm_isGnawed_111 fum_7 sh_104 rf_104_1 ?_
  refine v_bipush (x := 6) dm_isGnawed_114 rfl ?_
  refine v_ald_0 dm_isGnawed_116 ?_
  refine v_getR dm_isGnawed_117 fum_7 sh_104 rf_104_1 ?_
  refine v_bipush (x := 6) dm_isGnawed_120 rfl ?_
  obtain ⟨hi, hm⟩ := ck_s hm
  refine v_iald dm_isGnawed_122 sh_105 hi ?_
  refine v_ild_2 dm_isGnawed_123 ?_
  refine v_iadd dm_isGnawed_124 ?_
  obtain ⟨hi, hm⟩ := ck_s hm
  refine v_iastl dm_isGnawed_125 sh_105 hi hm (fun h14 hm => ?_)
  refine v_ild_2 dm_isGnawed_126 ?_
  refine v_if_le dm_isGnawed_127 (fun hc => ?_) (fun hc => ?_)
  · replace hm := it hc hm
    cases hm
    exact v_ret dm_isGnawed_137 rfl
  · replace hm := ie hc hm
    refine v_ald_0 dm_isGnawed_130 ?_
    refine v_iconst (x := 2) dm_isGnawed_131 rfl ?_
    refine v_ild_1 dm_isGnawed_132 ?_
    refine v_ild_2 dm_isGnawed_133 ?_
    obtain ⟨h15, he, hm⟩ := bd_s hm
    refine v_cv3v (M' := tm_notes) dm_isGnawed_134 mlm_357 okm_notes sh_104 hc_12 (Nat.le_of_ble_eq_true rfl) (ctm_notes G (d + 4) _ _ _ _ _ he) ?_
    cases hm
    exact v_ret dm_isGnawed_137 rfl
def mm_doesMelt_L4 (p1 : Int32) (k0 : Int32 → PH → Option (PH)) : Nat → Int32 → Int32 → PH → Option (PH)
  | 0, _, _, _ => none
  | n + 1, v2, v3, hv =>
    if 4 ≤ v3 then
      k0 v2 hv
    else
      ck 4 115 <|
      if (hv 105 (ix 4)) = 0 then
        bd (mm_wallOf p1 v3 hv) fun r1 =>
        jn2 (fun (x3 : Int32) (h4 : PH) =>
          bd (mm_wallOf p1 v3 h4) fun r5 =>
          bd (mm_hasWall p1 v3 (r5 - x3) h4) fun h6 =>
          lt (v2 + x3) fun x7 =>
          mm_doesMelt_L4 p1 k0 n x7 (v3 + 1) h6) fun j2 =>
        if r1 = 0 then
          j2 0 hv
        else
          bd (mm_wallOf p1 v3 hv) fun r8 =>
          bd2 (mm_meltsOf p1 v3 hv) fun r9 h10 =>
          bd (mm_lesser r8 r9 h10) fun r11 =>
          j2 r11 h10
      else
        k0 v2 hv
def mm_doesMelt (p1 : Int32) (h0 : PH) : Option (PH) :=
  mm_doesMelt_L4 p1 (fun (x12 : Int32) (h13 : PH) =>
    if x12 ≤ 0 then
      some h13
    else
      bd (mm_notes 3 p1 x12 h13) fun h14 =>
      some h14) FU 0 0 h0
theorem wm_doesMelt_L4 (G : GG) (d : Nat) (p1 : Int32) (k0 : Int32 → PH → Option (PH)) (r : PH) (kk0 : ∀ (y2 : Int32) (hy : PH), k0 y2 hy = some r → Vx G tm_doesMelt (d + 5) 75 [some (.ref (gB G + 104)), some (.int p1), some (.int y2), none, none] [] hy none r) : ∀ (n : Nat) (v2 : Int32) (v3 : Int32) (hv : PH), mm_doesMelt_L4 p1 k0 n v2 v3 hv = some r → Vx G tm_doesMelt (d + 5) 4 [some (.ref (gB G + 104)), some (.int p1), some (.int v2), some (.int v3), none] [] hv none r := by
  intro n
  induction n with
  | zero => intro v2 v3 hv hm; cases hm
  | succ n ih =>
    intro v2 v3 hv hm
    unfold mm_doesMelt_L4 at hm
    refine v_ild_3 dm_doesMelt_4 ?_
    refine v_iconst (x := 4) dm_doesMelt_5 rfl ?_
    refine v_cmp_ge dm_doesMelt_6 (fun hc => ?_) (fun hc => ?_)
    · replace hm := it hc hm
      exact v_kw (kk0 _ _ hm) (wk_s (wk_s (wk_s (wk_n (wk_n wk_e)))))
    · replace hm := ie hc hm
      refine v_ald_0 dm_doesMelt_9 ?_
      refine v_getR dm_doesMelt_10 fum_7 sh_104 rf_104_1 ?_
      refine v_iconst (x := 4) dm_doesMelt_13 rfl ?_
      obtain ⟨hi, hm⟩ := ck_s hm
      refine v_iald dm_doesMelt_14 sh_105 hi ?_
      refine v_if_ne dm_doesMelt_15 (fun hc => ?_) (fun hc => ?_)
      · replace hm := it hc hm
        refine v_ald_0 dm_doesMelt_18 ?_
        refine v_ild_1 dm_doesMelt_19 ?_
        refine v_ild_3 dm_doesMelt_20 ?_
        obtain ⟨r1, he, hm⟩ := bd_s hm
        refine v_cv2i (M' := tm_wallOf) dm_doesMelt_21 mlm_165 okm_wallOf sh_104 hc_12 (Nat.le_of_ble_eq_true rfl) (ctm_wallOf G (d + 4) _ _ _ _ he) ?_
        refine v_j2 (fun (x3 : Int32) (h4 : PH) => Vx G tm_doesMelt (d + 5) 47 [some (.ref (gB G + 104)), some (.int p1), some (.int v2), some (.int v3), none] [.int x3] h4 none r) hm (fun x3 h4 hm => ?_) (fun j2 kj2 hm => ?_)
        · refine v_ist_4 dm_doesMelt_47 (by decide) rfl ?_
          refine v_ald_0 dm_doesMelt_49 ?_
          refine v_ild_1 dm_doesMelt_50 ?_
          refine v_ild_3 dm_doesMelt_51 ?_
          refine v_ald_0 dm_doesMelt_52 ?_
          refine v_ild_1 dm_doesMelt_53 ?_
          refine v_ild_3 dm_doesMelt_54 ?_
          obtain ⟨r5, he, hm⟩ := bd_s hm
          refine v_cv2i (M' := tm_wallOf) dm_doesMelt_55 mlm_165 okm_wallOf sh_104 hc_12 (Nat.le_of_ble_eq_true rfl) (ctm_wallOf G (d + 4) _ _ _ _ he) ?_
          refine v_ild_4 dm_doesMelt_58 ?_
          refine v_isub dm_doesMelt_60 ?_
          obtain ⟨h6, he, hm⟩ := bd_s hm
          refine v_cv3v (M' := tm_hasWall) dm_doesMelt_61 mlm_187 okm_hasWall sh_104 hc_12 (Nat.le_of_ble_eq_true rfl) (ctm_hasWall G (d + 3) _ _ _ _ _ he) ?_
          refine v_ild_2 dm_doesMelt_64 ?_
          refine v_ild_4 dm_doesMelt_65 ?_
          refine v_iadd dm_doesMelt_67 ?_
          refine v_top hm (fun x7 hm => ?_)
          refine v_ist_2 dm_doesMelt_68 (by decide) rfl ?_
          refine v_inc_3 1 dm_doesMelt_69 rfl (by decide) rfl ?_
          refine v_goto dm_doesMelt_72 ?_
          exact v_kw (ih _ _ _ hm) (wk_s (wk_s (wk_s (wk_s (wk_n wk_e)))))
        · refine v_if_ne dm_doesMelt_24 (fun hc => ?_) (fun hc => ?_)
          · replace hm := it hc hm
            refine v_iconst (x := 0) dm_doesMelt_27 rfl ?_
            refine v_goto dm_doesMelt_28 ?_
            exact v_kw (kj2 _ _ hm) (wk_s (wk_s (wk_s (wk_s (wk_n wk_e)))))
          · replace hm := ie hc hm
            refine v_ald_0 dm_doesMelt_31 ?_
            refine v_ald_0 dm_doesMelt_32 ?_
            refine v_ild_1 dm_doesMelt_33 ?_
            refine v_ild_3 dm_doesMelt_34 ?_
            obtain ⟨r8, he, hm⟩ := bd_s hm
            refine v_cv2i (M' := tm_wallOf) dm_doesMelt_35 mlm_165 okm_wallOf sh_104 hc_12 (Nat.le_of_ble_eq_true rfl) (ctm_wallOf G (d + 4) _ _ _ _ he) ?_
            refine v_ald_0 dm_doesMelt_38 ?_
            refine v_ild_1 dm_doesMelt_39 ?_
            refine v_ild_3 dm_doesMelt_40 ?_
            obtain ⟨r9, h10, he, hm⟩ := bd2_s hm
            refine v_cv2i (M' := tm_meltsOf) dm_doesMelt_41 mlm_397 okm_meltsOf sh_104 hc_12 (Nat.le_of_ble_eq_true rfl) (ctm_meltsOf G d _ _ _ _ he) ?_
            obtain ⟨r11, he, hm⟩ := bd_s hm
            refine v_cv2i (M' := tm_lesser) dm_doesMelt_44 mlm_400 okm_lesser sh_104 hc_12 (Nat.le_of_ble_eq_true rfl) (ctm_lesser G (d + 4) _ _ _ _ he) ?_
            exact v_kw (kj2 _ _ hm) (wk_s (wk_s (wk_s (wk_s (wk_n wk_e)))))
      · replace hm := ie hc hm
        exact v_kw (kk0 _ _ hm) (wk_s (wk_s (wk_s (wk_n (wk_n wk_e)))))
theorem ctm_doesMelt (G : GG) (d : Nat) (p1 : Int32) (h0 : PH) (r : PH) (hm : mm_doesMelt p1 h0 = some r) : Kx G tm_doesMelt (d + 5) [.ref (gB G + 104), .int p1] h0 none r := by
  refine K_of_V (by decide) (by simp [cat_i, cat_r, fmtV_cat]) (by simp [tm_doesMelt]) ?_
  change Vx G tm_doesMelt (d + 5) 0 [some (.ref (gB G + 104)), some (.int p1), none, none, none] [] h0 none r
  unfold mm_doesMelt at hm
  refine v_iconst (x := 0) dm_doesMelt_0 rfl ?_
  refine v_ist_2 dm_doesMelt_1 (by decide) rfl ?_
  refine v_iconst (x := 0) dm_doesMelt_2 rfl ?_
  refine v_ist_3 dm_doesMelt_3 (by decide) rfl ?_
  refine v_kw (wm_doesMelt_L4 G d _ _ _ (fun x12 h13 hm => ?_) FU _ _ _ hm) (wk_s (wk_s (wk_s (wk_s (wk_n wk_e)))))
  refine v_ild_2 dm_doesMelt_75 ?_
  refine v_if_le dm_doesMelt_76 (fun hc => ?_) (fun hc => ?_)
  · replace hm := it hc hm
    cases hm
    exact v_ret dm_doesMelt_86 rfl
  · replace hm := ie hc hm
    refine v_ald_0 dm_doesMelt_79 ?_
    refine v_iconst (x := 3) dm_doesMelt_80 rfl ?_
    refine v_ild_1 dm_doesMelt_81 ?_
    refine v_ild_2 dm_doesMelt_82 ?_
    obtain ⟨h14, he, hm⟩ := bd_s hm
    refine v_cv3v (M' := tm_notes) dm_doesMelt_83 mlm_357 okm_notes sh_104 hc_12 (Nat.le_of_ble_eq_true rfl) (ctm_notes G (d + 4) _ _ _ _ _ he) ?_
    cases hm
    exact v_ret dm_doesMelt_86 rfl
def mm_goesBy_L6 (k0 : PH → Option (Int32 × PH)) : Nat → Int32 → PH → Option (Int32 × PH)
  | 0, _, _ => none
  | n + 1, v1, hv =>
    if (5 * (hv 104 35)) ≤ v1 then
      k0 hv
    else
      ck v1 160 <|
      ck 0 115 <|
      if (hv 122 (ix v1)) = (hv 105 (ix 0)) then
        bd (mm_does v1 hv) fun h2 =>
        lt (v1 + 5) fun x3 =>
        mm_goesBy_L6 k0 n x3 h2
      else
        lt (v1 + 5) fun x4 =>
        mm_goesBy_L6 k0 n x4 hv
def mm_goesBy_L50 (p1 : Int32) (k0 : PH → Option (Int32 × PH)) : Nat → Int32 → PH → Option (Int32 × PH)
  | 0, _, _ => none
  | n + 1, v2, hv =>
    if (hv 104 6) ≤ v2 then
      k0 hv
    else
      bd (mm_doesStand v2 hv) fun r7 =>
      if r7 = 0 then
        mm_goesBy_L50 p1 k0 n (v2 + 1) hv
      else
        ck (79 + v2) 115 <|
        if (hv 105 (ix (79 + v2))) ≤ 0 then
          mm_goesBy_L50 p1 k0 n (v2 + 1) hv
        else
          bd (mm_paysRent v2 hv) fun h8 =>
          mm_goesBy_L50 p1 k0 n (v2 + 1) h8
def mm_goesBy_L91 (p1 : Int32) (k0 : PH → Option (Int32 × PH)) : Nat → Int32 → PH → Option (Int32 × PH)
  | 0, _, _ => none
  | n + 1, v2, hv =>
    if (hv 104 6) ≤ v2 then
      k0 hv
    else
      bd (mm_isGnawed v2 hv) fun h10 =>
      mm_goesBy_L91 p1 k0 n (v2 + 1) h10
def mm_goesBy_L112 (p1 : Int32) (k0 : PH → Option (Int32 × PH)) : Nat → Int32 → PH → Option (Int32 × PH)
  | 0, _, _ => none
  | n + 1, v2, hv =>
    if (hv 104 6) ≤ v2 then
      k0 hv
    else
      bd (mm_doesMelt v2 hv) fun h12 =>
      mm_goesBy_L112 p1 k0 n (v2 + 1) h12
def mm_goesBy_L133 (p1 : Int32) (k0 : PH → Option (Int32 × PH)) : Nat → Int32 → PH → Option (Int32 × PH)
  | 0, _, _ => none
  | n + 1, v2, hv =>
    if (hv 104 6) ≤ v2 then
      k0 hv
    else
      ck 4 115 <|
      if (hv 105 (ix 4)) = 1 then
        bd (mm_doesStand v2 hv) fun r14 =>
        if r14 = 0 then
          mm_goesBy_L133 p1 k0 n (v2 + 1) hv
        else
          ck (55 + v2) 115 <|
          bd (mm_lesser 9 ((hv 105 (ix (55 + v2))) + 1) hv) fun r15 =>
          ck (55 + v2) 115 <|
          lt (up hv 105 (ix (55 + v2)) r15) fun h16 =>
          mm_goesBy_L133 p1 k0 n (v2 + 1) h16
      else
        mm_goesBy_L133 p1 k0 n (v2 + 1) hv
def mm_goesBy_L193 (p1 : Int32) (k0 : PH → Option (Int32 × PH)) : Nat → Int32 → PH → Option (Int32 × PH)
  | 0, _, _ => none
  | n + 1, v2, hv =>
    if (hv 104 6) ≤ v2 then
      k0 hv
    else
      bd (mm_areOut v2 hv) fun h18 =>
      bd (mm_doesStand v2 h18) fun r19 =>
      if r19 = 0 then
        mm_goesBy_L193 p1 k0 n (v2 + 1) h18
      else
        ck (103 + v2) 115 <|
        bd (mm_lesser 9999 ((h18 105 (ix (103 + v2))) + 1) h18) fun r20 =>
        ck (103 + v2) 115 <|
        lt (up h18 105 (ix (103 + v2)) r20) fun h21 =>
        mm_goesBy_L193 p1 k0 n (v2 + 1) h21
def mm_goesBy (h0 : PH) : Option (Int32 × PH) :=
  bd (mm_skyOf h0) fun h1 =>
  mm_goesBy_L6 (fun (h5 : PH) =>
    bd (mm_standingSet h5) fun r6 =>
    mm_goesBy_L50 r6 (fun (h9 : PH) =>
      mm_goesBy_L91 r6 (fun (h11 : PH) =>
        mm_goesBy_L112 r6 (fun (h13 : PH) =>
          mm_goesBy_L133 r6 (fun (h17 : PH) =>
            mm_goesBy_L193 r6 (fun (h22 : PH) =>
              ck 0 115 <|
              ck 0 115 <|
              lt (up h22 105 (ix 0) ((h22 105 (ix 0)) + 1)) fun h23 =>
              bd (mm_standingSet h23) fun r24 =>
              bd (mm_onesOf (r6 &&& (r24 ^^^ (-1))) h23) fun r25 =>
              some (r25, h23)) FU 0 h17) FU 0 h13) FU 0 h11) FU 0 h9) FU 0 h5) FU 0 h1
theorem wm_goesBy_L6 (G : GG) (d : Nat) (k0 : PH → Option (Int32 × PH)) (r : Int32 × PH) (kk0 : ∀ (hy : PH), k0 hy = some r → Vx G tm_goesBy (d + 6) 43 [some (.ref (gB G + 104)), none, none] [] hy (some (.int r.1)) r.2) : ∀ (n : Nat) (v1 : Int32) (hv : PH), mm_goesBy_L6 k0 n v1 hv = some r → Vx G tm_goesBy (d + 6) 6 [some (.ref (gB G + 104)), some (.int v1), none] [] hv (some (.int r.1)) r.2 := by
  intro n
  induction n with
  | zero => intro v1 hv hm; cases hm
  | succ n ih =>
    intro v1 hv hm
    unfold mm_goesBy_L6 at hm
    refine v_ild_1 dm_goesBy_6 ?_
    refine v_iconst (x := 5) dm_goesBy_7 rfl ?_
    refine v_ald_0 dm_goesBy_8 ?_
    refine v_getI dm_goesBy_9 fum_324 sh_104 rf_104_35 ?_
    refine v_imul dm_goesBy_12 ?_
    refine v_cmp_ge dm_goesBy_13 (fun hc => ?_) (fun hc => ?_)
    · replace hm := it hc hm
      exact v_kw (kk0 _ hm) (wk_s (wk_n (wk_n wk_e)))
    · replace hm := ie hc hm
      refine v_ald_0 dm_goesBy_16 ?_
      refine v_getR dm_goesBy_17 fum_65 sh_104 rf_104_36 ?_
      refine v_ild_1 dm_goesBy_20 ?_
      obtain ⟨hi, hm⟩ := ck_s hm
      refine v_iald dm_goesBy_21 sh_122 hi ?_
      refine v_ald_0 dm_goesBy_22 ?_
      refine v_getR dm_goesBy_23 fum_7 sh_104 rf_104_1 ?_
      refine v_iconst (x := 0) dm_goesBy_26 rfl ?_
      obtain ⟨hi, hm⟩ := ck_s hm
      refine v_iald dm_goesBy_27 sh_105 hi ?_
      refine v_cmp_ne dm_goesBy_28 (fun hc => ?_) (fun hc => ?_)
      · replace hm := it hc hm
        refine v_ald_0 dm_goesBy_31 ?_
        refine v_ild_1 dm_goesBy_32 ?_
        obtain ⟨h2, he, hm⟩ := bd_s hm
        refine v_cv1v (M' := tm_does) dm_goesBy_33 mlm_406 okm_does sh_104 hc_12 (Nat.le_of_ble_eq_true rfl) (ctm_does G d _ _ _ he) ?_
        refine v_ild_1 dm_goesBy_36 ?_
        refine v_iconst (x := 5) dm_goesBy_37 rfl ?_
        refine v_iadd dm_goesBy_38 ?_
        refine v_top hm (fun x3 hm => ?_)
        refine v_ist_1 dm_goesBy_39 (by decide) rfl ?_
        refine v_goto dm_goesBy_40 ?_
        exact v_kw (ih _ _ hm) (wk_s (wk_s (wk_n wk_e)))
      · replace hm := ie hc hm
        refine v_ild_1 dm_goesBy_36 ?_
        refine v_iconst (x := 5) dm_goesBy_37 rfl ?_
        refine v_iadd dm_goesBy_38 ?_
        refine v_top hm (fun x4 hm => ?_)
        refine v_ist_1 dm_goesBy_39 (by decide) rfl ?_
        refine v_goto dm_goesBy_40 ?_
        exact v_kw (ih _ _ hm) (wk_s (wk_s (wk_n wk_e)))
theorem wm_goesBy_L50 (G : GG) (d : Nat) (p1 : Int32) (k0 : PH → Option (Int32 × PH)) (r : Int32 × PH) (kk0 : ∀ (hy : PH), k0 hy = some r → Vx G tm_goesBy (d + 6) 89 [some (.ref (gB G + 104)), some (.int p1), none] [] hy (some (.int r.1)) r.2) : ∀ (n : Nat) (v2 : Int32) (hv : PH), mm_goesBy_L50 p1 k0 n v2 hv = some r → Vx G tm_goesBy (d + 6) 50 [some (.ref (gB G + 104)), some (.int p1), some (.int v2)] [] hv (some (.int r.1)) r.2 := by
  intro n
  induction n with
  | zero => intro v2 hv hm; cases hm
  | succ n ih =>
    intro v2 hv hm
    unfold mm_goesBy_L50 at hm
    refine v_ild_2 dm_goesBy_50 ?_
    refine v_ald_0 dm_goesBy_51 ?_
    refine v_getI dm_goesBy_52 fum_158 sh_104 rf_104_6 ?_
    refine v_cmp_ge dm_goesBy_55 (fun hc => ?_) (fun hc => ?_)
    · replace hm := it hc hm
      exact v_kw (kk0 _ hm) (wk_s (wk_s (wk_n wk_e)))
    · replace hm := ie hc hm
      refine v_ald_0 dm_goesBy_58 ?_
      refine v_ild_2 dm_goesBy_59 ?_
      obtain ⟨r7, he, hm⟩ := bd_s hm
      refine v_cv1i (M' := tm_doesStand) dm_goesBy_60 mlm_173 okm_doesStand sh_104 hc_12 (Nat.le_of_ble_eq_true rfl) (ctm_doesStand G (d + 3) _ _ _ he) ?_
      refine v_if_eq dm_goesBy_63 (fun hc => ?_) (fun hc => ?_)
      · replace hm := it hc hm
        refine v_inc_2 1 dm_goesBy_83 rfl (by decide) rfl ?_
        refine v_goto dm_goesBy_86 ?_
        exact v_kw (ih _ _ hm) (wk_s (wk_s (wk_s wk_e)))
      · replace hm := ie hc hm
        refine v_ald_0 dm_goesBy_66 ?_
        refine v_getR dm_goesBy_67 fum_7 sh_104 rf_104_1 ?_
        refine v_bipush (x := 79) dm_goesBy_70 rfl ?_
        refine v_ild_2 dm_goesBy_72 ?_
        refine v_iadd dm_goesBy_73 ?_
        obtain ⟨hi, hm⟩ := ck_s hm
        refine v_iald dm_goesBy_74 sh_105 hi ?_
        refine v_if_le dm_goesBy_75 (fun hc => ?_) (fun hc => ?_)
        · replace hm := it hc hm
          refine v_inc_2 1 dm_goesBy_83 rfl (by decide) rfl ?_
          refine v_goto dm_goesBy_86 ?_
          exact v_kw (ih _ _ hm) (wk_s (wk_s (wk_s wk_e)))
        · replace hm := ie hc hm
          refine v_ald_0 dm_goesBy_78 ?_
          refine v_ild_2 dm_goesBy_79 ?_
          obtain ⟨h8, he, hm⟩ := bd_s hm
          refine v_cv1v (M' := tm_paysRent) dm_goesBy_80 mlm_412 okm_paysRent sh_104 hc_12 (Nat.le_of_ble_eq_true rfl) (ctm_paysRent G d _ _ _ he) ?_
          refine v_inc_2 1 dm_goesBy_83 rfl (by decide) rfl ?_
          refine v_goto dm_goesBy_86 ?_
          exact v_kw (ih _ _ hm) (wk_s (wk_s (wk_s wk_e)))
theorem wm_goesBy_L91 (G : GG) (d : Nat) (p1 : Int32) (k0 : PH → Option (Int32 × PH)) (r : Int32 × PH) (kk0 : ∀ (hy : PH), k0 hy = some r → Vx G tm_goesBy (d + 6) 110 [some (.ref (gB G + 104)), some (.int p1), none] [] hy (some (.int r.1)) r.2) : ∀ (n : Nat) (v2 : Int32) (hv : PH), mm_goesBy_L91 p1 k0 n v2 hv = some r → Vx G tm_goesBy (d + 6) 91 [some (.ref (gB G + 104)), some (.int p1), some (.int v2)] [] hv (some (.int r.1)) r.2 := by
  intro n
  induction n with
  | zero => intro v2 hv hm; cases hm
  | succ n ih =>
    intro v2 hv hm
    unfold mm_goesBy_L91 at hm
    refine v_ild_2 dm_goesBy_91 ?_
    refine v_ald_0 dm_goesBy_92 ?_
    refine v_getI dm_goesBy_93 fum_158 sh_104 rf_104_6 ?_
    refine v_cmp_ge dm_goesBy_96 (fun hc => ?_) (fun hc => ?_)
    · replace hm := it hc hm
      exact v_kw (kk0 _ hm) (wk_s (wk_s (wk_n wk_e)))
    · replace hm := ie hc hm
      refine v_ald_0 dm_goesBy_99 ?_
      refine v_ild_2 dm_goesBy_100 ?_
      obtain ⟨h10, he, hm⟩ := bd_s hm
      refine v_cv1v (M' := tm_isGnawed) dm_goesBy_101 mlm_415 okm_isGnawed sh_104 hc_12 (Nat.le_of_ble_eq_true rfl) (ctm_isGnawed G d _ _ _ he) ?_
      refine v_inc_2 1 dm_goesBy_104 rfl (by decide) rfl ?_
      refine v_goto dm_goesBy_107 ?_
      exact v_kw (ih _ _ hm) (wk_s (wk_s (wk_s wk_e)))
theorem wm_goesBy_L112 (G : GG) (d : Nat) (p1 : Int32) (k0 : PH → Option (Int32 × PH)) (r : Int32 × PH) (kk0 : ∀ (hy : PH), k0 hy = some r → Vx G tm_goesBy (d + 6) 131 [some (.ref (gB G + 104)), some (.int p1), none] [] hy (some (.int r.1)) r.2) : ∀ (n : Nat) (v2 : Int32) (hv : PH), mm_goesBy_L112 p1 k0 n v2 hv = some r → Vx G tm_goesBy (d + 6) 112 [some (.ref (gB G + 104)), some (.int p1), some (.int v2)] [] hv (some (.int r.1)) r.2 := by
  intro n
  induction n with
  | zero => intro v2 hv hm; cases hm
  | succ n ih =>
    intro v2 hv hm
    unfold mm_goesBy_L112 at hm
    refine v_ild_2 dm_goesBy_112 ?_
    refine v_ald_0 dm_goesBy_113 ?_
    refine v_getI dm_goesBy_114 fum_158 sh_104 rf_104_6 ?_
    refine v_cmp_ge dm_goesBy_117 (fun hc => ?_) (fun hc => ?_)
    · replace hm := it hc hm
      exact v_kw (kk0 _ hm) (wk_s (wk_s (wk_n wk_e)))
    · replace hm := ie hc hm
      refine v_ald_0 dm_goesBy_120 ?_
      refine v_ild_2 dm_goesBy_121 ?_
      obtain ⟨h12, he, hm⟩ := bd_s hm
      refine v_cv1v (M' := tm_doesMelt) dm_goesBy_122 mlm_418 okm_doesMelt sh_104 hc_12 (Nat.le_of_ble_eq_true rfl) (ctm_doesMelt G d _ _ _ he) ?_
      refine v_inc_2 1 dm_goesBy_125 rfl (by decide) rfl ?_
      refine v_goto dm_goesBy_128 ?_
      exact v_kw (ih _ _ hm) (wk_s (wk_s (wk_s wk_e)))
theorem wm_goesBy_L133 (G : GG) (d : Nat) (p1 : Int32) (k0 : PH → Option (Int32 × PH)) (r : Int32 × PH) (kk0 : ∀ (hy : PH), k0 hy = some r → Vx G tm_goesBy (d + 6) 191 [some (.ref (gB G + 104)), some (.int p1), none] [] hy (some (.int r.1)) r.2) : ∀ (n : Nat) (v2 : Int32) (hv : PH), mm_goesBy_L133 p1 k0 n v2 hv = some r → Vx G tm_goesBy (d + 6) 133 [some (.ref (gB G + 104)), some (.int p1), some (.int v2)] [] hv (some (.int r.1)) r.2 := by
  intro n
  induction n with
  | zero => intro v2 hv hm; cases hm
  | succ n ih =>
    intro v2 hv hm
    unfold mm_goesBy_L133 at hm
    refine v_ild_2 dm_goesBy_133 ?_
    refine v_ald_0 dm_goesBy_134 ?_
    refine v_getI dm_goesBy_135 fum_158 sh_104 rf_104_6 ?_
    refine v_cmp_ge dm_goesBy_138 (fun hc => ?_) (fun hc => ?_)
    · replace hm := it hc hm
      exact v_kw (kk0 _ hm) (wk_s (wk_s (wk_n wk_e)))
    · replace hm := ie hc hm
      refine v_ald_0 dm_goesBy_141 ?_
      refine v_getR dm_goesBy_142 fum_7 sh_104 rf_104_1 ?_
      refine v_iconst (x := 4) dm_goesBy_145 rfl ?_
      obtain ⟨hi, hm⟩ := ck_s hm
      refine v_iald dm_goesBy_146 sh_105 hi ?_
      refine v_iconst (x := 1) dm_goesBy_147 rfl ?_
      refine v_cmp_ne dm_goesBy_148 (fun hc => ?_) (fun hc => ?_)
      · replace hm := it hc hm
        refine v_ald_0 dm_goesBy_151 ?_
        refine v_ild_2 dm_goesBy_152 ?_
        obtain ⟨r14, he, hm⟩ := bd_s hm
        refine v_cv1i (M' := tm_doesStand) dm_goesBy_153 mlm_173 okm_doesStand sh_104 hc_12 (Nat.le_of_ble_eq_true rfl) (ctm_doesStand G (d + 3) _ _ _ he) ?_
        refine v_if_eq dm_goesBy_156 (fun hc => ?_) (fun hc => ?_)
        · replace hm := it hc hm
          refine v_inc_2 1 dm_goesBy_185 rfl (by decide) rfl ?_
          refine v_goto dm_goesBy_188 ?_
          exact v_kw (ih _ _ hm) (wk_s (wk_s (wk_s wk_e)))
        · replace hm := ie hc hm
          refine v_ald_0 dm_goesBy_159 ?_
          refine v_getR dm_goesBy_160 fum_7 sh_104 rf_104_1 ?_
          refine v_bipush (x := 55) dm_goesBy_163 rfl ?_
          refine v_ild_2 dm_goesBy_165 ?_
          refine v_iadd dm_goesBy_166 ?_
          refine v_ald_0 dm_goesBy_167 ?_
          refine v_bipush (x := 9) dm_goesBy_168 rfl ?_
          refine v_ald_0 dm_goesBy_170 ?_
          refine v_getR dm_goesBy_171 fum_7 sh_104 rf_104_1 ?_
          refine v_bipush (x := 55) dm_goesBy_174 rfl ?_
          refine v_ild_2 dm_goesBy_176 ?_
          refine v_iadd dm_goesBy_177 ?_
          obtain ⟨hi, hm⟩ := ck_s hm
          refine v_iald dm_goesBy_178 sh_105 hi ?_
          refine v_iconst (x := 1) dm_goesBy_179 rfl ?_
          refine v_iadd dm_goesBy_180 ?_
          obtain ⟨r15, he, hm⟩ := bd_s hm
          refine v_cv2i (M' := tm_lesser) dm_goesBy_181 mlm_400 okm_lesser sh_104 hc_12 (Nat.le_of_ble_eq_true rfl) (ctm_lesser G (d + 5) _ _ _ _ he) ?_
          obtain ⟨hi, hm⟩ := ck_s hm
          refine v_iastl dm_goesBy_184 sh_105 hi hm (fun h16 hm => ?_)
          refine v_inc_2 1 dm_goesBy_185 rfl (by decide) rfl ?_
          refine v_goto dm_goesBy_188 ?_
          exact v_kw (ih _ _ hm) (wk_s (wk_s (wk_s wk_e)))
      · replace hm := ie hc hm
        refine v_inc_2 1 dm_goesBy_185 rfl (by decide) rfl ?_
        refine v_goto dm_goesBy_188 ?_
        exact v_kw (ih _ _ hm) (wk_s (wk_s (wk_s wk_e)))
theorem wm_goesBy_L193 (G : GG) (d : Nat) (p1 : Int32) (k0 : PH → Option (Int32 × PH)) (r : Int32 × PH) (kk0 : ∀ (hy : PH), k0 hy = some r → Vx G tm_goesBy (d + 6) 247 [some (.ref (gB G + 104)), some (.int p1), none] [] hy (some (.int r.1)) r.2) : ∀ (n : Nat) (v2 : Int32) (hv : PH), mm_goesBy_L193 p1 k0 n v2 hv = some r → Vx G tm_goesBy (d + 6) 193 [some (.ref (gB G + 104)), some (.int p1), some (.int v2)] [] hv (some (.int r.1)) r.2 := by
  intro n
  induction n with
  | zero => intro v2 hv hm; cases hm
  | succ n ih =>
    intro v2 hv hm
    unfold mm_goesBy_L193 at hm
    refine v_ild_2 dm_goesBy_193 ?_
    refine v_ald_0 dm_goesBy_194 ?_
    refine v_getI dm_goesBy_195 fum_158 sh_104 rf_104_6 ?_
    refine v_cmp_ge dm_goesBy_198 (fun hc => ?_) (fun hc => ?_)
    · replace hm := it hc hm
      exact v_kw (kk0 _ hm) (wk_s (wk_s (wk_n wk_e)))
    · replace hm := ie hc hm
      refine v_ald_0 dm_goesBy_201 ?_
      refine v_ild_2 dm_goesBy_202 ?_
      obtain ⟨h18, he, hm⟩ := bd_s hm
      refine v_cv1v (M' := tm_areOut) dm_goesBy_203 mlm_367 okm_areOut sh_104 hc_12 (Nat.le_of_ble_eq_true rfl) (ctm_areOut G (d + 2) _ _ _ he) ?_
      refine v_ald_0 dm_goesBy_206 ?_
      refine v_ild_2 dm_goesBy_207 ?_
      obtain ⟨r19, he, hm⟩ := bd_s hm
      refine v_cv1i (M' := tm_doesStand) dm_goesBy_208 mlm_173 okm_doesStand sh_104 hc_12 (Nat.le_of_ble_eq_true rfl) (ctm_doesStand G (d + 3) _ _ _ he) ?_
      refine v_if_eq dm_goesBy_211 (fun hc => ?_) (fun hc => ?_)
      · replace hm := it hc hm
        refine v_inc_2 1 dm_goesBy_241 rfl (by decide) rfl ?_
        refine v_goto dm_goesBy_244 ?_
        exact v_kw (ih _ _ hm) (wk_s (wk_s (wk_s wk_e)))
      · replace hm := ie hc hm
        refine v_ald_0 dm_goesBy_214 ?_
        refine v_getR dm_goesBy_215 fum_7 sh_104 rf_104_1 ?_
        refine v_bipush (x := 103) dm_goesBy_218 rfl ?_
        refine v_ild_2 dm_goesBy_220 ?_
        refine v_iadd dm_goesBy_221 ?_
        refine v_ald_0 dm_goesBy_222 ?_
        refine v_sipush (x := 9999) dm_goesBy_223 rfl ?_
        refine v_ald_0 dm_goesBy_226 ?_
        refine v_getR dm_goesBy_227 fum_7 sh_104 rf_104_1 ?_
        refine v_bipush (x := 103) dm_goesBy_230 rfl ?_
        refine v_ild_2 dm_goesBy_232 ?_
        refine v_iadd dm_goesBy_233 ?_
        obtain ⟨hi, hm⟩ := ck_s hm
        refine v_iald dm_goesBy_234 sh_105 hi ?_
        refine v_iconst (x := 1) dm_goesBy_235 rfl ?_
        refine v_iadd dm_goesBy_236 ?_
        obtain ⟨r20, he, hm⟩ := bd_s hm
        refine v_cv2i (M' := tm_lesser) dm_goesBy_237 mlm_400 okm_lesser sh_104 hc_12 (Nat.le_of_ble_eq_true rfl) (ctm_lesser G (d + 5) _ _ _ _ he) ?_
        obtain ⟨hi, hm⟩ := ck_s hm
        refine v_iastl dm_goesBy_240 sh_105 hi hm (fun h21 hm => ?_)
        refine v_inc_2 1 dm_goesBy_241 rfl (by decide) rfl ?_
        refine v_goto dm_goesBy_244 ?_
        exact v_kw (ih _ _ hm) (wk_s (wk_s (wk_s wk_e)))
theorem ctm_goesBy (G : GG) (d : Nat) (h0 : PH) (r : Int32 × PH) (hm : mm_goesBy h0 = some r) : Kx G tm_goesBy (d + 6) [.ref (gB G + 104)] h0 (some (.int r.1)) r.2 := by
  refine K_of_V (by decide) (by simp [cat_i, cat_r, fmtV_cat]) (by simp [tm_goesBy]) ?_
  change Vx G tm_goesBy (d + 6) 0 [some (.ref (gB G + 104)), none, none] [] h0 (some (.int r.1)) r.2
  unfold mm_goesBy at hm
  refine v_ald_0 dm_goesBy_0 ?_
  obtain ⟨h1, he, hm⟩ := bd_s hm
  refine v_cv0v (M' := tm_skyOf) dm_goesBy_1 mlm_403 okm_skyOf sh_104 hc_12 (Nat.le_of_ble_eq_true rfl) (ctm_skyOf G (d + 5) _ _ he) ?_
  refine v_iconst (x := 0) dm_goesBy_4 rfl ?_
  refine v_ist_1 dm_goesBy_5 (by decide) rfl ?_
  refine v_kw (wm_goesBy_L6 G d _ _ (fun h5 hm => ?_) FU _ _ hm) (wk_s (wk_s (wk_n wk_e)))
  refine v_ald_0 dm_goesBy_43 ?_
  obtain ⟨r6, he, hm⟩ := bd_s hm
  refine v_cv0i (M' := tm_standingSet) dm_goesBy_44 mlm_409 okm_standingSet sh_104 hc_12 (Nat.le_of_ble_eq_true rfl) (ctm_standingSet G (d + 2) _ _ he) ?_
  refine v_ist_1 dm_goesBy_47 (by decide) rfl ?_
  refine v_iconst (x := 0) dm_goesBy_48 rfl ?_
  refine v_ist_2 dm_goesBy_49 (by decide) rfl ?_
  refine v_kw (wm_goesBy_L50 G d _ _ _ (fun h9 hm => ?_) FU _ _ hm) (wk_s (wk_s (wk_s wk_e)))
  refine v_iconst (x := 0) dm_goesBy_89 rfl ?_
  refine v_ist_2 dm_goesBy_90 (by decide) rfl ?_
  refine v_kw (wm_goesBy_L91 G d _ _ _ (fun h11 hm => ?_) FU _ _ hm) (wk_s (wk_s (wk_s wk_e)))
  refine v_iconst (x := 0) dm_goesBy_110 rfl ?_
  refine v_ist_2 dm_goesBy_111 (by decide) rfl ?_
  refine v_kw (wm_goesBy_L112 G d _ _ _ (fun h13 hm => ?_) FU _ _ hm) (wk_s (wk_s (wk_s wk_e)))
  refine v_iconst (x := 0) dm_goesBy_131 rfl ?_
  refine v_ist_2 dm_goesBy_132 (by decide) rfl ?_
  refine v_kw (wm_goesBy_L133 G d _ _ _ (fun h17 hm => ?_) FU _ _ hm) (wk_s (wk_s (wk_s wk_e)))
  refine v_iconst (x := 0) dm_goesBy_191 rfl ?_
  refine v_ist_2 dm_goesBy_192 (by decide) rfl ?_
  refine v_kw (wm_goesBy_L193 G d _ _ _ (fun h22 hm => ?_) FU _ _ hm) (wk_s (wk_s (wk_s wk_e)))
  refine v_ald_0 dm_goesBy_247 ?_
  refine v_getR dm_goesBy_248 fum_7 sh_104 rf_104_1 ?_
  refine v_iconst (x := 0) dm_goesBy_251 rfl ?_
  refine v_ald_0 dm_goesBy_252 ?_
  refine v_getR dm_goesBy_253 fum_7 sh_104 rf_104_1 ?_
  refine v_iconst (x := 0) dm_goesBy_256 rfl ?_
  obtain ⟨hi, hm⟩ := ck_s hm
  refine v_iald dm_goesBy_257 sh_105 hi ?_
  refine v_iconst (x := 1) dm_goesBy_258 rfl ?_
  refine v_iadd dm_goesBy_259 ?_
  obtain ⟨hi, hm⟩ := ck_s hm
  refine v_iastl dm_goesBy_260 sh_105 hi hm (fun h23 hm => ?_)
  refine v_ald_0 dm_goesBy_261 ?_
  refine v_ild_1 dm_goesBy_262 ?_
  refine v_ald_0 dm_goesBy_263 ?_
  obtain ⟨r24, he, hm⟩ := bd_s hm
  refine v_cv0i (M' := tm_standingSet) dm_goesBy_264 mlm_409 okm_standingSet sh_104 hc_12 (Nat.le_of_ble_eq_true rfl) (ctm_standingSet G (d + 2) _ _ he) ?_
  refine v_iconst (x := (-1)) dm_goesBy_267 rfl ?_
  refine v_ixor dm_goesBy_268 ?_
  refine v_iand dm_goesBy_269 ?_
  obtain ⟨r25, he, hm⟩ := bd_s hm
  refine v_cv1i (M' := tm_onesOf) dm_goesBy_270 mlm_421 okm_onesOf sh_104 hc_12 (Nat.le_of_ble_eq_true rfl) (ctm_onesOf G (d + 5) _ _ _ he) ?_
  cases hm
  exact v_iret dm_goesBy_273 rfl
def mm_quarters_L36 (p1 : Int32) : Nat → Int32 → Int32 → PH → Option (Int32 × PH)
  | 0, _, _, _ => none
  | n + 1, v2, v3, hv =>
    if p1 ≤ v3 then
      some (v2, hv)
    else
      bd (mm_keepsAhead hv) fun h3 =>
      bd2 (mm_goesBy h3) fun r4 h5 =>
      lt (v2 + r4) fun x6 =>
      mm_quarters_L36 p1 n x6 (v3 + 1) h5
def mm_quarters (p1 : Int32) (h0 : PH) : Option (Int32 × PH) :=
  lt (up h0 104 0 0) fun h1 =>
  bd (mm_isIn p1 1 60 h1) fun r2 =>
  if r2 = 0 then
    some ((-1), h1)
  else
    ck 0 115 <|
    if ((h1 105 (ix 0)) + p1) ≤ 9999 then
      mm_quarters_L36 p1 FU 0 0 h1
    else
      some ((-1), h1)
theorem wm_quarters_L36 (G : GG) (d : Nat) (p1 : Int32) (r : Int32 × PH) : ∀ (n : Nat) (v2 : Int32) (v3 : Int32) (hv : PH), mm_quarters_L36 p1 n v2 v3 hv = some r → Vx G tm_quarters (d + 7) 36 [some (.ref (gB G + 104)), some (.int p1), some (.int v2), some (.int v3)] [] hv (some (.int r.1)) r.2 := by
  intro n
  induction n with
  | zero => intro v2 v3 hv hm; cases hm
  | succ n ih =>
    intro v2 v3 hv hm
    unfold mm_quarters_L36 at hm
    refine v_ild_3 dm_quarters_36 ?_
    refine v_ild_1 dm_quarters_37 ?_
    refine v_cmp_ge dm_quarters_38 (fun hc => ?_) (fun hc => ?_)
    · replace hm := it hc hm
      refine v_ild_2 dm_quarters_58 ?_
      cases hm
      exact v_iret dm_quarters_59 rfl
    · replace hm := ie hc hm
      refine v_ald_0 dm_quarters_41 ?_
      obtain ⟨h3, he, hm⟩ := bd_s hm
      refine v_cv0v (M' := tm_keepsAhead) dm_quarters_42 mlm_376 okm_keepsAhead sh_104 hc_12 (Nat.le_of_ble_eq_true rfl) (ctm_keepsAhead G (d + 6) _ _ he) ?_
      refine v_ild_2 dm_quarters_45 ?_
      refine v_ald_0 dm_quarters_46 ?_
      obtain ⟨r4, h5, he, hm⟩ := bd2_s hm
      refine v_cv0i (M' := tm_goesBy) dm_quarters_47 mlm_424 okm_goesBy sh_104 hc_12 (Nat.le_of_ble_eq_true rfl) (ctm_goesBy G d _ _ he) ?_
      refine v_iadd dm_quarters_50 ?_
      refine v_top hm (fun x6 hm => ?_)
      refine v_ist_2 dm_quarters_51 (by decide) rfl ?_
      refine v_inc_3 1 dm_quarters_52 rfl (by decide) rfl ?_
      refine v_goto dm_quarters_55 ?_
      exact v_kw (ih _ _ _ hm) (wk_s (wk_s (wk_s (wk_s wk_e))))
theorem ctm_quarters (G : GG) (d : Nat) (p1 : Int32) (h0 : PH) (r : Int32 × PH) (hm : mm_quarters p1 h0 = some r) : Kx G tm_quarters (d + 7) [.ref (gB G + 104), .int p1] h0 (some (.int r.1)) r.2 := by
  refine K_of_V (by decide) (by simp [cat_i, cat_r, fmtV_cat]) (by simp [tm_quarters]) ?_
  change Vx G tm_quarters (d + 7) 0 [some (.ref (gB G + 104)), some (.int p1), none, none] [] h0 (some (.int r.1)) r.2
  unfold mm_quarters at hm
  refine v_ald_0 dm_quarters_0 ?_
  refine v_iconst (x := 0) dm_quarters_1 rfl ?_
  refine v_putIl dm_quarters_2 fum_146 ft_12_0 sh_104 rf_104_0 hm (fun h1 hm => ?_)
  refine v_ald_0 dm_quarters_5 ?_
  refine v_ild_1 dm_quarters_6 ?_
  refine v_iconst (x := 1) dm_quarters_7 rfl ?_
  refine v_bipush (x := 60) dm_quarters_8 rfl ?_
  obtain ⟨r2, he, hm⟩ := bd_s hm
  refine v_cv3i (M' := tm_isIn) dm_quarters_10 mlm_177 okm_isIn sh_104 hc_12 (Nat.le_of_ble_eq_true rfl) (ctm_isIn G (d + 6) _ _ _ _ _ he) ?_
  refine v_if_eq dm_quarters_13 (fun hc => ?_) (fun hc => ?_)
  · replace hm := it hc hm
    refine v_iconst (x := (-1)) dm_quarters_30 rfl ?_
    cases hm
    exact v_iret dm_quarters_31 rfl
  · replace hm := ie hc hm
    refine v_ald_0 dm_quarters_16 ?_
    refine v_getR dm_quarters_17 fum_7 sh_104 rf_104_1 ?_
    refine v_iconst (x := 0) dm_quarters_20 rfl ?_
    obtain ⟨hi, hm⟩ := ck_s hm
    refine v_iald dm_quarters_21 sh_105 hi ?_
    refine v_ild_1 dm_quarters_22 ?_
    refine v_iadd dm_quarters_23 ?_
    refine v_sipush (x := 9999) dm_quarters_24 rfl ?_
    refine v_cmp_le dm_quarters_27 (fun hc => ?_) (fun hc => ?_)
    · replace hm := it hc hm
      refine v_iconst (x := 0) dm_quarters_32 rfl ?_
      refine v_ist_2 dm_quarters_33 (by decide) rfl ?_
      refine v_iconst (x := 0) dm_quarters_34 rfl ?_
      refine v_ist_3 dm_quarters_35 (by decide) rfl ?_
      exact v_kw (wm_quarters_L36 G d _ _ FU _ _ _ hm) (wk_s (wk_s (wk_s (wk_s wk_e))))
    · replace hm := ie hc hm
      refine v_iconst (x := (-1)) dm_quarters_30 rfl ?_
      cases hm
      exact v_iret dm_quarters_31 rfl
def mm_of (p1 : Int32) (p2 : Int32) (h0 : PH) : Option (Int32 × PH) :=
  lt (up h0 104 0 0) fun h1 =>
  bd (mm_isHouse p1 h1) fun r2 =>
  if r2 = 0 then
    some ((-1), h1)
  else
    bd (mm_isIn p2 0 3 h1) fun r3 =>
    if r3 = 0 then
      bd (mm_isIn p2 20 23 h1) fun r4 =>
      if r4 = 0 then
        bd (mm_isIn p2 30 33 h1) fun r5 =>
        if r5 = 0 then
          if p2 = 4 then
            ck p1 12 <|
            some (h1 108 (ix p1), h1)
          else
            if p2 = 5 then
              ck p1 12 <|
              some (h1 109 (ix p1), h1)
            else
              if p2 = 6 then
                ck (55 + p1) 115 <|
                some (h1 105 (ix (55 + p1)), h1)
              else
                if p2 = 7 then
                  ck (79 + p1) 115 <|
                  some (h1 105 (ix (79 + p1)), h1)
                else
                  if p2 = 8 then
                    ck (67 + p1) 115 <|
                    some (h1 105 (ix (67 + p1)), h1)
                  else
                    if p2 = 9 then
                      ck (91 + p1) 115 <|
                      some (h1 105 (ix (91 + p1)), h1)
                    else
                      if p2 = 10 then
                        ck (103 + p1) 115 <|
                        some (h1 105 (ix (103 + p1)), h1)
                      else
                        if p2 = 11 then
                          bd2 (mm_rentOf p1 h1) fun r6 h7 =>
                          some (r6, h7)
                        else
                          if p2 = 12 then
                            ck p1 24 <|
                            some (h1 123 (ix p1), h1)
                          else
                            some ((-1), h1)
        else
          bd2 (mm_meltsOf p1 (p2 - 30) h1) fun r8 h9 =>
          some (r8, h9)
      else
        bd2 (mm_gnawsOf p1 (p2 - 20) h1) fun r10 h11 =>
        some (r10, h11)
    else
      bd (mm_wallOf p1 p2 h1) fun r12 =>
      some (r12, h1)
theorem ctm_of (G : GG) (d : Nat) (p1 : Int32) (p2 : Int32) (h0 : PH) (r : Int32 × PH) (hm : mm_of p1 p2 h0 = some r) : Kx G tm_of (d + 5) [.ref (gB G + 104), .int p1, .int p2] h0 (some (.int r.1)) r.2 := by
  refine K_of_V (by decide) (by simp [cat_i, cat_r, fmtV_cat]) (by simp [tm_of]) ?_
  change Vx G tm_of (d + 5) 0 [some (.ref (gB G + 104)), some (.int p1), some (.int p2)] [] h0 (some (.int r.1)) r.2
  unfold mm_of at hm
  refine v_ald_0 dm_of_0 ?_
  refine v_iconst (x := 0) dm_of_1 rfl ?_
  refine v_putIl dm_of_2 fum_146 ft_12_0 sh_104 rf_104_0 hm (fun h1 hm => ?_)
  refine v_ald_0 dm_of_5 ?_
  refine v_ild_1 dm_of_6 ?_
  obtain ⟨r2, he, hm⟩ := bd_s hm
  refine v_cv1i (M' := tm_isHouse) dm_of_7 mlm_181 okm_isHouse sh_104 hc_12 (Nat.le_of_ble_eq_true rfl) (ctm_isHouse G (d + 4) _ _ _ he) ?_
  refine v_if_ne dm_of_10 (fun hc => ?_) (fun hc => ?_)
  · replace hm := it hc hm
    refine v_iconst (x := (-1)) dm_of_13 rfl ?_
    cases hm
    exact v_iret dm_of_14 rfl
  · replace hm := ie hc hm
    refine v_ald_0 dm_of_15 ?_
    refine v_ild_2 dm_of_16 ?_
    refine v_iconst (x := 0) dm_of_17 rfl ?_
    refine v_iconst (x := 3) dm_of_18 rfl ?_
    obtain ⟨r3, he, hm⟩ := bd_s hm
    refine v_cv3i (M' := tm_isIn) dm_of_19 mlm_177 okm_isIn sh_104 hc_12 (Nat.le_of_ble_eq_true rfl) (ctm_isIn G (d + 4) _ _ _ _ _ he) ?_
    refine v_if_eq dm_of_22 (fun hc => ?_) (fun hc => ?_)
    · replace hm := it hc hm
      refine v_ald_0 dm_of_32 ?_
      refine v_ild_2 dm_of_33 ?_
      refine v_bipush (x := 20) dm_of_34 rfl ?_
      refine v_bipush (x := 23) dm_of_36 rfl ?_
      obtain ⟨r4, he, hm⟩ := bd_s hm
      refine v_cv3i (M' := tm_isIn) dm_of_38 mlm_177 okm_isIn sh_104 hc_12 (Nat.le_of_ble_eq_true rfl) (ctm_isIn G (d + 4) _ _ _ _ _ he) ?_
      refine v_if_eq dm_of_41 (fun hc => ?_) (fun hc => ?_)
      · replace hm := it hc hm
        refine v_ald_0 dm_of_54 ?_
        refine v_ild_2 dm_of_55 ?_
        refine v_bipush (x := 30) dm_of_56 rfl ?_
        refine v_bipush (x := 33) dm_of_58 rfl ?_
        obtain ⟨r5, he, hm⟩ := bd_s hm
        refine v_cv3i (M' := tm_isIn) dm_of_60 mlm_177 okm_isIn sh_104 hc_12 (Nat.le_of_ble_eq_true rfl) (ctm_isIn G (d + 4) _ _ _ _ _ he) ?_
        refine v_if_eq dm_of_63 (fun hc => ?_) (fun hc => ?_)
        · replace hm := it hc hm
          refine v_ild_2 dm_of_76 ?_
          refine v_iconst (x := 4) dm_of_77 rfl ?_
          refine v_cmp_ne dm_of_78 (fun hc => ?_) (fun hc => ?_)
          · replace hm := it hc hm
            refine v_ald_0 dm_of_81 ?_
            refine v_getR dm_of_82 fum_19 sh_104 rf_104_7 ?_
            refine v_ild_1 dm_of_85 ?_
            obtain ⟨hi, hm⟩ := ck_s hm
            refine v_iald dm_of_86 sh_108 hi ?_
            cases hm
            exact v_iret dm_of_87 rfl
          · replace hm := ie hc hm
            refine v_ild_2 dm_of_88 ?_
            refine v_iconst (x := 5) dm_of_89 rfl ?_
            refine v_cmp_ne dm_of_90 (fun hc => ?_) (fun hc => ?_)
            · replace hm := it hc hm
              refine v_ald_0 dm_of_93 ?_
              refine v_getR dm_of_94 fum_22 sh_104 rf_104_8 ?_
              refine v_ild_1 dm_of_97 ?_
              obtain ⟨hi, hm⟩ := ck_s hm
              refine v_iald dm_of_98 sh_109 hi ?_
              cases hm
              exact v_iret dm_of_99 rfl
            · replace hm := ie hc hm
              refine v_ild_2 dm_of_100 ?_
              refine v_bipush (x := 6) dm_of_101 rfl ?_
              refine v_cmp_ne dm_of_103 (fun hc => ?_) (fun hc => ?_)
              · replace hm := it hc hm
                refine v_ald_0 dm_of_106 ?_
                refine v_getR dm_of_107 fum_7 sh_104 rf_104_1 ?_
                refine v_bipush (x := 55) dm_of_110 rfl ?_
                refine v_ild_1 dm_of_112 ?_
                refine v_iadd dm_of_113 ?_
                obtain ⟨hi, hm⟩ := ck_s hm
                refine v_iald dm_of_114 sh_105 hi ?_
                cases hm
                exact v_iret dm_of_115 rfl
              · replace hm := ie hc hm
                refine v_ild_2 dm_of_116 ?_
                refine v_bipush (x := 7) dm_of_117 rfl ?_
                refine v_cmp_ne dm_of_119 (fun hc => ?_) (fun hc => ?_)
                · replace hm := it hc hm
                  refine v_ald_0 dm_of_122 ?_
                  refine v_getR dm_of_123 fum_7 sh_104 rf_104_1 ?_
                  refine v_bipush (x := 79) dm_of_126 rfl ?_
                  refine v_ild_1 dm_of_128 ?_
                  refine v_iadd dm_of_129 ?_
                  obtain ⟨hi, hm⟩ := ck_s hm
                  refine v_iald dm_of_130 sh_105 hi ?_
                  cases hm
                  exact v_iret dm_of_131 rfl
                · replace hm := ie hc hm
                  refine v_ild_2 dm_of_132 ?_
                  refine v_bipush (x := 8) dm_of_133 rfl ?_
                  refine v_cmp_ne dm_of_135 (fun hc => ?_) (fun hc => ?_)
                  · replace hm := it hc hm
                    refine v_ald_0 dm_of_138 ?_
                    refine v_getR dm_of_139 fum_7 sh_104 rf_104_1 ?_
                    refine v_bipush (x := 67) dm_of_142 rfl ?_
                    refine v_ild_1 dm_of_144 ?_
                    refine v_iadd dm_of_145 ?_
                    obtain ⟨hi, hm⟩ := ck_s hm
                    refine v_iald dm_of_146 sh_105 hi ?_
                    cases hm
                    exact v_iret dm_of_147 rfl
                  · replace hm := ie hc hm
                    refine v_ild_2 dm_of_148 ?_
                    refine v_bipush (x := 9) dm_of_149 rfl ?_
                    refine v_cmp_ne dm_of_151 (fun hc => ?_) (fun hc => ?_)
                    · replace hm := it hc hm
                      refine v_ald_0 dm_of_154 ?_
                      refine v_getR dm_of_155 fum_7 sh_104 rf_104_1 ?_
                      refine v_bipush (x := 91) dm_of_158 rfl ?_
                      refine v_ild_1 dm_of_160 ?_
                      refine v_iadd dm_of_161 ?_
                      obtain ⟨hi, hm⟩ := ck_s hm
                      refine v_iald dm_of_162 sh_105 hi ?_
                      cases hm
                      exact v_iret dm_of_163 rfl
                    · replace hm := ie hc hm
                      refine v_ild_2 dm_of_164 ?_
                      refine v_bipush (x := 10) dm_of_165 rfl ?_
                      refine v_cmp_ne dm_of_167 (fun hc => ?_) (fun hc => ?_)
                      · replace hm := it hc hm
                        refine v_ald_0 dm_of_170 ?_
                        refine v_getR dm_of_171 fum_7 sh_104 rf_104_1 ?_
                        refine v_bipush (x := 103) dm_of_174 rfl ?_
                        refine v_ild_1 dm_of_176 ?_
                        refine v_iadd dm_of_177 ?_
                        obtain ⟨hi, hm⟩ := ck_s hm
                        refine v_iald dm_of_178 sh_105 hi ?_
                        cases hm
                        exact v_iret dm_of_179 rfl
                      · replace hm := ie hc hm
                        refine v_ild_2 dm_of_180 ?_
                        refine v_bipush (x := 11) dm_of_181 rfl ?_
                        refine v_cmp_ne dm_of_183 (fun hc => ?_) (fun hc => ?_)
                        · replace hm := it hc hm
                          refine v_ald_0 dm_of_186 ?_
                          refine v_ild_1 dm_of_187 ?_
                          obtain ⟨r6, h7, he, hm⟩ := bd2_s hm
                          refine v_cv1i (M' := tm_rentOf) dm_of_188 mlm_388 okm_rentOf sh_104 hc_12 (Nat.le_of_ble_eq_true rfl) (ctm_rentOf G d _ _ _ he) ?_
                          refine v_goto dm_of_191 ?_
                          cases hm
                          exact v_iret dm_of_210 rfl
                        · replace hm := ie hc hm
                          refine v_ild_2 dm_of_194 ?_
                          refine v_bipush (x := 12) dm_of_195 rfl ?_
                          refine v_cmp_ne dm_of_197 (fun hc => ?_) (fun hc => ?_)
                          · replace hm := it hc hm
                            refine v_ald_0 dm_of_200 ?_
                            refine v_getR dm_of_201 fum_68 sh_104 rf_104_38 ?_
                            refine v_ild_1 dm_of_204 ?_
                            obtain ⟨hi, hm⟩ := ck_s hm
                            refine v_iald dm_of_205 sh_123 hi ?_
                            refine v_goto dm_of_206 ?_
                            cases hm
                            exact v_iret dm_of_210 rfl
                          · replace hm := ie hc hm
                            refine v_iconst (x := (-1)) dm_of_209 rfl ?_
                            cases hm
                            exact v_iret dm_of_210 rfl
        · replace hm := ie hc hm
          refine v_ald_0 dm_of_66 ?_
          refine v_ild_1 dm_of_67 ?_
          refine v_ild_2 dm_of_68 ?_
          refine v_bipush (x := 30) dm_of_69 rfl ?_
          refine v_isub dm_of_71 ?_
          obtain ⟨r8, h9, he, hm⟩ := bd2_s hm
          refine v_cv2i (M' := tm_meltsOf) dm_of_72 mlm_397 okm_meltsOf sh_104 hc_12 (Nat.le_of_ble_eq_true rfl) (ctm_meltsOf G d _ _ _ _ he) ?_
          cases hm
          exact v_iret dm_of_75 rfl
      · replace hm := ie hc hm
        refine v_ald_0 dm_of_44 ?_
        refine v_ild_1 dm_of_45 ?_
        refine v_ild_2 dm_of_46 ?_
        refine v_bipush (x := 20) dm_of_47 rfl ?_
        refine v_isub dm_of_49 ?_
        obtain ⟨r10, h11, he, hm⟩ := bd2_s hm
        refine v_cv2i (M' := tm_gnawsOf) dm_of_50 mlm_391 okm_gnawsOf sh_104 hc_12 (Nat.le_of_ble_eq_true rfl) (ctm_gnawsOf G d _ _ _ _ he) ?_
        cases hm
        exact v_iret dm_of_53 rfl
    · replace hm := ie hc hm
      refine v_ald_0 dm_of_25 ?_
      refine v_ild_1 dm_of_26 ?_
      refine v_ild_2 dm_of_27 ?_
      obtain ⟨r12, he, hm⟩ := bd_s hm
      refine v_cv2i (M' := tm_wallOf) dm_of_28 mlm_165 okm_wallOf sh_104 hc_12 (Nat.le_of_ble_eq_true rfl) (ctm_wallOf G (d + 4) _ _ _ _ he) ?_
      cases hm
      exact v_iret dm_of_31 rfl
def mm_book (p1 : Int32) (p2 : Int32) (h0 : PH) : Option (Int32 × PH) :=
  lt (up h0 104 0 0) fun h1 =>
  ck 2 115 <|
  bd (mm_isIn p1 0 ((h1 105 (ix 2)) - 1) h1) fun r2 =>
  if r2 = 0 then
    some ((-2), h1)
  else
    bd (mm_isIn p2 0 3 h1) fun r3 =>
    if r3 = 0 then
      some ((-2), h1)
    else
      ck ((4 * p1) + p2) 600 <|
      some (h1 110 (ix ((4 * p1) + p2)), h1)
theorem ctm_book (G : GG) (d : Nat) (p1 : Int32) (p2 : Int32) (h0 : PH) (r : Int32 × PH) (hm : mm_book p1 p2 h0 = some r) : Kx G tm_book (d + 1) [.ref (gB G + 104), .int p1, .int p2] h0 (some (.int r.1)) r.2 := by
  refine K_of_V (by decide) (by simp [cat_i, cat_r, fmtV_cat]) (by simp [tm_book]) ?_
  change Vx G tm_book (d + 1) 0 [some (.ref (gB G + 104)), some (.int p1), some (.int p2)] [] h0 (some (.int r.1)) r.2
  unfold mm_book at hm
  refine v_ald_0 dm_book_0 ?_
  refine v_iconst (x := 0) dm_book_1 rfl ?_
  refine v_putIl dm_book_2 fum_146 ft_12_0 sh_104 rf_104_0 hm (fun h1 hm => ?_)
  refine v_ald_0 dm_book_5 ?_
  refine v_ild_1 dm_book_6 ?_
  refine v_iconst (x := 0) dm_book_7 rfl ?_
  refine v_ald_0 dm_book_8 ?_
  refine v_getR dm_book_9 fum_7 sh_104 rf_104_1 ?_
  refine v_iconst (x := 2) dm_book_12 rfl ?_
  obtain ⟨hi, hm⟩ := ck_s hm
  refine v_iald dm_book_13 sh_105 hi ?_
  refine v_iconst (x := 1) dm_book_14 rfl ?_
  refine v_isub dm_book_15 ?_
  obtain ⟨r2, he, hm⟩ := bd_s hm
  refine v_cv3i (M' := tm_isIn) dm_book_16 mlm_177 okm_isIn sh_104 hc_12 (Nat.le_of_ble_eq_true rfl) (ctm_isIn G d _ _ _ _ _ he) ?_
  refine v_if_eq dm_book_19 (fun hc => ?_) (fun hc => ?_)
  · replace hm := it hc hm
    refine v_bipush (x := (-2)) dm_book_45 rfl ?_
    cases hm
    exact v_iret dm_book_47 rfl
  · replace hm := ie hc hm
    refine v_ald_0 dm_book_22 ?_
    refine v_ild_2 dm_book_23 ?_
    refine v_iconst (x := 0) dm_book_24 rfl ?_
    refine v_iconst (x := 3) dm_book_25 rfl ?_
    obtain ⟨r3, he, hm⟩ := bd_s hm
    refine v_cv3i (M' := tm_isIn) dm_book_26 mlm_177 okm_isIn sh_104 hc_12 (Nat.le_of_ble_eq_true rfl) (ctm_isIn G d _ _ _ _ _ he) ?_
    refine v_if_eq dm_book_29 (fun hc => ?_) (fun hc => ?_)
    · replace hm := it hc hm
      refine v_bipush (x := (-2)) dm_book_45 rfl ?_
      cases hm
      exact v_iret dm_book_47 rfl
    · replace hm := ie hc hm
      refine v_ald_0 dm_book_32 ?_
      refine v_getR dm_book_33 fum_25 sh_104 rf_104_9 ?_
      refine v_iconst (x := 4) dm_book_36 rfl ?_
      refine v_ild_1 dm_book_37 ?_
      refine v_imul dm_book_38 ?_
      refine v_ild_2 dm_book_39 ?_
      refine v_iadd dm_book_40 ?_
      obtain ⟨hi, hm⟩ := ck_s hm
      refine v_iald dm_book_41 sh_110 hi ?_
      refine v_goto dm_book_42 ?_
      cases hm
      exact v_iret dm_book_47 rfl
def mm_allOf_L4 (p1 : Int32) (h0 : PH) : Nat → Int32 → Int32 → Option (Int32)
  | 0, _, _ => none
  | n + 1, v2, v3 =>
    if (h0 104 6) ≤ v3 then
      some v2
    else
      ck (p1 + v3) 115 <|
      lt (v2 + (h0 105 (ix (p1 + v3)))) fun x1 =>
      mm_allOf_L4 p1 h0 n x1 (v3 + 1)
def mm_allOf (p1 : Int32) (h0 : PH) : Option (Int32) :=
  mm_allOf_L4 p1 h0 FU 0 0
theorem wm_allOf_L4 (G : GG) (d : Nat) (p1 : Int32) (h0 : PH) (r : Int32) : ∀ (n : Nat) (v2 : Int32) (v3 : Int32), mm_allOf_L4 p1 h0 n v2 v3 = some r → Vx G tm_allOf d 4 [some (.ref (gB G + 104)), some (.int p1), some (.int v2), some (.int v3)] [] h0 (some (.int r)) h0 := by
  intro n
  induction n with
  | zero => intro v2 v3 hm; cases hm
  | succ n ih =>
    intro v2 v3 hm
    unfold mm_allOf_L4 at hm
    refine v_ild_3 dm_allOf_4 ?_
    refine v_ald_0 dm_allOf_5 ?_
    refine v_getI dm_allOf_6 fum_158 sh_104 rf_104_6 ?_
    refine v_cmp_ge dm_allOf_9 (fun hc => ?_) (fun hc => ?_)
    · replace hm := it hc hm
      refine v_ild_2 dm_allOf_29 ?_
      cases hm
      exact v_iret dm_allOf_30 rfl
    · replace hm := ie hc hm
      refine v_ild_2 dm_allOf_12 ?_
      refine v_ald_0 dm_allOf_13 ?_
      refine v_getR dm_allOf_14 fum_7 sh_104 rf_104_1 ?_
      refine v_ild_1 dm_allOf_17 ?_
      refine v_ild_3 dm_allOf_18 ?_
      refine v_iadd dm_allOf_19 ?_
      obtain ⟨hi, hm⟩ := ck_s hm
      refine v_iald dm_allOf_20 sh_105 hi ?_
      refine v_iadd dm_allOf_21 ?_
      refine v_top hm (fun x1 hm => ?_)
      refine v_ist_2 dm_allOf_22 (by decide) rfl ?_
      refine v_inc_3 1 dm_allOf_23 rfl (by decide) rfl ?_
      refine v_goto dm_allOf_26 ?_
      exact v_kw (ih _ _ hm) (wk_s (wk_s (wk_s (wk_s wk_e))))
theorem ctm_allOf (G : GG) (d : Nat) (p1 : Int32) (h0 : PH) (r : Int32) (hm : mm_allOf p1 h0 = some r) : Kx G tm_allOf d [.ref (gB G + 104), .int p1] h0 (some (.int r)) h0 := by
  refine K_of_V (by decide) (by simp [cat_i, cat_r, fmtV_cat]) (by simp [tm_allOf]) ?_
  change Vx G tm_allOf d 0 [some (.ref (gB G + 104)), some (.int p1), none, none] [] h0 (some (.int r)) h0
  unfold mm_allOf at hm
  refine v_iconst (x := 0) dm_allOf_0 rfl ?_
  refine v_ist_2 dm_allOf_1 (by decide) rfl ?_
  refine v_iconst (x := 0) dm_allOf_2 rfl ?_
  refine v_ist_3 dm_allOf_3 (by decide) rfl ?_
  exact v_kw (wm_allOf_L4 G d _ _ _ FU _ _ hm) (wk_s (wk_s (wk_s (wk_s wk_e))))
def mm_goes_L34 (p1 : Int32) (p2 : Int32) (k0 : PH → Option (Int32 × PH)) : Nat → Int32 → PH → Option (Int32 × PH)
  | 0, _, _ => none
  | n + 1, v3, hv =>
    if p1 ≤ v3 then
      k0 hv
    else
      bd2 (mm_goesBy hv) fun r5 h6 =>
      mm_goes_L34 p1 p2 k0 n (v3 + 1) h6
def mm_goes (p1 : Int32) (p2 : Int32) (h0 : PH) : Option (Int32 × PH) :=
  lt (up h0 104 0 0) fun h1 =>
  bd (mm_isIn p1 1 60 h1) fun r2 =>
  if r2 = 0 then
    some ((-1), h1)
  else
    bd (mm_isIn p2 0 3 h1) fun r3 =>
    if r3 = 0 then
      some ((-1), h1)
    else
      bd (mm_thinks h1) fun h4 =>
      mm_goes_L34 p1 p2 (fun (h7 : PH) =>
        jn1 (fun (x9 : Int32) =>
          bd (mm_endsThought h7) fun h10 =>
          some (x9, h10)) fun j8 =>
        if p2 = 0 then
          ck 5 115 <|
          j8 (h7 105 (ix 5))
        else
          if p2 = 1 then
            bd (mm_standingSet h7) fun r11 =>
            bd (mm_onesOf r11 h7) fun r12 =>
            j8 r12
          else
            jn1 (fun (x14 : Int32) =>
              bd (mm_allOf x14 h7) fun r15 =>
              j8 r15) fun j13 =>
            if p2 = 2 then
              j13 67
            else
              j13 79) FU 0 h4
theorem wm_goes_L34 (G : GG) (d : Nat) (p1 : Int32) (p2 : Int32) (k0 : PH → Option (Int32 × PH)) (r : Int32 × PH) (kk0 : ∀ (hy : PH), k0 hy = some r → Vx G tm_goes (d + 7) 50 [some (.ref (gB G + 104)), none, some (.int p2), none] [] hy (some (.int r.1)) r.2) : ∀ (n : Nat) (v3 : Int32) (hv : PH), mm_goes_L34 p1 p2 k0 n v3 hv = some r → Vx G tm_goes (d + 7) 34 [some (.ref (gB G + 104)), some (.int p1), some (.int p2), some (.int v3)] [] hv (some (.int r.1)) r.2 := by
  intro n
  induction n with
  | zero => intro v3 hv hm; cases hm
  | succ n ih =>
    intro v3 hv hm
    unfold mm_goes_L34 at hm
    refine v_ild_3 dm_goes_34 ?_
    refine v_ild_1 dm_goes_35 ?_
    refine v_cmp_ge dm_goes_36 (fun hc => ?_) (fun hc => ?_)
    · replace hm := it hc hm
      exact v_kw (kk0 _ hm) (wk_s (wk_n (wk_s (wk_n wk_e))))
    · replace hm := ie hc hm
      refine v_ald_0 dm_goes_39 ?_
      obtain ⟨r5, h6, he, hm⟩ := bd2_s hm
      refine v_cv0i (M' := tm_goesBy) dm_goes_40 mlm_424 okm_goesBy sh_104 hc_12 (Nat.le_of_ble_eq_true rfl) (ctm_goesBy G d _ _ he) ?_
      refine v_pop dm_goes_43 rfl ?_
      refine v_inc_3 1 dm_goes_44 rfl (by decide) rfl ?_
      refine v_goto dm_goes_47 ?_
      exact v_kw (ih _ _ hm) (wk_s (wk_s (wk_s (wk_s wk_e))))
theorem ctm_goes (G : GG) (d : Nat) (p1 : Int32) (p2 : Int32) (h0 : PH) (r : Int32 × PH) (hm : mm_goes p1 p2 h0 = some r) : Kx G tm_goes (d + 7) [.ref (gB G + 104), .int p1, .int p2] h0 (some (.int r.1)) r.2 := by
  refine K_of_V (by decide) (by simp [cat_i, cat_r, fmtV_cat]) (by simp [tm_goes]) ?_
  change Vx G tm_goes (d + 7) 0 [some (.ref (gB G + 104)), some (.int p1), some (.int p2), none] [] h0 (some (.int r.1)) r.2
  unfold mm_goes at hm
  refine v_ald_0 dm_goes_0 ?_
  refine v_iconst (x := 0) dm_goes_1 rfl ?_
  refine v_putIl dm_goes_2 fum_146 ft_12_0 sh_104 rf_104_0 hm (fun h1 hm => ?_)
  refine v_ald_0 dm_goes_5 ?_
  refine v_ild_1 dm_goes_6 ?_
  refine v_iconst (x := 1) dm_goes_7 rfl ?_
  refine v_bipush (x := 60) dm_goes_8 rfl ?_
  obtain ⟨r2, he, hm⟩ := bd_s hm
  refine v_cv3i (M' := tm_isIn) dm_goes_10 mlm_177 okm_isIn sh_104 hc_12 (Nat.le_of_ble_eq_true rfl) (ctm_isIn G (d + 6) _ _ _ _ _ he) ?_
  refine v_if_eq dm_goes_13 (fun hc => ?_) (fun hc => ?_)
  · replace hm := it hc hm
    refine v_iconst (x := (-1)) dm_goes_26 rfl ?_
    cases hm
    exact v_iret dm_goes_27 rfl
  · replace hm := ie hc hm
    refine v_ald_0 dm_goes_16 ?_
    refine v_ild_2 dm_goes_17 ?_
    refine v_iconst (x := 0) dm_goes_18 rfl ?_
    refine v_iconst (x := 3) dm_goes_19 rfl ?_
    obtain ⟨r3, he, hm⟩ := bd_s hm
    refine v_cv3i (M' := tm_isIn) dm_goes_20 mlm_177 okm_isIn sh_104 hc_12 (Nat.le_of_ble_eq_true rfl) (ctm_isIn G (d + 6) _ _ _ _ _ he) ?_
    refine v_if_ne dm_goes_23 (fun hc => ?_) (fun hc => ?_)
    · replace hm := it hc hm
      refine v_iconst (x := (-1)) dm_goes_26 rfl ?_
      cases hm
      exact v_iret dm_goes_27 rfl
    · replace hm := ie hc hm
      refine v_ald_0 dm_goes_28 ?_
      obtain ⟨h4, he, hm⟩ := bd_s hm
      refine v_cv0v (M' := tm_thinks) dm_goes_29 mlm_427 okm_thinks sh_104 hc_12 (Nat.le_of_ble_eq_true rfl) (ctm_thinks G (d + 6) _ _ he) ?_
      refine v_iconst (x := 0) dm_goes_32 rfl ?_
      refine v_ist_3 dm_goes_33 (by decide) rfl ?_
      refine v_kw (wm_goes_L34 G d _ _ _ _ (fun h7 hm => ?_) FU _ _ hm) (wk_s (wk_s (wk_s (wk_s wk_e))))
      refine v_ild_2 dm_goes_50 ?_
      refine v_j1 (fun (x9 : Int32) => Vx G tm_goes (d + 7) 95 [some (.ref (gB G + 104)), none, none, none] [.int x9] h7 (some (.int r.1)) r.2) hm (fun x9 hm => ?_) (fun j8 kj8 hm => ?_)
      · refine v_ist_3 dm_goes_95 (by decide) rfl ?_
        refine v_ald_0 dm_goes_96 ?_
        obtain ⟨h10, he, hm⟩ := bd_s hm
        refine v_cv0v (M' := tm_endsThought) dm_goes_97 mlm_433 okm_endsThought sh_104 hc_12 (Nat.le_of_ble_eq_true rfl) (ctm_endsThought G (d + 6) _ _ he) ?_
        refine v_ild_3 dm_goes_100 ?_
        cases hm
        exact v_iret dm_goes_101 rfl
      · refine v_if_ne dm_goes_51 (fun hc => ?_) (fun hc => ?_)
        · replace hm := it hc hm
          refine v_ald_0 dm_goes_54 ?_
          refine v_getR dm_goes_55 fum_7 sh_104 rf_104_1 ?_
          refine v_iconst (x := 5) dm_goes_58 rfl ?_
          obtain ⟨hi, hm⟩ := ck_s hm
          refine v_iald dm_goes_59 sh_105 hi ?_
          refine v_goto dm_goes_60 ?_
          exact v_kw (kj8 _ hm) (wk_s (wk_n (wk_n (wk_n wk_e))))
        · replace hm := ie hc hm
          refine v_ild_2 dm_goes_63 ?_
          refine v_iconst (x := 1) dm_goes_64 rfl ?_
          refine v_cmp_ne dm_goes_65 (fun hc => ?_) (fun hc => ?_)
          · replace hm := it hc hm
            refine v_ald_0 dm_goes_68 ?_
            refine v_ald_0 dm_goes_69 ?_
            obtain ⟨r11, he, hm⟩ := bd_s hm
            refine v_cv0i (M' := tm_standingSet) dm_goes_70 mlm_409 okm_standingSet sh_104 hc_12 (Nat.le_of_ble_eq_true rfl) (ctm_standingSet G (d + 3) _ _ he) ?_
            obtain ⟨r12, he, hm⟩ := bd_s hm
            refine v_cv1i (M' := tm_onesOf) dm_goes_73 mlm_421 okm_onesOf sh_104 hc_12 (Nat.le_of_ble_eq_true rfl) (ctm_onesOf G (d + 6) _ _ _ he) ?_
            refine v_goto dm_goes_76 ?_
            exact v_kw (kj8 _ hm) (wk_s (wk_n (wk_n (wk_n wk_e))))
          · replace hm := ie hc hm
            refine v_ald_0 dm_goes_79 ?_
            refine v_ild_2 dm_goes_80 ?_
            refine v_iconst (x := 2) dm_goes_81 rfl ?_
            refine v_j1 (fun (x14 : Int32) => Vx G tm_goes (d + 7) 92 [some (.ref (gB G + 104)), none, none, none] [.int x14, .ref (gB G + 104)] h7 (some (.int r.1)) r.2) hm (fun x14 hm => ?_) (fun j13 kj13 hm => ?_)
            · obtain ⟨r15, he, hm⟩ := bd_s hm
              refine v_cv1i (M' := tm_allOf) dm_goes_92 mlm_430 okm_allOf sh_104 hc_12 (Nat.le_of_ble_eq_true rfl) (ctm_allOf G (d + 6) _ _ _ he) ?_
              exact v_kw (kj8 _ hm) (wk_s (wk_n (wk_n (wk_n wk_e))))
            · refine v_cmp_ne dm_goes_82 (fun hc => ?_) (fun hc => ?_)
              · replace hm := it hc hm
                refine v_bipush (x := 67) dm_goes_85 rfl ?_
                refine v_goto dm_goes_87 ?_
                exact v_kw (kj13 _ hm) (wk_s (wk_n (wk_n (wk_n wk_e))))
              · replace hm := ie hc hm
                refine v_bipush (x := 79) dm_goes_90 rfl ?_
                exact v_kw (kj13 _ hm) (wk_s (wk_n (wk_n (wk_n wk_e))))
def mm_stands_L22 (p1 : Int32) (k0 : Int32 → PH → Option (Int32 × PH)) : Nat → Int32 → PH → Option (Int32 × PH)
  | 0, _, _ => none
  | n + 1, v2, hv =>
    bd (mm_doesStand p1 hv) fun r4 =>
    if r4 = 0 then
      k0 v2 hv
    else
      if 200 < v2 then
        k0 v2 hv
      else
        bd2 (mm_goesBy hv) fun r5 h6 =>
        lt (v2 + 1) fun x7 =>
        mm_stands_L22 p1 k0 n x7 h6
def mm_stands (p1 : Int32) (h0 : PH) : Option (Int32 × PH) :=
  lt (up h0 104 0 0) fun h1 =>
  bd (mm_isHouse p1 h1) fun r2 =>
  if r2 = 0 then
    some ((-2), h1)
  else
    bd (mm_thinks h1) fun h3 =>
    mm_stands_L22 p1 (fun (x8 : Int32) (h9 : PH) =>
      bd (mm_endsThought h9) fun h10 =>
      if x8 ≤ 200 then
        some (x8, h10)
      else
        some ((-1), h10)) FU 0 h3
theorem wm_stands_L22 (G : GG) (d : Nat) (p1 : Int32) (k0 : Int32 → PH → Option (Int32 × PH)) (r : Int32 × PH) (kk0 : ∀ (y2 : Int32) (hy : PH), k0 y2 hy = some r → Vx G tm_stands (d + 7) 49 [some (.ref (gB G + 104)), none, some (.int y2)] [] hy (some (.int r.1)) r.2) : ∀ (n : Nat) (v2 : Int32) (hv : PH), mm_stands_L22 p1 k0 n v2 hv = some r → Vx G tm_stands (d + 7) 22 [some (.ref (gB G + 104)), some (.int p1), some (.int v2)] [] hv (some (.int r.1)) r.2 := by
  intro n
  induction n with
  | zero => intro v2 hv hm; cases hm
  | succ n ih =>
    intro v2 hv hm
    unfold mm_stands_L22 at hm
    refine v_ald_0 dm_stands_22 ?_
    refine v_ild_1 dm_stands_23 ?_
    obtain ⟨r4, he, hm⟩ := bd_s hm
    refine v_cv1i (M' := tm_doesStand) dm_stands_24 mlm_173 okm_doesStand sh_104 hc_12 (Nat.le_of_ble_eq_true rfl) (ctm_doesStand G (d + 4) _ _ _ he) ?_
    refine v_if_eq dm_stands_27 (fun hc => ?_) (fun hc => ?_)
    · replace hm := it hc hm
      exact v_kw (kk0 _ _ hm) (wk_s (wk_n (wk_s wk_e)))
    · replace hm := ie hc hm
      refine v_ild_2 dm_stands_30 ?_
      refine v_sipush (x := 200) dm_stands_31 rfl ?_
      refine v_cmp_gt dm_stands_34 (fun hc => ?_) (fun hc => ?_)
      · replace hm := it hc hm
        exact v_kw (kk0 _ _ hm) (wk_s (wk_n (wk_s wk_e)))
      · replace hm := ie hc hm
        refine v_ald_0 dm_stands_37 ?_
        obtain ⟨r5, h6, he, hm⟩ := bd2_s hm
        refine v_cv0i (M' := tm_goesBy) dm_stands_38 mlm_424 okm_goesBy sh_104 hc_12 (Nat.le_of_ble_eq_true rfl) (ctm_goesBy G d _ _ he) ?_
        refine v_pop dm_stands_41 rfl ?_
        refine v_ild_2 dm_stands_42 ?_
        refine v_iconst (x := 1) dm_stands_43 rfl ?_
        refine v_iadd dm_stands_44 ?_
        refine v_top hm (fun x7 hm => ?_)
        refine v_ist_2 dm_stands_45 (by decide) rfl ?_
        refine v_goto dm_stands_46 ?_
        exact v_kw (ih _ _ hm) (wk_s (wk_s (wk_s wk_e)))
theorem ctm_stands (G : GG) (d : Nat) (p1 : Int32) (h0 : PH) (r : Int32 × PH) (hm : mm_stands p1 h0 = some r) : Kx G tm_stands (d + 7) [.ref (gB G + 104), .int p1] h0 (some (.int r.1)) r.2 := by
  refine K_of_V (by decide) (by simp [cat_i, cat_r, fmtV_cat]) (by simp [tm_stands]) ?_
  change Vx G tm_stands (d + 7) 0 [some (.ref (gB G + 104)), some (.int p1), none] [] h0 (some (.int r.1)) r.2
  unfold mm_stands at hm
  refine v_ald_0 dm_stands_0 ?_
  refine v_iconst (x := 0) dm_stands_1 rfl ?_
  refine v_putIl dm_stands_2 fum_146 ft_12_0 sh_104 rf_104_0 hm (fun h1 hm => ?_)
  refine v_ald_0 dm_stands_5 ?_
  refine v_ild_1 dm_stands_6 ?_
  obtain ⟨r2, he, hm⟩ := bd_s hm
  refine v_cv1i (M' := tm_isHouse) dm_stands_7 mlm_181 okm_isHouse sh_104 hc_12 (Nat.le_of_ble_eq_true rfl) (ctm_isHouse G (d + 6) _ _ _ he) ?_
  refine v_if_ne dm_stands_10 (fun hc => ?_) (fun hc => ?_)
  · replace hm := it hc hm
    refine v_bipush (x := (-2)) dm_stands_13 rfl ?_
    cases hm
    exact v_iret dm_stands_15 rfl
  · replace hm := ie hc hm
    refine v_ald_0 dm_stands_16 ?_
    obtain ⟨h3, he, hm⟩ := bd_s hm
    refine v_cv0v (M' := tm_thinks) dm_stands_17 mlm_427 okm_thinks sh_104 hc_12 (Nat.le_of_ble_eq_true rfl) (ctm_thinks G (d + 6) _ _ he) ?_
    refine v_iconst (x := 0) dm_stands_20 rfl ?_
    refine v_ist_2 dm_stands_21 (by decide) rfl ?_
    refine v_kw (wm_stands_L22 G d _ _ _ (fun x8 h9 hm => ?_) FU _ _ hm) (wk_s (wk_s (wk_s wk_e)))
    refine v_ald_0 dm_stands_49 ?_
    obtain ⟨h10, he, hm⟩ := bd_s hm
    refine v_cv0v (M' := tm_endsThought) dm_stands_50 mlm_433 okm_endsThought sh_104 hc_12 (Nat.le_of_ble_eq_true rfl) (ctm_endsThought G (d + 6) _ _ he) ?_
    refine v_ild_2 dm_stands_53 ?_
    refine v_sipush (x := 200) dm_stands_54 rfl ?_
    refine v_cmp_le dm_stands_57 (fun hc => ?_) (fun hc => ?_)
    · replace hm := it hc hm
      refine v_ild_2 dm_stands_64 ?_
      cases hm
      exact v_iret dm_stands_65 rfl
    · replace hm := ie hc hm
      refine v_iconst (x := (-1)) dm_stands_60 rfl ?_
      refine v_goto dm_stands_61 ?_
      cases hm
      exact v_iret dm_stands_65 rfl
def mm_stepCost (p1 : Int32) (p2 : Int32) (h0 : PH) : Option (Int32) :=
  bd (mm_sumOf p1 h0) fun r1 =>
  bd (mm_sumOf p2 h0) fun r2 =>
  some (r1 + r2)
theorem ctm_stepCost (G : GG) (d : Nat) (p1 : Int32) (p2 : Int32) (h0 : PH) (r : Int32) (hm : mm_stepCost p1 p2 h0 = some r) : Kx G tm_stepCost (d + 2) [.ref (gB G + 104), .int p1, .int p2] h0 (some (.int r)) h0 := by
  refine K_of_V (by decide) (by simp [cat_i, cat_r, fmtV_cat]) (by simp [tm_stepCost]) ?_
  change Vx G tm_stepCost (d + 2) 0 [some (.ref (gB G + 104)), some (.int p1), some (.int p2)] [] h0 (some (.int r)) h0
  unfold mm_stepCost at hm
  refine v_ald_0 dm_stepCost_0 ?_
  refine v_ild_1 dm_stepCost_1 ?_
  obtain ⟨r1, he, hm⟩ := bd_s hm
  refine v_cv1i (M' := tm_sumOf) dm_stepCost_2 mlm_169 okm_sumOf sh_104 hc_12 (Nat.le_of_ble_eq_true rfl) (ctm_sumOf G d _ _ _ he) ?_
  refine v_ald_0 dm_stepCost_5 ?_
  refine v_ild_2 dm_stepCost_6 ?_
  obtain ⟨r2, he, hm⟩ := bd_s hm
  refine v_cv1i (M' := tm_sumOf) dm_stepCost_7 mlm_169 okm_sumOf sh_104 hc_12 (Nat.le_of_ble_eq_true rfl) (ctm_sumOf G d _ _ _ he) ?_
  refine v_iadd dm_stepCost_10 ?_
  cases hm
  exact v_iret dm_stepCost_11 rfl
def mm_findsCosts_L2 (p1 : Int32) (p2 : Int32) (k0 : PH → Option (PH)) : Nat → Int32 → PH → Option (PH)
  | 0, _, _ => none
  | n + 1, v3, hv =>
    if (hv 104 6) ≤ v3 then
      k0 hv
    else
      jn1 (fun (x2 : Int32) =>
        ck v3 12 <|
        lt (up hv 126 (ix v3) x2) fun h3 =>
        mm_findsCosts_L2 p1 p2 k0 n (v3 + 1) h3) fun j1 =>
      if v3 = p1 then
        j1 0
      else
        j1 100000000
def mm_findsCosts_L59 (p2 : Int32) (p3 : Int32) (p4 : Int32) (k0 : PH → Option (PH)) : Nat → Int32 → PH → Option (PH)
  | 0, _, _ => none
  | n + 1, v5, hv =>
    if (hv 104 6) ≤ v5 then
      k0 hv
    else
      ck p4 24 <|
      bd (mm_has (hv 123 (ix p4)) v5 hv) fun r5 =>
      if r5 = 0 then
        mm_findsCosts_L59 p2 p3 p4 k0 n (v5 + 1) hv
      else
        ck p4 12 <|
        if (hv 126 (ix p4)) = 100000000 then
          mm_findsCosts_L59 p2 p3 p4 k0 n (v5 + 1) hv
        else
          jn1 (fun (x7 : Int32) =>
            ck v5 12 <|
            bd (mm_lesser (hv 126 (ix v5)) x7 hv) fun r8 =>
            ck v5 12 <|
            lt (up hv 126 (ix v5) r8) fun h9 =>
            mm_findsCosts_L59 p2 p3 p4 k0 n (v5 + 1) h9) fun j6 =>
          if p2 = 0 then
            ck p4 12 <|
            bd (mm_stepCost p4 v5 hv) fun r10 =>
            j6 ((hv 126 (ix p4)) + r10)
          else
            ck p4 12 <|
            bd (mm_stepCost p4 v5 hv) fun r11 =>
            bd (mm_greater (hv 126 (ix p4)) r11 hv) fun r12 =>
            j6 r12
def mm_findsCosts_L47 (p2 : Int32) (p3 : Int32) (k0 : PH → Option (PH)) : Nat → Int32 → PH → Option (PH)
  | 0, _, _ => none
  | n + 1, v4, hv =>
    if (hv 104 6) ≤ v4 then
      k0 hv
    else
      mm_findsCosts_L59 p2 p3 v4 (fun (h13 : PH) =>
        mm_findsCosts_L47 p2 p3 k0 n (v4 + 1) h13) FU 0 hv
def mm_findsCosts_L36 (p2 : Int32) : Nat → Int32 → PH → Option (PH)
  | 0, _, _ => none
  | n + 1, v3, hv =>
    if (hv 104 6) ≤ v3 then
      some hv
    else
      mm_findsCosts_L47 p2 v3 (fun (h14 : PH) =>
        mm_findsCosts_L36 p2 n (v3 + 1) h14) FU 0 hv
def mm_findsCosts (p1 : Int32) (p2 : Int32) (h0 : PH) : Option (PH) :=
  mm_findsCosts_L2 p1 p2 (fun (h4 : PH) =>
    mm_findsCosts_L36 p2 FU 0 h4) FU 0 h0
theorem wm_findsCosts_L2 (G : GG) (d : Nat) (p1 : Int32) (p2 : Int32) (k0 : PH → Option (PH)) (r : PH) (kk0 : ∀ (hy : PH), k0 hy = some r → Vx G tm_findsCosts (d + 3) 34 [some (.ref (gB G + 104)), none, some (.int p2), none, none, none, none] [] hy none r) : ∀ (n : Nat) (v3 : Int32) (hv : PH), mm_findsCosts_L2 p1 p2 k0 n v3 hv = some r → Vx G tm_findsCosts (d + 3) 2 [some (.ref (gB G + 104)), some (.int p1), some (.int p2), some (.int v3), none, none, none] [] hv none r := by
  intro n
  induction n with
  | zero => intro v3 hv hm; cases hm
  | succ n ih =>
    intro v3 hv hm
    unfold mm_findsCosts_L2 at hm
    refine v_ild_3 dm_findsCosts_2 ?_
    refine v_ald_0 dm_findsCosts_3 ?_
    refine v_getI dm_findsCosts_4 fum_158 sh_104 rf_104_6 ?_
    refine v_cmp_ge dm_findsCosts_7 (fun hc => ?_) (fun hc => ?_)
    · replace hm := it hc hm
      exact v_kw (kk0 _ hm) (wk_s (wk_n (wk_s (wk_n (wk_n (wk_n (wk_n wk_e)))))))
    · replace hm := ie hc hm
      refine v_ald_0 dm_findsCosts_10 ?_
      refine v_getR dm_findsCosts_11 fum_77 sh_104 rf_104_41 ?_
      refine v_ild_3 dm_findsCosts_14 ?_
      refine v_ild_3 dm_findsCosts_15 ?_
      refine v_ild_1 dm_findsCosts_16 ?_
      refine v_j1 (fun (x2 : Int32) => Vx G tm_findsCosts (d + 3) 27 [some (.ref (gB G + 104)), some (.int p1), some (.int p2), some (.int v3), none, none, none] [.int x2, .int v3, .ref (gB G + 126)] hv none r) hm (fun x2 hm => ?_) (fun j1 kj1 hm => ?_)
      · obtain ⟨hi, hm⟩ := ck_s hm
        refine v_iastl dm_findsCosts_27 sh_126 hi hm (fun h3 hm => ?_)
        refine v_inc_3 1 dm_findsCosts_28 rfl (by decide) rfl ?_
        refine v_goto dm_findsCosts_31 ?_
        exact v_kw (ih _ _ hm) (wk_s (wk_s (wk_s (wk_s (wk_n (wk_n (wk_n wk_e)))))))
      · refine v_cmp_ne dm_findsCosts_17 (fun hc => ?_) (fun hc => ?_)
        · replace hm := it hc hm
          refine v_iconst (x := 0) dm_findsCosts_20 rfl ?_
          refine v_goto dm_findsCosts_21 ?_
          exact v_kw (kj1 _ hm) (wk_s (wk_s (wk_s (wk_s (wk_n (wk_n (wk_n wk_e)))))))
        · replace hm := ie hc hm
          refine v_ldcw (x := 100000000) dm_findsCosts_24 lcm_436 ?_
          exact v_kw (kj1 _ hm) (wk_s (wk_s (wk_s (wk_s (wk_n (wk_n (wk_n wk_e)))))))
theorem wm_findsCosts_L59 (G : GG) (d : Nat) (p2 : Int32) (p3 : Int32) (p4 : Int32) (k0 : PH → Option (PH)) (r : PH) (kk0 : ∀ (hy : PH), k0 hy = some r → Vx G tm_findsCosts (d + 3) 170 [some (.ref (gB G + 104)), none, some (.int p2), some (.int p3), some (.int p4), none, none] [] hy none r) : ∀ (n : Nat) (v5 : Int32) (hv : PH), mm_findsCosts_L59 p2 p3 p4 k0 n v5 hv = some r → Vx G tm_findsCosts (d + 3) 59 [some (.ref (gB G + 104)), none, some (.int p2), some (.int p3), some (.int p4), some (.int v5), none] [] hv none r := by
  intro n
  induction n with
  | zero => intro v5 hv hm; cases hm
  | succ n ih =>
    intro v5 hv hm
    unfold mm_findsCosts_L59 at hm
    refine v_ild_5 dm_findsCosts_59 ?_
    refine v_ald_0 dm_findsCosts_61 ?_
    refine v_getI dm_findsCosts_62 fum_158 sh_104 rf_104_6 ?_
    refine v_cmp_ge dm_findsCosts_65 (fun hc => ?_) (fun hc => ?_)
    · replace hm := it hc hm
      exact v_kw (kk0 _ hm) (wk_s (wk_n (wk_s (wk_s (wk_s (wk_n (wk_n wk_e)))))))
    · replace hm := ie hc hm
      refine v_ald_0 dm_findsCosts_68 ?_
      refine v_ald_0 dm_findsCosts_69 ?_
      refine v_getR dm_findsCosts_70 fum_68 sh_104 rf_104_38 ?_
      refine v_ild_4 dm_findsCosts_73 ?_
      obtain ⟨hi, hm⟩ := ck_s hm
      refine v_iald dm_findsCosts_75 sh_123 hi ?_
      refine v_ild_5 dm_findsCosts_76 ?_
      obtain ⟨r5, he, hm⟩ := bd_s hm
      refine v_cv2i (M' := tm_has) dm_findsCosts_78 mlm_360 okm_has sh_104 hc_12 (Nat.le_of_ble_eq_true rfl) (ctm_has G (d + 2) _ _ _ _ he) ?_
      refine v_if_eq dm_findsCosts_81 (fun hc => ?_) (fun hc => ?_)
      · replace hm := it hc hm
        refine v_inc_5 1 dm_findsCosts_164 rfl (by decide) rfl ?_
        refine v_goto dm_findsCosts_167 ?_
        exact v_kw (ih _ _ hm) (wk_s (wk_n (wk_s (wk_s (wk_s (wk_s (wk_n wk_e)))))))
      · replace hm := ie hc hm
        refine v_ald_0 dm_findsCosts_84 ?_
        refine v_getR dm_findsCosts_85 fum_77 sh_104 rf_104_41 ?_
        refine v_ild_4 dm_findsCosts_88 ?_
        obtain ⟨hi, hm⟩ := ck_s hm
        refine v_iald dm_findsCosts_90 sh_126 hi ?_
        refine v_ldcw (x := 100000000) dm_findsCosts_91 lcm_436 ?_
        refine v_cmp_ne dm_findsCosts_94 (fun hc => ?_) (fun hc => ?_)
        · replace hm := it hc hm
          refine v_goto dm_findsCosts_97 ?_
          refine v_inc_5 1 dm_findsCosts_164 rfl (by decide) rfl ?_
          refine v_goto dm_findsCosts_167 ?_
          exact v_kw (ih _ _ hm) (wk_s (wk_n (wk_s (wk_s (wk_s (wk_s (wk_n wk_e)))))))
        · replace hm := ie hc hm
          refine v_ild_2 dm_findsCosts_100 ?_
          refine v_j1 (fun (x7 : Int32) => Vx G tm_findsCosts (d + 3) 142 [some (.ref (gB G + 104)), none, some (.int p2), some (.int p3), some (.int p4), some (.int v5), none] [.int x7] hv none r) hm (fun x7 hm => ?_) (fun j6 kj6 hm => ?_)
          · refine v_ist_6 dm_findsCosts_142 (by decide) rfl ?_
            refine v_ald_0 dm_findsCosts_144 ?_
            refine v_getR dm_findsCosts_145 fum_77 sh_104 rf_104_41 ?_
            refine v_ild_5 dm_findsCosts_148 ?_
            refine v_ald_0 dm_findsCosts_150 ?_
            refine v_ald_0 dm_findsCosts_151 ?_
            refine v_getR dm_findsCosts_152 fum_77 sh_104 rf_104_41 ?_
            refine v_ild_5 dm_findsCosts_155 ?_
            obtain ⟨hi, hm⟩ := ck_s hm
            refine v_iald dm_findsCosts_157 sh_126 hi ?_
            refine v_ild_6 dm_findsCosts_158 ?_
            obtain ⟨r8, he, hm⟩ := bd_s hm
            refine v_cv2i (M' := tm_lesser) dm_findsCosts_160 mlm_400 okm_lesser sh_104 hc_12 (Nat.le_of_ble_eq_true rfl) (ctm_lesser G (d + 2) _ _ _ _ he) ?_
            obtain ⟨hi, hm⟩ := ck_s hm
            refine v_iastl dm_findsCosts_163 sh_126 hi hm (fun h9 hm => ?_)
            refine v_inc_5 1 dm_findsCosts_164 rfl (by decide) rfl ?_
            refine v_goto dm_findsCosts_167 ?_
            exact v_kw (ih _ _ hm) (wk_s (wk_n (wk_s (wk_s (wk_s (wk_s (wk_n wk_e)))))))
          · refine v_if_eq dm_findsCosts_101 (fun hc => ?_) (fun hc => ?_)
            · replace hm := it hc hm
              refine v_ald_0 dm_findsCosts_126 ?_
              refine v_getR dm_findsCosts_127 fum_77 sh_104 rf_104_41 ?_
              refine v_ild_4 dm_findsCosts_130 ?_
              obtain ⟨hi, hm⟩ := ck_s hm
              refine v_iald dm_findsCosts_132 sh_126 hi ?_
              refine v_ald_0 dm_findsCosts_133 ?_
              refine v_ild_4 dm_findsCosts_134 ?_
              refine v_ild_5 dm_findsCosts_136 ?_
              obtain ⟨r10, he, hm⟩ := bd_s hm
              refine v_cv2i (M' := tm_stepCost) dm_findsCosts_138 mlm_437 okm_stepCost sh_104 hc_12 (Nat.le_of_ble_eq_true rfl) (ctm_stepCost G d _ _ _ _ he) ?_
              refine v_iadd dm_findsCosts_141 ?_
              exact v_kw (kj6 _ hm) (wk_s (wk_n (wk_s (wk_s (wk_s (wk_s (wk_n wk_e)))))))
            · replace hm := ie hc hm
              refine v_ald_0 dm_findsCosts_104 ?_
              refine v_ald_0 dm_findsCosts_105 ?_
              refine v_getR dm_findsCosts_106 fum_77 sh_104 rf_104_41 ?_
              refine v_ild_4 dm_findsCosts_109 ?_
              obtain ⟨hi, hm⟩ := ck_s hm
              refine v_iald dm_findsCosts_111 sh_126 hi ?_
              refine v_ald_0 dm_findsCosts_112 ?_
              refine v_ild_4 dm_findsCosts_113 ?_
              refine v_ild_5 dm_findsCosts_115 ?_
              obtain ⟨r11, he, hm⟩ := bd_s hm
              refine v_cv2i (M' := tm_stepCost) dm_findsCosts_117 mlm_437 okm_stepCost sh_104 hc_12 (Nat.le_of_ble_eq_true rfl) (ctm_stepCost G d _ _ _ _ he) ?_
              obtain ⟨r12, he, hm⟩ := bd_s hm
              refine v_cv2i (M' := tm_greater) dm_findsCosts_120 mlm_385 okm_greater sh_104 hc_12 (Nat.le_of_ble_eq_true rfl) (ctm_greater G (d + 2) _ _ _ _ he) ?_
              refine v_goto dm_findsCosts_123 ?_
              exact v_kw (kj6 _ hm) (wk_s (wk_n (wk_s (wk_s (wk_s (wk_s (wk_n wk_e)))))))
theorem wm_findsCosts_L47 (G : GG) (d : Nat) (p2 : Int32) (p3 : Int32) (k0 : PH → Option (PH)) (r : PH) (kk0 : ∀ (hy : PH), k0 hy = some r → Vx G tm_findsCosts (d + 3) 176 [some (.ref (gB G + 104)), none, some (.int p2), some (.int p3), none, none, none] [] hy none r) : ∀ (n : Nat) (v4 : Int32) (hv : PH), mm_findsCosts_L47 p2 p3 k0 n v4 hv = some r → Vx G tm_findsCosts (d + 3) 47 [some (.ref (gB G + 104)), none, some (.int p2), some (.int p3), some (.int v4), none, none] [] hv none r := by
  intro n
  induction n with
  | zero => intro v4 hv hm; cases hm
  | succ n ih =>
    intro v4 hv hm
    unfold mm_findsCosts_L47 at hm
    refine v_ild_4 dm_findsCosts_47 ?_
    refine v_ald_0 dm_findsCosts_49 ?_
    refine v_getI dm_findsCosts_50 fum_158 sh_104 rf_104_6 ?_
    refine v_cmp_ge dm_findsCosts_53 (fun hc => ?_) (fun hc => ?_)
    · replace hm := it hc hm
      exact v_kw (kk0 _ hm) (wk_s (wk_n (wk_s (wk_s (wk_n (wk_n (wk_n wk_e)))))))
    · replace hm := ie hc hm
      refine v_iconst (x := 0) dm_findsCosts_56 rfl ?_
      refine v_ist_5 dm_findsCosts_57 (by decide) rfl ?_
      refine v_kw (wm_findsCosts_L59 G d _ _ _ _ _ (fun h13 hm => ?_) FU _ _ hm) (wk_s (wk_n (wk_s (wk_s (wk_s (wk_s (wk_n wk_e)))))))
      refine v_inc_4 1 dm_findsCosts_170 rfl (by decide) rfl ?_
      refine v_goto dm_findsCosts_173 ?_
      exact v_kw (ih _ _ hm) (wk_s (wk_n (wk_s (wk_s (wk_s (wk_n (wk_n wk_e)))))))
theorem wm_findsCosts_L36 (G : GG) (d : Nat) (p2 : Int32) (r : PH) : ∀ (n : Nat) (v3 : Int32) (hv : PH), mm_findsCosts_L36 p2 n v3 hv = some r → Vx G tm_findsCosts (d + 3) 36 [some (.ref (gB G + 104)), none, some (.int p2), some (.int v3), none, none, none] [] hv none r := by
  intro n
  induction n with
  | zero => intro v3 hv hm; cases hm
  | succ n ih =>
    intro v3 hv hm
    unfold mm_findsCosts_L36 at hm
    refine v_ild_3 dm_findsCosts_36 ?_
    refine v_ald_0 dm_findsCosts_37 ?_
    refine v_getI dm_findsCosts_38 fum_158 sh_104 rf_104_6 ?_
    refine v_cmp_ge dm_findsCosts_41 (fun hc => ?_) (fun hc => ?_)
    · replace hm := it hc hm
      cases hm
      exact v_ret dm_findsCosts_182 rfl
    · replace hm := ie hc hm
      refine v_iconst (x := 0) dm_findsCosts_44 rfl ?_
      refine v_ist_4 dm_findsCosts_45 (by decide) rfl ?_
      refine v_kw (wm_findsCosts_L47 G d _ _ _ _ (fun h14 hm => ?_) FU _ _ hm) (wk_s (wk_n (wk_s (wk_s (wk_s (wk_n (wk_n wk_e)))))))
      refine v_inc_3 1 dm_findsCosts_176 rfl (by decide) rfl ?_
      refine v_goto dm_findsCosts_179 ?_
      exact v_kw (ih _ _ hm) (wk_s (wk_n (wk_s (wk_s (wk_n (wk_n (wk_n wk_e)))))))
theorem ctm_findsCosts (G : GG) (d : Nat) (p1 : Int32) (p2 : Int32) (h0 : PH) (r : PH) (hm : mm_findsCosts p1 p2 h0 = some r) : Kx G tm_findsCosts (d + 3) [.ref (gB G + 104), .int p1, .int p2] h0 none r := by
  refine K_of_V (by decide) (by simp [cat_i, cat_r, fmtV_cat]) (by simp [tm_findsCosts]) ?_
  change Vx G tm_findsCosts (d + 3) 0 [some (.ref (gB G + 104)), some (.int p1), some (.int p2), none, none, none, none] [] h0 none r
  unfold mm_findsCosts at hm
  refine v_iconst (x := 0) dm_findsCosts_0 rfl ?_
  refine v_ist_3 dm_findsCosts_1 (by decide) rfl ?_
  refine v_kw (wm_findsCosts_L2 G d _ _ _ _ (fun h4 hm => ?_) FU _ _ hm) (wk_s (wk_s (wk_s (wk_s (wk_n (wk_n (wk_n wk_e)))))))
  refine v_iconst (x := 0) dm_findsCosts_34 rfl ?_
  refine v_ist_3 dm_findsCosts_35 (by decide) rfl ?_
  exact v_kw (wm_findsCosts_L36 G d _ _ FU _ _ hm) (wk_s (wk_n (wk_s (wk_s (wk_n (wk_n (wk_n wk_e)))))))
def mm_costOf (p1 : Int32) (p2 : Int32) (p3 : Int32) (h0 : PH) : Option (Int32 × PH) :=
  bd (mm_isHouse p1 h0) fun r1 =>
  if r1 = 0 then
    some ((-1), h0)
  else
    bd (mm_isHouse p2 h0) fun r2 =>
    if r2 = 0 then
      some ((-1), h0)
    else
      bd (mm_findsCosts p1 p3 h0) fun h3 =>
      ck p2 12 <|
      if (h3 126 (ix p2)) = 100000000 then
        some ((-1), h3)
      else
        ck p2 12 <|
        some (h3 126 (ix p2), h3)
theorem ctm_costOf (G : GG) (d : Nat) (p1 : Int32) (p2 : Int32) (p3 : Int32) (h0 : PH) (r : Int32 × PH) (hm : mm_costOf p1 p2 p3 h0 = some r) : Kx G tm_costOf (d + 4) [.ref (gB G + 104), .int p1, .int p2, .int p3] h0 (some (.int r.1)) r.2 := by
  refine K_of_V (by decide) (by simp [cat_i, cat_r, fmtV_cat]) (by simp [tm_costOf]) ?_
  change Vx G tm_costOf (d + 4) 0 [some (.ref (gB G + 104)), some (.int p1), some (.int p2), some (.int p3)] [] h0 (some (.int r.1)) r.2
  unfold mm_costOf at hm
  refine v_ald_0 dm_costOf_0 ?_
  refine v_ild_1 dm_costOf_1 ?_
  obtain ⟨r1, he, hm⟩ := bd_s hm
  refine v_cv1i (M' := tm_isHouse) dm_costOf_2 mlm_181 okm_isHouse sh_104 hc_12 (Nat.le_of_ble_eq_true rfl) (ctm_isHouse G (d + 3) _ _ _ he) ?_
  refine v_if_eq dm_costOf_5 (fun hc => ?_) (fun hc => ?_)
  · replace hm := it hc hm
    refine v_iconst (x := (-1)) dm_costOf_16 rfl ?_
    cases hm
    exact v_iret dm_costOf_17 rfl
  · replace hm := ie hc hm
    refine v_ald_0 dm_costOf_8 ?_
    refine v_ild_2 dm_costOf_9 ?_
    obtain ⟨r2, he, hm⟩ := bd_s hm
    refine v_cv1i (M' := tm_isHouse) dm_costOf_10 mlm_181 okm_isHouse sh_104 hc_12 (Nat.le_of_ble_eq_true rfl) (ctm_isHouse G (d + 3) _ _ _ he) ?_
    refine v_if_ne dm_costOf_13 (fun hc => ?_) (fun hc => ?_)
    · replace hm := it hc hm
      refine v_iconst (x := (-1)) dm_costOf_16 rfl ?_
      cases hm
      exact v_iret dm_costOf_17 rfl
    · replace hm := ie hc hm
      refine v_ald_0 dm_costOf_18 ?_
      refine v_ild_1 dm_costOf_19 ?_
      refine v_ild_3 dm_costOf_20 ?_
      obtain ⟨h3, he, hm⟩ := bd_s hm
      refine v_cv2v (M' := tm_findsCosts) dm_costOf_21 mlm_440 okm_findsCosts sh_104 hc_12 (Nat.le_of_ble_eq_true rfl) (ctm_findsCosts G d _ _ _ _ he) ?_
      refine v_ald_0 dm_costOf_24 ?_
      refine v_getR dm_costOf_25 fum_77 sh_104 rf_104_41 ?_
      refine v_ild_2 dm_costOf_28 ?_
      obtain ⟨hi, hm⟩ := ck_s hm
      refine v_iald dm_costOf_29 sh_126 hi ?_
      refine v_ldcw (x := 100000000) dm_costOf_30 lcm_436 ?_
      refine v_cmp_ne dm_costOf_33 (fun hc => ?_) (fun hc => ?_)
      · replace hm := it hc hm
        refine v_iconst (x := (-1)) dm_costOf_36 rfl ?_
        refine v_goto dm_costOf_37 ?_
        cases hm
        exact v_iret dm_costOf_46 rfl
      · replace hm := ie hc hm
        refine v_ald_0 dm_costOf_40 ?_
        refine v_getR dm_costOf_41 fum_77 sh_104 rf_104_41 ?_
        refine v_ild_2 dm_costOf_44 ?_
        obtain ⟨hi, hm⟩ := ck_s hm
        refine v_iald dm_costOf_45 sh_126 hi ?_
        cases hm
        exact v_iret dm_costOf_46 rfl
def mm_hears (p1 : Int32) (p2 : Int32) (h0 : PH) : Option (Int32 × PH) :=
  lt (up h0 104 0 0) fun h1 =>
  bd2 (mm_costOf p1 p2 1 h1) fun r2 h3 =>
  some (r2, h3)
theorem ctm_hears (G : GG) (d : Nat) (p1 : Int32) (p2 : Int32) (h0 : PH) (r : Int32 × PH) (hm : mm_hears p1 p2 h0 = some r) : Kx G tm_hears (d + 5) [.ref (gB G + 104), .int p1, .int p2] h0 (some (.int r.1)) r.2 := by
  refine K_of_V (by decide) (by simp [cat_i, cat_r, fmtV_cat]) (by simp [tm_hears]) ?_
  change Vx G tm_hears (d + 5) 0 [some (.ref (gB G + 104)), some (.int p1), some (.int p2)] [] h0 (some (.int r.1)) r.2
  unfold mm_hears at hm
  refine v_ald_0 dm_hears_0 ?_
  refine v_iconst (x := 0) dm_hears_1 rfl ?_
  refine v_putIl dm_hears_2 fum_146 ft_12_0 sh_104 rf_104_0 hm (fun h1 hm => ?_)
  refine v_ald_0 dm_hears_5 ?_
  refine v_ild_1 dm_hears_6 ?_
  refine v_ild_2 dm_hears_7 ?_
  refine v_iconst (x := 1) dm_hears_8 rfl ?_
  obtain ⟨r2, h3, he, hm⟩ := bd2_s hm
  refine v_cv3i (M' := tm_costOf) dm_hears_9 mlm_444 okm_costOf sh_104 hc_12 (Nat.le_of_ble_eq_true rfl) (ctm_costOf G d _ _ _ _ _ he) ?_
  cases hm
  exact v_iret dm_hears_12 rfl
def mm_heard_L38 (p1 : Int32) (p2 : Int32) (h0 : PH) : Nat → Int32 → Int32 → Option (Int32 × PH)
  | 0, _, _ => none
  | n + 1, v3, v4 =>
    if (h0 104 6) ≤ v4 then
      some (v3, h0)
    else
      if v4 = p1 then
        mm_heard_L38 p1 p2 h0 n v3 (v4 + 1)
      else
        ck v4 12 <|
        if p2 < (h0 126 (ix v4)) then
          mm_heard_L38 p1 p2 h0 n v3 (v4 + 1)
        else
          lt (v3 + 1) fun x5 =>
          mm_heard_L38 p1 p2 h0 n x5 (v4 + 1)
def mm_heard (p1 : Int32) (p2 : Int32) (h0 : PH) : Option (Int32 × PH) :=
  lt (up h0 104 0 0) fun h1 =>
  bd (mm_isHouse p1 h1) fun r2 =>
  if r2 = 0 then
    some ((-1), h1)
  else
    bd (mm_isIn p2 0 800 h1) fun r3 =>
    if r3 = 0 then
      some ((-1), h1)
    else
      bd (mm_findsCosts p1 1 h1) fun h4 =>
      mm_heard_L38 p1 p2 h4 FU 0 0
theorem wm_heard_L38 (G : GG) (d : Nat) (p1 : Int32) (p2 : Int32) (h0 : PH) (r : Int32 × PH) : ∀ (n : Nat) (v3 : Int32) (v4 : Int32), mm_heard_L38 p1 p2 h0 n v3 v4 = some r → Vx G tm_heard (d + 4) 38 [some (.ref (gB G + 104)), some (.int p1), some (.int p2), some (.int v3), some (.int v4)] [] h0 (some (.int r.1)) r.2 := by
  intro n
  induction n with
  | zero => intro v3 v4 hm; cases hm
  | succ n ih =>
    intro v3 v4 hm
    unfold mm_heard_L38 at hm
    refine v_ild_4 dm_heard_38 ?_
    refine v_ald_0 dm_heard_40 ?_
    refine v_getI dm_heard_41 fum_158 sh_104 rf_104_6 ?_
    refine v_cmp_ge dm_heard_44 (fun hc => ?_) (fun hc => ?_)
    · replace hm := it hc hm
      refine v_ild_3 dm_heard_74 ?_
      cases hm
      exact v_iret dm_heard_75 rfl
    · replace hm := ie hc hm
      refine v_ild_4 dm_heard_47 ?_
      refine v_ild_1 dm_heard_49 ?_
      refine v_cmp_eq dm_heard_50 (fun hc => ?_) (fun hc => ?_)
      · replace hm := it hc hm
        refine v_inc_4 1 dm_heard_68 rfl (by decide) rfl ?_
        refine v_goto dm_heard_71 ?_
        exact v_kw (ih _ _ hm) (wk_s (wk_s (wk_s (wk_s (wk_s wk_e)))))
      · replace hm := ie hc hm
        refine v_ald_0 dm_heard_53 ?_
        refine v_getR dm_heard_54 fum_77 sh_104 rf_104_41 ?_
        refine v_ild_4 dm_heard_57 ?_
        obtain ⟨hi, hm⟩ := ck_s hm
        refine v_iald dm_heard_59 sh_126 hi ?_
        refine v_ild_2 dm_heard_60 ?_
        refine v_cmp_gt dm_heard_61 (fun hc => ?_) (fun hc => ?_)
        · replace hm := it hc hm
          refine v_inc_4 1 dm_heard_68 rfl (by decide) rfl ?_
          refine v_goto dm_heard_71 ?_
          exact v_kw (ih _ _ hm) (wk_s (wk_s (wk_s (wk_s (wk_s wk_e)))))
        · replace hm := ie hc hm
          refine v_ild_3 dm_heard_64 ?_
          refine v_iconst (x := 1) dm_heard_65 rfl ?_
          refine v_iadd dm_heard_66 ?_
          refine v_top hm (fun x5 hm => ?_)
          refine v_ist_3 dm_heard_67 (by decide) rfl ?_
          refine v_inc_4 1 dm_heard_68 rfl (by decide) rfl ?_
          refine v_goto dm_heard_71 ?_
          exact v_kw (ih _ _ hm) (wk_s (wk_s (wk_s (wk_s (wk_s wk_e)))))
theorem ctm_heard (G : GG) (d : Nat) (p1 : Int32) (p2 : Int32) (h0 : PH) (r : Int32 × PH) (hm : mm_heard p1 p2 h0 = some r) : Kx G tm_heard (d + 4) [.ref (gB G + 104), .int p1, .int p2] h0 (some (.int r.1)) r.2 := by
  refine K_of_V (by decide) (by simp [cat_i, cat_r, fmtV_cat]) (by simp [tm_heard]) ?_
  change Vx G tm_heard (d + 4) 0 [some (.ref (gB G + 104)), some (.int p1), some (.int p2), none, none] [] h0 (some (.int r.1)) r.2
  unfold mm_heard at hm
  refine v_ald_0 dm_heard_0 ?_
  refine v_iconst (x := 0) dm_heard_1 rfl ?_
  refine v_putIl dm_heard_2 fum_146 ft_12_0 sh_104 rf_104_0 hm (fun h1 hm => ?_)
  refine v_ald_0 dm_heard_5 ?_
  refine v_ild_1 dm_heard_6 ?_
  obtain ⟨r2, he, hm⟩ := bd_s hm
  refine v_cv1i (M' := tm_isHouse) dm_heard_7 mlm_181 okm_isHouse sh_104 hc_12 (Nat.le_of_ble_eq_true rfl) (ctm_isHouse G (d + 3) _ _ _ he) ?_
  refine v_if_eq dm_heard_10 (fun hc => ?_) (fun hc => ?_)
  · replace hm := it hc hm
    refine v_iconst (x := (-1)) dm_heard_25 rfl ?_
    cases hm
    exact v_iret dm_heard_26 rfl
  · replace hm := ie hc hm
    refine v_ald_0 dm_heard_13 ?_
    refine v_ild_2 dm_heard_14 ?_
    refine v_iconst (x := 0) dm_heard_15 rfl ?_
    refine v_sipush (x := 800) dm_heard_16 rfl ?_
    obtain ⟨r3, he, hm⟩ := bd_s hm
    refine v_cv3i (M' := tm_isIn) dm_heard_19 mlm_177 okm_isIn sh_104 hc_12 (Nat.le_of_ble_eq_true rfl) (ctm_isIn G (d + 3) _ _ _ _ _ he) ?_
    refine v_if_ne dm_heard_22 (fun hc => ?_) (fun hc => ?_)
    · replace hm := it hc hm
      refine v_iconst (x := (-1)) dm_heard_25 rfl ?_
      cases hm
      exact v_iret dm_heard_26 rfl
    · replace hm := ie hc hm
      refine v_ald_0 dm_heard_27 ?_
      refine v_ild_1 dm_heard_28 ?_
      refine v_iconst (x := 1) dm_heard_29 rfl ?_
      obtain ⟨h4, he, hm⟩ := bd_s hm
      refine v_cv2v (M' := tm_findsCosts) dm_heard_30 mlm_440 okm_findsCosts sh_104 hc_12 (Nat.le_of_ble_eq_true rfl) (ctm_findsCosts G d _ _ _ _ he) ?_
      refine v_iconst (x := 0) dm_heard_33 rfl ?_
      refine v_ist_3 dm_heard_34 (by decide) rfl ?_
      refine v_iconst (x := 0) dm_heard_35 rfl ?_
      refine v_ist_4 dm_heard_36 (by decide) rfl ?_
      exact v_kw (wm_heard_L38 G d _ _ _ _ FU _ _ hm) (wk_s (wk_s (wk_s (wk_s (wk_s wk_e)))))
def mm_ants (p1 : Int32) (p2 : Int32) (h0 : PH) : Option (Int32 × PH) :=
  lt (up h0 104 0 0) fun h1 =>
  bd2 (mm_costOf p1 p2 0 h1) fun r2 h3 =>
  some (r2, h3)
theorem ctm_ants (G : GG) (d : Nat) (p1 : Int32) (p2 : Int32) (h0 : PH) (r : Int32 × PH) (hm : mm_ants p1 p2 h0 = some r) : Kx G tm_ants (d + 5) [.ref (gB G + 104), .int p1, .int p2] h0 (some (.int r.1)) r.2 := by
  refine K_of_V (by decide) (by simp [cat_i, cat_r, fmtV_cat]) (by simp [tm_ants]) ?_
  change Vx G tm_ants (d + 5) 0 [some (.ref (gB G + 104)), some (.int p1), some (.int p2)] [] h0 (some (.int r.1)) r.2
  unfold mm_ants at hm
  refine v_ald_0 dm_ants_0 ?_
  refine v_iconst (x := 0) dm_ants_1 rfl ?_
  refine v_putIl dm_ants_2 fum_146 ft_12_0 sh_104 rf_104_0 hm (fun h1 hm => ?_)
  refine v_ald_0 dm_ants_5 ?_
  refine v_ild_1 dm_ants_6 ?_
  refine v_ild_2 dm_ants_7 ?_
  refine v_iconst (x := 0) dm_ants_8 rfl ?_
  obtain ⟨r2, h3, he, hm⟩ := bd2_s hm
  refine v_cv3i (M' := tm_costOf) dm_ants_9 mlm_444 okm_costOf sh_104 hc_12 (Nat.le_of_ble_eq_true rfl) (ctm_costOf G d _ _ _ _ _ he) ?_
  cases hm
  exact v_iret dm_ants_12 rfl
def mm_piece (p1 : Int32) (h0 : PH) : Option (Int32 × PH) :=
  lt (up h0 104 0 0) fun h1 =>
  if p1 = (-1) then
    lt (up h1 104 42 0) fun h2 =>
    some (0, h2)
  else
    bd (mm_isIn p1 0 99 h1) fun r3 =>
    if r3 = 0 then
      some ((-1), h1)
    else
      if (h1 104 42) = 9 then
        some ((-1), h1)
      else
        ck (h1 104 42) 9 <|
        lt (up h1 127 (ix (h1 104 42)) p1) fun h4 =>
        lt (up h4 104 42 ((h4 104 42) + 1)) fun h5 =>
        some (h5 104 42, h5)
theorem ctm_piece (G : GG) (d : Nat) (p1 : Int32) (h0 : PH) (r : Int32 × PH) (hm : mm_piece p1 h0 = some r) : Kx G tm_piece (d + 1) [.ref (gB G + 104), .int p1] h0 (some (.int r.1)) r.2 := by
  refine K_of_V (by decide) (by simp [cat_i, cat_r, fmtV_cat]) (by simp [tm_piece]) ?_
  change Vx G tm_piece (d + 1) 0 [some (.ref (gB G + 104)), some (.int p1)] [] h0 (some (.int r.1)) r.2
  unfold mm_piece at hm
  refine v_ald_0 dm_piece_0 ?_
  refine v_iconst (x := 0) dm_piece_1 rfl ?_
  refine v_putIl dm_piece_2 fum_146 ft_12_0 sh_104 rf_104_0 hm (fun h1 hm => ?_)
  refine v_ild_1 dm_piece_5 ?_
  refine v_iconst (x := (-1)) dm_piece_6 rfl ?_
  refine v_cmp_ne dm_piece_7 (fun hc => ?_) (fun hc => ?_)
  · replace hm := it hc hm
    refine v_ald_0 dm_piece_10 ?_
    refine v_iconst (x := 0) dm_piece_11 rfl ?_
    refine v_putIl dm_piece_12 fum_448 ft_12_42 sh_104 rf_104_42 hm (fun h2 hm => ?_)
    refine v_iconst (x := 0) dm_piece_15 rfl ?_
    cases hm
    exact v_iret dm_piece_16 rfl
  · replace hm := ie hc hm
    refine v_ald_0 dm_piece_17 ?_
    refine v_ild_1 dm_piece_18 ?_
    refine v_iconst (x := 0) dm_piece_19 rfl ?_
    refine v_bipush (x := 99) dm_piece_20 rfl ?_
    obtain ⟨r3, he, hm⟩ := bd_s hm
    refine v_cv3i (M' := tm_isIn) dm_piece_22 mlm_177 okm_isIn sh_104 hc_12 (Nat.le_of_ble_eq_true rfl) (ctm_isIn G d _ _ _ _ _ he) ?_
    refine v_if_eq dm_piece_25 (fun hc => ?_) (fun hc => ?_)
    · replace hm := it hc hm
      refine v_iconst (x := (-1)) dm_piece_37 rfl ?_
      cases hm
      exact v_iret dm_piece_38 rfl
    · replace hm := ie hc hm
      refine v_ald_0 dm_piece_28 ?_
      refine v_getI dm_piece_29 fum_448 sh_104 rf_104_42 ?_
      refine v_bipush (x := 9) dm_piece_32 rfl ?_
      refine v_cmp_ne dm_piece_34 (fun hc => ?_) (fun hc => ?_)
      · replace hm := it hc hm
        refine v_iconst (x := (-1)) dm_piece_37 rfl ?_
        cases hm
        exact v_iret dm_piece_38 rfl
      · replace hm := ie hc hm
        refine v_ald_0 dm_piece_39 ?_
        refine v_getR dm_piece_40 fum_80 sh_104 rf_104_43 ?_
        refine v_ald_0 dm_piece_43 ?_
        refine v_getI dm_piece_44 fum_448 sh_104 rf_104_42 ?_
        refine v_ild_1 dm_piece_47 ?_
        obtain ⟨hi, hm⟩ := ck_s hm
        refine v_iastl dm_piece_48 sh_127 hi hm (fun h4 hm => ?_)
        refine v_ald_0 dm_piece_49 ?_
        refine v_ald_0 dm_piece_50 ?_
        refine v_getI dm_piece_51 fum_448 sh_104 rf_104_42 ?_
        refine v_iconst (x := 1) dm_piece_54 rfl ?_
        refine v_iadd dm_piece_55 ?_
        refine v_putIl dm_piece_56 fum_448 ft_12_42 sh_104 rf_104_42 hm (fun h5 hm => ?_)
        refine v_ald_0 dm_piece_59 ?_
        refine v_getI dm_piece_60 fum_448 sh_104 rf_104_42 ?_
        cases hm
        exact v_iret dm_piece_63 rfl
def mm_piecesOver_L5 (p2 : Int32) (h0 : PH) : Nat → Int32 → Int32 → Option (Int32)
  | 0, _, _ => none
  | n + 1, v3, v4 =>
    if p2 ≤ v4 then
      some v3
    else
      ck v4 9 <|
      lt (v3 + (h0 127 (ix v4))) fun x1 =>
      mm_piecesOver_L5 p2 h0 n x1 (v4 + 1)
def mm_piecesOver (p1 : Int32) (p2 : Int32) (h0 : PH) : Option (Int32) :=
  mm_piecesOver_L5 p2 h0 FU 0 p1
theorem wm_piecesOver_L5 (G : GG) (d : Nat) (p2 : Int32) (h0 : PH) (r : Int32) : ∀ (n : Nat) (v3 : Int32) (v4 : Int32), mm_piecesOver_L5 p2 h0 n v3 v4 = some r → Vx G tm_piecesOver d 5 [some (.ref (gB G + 104)), none, some (.int p2), some (.int v3), some (.int v4)] [] h0 (some (.int r)) h0 := by
  intro n
  induction n with
  | zero => intro v3 v4 hm; cases hm
  | succ n ih =>
    intro v3 v4 hm
    unfold mm_piecesOver_L5 at hm
    refine v_ild_4 dm_piecesOver_5 ?_
    refine v_ild_2 dm_piecesOver_7 ?_
    refine v_cmp_ge dm_piecesOver_8 (fun hc => ?_) (fun hc => ?_)
    · replace hm := it hc hm
      refine v_ild_3 dm_piecesOver_27 ?_
      cases hm
      exact v_iret dm_piecesOver_28 rfl
    · replace hm := ie hc hm
      refine v_ild_3 dm_piecesOver_11 ?_
      refine v_ald_0 dm_piecesOver_12 ?_
      refine v_getR dm_piecesOver_13 fum_80 sh_104 rf_104_43 ?_
      refine v_ild_4 dm_piecesOver_16 ?_
      obtain ⟨hi, hm⟩ := ck_s hm
      refine v_iald dm_piecesOver_18 sh_127 hi ?_
      refine v_iadd dm_piecesOver_19 ?_
      refine v_top hm (fun x1 hm => ?_)
      refine v_ist_3 dm_piecesOver_20 (by decide) rfl ?_
      refine v_inc_4 1 dm_piecesOver_21 rfl (by decide) rfl ?_
      refine v_goto dm_piecesOver_24 ?_
      exact v_kw (ih _ _ hm) (wk_s (wk_n (wk_s (wk_s (wk_s wk_e)))))
theorem ctm_piecesOver (G : GG) (d : Nat) (p1 : Int32) (p2 : Int32) (h0 : PH) (r : Int32) (hm : mm_piecesOver p1 p2 h0 = some r) : Kx G tm_piecesOver d [.ref (gB G + 104), .int p1, .int p2] h0 (some (.int r)) h0 := by
  refine K_of_V (by decide) (by simp [cat_i, cat_r, fmtV_cat]) (by simp [tm_piecesOver]) ?_
  change Vx G tm_piecesOver d 0 [some (.ref (gB G + 104)), some (.int p1), some (.int p2), none, none] [] h0 (some (.int r)) h0
  unfold mm_piecesOver at hm
  refine v_iconst (x := 0) dm_piecesOver_0 rfl ?_
  refine v_ist_3 dm_piecesOver_1 (by decide) rfl ?_
  refine v_ild_1 dm_piecesOver_2 ?_
  refine v_ist_4 dm_piecesOver_3 (by decide) rfl ?_
  exact v_kw (wm_piecesOver_L5 G d _ _ _ FU _ _ hm) (wk_s (wk_n (wk_s (wk_s (wk_s wk_e)))))
def mm_findsShares_L43 (p1 : Int32) (p2 : Int32) (h0 : PH) (k0 : Int32 → Option (PH)) : Nat → Int32 → Int32 → Option (PH)
  | 0, _, _ => none
  | n + 1, v3, v4 =>
    if (h0 104 42) < v4 then
      k0 v3
    else
      if p1 ≤ 0 then
        k0 v3
      else
        bd (mm_piecesOver p2 v4 h0) fun r4 =>
        ck ((10 * (p1 - 1)) + v4) 100 <|
        bd (mm_lesser r4 (h0 128 (ix ((10 * (p1 - 1)) + v4))) h0) fun r5 =>
        bd (mm_greater v3 r5 h0) fun r6 =>
        mm_findsShares_L43 p1 p2 h0 k0 n r6 (v4 + 1)
def mm_findsShares_L10 (p1 : Int32) (k0 : PH → Option (PH)) : Nat → Int32 → PH → Option (PH)
  | 0, _, _ => none
  | n + 1, v2, hv =>
    if (hv 104 42) < v2 then
      k0 hv
    else
      jn1 (fun (x2 : Int32) =>
        lt (v2 + 1) fun x3 =>
        mm_findsShares_L43 p1 v2 hv (fun (x7 : Int32) =>
          ck ((10 * p1) + v2) 100 <|
          lt (up hv 128 (ix ((10 * p1) + v2)) x7) fun h8 =>
          mm_findsShares_L10 p1 k0 n (v2 + 1) h8) FU x2 x3) fun j1 =>
      if p1 = 0 then
        if v2 = (hv 104 42) then
          j1 100000000
        else
          j1 (-1)
      else
        j1 (-1)
def mm_findsShares_L2 : Nat → Int32 → PH → Option (PH)
  | 0, _, _ => none
  | n + 1, v1, hv =>
    if 10 ≤ v1 then
      some hv
    else
      mm_findsShares_L10 v1 (fun (h9 : PH) =>
        mm_findsShares_L2 n (v1 + 1) h9) FU 0 hv
def mm_findsShares (h0 : PH) : Option (PH) :=
  mm_findsShares_L2 FU 0 h0
theorem wm_findsShares_L43 (G : GG) (d : Nat) (p1 : Int32) (p2 : Int32) (h0 : PH) (k0 : Int32 → Option (PH)) (r : PH) (kk0 : ∀ (y3 : Int32), k0 y3 = some r → Vx G tm_findsShares (d + 1) 93 [some (.ref (gB G + 104)), some (.int p1), some (.int p2), some (.int y3), none] [] h0 none r) : ∀ (n : Nat) (v3 : Int32) (v4 : Int32), mm_findsShares_L43 p1 p2 h0 k0 n v3 v4 = some r → Vx G tm_findsShares (d + 1) 43 [some (.ref (gB G + 104)), some (.int p1), some (.int p2), some (.int v3), some (.int v4)] [] h0 none r := by
  intro n
  induction n with
  | zero => intro v3 v4 hm; cases hm
  | succ n ih =>
    intro v3 v4 hm
    unfold mm_findsShares_L43 at hm
    refine v_ild_4 dm_findsShares_43 ?_
    refine v_ald_0 dm_findsShares_45 ?_
    refine v_getI dm_findsShares_46 fum_448 sh_104 rf_104_42 ?_
    refine v_cmp_gt dm_findsShares_49 (fun hc => ?_) (fun hc => ?_)
    · replace hm := it hc hm
      exact v_kw (kk0 _ hm) (wk_s (wk_s (wk_s (wk_s (wk_n wk_e)))))
    · replace hm := ie hc hm
      refine v_ild_1 dm_findsShares_52 ?_
      refine v_if_le dm_findsShares_53 (fun hc => ?_) (fun hc => ?_)
      · replace hm := it hc hm
        exact v_kw (kk0 _ hm) (wk_s (wk_s (wk_s (wk_s (wk_n wk_e)))))
      · replace hm := ie hc hm
        refine v_ald_0 dm_findsShares_56 ?_
        refine v_ild_3 dm_findsShares_57 ?_
        refine v_ald_0 dm_findsShares_58 ?_
        refine v_ald_0 dm_findsShares_59 ?_
        refine v_ild_2 dm_findsShares_60 ?_
        refine v_ild_4 dm_findsShares_61 ?_
        obtain ⟨r4, he, hm⟩ := bd_s hm
        refine v_cv2i (M' := tm_piecesOver) dm_findsShares_63 mlm_451 okm_piecesOver sh_104 hc_12 (Nat.le_of_ble_eq_true rfl) (ctm_piecesOver G d _ _ _ _ he) ?_
        refine v_ald_0 dm_findsShares_66 ?_
        refine v_getR dm_findsShares_67 fum_83 sh_104 rf_104_44 ?_
        refine v_bipush (x := 10) dm_findsShares_70 rfl ?_
        refine v_ild_1 dm_findsShares_72 ?_
        refine v_iconst (x := 1) dm_findsShares_73 rfl ?_
        refine v_isub dm_findsShares_74 ?_
        refine v_imul dm_findsShares_75 ?_
        refine v_ild_4 dm_findsShares_76 ?_
        refine v_iadd dm_findsShares_78 ?_
        obtain ⟨hi, hm⟩ := ck_s hm
        refine v_iald dm_findsShares_79 sh_128 hi ?_
        obtain ⟨r5, he, hm⟩ := bd_s hm
        refine v_cv2i (M' := tm_lesser) dm_findsShares_80 mlm_400 okm_lesser sh_104 hc_12 (Nat.le_of_ble_eq_true rfl) (ctm_lesser G d _ _ _ _ he) ?_
        obtain ⟨r6, he, hm⟩ := bd_s hm
        refine v_cv2i (M' := tm_greater) dm_findsShares_83 mlm_385 okm_greater sh_104 hc_12 (Nat.le_of_ble_eq_true rfl) (ctm_greater G d _ _ _ _ he) ?_
        refine v_ist_3 dm_findsShares_86 (by decide) rfl ?_
        refine v_inc_4 1 dm_findsShares_87 rfl (by decide) rfl ?_
        refine v_goto dm_findsShares_90 ?_
        exact v_kw (ih _ _ hm) (wk_s (wk_s (wk_s (wk_s (wk_s wk_e)))))
theorem wm_findsShares_L10 (G : GG) (d : Nat) (p1 : Int32) (k0 : PH → Option (PH)) (r : PH) (kk0 : ∀ (hy : PH), k0 hy = some r → Vx G tm_findsShares (d + 1) 111 [some (.ref (gB G + 104)), some (.int p1), none, none, none] [] hy none r) : ∀ (n : Nat) (v2 : Int32) (hv : PH), mm_findsShares_L10 p1 k0 n v2 hv = some r → Vx G tm_findsShares (d + 1) 10 [some (.ref (gB G + 104)), some (.int p1), some (.int v2), none, none] [] hv none r := by
  intro n
  induction n with
  | zero => intro v2 hv hm; cases hm
  | succ n ih =>
    intro v2 hv hm
    unfold mm_findsShares_L10 at hm
    refine v_ild_2 dm_findsShares_10 ?_
    refine v_ald_0 dm_findsShares_11 ?_
    refine v_getI dm_findsShares_12 fum_448 sh_104 rf_104_42 ?_
    refine v_cmp_gt dm_findsShares_15 (fun hc => ?_) (fun hc => ?_)
    · replace hm := it hc hm
      exact v_kw (kk0 _ hm) (wk_s (wk_s (wk_n (wk_n (wk_n wk_e)))))
    · replace hm := ie hc hm
      refine v_ild_1 dm_findsShares_18 ?_
      refine v_j1 (fun (x2 : Int32) => Vx G tm_findsShares (d + 1) 37 [some (.ref (gB G + 104)), some (.int p1), some (.int v2), none, none] [.int x2] hv none r) hm (fun x2 hm => ?_) (fun j1 kj1 hm => ?_)
      · refine v_ist_3 dm_findsShares_37 (by decide) rfl ?_
        refine v_ild_2 dm_findsShares_38 ?_
        refine v_iconst (x := 1) dm_findsShares_39 rfl ?_
        refine v_iadd dm_findsShares_40 ?_
        refine v_top hm (fun x3 hm => ?_)
        refine v_ist_4 dm_findsShares_41 (by decide) rfl ?_
        refine v_kw (wm_findsShares_L43 G d _ _ _ _ _ (fun x7 hm => ?_) FU _ _ hm) (wk_s (wk_s (wk_s (wk_s (wk_s wk_e)))))
        refine v_ald_0 dm_findsShares_93 ?_
        refine v_getR dm_findsShares_94 fum_83 sh_104 rf_104_44 ?_
        refine v_bipush (x := 10) dm_findsShares_97 rfl ?_
        refine v_ild_1 dm_findsShares_99 ?_
        refine v_imul dm_findsShares_100 ?_
        refine v_ild_2 dm_findsShares_101 ?_
        refine v_iadd dm_findsShares_102 ?_
        refine v_ild_3 dm_findsShares_103 ?_
        obtain ⟨hi, hm⟩ := ck_s hm
        refine v_iastl dm_findsShares_104 sh_128 hi hm (fun h8 hm => ?_)
        refine v_inc_2 1 dm_findsShares_105 rfl (by decide) rfl ?_
        refine v_goto dm_findsShares_108 ?_
        exact v_kw (ih _ _ hm) (wk_s (wk_s (wk_s (wk_n (wk_n wk_e)))))
      · refine v_if_ne dm_findsShares_19 (fun hc => ?_) (fun hc => ?_)
        · replace hm := it hc hm
          refine v_ild_2 dm_findsShares_22 ?_
          refine v_ald_0 dm_findsShares_23 ?_
          refine v_getI dm_findsShares_24 fum_448 sh_104 rf_104_42 ?_
          refine v_cmp_ne dm_findsShares_27 (fun hc => ?_) (fun hc => ?_)
          · replace hm := it hc hm
            refine v_ldcw (x := 100000000) dm_findsShares_30 lcm_436 ?_
            refine v_goto dm_findsShares_33 ?_
            exact v_kw (kj1 _ hm) (wk_s (wk_s (wk_s (wk_n (wk_n wk_e)))))
          · replace hm := ie hc hm
            refine v_iconst (x := (-1)) dm_findsShares_36 rfl ?_
            exact v_kw (kj1 _ hm) (wk_s (wk_s (wk_s (wk_n (wk_n wk_e)))))
        · replace hm := ie hc hm
          refine v_iconst (x := (-1)) dm_findsShares_36 rfl ?_
          exact v_kw (kj1 _ hm) (wk_s (wk_s (wk_s (wk_n (wk_n wk_e)))))
