theorem ctm_readAny (G : GG) (d : Nat) (h0 : PH) (r : Int32 × PH) (hm : mm_readAny h0 = some r) : Kx G tm_readAny (d + 7) [.ref (gB G + 104)] h0 (some (.int r.1)) r.2 := by
  refine K_of_V (by decide) (by simp [cat_i, cat_r, fmtV_cat]) (by simp [tm_readAny]) ?_
  change Vx G tm_readAny (d + 7) 0 [some (.ref (gB G + 104)), none, none, none] [] h0 (some (.int r.1)) r.2
  unfold mm_readAny at hm
  refine v_iconst (x := 0) dm_readAny_0 rfl ?_
  refine v_ist_1 dm_readAny_1 (by decide) rfl ?_
  refine v_ald_0 dm_readAny_2 ?_
  refine v_iconst (x := 0) dm_readAny_3 rfl ?_
  refine v_putIl dm_readAny_4 fum_260 ft_12_28 sh_104 rf_104_28 hm (fun h1 hm => ?_)
  refine v_iconst (x := 1) dm_readAny_7 rfl ?_
  refine v_ist_2 dm_readAny_8 (by decide) rfl ?_
  refine v_kw (wm_readAny_L9 G d _ _ _ (fun h33 hm => ?_) (fun h36 hm => ?_) FU _ _ _ hm) (wk_s (wk_s (wk_s (wk_n wk_e))))
  · refine v_ald_0 dm_readAny_42 ?_
    refine v_iconst (x := 3) dm_readAny_43 rfl ?_
    obtain ⟨r34, h35, he, hm⟩ := bd2_s hm
    refine v_cv1i (M' := tm_errs) dm_readAny_44 mlm_237 okm_errs sh_104 hc_12 (Nat.le_of_ble_eq_true rfl) (ctm_errs G (d + 6) _ _ _ he) ?_
    cases hm
    exact v_iret dm_readAny_47 rfl
  · refine v_ald_0 dm_readAny_200 ?_
    refine v_iconst (x := 1) dm_readAny_201 rfl ?_
    obtain ⟨r37, h38, he, hm⟩ := bd2_s hm
    refine v_cv1i (M' := tm_errs) dm_readAny_202 mlm_237 okm_errs sh_104 hc_12 (Nat.le_of_ble_eq_true rfl) (ctm_errs G (d + 6) _ _ _ he) ?_
    cases hm
    exact v_iret dm_readAny_205 rfl
def mm_isLineWord (h0 : PH) : Option (Int32) :=
  if (h0 104 14) = 2 then
    bd (mm_isIn (h0 104 15) 0 2 h0) fun r1 =>
    if r1 = 0 then
      some 0
    else
      some 1
  else
    some 0
theorem ctm_isLineWord (G : GG) (d : Nat) (h0 : PH) (r : Int32) (hm : mm_isLineWord h0 = some r) : Kx G tm_isLineWord (d + 1) [.ref (gB G + 104)] h0 (some (.int r)) h0 := by
  refine K_of_V (by decide) (by simp [cat_i, cat_r, fmtV_cat]) (by simp [tm_isLineWord]) ?_
  change Vx G tm_isLineWord (d + 1) 0 [some (.ref (gB G + 104))] [] h0 (some (.int r)) h0
  unfold mm_isLineWord at hm
  refine v_ald_0 dm_isLineWord_0 ?_
  refine v_getI dm_isLineWord_1 fum_207 sh_104 rf_104_14 ?_
  refine v_iconst (x := 2) dm_isLineWord_4 rfl ?_
  refine v_cmp_ne dm_isLineWord_5 (fun hc => ?_) (fun hc => ?_)
  · replace hm := it hc hm
    refine v_ald_0 dm_isLineWord_8 ?_
    refine v_ald_0 dm_isLineWord_9 ?_
    refine v_getI dm_isLineWord_10 fum_210 sh_104 rf_104_15 ?_
    refine v_iconst (x := 0) dm_isLineWord_13 rfl ?_
    refine v_iconst (x := 2) dm_isLineWord_14 rfl ?_
    obtain ⟨r1, he, hm⟩ := bd_s hm
    refine v_cv3i (M' := tm_isIn) dm_isLineWord_15 mlm_177 okm_isIn sh_104 hc_12 (Nat.le_of_ble_eq_true rfl) (ctm_isIn G d _ _ _ _ _ he) ?_
    refine v_if_eq dm_isLineWord_18 (fun hc => ?_) (fun hc => ?_)
    · replace hm := it hc hm
      refine v_iconst (x := 0) dm_isLineWord_25 rfl ?_
      cases hm
      exact v_zret0 dm_isLineWord_26 rfl
    · replace hm := ie hc hm
      refine v_iconst (x := 1) dm_isLineWord_21 rfl ?_
      refine v_goto dm_isLineWord_22 ?_
      cases hm
      exact v_zret1 dm_isLineWord_26 rfl
  · replace hm := ie hc hm
    refine v_iconst (x := 0) dm_isLineWord_25 rfl ?_
    cases hm
    exact v_zret0 dm_isLineWord_26 rfl
def mm_readLaw_L2 (k0 : PH → Option (Int32 × PH)) (k1 : PH → Option (Int32 × PH)) (k2 : Int32 → PH → Option (Int32 × PH)) : Nat → Int32 → PH → Option (Int32 × PH)
  | 0, _, _ => none
  | n + 1, v1, hv =>
    bd (mm_isLineWord hv) fun r1 =>
    if r1 = 0 then
      k2 v1 hv
    else
      if v1 = 16 then
        k0 hv
      else
        lt (32 + v1) fun x2 =>
        ck x2 48 <|
        lt (up hv 114 (ix x2) (hv 104 15)) fun h3 =>
        bd (mm_reads h3) fun h4 =>
        ck x2 48 <|
        lt (up h4 115 (ix x2) (h4 104 25)) fun h5 =>
        bd2 (mm_readSum h5) fun r6 h7 =>
        if r6 = (-1) then
          some ((-1), h7)
        else
          ck x2 48 <|
          lt (up h7 116 (ix x2) (h7 104 25)) fun h8 =>
          bd (mm_isWord 3 h8) fun r9 =>
          jn1 (fun (h11 : PH) =>
            ck x2 48 <|
            lt (up h11 117 (ix x2) (h11 104 25)) fun h12 =>
            bd (mm_isSign 59 h12) fun r13 =>
            if r13 = 0 then
              k1 h12
            else
              bd (mm_reads h12) fun h14 =>
              lt (v1 + 1) fun x15 =>
              mm_readLaw_L2 k0 k1 k2 n x15 h14) fun j10 =>
          if r9 = 0 then
            j10 h8
          else
            bd (mm_reads h8) fun h16 =>
            bd2 (mm_readAny h16) fun r17 h18 =>
            if r17 = (-1) then
              some ((-1), h18)
            else
              j10 h18
def mm_readLaw (h0 : PH) : Option (Int32 × PH) :=
  mm_readLaw_L2 (fun (h19 : PH) =>
    bd2 (mm_errs 3 h19) fun r20 h21 =>
    some (r20, h21)) (fun (h22 : PH) =>
    bd2 (mm_errs 1 h22) fun r23 h24 =>
    some (r23, h24)) (fun (x25 : Int32) (h26 : PH) =>
    if (h26 104 14) = 0 then
      some (x25, h26)
    else
      bd2 (mm_errs 1 h26) fun r27 h28 =>
      some (r27, h28)) FU 0 h0
theorem wm_readLaw_L2 (G : GG) (d : Nat) (k0 : PH → Option (Int32 × PH)) (k1 : PH → Option (Int32 × PH)) (k2 : Int32 → PH → Option (Int32 × PH)) (r : Int32 × PH) (kk0 : ∀ (hy : PH), k0 hy = some r → Vx G tm_readLaw (d + 8) 15 [some (.ref (gB G + 104)), none, none] [] hy (some (.int r.1)) r.2) (kk1 : ∀ (hy : PH), k1 hy = some r → Vx G tm_readLaw (d + 8) 111 [some (.ref (gB G + 104)), none, none] [] hy (some (.int r.1)) r.2) (kk2 : ∀ (y1 : Int32) (hy : PH), k2 y1 hy = some r → Vx G tm_readLaw (d + 8) 128 [some (.ref (gB G + 104)), some (.int y1), none] [] hy (some (.int r.1)) r.2) : ∀ (n : Nat) (v1 : Int32) (hv : PH), mm_readLaw_L2 k0 k1 k2 n v1 hv = some r → Vx G tm_readLaw (d + 8) 2 [some (.ref (gB G + 104)), some (.int v1), none] [] hv (some (.int r.1)) r.2 := by
  intro n
  induction n with
  | zero => intro v1 hv hm; cases hm
  | succ n ih =>
    intro v1 hv hm
    unfold mm_readLaw_L2 at hm
    refine v_ald_0 dm_readLaw_2 ?_
    obtain ⟨r1, he, hm⟩ := bd_s hm
    refine v_cv0i (M' := tm_isLineWord) dm_readLaw_3 mlm_278 okm_isLineWord sh_104 hc_12 (Nat.le_of_ble_eq_true rfl) (ctm_isLineWord G (d + 6) _ _ he) ?_
    refine v_if_eq dm_readLaw_6 (fun hc => ?_) (fun hc => ?_)
    · replace hm := it hc hm
      exact v_kw (kk2 _ _ hm) (wk_s (wk_s (wk_n wk_e)))
    · replace hm := ie hc hm
      refine v_ild_1 dm_readLaw_9 ?_
      refine v_bipush (x := 16) dm_readLaw_10 rfl ?_
      refine v_cmp_ne dm_readLaw_12 (fun hc => ?_) (fun hc => ?_)
      · replace hm := it hc hm
        exact v_kw (kk0 _ hm) (wk_s (wk_n (wk_n wk_e)))
      · replace hm := ie hc hm
        refine v_bipush (x := 32) dm_readLaw_21 rfl ?_
        refine v_ild_1 dm_readLaw_23 ?_
        refine v_iadd dm_readLaw_24 ?_
        refine v_top hm (fun x2 hm => ?_)
        refine v_ist_2 dm_readLaw_25 (by decide) rfl ?_
        refine v_ald_0 dm_readLaw_26 ?_
        refine v_getR dm_readLaw_27 fum_37 sh_104 rf_104_18 ?_
        refine v_ild_2 dm_readLaw_30 ?_
        refine v_ald_0 dm_readLaw_31 ?_
        refine v_getI dm_readLaw_32 fum_210 sh_104 rf_104_15 ?_
        obtain ⟨hi, hm⟩ := ck_s hm
        refine v_iastl dm_readLaw_35 sh_114 hi hm (fun h3 hm => ?_)
        refine v_ald_0 dm_readLaw_36 ?_
        obtain ⟨h4, he, hm⟩ := bd_s hm
        refine v_cv0v (M' := tm_reads) dm_readLaw_37 mlm_244 okm_reads sh_104 hc_12 (Nat.le_of_ble_eq_true rfl) (ctm_reads G (d + 5) _ _ he) ?_
        refine v_ald_0 dm_readLaw_40 ?_
        refine v_getR dm_readLaw_41 fum_40 sh_104 rf_104_19 ?_
        refine v_ild_2 dm_readLaw_44 ?_
        refine v_ald_0 dm_readLaw_45 ?_
        refine v_getI dm_readLaw_46 fum_231 sh_104 rf_104_25 ?_
        obtain ⟨hi, hm⟩ := ck_s hm
        refine v_iastl dm_readLaw_49 sh_115 hi hm (fun h5 hm => ?_)
        refine v_ald_0 dm_readLaw_50 ?_
        obtain ⟨r6, h7, he, hm⟩ := bd2_s hm
        refine v_cv0i (M' := tm_readSum) dm_readLaw_51 mlm_257 okm_readSum sh_104 hc_12 (Nat.le_of_ble_eq_true rfl) (ctm_readSum G (d + 2) _ _ he) ?_
        refine v_iconst (x := (-1)) dm_readLaw_54 rfl ?_
        refine v_cmp_ne dm_readLaw_55 (fun hc => ?_) (fun hc => ?_)
        · replace hm := it hc hm
          refine v_iconst (x := (-1)) dm_readLaw_58 rfl ?_
          cases hm
          exact v_iret dm_readLaw_59 rfl
        · replace hm := ie hc hm
          refine v_ald_0 dm_readLaw_60 ?_
          refine v_getR dm_readLaw_61 fum_43 sh_104 rf_104_20 ?_
          refine v_ild_2 dm_readLaw_64 ?_
          refine v_ald_0 dm_readLaw_65 ?_
          refine v_getI dm_readLaw_66 fum_231 sh_104 rf_104_25 ?_
          obtain ⟨hi, hm⟩ := ck_s hm
          refine v_iastl dm_readLaw_69 sh_116 hi hm (fun h8 hm => ?_)
          refine v_ald_0 dm_readLaw_70 ?_
          refine v_iconst (x := 3) dm_readLaw_71 rfl ?_
          obtain ⟨r9, he, hm⟩ := bd_s hm
          refine v_cv1i (M' := tm_isWord) dm_readLaw_72 mlm_266 okm_isWord sh_104 hc_12 (Nat.le_of_ble_eq_true rfl) (ctm_isWord G (d + 7) _ _ _ he) ?_
          refine v_j1 (fun (h11 : PH) => Vx G tm_readLaw (d + 8) 92 [some (.ref (gB G + 104)), some (.int v1), some (.int x2)] [] h11 (some (.int r.1)) r.2) hm (fun h11 hm => ?_) (fun j10 kj10 hm => ?_)
          · refine v_ald_0 dm_readLaw_92 ?_
            refine v_getR dm_readLaw_93 fum_46 sh_104 rf_104_21 ?_
            refine v_ild_2 dm_readLaw_96 ?_
            refine v_ald_0 dm_readLaw_97 ?_
            refine v_getI dm_readLaw_98 fum_231 sh_104 rf_104_25 ?_
            obtain ⟨hi, hm⟩ := ck_s hm
            refine v_iastl dm_readLaw_101 sh_117 hi hm (fun h12 hm => ?_)
            refine v_ald_0 dm_readLaw_102 ?_
            refine v_bipush (x := 59) dm_readLaw_103 rfl ?_
            obtain ⟨r13, he, hm⟩ := bd_s hm
            refine v_cv1i (M' := tm_isSign) dm_readLaw_105 mlm_251 okm_isSign sh_104 hc_12 (Nat.le_of_ble_eq_true rfl) (ctm_isSign G (d + 7) _ _ _ he) ?_
            refine v_if_ne dm_readLaw_108 (fun hc => ?_) (fun hc => ?_)
            · replace hm := it hc hm
              exact v_kw (kk1 _ hm) (wk_s (wk_n (wk_n wk_e)))
            · replace hm := ie hc hm
              refine v_ald_0 dm_readLaw_117 ?_
              obtain ⟨h14, he, hm⟩ := bd_s hm
              refine v_cv0v (M' := tm_reads) dm_readLaw_118 mlm_244 okm_reads sh_104 hc_12 (Nat.le_of_ble_eq_true rfl) (ctm_reads G (d + 5) _ _ he) ?_
              refine v_ild_1 dm_readLaw_121 ?_
              refine v_iconst (x := 1) dm_readLaw_122 rfl ?_
              refine v_iadd dm_readLaw_123 ?_
              refine v_top hm (fun x15 hm => ?_)
              refine v_ist_1 dm_readLaw_124 (by decide) rfl ?_
              refine v_goto dm_readLaw_125 ?_
              exact v_kw (ih _ _ hm) (wk_s (wk_s (wk_n wk_e)))
          · refine v_if_eq dm_readLaw_75 (fun hc => ?_) (fun hc => ?_)
            · replace hm := it hc hm
              exact v_kw (kj10 _ hm) (wk_s (wk_s (wk_s wk_e)))
            · replace hm := ie hc hm
              refine v_ald_0 dm_readLaw_78 ?_
              obtain ⟨h16, he, hm⟩ := bd_s hm
              refine v_cv0v (M' := tm_reads) dm_readLaw_79 mlm_244 okm_reads sh_104 hc_12 (Nat.le_of_ble_eq_true rfl) (ctm_reads G (d + 5) _ _ he) ?_
              refine v_ald_0 dm_readLaw_82 ?_
              obtain ⟨r17, h18, he, hm⟩ := bd2_s hm
              refine v_cv0i (M' := tm_readAny) dm_readLaw_83 mlm_282 okm_readAny sh_104 hc_12 (Nat.le_of_ble_eq_true rfl) (ctm_readAny G d _ _ he) ?_
              refine v_iconst (x := (-1)) dm_readLaw_86 rfl ?_
              refine v_cmp_ne dm_readLaw_87 (fun hc => ?_) (fun hc => ?_)
              · replace hm := it hc hm
                refine v_iconst (x := (-1)) dm_readLaw_90 rfl ?_
                cases hm
                exact v_iret dm_readLaw_91 rfl
              · replace hm := ie hc hm
                exact v_kw (kj10 _ hm) (wk_s (wk_s (wk_s wk_e)))
theorem ctm_readLaw (G : GG) (d : Nat) (h0 : PH) (r : Int32 × PH) (hm : mm_readLaw h0 = some r) : Kx G tm_readLaw (d + 8) [.ref (gB G + 104)] h0 (some (.int r.1)) r.2 := by
  refine K_of_V (by decide) (by simp [cat_i, cat_r, fmtV_cat]) (by simp [tm_readLaw]) ?_
  change Vx G tm_readLaw (d + 8) 0 [some (.ref (gB G + 104)), none, none] [] h0 (some (.int r.1)) r.2
  unfold mm_readLaw at hm
  refine v_iconst (x := 0) dm_readLaw_0 rfl ?_
  refine v_ist_1 dm_readLaw_1 (by decide) rfl ?_
  refine v_kw (wm_readLaw_L2 G d _ _ _ _ (fun h19 hm => ?_) (fun h22 hm => ?_) (fun x25 h26 hm => ?_) FU _ _ hm) (wk_s (wk_s (wk_n wk_e)))
  · refine v_ald_0 dm_readLaw_15 ?_
    refine v_iconst (x := 3) dm_readLaw_16 rfl ?_
    obtain ⟨r20, h21, he, hm⟩ := bd2_s hm
    refine v_cv1i (M' := tm_errs) dm_readLaw_17 mlm_237 okm_errs sh_104 hc_12 (Nat.le_of_ble_eq_true rfl) (ctm_errs G (d + 7) _ _ _ he) ?_
    cases hm
    exact v_iret dm_readLaw_20 rfl
  · refine v_ald_0 dm_readLaw_111 ?_
    refine v_iconst (x := 1) dm_readLaw_112 rfl ?_
    obtain ⟨r23, h24, he, hm⟩ := bd2_s hm
    refine v_cv1i (M' := tm_errs) dm_readLaw_113 mlm_237 okm_errs sh_104 hc_12 (Nat.le_of_ble_eq_true rfl) (ctm_errs G (d + 7) _ _ _ he) ?_
    cases hm
    exact v_iret dm_readLaw_116 rfl
  · refine v_ald_0 dm_readLaw_128 ?_
    refine v_getI dm_readLaw_129 fum_207 sh_104 rf_104_14 ?_
    refine v_if_ne dm_readLaw_132 (fun hc => ?_) (fun hc => ?_)
    · replace hm := it hc hm
      refine v_ild_1 dm_readLaw_135 ?_
      refine v_goto dm_readLaw_136 ?_
      cases hm
      exact v_iret dm_readLaw_144 rfl
    · replace hm := ie hc hm
      refine v_ald_0 dm_readLaw_139 ?_
      refine v_iconst (x := 1) dm_readLaw_140 rfl ?_
      obtain ⟨r27, h28, he, hm⟩ := bd2_s hm
      refine v_cv1i (M' := tm_errs) dm_readLaw_141 mlm_237 okm_errs sh_104 hc_12 (Nat.le_of_ble_eq_true rfl) (ctm_errs G (d + 7) _ _ _ he) ?_
      cases hm
      exact v_iret dm_readLaw_144 rfl
def mm_takesLaw_L2 (p1 : Int32) (k0 : PH → Option (PH)) : Nat → Int32 → PH → Option (PH)
  | 0, _, _ => none
  | n + 1, v2, hv =>
    if p1 ≤ v2 then
      k0 hv
    else
      ck (32 + v2) 48 <|
      ck ((16 * (hv 104 24)) + v2) 48 <|
      lt (up hv 114 (ix ((16 * (hv 104 24)) + v2)) (hv 114 (ix (32 + v2)))) fun h1 =>
      ck (32 + v2) 48 <|
      ck ((16 * (h1 104 24)) + v2) 48 <|
      lt (up h1 115 (ix ((16 * (h1 104 24)) + v2)) (h1 115 (ix (32 + v2)))) fun h2 =>
      ck (32 + v2) 48 <|
      ck ((16 * (h2 104 24)) + v2) 48 <|
      lt (up h2 116 (ix ((16 * (h2 104 24)) + v2)) (h2 116 (ix (32 + v2)))) fun h3 =>
      ck (32 + v2) 48 <|
      ck ((16 * (h3 104 24)) + v2) 48 <|
      lt (up h3 117 (ix ((16 * (h3 104 24)) + v2)) (h3 117 (ix (32 + v2)))) fun h4 =>
      mm_takesLaw_L2 p1 k0 n (v2 + 1) h4
def mm_takesLaw_L107 (p1 : Int32) (k0 : PH → Option (PH)) : Nat → Int32 → PH → Option (PH)
  | 0, _, _ => none
  | n + 1, v2, hv =>
    if (hv 104 25) ≤ v2 then
      k0 hv
    else
      ck (800 + v2) 1200 <|
      ck ((400 * (hv 104 24)) + v2) 1200 <|
      lt (up hv 118 (ix ((400 * (hv 104 24)) + v2)) (hv 118 (ix (800 + v2)))) fun h6 =>
      ck (800 + v2) 1200 <|
      ck ((400 * (h6 104 24)) + v2) 1200 <|
      lt (up h6 119 (ix ((400 * (h6 104 24)) + v2)) (h6 119 (ix (800 + v2)))) fun h7 =>
      mm_takesLaw_L107 p1 k0 n (v2 + 1) h7
def mm_takesLaw (p1 : Int32) (h0 : PH) : Option (PH) :=
  mm_takesLaw_L2 p1 (fun (h5 : PH) =>
    mm_takesLaw_L107 p1 (fun (h8 : PH) =>
      ck (h8 104 24) 2 <|
      lt (up h8 113 (ix (h8 104 24)) p1) fun h9 =>
      some h9) FU 0 h5) FU 0 h0
theorem wm_takesLaw_L2 (G : GG) (d : Nat) (p1 : Int32) (k0 : PH → Option (PH)) (r : PH) (kk0 : ∀ (hy : PH), k0 hy = some r → Vx G tm_takesLaw d 105 [some (.ref (gB G + 104)), some (.int p1), none] [] hy none r) : ∀ (n : Nat) (v2 : Int32) (hv : PH), mm_takesLaw_L2 p1 k0 n v2 hv = some r → Vx G tm_takesLaw d 2 [some (.ref (gB G + 104)), some (.int p1), some (.int v2)] [] hv none r := by
  intro n
  induction n with
  | zero => intro v2 hv hm; cases hm
  | succ n ih =>
    intro v2 hv hm
    unfold mm_takesLaw_L2 at hm
    refine v_ild_2 dm_takesLaw_2 ?_
    refine v_ild_1 dm_takesLaw_3 ?_
    refine v_cmp_ge dm_takesLaw_4 (fun hc => ?_) (fun hc => ?_)
    · replace hm := it hc hm
      exact v_kw (kk0 _ hm) (wk_s (wk_s (wk_n wk_e)))
    · replace hm := ie hc hm
      refine v_ald_0 dm_takesLaw_7 ?_
      refine v_getR dm_takesLaw_8 fum_37 sh_104 rf_104_18 ?_
      refine v_bipush (x := 16) dm_takesLaw_11 rfl ?_
      refine v_ald_0 dm_takesLaw_13 ?_
      refine v_getI dm_takesLaw_14 fum_285 sh_104 rf_104_24 ?_
      refine v_imul dm_takesLaw_17 ?_
      refine v_ild_2 dm_takesLaw_18 ?_
      refine v_iadd dm_takesLaw_19 ?_
      refine v_ald_0 dm_takesLaw_20 ?_
      refine v_getR dm_takesLaw_21 fum_37 sh_104 rf_104_18 ?_
      refine v_bipush (x := 32) dm_takesLaw_24 rfl ?_
      refine v_ild_2 dm_takesLaw_26 ?_
      refine v_iadd dm_takesLaw_27 ?_
      obtain ⟨hi, hm⟩ := ck_s hm
      refine v_iald dm_takesLaw_28 sh_114 hi ?_
      obtain ⟨hi, hm⟩ := ck_s hm
      refine v_iastl dm_takesLaw_29 sh_114 hi hm (fun h1 hm => ?_)
      refine v_ald_0 dm_takesLaw_30 ?_
      refine v_getR dm_takesLaw_31 fum_40 sh_104 rf_104_19 ?_
      refine v_bipush (x := 16) dm_takesLaw_34 rfl ?_
      refine v_ald_0 dm_takesLaw_36 ?_
      refine v_getI dm_takesLaw_37 fum_285 sh_104 rf_104_24 ?_
      refine v_imul dm_takesLaw_40 ?_
      refine v_ild_2 dm_takesLaw_41 ?_
      refine v_iadd dm_takesLaw_42 ?_
      refine v_ald_0 dm_takesLaw_43 ?_
      refine v_getR dm_takesLaw_44 fum_40 sh_104 rf_104_19 ?_
      refine v_bipush (x := 32) dm_takesLaw_47 rfl ?_
      refine v_ild_2 dm_takesLaw_49 ?_
      refine v_iadd dm_takesLaw_50 ?_
      obtain ⟨hi, hm⟩ := ck_s hm
      refine v_iald dm_takesLaw_51 sh_115 hi ?_
      obtain ⟨hi, hm⟩ := ck_s hm
      refine v_iastl dm_takesLaw_52 sh_115 hi hm (fun h2 hm => ?_)
      refine v_ald_0 dm_takesLaw_53 ?_
      refine v_getR dm_takesLaw_54 fum_43 sh_104 rf_104_20 ?_
      refine v_bipush (x := 16) dm_takesLaw_57 rfl ?_
      refine v_ald_0 dm_takesLaw_59 ?_
      refine v_getI dm_takesLaw_60 fum_285 sh_104 rf_104_24 ?_
      refine v_imul dm_takesLaw_63 ?_
      refine v_ild_2 dm_takesLaw_64 ?_
      refine v_iadd dm_takesLaw_65 ?_
      refine v_ald_0 dm_takesLaw_66 ?_
      refine v_getR dm_takesLaw_67 fum_43 sh_104 rf_104_20 ?_
      refine v_bipush (x := 32) dm_takesLaw_70 rfl ?_
      refine v_ild_2 dm_takesLaw_72 ?_
      refine v_iadd dm_takesLaw_73 ?_
      obtain ⟨hi, hm⟩ := ck_s hm
      refine v_iald dm_takesLaw_74 sh_116 hi ?_
      obtain ⟨hi, hm⟩ := ck_s hm
      refine v_iastl dm_takesLaw_75 sh_116 hi hm (fun h3 hm => ?_)
      refine v_ald_0 dm_takesLaw_76 ?_
      refine v_getR dm_takesLaw_77 fum_46 sh_104 rf_104_21 ?_
      refine v_bipush (x := 16) dm_takesLaw_80 rfl ?_
      refine v_ald_0 dm_takesLaw_82 ?_
      refine v_getI dm_takesLaw_83 fum_285 sh_104 rf_104_24 ?_
      refine v_imul dm_takesLaw_86 ?_
      refine v_ild_2 dm_takesLaw_87 ?_
      refine v_iadd dm_takesLaw_88 ?_
      refine v_ald_0 dm_takesLaw_89 ?_
      refine v_getR dm_takesLaw_90 fum_46 sh_104 rf_104_21 ?_
      refine v_bipush (x := 32) dm_takesLaw_93 rfl ?_
      refine v_ild_2 dm_takesLaw_95 ?_
      refine v_iadd dm_takesLaw_96 ?_
      obtain ⟨hi, hm⟩ := ck_s hm
      refine v_iald dm_takesLaw_97 sh_117 hi ?_
      obtain ⟨hi, hm⟩ := ck_s hm
      refine v_iastl dm_takesLaw_98 sh_117 hi hm (fun h4 hm => ?_)
      refine v_inc_2 1 dm_takesLaw_99 rfl (by decide) rfl ?_
      refine v_goto dm_takesLaw_102 ?_
      exact v_kw (ih _ _ hm) (wk_s (wk_s (wk_s wk_e)))
theorem wm_takesLaw_L107 (G : GG) (d : Nat) (p1 : Int32) (k0 : PH → Option (PH)) (r : PH) (kk0 : ∀ (hy : PH), k0 hy = some r → Vx G tm_takesLaw d 171 [some (.ref (gB G + 104)), some (.int p1), none] [] hy none r) : ∀ (n : Nat) (v2 : Int32) (hv : PH), mm_takesLaw_L107 p1 k0 n v2 hv = some r → Vx G tm_takesLaw d 107 [some (.ref (gB G + 104)), some (.int p1), some (.int v2)] [] hv none r := by
  intro n
  induction n with
  | zero => intro v2 hv hm; cases hm
  | succ n ih =>
    intro v2 hv hm
    unfold mm_takesLaw_L107 at hm
    refine v_ild_2 dm_takesLaw_107 ?_
    refine v_ald_0 dm_takesLaw_108 ?_
    refine v_getI dm_takesLaw_109 fum_231 sh_104 rf_104_25 ?_
    refine v_cmp_ge dm_takesLaw_112 (fun hc => ?_) (fun hc => ?_)
    · replace hm := it hc hm
      exact v_kw (kk0 _ hm) (wk_s (wk_s (wk_n wk_e)))
    · replace hm := ie hc hm
      refine v_ald_0 dm_takesLaw_115 ?_
      refine v_getR dm_takesLaw_116 fum_49 sh_104 rf_104_22 ?_
      refine v_sipush (x := 400) dm_takesLaw_119 rfl ?_
      refine v_ald_0 dm_takesLaw_122 ?_
      refine v_getI dm_takesLaw_123 fum_285 sh_104 rf_104_24 ?_
      refine v_imul dm_takesLaw_126 ?_
      refine v_ild_2 dm_takesLaw_127 ?_
      refine v_iadd dm_takesLaw_128 ?_
      refine v_ald_0 dm_takesLaw_129 ?_
      refine v_getR dm_takesLaw_130 fum_49 sh_104 rf_104_22 ?_
      refine v_sipush (x := 800) dm_takesLaw_133 rfl ?_
      refine v_ild_2 dm_takesLaw_136 ?_
      refine v_iadd dm_takesLaw_137 ?_
      obtain ⟨hi, hm⟩ := ck_s hm
      refine v_iald dm_takesLaw_138 sh_118 hi ?_
      obtain ⟨hi, hm⟩ := ck_s hm
      refine v_iastl dm_takesLaw_139 sh_118 hi hm (fun h6 hm => ?_)
      refine v_ald_0 dm_takesLaw_140 ?_
      refine v_getR dm_takesLaw_141 fum_52 sh_104 rf_104_23 ?_
      refine v_sipush (x := 400) dm_takesLaw_144 rfl ?_
      refine v_ald_0 dm_takesLaw_147 ?_
      refine v_getI dm_takesLaw_148 fum_285 sh_104 rf_104_24 ?_
      refine v_imul dm_takesLaw_151 ?_
      refine v_ild_2 dm_takesLaw_152 ?_
      refine v_iadd dm_takesLaw_153 ?_
      refine v_ald_0 dm_takesLaw_154 ?_
      refine v_getR dm_takesLaw_155 fum_52 sh_104 rf_104_23 ?_
      refine v_sipush (x := 800) dm_takesLaw_158 rfl ?_
      refine v_ild_2 dm_takesLaw_161 ?_
      refine v_iadd dm_takesLaw_162 ?_
      obtain ⟨hi, hm⟩ := ck_s hm
      refine v_iald dm_takesLaw_163 sh_119 hi ?_
      obtain ⟨hi, hm⟩ := ck_s hm
      refine v_iastl dm_takesLaw_164 sh_119 hi hm (fun h7 hm => ?_)
      refine v_inc_2 1 dm_takesLaw_165 rfl (by decide) rfl ?_
      refine v_goto dm_takesLaw_168 ?_
      exact v_kw (ih _ _ hm) (wk_s (wk_s (wk_s wk_e)))
theorem ctm_takesLaw (G : GG) (d : Nat) (p1 : Int32) (h0 : PH) (r : PH) (hm : mm_takesLaw p1 h0 = some r) : Kx G tm_takesLaw d [.ref (gB G + 104), .int p1] h0 none r := by
  refine K_of_V (by decide) (by simp [cat_i, cat_r, fmtV_cat]) (by simp [tm_takesLaw]) ?_
  change Vx G tm_takesLaw d 0 [some (.ref (gB G + 104)), some (.int p1), none] [] h0 none r
  unfold mm_takesLaw at hm
  refine v_iconst (x := 0) dm_takesLaw_0 rfl ?_
  refine v_ist_2 dm_takesLaw_1 (by decide) rfl ?_
  refine v_kw (wm_takesLaw_L2 G d _ _ _ (fun h5 hm => ?_) FU _ _ hm) (wk_s (wk_s (wk_s wk_e)))
  refine v_iconst (x := 0) dm_takesLaw_105 rfl ?_
  refine v_ist_2 dm_takesLaw_106 (by decide) rfl ?_
  refine v_kw (wm_takesLaw_L107 G d _ _ _ (fun h8 hm => ?_) FU _ _ hm) (wk_s (wk_s (wk_s wk_e)))
  refine v_ald_0 dm_takesLaw_171 ?_
  refine v_getR dm_takesLaw_172 fum_34 sh_104 rf_104_17 ?_
  refine v_ald_0 dm_takesLaw_175 ?_
  refine v_getI dm_takesLaw_176 fum_285 sh_104 rf_104_24 ?_
  refine v_ild_1 dm_takesLaw_179 ?_
  obtain ⟨hi, hm⟩ := ck_s hm
  refine v_iastl dm_takesLaw_180 sh_113 hi hm (fun h9 hm => ?_)
  cases hm
  exact v_ret dm_takesLaw_181 rfl
def mm_readNumber (p1 : Int32) (p2 : Int32) (h0 : PH) : Option (Int32 × PH) :=
  if (h0 104 14) = 3 then
    bd (mm_isIn (h0 104 15) p1 p2 h0) fun r1 =>
    if r1 = 0 then
      bd2 (mm_errs 2 h0) fun r2 h3 =>
      some (r2, h3)
    else
      lt (h0 104 15) fun x4 =>
      bd (mm_reads h0) fun h5 =>
      some (x4, h5)
  else
    bd2 (mm_errs 1 h0) fun r6 h7 =>
    some (r6, h7)
theorem ctm_readNumber (G : GG) (d : Nat) (p1 : Int32) (p2 : Int32) (h0 : PH) (r : Int32 × PH) (hm : mm_readNumber p1 p2 h0 = some r) : Kx G tm_readNumber (d + 3) [.ref (gB G + 104), .int p1, .int p2] h0 (some (.int r.1)) r.2 := by
  refine K_of_V (by decide) (by simp [cat_i, cat_r, fmtV_cat]) (by simp [tm_readNumber]) ?_
  change Vx G tm_readNumber (d + 3) 0 [some (.ref (gB G + 104)), some (.int p1), some (.int p2), none] [] h0 (some (.int r.1)) r.2
  unfold mm_readNumber at hm
  refine v_ald_0 dm_readNumber_0 ?_
  refine v_getI dm_readNumber_1 fum_207 sh_104 rf_104_14 ?_
  refine v_iconst (x := 3) dm_readNumber_4 rfl ?_
  refine v_cmp_eq dm_readNumber_5 (fun hc => ?_) (fun hc => ?_)
  · replace hm := it hc hm
    refine v_ald_0 dm_readNumber_14 ?_
    refine v_ald_0 dm_readNumber_15 ?_
    refine v_getI dm_readNumber_16 fum_210 sh_104 rf_104_15 ?_
    refine v_ild_1 dm_readNumber_19 ?_
    refine v_ild_2 dm_readNumber_20 ?_
    obtain ⟨r1, he, hm⟩ := bd_s hm
    refine v_cv3i (M' := tm_isIn) dm_readNumber_21 mlm_177 okm_isIn sh_104 hc_12 (Nat.le_of_ble_eq_true rfl) (ctm_isIn G (d + 2) _ _ _ _ _ he) ?_
    refine v_if_ne dm_readNumber_24 (fun hc => ?_) (fun hc => ?_)
    · replace hm := it hc hm
      refine v_ald_0 dm_readNumber_27 ?_
      refine v_iconst (x := 2) dm_readNumber_28 rfl ?_
      obtain ⟨r2, h3, he, hm⟩ := bd2_s hm
      refine v_cv1i (M' := tm_errs) dm_readNumber_29 mlm_237 okm_errs sh_104 hc_12 (Nat.le_of_ble_eq_true rfl) (ctm_errs G (d + 2) _ _ _ he) ?_
      cases hm
      exact v_iret dm_readNumber_32 rfl
    · replace hm := ie hc hm
      refine v_ald_0 dm_readNumber_33 ?_
      refine v_getI dm_readNumber_34 fum_210 sh_104 rf_104_15 ?_
      refine v_top hm (fun x4 hm => ?_)
      refine v_ist_3 dm_readNumber_37 (by decide) rfl ?_
      refine v_ald_0 dm_readNumber_38 ?_
      obtain ⟨h5, he, hm⟩ := bd_s hm
      refine v_cv0v (M' := tm_reads) dm_readNumber_39 mlm_244 okm_reads sh_104 hc_12 (Nat.le_of_ble_eq_true rfl) (ctm_reads G d _ _ he) ?_
      refine v_ild_3 dm_readNumber_42 ?_
      cases hm
      exact v_iret dm_readNumber_43 rfl
  · replace hm := ie hc hm
    refine v_ald_0 dm_readNumber_8 ?_
    refine v_iconst (x := 1) dm_readNumber_9 rfl ?_
    obtain ⟨r6, h7, he, hm⟩ := bd2_s hm
    refine v_cv1i (M' := tm_errs) dm_readNumber_10 mlm_237 okm_errs sh_104 hc_12 (Nat.le_of_ble_eq_true rfl) (ctm_errs G (d + 2) _ _ _ he) ?_
    cases hm
    exact v_iret dm_readNumber_13 rfl
def mm_readMark (p1 : Int32) (h0 : PH) : Option (Int32 × PH) :=
  bd (mm_isSign p1 h0) fun r1 =>
  if r1 = 0 then
    bd2 (mm_errs 1 h0) fun r2 h3 =>
    some (r2, h3)
  else
    bd (mm_reads h0) fun h4 =>
    some (0, h4)
theorem ctm_readMark (G : GG) (d : Nat) (p1 : Int32) (h0 : PH) (r : Int32 × PH) (hm : mm_readMark p1 h0 = some r) : Kx G tm_readMark (d + 3) [.ref (gB G + 104), .int p1] h0 (some (.int r.1)) r.2 := by
  refine K_of_V (by decide) (by simp [cat_i, cat_r, fmtV_cat]) (by simp [tm_readMark]) ?_
  change Vx G tm_readMark (d + 3) 0 [some (.ref (gB G + 104)), some (.int p1)] [] h0 (some (.int r.1)) r.2
  unfold mm_readMark at hm
  refine v_ald_0 dm_readMark_0 ?_
  refine v_ild_1 dm_readMark_1 ?_
  obtain ⟨r1, he, hm⟩ := bd_s hm
  refine v_cv1i (M' := tm_isSign) dm_readMark_2 mlm_251 okm_isSign sh_104 hc_12 (Nat.le_of_ble_eq_true rfl) (ctm_isSign G (d + 2) _ _ _ he) ?_
  refine v_if_ne dm_readMark_5 (fun hc => ?_) (fun hc => ?_)
  · replace hm := it hc hm
    refine v_ald_0 dm_readMark_8 ?_
    refine v_iconst (x := 1) dm_readMark_9 rfl ?_
    obtain ⟨r2, h3, he, hm⟩ := bd2_s hm
    refine v_cv1i (M' := tm_errs) dm_readMark_10 mlm_237 okm_errs sh_104 hc_12 (Nat.le_of_ble_eq_true rfl) (ctm_errs G (d + 2) _ _ _ he) ?_
    cases hm
    exact v_iret dm_readMark_13 rfl
  · replace hm := ie hc hm
    refine v_ald_0 dm_readMark_14 ?_
    obtain ⟨h4, he, hm⟩ := bd_s hm
    refine v_cv0v (M' := tm_reads) dm_readMark_15 mlm_244 okm_reads sh_104 hc_12 (Nat.le_of_ble_eq_true rfl) (ctm_reads G d _ _ he) ?_
    refine v_iconst (x := 0) dm_readMark_18 rfl ?_
    cases hm
    exact v_iret dm_readMark_19 rfl
def mm_readTold (p1 : Int32) (p2 : Int32) (p3 : Int32) (h0 : PH) : Option (Int32 × PH) :=
  bd (mm_isWord p1 h0) fun r1 =>
  if r1 = 0 then
    bd2 (mm_errs 1 h0) fun r2 h3 =>
    some (r2, h3)
  else
    bd (mm_reads h0) fun h4 =>
    bd2 (mm_readNumber p2 p3 h4) fun r5 h6 =>
    some (r5, h6)
theorem ctm_readTold (G : GG) (d : Nat) (p1 : Int32) (p2 : Int32) (p3 : Int32) (h0 : PH) (r : Int32 × PH) (hm : mm_readTold p1 p2 p3 h0 = some r) : Kx G tm_readTold (d + 4) [.ref (gB G + 104), .int p1, .int p2, .int p3] h0 (some (.int r.1)) r.2 := by
  refine K_of_V (by decide) (by simp [cat_i, cat_r, fmtV_cat]) (by simp [tm_readTold]) ?_
  change Vx G tm_readTold (d + 4) 0 [some (.ref (gB G + 104)), some (.int p1), some (.int p2), some (.int p3)] [] h0 (some (.int r.1)) r.2
  unfold mm_readTold at hm
  refine v_ald_0 dm_readTold_0 ?_
  refine v_ild_1 dm_readTold_1 ?_
  obtain ⟨r1, he, hm⟩ := bd_s hm
  refine v_cv1i (M' := tm_isWord) dm_readTold_2 mlm_266 okm_isWord sh_104 hc_12 (Nat.le_of_ble_eq_true rfl) (ctm_isWord G (d + 3) _ _ _ he) ?_
  refine v_if_ne dm_readTold_5 (fun hc => ?_) (fun hc => ?_)
  · replace hm := it hc hm
    refine v_ald_0 dm_readTold_8 ?_
    refine v_iconst (x := 1) dm_readTold_9 rfl ?_
    obtain ⟨r2, h3, he, hm⟩ := bd2_s hm
    refine v_cv1i (M' := tm_errs) dm_readTold_10 mlm_237 okm_errs sh_104 hc_12 (Nat.le_of_ble_eq_true rfl) (ctm_errs G (d + 3) _ _ _ he) ?_
    cases hm
    exact v_iret dm_readTold_13 rfl
  · replace hm := ie hc hm
    refine v_ald_0 dm_readTold_14 ?_
    obtain ⟨h4, he, hm⟩ := bd_s hm
    refine v_cv0v (M' := tm_reads) dm_readTold_15 mlm_244 okm_reads sh_104 hc_12 (Nat.le_of_ble_eq_true rfl) (ctm_reads G (d + 1) _ _ he) ?_
    refine v_ald_0 dm_readTold_18 ?_
    refine v_ild_2 dm_readTold_19 ?_
    refine v_ild_3 dm_readTold_20 ?_
    obtain ⟨r5, h6, he, hm⟩ := bd2_s hm
    refine v_cv2i (M' := tm_readNumber) dm_readTold_21 mlm_288 okm_readNumber sh_104 hc_12 (Nat.le_of_ble_eq_true rfl) (ctm_readNumber G d _ _ _ _ he) ?_
    cases hm
    exact v_iret dm_readTold_24 rfl
def mm_readSkyLine (p1 : Int32) (h0 : PH) : Option (Int32 × PH) :=
  bd2 (mm_readTold 19 0 999 h0) fun r1 h2 =>
  ck p1 96 <|
  lt (up h2 121 (ix p1) r1) fun h3 =>
  ck p1 96 <|
  if (h3 121 (ix p1)) = (-1) then
    some ((-1), h3)
  else
    bd (mm_isWord 16 h3) fun r4 =>
    jn1 (fun (x6 : Int32) =>
      if x6 = (-1) then
        bd2 (mm_errs 1 h3) fun r7 h8 =>
        some (r7, h8)
      else
        bd (mm_reads h3) fun h9 =>
        ck (p1 + 1) 96 <|
        lt (up h9 121 (ix (p1 + 1)) x6) fun h10 =>
        jn2 (fun (x12 : Int32) (h13 : PH) =>
          ck (p1 + 2) 96 <|
          lt (up h13 121 (ix (p1 + 2)) x12) fun h14 =>
          ck (p1 + 2) 96 <|
          if (h14 121 (ix (p1 + 2))) = (-1) then
            some ((-1), h14)
          else
            bd2 (mm_readMark 59 h14) fun r15 h16 =>
            some (r15, h16)) fun j11 =>
        if x6 = 0 then
          bd2 (mm_readNumber 0 9 h10) fun r17 h18 =>
          j11 r17 h18
        else
          j11 0 h10) fun j5 =>
    if r4 = 0 then
      bd (mm_isWord 17 h3) fun r19 =>
      if r19 = 0 then
        bd (mm_isWord 20 h3) fun r20 =>
        if r20 = 0 then
          j5 (-1)
        else
          j5 2
      else
        j5 1
    else
      j5 0
theorem ctm_readSkyLine (G : GG) (d : Nat) (p1 : Int32) (h0 : PH) (r : Int32 × PH) (hm : mm_readSkyLine p1 h0 = some r) : Kx G tm_readSkyLine (d + 5) [.ref (gB G + 104), .int p1] h0 (some (.int r.1)) r.2 := by
  refine K_of_V (by decide) (by simp [cat_i, cat_r, fmtV_cat]) (by simp [tm_readSkyLine]) ?_
  change Vx G tm_readSkyLine (d + 5) 0 [some (.ref (gB G + 104)), some (.int p1), none] [] h0 (some (.int r.1)) r.2
  unfold mm_readSkyLine at hm
  refine v_ald_0 dm_readSkyLine_0 ?_
  refine v_getR dm_readSkyLine_1 fum_62 sh_104 rf_104_34 ?_
  refine v_ild_1 dm_readSkyLine_4 ?_
  refine v_ald_0 dm_readSkyLine_5 ?_
  refine v_bipush (x := 19) dm_readSkyLine_6 rfl ?_
  refine v_iconst (x := 0) dm_readSkyLine_8 rfl ?_
  refine v_sipush (x := 999) dm_readSkyLine_9 rfl ?_
  obtain ⟨r1, h2, he, hm⟩ := bd2_s hm
  refine v_cv3i (M' := tm_readTold) dm_readSkyLine_12 mlm_291 okm_readTold sh_104 hc_12 (Nat.le_of_ble_eq_true rfl) (ctm_readTold G d _ _ _ _ _ he) ?_
  obtain ⟨hi, hm⟩ := ck_s hm
  refine v_iastl dm_readSkyLine_15 sh_121 hi hm (fun h3 hm => ?_)
  refine v_ald_0 dm_readSkyLine_16 ?_
  refine v_getR dm_readSkyLine_17 fum_62 sh_104 rf_104_34 ?_
  refine v_ild_1 dm_readSkyLine_20 ?_
  obtain ⟨hi, hm⟩ := ck_s hm
  refine v_iald dm_readSkyLine_21 sh_121 hi ?_
  refine v_iconst (x := (-1)) dm_readSkyLine_22 rfl ?_
  refine v_cmp_ne dm_readSkyLine_23 (fun hc => ?_) (fun hc => ?_)
  · replace hm := it hc hm
    refine v_iconst (x := (-1)) dm_readSkyLine_26 rfl ?_
    cases hm
    exact v_iret dm_readSkyLine_27 rfl
  · replace hm := ie hc hm
    refine v_ald_0 dm_readSkyLine_28 ?_
    refine v_bipush (x := 16) dm_readSkyLine_29 rfl ?_
    obtain ⟨r4, he, hm⟩ := bd_s hm
    refine v_cv1i (M' := tm_isWord) dm_readSkyLine_31 mlm_266 okm_isWord sh_104 hc_12 (Nat.le_of_ble_eq_true rfl) (ctm_isWord G (d + 4) _ _ _ he) ?_
    refine v_j1 (fun (x6 : Int32) => Vx G tm_readSkyLine (d + 5) 68 [some (.ref (gB G + 104)), some (.int p1), none] [.int x6] h3 (some (.int r.1)) r.2) hm (fun x6 hm => ?_) (fun j5 kj5 hm => ?_)
    · refine v_ist_2 dm_readSkyLine_68 (by decide) rfl ?_
      refine v_ild_2 dm_readSkyLine_69 ?_
      refine v_iconst (x := (-1)) dm_readSkyLine_70 rfl ?_
      refine v_cmp_ne dm_readSkyLine_71 (fun hc => ?_) (fun hc => ?_)
      · replace hm := it hc hm
        refine v_ald_0 dm_readSkyLine_74 ?_
        refine v_iconst (x := 1) dm_readSkyLine_75 rfl ?_
        obtain ⟨r7, h8, he, hm⟩ := bd2_s hm
        refine v_cv1i (M' := tm_errs) dm_readSkyLine_76 mlm_237 okm_errs sh_104 hc_12 (Nat.le_of_ble_eq_true rfl) (ctm_errs G (d + 4) _ _ _ he) ?_
        cases hm
        exact v_iret dm_readSkyLine_79 rfl
      · replace hm := ie hc hm
        refine v_ald_0 dm_readSkyLine_80 ?_
        obtain ⟨h9, he, hm⟩ := bd_s hm
        refine v_cv0v (M' := tm_reads) dm_readSkyLine_81 mlm_244 okm_reads sh_104 hc_12 (Nat.le_of_ble_eq_true rfl) (ctm_reads G (d + 2) _ _ he) ?_
        refine v_ald_0 dm_readSkyLine_84 ?_
        refine v_getR dm_readSkyLine_85 fum_62 sh_104 rf_104_34 ?_
        refine v_ild_1 dm_readSkyLine_88 ?_
        refine v_iconst (x := 1) dm_readSkyLine_89 rfl ?_
        refine v_iadd dm_readSkyLine_90 ?_
        refine v_ild_2 dm_readSkyLine_91 ?_
        obtain ⟨hi, hm⟩ := ck_s hm
        refine v_iastl dm_readSkyLine_92 sh_121 hi hm (fun h10 hm => ?_)
        refine v_ald_0 dm_readSkyLine_93 ?_
        refine v_getR dm_readSkyLine_94 fum_62 sh_104 rf_104_34 ?_
        refine v_ild_1 dm_readSkyLine_97 ?_
        refine v_iconst (x := 2) dm_readSkyLine_98 rfl ?_
        refine v_iadd dm_readSkyLine_99 ?_
        refine v_ild_2 dm_readSkyLine_100 ?_
        refine v_j2 (fun (x12 : Int32) (h13 : PH) => Vx G tm_readSkyLine (d + 5) 115 [some (.ref (gB G + 104)), some (.int p1), none] [.int x12, .int (p1 + 2), .ref (gB G + 121)] h13 (some (.int r.1)) r.2) hm (fun x12 h13 hm => ?_) (fun j11 kj11 hm => ?_)
        · obtain ⟨hi, hm⟩ := ck_s hm
          refine v_iastl dm_readSkyLine_115 sh_121 hi hm (fun h14 hm => ?_)
          refine v_ald_0 dm_readSkyLine_116 ?_
          refine v_getR dm_readSkyLine_117 fum_62 sh_104 rf_104_34 ?_
          refine v_ild_1 dm_readSkyLine_120 ?_
          refine v_iconst (x := 2) dm_readSkyLine_121 rfl ?_
          refine v_iadd dm_readSkyLine_122 ?_
          obtain ⟨hi, hm⟩ := ck_s hm
          refine v_iald dm_readSkyLine_123 sh_121 hi ?_
          refine v_iconst (x := (-1)) dm_readSkyLine_124 rfl ?_
          refine v_cmp_ne dm_readSkyLine_125 (fun hc => ?_) (fun hc => ?_)
          · replace hm := it hc hm
            refine v_iconst (x := (-1)) dm_readSkyLine_128 rfl ?_
            refine v_goto dm_readSkyLine_129 ?_
            cases hm
            exact v_iret dm_readSkyLine_138 rfl
          · replace hm := ie hc hm
            refine v_ald_0 dm_readSkyLine_132 ?_
            refine v_bipush (x := 59) dm_readSkyLine_133 rfl ?_
            obtain ⟨r15, h16, he, hm⟩ := bd2_s hm
            refine v_cv1i (M' := tm_readMark) dm_readSkyLine_135 mlm_294 okm_readMark sh_104 hc_12 (Nat.le_of_ble_eq_true rfl) (ctm_readMark G (d + 1) _ _ _ he) ?_
            cases hm
            exact v_iret dm_readSkyLine_138 rfl
        · refine v_if_ne dm_readSkyLine_101 (fun hc => ?_) (fun hc => ?_)
          · replace hm := it hc hm
            refine v_ald_0 dm_readSkyLine_104 ?_
            refine v_iconst (x := 0) dm_readSkyLine_105 rfl ?_
            refine v_bipush (x := 9) dm_readSkyLine_106 rfl ?_
            obtain ⟨r17, h18, he, hm⟩ := bd2_s hm
            refine v_cv2i (M' := tm_readNumber) dm_readSkyLine_108 mlm_288 okm_readNumber sh_104 hc_12 (Nat.le_of_ble_eq_true rfl) (ctm_readNumber G (d + 1) _ _ _ _ he) ?_
            refine v_goto dm_readSkyLine_111 ?_
            exact v_kw (kj11 _ _ hm) (wk_s (wk_s (wk_n wk_e)))
          · replace hm := ie hc hm
            refine v_iconst (x := 0) dm_readSkyLine_114 rfl ?_
            exact v_kw (kj11 _ _ hm) (wk_s (wk_s (wk_n wk_e)))
    · refine v_if_eq dm_readSkyLine_34 (fun hc => ?_) (fun hc => ?_)
      · replace hm := it hc hm
        refine v_ald_0 dm_readSkyLine_41 ?_
        refine v_bipush (x := 17) dm_readSkyLine_42 rfl ?_
        obtain ⟨r19, he, hm⟩ := bd_s hm
        refine v_cv1i (M' := tm_isWord) dm_readSkyLine_44 mlm_266 okm_isWord sh_104 hc_12 (Nat.le_of_ble_eq_true rfl) (ctm_isWord G (d + 4) _ _ _ he) ?_
        refine v_if_eq dm_readSkyLine_47 (fun hc => ?_) (fun hc => ?_)
        · replace hm := it hc hm
          refine v_ald_0 dm_readSkyLine_54 ?_
          refine v_bipush (x := 20) dm_readSkyLine_55 rfl ?_
          obtain ⟨r20, he, hm⟩ := bd_s hm
          refine v_cv1i (M' := tm_isWord) dm_readSkyLine_57 mlm_266 okm_isWord sh_104 hc_12 (Nat.le_of_ble_eq_true rfl) (ctm_isWord G (d + 4) _ _ _ he) ?_
          refine v_if_eq dm_readSkyLine_60 (fun hc => ?_) (fun hc => ?_)
          · replace hm := it hc hm
            refine v_iconst (x := (-1)) dm_readSkyLine_67 rfl ?_
            exact v_kw (kj5 _ hm) (wk_s (wk_s (wk_n wk_e)))
          · replace hm := ie hc hm
            refine v_iconst (x := 2) dm_readSkyLine_63 rfl ?_
            refine v_goto dm_readSkyLine_64 ?_
            exact v_kw (kj5 _ hm) (wk_s (wk_s (wk_n wk_e)))
        · replace hm := ie hc hm
          refine v_iconst (x := 1) dm_readSkyLine_50 rfl ?_
          refine v_goto dm_readSkyLine_51 ?_
          exact v_kw (kj5 _ hm) (wk_s (wk_s (wk_n wk_e)))
      · replace hm := ie hc hm
        refine v_iconst (x := 0) dm_readSkyLine_37 rfl ?_
        refine v_goto dm_readSkyLine_38 ?_
        exact v_kw (kj5 _ hm) (wk_s (wk_s (wk_n wk_e)))
def mm_readSky_L2 (k0 : PH → Option (Int32 × PH)) (k1 : Int32 → PH → Option (Int32 × PH)) : Nat → Int32 → PH → Option (Int32 × PH)
  | 0, _, _ => none
  | n + 1, v1, hv =>
    bd (mm_isWord 19 hv) fun r1 =>
    if r1 = 0 then
      k1 v1 hv
    else
      if v1 = 16 then
        k0 hv
      else
        bd2 (mm_readSkyLine (48 + (3 * v1)) hv) fun r2 h3 =>
        if r2 = (-1) then
          some ((-1), h3)
        else
          lt (v1 + 1) fun x4 =>
          mm_readSky_L2 k0 k1 n x4 h3
def mm_readSky (h0 : PH) : Option (Int32 × PH) :=
  mm_readSky_L2 (fun (h5 : PH) =>
    bd2 (mm_errs 3 h5) fun r6 h7 =>
    some (r6, h7)) (fun (x8 : Int32) (h9 : PH) =>
    if (h9 104 14) = 0 then
      some (x8, h9)
    else
      bd2 (mm_errs 1 h9) fun r10 h11 =>
      some (r10, h11)) FU 0 h0
theorem wm_readSky_L2 (G : GG) (d : Nat) (k0 : PH → Option (Int32 × PH)) (k1 : Int32 → PH → Option (Int32 × PH)) (r : Int32 × PH) (kk0 : ∀ (hy : PH), k0 hy = some r → Vx G tm_readSky (d + 6) 17 [some (.ref (gB G + 104)), none] [] hy (some (.int r.1)) r.2) (kk1 : ∀ (y1 : Int32) (hy : PH), k1 y1 hy = some r → Vx G tm_readSky (d + 6) 46 [some (.ref (gB G + 104)), some (.int y1)] [] hy (some (.int r.1)) r.2) : ∀ (n : Nat) (v1 : Int32) (hv : PH), mm_readSky_L2 k0 k1 n v1 hv = some r → Vx G tm_readSky (d + 6) 2 [some (.ref (gB G + 104)), some (.int v1)] [] hv (some (.int r.1)) r.2 := by
  intro n
  induction n with
  | zero => intro v1 hv hm; cases hm
  | succ n ih =>
    intro v1 hv hm
    unfold mm_readSky_L2 at hm
    refine v_ald_0 dm_readSky_2 ?_
    refine v_bipush (x := 19) dm_readSky_3 rfl ?_
    obtain ⟨r1, he, hm⟩ := bd_s hm
    refine v_cv1i (M' := tm_isWord) dm_readSky_5 mlm_266 okm_isWord sh_104 hc_12 (Nat.le_of_ble_eq_true rfl) (ctm_isWord G (d + 5) _ _ _ he) ?_
    refine v_if_eq dm_readSky_8 (fun hc => ?_) (fun hc => ?_)
    · replace hm := it hc hm
      exact v_kw (kk1 _ _ hm) (wk_s (wk_s wk_e))
    · replace hm := ie hc hm
      refine v_ild_1 dm_readSky_11 ?_
      refine v_bipush (x := 16) dm_readSky_12 rfl ?_
      refine v_cmp_ne dm_readSky_14 (fun hc => ?_) (fun hc => ?_)
      · replace hm := it hc hm
        exact v_kw (kk0 _ hm) (wk_s (wk_n wk_e))
      · replace hm := ie hc hm
        refine v_ald_0 dm_readSky_23 ?_
        refine v_bipush (x := 48) dm_readSky_24 rfl ?_
        refine v_iconst (x := 3) dm_readSky_26 rfl ?_
        refine v_ild_1 dm_readSky_27 ?_
        refine v_imul dm_readSky_28 ?_
        refine v_iadd dm_readSky_29 ?_
        obtain ⟨r2, h3, he, hm⟩ := bd2_s hm
        refine v_cv1i (M' := tm_readSkyLine) dm_readSky_30 mlm_297 okm_readSkyLine sh_104 hc_12 (Nat.le_of_ble_eq_true rfl) (ctm_readSkyLine G d _ _ _ he) ?_
        refine v_iconst (x := (-1)) dm_readSky_33 rfl ?_
        refine v_cmp_ne dm_readSky_34 (fun hc => ?_) (fun hc => ?_)
        · replace hm := it hc hm
          refine v_iconst (x := (-1)) dm_readSky_37 rfl ?_
          cases hm
          exact v_iret dm_readSky_38 rfl
        · replace hm := ie hc hm
          refine v_ild_1 dm_readSky_39 ?_
          refine v_iconst (x := 1) dm_readSky_40 rfl ?_
          refine v_iadd dm_readSky_41 ?_
          refine v_top hm (fun x4 hm => ?_)
          refine v_ist_1 dm_readSky_42 (by decide) rfl ?_
          refine v_goto dm_readSky_43 ?_
          exact v_kw (ih _ _ hm) (wk_s (wk_s wk_e))
theorem ctm_readSky (G : GG) (d : Nat) (h0 : PH) (r : Int32 × PH) (hm : mm_readSky h0 = some r) : Kx G tm_readSky (d + 6) [.ref (gB G + 104)] h0 (some (.int r.1)) r.2 := by
  refine K_of_V (by decide) (by simp [cat_i, cat_r, fmtV_cat]) (by simp [tm_readSky]) ?_
  change Vx G tm_readSky (d + 6) 0 [some (.ref (gB G + 104)), none] [] h0 (some (.int r.1)) r.2
  unfold mm_readSky at hm
  refine v_iconst (x := 0) dm_readSky_0 rfl ?_
  refine v_ist_1 dm_readSky_1 (by decide) rfl ?_
  refine v_kw (wm_readSky_L2 G d _ _ _ (fun h5 hm => ?_) (fun x8 h9 hm => ?_) FU _ _ hm) (wk_s (wk_s wk_e))
  · refine v_ald_0 dm_readSky_17 ?_
    refine v_iconst (x := 3) dm_readSky_18 rfl ?_
    obtain ⟨r6, h7, he, hm⟩ := bd2_s hm
    refine v_cv1i (M' := tm_errs) dm_readSky_19 mlm_237 okm_errs sh_104 hc_12 (Nat.le_of_ble_eq_true rfl) (ctm_errs G (d + 5) _ _ _ he) ?_
    cases hm
    exact v_iret dm_readSky_22 rfl
  · refine v_ald_0 dm_readSky_46 ?_
    refine v_getI dm_readSky_47 fum_207 sh_104 rf_104_14 ?_
    refine v_if_ne dm_readSky_50 (fun hc => ?_) (fun hc => ?_)
    · replace hm := it hc hm
      refine v_ild_1 dm_readSky_53 ?_
      refine v_goto dm_readSky_54 ?_
      cases hm
      exact v_iret dm_readSky_62 rfl
    · replace hm := ie hc hm
      refine v_ald_0 dm_readSky_57 ?_
      refine v_iconst (x := 1) dm_readSky_58 rfl ?_
      obtain ⟨r10, h11, he, hm⟩ := bd2_s hm
      refine v_cv1i (M' := tm_errs) dm_readSky_59 mlm_237 okm_errs sh_104 hc_12 (Nat.le_of_ble_eq_true rfl) (ctm_errs G (d + 5) _ _ _ he) ?_
      cases hm
      exact v_iret dm_readSky_62 rfl
def mm_readDeed (p1 : Int32) (h0 : PH) : Option (Int32 × PH) :=
  bd2 (mm_readTold 19 0 999 h0) fun r1 h2 =>
  ck p1 160 <|
  lt (up h2 122 (ix p1) r1) fun h3 =>
  ck p1 160 <|
  if (h3 122 (ix p1)) = (-1) then
    some ((-1), h3)
  else
    jn0 (bd2 (mm_errs 1 h3) fun r5 h6 =>
      some (r5, h6)) fun j4 =>
    if (h3 104 14) = 2 then
      bd (mm_isIn (h3 104 15) 21 24 h3) fun r7 =>
      if r7 = 0 then
        j4
      else
        lt ((h3 104 15) - 21) fun x8 =>
        bd (mm_reads h3) fun h9 =>
        ck (p1 + 1) 160 <|
        lt (up h9 122 (ix (p1 + 1)) x8) fun h10 =>
        bd2 (mm_readNumber 0 ((h10 104 6) - 1) h10) fun r11 h12 =>
        ck (p1 + 2) 160 <|
        lt (up h12 122 (ix (p1 + 2)) r11) fun h13 =>
        ck (p1 + 2) 160 <|
        if (h13 122 (ix (p1 + 2))) = (-1) then
          some ((-1), h13)
        else
          jn2 (fun (x15 : Int32) (h16 : PH) =>
            ck (p1 + 3) 160 <|
            lt (up h16 122 (ix (p1 + 3)) x15) fun h17 =>
            ck (p1 + 3) 160 <|
            if (h17 122 (ix (p1 + 3))) = (-1) then
              some ((-1), h17)
            else
              jn2 (fun (x19 : Int32) (h20 : PH) =>
                ck (p1 + 4) 160 <|
                lt (up h20 122 (ix (p1 + 4)) x19) fun h21 =>
                ck (p1 + 4) 160 <|
                if (h21 122 (ix (p1 + 4))) = (-1) then
                  some ((-1), h21)
                else
                  bd2 (mm_readMark 59 h21) fun r22 h23 =>
                  some (r22, h23)) fun j18 =>
              jn0 (bd2 (mm_readNumber 1 99 h17) fun r25 h26 =>
                j18 r25 h26) fun j24 =>
              if x8 = 0 then
                j24
              else
                if x8 = 1 then
                  j24
                else
                  j18 0 h17) fun j14 =>
          if x8 = 1 then
            bd2 (mm_readNumber 0 3 h13) fun r27 h28 =>
            j14 r27 h28
          else
            j14 0 h13
    else
      j4
theorem ctm_readDeed (G : GG) (d : Nat) (p1 : Int32) (h0 : PH) (r : Int32 × PH) (hm : mm_readDeed p1 h0 = some r) : Kx G tm_readDeed (d + 5) [.ref (gB G + 104), .int p1] h0 (some (.int r.1)) r.2 := by
  refine K_of_V (by decide) (by simp [cat_i, cat_r, fmtV_cat]) (by simp [tm_readDeed]) ?_
  change Vx G tm_readDeed (d + 5) 0 [some (.ref (gB G + 104)), some (.int p1), none] [] h0 (some (.int r.1)) r.2
  unfold mm_readDeed at hm
  refine v_ald_0 dm_readDeed_0 ?_
  refine v_getR dm_readDeed_1 fum_65 sh_104 rf_104_36 ?_
  refine v_ild_1 dm_readDeed_4 ?_
  refine v_ald_0 dm_readDeed_5 ?_
  refine v_bipush (x := 19) dm_readDeed_6 rfl ?_
  refine v_iconst (x := 0) dm_readDeed_8 rfl ?_
  refine v_sipush (x := 999) dm_readDeed_9 rfl ?_
  obtain ⟨r1, h2, he, hm⟩ := bd2_s hm
  refine v_cv3i (M' := tm_readTold) dm_readDeed_12 mlm_291 okm_readTold sh_104 hc_12 (Nat.le_of_ble_eq_true rfl) (ctm_readTold G d _ _ _ _ _ he) ?_
  obtain ⟨hi, hm⟩ := ck_s hm
  refine v_iastl dm_readDeed_15 sh_122 hi hm (fun h3 hm => ?_)
  refine v_ald_0 dm_readDeed_16 ?_
  refine v_getR dm_readDeed_17 fum_65 sh_104 rf_104_36 ?_
  refine v_ild_1 dm_readDeed_20 ?_
  obtain ⟨hi, hm⟩ := ck_s hm
  refine v_iald dm_readDeed_21 sh_122 hi ?_
  refine v_iconst (x := (-1)) dm_readDeed_22 rfl ?_
  refine v_cmp_ne dm_readDeed_23 (fun hc => ?_) (fun hc => ?_)
  · replace hm := it hc hm
    refine v_iconst (x := (-1)) dm_readDeed_26 rfl ?_
    cases hm
    exact v_iret dm_readDeed_27 rfl
  · replace hm := ie hc hm
    refine v_ald_0 dm_readDeed_28 ?_
    refine v_getI dm_readDeed_29 fum_207 sh_104 rf_104_14 ?_
    refine v_iconst (x := 2) dm_readDeed_32 rfl ?_
    refine v_j0 (Vx G tm_readDeed (d + 5) 51 [some (.ref (gB G + 104)), none, none] [] h3 (some (.int r.1)) r.2) hm (fun hm => ?_) (fun j4 kj4 hm => ?_)
    · refine v_ald_0 dm_readDeed_51 ?_
      refine v_iconst (x := 1) dm_readDeed_52 rfl ?_
      obtain ⟨r5, h6, he, hm⟩ := bd2_s hm
      refine v_cv1i (M' := tm_errs) dm_readDeed_53 mlm_237 okm_errs sh_104 hc_12 (Nat.le_of_ble_eq_true rfl) (ctm_errs G (d + 4) _ _ _ he) ?_
      cases hm
      exact v_iret dm_readDeed_56 rfl
    · refine v_cmp_ne dm_readDeed_33 (fun hc => ?_) (fun hc => ?_)
      · replace hm := it hc hm
        refine v_ald_0 dm_readDeed_36 ?_
        refine v_ald_0 dm_readDeed_37 ?_
        refine v_getI dm_readDeed_38 fum_210 sh_104 rf_104_15 ?_
        refine v_bipush (x := 21) dm_readDeed_41 rfl ?_
        refine v_bipush (x := 24) dm_readDeed_43 rfl ?_
        obtain ⟨r7, he, hm⟩ := bd_s hm
        refine v_cv3i (M' := tm_isIn) dm_readDeed_45 mlm_177 okm_isIn sh_104 hc_12 (Nat.le_of_ble_eq_true rfl) (ctm_isIn G (d + 4) _ _ _ _ _ he) ?_
        refine v_if_ne dm_readDeed_48 (fun hc => ?_) (fun hc => ?_)
        · replace hm := it hc hm
          exact v_kw (kj4 hm) (wk_s (wk_n (wk_n wk_e)))
        · replace hm := ie hc hm
          refine v_ald_0 dm_readDeed_57 ?_
          refine v_getI dm_readDeed_58 fum_210 sh_104 rf_104_15 ?_
          refine v_bipush (x := 21) dm_readDeed_61 rfl ?_
          refine v_isub dm_readDeed_63 ?_
          refine v_top hm (fun x8 hm => ?_)
          refine v_ist_2 dm_readDeed_64 (by decide) rfl ?_
          refine v_ald_0 dm_readDeed_65 ?_
          obtain ⟨h9, he, hm⟩ := bd_s hm
          refine v_cv0v (M' := tm_reads) dm_readDeed_66 mlm_244 okm_reads sh_104 hc_12 (Nat.le_of_ble_eq_true rfl) (ctm_reads G (d + 2) _ _ he) ?_
          refine v_ald_0 dm_readDeed_69 ?_
          refine v_getR dm_readDeed_70 fum_65 sh_104 rf_104_36 ?_
          refine v_ild_1 dm_readDeed_73 ?_
          refine v_iconst (x := 1) dm_readDeed_74 rfl ?_
          refine v_iadd dm_readDeed_75 ?_
          refine v_ild_2 dm_readDeed_76 ?_
          obtain ⟨hi, hm⟩ := ck_s hm
          refine v_iastl dm_readDeed_77 sh_122 hi hm (fun h10 hm => ?_)
          refine v_ald_0 dm_readDeed_78 ?_
          refine v_getR dm_readDeed_79 fum_65 sh_104 rf_104_36 ?_
          refine v_ild_1 dm_readDeed_82 ?_
          refine v_iconst (x := 2) dm_readDeed_83 rfl ?_
          refine v_iadd dm_readDeed_84 ?_
          refine v_ald_0 dm_readDeed_85 ?_
          refine v_iconst (x := 0) dm_readDeed_86 rfl ?_
          refine v_ald_0 dm_readDeed_87 ?_
          refine v_getI dm_readDeed_88 fum_158 sh_104 rf_104_6 ?_
          refine v_iconst (x := 1) dm_readDeed_91 rfl ?_
          refine v_isub dm_readDeed_92 ?_
          obtain ⟨r11, h12, he, hm⟩ := bd2_s hm
          refine v_cv2i (M' := tm_readNumber) dm_readDeed_93 mlm_288 okm_readNumber sh_104 hc_12 (Nat.le_of_ble_eq_true rfl) (ctm_readNumber G (d + 1) _ _ _ _ he) ?_
          obtain ⟨hi, hm⟩ := ck_s hm
          refine v_iastl dm_readDeed_96 sh_122 hi hm (fun h13 hm => ?_)
          refine v_ald_0 dm_readDeed_97 ?_
          refine v_getR dm_readDeed_98 fum_65 sh_104 rf_104_36 ?_
          refine v_ild_1 dm_readDeed_101 ?_
          refine v_iconst (x := 2) dm_readDeed_102 rfl ?_
          refine v_iadd dm_readDeed_103 ?_
          obtain ⟨hi, hm⟩ := ck_s hm
          refine v_iald dm_readDeed_104 sh_122 hi ?_
          refine v_iconst (x := (-1)) dm_readDeed_105 rfl ?_
          refine v_cmp_ne dm_readDeed_106 (fun hc => ?_) (fun hc => ?_)
          · replace hm := it hc hm
            refine v_iconst (x := (-1)) dm_readDeed_109 rfl ?_
            cases hm
            exact v_iret dm_readDeed_110 rfl
          · replace hm := ie hc hm
            refine v_ald_0 dm_readDeed_111 ?_
            refine v_getR dm_readDeed_112 fum_65 sh_104 rf_104_36 ?_
            refine v_ild_1 dm_readDeed_115 ?_
            refine v_iconst (x := 3) dm_readDeed_116 rfl ?_
            refine v_iadd dm_readDeed_117 ?_
            refine v_ild_2 dm_readDeed_118 ?_
            refine v_iconst (x := 1) dm_readDeed_119 rfl ?_
            refine v_j2 (fun (x15 : Int32) (h16 : PH) => Vx G tm_readDeed (d + 5) 133 [some (.ref (gB G + 104)), some (.int p1), some (.int x8)] [.int x15, .int (p1 + 3), .ref (gB G + 122)] h16 (some (.int r.1)) r.2) hm (fun x15 h16 hm => ?_) (fun j14 kj14 hm => ?_)
            · obtain ⟨hi, hm⟩ := ck_s hm
              refine v_iastl dm_readDeed_133 sh_122 hi hm (fun h17 hm => ?_)
              refine v_ald_0 dm_readDeed_134 ?_
              refine v_getR dm_readDeed_135 fum_65 sh_104 rf_104_36 ?_
              refine v_ild_1 dm_readDeed_138 ?_
              refine v_iconst (x := 3) dm_readDeed_139 rfl ?_
              refine v_iadd dm_readDeed_140 ?_
              obtain ⟨hi, hm⟩ := ck_s hm
              refine v_iald dm_readDeed_141 sh_122 hi ?_
              refine v_iconst (x := (-1)) dm_readDeed_142 rfl ?_
              refine v_cmp_ne dm_readDeed_143 (fun hc => ?_) (fun hc => ?_)
              · replace hm := it hc hm
                refine v_iconst (x := (-1)) dm_readDeed_146 rfl ?_
                cases hm
                exact v_iret dm_readDeed_147 rfl
              · replace hm := ie hc hm
                refine v_ald_0 dm_readDeed_148 ?_
                refine v_getR dm_readDeed_149 fum_65 sh_104 rf_104_36 ?_
                refine v_ild_1 dm_readDeed_152 ?_
                refine v_iconst (x := 4) dm_readDeed_153 rfl ?_
                refine v_iadd dm_readDeed_154 ?_
                refine v_ild_2 dm_readDeed_155 ?_
                refine v_j2 (fun (x19 : Int32) (h20 : PH) => Vx G tm_readDeed (d + 5) 175 [some (.ref (gB G + 104)), some (.int p1), none] [.int x19, .int (p1 + 4), .ref (gB G + 122)] h20 (some (.int r.1)) r.2) hm (fun x19 h20 hm => ?_) (fun j18 kj18 hm => ?_)
                · obtain ⟨hi, hm⟩ := ck_s hm
                  refine v_iastl dm_readDeed_175 sh_122 hi hm (fun h21 hm => ?_)
                  refine v_ald_0 dm_readDeed_176 ?_
                  refine v_getR dm_readDeed_177 fum_65 sh_104 rf_104_36 ?_
                  refine v_ild_1 dm_readDeed_180 ?_
                  refine v_iconst (x := 4) dm_readDeed_181 rfl ?_
                  refine v_iadd dm_readDeed_182 ?_
                  obtain ⟨hi, hm⟩ := ck_s hm
                  refine v_iald dm_readDeed_183 sh_122 hi ?_
                  refine v_iconst (x := (-1)) dm_readDeed_184 rfl ?_
                  refine v_cmp_ne dm_readDeed_185 (fun hc => ?_) (fun hc => ?_)
                  · replace hm := it hc hm
                    refine v_iconst (x := (-1)) dm_readDeed_188 rfl ?_
                    refine v_goto dm_readDeed_189 ?_
                    cases hm
                    exact v_iret dm_readDeed_198 rfl
                  · replace hm := ie hc hm
                    refine v_ald_0 dm_readDeed_192 ?_
                    refine v_bipush (x := 59) dm_readDeed_193 rfl ?_
                    obtain ⟨r22, h23, he, hm⟩ := bd2_s hm
                    refine v_cv1i (M' := tm_readMark) dm_readDeed_195 mlm_294 okm_readMark sh_104 hc_12 (Nat.le_of_ble_eq_true rfl) (ctm_readMark G (d + 1) _ _ _ he) ?_
                    cases hm
                    exact v_iret dm_readDeed_198 rfl
                · refine v_j0 (Vx G tm_readDeed (d + 5) 164 [some (.ref (gB G + 104)), some (.int p1), none] [.int (p1 + 4), .ref (gB G + 122)] h17 (some (.int r.1)) r.2) hm (fun hm => ?_) (fun j24 kj24 hm => ?_)
                  · refine v_ald_0 dm_readDeed_164 ?_
                    refine v_iconst (x := 1) dm_readDeed_165 rfl ?_
                    refine v_bipush (x := 99) dm_readDeed_166 rfl ?_
                    obtain ⟨r25, h26, he, hm⟩ := bd2_s hm
                    refine v_cv2i (M' := tm_readNumber) dm_readDeed_168 mlm_288 okm_readNumber sh_104 hc_12 (Nat.le_of_ble_eq_true rfl) (ctm_readNumber G (d + 1) _ _ _ _ he) ?_
                    refine v_goto dm_readDeed_171 ?_
                    exact v_kw (kj18 _ _ hm) (wk_s (wk_s (wk_n wk_e)))
                  · refine v_if_eq dm_readDeed_156 (fun hc => ?_) (fun hc => ?_)
                    · replace hm := it hc hm
                      exact v_kw (kj24 hm) (wk_s (wk_s (wk_n wk_e)))
                    · replace hm := ie hc hm
                      refine v_ild_2 dm_readDeed_159 ?_
                      refine v_iconst (x := 1) dm_readDeed_160 rfl ?_
                      refine v_cmp_ne dm_readDeed_161 (fun hc => ?_) (fun hc => ?_)
                      · replace hm := it hc hm
                        exact v_kw (kj24 hm) (wk_s (wk_s (wk_n wk_e)))
                      · replace hm := ie hc hm
                        refine v_iconst (x := 0) dm_readDeed_174 rfl ?_
                        exact v_kw (kj18 _ _ hm) (wk_s (wk_s (wk_n wk_e)))
            · refine v_cmp_ne dm_readDeed_120 (fun hc => ?_) (fun hc => ?_)
              · replace hm := it hc hm
                refine v_ald_0 dm_readDeed_123 ?_
                refine v_iconst (x := 0) dm_readDeed_124 rfl ?_
                refine v_iconst (x := 3) dm_readDeed_125 rfl ?_
                obtain ⟨r27, h28, he, hm⟩ := bd2_s hm
                refine v_cv2i (M' := tm_readNumber) dm_readDeed_126 mlm_288 okm_readNumber sh_104 hc_12 (Nat.le_of_ble_eq_true rfl) (ctm_readNumber G (d + 1) _ _ _ _ he) ?_
                refine v_goto dm_readDeed_129 ?_
                exact v_kw (kj14 _ _ hm) (wk_s (wk_s (wk_s wk_e)))
              · replace hm := ie hc hm
                refine v_iconst (x := 0) dm_readDeed_132 rfl ?_
                exact v_kw (kj14 _ _ hm) (wk_s (wk_s (wk_s wk_e)))
      · replace hm := ie hc hm
        exact v_kw (kj4 hm) (wk_s (wk_n (wk_n wk_e)))
def mm_readOffice_L2 (k0 : PH → Option (Int32 × PH)) (k1 : Int32 → PH → Option (Int32 × PH)) : Nat → Int32 → PH → Option (Int32 × PH)
  | 0, _, _ => none
  | n + 1, v1, hv =>
    bd (mm_isWord 19 hv) fun r1 =>
    if r1 = 0 then
      k1 v1 hv
    else
      if v1 = 16 then
        k0 hv
      else
        bd2 (mm_readDeed (80 + (5 * v1)) hv) fun r2 h3 =>
        if r2 = (-1) then
          some ((-1), h3)
        else
          lt (v1 + 1) fun x4 =>
          mm_readOffice_L2 k0 k1 n x4 h3
def mm_readOffice (h0 : PH) : Option (Int32 × PH) :=
  mm_readOffice_L2 (fun (h5 : PH) =>
    bd2 (mm_errs 3 h5) fun r6 h7 =>
    some (r6, h7)) (fun (x8 : Int32) (h9 : PH) =>
    if (h9 104 14) = 0 then
      some (x8, h9)
    else
      bd2 (mm_errs 1 h9) fun r10 h11 =>
      some (r10, h11)) FU 0 h0
theorem wm_readOffice_L2 (G : GG) (d : Nat) (k0 : PH → Option (Int32 × PH)) (k1 : Int32 → PH → Option (Int32 × PH)) (r : Int32 × PH) (kk0 : ∀ (hy : PH), k0 hy = some r → Vx G tm_readOffice (d + 6) 17 [some (.ref (gB G + 104)), none] [] hy (some (.int r.1)) r.2) (kk1 : ∀ (y1 : Int32) (hy : PH), k1 y1 hy = some r → Vx G tm_readOffice (d + 6) 46 [some (.ref (gB G + 104)), some (.int y1)] [] hy (some (.int r.1)) r.2) : ∀ (n : Nat) (v1 : Int32) (hv : PH), mm_readOffice_L2 k0 k1 n v1 hv = some r → Vx G tm_readOffice (d + 6) 2 [some (.ref (gB G + 104)), some (.int v1)] [] hv (some (.int r.1)) r.2 := by
  intro n
  induction n with
  | zero => intro v1 hv hm; cases hm
  | succ n ih =>
    intro v1 hv hm
    unfold mm_readOffice_L2 at hm
    refine v_ald_0 dm_readOffice_2 ?_
    refine v_bipush (x := 19) dm_readOffice_3 rfl ?_
    obtain ⟨r1, he, hm⟩ := bd_s hm
    refine v_cv1i (M' := tm_isWord) dm_readOffice_5 mlm_266 okm_isWord sh_104 hc_12 (Nat.le_of_ble_eq_true rfl) (ctm_isWord G (d + 5) _ _ _ he) ?_
    refine v_if_eq dm_readOffice_8 (fun hc => ?_) (fun hc => ?_)
    · replace hm := it hc hm
      exact v_kw (kk1 _ _ hm) (wk_s (wk_s wk_e))
    · replace hm := ie hc hm
      refine v_ild_1 dm_readOffice_11 ?_
      refine v_bipush (x := 16) dm_readOffice_12 rfl ?_
      refine v_cmp_ne dm_readOffice_14 (fun hc => ?_) (fun hc => ?_)
      · replace hm := it hc hm
        exact v_kw (kk0 _ hm) (wk_s (wk_n wk_e))
      · replace hm := ie hc hm
        refine v_ald_0 dm_readOffice_23 ?_
        refine v_bipush (x := 80) dm_readOffice_24 rfl ?_
        refine v_iconst (x := 5) dm_readOffice_26 rfl ?_
        refine v_ild_1 dm_readOffice_27 ?_
        refine v_imul dm_readOffice_28 ?_
        refine v_iadd dm_readOffice_29 ?_
        obtain ⟨r2, h3, he, hm⟩ := bd2_s hm
        refine v_cv1i (M' := tm_readDeed) dm_readOffice_30 mlm_300 okm_readDeed sh_104 hc_12 (Nat.le_of_ble_eq_true rfl) (ctm_readDeed G d _ _ _ he) ?_
        refine v_iconst (x := (-1)) dm_readOffice_33 rfl ?_
        refine v_cmp_ne dm_readOffice_34 (fun hc => ?_) (fun hc => ?_)
        · replace hm := it hc hm
          refine v_iconst (x := (-1)) dm_readOffice_37 rfl ?_
          cases hm
          exact v_iret dm_readOffice_38 rfl
        · replace hm := ie hc hm
          refine v_ild_1 dm_readOffice_39 ?_
          refine v_iconst (x := 1) dm_readOffice_40 rfl ?_
          refine v_iadd dm_readOffice_41 ?_
          refine v_top hm (fun x4 hm => ?_)
          refine v_ist_1 dm_readOffice_42 (by decide) rfl ?_
          refine v_goto dm_readOffice_43 ?_
          exact v_kw (ih _ _ hm) (wk_s (wk_s wk_e))
theorem ctm_readOffice (G : GG) (d : Nat) (h0 : PH) (r : Int32 × PH) (hm : mm_readOffice h0 = some r) : Kx G tm_readOffice (d + 6) [.ref (gB G + 104)] h0 (some (.int r.1)) r.2 := by
  refine K_of_V (by decide) (by simp [cat_i, cat_r, fmtV_cat]) (by simp [tm_readOffice]) ?_
  change Vx G tm_readOffice (d + 6) 0 [some (.ref (gB G + 104)), none] [] h0 (some (.int r.1)) r.2
  unfold mm_readOffice at hm
  refine v_iconst (x := 0) dm_readOffice_0 rfl ?_
  refine v_ist_1 dm_readOffice_1 (by decide) rfl ?_
  refine v_kw (wm_readOffice_L2 G d _ _ _ (fun h5 hm => ?_) (fun x8 h9 hm => ?_) FU _ _ hm) (wk_s (wk_s wk_e))
  · refine v_ald_0 dm_readOffice_17 ?_
    refine v_iconst (x := 3) dm_readOffice_18 rfl ?_
    obtain ⟨r6, h7, he, hm⟩ := bd2_s hm
    refine v_cv1i (M' := tm_errs) dm_readOffice_19 mlm_237 okm_errs sh_104 hc_12 (Nat.le_of_ble_eq_true rfl) (ctm_errs G (d + 5) _ _ _ he) ?_
    cases hm
    exact v_iret dm_readOffice_22 rfl
  · refine v_ald_0 dm_readOffice_46 ?_
    refine v_getI dm_readOffice_47 fum_207 sh_104 rf_104_14 ?_
    refine v_if_ne dm_readOffice_50 (fun hc => ?_) (fun hc => ?_)
    · replace hm := it hc hm
      refine v_ild_1 dm_readOffice_53 ?_
      refine v_goto dm_readOffice_54 ?_
      cases hm
      exact v_iret dm_readOffice_62 rfl
    · replace hm := ie hc hm
      refine v_ald_0 dm_readOffice_57 ?_
      refine v_iconst (x := 1) dm_readOffice_58 rfl ?_
      obtain ⟨r10, h11, he, hm⟩ := bd2_s hm
      refine v_cv1i (M' := tm_errs) dm_readOffice_59 mlm_237 okm_errs sh_104 hc_12 (Nat.le_of_ble_eq_true rfl) (ctm_errs G (d + 5) _ _ _ he) ?_
      cases hm
      exact v_iret dm_readOffice_62 rfl
def mm_readNext (h0 : PH) : Option (Int32 × PH) :=
  bd2 (mm_readTold 25 0 ((h0 104 6) - 1) h0) fun r1 h2 =>
  if r1 = (-1) then
    some ((-1), h2)
  else
    bd (mm_isWord 26 h2) fun r3 =>
    if r3 = 0 then
      bd2 (mm_errs 1 h2) fun r4 h5 =>
      some (r4, h5)
    else
      bd (mm_reads h2) fun h6 =>
      jn0 (bd2 (mm_readNumber 0 ((h6 104 6) - 1) h6) fun r8 h9 =>
        if r8 = (-1) then
          some ((-1), h9)
        else
          ck (12 + r1) 24 <|
          ck (12 + r1) 24 <|
          lt (up h9 123 (ix (12 + r1)) ((h9 123 (ix (12 + r1))) ||| (1 <<< (r8 &&& 31)))) fun h10 =>
          ck (12 + r8) 24 <|
          ck (12 + r8) 24 <|
          lt (up h10 123 (ix (12 + r8)) ((h10 123 (ix (12 + r8))) ||| (1 <<< (r1 &&& 31)))) fun h11 =>
          bd2 (mm_readMark 59 h11) fun r12 h13 =>
          some (r12, h13)) fun j7 =>
      if (h6 104 14) = 3 then
        if (h6 104 15) = r1 then
          bd2 (mm_errs 2 h6) fun r14 h15 =>
          some (r14, h15)
        else
          j7
      else
        j7
theorem ctm_readNext (G : GG) (d : Nat) (h0 : PH) (r : Int32 × PH) (hm : mm_readNext h0 = some r) : Kx G tm_readNext (d + 5) [.ref (gB G + 104)] h0 (some (.int r.1)) r.2 := by
  refine K_of_V (by decide) (by simp [cat_i, cat_r, fmtV_cat]) (by simp [tm_readNext]) ?_
  change Vx G tm_readNext (d + 5) 0 [some (.ref (gB G + 104)), none, none] [] h0 (some (.int r.1)) r.2
  unfold mm_readNext at hm
  refine v_ald_0 dm_readNext_0 ?_
  refine v_bipush (x := 25) dm_readNext_1 rfl ?_
  refine v_iconst (x := 0) dm_readNext_3 rfl ?_
  refine v_ald_0 dm_readNext_4 ?_
  refine v_getI dm_readNext_5 fum_158 sh_104 rf_104_6 ?_
  refine v_iconst (x := 1) dm_readNext_8 rfl ?_
  refine v_isub dm_readNext_9 ?_
  obtain ⟨r1, h2, he, hm⟩ := bd2_s hm
  refine v_cv3i (M' := tm_readTold) dm_readNext_10 mlm_291 okm_readTold sh_104 hc_12 (Nat.le_of_ble_eq_true rfl) (ctm_readTold G d _ _ _ _ _ he) ?_
  refine v_ist_1 dm_readNext_13 (by decide) rfl ?_
  refine v_ild_1 dm_readNext_14 ?_
  refine v_iconst (x := (-1)) dm_readNext_15 rfl ?_
  refine v_cmp_ne dm_readNext_16 (fun hc => ?_) (fun hc => ?_)
  · replace hm := it hc hm
    refine v_iconst (x := (-1)) dm_readNext_19 rfl ?_
    cases hm
    exact v_iret dm_readNext_20 rfl
  · replace hm := ie hc hm
    refine v_ald_0 dm_readNext_21 ?_
    refine v_bipush (x := 26) dm_readNext_22 rfl ?_
    obtain ⟨r3, he, hm⟩ := bd_s hm
    refine v_cv1i (M' := tm_isWord) dm_readNext_24 mlm_266 okm_isWord sh_104 hc_12 (Nat.le_of_ble_eq_true rfl) (ctm_isWord G (d + 4) _ _ _ he) ?_
    refine v_if_ne dm_readNext_27 (fun hc => ?_) (fun hc => ?_)
    · replace hm := it hc hm
      refine v_ald_0 dm_readNext_30 ?_
      refine v_iconst (x := 1) dm_readNext_31 rfl ?_
      obtain ⟨r4, h5, he, hm⟩ := bd2_s hm
      refine v_cv1i (M' := tm_errs) dm_readNext_32 mlm_237 okm_errs sh_104 hc_12 (Nat.le_of_ble_eq_true rfl) (ctm_errs G (d + 4) _ _ _ he) ?_
      cases hm
      exact v_iret dm_readNext_35 rfl
    · replace hm := ie hc hm
      refine v_ald_0 dm_readNext_36 ?_
      obtain ⟨h6, he, hm⟩ := bd_s hm
      refine v_cv0v (M' := tm_reads) dm_readNext_37 mlm_244 okm_reads sh_104 hc_12 (Nat.le_of_ble_eq_true rfl) (ctm_reads G (d + 2) _ _ he) ?_
      refine v_ald_0 dm_readNext_40 ?_
      refine v_getI dm_readNext_41 fum_207 sh_104 rf_104_14 ?_
      refine v_iconst (x := 3) dm_readNext_44 rfl ?_
      refine v_j0 (Vx G tm_readNext (d + 5) 62 [some (.ref (gB G + 104)), some (.int r1), none] [] h6 (some (.int r.1)) r.2) hm (fun hm => ?_) (fun j7 kj7 hm => ?_)
      · refine v_ald_0 dm_readNext_62 ?_
        refine v_iconst (x := 0) dm_readNext_63 rfl ?_
        refine v_ald_0 dm_readNext_64 ?_
        refine v_getI dm_readNext_65 fum_158 sh_104 rf_104_6 ?_
        refine v_iconst (x := 1) dm_readNext_68 rfl ?_
        refine v_isub dm_readNext_69 ?_
        obtain ⟨r8, h9, he, hm⟩ := bd2_s hm
        refine v_cv2i (M' := tm_readNumber) dm_readNext_70 mlm_288 okm_readNumber sh_104 hc_12 (Nat.le_of_ble_eq_true rfl) (ctm_readNumber G (d + 1) _ _ _ _ he) ?_
        refine v_ist_2 dm_readNext_73 (by decide) rfl ?_
        refine v_ild_2 dm_readNext_74 ?_
        refine v_iconst (x := (-1)) dm_readNext_75 rfl ?_
        refine v_cmp_ne dm_readNext_76 (fun hc => ?_) (fun hc => ?_)
        · replace hm := it hc hm
          refine v_iconst (x := (-1)) dm_readNext_79 rfl ?_
          cases hm
          exact v_iret dm_readNext_80 rfl
        · replace hm := ie hc hm
          refine v_ald_0 dm_readNext_81 ?_
          refine v_getR dm_readNext_82 fum_68 sh_104 rf_104_38 ?_
          refine v_bipush (x := 12) dm_readNext_85 rfl ?_
          refine v_ild_1 dm_readNext_87 ?_
          refine v_iadd dm_readNext_88 ?_
          refine v_ald_0 dm_readNext_89 ?_
          refine v_getR dm_readNext_90 fum_68 sh_104 rf_104_38 ?_
          refine v_bipush (x := 12) dm_readNext_93 rfl ?_
          refine v_ild_1 dm_readNext_95 ?_
          refine v_iadd dm_readNext_96 ?_
          obtain ⟨hi, hm⟩ := ck_s hm
          refine v_iald dm_readNext_97 sh_123 hi ?_
          refine v_iconst (x := 1) dm_readNext_98 rfl ?_
          refine v_ild_2 dm_readNext_99 ?_
          refine v_ishl dm_readNext_100 ?_
          refine v_ior dm_readNext_101 ?_
          obtain ⟨hi, hm⟩ := ck_s hm
          refine v_iastl dm_readNext_102 sh_123 hi hm (fun h10 hm => ?_)
          refine v_ald_0 dm_readNext_103 ?_
          refine v_getR dm_readNext_104 fum_68 sh_104 rf_104_38 ?_
          refine v_bipush (x := 12) dm_readNext_107 rfl ?_
          refine v_ild_2 dm_readNext_109 ?_
          refine v_iadd dm_readNext_110 ?_
          refine v_ald_0 dm_readNext_111 ?_
          refine v_getR dm_readNext_112 fum_68 sh_104 rf_104_38 ?_
          refine v_bipush (x := 12) dm_readNext_115 rfl ?_
          refine v_ild_2 dm_readNext_117 ?_
          refine v_iadd dm_readNext_118 ?_
          obtain ⟨hi, hm⟩ := ck_s hm
          refine v_iald dm_readNext_119 sh_123 hi ?_
          refine v_iconst (x := 1) dm_readNext_120 rfl ?_
          refine v_ild_1 dm_readNext_121 ?_
          refine v_ishl dm_readNext_122 ?_
          refine v_ior dm_readNext_123 ?_
          obtain ⟨hi, hm⟩ := ck_s hm
          refine v_iastl dm_readNext_124 sh_123 hi hm (fun h11 hm => ?_)
          refine v_ald_0 dm_readNext_125 ?_
          refine v_bipush (x := 59) dm_readNext_126 rfl ?_
          obtain ⟨r12, h13, he, hm⟩ := bd2_s hm
          refine v_cv1i (M' := tm_readMark) dm_readNext_128 mlm_294 okm_readMark sh_104 hc_12 (Nat.le_of_ble_eq_true rfl) (ctm_readMark G (d + 1) _ _ _ he) ?_
          cases hm
          exact v_iret dm_readNext_131 rfl
      · refine v_cmp_ne dm_readNext_45 (fun hc => ?_) (fun hc => ?_)
        · replace hm := it hc hm
          refine v_ald_0 dm_readNext_48 ?_
          refine v_getI dm_readNext_49 fum_210 sh_104 rf_104_15 ?_
          refine v_ild_1 dm_readNext_52 ?_
          refine v_cmp_ne dm_readNext_53 (fun hc => ?_) (fun hc => ?_)
          · replace hm := it hc hm
            refine v_ald_0 dm_readNext_56 ?_
            refine v_iconst (x := 2) dm_readNext_57 rfl ?_
            obtain ⟨r14, h15, he, hm⟩ := bd2_s hm
            refine v_cv1i (M' := tm_errs) dm_readNext_58 mlm_237 okm_errs sh_104 hc_12 (Nat.le_of_ble_eq_true rfl) (ctm_errs G (d + 4) _ _ _ he) ?_
            cases hm
            exact v_iret dm_readNext_61 rfl
          · replace hm := ie hc hm
            exact v_kw (kj7 hm) (wk_s (wk_s (wk_n wk_e)))
        · replace hm := ie hc hm
          exact v_kw (kj7 hm) (wk_s (wk_s (wk_n wk_e)))
def mm_readNexts_L2 (k0 : PH → Option (Int32 × PH)) : Nat → Int32 → PH → Option (Int32 × PH)
  | 0, _, _ => none
  | n + 1, v1, hv =>
    if 12 ≤ v1 then
      k0 hv
    else
      ck (12 + v1) 24 <|
      lt (up hv 123 (ix (12 + v1)) 0) fun h1 =>
      mm_readNexts_L2 k0 n (v1 + 1) h1
def mm_readNexts_L26 (k0 : PH → Option (Int32 × PH)) (k1 : Int32 → PH → Option (Int32 × PH)) : Nat → Int32 → PH → Option (Int32 × PH)
  | 0, _, _ => none
  | n + 1, v1, hv =>
    bd (mm_isWord 25 hv) fun r3 =>
    if r3 = 0 then
      k1 v1 hv
    else
      if v1 = 16 then
        k0 hv
      else
        bd2 (mm_readNext hv) fun r4 h5 =>
        if r4 = (-1) then
          some ((-1), h5)
        else
          lt (v1 + 1) fun x6 =>
          mm_readNexts_L26 k0 k1 n x6 h5
def mm_readNexts (h0 : PH) : Option (Int32 × PH) :=
  mm_readNexts_L2 (fun (h2 : PH) =>
    mm_readNexts_L26 (fun (h7 : PH) =>
      bd2 (mm_errs 3 h7) fun r8 h9 =>
      some (r8, h9)) (fun (x10 : Int32) (h11 : PH) =>
      if (h11 104 14) = 0 then
        some (x10, h11)
      else
        bd2 (mm_errs 1 h11) fun r12 h13 =>
        some (r12, h13)) FU 0 h2) FU 0 h0
theorem wm_readNexts_L2 (G : GG) (d : Nat) (k0 : PH → Option (Int32 × PH)) (r : Int32 × PH) (kk0 : ∀ (hy : PH), k0 hy = some r → Vx G tm_readNexts (d + 6) 24 [some (.ref (gB G + 104)), none] [] hy (some (.int r.1)) r.2) : ∀ (n : Nat) (v1 : Int32) (hv : PH), mm_readNexts_L2 k0 n v1 hv = some r → Vx G tm_readNexts (d + 6) 2 [some (.ref (gB G + 104)), some (.int v1)] [] hv (some (.int r.1)) r.2 := by
  intro n
  induction n with
  | zero => intro v1 hv hm; cases hm
  | succ n ih =>
    intro v1 hv hm
    unfold mm_readNexts_L2 at hm
    refine v_ild_1 dm_readNexts_2 ?_
    refine v_bipush (x := 12) dm_readNexts_3 rfl ?_
    refine v_cmp_ge dm_readNexts_5 (fun hc => ?_) (fun hc => ?_)
    · replace hm := it hc hm
      exact v_kw (kk0 _ hm) (wk_s (wk_n wk_e))
    · replace hm := ie hc hm
      refine v_ald_0 dm_readNexts_8 ?_
      refine v_getR dm_readNexts_9 fum_68 sh_104 rf_104_38 ?_
      refine v_bipush (x := 12) dm_readNexts_12 rfl ?_
      refine v_ild_1 dm_readNexts_14 ?_
      refine v_iadd dm_readNexts_15 ?_
      refine v_iconst (x := 0) dm_readNexts_16 rfl ?_
      obtain ⟨hi, hm⟩ := ck_s hm
      refine v_iastl dm_readNexts_17 sh_123 hi hm (fun h1 hm => ?_)
      refine v_inc_1 1 dm_readNexts_18 rfl (by decide) rfl ?_
      refine v_goto dm_readNexts_21 ?_
      exact v_kw (ih _ _ hm) (wk_s (wk_s wk_e))
theorem wm_readNexts_L26 (G : GG) (d : Nat) (k0 : PH → Option (Int32 × PH)) (k1 : Int32 → PH → Option (Int32 × PH)) (r : Int32 × PH) (kk0 : ∀ (hy : PH), k0 hy = some r → Vx G tm_readNexts (d + 6) 41 [some (.ref (gB G + 104)), none] [] hy (some (.int r.1)) r.2) (kk1 : ∀ (y1 : Int32) (hy : PH), k1 y1 hy = some r → Vx G tm_readNexts (d + 6) 64 [some (.ref (gB G + 104)), some (.int y1)] [] hy (some (.int r.1)) r.2) : ∀ (n : Nat) (v1 : Int32) (hv : PH), mm_readNexts_L26 k0 k1 n v1 hv = some r → Vx G tm_readNexts (d + 6) 26 [some (.ref (gB G + 104)), some (.int v1)] [] hv (some (.int r.1)) r.2 := by
  intro n
  induction n with
  | zero => intro v1 hv hm; cases hm
  | succ n ih =>
    intro v1 hv hm
    unfold mm_readNexts_L26 at hm
    refine v_ald_0 dm_readNexts_26 ?_
    refine v_bipush (x := 25) dm_readNexts_27 rfl ?_
    obtain ⟨r3, he, hm⟩ := bd_s hm
    refine v_cv1i (M' := tm_isWord) dm_readNexts_29 mlm_266 okm_isWord sh_104 hc_12 (Nat.le_of_ble_eq_true rfl) (ctm_isWord G (d + 5) _ _ _ he) ?_
    refine v_if_eq dm_readNexts_32 (fun hc => ?_) (fun hc => ?_)
    · replace hm := it hc hm
      exact v_kw (kk1 _ _ hm) (wk_s (wk_s wk_e))
    · replace hm := ie hc hm
      refine v_ild_1 dm_readNexts_35 ?_
      refine v_bipush (x := 16) dm_readNexts_36 rfl ?_
      refine v_cmp_ne dm_readNexts_38 (fun hc => ?_) (fun hc => ?_)
      · replace hm := it hc hm
        exact v_kw (kk0 _ hm) (wk_s (wk_n wk_e))
      · replace hm := ie hc hm
        refine v_ald_0 dm_readNexts_47 ?_
        obtain ⟨r4, h5, he, hm⟩ := bd2_s hm
        refine v_cv0i (M' := tm_readNext) dm_readNexts_48 mlm_303 okm_readNext sh_104 hc_12 (Nat.le_of_ble_eq_true rfl) (ctm_readNext G d _ _ he) ?_
        refine v_iconst (x := (-1)) dm_readNexts_51 rfl ?_
        refine v_cmp_ne dm_readNexts_52 (fun hc => ?_) (fun hc => ?_)
        · replace hm := it hc hm
          refine v_iconst (x := (-1)) dm_readNexts_55 rfl ?_
          cases hm
          exact v_iret dm_readNexts_56 rfl
        · replace hm := ie hc hm
          refine v_ild_1 dm_readNexts_57 ?_
          refine v_iconst (x := 1) dm_readNexts_58 rfl ?_
          refine v_iadd dm_readNexts_59 ?_
          refine v_top hm (fun x6 hm => ?_)
          refine v_ist_1 dm_readNexts_60 (by decide) rfl ?_
          refine v_goto dm_readNexts_61 ?_
          exact v_kw (ih _ _ hm) (wk_s (wk_s wk_e))
theorem ctm_readNexts (G : GG) (d : Nat) (h0 : PH) (r : Int32 × PH) (hm : mm_readNexts h0 = some r) : Kx G tm_readNexts (d + 6) [.ref (gB G + 104)] h0 (some (.int r.1)) r.2 := by
  refine K_of_V (by decide) (by simp [cat_i, cat_r, fmtV_cat]) (by simp [tm_readNexts]) ?_
  change Vx G tm_readNexts (d + 6) 0 [some (.ref (gB G + 104)), none] [] h0 (some (.int r.1)) r.2
  unfold mm_readNexts at hm
  refine v_iconst (x := 0) dm_readNexts_0 rfl ?_
  refine v_ist_1 dm_readNexts_1 (by decide) rfl ?_
  refine v_kw (wm_readNexts_L2 G d _ _ (fun h2 hm => ?_) FU _ _ hm) (wk_s (wk_s wk_e))
  refine v_iconst (x := 0) dm_readNexts_24 rfl ?_
  refine v_ist_1 dm_readNexts_25 (by decide) rfl ?_
  refine v_kw (wm_readNexts_L26 G d _ _ _ (fun h7 hm => ?_) (fun x10 h11 hm => ?_) FU _ _ hm) (wk_s (wk_s wk_e))
  · refine v_ald_0 dm_readNexts_41 ?_
    refine v_iconst (x := 3) dm_readNexts_42 rfl ?_
    obtain ⟨r8, h9, he, hm⟩ := bd2_s hm
    refine v_cv1i (M' := tm_errs) dm_readNexts_43 mlm_237 okm_errs sh_104 hc_12 (Nat.le_of_ble_eq_true rfl) (ctm_errs G (d + 5) _ _ _ he) ?_
    cases hm
    exact v_iret dm_readNexts_46 rfl
  · refine v_ald_0 dm_readNexts_64 ?_
    refine v_getI dm_readNexts_65 fum_207 sh_104 rf_104_14 ?_
    refine v_if_ne dm_readNexts_68 (fun hc => ?_) (fun hc => ?_)
    · replace hm := it hc hm
      refine v_ild_1 dm_readNexts_71 ?_
      refine v_goto dm_readNexts_72 ?_
      cases hm
      exact v_iret dm_readNexts_80 rfl
    · replace hm := ie hc hm
      refine v_ald_0 dm_readNexts_75 ?_
      refine v_iconst (x := 1) dm_readNexts_76 rfl ?_
      obtain ⟨r12, h13, he, hm⟩ := bd2_s hm
      refine v_cv1i (M' := tm_errs) dm_readNexts_77 mlm_237 okm_errs sh_104 hc_12 (Nat.le_of_ble_eq_true rfl) (ctm_errs G (d + 5) _ _ _ he) ?_
      cases hm
      exact v_iret dm_readNexts_80 rfl
def mm_readsText (p1 : Int32) (h0 : PH) : Option (Int32 × PH) :=
  lt (up h0 104 24 0) fun h1 =>
  bd (mm_reads h1) fun h2 =>
  if p1 = 1 then
    bd2 (mm_readSky h2) fun r3 h4 =>
    some (r3, h4)
  else
    if p1 = 2 then
      bd2 (mm_readOffice h2) fun r5 h6 =>
      some (r5, h6)
    else
      if p1 = 3 then
        bd2 (mm_readNexts h2) fun r7 h8 =>
        some (r7, h8)
      else
        bd2 (mm_readLaw h2) fun r9 h10 =>
        some (r9, h10)
theorem ctm_readsText (G : GG) (d : Nat) (p1 : Int32) (h0 : PH) (r : Int32 × PH) (hm : mm_readsText p1 h0 = some r) : Kx G tm_readsText (d + 9) [.ref (gB G + 104), .int p1] h0 (some (.int r.1)) r.2 := by
  refine K_of_V (by decide) (by simp [cat_i, cat_r, fmtV_cat]) (by simp [tm_readsText]) ?_
  change Vx G tm_readsText (d + 9) 0 [some (.ref (gB G + 104)), some (.int p1)] [] h0 (some (.int r.1)) r.2
  unfold mm_readsText at hm
  refine v_ald_0 dm_readsText_0 ?_
  refine v_iconst (x := 0) dm_readsText_1 rfl ?_
  refine v_putIl dm_readsText_2 fum_285 ft_12_24 sh_104 rf_104_24 hm (fun h1 hm => ?_)
  refine v_ald_0 dm_readsText_5 ?_
  obtain ⟨h2, he, hm⟩ := bd_s hm
  refine v_cv0v (M' := tm_reads) dm_readsText_6 mlm_244 okm_reads sh_104 hc_12 (Nat.le_of_ble_eq_true rfl) (ctm_reads G (d + 6) _ _ he) ?_
  refine v_ild_1 dm_readsText_9 ?_
  refine v_iconst (x := 1) dm_readsText_10 rfl ?_
  refine v_cmp_ne dm_readsText_11 (fun hc => ?_) (fun hc => ?_)
  · replace hm := it hc hm
    refine v_ald_0 dm_readsText_14 ?_
    obtain ⟨r3, h4, he, hm⟩ := bd2_s hm
    refine v_cv0i (M' := tm_readSky) dm_readsText_15 mlm_306 okm_readSky sh_104 hc_12 (Nat.le_of_ble_eq_true rfl) (ctm_readSky G (d + 2) _ _ he) ?_
    cases hm
    exact v_iret dm_readsText_18 rfl
  · replace hm := ie hc hm
    refine v_ild_1 dm_readsText_19 ?_
    refine v_iconst (x := 2) dm_readsText_20 rfl ?_
    refine v_cmp_ne dm_readsText_21 (fun hc => ?_) (fun hc => ?_)
    · replace hm := it hc hm
      refine v_ald_0 dm_readsText_24 ?_
      obtain ⟨r5, h6, he, hm⟩ := bd2_s hm
      refine v_cv0i (M' := tm_readOffice) dm_readsText_25 mlm_309 okm_readOffice sh_104 hc_12 (Nat.le_of_ble_eq_true rfl) (ctm_readOffice G (d + 2) _ _ he) ?_
      cases hm
      exact v_iret dm_readsText_28 rfl
    · replace hm := ie hc hm
      refine v_ild_1 dm_readsText_29 ?_
      refine v_iconst (x := 3) dm_readsText_30 rfl ?_
      refine v_cmp_ne dm_readsText_31 (fun hc => ?_) (fun hc => ?_)
      · replace hm := it hc hm
        refine v_ald_0 dm_readsText_34 ?_
        obtain ⟨r7, h8, he, hm⟩ := bd2_s hm
        refine v_cv0i (M' := tm_readNexts) dm_readsText_35 mlm_312 okm_readNexts sh_104 hc_12 (Nat.le_of_ble_eq_true rfl) (ctm_readNexts G (d + 2) _ _ he) ?_
        refine v_goto dm_readsText_38 ?_
        cases hm
        exact v_iret dm_readsText_45 rfl
      · replace hm := ie hc hm
        refine v_ald_0 dm_readsText_41 ?_
        obtain ⟨r9, h10, he, hm⟩ := bd2_s hm
        refine v_cv0i (M' := tm_readLaw) dm_readsText_42 mlm_315 okm_readLaw sh_104 hc_12 (Nat.le_of_ble_eq_true rfl) (ctm_readLaw G d _ _ he) ?_
        cases hm
        exact v_iret dm_readsText_45 rfl
def mm_takesOther_L7 (p2 : Int32) (k0 : PH → Option (PH)) : Nat → Int32 → PH → Option (PH)
  | 0, _, _ => none
  | n + 1, v3, hv =>
    if 12 ≤ v3 then
      k0 hv
    else
      ck (12 + v3) 24 <|
      ck v3 24 <|
      lt (up hv 123 (ix v3) (hv 123 (ix (12 + v3)))) fun h1 =>
      mm_takesOther_L7 p2 k0 n (v3 + 1) h1
def mm_takesOther_L47 (p2 : Int32) (k0 : PH → Option (PH)) : Nat → Int32 → PH → Option (PH)
  | 0, _, _ => none
  | n + 1, v3, hv =>
    if (3 * p2) ≤ v3 then
      k0 hv
    else
      ck (48 + v3) 96 <|
      ck v3 96 <|
      lt (up hv 121 (ix v3) (hv 121 (ix (48 + v3)))) fun h7 =>
      mm_takesOther_L47 p2 k0 n (v3 + 1) h7
def mm_takesOther_L85 (p2 : Int32) (k0 : PH → Option (PH)) : Nat → Int32 → PH → Option (PH)
  | 0, _, _ => none
  | n + 1, v3, hv =>
    if (5 * p2) ≤ v3 then
      k0 hv
    else
      ck (80 + v3) 160 <|
      ck v3 160 <|
      lt (up hv 122 (ix v3) (hv 122 (ix (80 + v3)))) fun h10 =>
      mm_takesOther_L85 p2 k0 n (v3 + 1) h10
def mm_takesOther (p1 : Int32) (p2 : Int32) (h0 : PH) : Option (PH) :=
  if p1 = 3 then
    mm_takesOther_L7 p2 (fun (h2 : PH) =>
      lt (up h2 104 37 p2) fun h3 =>
      some h3) FU 0 h0
  else
    jn1 (fun (h5 : PH) =>
      lt (up h5 104 3 0) fun h6 =>
      some h6) fun j4 =>
    if p1 = 1 then
      mm_takesOther_L47 p2 (fun (h8 : PH) =>
        lt (up h8 104 33 p2) fun h9 =>
        j4 h9) FU 0 h0
    else
      mm_takesOther_L85 p2 (fun (h11 : PH) =>
        lt (up h11 104 35 p2) fun h12 =>
        j4 h12) FU 0 h0
theorem wm_takesOther_L7 (G : GG) (d : Nat) (p2 : Int32) (k0 : PH → Option (PH)) (r : PH) (kk0 : ∀ (hy : PH), k0 hy = some r → Vx G tm_takesOther d 34 [some (.ref (gB G + 104)), none, some (.int p2), none] [] hy none r) : ∀ (n : Nat) (v3 : Int32) (hv : PH), mm_takesOther_L7 p2 k0 n v3 hv = some r → Vx G tm_takesOther d 7 [some (.ref (gB G + 104)), none, some (.int p2), some (.int v3)] [] hv none r := by
  intro n
  induction n with
  | zero => intro v3 hv hm; cases hm
  | succ n ih =>
    intro v3 hv hm
    unfold mm_takesOther_L7 at hm
    refine v_ild_3 dm_takesOther_7 ?_
    refine v_bipush (x := 12) dm_takesOther_8 rfl ?_
    refine v_cmp_ge dm_takesOther_10 (fun hc => ?_) (fun hc => ?_)
    · replace hm := it hc hm
      exact v_kw (kk0 _ hm) (wk_s (wk_n (wk_s (wk_n wk_e))))
    · replace hm := ie hc hm
      refine v_ald_0 dm_takesOther_13 ?_
      refine v_getR dm_takesOther_14 fum_68 sh_104 rf_104_38 ?_
      refine v_ild_3 dm_takesOther_17 ?_
      refine v_ald_0 dm_takesOther_18 ?_
      refine v_getR dm_takesOther_19 fum_68 sh_104 rf_104_38 ?_
      refine v_bipush (x := 12) dm_takesOther_22 rfl ?_
      refine v_ild_3 dm_takesOther_24 ?_
      refine v_iadd dm_takesOther_25 ?_
      obtain ⟨hi, hm⟩ := ck_s hm
      refine v_iald dm_takesOther_26 sh_123 hi ?_
      obtain ⟨hi, hm⟩ := ck_s hm
      refine v_iastl dm_takesOther_27 sh_123 hi hm (fun h1 hm => ?_)
      refine v_inc_3 1 dm_takesOther_28 rfl (by decide) rfl ?_
      refine v_goto dm_takesOther_31 ?_
      exact v_kw (ih _ _ hm) (wk_s (wk_n (wk_s (wk_s wk_e))))
theorem wm_takesOther_L47 (G : GG) (d : Nat) (p2 : Int32) (k0 : PH → Option (PH)) (r : PH) (kk0 : ∀ (hy : PH), k0 hy = some r → Vx G tm_takesOther d 75 [some (.ref (gB G + 104)), none, some (.int p2), none] [] hy none r) : ∀ (n : Nat) (v3 : Int32) (hv : PH), mm_takesOther_L47 p2 k0 n v3 hv = some r → Vx G tm_takesOther d 47 [some (.ref (gB G + 104)), none, some (.int p2), some (.int v3)] [] hv none r := by
  intro n
  induction n with
  | zero => intro v3 hv hm; cases hm
  | succ n ih =>
    intro v3 hv hm
    unfold mm_takesOther_L47 at hm
    refine v_ild_3 dm_takesOther_47 ?_
    refine v_iconst (x := 3) dm_takesOther_48 rfl ?_
    refine v_ild_2 dm_takesOther_49 ?_
    refine v_imul dm_takesOther_50 ?_
    refine v_cmp_ge dm_takesOther_51 (fun hc => ?_) (fun hc => ?_)
    · replace hm := it hc hm
      exact v_kw (kk0 _ hm) (wk_s (wk_n (wk_s (wk_n wk_e))))
    · replace hm := ie hc hm
      refine v_ald_0 dm_takesOther_54 ?_
      refine v_getR dm_takesOther_55 fum_62 sh_104 rf_104_34 ?_
      refine v_ild_3 dm_takesOther_58 ?_
      refine v_ald_0 dm_takesOther_59 ?_
      refine v_getR dm_takesOther_60 fum_62 sh_104 rf_104_34 ?_
      refine v_bipush (x := 48) dm_takesOther_63 rfl ?_
      refine v_ild_3 dm_takesOther_65 ?_
      refine v_iadd dm_takesOther_66 ?_
      obtain ⟨hi, hm⟩ := ck_s hm
      refine v_iald dm_takesOther_67 sh_121 hi ?_
      obtain ⟨hi, hm⟩ := ck_s hm
      refine v_iastl dm_takesOther_68 sh_121 hi hm (fun h7 hm => ?_)
      refine v_inc_3 1 dm_takesOther_69 rfl (by decide) rfl ?_
      refine v_goto dm_takesOther_72 ?_
      exact v_kw (ih _ _ hm) (wk_s (wk_n (wk_s (wk_s wk_e))))
theorem wm_takesOther_L85 (G : GG) (d : Nat) (p2 : Int32) (k0 : PH → Option (PH)) (r : PH) (kk0 : ∀ (hy : PH), k0 hy = some r → Vx G tm_takesOther d 113 [some (.ref (gB G + 104)), none, some (.int p2), none] [] hy none r) : ∀ (n : Nat) (v3 : Int32) (hv : PH), mm_takesOther_L85 p2 k0 n v3 hv = some r → Vx G tm_takesOther d 85 [some (.ref (gB G + 104)), none, some (.int p2), some (.int v3)] [] hv none r := by
  intro n
  induction n with
  | zero => intro v3 hv hm; cases hm
  | succ n ih =>
    intro v3 hv hm
    unfold mm_takesOther_L85 at hm
    refine v_ild_3 dm_takesOther_85 ?_
    refine v_iconst (x := 5) dm_takesOther_86 rfl ?_
    refine v_ild_2 dm_takesOther_87 ?_
    refine v_imul dm_takesOther_88 ?_
    refine v_cmp_ge dm_takesOther_89 (fun hc => ?_) (fun hc => ?_)
    · replace hm := it hc hm
      exact v_kw (kk0 _ hm) (wk_s (wk_n (wk_s (wk_n wk_e))))
    · replace hm := ie hc hm
      refine v_ald_0 dm_takesOther_92 ?_
      refine v_getR dm_takesOther_93 fum_65 sh_104 rf_104_36 ?_
      refine v_ild_3 dm_takesOther_96 ?_
      refine v_ald_0 dm_takesOther_97 ?_
      refine v_getR dm_takesOther_98 fum_65 sh_104 rf_104_36 ?_
      refine v_bipush (x := 80) dm_takesOther_101 rfl ?_
      refine v_ild_3 dm_takesOther_103 ?_
      refine v_iadd dm_takesOther_104 ?_
      obtain ⟨hi, hm⟩ := ck_s hm
      refine v_iald dm_takesOther_105 sh_122 hi ?_
      obtain ⟨hi, hm⟩ := ck_s hm
      refine v_iastl dm_takesOther_106 sh_122 hi hm (fun h10 hm => ?_)
      refine v_inc_3 1 dm_takesOther_107 rfl (by decide) rfl ?_
      refine v_goto dm_takesOther_110 ?_
      exact v_kw (ih _ _ hm) (wk_s (wk_n (wk_s (wk_s wk_e))))
theorem ctm_takesOther (G : GG) (d : Nat) (p1 : Int32) (p2 : Int32) (h0 : PH) (r : PH) (hm : mm_takesOther p1 p2 h0 = some r) : Kx G tm_takesOther d [.ref (gB G + 104), .int p1, .int p2] h0 none r := by
  refine K_of_V (by decide) (by simp [cat_i, cat_r, fmtV_cat]) (by simp [tm_takesOther]) ?_
  change Vx G tm_takesOther d 0 [some (.ref (gB G + 104)), some (.int p1), some (.int p2), none] [] h0 none r
  unfold mm_takesOther at hm
  refine v_ild_1 dm_takesOther_0 ?_
  refine v_iconst (x := 3) dm_takesOther_1 rfl ?_
  refine v_cmp_ne dm_takesOther_2 (fun hc => ?_) (fun hc => ?_)
  · replace hm := it hc hm
    refine v_iconst (x := 0) dm_takesOther_5 rfl ?_
    refine v_ist_3 dm_takesOther_6 (by decide) rfl ?_
    refine v_kw (wm_takesOther_L7 G d _ _ _ (fun h2 hm => ?_) FU _ _ hm) (wk_s (wk_n (wk_s (wk_s wk_e))))
    refine v_ald_0 dm_takesOther_34 ?_
    refine v_ild_2 dm_takesOther_35 ?_
    refine v_putIl dm_takesOther_36 fum_318 ft_12_37 sh_104 rf_104_37 hm (fun h3 hm => ?_)
    cases hm
    exact v_ret dm_takesOther_39 rfl
  · replace hm := ie hc hm
    refine v_ild_1 dm_takesOther_40 ?_
    refine v_iconst (x := 1) dm_takesOther_41 rfl ?_
    refine v_j1 (fun (h5 : PH) => Vx G tm_takesOther d 118 [some (.ref (gB G + 104)), none, none, none] [] h5 none r) hm (fun h5 hm => ?_) (fun j4 kj4 hm => ?_)
    · refine v_ald_0 dm_takesOther_118 ?_
      refine v_iconst (x := 0) dm_takesOther_119 rfl ?_
      refine v_putIl dm_takesOther_120 fum_149 ft_12_3 sh_104 rf_104_3 hm (fun h6 hm => ?_)
      cases hm
      exact v_ret dm_takesOther_123 rfl
    · refine v_cmp_ne dm_takesOther_42 (fun hc => ?_) (fun hc => ?_)
      · replace hm := it hc hm
        refine v_iconst (x := 0) dm_takesOther_45 rfl ?_
        refine v_ist_3 dm_takesOther_46 (by decide) rfl ?_
        refine v_kw (wm_takesOther_L47 G d _ _ _ (fun h8 hm => ?_) FU _ _ hm) (wk_s (wk_n (wk_s (wk_s wk_e))))
        refine v_ald_0 dm_takesOther_75 ?_
        refine v_ild_2 dm_takesOther_76 ?_
        refine v_putIl dm_takesOther_77 fum_321 ft_12_33 sh_104 rf_104_33 hm (fun h9 hm => ?_)
        refine v_goto dm_takesOther_80 ?_
        exact v_kw (kj4 _ hm) (wk_s (wk_n (wk_n (wk_n wk_e))))
      · replace hm := ie hc hm
        refine v_iconst (x := 0) dm_takesOther_83 rfl ?_
        refine v_ist_3 dm_takesOther_84 (by decide) rfl ?_
        refine v_kw (wm_takesOther_L85 G d _ _ _ (fun h11 hm => ?_) FU _ _ hm) (wk_s (wk_n (wk_s (wk_s wk_e))))
        refine v_ald_0 dm_takesOther_113 ?_
        refine v_ild_2 dm_takesOther_114 ?_
        refine v_putIl dm_takesOther_115 fum_324 ft_12_35 sh_104 rf_104_35 hm (fun h12 hm => ?_)
        exact v_kw (kj4 _ hm) (wk_s (wk_n (wk_n (wk_n wk_e))))
def mm_text (p1 : Int32) (h0 : PH) : Option (Int32 × PH) :=
  lt (up h0 104 0 0) fun h1 =>
  lt (up h1 104 31 0) fun h2 =>
  lt (up h2 104 32 (-1)) fun h3 =>
  lt (up h3 104 12 0) fun h4 =>
  lt (up h4 104 25 0) fun h5 =>
  lt (up h5 104 26 0) fun h6 =>
  bd (mm_isIn p1 0 3 h6) fun r7 =>
  jn2 (fun (x9 : Int32) (h10 : PH) =>
    lt (up h10 104 11 0) fun h11 =>
    if x9 = (-1) then
      some ((-1), h11)
    else
      if p1 = 0 then
        bd (mm_takesLaw x9 h11) fun h12 =>
        some (x9, h12)
      else
        bd (mm_takesOther p1 x9 h11) fun h13 =>
        some (x9, h13)) fun j8 =>
  if r7 = 0 then
    j8 (-1) h6
  else
    bd2 (mm_readsText p1 h6) fun r14 h15 =>
    if r14 = (-1) then
      lt (up h15 104 31 (h15 104 29)) fun h16 =>
      lt (up h16 104 32 (h16 104 30)) fun h17 =>
      j8 r14 h17
    else
      j8 r14 h15
theorem ctm_text (G : GG) (d : Nat) (p1 : Int32) (h0 : PH) (r : Int32 × PH) (hm : mm_text p1 h0 = some r) : Kx G tm_text (d + 10) [.ref (gB G + 104), .int p1] h0 (some (.int r.1)) r.2 := by
  refine K_of_V (by decide) (by simp [cat_i, cat_r, fmtV_cat]) (by simp [tm_text]) ?_
  change Vx G tm_text (d + 10) 0 [some (.ref (gB G + 104)), some (.int p1), none] [] h0 (some (.int r.1)) r.2
  unfold mm_text at hm
  refine v_ald_0 dm_text_0 ?_
  refine v_iconst (x := 0) dm_text_1 rfl ?_
  refine v_putIl dm_text_2 fum_146 ft_12_0 sh_104 rf_104_0 hm (fun h1 hm => ?_)
  refine v_ald_0 dm_text_5 ?_
  refine v_iconst (x := 0) dm_text_6 rfl ?_
  refine v_putIl dm_text_7 fum_327 ft_12_31 sh_104 rf_104_31 hm (fun h2 hm => ?_)
  refine v_ald_0 dm_text_10 ?_
  refine v_iconst (x := (-1)) dm_text_11 rfl ?_
  refine v_putIl dm_text_12 fum_58 ft_12_32 sh_104 rf_104_32 hm (fun h3 hm => ?_)
  refine v_ald_0 dm_text_15 ?_
  refine v_iconst (x := 0) dm_text_16 rfl ?_
  refine v_putIl dm_text_17 fum_198 ft_12_12 sh_104 rf_104_12 hm (fun h4 hm => ?_)
  refine v_ald_0 dm_text_20 ?_
  refine v_iconst (x := 0) dm_text_21 rfl ?_
  refine v_putIl dm_text_22 fum_231 ft_12_25 sh_104 rf_104_25 hm (fun h5 hm => ?_)
  refine v_ald_0 dm_text_25 ?_
  refine v_iconst (x := 0) dm_text_26 rfl ?_
  refine v_putIl dm_text_27 fum_263 ft_12_26 sh_104 rf_104_26 hm (fun h6 hm => ?_)
  refine v_iconst (x := (-1)) dm_text_30 rfl ?_
  refine v_ist_2 dm_text_31 (by decide) rfl ?_
  refine v_ald_0 dm_text_32 ?_
  refine v_ild_1 dm_text_33 ?_
  refine v_iconst (x := 0) dm_text_34 rfl ?_
  refine v_iconst (x := 3) dm_text_35 rfl ?_
  obtain ⟨r7, he, hm⟩ := bd_s hm
  refine v_cv3i (M' := tm_isIn) dm_text_36 mlm_177 okm_isIn sh_104 hc_12 (Nat.le_of_ble_eq_true rfl) (ctm_isIn G (d + 9) _ _ _ _ _ he) ?_
  refine v_j2 (fun (x9 : Int32) (h10 : PH) => Vx G tm_text (d + 10) 69 [some (.ref (gB G + 104)), some (.int p1), some (.int x9)] [] h10 (some (.int r.1)) r.2) hm (fun x9 h10 hm => ?_) (fun j8 kj8 hm => ?_)
  · refine v_ald_0 dm_text_69 ?_
    refine v_iconst (x := 0) dm_text_70 rfl ?_
    refine v_putIl dm_text_71 fum_191 ft_12_11 sh_104 rf_104_11 hm (fun h11 hm => ?_)
    refine v_ild_2 dm_text_74 ?_
    refine v_iconst (x := (-1)) dm_text_75 rfl ?_
    refine v_cmp_ne dm_text_76 (fun hc => ?_) (fun hc => ?_)
    · replace hm := it hc hm
      refine v_iconst (x := (-1)) dm_text_79 rfl ?_
      cases hm
      exact v_iret dm_text_80 rfl
    · replace hm := ie hc hm
      refine v_ild_1 dm_text_81 ?_
      refine v_if_ne dm_text_82 (fun hc => ?_) (fun hc => ?_)
      · replace hm := it hc hm
        refine v_ald_0 dm_text_85 ?_
        refine v_ild_2 dm_text_86 ?_
        obtain ⟨h12, he, hm⟩ := bd_s hm
        refine v_cv1v (M' := tm_takesLaw) dm_text_87 mlm_333 okm_takesLaw sh_104 hc_12 (Nat.le_of_ble_eq_true rfl) (ctm_takesLaw G (d + 9) _ _ _ he) ?_
        refine v_goto dm_text_90 ?_
        refine v_ild_2 dm_text_99 ?_
        cases hm
        exact v_iret dm_text_100 rfl
      · replace hm := ie hc hm
        refine v_ald_0 dm_text_93 ?_
        refine v_ild_1 dm_text_94 ?_
        refine v_ild_2 dm_text_95 ?_
        obtain ⟨h13, he, hm⟩ := bd_s hm
        refine v_cv2v (M' := tm_takesOther) dm_text_96 mlm_336 okm_takesOther sh_104 hc_12 (Nat.le_of_ble_eq_true rfl) (ctm_takesOther G (d + 9) _ _ _ _ he) ?_
        refine v_ild_2 dm_text_99 ?_
        cases hm
        exact v_iret dm_text_100 rfl
  · refine v_if_eq dm_text_39 (fun hc => ?_) (fun hc => ?_)
    · replace hm := it hc hm
      exact v_kw (kj8 _ _ hm) (wk_s (wk_s (wk_s wk_e)))
    · replace hm := ie hc hm
      refine v_ald_0 dm_text_42 ?_
      refine v_ild_1 dm_text_43 ?_
      obtain ⟨r14, h15, he, hm⟩ := bd2_s hm
      refine v_cv1i (M' := tm_readsText) dm_text_44 mlm_330 okm_readsText sh_104 hc_12 (Nat.le_of_ble_eq_true rfl) (ctm_readsText G d _ _ _ he) ?_
      refine v_ist_2 dm_text_47 (by decide) rfl ?_
      refine v_ild_2 dm_text_48 ?_
      refine v_iconst (x := (-1)) dm_text_49 rfl ?_
      refine v_cmp_ne dm_text_50 (fun hc => ?_) (fun hc => ?_)
      · replace hm := it hc hm
        refine v_ald_0 dm_text_53 ?_
        refine v_ald_0 dm_text_54 ?_
        refine v_getI dm_text_55 fum_225 sh_104 rf_104_29 ?_
        refine v_putIl dm_text_58 fum_327 ft_12_31 sh_104 rf_104_31 hm (fun h16 hm => ?_)
        refine v_ald_0 dm_text_61 ?_
        refine v_ald_0 dm_text_62 ?_
        refine v_getI dm_text_63 fum_228 sh_104 rf_104_30 ?_
        refine v_putIl dm_text_66 fum_58 ft_12_32 sh_104 rf_104_32 hm (fun h17 hm => ?_)
        exact v_kw (kj8 _ _ hm) (wk_s (wk_s (wk_s wk_e)))
      · replace hm := ie hc hm
        exact v_kw (kj8 _ _ hm) (wk_s (wk_s (wk_s wk_e)))
def mm_fault (p1 : Int32) (h0 : PH) : Option (Int32 × PH) :=
  lt (up h0 104 0 0) fun h1 =>
  if p1 = 0 then
    some (h1 104 31, h1)
  else
    if p1 = 1 then
      some (h1 104 32, h1)
    else
      some ((-1), h1)
theorem ctm_fault (G : GG) (d : Nat) (p1 : Int32) (h0 : PH) (r : Int32 × PH) (hm : mm_fault p1 h0 = some r) : Kx G tm_fault d [.ref (gB G + 104), .int p1] h0 (some (.int r.1)) r.2 := by
  refine K_of_V (by decide) (by simp [cat_i, cat_r, fmtV_cat]) (by simp [tm_fault]) ?_
  change Vx G tm_fault d 0 [some (.ref (gB G + 104)), some (.int p1)] [] h0 (some (.int r.1)) r.2
  unfold mm_fault at hm
  refine v_ald_0 dm_fault_0 ?_
  refine v_iconst (x := 0) dm_fault_1 rfl ?_
  refine v_putIl dm_fault_2 fum_146 ft_12_0 sh_104 rf_104_0 hm (fun h1 hm => ?_)
  refine v_ild_1 dm_fault_5 ?_
  refine v_if_ne dm_fault_6 (fun hc => ?_) (fun hc => ?_)
  · replace hm := it hc hm
    refine v_ald_0 dm_fault_9 ?_
    refine v_getI dm_fault_10 fum_327 sh_104 rf_104_31 ?_
    refine v_goto dm_fault_13 ?_
    cases hm
    exact v_iret dm_fault_29 rfl
  · replace hm := ie hc hm
    refine v_ild_1 dm_fault_16 ?_
    refine v_iconst (x := 1) dm_fault_17 rfl ?_
    refine v_cmp_ne dm_fault_18 (fun hc => ?_) (fun hc => ?_)
    · replace hm := it hc hm
      refine v_ald_0 dm_fault_21 ?_
      refine v_getI dm_fault_22 fum_58 sh_104 rf_104_32 ?_
      refine v_goto dm_fault_25 ?_
      cases hm
      exact v_iret dm_fault_29 rfl
    · replace hm := ie hc hm
      refine v_iconst (x := (-1)) dm_fault_28 rfl ?_
      cases hm
      exact v_iret dm_fault_29 rfl
def mm_twoOf (p1 : Int32) (p2 : Int32) (p3 : Int32) (h0 : PH) : Option (Int32) :=
  if p1 = 2 then
    some (p2 + p3)
  else
    if p1 = 3 then
      some (p2 - p3)
    else
      if p1 = 4 then
        some (p2 * p3)
      else
        if p1 = 5 then
          dz p3 <|
          some (p2 / p3)
        else
          if p1 = 6 then
            if p3 ≤ p2 then
              some 0
            else
              some 1
          else
            if p1 = 7 then
              if p2 = p3 then
                some 1
              else
                some 0
            else
              if p1 = 8 then
                if p2 ≤ p3 then
                  some 0
                else
                  some 1
              else
                if p1 = 10 then
                  some (p2 * p3)
                else
                  if (p2 + p3) ≤ 0 then
                    some 0
                  else
                    some 1
theorem ctm_twoOf (G : GG) (d : Nat) (p1 : Int32) (p2 : Int32) (p3 : Int32) (h0 : PH) (r : Int32) (hm : mm_twoOf p1 p2 p3 h0 = some r) : Kx G tm_twoOf d [.ref (gB G + 104), .int p1, .int p2, .int p3] h0 (some (.int r)) h0 := by
  refine K_of_V (by decide) (by simp [cat_i, cat_r, fmtV_cat]) (by simp [tm_twoOf]) ?_
  change Vx G tm_twoOf d 0 [some (.ref (gB G + 104)), some (.int p1), some (.int p2), some (.int p3)] [] h0 (some (.int r)) h0
  unfold mm_twoOf at hm
  refine v_ild_1 dm_twoOf_0 ?_
  refine v_iconst (x := 2) dm_twoOf_1 rfl ?_
  refine v_cmp_ne dm_twoOf_2 (fun hc => ?_) (fun hc => ?_)
  · replace hm := it hc hm
    refine v_ild_2 dm_twoOf_5 ?_
    refine v_ild_3 dm_twoOf_6 ?_
    refine v_iadd dm_twoOf_7 ?_
    cases hm
    exact v_iret dm_twoOf_8 rfl
  · replace hm := ie hc hm
    refine v_ild_1 dm_twoOf_9 ?_
    refine v_iconst (x := 3) dm_twoOf_10 rfl ?_
    refine v_cmp_ne dm_twoOf_11 (fun hc => ?_) (fun hc => ?_)
    · replace hm := it hc hm
      refine v_ild_2 dm_twoOf_14 ?_
      refine v_ild_3 dm_twoOf_15 ?_
      refine v_isub dm_twoOf_16 ?_
      cases hm
      exact v_iret dm_twoOf_17 rfl
    · replace hm := ie hc hm
      refine v_ild_1 dm_twoOf_18 ?_
      refine v_iconst (x := 4) dm_twoOf_19 rfl ?_
      refine v_cmp_ne dm_twoOf_20 (fun hc => ?_) (fun hc => ?_)
      · replace hm := it hc hm
        refine v_ild_2 dm_twoOf_23 ?_
        refine v_ild_3 dm_twoOf_24 ?_
        refine v_imul dm_twoOf_25 ?_
        cases hm
        exact v_iret dm_twoOf_26 rfl
      · replace hm := ie hc hm
        refine v_ild_1 dm_twoOf_27 ?_
        refine v_iconst (x := 5) dm_twoOf_28 rfl ?_
        refine v_cmp_ne dm_twoOf_29 (fun hc => ?_) (fun hc => ?_)
        · replace hm := it hc hm
          refine v_ild_2 dm_twoOf_32 ?_
          refine v_ild_3 dm_twoOf_33 ?_
          obtain ⟨hz, hm⟩ := dz_s hm
          refine v_idiv dm_twoOf_34 hz ?_
          cases hm
          exact v_iret dm_twoOf_35 rfl
        · replace hm := ie hc hm
          refine v_ild_1 dm_twoOf_36 ?_
          refine v_bipush (x := 6) dm_twoOf_37 rfl ?_
          refine v_cmp_ne dm_twoOf_39 (fun hc => ?_) (fun hc => ?_)
          · replace hm := it hc hm
            refine v_ild_2 dm_twoOf_42 ?_
            refine v_ild_3 dm_twoOf_43 ?_
            refine v_cmp_ge dm_twoOf_44 (fun hc => ?_) (fun hc => ?_)
            · replace hm := it hc hm
              refine v_iconst (x := 0) dm_twoOf_51 rfl ?_
              cases hm
              exact v_iret dm_twoOf_52 rfl
            · replace hm := ie hc hm
              refine v_iconst (x := 1) dm_twoOf_47 rfl ?_
              refine v_goto dm_twoOf_48 ?_
              cases hm
              exact v_iret dm_twoOf_52 rfl
          · replace hm := ie hc hm
            refine v_ild_1 dm_twoOf_53 ?_
            refine v_bipush (x := 7) dm_twoOf_54 rfl ?_
            refine v_cmp_ne dm_twoOf_56 (fun hc => ?_) (fun hc => ?_)
            · replace hm := it hc hm
              refine v_ild_2 dm_twoOf_59 ?_
              refine v_ild_3 dm_twoOf_60 ?_
              refine v_cmp_ne dm_twoOf_61 (fun hc => ?_) (fun hc => ?_)
              · replace hm := it hc hm
                refine v_iconst (x := 1) dm_twoOf_64 rfl ?_
                refine v_goto dm_twoOf_65 ?_
                cases hm
                exact v_iret dm_twoOf_69 rfl
              · replace hm := ie hc hm
                refine v_iconst (x := 0) dm_twoOf_68 rfl ?_
                cases hm
                exact v_iret dm_twoOf_69 rfl
            · replace hm := ie hc hm
              refine v_ild_1 dm_twoOf_70 ?_
              refine v_bipush (x := 8) dm_twoOf_71 rfl ?_
              refine v_cmp_ne dm_twoOf_73 (fun hc => ?_) (fun hc => ?_)
              · replace hm := it hc hm
                refine v_ild_2 dm_twoOf_76 ?_
                refine v_ild_3 dm_twoOf_77 ?_
                refine v_cmp_le dm_twoOf_78 (fun hc => ?_) (fun hc => ?_)
                · replace hm := it hc hm
                  refine v_iconst (x := 0) dm_twoOf_85 rfl ?_
                  cases hm
                  exact v_iret dm_twoOf_86 rfl
                · replace hm := ie hc hm
                  refine v_iconst (x := 1) dm_twoOf_81 rfl ?_
                  refine v_goto dm_twoOf_82 ?_
                  cases hm
                  exact v_iret dm_twoOf_86 rfl
              · replace hm := ie hc hm
                refine v_ild_1 dm_twoOf_87 ?_
                refine v_bipush (x := 10) dm_twoOf_88 rfl ?_
                refine v_cmp_ne dm_twoOf_90 (fun hc => ?_) (fun hc => ?_)
                · replace hm := it hc hm
                  refine v_ild_2 dm_twoOf_93 ?_
                  refine v_ild_3 dm_twoOf_94 ?_
                  refine v_imul dm_twoOf_95 ?_
                  refine v_goto dm_twoOf_96 ?_
                  cases hm
                  exact v_iret dm_twoOf_110 rfl
                · replace hm := ie hc hm
                  refine v_ild_2 dm_twoOf_99 ?_
                  refine v_ild_3 dm_twoOf_100 ?_
                  refine v_iadd dm_twoOf_101 ?_
                  refine v_if_le dm_twoOf_102 (fun hc => ?_) (fun hc => ?_)
                  · replace hm := it hc hm
                    refine v_iconst (x := 0) dm_twoOf_109 rfl ?_
                    cases hm
                    exact v_iret dm_twoOf_110 rfl
                  · replace hm := ie hc hm
                    refine v_iconst (x := 1) dm_twoOf_105 rfl ?_
                    refine v_goto dm_twoOf_106 ?_
                    cases hm
                    exact v_iret dm_twoOf_110 rfl
def mm_runs_L12 (p1 : Int32) (p3 : Int32) (k0 : PH → Option (Int32 × PH)) : Nat → Int32 → Int32 → PH → Option (Int32 × PH)
  | 0, _, _, _ => none
  | n + 1, v4, v5, hv =>
    if ((400 * p1) + p3) ≤ v5 then
      k0 hv
    else
      ck v5 1200 <|
      jn0 (ck v5 1200 <|
        jn1 (fun (x4 : Int32) =>
          ck v4 420 <|
          lt (up hv 125 (ix v4) x4) fun h5 =>
          lt (v4 + 1) fun x6 =>
          mm_runs_L12 p1 p3 k0 n x6 (v5 + 1) h5) fun j3 =>
        if (hv 118 (ix v5)) = 0 then
          ck v5 1200 <|
          j3 (hv 119 (ix v5))
        else
          ck v5 1200 <|
          ck (hv 119 (ix v5)) 12 <|
          j3 (hv 124 (ix (hv 119 (ix v5))))) fun j2 =>
      if (hv 118 (ix v5)) = 0 then
        j2
      else
        ck v5 1200 <|
        if (hv 118 (ix v5)) = 1 then
          j2
        else
          ck v5 1200 <|
          if (hv 118 (ix v5)) = 9 then
            ck (v4 - 1) 420 <|
            ck (v4 - 1) 420 <|
            lt (up hv 125 (ix (v4 - 1)) (1 - (hv 125 (ix (v4 - 1))))) fun h7 =>
            mm_runs_L12 p1 p3 k0 n v4 (v5 + 1) h7
          else
            lt (v4 - 1) fun x8 =>
            ck v5 1200 <|
            ck (x8 - 1) 420 <|
            ck x8 420 <|
            bd (mm_twoOf (hv 118 (ix v5)) (hv 125 (ix (x8 - 1))) (hv 125 (ix x8)) hv) fun r9 =>
            ck (x8 - 1) 420 <|
            lt (up hv 125 (ix (x8 - 1)) r9) fun h10 =>
            mm_runs_L12 p1 p3 k0 n x8 (v5 + 1) h10
def mm_runs (p1 : Int32) (p2 : Int32) (p3 : Int32) (h0 : PH) : Option (Int32 × PH) :=
  lt ((400 * p1) + p2) fun x1 =>
  mm_runs_L12 p1 p3 (fun (h11 : PH) =>
    ck 0 420 <|
    some (h11 125 (ix 0), h11)) FU 0 x1 h0
theorem wm_runs_L12 (G : GG) (d : Nat) (p1 : Int32) (p3 : Int32) (k0 : PH → Option (Int32 × PH)) (r : Int32 × PH) (kk0 : ∀ (hy : PH), k0 hy = some r → Vx G tm_runs (d + 1) 176 [some (.ref (gB G + 104)), none, none, none, none, none] [] hy (some (.int r.1)) r.2) : ∀ (n : Nat) (v4 : Int32) (v5 : Int32) (hv : PH), mm_runs_L12 p1 p3 k0 n v4 v5 hv = some r → Vx G tm_runs (d + 1) 12 [some (.ref (gB G + 104)), some (.int p1), none, some (.int p3), some (.int v4), some (.int v5)] [] hv (some (.int r.1)) r.2 := by
  intro n
  induction n with
  | zero => intro v4 v5 hv hm; cases hm
  | succ n ih =>
    intro v4 v5 hv hm
    unfold mm_runs_L12 at hm
    refine v_ild_5 dm_runs_12 ?_
    refine v_sipush (x := 400) dm_runs_14 rfl ?_
    refine v_ild_1 dm_runs_17 ?_
    refine v_imul dm_runs_18 ?_
    refine v_ild_3 dm_runs_19 ?_
    refine v_iadd dm_runs_20 ?_
    refine v_cmp_ge dm_runs_21 (fun hc => ?_) (fun hc => ?_)
    · replace hm := it hc hm
      exact v_kw (kk0 _ hm) (wk_s (wk_n (wk_n (wk_n (wk_n (wk_n wk_e))))))
    · replace hm := ie hc hm
      refine v_ald_0 dm_runs_24 ?_
      refine v_getR dm_runs_25 fum_49 sh_104 rf_104_22 ?_
      refine v_ild_5 dm_runs_28 ?_
      obtain ⟨hi, hm⟩ := ck_s hm
      refine v_iald dm_runs_30 sh_118 hi ?_
      refine v_j0 (Vx G tm_runs (d + 1) 45 [some (.ref (gB G + 104)), some (.int p1), none, some (.int p3), some (.int v4), some (.int v5)] [] hv (some (.int r.1)) r.2) hm (fun hm => ?_) (fun j2 kj2 hm => ?_)
      · refine v_ald_0 dm_runs_45 ?_
        refine v_getR dm_runs_46 fum_74 sh_104 rf_104_40 ?_
        refine v_ild_4 dm_runs_49 ?_
        refine v_ald_0 dm_runs_51 ?_
        refine v_getR dm_runs_52 fum_49 sh_104 rf_104_22 ?_
        refine v_ild_5 dm_runs_55 ?_
        obtain ⟨hi, hm⟩ := ck_s hm
        refine v_iald dm_runs_57 sh_118 hi ?_
        refine v_j1 (fun (x4 : Int32) => Vx G tm_runs (d + 1) 83 [some (.ref (gB G + 104)), some (.int p1), none, some (.int p3), some (.int v4), some (.int v5)] [.int x4, .int v4, .ref (gB G + 125)] hv (some (.int r.1)) r.2) hm (fun x4 hm => ?_) (fun j3 kj3 hm => ?_)
        · obtain ⟨hi, hm⟩ := ck_s hm
          refine v_iastl dm_runs_83 sh_125 hi hm (fun h5 hm => ?_)
          refine v_ild_4 dm_runs_84 ?_
          refine v_iconst (x := 1) dm_runs_86 rfl ?_
          refine v_iadd dm_runs_87 ?_
          refine v_top hm (fun x6 hm => ?_)
          refine v_ist_4 dm_runs_88 (by decide) rfl ?_
          refine v_goto dm_runs_90 ?_
          refine v_inc_5 1 dm_runs_170 rfl (by decide) rfl ?_
          refine v_goto dm_runs_173 ?_
          exact v_kw (ih _ _ _ hm) (wk_s (wk_s (wk_n (wk_s (wk_s (wk_s wk_e))))))
        · refine v_if_ne dm_runs_58 (fun hc => ?_) (fun hc => ?_)
          · replace hm := it hc hm
            refine v_ald_0 dm_runs_61 ?_
            refine v_getR dm_runs_62 fum_52 sh_104 rf_104_23 ?_
            refine v_ild_5 dm_runs_65 ?_
            obtain ⟨hi, hm⟩ := ck_s hm
            refine v_iald dm_runs_67 sh_119 hi ?_
            refine v_goto dm_runs_68 ?_
            exact v_kw (kj3 _ hm) (wk_s (wk_s (wk_n (wk_s (wk_s (wk_s wk_e))))))
          · replace hm := ie hc hm
            refine v_ald_0 dm_runs_71 ?_
            refine v_getR dm_runs_72 fum_71 sh_104 rf_104_39 ?_
            refine v_ald_0 dm_runs_75 ?_
            refine v_getR dm_runs_76 fum_52 sh_104 rf_104_23 ?_
            refine v_ild_5 dm_runs_79 ?_
            obtain ⟨hi, hm⟩ := ck_s hm
            refine v_iald dm_runs_81 sh_119 hi ?_
            obtain ⟨hi, hm⟩ := ck_s hm
            refine v_iald dm_runs_82 sh_124 hi ?_
            exact v_kw (kj3 _ hm) (wk_s (wk_s (wk_n (wk_s (wk_s (wk_s wk_e))))))
      · refine v_if_eq dm_runs_31 (fun hc => ?_) (fun hc => ?_)
        · replace hm := it hc hm
          exact v_kw (kj2 hm) (wk_s (wk_s (wk_n (wk_s (wk_s (wk_s wk_e))))))
        · replace hm := ie hc hm
          refine v_ald_0 dm_runs_34 ?_
          refine v_getR dm_runs_35 fum_49 sh_104 rf_104_22 ?_
          refine v_ild_5 dm_runs_38 ?_
          obtain ⟨hi, hm⟩ := ck_s hm
          refine v_iald dm_runs_40 sh_118 hi ?_
          refine v_iconst (x := 1) dm_runs_41 rfl ?_
          refine v_cmp_ne dm_runs_42 (fun hc => ?_) (fun hc => ?_)
          · replace hm := it hc hm
            exact v_kw (kj2 hm) (wk_s (wk_s (wk_n (wk_s (wk_s (wk_s wk_e))))))
          · replace hm := ie hc hm
            refine v_ald_0 dm_runs_93 ?_
            refine v_getR dm_runs_94 fum_49 sh_104 rf_104_22 ?_
            refine v_ild_5 dm_runs_97 ?_
            obtain ⟨hi, hm⟩ := ck_s hm
            refine v_iald dm_runs_99 sh_118 hi ?_
            refine v_bipush (x := 9) dm_runs_100 rfl ?_
            refine v_cmp_ne dm_runs_102 (fun hc => ?_) (fun hc => ?_)
            · replace hm := it hc hm
              refine v_ald_0 dm_runs_105 ?_
              refine v_getR dm_runs_106 fum_74 sh_104 rf_104_40 ?_
              refine v_ild_4 dm_runs_109 ?_
              refine v_iconst (x := 1) dm_runs_111 rfl ?_
              refine v_isub dm_runs_112 ?_
              refine v_iconst (x := 1) dm_runs_113 rfl ?_
              refine v_ald_0 dm_runs_114 ?_
              refine v_getR dm_runs_115 fum_74 sh_104 rf_104_40 ?_
              refine v_ild_4 dm_runs_118 ?_
              refine v_iconst (x := 1) dm_runs_120 rfl ?_
              refine v_isub dm_runs_121 ?_
              obtain ⟨hi, hm⟩ := ck_s hm
              refine v_iald dm_runs_122 sh_125 hi ?_
              refine v_isub dm_runs_123 ?_
              obtain ⟨hi, hm⟩ := ck_s hm
              refine v_iastl dm_runs_124 sh_125 hi hm (fun h7 hm => ?_)
              refine v_goto dm_runs_125 ?_
              refine v_inc_5 1 dm_runs_170 rfl (by decide) rfl ?_
              refine v_goto dm_runs_173 ?_
              exact v_kw (ih _ _ _ hm) (wk_s (wk_s (wk_n (wk_s (wk_s (wk_s wk_e))))))
            · replace hm := ie hc hm
              refine v_ild_4 dm_runs_128 ?_
              refine v_iconst (x := 1) dm_runs_130 rfl ?_
              refine v_isub dm_runs_131 ?_
              refine v_top hm (fun x8 hm => ?_)
              refine v_ist_4 dm_runs_132 (by decide) rfl ?_
              refine v_ald_0 dm_runs_134 ?_
              refine v_getR dm_runs_135 fum_74 sh_104 rf_104_40 ?_
              refine v_ild_4 dm_runs_138 ?_
              refine v_iconst (x := 1) dm_runs_140 rfl ?_
              refine v_isub dm_runs_141 ?_
              refine v_ald_0 dm_runs_142 ?_
              refine v_ald_0 dm_runs_143 ?_
              refine v_getR dm_runs_144 fum_49 sh_104 rf_104_22 ?_
              refine v_ild_5 dm_runs_147 ?_
              obtain ⟨hi, hm⟩ := ck_s hm
              refine v_iald dm_runs_149 sh_118 hi ?_
              refine v_ald_0 dm_runs_150 ?_
              refine v_getR dm_runs_151 fum_74 sh_104 rf_104_40 ?_
              refine v_ild_4 dm_runs_154 ?_
              refine v_iconst (x := 1) dm_runs_156 rfl ?_
              refine v_isub dm_runs_157 ?_
              obtain ⟨hi, hm⟩ := ck_s hm
              refine v_iald dm_runs_158 sh_125 hi ?_
              refine v_ald_0 dm_runs_159 ?_
              refine v_getR dm_runs_160 fum_74 sh_104 rf_104_40 ?_
              refine v_ild_4 dm_runs_163 ?_
              obtain ⟨hi, hm⟩ := ck_s hm
              refine v_iald dm_runs_165 sh_125 hi ?_
              obtain ⟨r9, he, hm⟩ := bd_s hm
              refine v_cv3i (M' := tm_twoOf) dm_runs_166 mlm_339 okm_twoOf sh_104 hc_12 (Nat.le_of_ble_eq_true rfl) (ctm_twoOf G d _ _ _ _ _ he) ?_
              obtain ⟨hi, hm⟩ := ck_s hm
              refine v_iastl dm_runs_169 sh_125 hi hm (fun h10 hm => ?_)
              refine v_inc_5 1 dm_runs_170 rfl (by decide) rfl ?_
              refine v_goto dm_runs_173 ?_
              exact v_kw (ih _ _ _ hm) (wk_s (wk_s (wk_n (wk_s (wk_s (wk_s wk_e))))))
theorem ctm_runs (G : GG) (d : Nat) (p1 : Int32) (p2 : Int32) (p3 : Int32) (h0 : PH) (r : Int32 × PH) (hm : mm_runs p1 p2 p3 h0 = some r) : Kx G tm_runs (d + 1) [.ref (gB G + 104), .int p1, .int p2, .int p3] h0 (some (.int r.1)) r.2 := by
  refine K_of_V (by decide) (by simp [cat_i, cat_r, fmtV_cat]) (by simp [tm_runs]) ?_
  change Vx G tm_runs (d + 1) 0 [some (.ref (gB G + 104)), some (.int p1), some (.int p2), some (.int p3), none, none] [] h0 (some (.int r.1)) r.2
  unfold mm_runs at hm
  refine v_iconst (x := 0) dm_runs_0 rfl ?_
  refine v_ist_4 dm_runs_1 (by decide) rfl ?_
  refine v_sipush (x := 400) dm_runs_3 rfl ?_
  refine v_ild_1 dm_runs_6 ?_
  refine v_imul dm_runs_7 ?_
  refine v_ild_2 dm_runs_8 ?_
  refine v_iadd dm_runs_9 ?_
  refine v_top hm (fun x1 hm => ?_)
  refine v_ist_5 dm_runs_10 (by decide) rfl ?_
  refine v_kw (wm_runs_L12 G d _ _ _ _ (fun h11 hm => ?_) FU _ _ _ hm) (wk_s (wk_s (wk_n (wk_s (wk_s (wk_s wk_e))))))
  refine v_ald_0 dm_runs_176 ?_
  refine v_getR dm_runs_177 fum_74 sh_104 rf_104_40 ?_
  refine v_iconst (x := 0) dm_runs_180 rfl ?_
  obtain ⟨hi, hm⟩ := ck_s hm
  refine v_iald dm_runs_181 sh_125 hi ?_
  cases hm
  exact v_iret dm_runs_182 rfl
def mm_lineOf_L2 (p1 : Int32) : Nat → Int32 → PH → Option (Int32 × PH)
  | 0, _, _ => none
  | n + 1, v2, hv =>
    ck 0 2 <|
    if (hv 113 (ix 0)) ≤ v2 then
      some ((-1), hv)
    else
      ck v2 48 <|
      if (hv 114 (ix v2)) = p1 then
        ck v2 48 <|
        ck v2 48 <|
        if (hv 116 (ix v2)) = (hv 117 (ix v2)) then
          some (v2, hv)
        else
          ck v2 48 <|
          ck v2 48 <|
          bd2 (mm_runs 0 (hv 116 (ix v2)) (hv 117 (ix v2)) hv) fun r1 h2 =>
          if r1 = 0 then
            mm_lineOf_L2 p1 n (v2 + 1) h2
          else
            some (v2, h2)
      else
        mm_lineOf_L2 p1 n (v2 + 1) hv
def mm_lineOf (p1 : Int32) (h0 : PH) : Option (Int32 × PH) :=
  mm_lineOf_L2 p1 FU 0 h0
theorem wm_lineOf_L2 (G : GG) (d : Nat) (p1 : Int32) (r : Int32 × PH) : ∀ (n : Nat) (v2 : Int32) (hv : PH), mm_lineOf_L2 p1 n v2 hv = some r → Vx G tm_lineOf (d + 2) 2 [some (.ref (gB G + 104)), some (.int p1), some (.int v2)] [] hv (some (.int r.1)) r.2 := by
  intro n
  induction n with
  | zero => intro v2 hv hm; cases hm
  | succ n ih =>
    intro v2 hv hm
    unfold mm_lineOf_L2 at hm
    refine v_ild_2 dm_lineOf_2 ?_
    refine v_ald_0 dm_lineOf_3 ?_
    refine v_getR dm_lineOf_4 fum_34 sh_104 rf_104_17 ?_
    refine v_iconst (x := 0) dm_lineOf_7 rfl ?_
    obtain ⟨hi, hm⟩ := ck_s hm
    refine v_iald dm_lineOf_8 sh_113 hi ?_
    refine v_cmp_ge dm_lineOf_9 (fun hc => ?_) (fun hc => ?_)
    · replace hm := it hc hm
      refine v_iconst (x := (-1)) dm_lineOf_65 rfl ?_
      cases hm
      exact v_iret dm_lineOf_66 rfl
    · replace hm := ie hc hm
      refine v_ald_0 dm_lineOf_12 ?_
      refine v_getR dm_lineOf_13 fum_37 sh_104 rf_104_18 ?_
      refine v_ild_2 dm_lineOf_16 ?_
      obtain ⟨hi, hm⟩ := ck_s hm
      refine v_iald dm_lineOf_17 sh_114 hi ?_
      refine v_ild_1 dm_lineOf_18 ?_
      refine v_cmp_ne dm_lineOf_19 (fun hc => ?_) (fun hc => ?_)
      · replace hm := it hc hm
        refine v_ald_0 dm_lineOf_22 ?_
        refine v_getR dm_lineOf_23 fum_43 sh_104 rf_104_20 ?_
        refine v_ild_2 dm_lineOf_26 ?_
        obtain ⟨hi, hm⟩ := ck_s hm
        refine v_iald dm_lineOf_27 sh_116 hi ?_
        refine v_ald_0 dm_lineOf_28 ?_
        refine v_getR dm_lineOf_29 fum_46 sh_104 rf_104_21 ?_
        refine v_ild_2 dm_lineOf_32 ?_
        obtain ⟨hi, hm⟩ := ck_s hm
        refine v_iald dm_lineOf_33 sh_117 hi ?_
        refine v_cmp_eq dm_lineOf_34 (fun hc => ?_) (fun hc => ?_)
        · replace hm := it hc hm
          refine v_ild_2 dm_lineOf_57 ?_
          cases hm
          exact v_iret dm_lineOf_58 rfl
        · replace hm := ie hc hm
          refine v_ald_0 dm_lineOf_37 ?_
          refine v_iconst (x := 0) dm_lineOf_38 rfl ?_
          refine v_ald_0 dm_lineOf_39 ?_
          refine v_getR dm_lineOf_40 fum_43 sh_104 rf_104_20 ?_
          refine v_ild_2 dm_lineOf_43 ?_
          obtain ⟨hi, hm⟩ := ck_s hm
          refine v_iald dm_lineOf_44 sh_116 hi ?_
          refine v_ald_0 dm_lineOf_45 ?_
          refine v_getR dm_lineOf_46 fum_46 sh_104 rf_104_21 ?_
          refine v_ild_2 dm_lineOf_49 ?_
          obtain ⟨hi, hm⟩ := ck_s hm
          refine v_iald dm_lineOf_50 sh_117 hi ?_
          obtain ⟨r1, h2, he, hm⟩ := bd2_s hm
          refine v_cv3i (M' := tm_runs) dm_lineOf_51 mlm_342 okm_runs sh_104 hc_12 (Nat.le_of_ble_eq_true rfl) (ctm_runs G d _ _ _ _ _ he) ?_
          refine v_if_eq dm_lineOf_54 (fun hc => ?_) (fun hc => ?_)
          · replace hm := it hc hm
            refine v_inc_2 1 dm_lineOf_59 rfl (by decide) rfl ?_
            refine v_goto dm_lineOf_62 ?_
            exact v_kw (ih _ _ hm) (wk_s (wk_s (wk_s wk_e)))
          · replace hm := ie hc hm
            refine v_ild_2 dm_lineOf_57 ?_
            cases hm
            exact v_iret dm_lineOf_58 rfl
      · replace hm := ie hc hm
        refine v_inc_2 1 dm_lineOf_59 rfl (by decide) rfl ?_
        refine v_goto dm_lineOf_62 ?_
        exact v_kw (ih _ _ hm) (wk_s (wk_s (wk_s wk_e)))
theorem ctm_lineOf (G : GG) (d : Nat) (p1 : Int32) (h0 : PH) (r : Int32 × PH) (hm : mm_lineOf p1 h0 = some r) : Kx G tm_lineOf (d + 2) [.ref (gB G + 104), .int p1] h0 (some (.int r.1)) r.2 := by
  refine K_of_V (by decide) (by simp [cat_i, cat_r, fmtV_cat]) (by simp [tm_lineOf]) ?_
  change Vx G tm_lineOf (d + 2) 0 [some (.ref (gB G + 104)), some (.int p1), none] [] h0 (some (.int r.1)) r.2
  unfold mm_lineOf at hm
  refine v_iconst (x := 0) dm_lineOf_0 rfl ?_
  refine v_ist_2 dm_lineOf_1 (by decide) rfl ?_
  exact v_kw (wm_lineOf_L2 G d _ _ FU _ _ hm) (wk_s (wk_s (wk_s wk_e)))
def mm_asks (p1 : Int32) (p2 : Int32) (h0 : PH) : Option (PH) :=
  ck 0 12 <|
  lt (up h0 124 (ix 0) p2) fun h1 =>
  bd (mm_sumOf p1 h1) fun r2 =>
  ck 1 12 <|
  lt (up h1 124 (ix 1) r2) fun h3 =>
  ck p1 12 <|
  ck 2 12 <|
  lt (up h3 124 (ix 2) (h3 108 (ix p1))) fun h4 =>
  ck p1 12 <|
  ck 3 12 <|
  lt (up h4 124 (ix 3) (h4 109 (ix p1))) fun h5 =>
  ck (55 + p1) 115 <|
  ck 4 12 <|
  lt (up h5 124 (ix 4) (h5 105 (ix (55 + p1)))) fun h6 =>
  ck (67 + p1) 115 <|
  ck 5 12 <|
  lt (up h6 124 (ix 5) (h6 105 (ix (67 + p1)))) fun h7 =>
  ck (79 + p1) 115 <|
  ck 6 12 <|
  lt (up h7 124 (ix 6) (h7 105 (ix (79 + p1)))) fun h8 =>
  ck (91 + p1) 115 <|
  ck 7 12 <|
  lt (up h8 124 (ix 7) (h8 105 (ix (91 + p1)))) fun h9 =>
  ck (103 + p1) 115 <|
  ck 8 12 <|
  lt (up h9 124 (ix 8) (h9 105 (ix (103 + p1)))) fun h10 =>
  ck 3 115 <|
  ck 9 12 <|
  lt (up h10 124 (ix 9) (h10 105 (ix 3))) fun h11 =>
  ck 4 115 <|
  ck 10 12 <|
  lt (up h11 124 (ix 10) (h11 105 (ix 4))) fun h12 =>
  ck 0 115 <|
  ck 11 12 <|
  lt (up h12 124 (ix 11) (h12 105 (ix 0))) fun h13 =>
  some h13
theorem ctm_asks (G : GG) (d : Nat) (p1 : Int32) (p2 : Int32) (h0 : PH) (r : PH) (hm : mm_asks p1 p2 h0 = some r) : Kx G tm_asks (d + 2) [.ref (gB G + 104), .int p1, .int p2] h0 none r := by
  refine K_of_V (by decide) (by simp [cat_i, cat_r, fmtV_cat]) (by simp [tm_asks]) ?_
  change Vx G tm_asks (d + 2) 0 [some (.ref (gB G + 104)), some (.int p1), some (.int p2)] [] h0 none r
  unfold mm_asks at hm
  refine v_ald_0 dm_asks_0 ?_
  refine v_getR dm_asks_1 fum_71 sh_104 rf_104_39 ?_
  refine v_iconst (x := 0) dm_asks_4 rfl ?_
  refine v_ild_2 dm_asks_5 ?_
  obtain ⟨hi, hm⟩ := ck_s hm
  refine v_iastl dm_asks_6 sh_124 hi hm (fun h1 hm => ?_)
  refine v_ald_0 dm_asks_7 ?_
  refine v_getR dm_asks_8 fum_71 sh_104 rf_104_39 ?_
  refine v_iconst (x := 1) dm_asks_11 rfl ?_
  refine v_ald_0 dm_asks_12 ?_
  refine v_ild_1 dm_asks_13 ?_
  obtain ⟨r2, he, hm⟩ := bd_s hm
  refine v_cv1i (M' := tm_sumOf) dm_asks_14 mlm_169 okm_sumOf sh_104 hc_12 (Nat.le_of_ble_eq_true rfl) (ctm_sumOf G d _ _ _ he) ?_
  obtain ⟨hi, hm⟩ := ck_s hm
  refine v_iastl dm_asks_17 sh_124 hi hm (fun h3 hm => ?_)
  refine v_ald_0 dm_asks_18 ?_
  refine v_getR dm_asks_19 fum_71 sh_104 rf_104_39 ?_
  refine v_iconst (x := 2) dm_asks_22 rfl ?_
  refine v_ald_0 dm_asks_23 ?_
  refine v_getR dm_asks_24 fum_19 sh_104 rf_104_7 ?_
  refine v_ild_1 dm_asks_27 ?_
  obtain ⟨hi, hm⟩ := ck_s hm
  refine v_iald dm_asks_28 sh_108 hi ?_
  obtain ⟨hi, hm⟩ := ck_s hm
  refine v_iastl dm_asks_29 sh_124 hi hm (fun h4 hm => ?_)
  refine v_ald_0 dm_asks_30 ?_
  refine v_getR dm_asks_31 fum_71 sh_104 rf_104_39 ?_
  refine v_iconst (x := 3) dm_asks_34 rfl ?_
  refine v_ald_0 dm_asks_35 ?_
  refine v_getR dm_asks_36 fum_22 sh_104 rf_104_8 ?_
  refine v_ild_1 dm_asks_39 ?_
  obtain ⟨hi, hm⟩ := ck_s hm
  refine v_iald dm_asks_40 sh_109 hi ?_
  obtain ⟨hi, hm⟩ := ck_s hm
  refine v_iastl dm_asks_41 sh_124 hi hm (fun h5 hm => ?_)
  refine v_ald_0 dm_asks_42 ?_
  refine v_getR dm_asks_43 fum_71 sh_104 rf_104_39 ?_
  refine v_iconst (x := 4) dm_asks_46 rfl ?_
  refine v_ald_0 dm_asks_47 ?_
  refine v_getR dm_asks_48 fum_7 sh_104 rf_104_1 ?_
  refine v_bipush (x := 55) dm_asks_51 rfl ?_
  refine v_ild_1 dm_asks_53 ?_
  refine v_iadd dm_asks_54 ?_
  obtain ⟨hi, hm⟩ := ck_s hm
  refine v_iald dm_asks_55 sh_105 hi ?_
  obtain ⟨hi, hm⟩ := ck_s hm
  refine v_iastl dm_asks_56 sh_124 hi hm (fun h6 hm => ?_)
  refine v_ald_0 dm_asks_57 ?_
  refine v_getR dm_asks_58 fum_71 sh_104 rf_104_39 ?_
  refine v_iconst (x := 5) dm_asks_61 rfl ?_
  refine v_ald_0 dm_asks_62 ?_
  refine v_getR dm_asks_63 fum_7 sh_104 rf_104_1 ?_
  refine v_bipush (x := 67) dm_asks_66 rfl ?_
  refine v_ild_1 dm_asks_68 ?_
  refine v_iadd dm_asks_69 ?_
  obtain ⟨hi, hm⟩ := ck_s hm
  refine v_iald dm_asks_70 sh_105 hi ?_
  obtain ⟨hi, hm⟩ := ck_s hm
  refine v_iastl dm_asks_71 sh_124 hi hm (fun h7 hm => ?_)
  refine v_ald_0 dm_asks_72 ?_
  refine v_getR dm_asks_73 fum_71 sh_104 rf_104_39 ?_
  refine v_bipush (x := 6) dm_asks_76 rfl ?_
  refine v_ald_0 dm_asks_78 ?_
  refine v_getR dm_asks_79 fum_7 sh_104 rf_104_1 ?_
  refine v_bipush (x := 79) dm_asks_82 rfl ?_
  refine v_ild_1 dm_asks_84 ?_
  refine v_iadd dm_asks_85 ?_
  obtain ⟨hi, hm⟩ := ck_s hm
  refine v_iald dm_asks_86 sh_105 hi ?_
  obtain ⟨hi, hm⟩ := ck_s hm
  refine v_iastl dm_asks_87 sh_124 hi hm (fun h8 hm => ?_)
  refine v_ald_0 dm_asks_88 ?_
  refine v_getR dm_asks_89 fum_71 sh_104 rf_104_39 ?_
  refine v_bipush (x := 7) dm_asks_92 rfl ?_
  refine v_ald_0 dm_asks_94 ?_
  refine v_getR dm_asks_95 fum_7 sh_104 rf_104_1 ?_
  refine v_bipush (x := 91) dm_asks_98 rfl ?_
  refine v_ild_1 dm_asks_100 ?_
  refine v_iadd dm_asks_101 ?_
  obtain ⟨hi, hm⟩ := ck_s hm
  refine v_iald dm_asks_102 sh_105 hi ?_
  obtain ⟨hi, hm⟩ := ck_s hm
  refine v_iastl dm_asks_103 sh_124 hi hm (fun h9 hm => ?_)
  refine v_ald_0 dm_asks_104 ?_
  refine v_getR dm_asks_105 fum_71 sh_104 rf_104_39 ?_
  refine v_bipush (x := 8) dm_asks_108 rfl ?_
  refine v_ald_0 dm_asks_110 ?_
  refine v_getR dm_asks_111 fum_7 sh_104 rf_104_1 ?_
  refine v_bipush (x := 103) dm_asks_114 rfl ?_
  refine v_ild_1 dm_asks_116 ?_
  refine v_iadd dm_asks_117 ?_
  obtain ⟨hi, hm⟩ := ck_s hm
  refine v_iald dm_asks_118 sh_105 hi ?_
  obtain ⟨hi, hm⟩ := ck_s hm
  refine v_iastl dm_asks_119 sh_124 hi hm (fun h10 hm => ?_)
  refine v_ald_0 dm_asks_120 ?_
  refine v_getR dm_asks_121 fum_71 sh_104 rf_104_39 ?_
  refine v_bipush (x := 9) dm_asks_124 rfl ?_
  refine v_ald_0 dm_asks_126 ?_
  refine v_getR dm_asks_127 fum_7 sh_104 rf_104_1 ?_
  refine v_iconst (x := 3) dm_asks_130 rfl ?_
  obtain ⟨hi, hm⟩ := ck_s hm
  refine v_iald dm_asks_131 sh_105 hi ?_
  obtain ⟨hi, hm⟩ := ck_s hm
  refine v_iastl dm_asks_132 sh_124 hi hm (fun h11 hm => ?_)
  refine v_ald_0 dm_asks_133 ?_
  refine v_getR dm_asks_134 fum_71 sh_104 rf_104_39 ?_
  refine v_bipush (x := 10) dm_asks_137 rfl ?_
  refine v_ald_0 dm_asks_139 ?_
  refine v_getR dm_asks_140 fum_7 sh_104 rf_104_1 ?_
  refine v_iconst (x := 4) dm_asks_143 rfl ?_
  obtain ⟨hi, hm⟩ := ck_s hm
  refine v_iald dm_asks_144 sh_105 hi ?_
  obtain ⟨hi, hm⟩ := ck_s hm
  refine v_iastl dm_asks_145 sh_124 hi hm (fun h12 hm => ?_)
  refine v_ald_0 dm_asks_146 ?_
  refine v_getR dm_asks_147 fum_71 sh_104 rf_104_39 ?_
  refine v_bipush (x := 11) dm_asks_150 rfl ?_
  refine v_ald_0 dm_asks_152 ?_
  refine v_getR dm_asks_153 fum_7 sh_104 rf_104_1 ?_
  refine v_iconst (x := 0) dm_asks_156 rfl ?_
  obtain ⟨hi, hm⟩ := ck_s hm
  refine v_iald dm_asks_157 sh_105 hi ?_
  obtain ⟨hi, hm⟩ := ck_s hm
  refine v_iastl dm_asks_158 sh_124 hi hm (fun h13 hm => ?_)
  cases hm
  exact v_ret dm_asks_159 rfl
def mm_lawTells (p1 : Int32) (p2 : Int32) (p3 : Int32) (h0 : PH) : Option (Int32 × PH) :=
  bd2 (mm_lineOf p1 h0) fun r1 h2 =>
  jn2 (fun (x4 : Int32) (h5 : PH) =>
    bd (mm_held x4 0 p3 h5) fun r6 =>
    some (r6, h5)) fun j3 =>
  if r1 = (-1) then
    j3 p2 h2
  else
    ck r1 48 <|
    ck r1 48 <|
    bd2 (mm_runs 0 (h2 115 (ix r1)) (h2 116 (ix r1)) h2) fun r7 h8 =>
    j3 r7 h8
theorem ctm_lawTells (G : GG) (d : Nat) (p1 : Int32) (p2 : Int32) (p3 : Int32) (h0 : PH) (r : Int32 × PH) (hm : mm_lawTells p1 p2 p3 h0 = some r) : Kx G tm_lawTells (d + 3) [.ref (gB G + 104), .int p1, .int p2, .int p3] h0 (some (.int r.1)) r.2 := by
  refine K_of_V (by decide) (by simp [cat_i, cat_r, fmtV_cat]) (by simp [tm_lawTells]) ?_
  change Vx G tm_lawTells (d + 3) 0 [some (.ref (gB G + 104)), some (.int p1), some (.int p2), some (.int p3), none] [] h0 (some (.int r.1)) r.2
  unfold mm_lawTells at hm
  refine v_ald_0 dm_lawTells_0 ?_
  refine v_ild_1 dm_lawTells_1 ?_
  obtain ⟨r1, h2, he, hm⟩ := bd2_s hm
  refine v_cv1i (M' := tm_lineOf) dm_lawTells_2 mlm_345 okm_lineOf sh_104 hc_12 (Nat.le_of_ble_eq_true rfl) (ctm_lineOf G d _ _ _ he) ?_
  refine v_ist_4 dm_lawTells_5 (by decide) rfl ?_
  refine v_ald_0 dm_lawTells_7 ?_
  refine v_ild_4 dm_lawTells_8 ?_
  refine v_iconst (x := (-1)) dm_lawTells_10 rfl ?_
  refine v_j2 (fun (x4 : Int32) (h5 : PH) => Vx G tm_lawTells (d + 3) 37 [none, none, none, some (.int p3), none] [.int x4, .ref (gB G + 104)] h5 (some (.int r.1)) r.2) hm (fun x4 h5 hm => ?_) (fun j3 kj3 hm => ?_)
  · refine v_iconst (x := 0) dm_lawTells_37 rfl ?_
    refine v_ild_3 dm_lawTells_38 ?_
    obtain ⟨r6, he, hm⟩ := bd_s hm
    refine v_cv3i (M' := tm_held) dm_lawTells_39 mlm_161 okm_held sh_104 hc_12 (Nat.le_of_ble_eq_true rfl) (ctm_held G (d + 2) _ _ _ _ _ he) ?_
    cases hm
    exact v_iret dm_lawTells_42 rfl
  · refine v_cmp_ne dm_lawTells_11 (fun hc => ?_) (fun hc => ?_)
    · replace hm := it hc hm
      refine v_ild_2 dm_lawTells_14 ?_
      refine v_goto dm_lawTells_15 ?_
      exact v_kw (kj3 _ _ hm) (wk_n (wk_n (wk_n (wk_s (wk_n wk_e)))))
    · replace hm := ie hc hm
      refine v_ald_0 dm_lawTells_18 ?_
      refine v_iconst (x := 0) dm_lawTells_19 rfl ?_
      refine v_ald_0 dm_lawTells_20 ?_
      refine v_getR dm_lawTells_21 fum_40 sh_104 rf_104_19 ?_
      refine v_ild_4 dm_lawTells_24 ?_
      obtain ⟨hi, hm⟩ := ck_s hm
      refine v_iald dm_lawTells_26 sh_115 hi ?_
      refine v_ald_0 dm_lawTells_27 ?_
      refine v_getR dm_lawTells_28 fum_43 sh_104 rf_104_20 ?_
      refine v_ild_4 dm_lawTells_31 ?_
      obtain ⟨hi, hm⟩ := ck_s hm
      refine v_iald dm_lawTells_33 sh_116 hi ?_
      obtain ⟨r7, h8, he, hm⟩ := bd2_s hm
      refine v_cv3i (M' := tm_runs) dm_lawTells_34 mlm_342 okm_runs sh_104 hc_12 (Nat.le_of_ble_eq_true rfl) (ctm_runs G (d + 1) _ _ _ _ _ he) ?_
      exact v_kw (kj3 _ _ hm) (wk_n (wk_n (wk_n (wk_s (wk_n wk_e)))))
def mm_rentOf (p1 : Int32) (h0 : PH) : Option (Int32 × PH) :=
  bd (mm_thickest p1 h0) fun r1 =>
  bd (mm_wallOf p1 r1 h0) fun r2 =>
  bd (mm_asks p1 r2 h0) fun h3 =>
  ck (79 + p1) 115 <|
  bd2 (mm_lawTells 0 (4 + (2 * (h3 105 (ix (79 + p1))))) 99 h3) fun r4 h5 =>
  some (r4, h5)
theorem ctm_rentOf (G : GG) (d : Nat) (p1 : Int32) (h0 : PH) (r : Int32 × PH) (hm : mm_rentOf p1 h0 = some r) : Kx G tm_rentOf (d + 4) [.ref (gB G + 104), .int p1] h0 (some (.int r.1)) r.2 := by
  refine K_of_V (by decide) (by simp [cat_i, cat_r, fmtV_cat]) (by simp [tm_rentOf]) ?_
  change Vx G tm_rentOf (d + 4) 0 [some (.ref (gB G + 104)), some (.int p1)] [] h0 (some (.int r.1)) r.2
  unfold mm_rentOf at hm
  refine v_ald_0 dm_rentOf_0 ?_
  refine v_ild_1 dm_rentOf_1 ?_
  refine v_ald_0 dm_rentOf_2 ?_
  refine v_ild_1 dm_rentOf_3 ?_
  refine v_ald_0 dm_rentOf_4 ?_
  refine v_ild_1 dm_rentOf_5 ?_
  obtain ⟨r1, he, hm⟩ := bd_s hm
  refine v_cv1i (M' := tm_thickest) dm_rentOf_6 mlm_348 okm_thickest sh_104 hc_12 (Nat.le_of_ble_eq_true rfl) (ctm_thickest G (d + 2) _ _ _ he) ?_
  obtain ⟨r2, he, hm⟩ := bd_s hm
  refine v_cv2i (M' := tm_wallOf) dm_rentOf_9 mlm_165 okm_wallOf sh_104 hc_12 (Nat.le_of_ble_eq_true rfl) (ctm_wallOf G (d + 3) _ _ _ _ he) ?_
  obtain ⟨h3, he, hm⟩ := bd_s hm
  refine v_cv2v (M' := tm_asks) dm_rentOf_12 mlm_351 okm_asks sh_104 hc_12 (Nat.le_of_ble_eq_true rfl) (ctm_asks G (d + 1) _ _ _ _ he) ?_
  refine v_ald_0 dm_rentOf_15 ?_
  refine v_iconst (x := 0) dm_rentOf_16 rfl ?_
  refine v_iconst (x := 4) dm_rentOf_17 rfl ?_
  refine v_iconst (x := 2) dm_rentOf_18 rfl ?_
  refine v_ald_0 dm_rentOf_19 ?_
  refine v_getR dm_rentOf_20 fum_7 sh_104 rf_104_1 ?_
  refine v_bipush (x := 79) dm_rentOf_23 rfl ?_
  refine v_ild_1 dm_rentOf_25 ?_
  refine v_iadd dm_rentOf_26 ?_
  obtain ⟨hi, hm⟩ := ck_s hm
  refine v_iald dm_rentOf_27 sh_105 hi ?_
  refine v_imul dm_rentOf_28 ?_
  refine v_iadd dm_rentOf_29 ?_
  refine v_bipush (x := 99) dm_rentOf_30 rfl ?_
  obtain ⟨r4, h5, he, hm⟩ := bd2_s hm
  refine v_cv3i (M' := tm_lawTells) dm_rentOf_32 mlm_354 okm_lawTells sh_104 hc_12 (Nat.le_of_ble_eq_true rfl) (ctm_lawTells G d _ _ _ _ _ he) ?_
  cases hm
  exact v_iret dm_rentOf_35 rfl
def mm_gnawsOf (p1 : Int32) (p2 : Int32) (h0 : PH) : Option (Int32 × PH) :=
  bd (mm_wallOf p1 p2 h0) fun r1 =>
  bd (mm_asks p1 r1 h0) fun h2 =>
  ck (55 + p1) 115 <|
  bd2 (mm_lawTells 1 (300 - (30 * (h2 105 (ix (55 + p1))))) 1000 h2) fun r3 h4 =>
  some (r3, h4)
theorem ctm_gnawsOf (G : GG) (d : Nat) (p1 : Int32) (p2 : Int32) (h0 : PH) (r : Int32 × PH) (hm : mm_gnawsOf p1 p2 h0 = some r) : Kx G tm_gnawsOf (d + 4) [.ref (gB G + 104), .int p1, .int p2] h0 (some (.int r.1)) r.2 := by
  refine K_of_V (by decide) (by simp [cat_i, cat_r, fmtV_cat]) (by simp [tm_gnawsOf]) ?_
  change Vx G tm_gnawsOf (d + 4) 0 [some (.ref (gB G + 104)), some (.int p1), some (.int p2)] [] h0 (some (.int r.1)) r.2
  unfold mm_gnawsOf at hm
  refine v_ald_0 dm_gnawsOf_0 ?_
  refine v_ild_1 dm_gnawsOf_1 ?_
  refine v_ald_0 dm_gnawsOf_2 ?_
  refine v_ild_1 dm_gnawsOf_3 ?_
  refine v_ild_2 dm_gnawsOf_4 ?_
  obtain ⟨r1, he, hm⟩ := bd_s hm
  refine v_cv2i (M' := tm_wallOf) dm_gnawsOf_5 mlm_165 okm_wallOf sh_104 hc_12 (Nat.le_of_ble_eq_true rfl) (ctm_wallOf G (d + 3) _ _ _ _ he) ?_
  obtain ⟨h2, he, hm⟩ := bd_s hm
  refine v_cv2v (M' := tm_asks) dm_gnawsOf_8 mlm_351 okm_asks sh_104 hc_12 (Nat.le_of_ble_eq_true rfl) (ctm_asks G (d + 1) _ _ _ _ he) ?_
  refine v_ald_0 dm_gnawsOf_11 ?_
  refine v_iconst (x := 1) dm_gnawsOf_12 rfl ?_
  refine v_sipush (x := 300) dm_gnawsOf_13 rfl ?_
  refine v_bipush (x := 30) dm_gnawsOf_16 rfl ?_
  refine v_ald_0 dm_gnawsOf_18 ?_
  refine v_getR dm_gnawsOf_19 fum_7 sh_104 rf_104_1 ?_
  refine v_bipush (x := 55) dm_gnawsOf_22 rfl ?_
  refine v_ild_1 dm_gnawsOf_24 ?_
  refine v_iadd dm_gnawsOf_25 ?_
  obtain ⟨hi, hm⟩ := ck_s hm
  refine v_iald dm_gnawsOf_26 sh_105 hi ?_
  refine v_imul dm_gnawsOf_27 ?_
  refine v_isub dm_gnawsOf_28 ?_
  refine v_sipush (x := 1000) dm_gnawsOf_29 rfl ?_
  obtain ⟨r3, h4, he, hm⟩ := bd2_s hm
  refine v_cv3i (M' := tm_lawTells) dm_gnawsOf_32 mlm_354 okm_lawTells sh_104 hc_12 (Nat.le_of_ble_eq_true rfl) (ctm_lawTells G d _ _ _ _ _ he) ?_
  cases hm
  exact v_iret dm_gnawsOf_35 rfl
def mm_meltsOf (p1 : Int32) (p2 : Int32) (h0 : PH) : Option (Int32 × PH) :=
  bd (mm_wallOf p1 p2 h0) fun r1 =>
  bd (mm_asks p1 r1 h0) fun h2 =>
  ck 3 115 <|
  ck (55 + p1) 115 <|
  bd2 (mm_lawTells 2 ((h2 105 (ix 3)) - (h2 105 (ix (55 + p1)))) 99 h2) fun r3 h4 =>
  some (r3, h4)
theorem ctm_meltsOf (G : GG) (d : Nat) (p1 : Int32) (p2 : Int32) (h0 : PH) (r : Int32 × PH) (hm : mm_meltsOf p1 p2 h0 = some r) : Kx G tm_meltsOf (d + 4) [.ref (gB G + 104), .int p1, .int p2] h0 (some (.int r.1)) r.2 := by
  refine K_of_V (by decide) (by simp [cat_i, cat_r, fmtV_cat]) (by simp [tm_meltsOf]) ?_
  change Vx G tm_meltsOf (d + 4) 0 [some (.ref (gB G + 104)), some (.int p1), some (.int p2)] [] h0 (some (.int r.1)) r.2
  unfold mm_meltsOf at hm
  refine v_ald_0 dm_meltsOf_0 ?_
  refine v_ild_1 dm_meltsOf_1 ?_
  refine v_ald_0 dm_meltsOf_2 ?_
  refine v_ild_1 dm_meltsOf_3 ?_
  refine v_ild_2 dm_meltsOf_4 ?_
  obtain ⟨r1, he, hm⟩ := bd_s hm
  refine v_cv2i (M' := tm_wallOf) dm_meltsOf_5 mlm_165 okm_wallOf sh_104 hc_12 (Nat.le_of_ble_eq_true rfl) (ctm_wallOf G (d + 3) _ _ _ _ he) ?_
  obtain ⟨h2, he, hm⟩ := bd_s hm
  refine v_cv2v (M' := tm_asks) dm_meltsOf_8 mlm_351 okm_asks sh_104 hc_12 (Nat.le_of_ble_eq_true rfl) (ctm_asks G (d + 1) _ _ _ _ he) ?_
  refine v_ald_0 dm_meltsOf_11 ?_
  refine v_iconst (x := 2) dm_meltsOf_12 rfl ?_
  refine v_ald_0 dm_meltsOf_13 ?_
  refine v_getR dm_meltsOf_14 fum_7 sh_104 rf_104_1 ?_
  refine v_iconst (x := 3) dm_meltsOf_17 rfl ?_
  obtain ⟨hi, hm⟩ := ck_s hm
  refine v_iald dm_meltsOf_18 sh_105 hi ?_
  refine v_ald_0 dm_meltsOf_19 ?_
  refine v_getR dm_meltsOf_20 fum_7 sh_104 rf_104_1 ?_
  refine v_bipush (x := 55) dm_meltsOf_23 rfl ?_
  refine v_ild_1 dm_meltsOf_25 ?_
  refine v_iadd dm_meltsOf_26 ?_
  obtain ⟨hi, hm⟩ := ck_s hm
  refine v_iald dm_meltsOf_27 sh_105 hi ?_
  refine v_isub dm_meltsOf_28 ?_
  refine v_bipush (x := 99) dm_meltsOf_29 rfl ?_
  obtain ⟨r3, h4, he, hm⟩ := bd2_s hm
  refine v_cv3i (M' := tm_lawTells) dm_meltsOf_31 mlm_354 okm_lawTells sh_104 hc_12 (Nat.le_of_ble_eq_true rfl) (ctm_lawTells G d _ _ _ _ _ he) ?_
  cases hm
  exact v_iret dm_meltsOf_34 rfl
def mm_notes (p1 : Int32) (p2 : Int32) (p3 : Int32) (h0 : PH) : Option (PH) :=
  if (h0 104 5) = 0 then
    ck 2 115 <|
    if (h0 105 (ix 2)) = 150 then
      some h0
    else
      ck 2 115 <|
      lt (4 * (h0 105 (ix 2))) fun x1 =>
      ck 0 115 <|
      ck x1 600 <|
      lt (up h0 110 (ix x1) (h0 105 (ix 0))) fun h2 =>
      ck (x1 + 1) 600 <|
      lt (up h2 110 (ix (x1 + 1)) p1) fun h3 =>
      ck (x1 + 2) 600 <|
      lt (up h3 110 (ix (x1 + 2)) p2) fun h4 =>
      ck (x1 + 3) 600 <|
      lt (up h4 110 (ix (x1 + 3)) p3) fun h5 =>
      ck 2 115 <|
      ck 2 115 <|
      lt (up h5 105 (ix 2) ((h5 105 (ix 2)) + 1)) fun h6 =>
      some h6
  else
    some h0
theorem ctm_notes (G : GG) (d : Nat) (p1 : Int32) (p2 : Int32) (p3 : Int32) (h0 : PH) (r : PH) (hm : mm_notes p1 p2 p3 h0 = some r) : Kx G tm_notes d [.ref (gB G + 104), .int p1, .int p2, .int p3] h0 none r := by
  refine K_of_V (by decide) (by simp [cat_i, cat_r, fmtV_cat]) (by simp [tm_notes]) ?_
  change Vx G tm_notes d 0 [some (.ref (gB G + 104)), some (.int p1), some (.int p2), some (.int p3), none] [] h0 none r
  unfold mm_notes at hm
  refine v_ald_0 dm_notes_0 ?_
  refine v_getI dm_notes_1 fum_152 sh_104 rf_104_5 ?_
  refine v_if_ne dm_notes_4 (fun hc => ?_) (fun hc => ?_)
  · replace hm := it hc hm
    refine v_ald_0 dm_notes_7 ?_
    refine v_getR dm_notes_8 fum_7 sh_104 rf_104_1 ?_
    refine v_iconst (x := 2) dm_notes_11 rfl ?_
    obtain ⟨hi, hm⟩ := ck_s hm
    refine v_iald dm_notes_12 sh_105 hi ?_
    refine v_sipush (x := 150) dm_notes_13 rfl ?_
    refine v_cmp_ne dm_notes_16 (fun hc => ?_) (fun hc => ?_)
    · replace hm := it hc hm
      cases hm
      exact v_ret dm_notes_19 rfl
    · replace hm := ie hc hm
      refine v_iconst (x := 4) dm_notes_20 rfl ?_
      refine v_ald_0 dm_notes_21 ?_
      refine v_getR dm_notes_22 fum_7 sh_104 rf_104_1 ?_
      refine v_iconst (x := 2) dm_notes_25 rfl ?_
      obtain ⟨hi, hm⟩ := ck_s hm
      refine v_iald dm_notes_26 sh_105 hi ?_
      refine v_imul dm_notes_27 ?_
      refine v_top hm (fun x1 hm => ?_)
      refine v_ist_4 dm_notes_28 (by decide) rfl ?_
      refine v_ald_0 dm_notes_30 ?_
      refine v_getR dm_notes_31 fum_25 sh_104 rf_104_9 ?_
      refine v_ild_4 dm_notes_34 ?_
      refine v_ald_0 dm_notes_36 ?_
      refine v_getR dm_notes_37 fum_7 sh_104 rf_104_1 ?_
      refine v_iconst (x := 0) dm_notes_40 rfl ?_
      obtain ⟨hi, hm⟩ := ck_s hm
      refine v_iald dm_notes_41 sh_105 hi ?_
      obtain ⟨hi, hm⟩ := ck_s hm
      refine v_iastl dm_notes_42 sh_110 hi hm (fun h2 hm => ?_)
      refine v_ald_0 dm_notes_43 ?_
      refine v_getR dm_notes_44 fum_25 sh_104 rf_104_9 ?_
      refine v_ild_4 dm_notes_47 ?_
      refine v_iconst (x := 1) dm_notes_49 rfl ?_
      refine v_iadd dm_notes_50 ?_
      refine v_ild_1 dm_notes_51 ?_
      obtain ⟨hi, hm⟩ := ck_s hm
      refine v_iastl dm_notes_52 sh_110 hi hm (fun h3 hm => ?_)
      refine v_ald_0 dm_notes_53 ?_
      refine v_getR dm_notes_54 fum_25 sh_104 rf_104_9 ?_
      refine v_ild_4 dm_notes_57 ?_
      refine v_iconst (x := 2) dm_notes_59 rfl ?_
      refine v_iadd dm_notes_60 ?_
      refine v_ild_2 dm_notes_61 ?_
      obtain ⟨hi, hm⟩ := ck_s hm
      refine v_iastl dm_notes_62 sh_110 hi hm (fun h4 hm => ?_)
      refine v_ald_0 dm_notes_63 ?_
      refine v_getR dm_notes_64 fum_25 sh_104 rf_104_9 ?_
      refine v_ild_4 dm_notes_67 ?_
      refine v_iconst (x := 3) dm_notes_69 rfl ?_
      refine v_iadd dm_notes_70 ?_
      refine v_ild_3 dm_notes_71 ?_
      obtain ⟨hi, hm⟩ := ck_s hm
      refine v_iastl dm_notes_72 sh_110 hi hm (fun h5 hm => ?_)
      refine v_ald_0 dm_notes_73 ?_
      refine v_getR dm_notes_74 fum_7 sh_104 rf_104_1 ?_
      refine v_iconst (x := 2) dm_notes_77 rfl ?_
      refine v_ald_0 dm_notes_78 ?_
      refine v_getR dm_notes_79 fum_7 sh_104 rf_104_1 ?_
      refine v_iconst (x := 2) dm_notes_82 rfl ?_
      obtain ⟨hi, hm⟩ := ck_s hm
      refine v_iald dm_notes_83 sh_105 hi ?_
      refine v_iconst (x := 1) dm_notes_84 rfl ?_
      refine v_iadd dm_notes_85 ?_
      obtain ⟨hi, hm⟩ := ck_s hm
      refine v_iastl dm_notes_86 sh_105 hi hm (fun h6 hm => ?_)
      cases hm
      exact v_ret dm_notes_87 rfl
  · replace hm := ie hc hm
    cases hm
    exact v_ret dm_notes_19 rfl
def mm_lodgersGo (p1 : Int32) (p2 : Int32) (h0 : PH) : Option (PH) :=
  bd (mm_notes 4 p1 p2 h0) fun h1 =>
  ck (79 + p1) 115 <|
  lt (h1 105 (ix (79 + p1))) fun x2 =>
  ck (79 + p1) 115 <|
  lt (up h1 105 (ix (79 + p1)) 0) fun h3 =>
  if p2 = (-1) then
    some h3
  else
    ck (79 + p2) 115 <|
    ck (79 + p2) 115 <|
    lt (up h3 105 (ix (79 + p2)) ((h3 105 (ix (79 + p2))) + x2)) fun h4 =>
    some h4
theorem ctm_lodgersGo (G : GG) (d : Nat) (p1 : Int32) (p2 : Int32) (h0 : PH) (r : PH) (hm : mm_lodgersGo p1 p2 h0 = some r) : Kx G tm_lodgersGo (d + 1) [.ref (gB G + 104), .int p1, .int p2] h0 none r := by
  refine K_of_V (by decide) (by simp [cat_i, cat_r, fmtV_cat]) (by simp [tm_lodgersGo]) ?_
  change Vx G tm_lodgersGo (d + 1) 0 [some (.ref (gB G + 104)), some (.int p1), some (.int p2), none] [] h0 none r
  unfold mm_lodgersGo at hm
  refine v_ald_0 dm_lodgersGo_0 ?_
  refine v_iconst (x := 4) dm_lodgersGo_1 rfl ?_
  refine v_ild_1 dm_lodgersGo_2 ?_
  refine v_ild_2 dm_lodgersGo_3 ?_
  obtain ⟨h1, he, hm⟩ := bd_s hm
  refine v_cv3v (M' := tm_notes) dm_lodgersGo_4 mlm_357 okm_notes sh_104 hc_12 (Nat.le_of_ble_eq_true rfl) (ctm_notes G d _ _ _ _ _ he) ?_
  refine v_ald_0 dm_lodgersGo_7 ?_
  refine v_getR dm_lodgersGo_8 fum_7 sh_104 rf_104_1 ?_
  refine v_bipush (x := 79) dm_lodgersGo_11 rfl ?_
  refine v_ild_1 dm_lodgersGo_13 ?_
  refine v_iadd dm_lodgersGo_14 ?_
  obtain ⟨hi, hm⟩ := ck_s hm
  refine v_iald dm_lodgersGo_15 sh_105 hi ?_
  refine v_top hm (fun x2 hm => ?_)
  refine v_ist_3 dm_lodgersGo_16 (by decide) rfl ?_
  refine v_ald_0 dm_lodgersGo_17 ?_
  refine v_getR dm_lodgersGo_18 fum_7 sh_104 rf_104_1 ?_
  refine v_bipush (x := 79) dm_lodgersGo_21 rfl ?_
  refine v_ild_1 dm_lodgersGo_23 ?_
  refine v_iadd dm_lodgersGo_24 ?_
  refine v_iconst (x := 0) dm_lodgersGo_25 rfl ?_
  obtain ⟨hi, hm⟩ := ck_s hm
  refine v_iastl dm_lodgersGo_26 sh_105 hi hm (fun h3 hm => ?_)
  refine v_ild_2 dm_lodgersGo_27 ?_
  refine v_iconst (x := (-1)) dm_lodgersGo_28 rfl ?_
  refine v_cmp_eq dm_lodgersGo_29 (fun hc => ?_) (fun hc => ?_)
  · replace hm := it hc hm
    cases hm
    exact v_ret dm_lodgersGo_52 rfl
  · replace hm := ie hc hm
    refine v_ald_0 dm_lodgersGo_32 ?_
    refine v_getR dm_lodgersGo_33 fum_7 sh_104 rf_104_1 ?_
    refine v_bipush (x := 79) dm_lodgersGo_36 rfl ?_
    refine v_ild_2 dm_lodgersGo_38 ?_
    refine v_iadd dm_lodgersGo_39 ?_
    refine v_ald_0 dm_lodgersGo_40 ?_
    refine v_getR dm_lodgersGo_41 fum_7 sh_104 rf_104_1 ?_
    refine v_bipush (x := 79) dm_lodgersGo_44 rfl ?_
    refine v_ild_2 dm_lodgersGo_46 ?_
    refine v_iadd dm_lodgersGo_47 ?_
    obtain ⟨hi, hm⟩ := ck_s hm
    refine v_iald dm_lodgersGo_48 sh_105 hi ?_
    refine v_ild_3 dm_lodgersGo_49 ?_
    refine v_iadd dm_lodgersGo_50 ?_
    obtain ⟨hi, hm⟩ := ck_s hm
    refine v_iastl dm_lodgersGo_51 sh_105 hi hm (fun h4 hm => ?_)
    cases hm
    exact v_ret dm_lodgersGo_52 rfl
def mm_areOut_L30 (p1 : Int32) (h0 : PH) (k0 : Int32 → Option (PH)) : Nat → Int32 → Int32 → Option (PH)
  | 0, _, _ => none
  | n + 1, v2, v3 =>
    if v3 < 0 then
      k0 v2
    else
      ck p1 24 <|
      bd (mm_has (h0 123 (ix p1)) v3 h0) fun r3 =>
      if r3 = 0 then
        mm_areOut_L30 p1 h0 k0 n v2 (v3 + (-1))
      else
        bd (mm_doesStand v3 h0) fun r4 =>
        if r4 = 0 then
          mm_areOut_L30 p1 h0 k0 n v2 (v3 + (-1))
        else
          mm_areOut_L30 p1 h0 k0 n v3 (v3 + (-1))
def mm_areOut (p1 : Int32) (h0 : PH) : Option (PH) :=
  bd (mm_doesStand p1 h0) fun r1 =>
  if r1 = 0 then
    ck (79 + p1) 115 <|
    if (h0 105 (ix (79 + p1))) = 0 then
      some h0
    else
      lt ((h0 104 6) - 1) fun x2 =>
      mm_areOut_L30 p1 h0 (fun (x5 : Int32) =>
        bd (mm_lodgersGo p1 x5 h0) fun h6 =>
        some h6) FU (-1) x2
  else
    some h0
theorem wm_areOut_L30 (G : GG) (d : Nat) (p1 : Int32) (h0 : PH) (k0 : Int32 → Option (PH)) (r : PH) (kk0 : ∀ (y2 : Int32), k0 y2 = some r → Vx G tm_areOut (d + 3) 64 [some (.ref (gB G + 104)), some (.int p1), some (.int y2), none] [] h0 none r) : ∀ (n : Nat) (v2 : Int32) (v3 : Int32), mm_areOut_L30 p1 h0 k0 n v2 v3 = some r → Vx G tm_areOut (d + 3) 30 [some (.ref (gB G + 104)), some (.int p1), some (.int v2), some (.int v3)] [] h0 none r := by
  intro n
  induction n with
  | zero => intro v2 v3 hm; cases hm
  | succ n ih =>
    intro v2 v3 hm
    unfold mm_areOut_L30 at hm
    refine v_ild_3 dm_areOut_30 ?_
    refine v_if_lt dm_areOut_31 (fun hc => ?_) (fun hc => ?_)
    · replace hm := it hc hm
      exact v_kw (kk0 _ hm) (wk_s (wk_s (wk_s (wk_n wk_e))))
    · replace hm := ie hc hm
      refine v_ald_0 dm_areOut_34 ?_
      refine v_ald_0 dm_areOut_35 ?_
      refine v_getR dm_areOut_36 fum_68 sh_104 rf_104_38 ?_
      refine v_ild_1 dm_areOut_39 ?_
      obtain ⟨hi, hm⟩ := ck_s hm
      refine v_iald dm_areOut_40 sh_123 hi ?_
      refine v_ild_3 dm_areOut_41 ?_
      obtain ⟨r3, he, hm⟩ := bd_s hm
      refine v_cv2i (M' := tm_has) dm_areOut_42 mlm_360 okm_has sh_104 hc_12 (Nat.le_of_ble_eq_true rfl) (ctm_has G (d + 2) _ _ _ _ he) ?_
      refine v_if_eq dm_areOut_45 (fun hc => ?_) (fun hc => ?_)
      · replace hm := it hc hm
        refine v_inc_3 (-1) dm_areOut_58 rfl (by decide) rfl ?_
        refine v_goto dm_areOut_61 ?_
        exact v_kw (ih _ _ hm) (wk_s (wk_s (wk_s (wk_s wk_e))))
      · replace hm := ie hc hm
        refine v_ald_0 dm_areOut_48 ?_
        refine v_ild_3 dm_areOut_49 ?_
        obtain ⟨r4, he, hm⟩ := bd_s hm
        refine v_cv1i (M' := tm_doesStand) dm_areOut_50 mlm_173 okm_doesStand sh_104 hc_12 (Nat.le_of_ble_eq_true rfl) (ctm_doesStand G d _ _ _ he) ?_
        refine v_if_eq dm_areOut_53 (fun hc => ?_) (fun hc => ?_)
        · replace hm := it hc hm
          refine v_inc_3 (-1) dm_areOut_58 rfl (by decide) rfl ?_
          refine v_goto dm_areOut_61 ?_
          exact v_kw (ih _ _ hm) (wk_s (wk_s (wk_s (wk_s wk_e))))
        · replace hm := ie hc hm
          refine v_ild_3 dm_areOut_56 ?_
          refine v_ist_2 dm_areOut_57 (by decide) rfl ?_
          refine v_inc_3 (-1) dm_areOut_58 rfl (by decide) rfl ?_
          refine v_goto dm_areOut_61 ?_
          exact v_kw (ih _ _ hm) (wk_s (wk_s (wk_s (wk_s wk_e))))
theorem ctm_areOut (G : GG) (d : Nat) (p1 : Int32) (h0 : PH) (r : PH) (hm : mm_areOut p1 h0 = some r) : Kx G tm_areOut (d + 3) [.ref (gB G + 104), .int p1] h0 none r := by
  refine K_of_V (by decide) (by simp [cat_i, cat_r, fmtV_cat]) (by simp [tm_areOut]) ?_
  change Vx G tm_areOut (d + 3) 0 [some (.ref (gB G + 104)), some (.int p1), none, none] [] h0 none r
  unfold mm_areOut at hm
  refine v_ald_0 dm_areOut_0 ?_
  refine v_ild_1 dm_areOut_1 ?_
  obtain ⟨r1, he, hm⟩ := bd_s hm
  refine v_cv1i (M' := tm_doesStand) dm_areOut_2 mlm_173 okm_doesStand sh_104 hc_12 (Nat.le_of_ble_eq_true rfl) (ctm_doesStand G d _ _ _ he) ?_
  refine v_if_ne dm_areOut_5 (fun hc => ?_) (fun hc => ?_)
  · replace hm := it hc hm
    refine v_ald_0 dm_areOut_8 ?_
    refine v_getR dm_areOut_9 fum_7 sh_104 rf_104_1 ?_
    refine v_bipush (x := 79) dm_areOut_12 rfl ?_
    refine v_ild_1 dm_areOut_14 ?_
    refine v_iadd dm_areOut_15 ?_
    obtain ⟨hi, hm⟩ := ck_s hm
    refine v_iald dm_areOut_16 sh_105 hi ?_
    refine v_if_ne dm_areOut_17 (fun hc => ?_) (fun hc => ?_)
    · replace hm := it hc hm
      cases hm
      exact v_ret dm_areOut_20 rfl
    · replace hm := ie hc hm
      refine v_iconst (x := (-1)) dm_areOut_21 rfl ?_
      refine v_ist_2 dm_areOut_22 (by decide) rfl ?_
      refine v_ald_0 dm_areOut_23 ?_
      refine v_getI dm_areOut_24 fum_158 sh_104 rf_104_6 ?_
      refine v_iconst (x := 1) dm_areOut_27 rfl ?_
      refine v_isub dm_areOut_28 ?_
      refine v_top hm (fun x2 hm => ?_)
      refine v_ist_3 dm_areOut_29 (by decide) rfl ?_
      refine v_kw (wm_areOut_L30 G d _ _ _ _ (fun x5 hm => ?_) FU _ _ hm) (wk_s (wk_s (wk_s (wk_s wk_e))))
      refine v_ald_0 dm_areOut_64 ?_
      refine v_ild_1 dm_areOut_65 ?_
      refine v_ild_2 dm_areOut_66 ?_
      obtain ⟨h6, he, hm⟩ := bd_s hm
      refine v_cv2v (M' := tm_lodgersGo) dm_areOut_67 mlm_364 okm_lodgersGo sh_104 hc_12 (Nat.le_of_ble_eq_true rfl) (ctm_lodgersGo G (d + 1) _ _ _ _ he) ?_
      cases hm
      exact v_ret dm_areOut_70 rfl
  · replace hm := ie hc hm
    cases hm
    exact v_ret dm_areOut_20 rfl
def mm_isWed (p1 : Int32) (h0 : PH) : Option (PH) :=
  bd (mm_thickest p1 h0) fun r1 =>
  ck (91 + p1) 115 <|
  lt (up h0 105 (ix (91 + p1)) 1) fun h2 =>
  bd (mm_wallOf p1 r1 h2) fun r3 =>
  bd (mm_hasWall p1 r1 (r3 - 10) h2) fun h4 =>
  ck (79 + p1) 115 <|
  ck (79 + p1) 115 <|
  lt (up h4 105 (ix (79 + p1)) ((h4 105 (ix (79 + p1))) + 1)) fun h5 =>
  ck (79 + p1) 115 <|
  bd (mm_notes 5 p1 (h5 105 (ix (79 + p1))) h5) fun h6 =>
  bd (mm_areOut p1 h6) fun h7 =>
  some h7
theorem ctm_isWed (G : GG) (d : Nat) (p1 : Int32) (h0 : PH) (r : PH) (hm : mm_isWed p1 h0 = some r) : Kx G tm_isWed (d + 4) [.ref (gB G + 104), .int p1] h0 none r := by
  refine K_of_V (by decide) (by simp [cat_i, cat_r, fmtV_cat]) (by simp [tm_isWed]) ?_
  change Vx G tm_isWed (d + 4) 0 [some (.ref (gB G + 104)), some (.int p1), none] [] h0 none r
  unfold mm_isWed at hm
  refine v_ald_0 dm_isWed_0 ?_
  refine v_ild_1 dm_isWed_1 ?_
  obtain ⟨r1, he, hm⟩ := bd_s hm
  refine v_cv1i (M' := tm_thickest) dm_isWed_2 mlm_348 okm_thickest sh_104 hc_12 (Nat.le_of_ble_eq_true rfl) (ctm_thickest G (d + 2) _ _ _ he) ?_
  refine v_ist_2 dm_isWed_5 (by decide) rfl ?_
  refine v_ald_0 dm_isWed_6 ?_
  refine v_getR dm_isWed_7 fum_7 sh_104 rf_104_1 ?_
  refine v_bipush (x := 91) dm_isWed_10 rfl ?_
  refine v_ild_1 dm_isWed_12 ?_
  refine v_iadd dm_isWed_13 ?_
  refine v_iconst (x := 1) dm_isWed_14 rfl ?_
  obtain ⟨hi, hm⟩ := ck_s hm
  refine v_iastl dm_isWed_15 sh_105 hi hm (fun h2 hm => ?_)
  refine v_ald_0 dm_isWed_16 ?_
  refine v_ild_1 dm_isWed_17 ?_
  refine v_ild_2 dm_isWed_18 ?_
  refine v_ald_0 dm_isWed_19 ?_
  refine v_ild_1 dm_isWed_20 ?_
  refine v_ild_2 dm_isWed_21 ?_
  obtain ⟨r3, he, hm⟩ := bd_s hm
  refine v_cv2i (M' := tm_wallOf) dm_isWed_22 mlm_165 okm_wallOf sh_104 hc_12 (Nat.le_of_ble_eq_true rfl) (ctm_wallOf G (d + 3) _ _ _ _ he) ?_
  refine v_bipush (x := 10) dm_isWed_25 rfl ?_
  refine v_isub dm_isWed_27 ?_
  obtain ⟨h4, he, hm⟩ := bd_s hm
  refine v_cv3v (M' := tm_hasWall) dm_isWed_28 mlm_187 okm_hasWall sh_104 hc_12 (Nat.le_of_ble_eq_true rfl) (ctm_hasWall G (d + 2) _ _ _ _ _ he) ?_
  refine v_ald_0 dm_isWed_31 ?_
  refine v_getR dm_isWed_32 fum_7 sh_104 rf_104_1 ?_
  refine v_bipush (x := 79) dm_isWed_35 rfl ?_
  refine v_ild_1 dm_isWed_37 ?_
  refine v_iadd dm_isWed_38 ?_
  refine v_ald_0 dm_isWed_39 ?_
  refine v_getR dm_isWed_40 fum_7 sh_104 rf_104_1 ?_
  refine v_bipush (x := 79) dm_isWed_43 rfl ?_
  refine v_ild_1 dm_isWed_45 ?_
  refine v_iadd dm_isWed_46 ?_
  obtain ⟨hi, hm⟩ := ck_s hm
  refine v_iald dm_isWed_47 sh_105 hi ?_
  refine v_iconst (x := 1) dm_isWed_48 rfl ?_
  refine v_iadd dm_isWed_49 ?_
  obtain ⟨hi, hm⟩ := ck_s hm
  refine v_iastl dm_isWed_50 sh_105 hi hm (fun h5 hm => ?_)
  refine v_ald_0 dm_isWed_51 ?_
  refine v_iconst (x := 5) dm_isWed_52 rfl ?_
  refine v_ild_1 dm_isWed_53 ?_
  refine v_ald_0 dm_isWed_54 ?_
  refine v_getR dm_isWed_55 fum_7 sh_104 rf_104_1 ?_
  refine v_bipush (x := 79) dm_isWed_58 rfl ?_
  refine v_ild_1 dm_isWed_60 ?_
  refine v_iadd dm_isWed_61 ?_
  obtain ⟨hi, hm⟩ := ck_s hm
  refine v_iald dm_isWed_62 sh_105 hi ?_
  obtain ⟨h6, he, hm⟩ := bd_s hm
  refine v_cv3v (M' := tm_notes) dm_isWed_63 mlm_357 okm_notes sh_104 hc_12 (Nat.le_of_ble_eq_true rfl) (ctm_notes G (d + 3) _ _ _ _ _ he) ?_
  refine v_ald_0 dm_isWed_66 ?_
  refine v_ild_1 dm_isWed_67 ?_
  obtain ⟨h7, he, hm⟩ := bd_s hm
  refine v_cv1v (M' := tm_areOut) dm_isWed_68 mlm_367 okm_areOut sh_104 hc_12 (Nat.le_of_ble_eq_true rfl) (ctm_areOut G d _ _ _ he) ?_
  cases hm
  exact v_ret dm_isWed_71 rfl
def mm_canWed (p1 : Int32) (h0 : PH) : Option (Int32) :=
  bd (mm_doesStand p1 h0) fun r1 =>
  if r1 = 0 then
    some 0
  else
    ck (91 + p1) 115 <|
    if (h0 105 (ix (91 + p1))) = 0 then
      ck (79 + p1) 115 <|
      if (h0 105 (ix (79 + p1))) ≤ 0 then
        some 0
      else
        some 1
    else
      some 0
theorem ctm_canWed (G : GG) (d : Nat) (p1 : Int32) (h0 : PH) (r : Int32) (hm : mm_canWed p1 h0 = some r) : Kx G tm_canWed (d + 3) [.ref (gB G + 104), .int p1] h0 (some (.int r)) h0 := by
  refine K_of_V (by decide) (by simp [cat_i, cat_r, fmtV_cat]) (by simp [tm_canWed]) ?_
  change Vx G tm_canWed (d + 3) 0 [some (.ref (gB G + 104)), some (.int p1)] [] h0 (some (.int r)) h0
  unfold mm_canWed at hm
  refine v_ald_0 dm_canWed_0 ?_
  refine v_ild_1 dm_canWed_1 ?_
  obtain ⟨r1, he, hm⟩ := bd_s hm
  refine v_cv1i (M' := tm_doesStand) dm_canWed_2 mlm_173 okm_doesStand sh_104 hc_12 (Nat.le_of_ble_eq_true rfl) (ctm_doesStand G d _ _ _ he) ?_
  refine v_if_eq dm_canWed_5 (fun hc => ?_) (fun hc => ?_)
  · replace hm := it hc hm
    refine v_iconst (x := 0) dm_canWed_36 rfl ?_
    cases hm
    exact v_zret0 dm_canWed_37 rfl
  · replace hm := ie hc hm
    refine v_ald_0 dm_canWed_8 ?_
    refine v_getR dm_canWed_9 fum_7 sh_104 rf_104_1 ?_
    refine v_bipush (x := 91) dm_canWed_12 rfl ?_
    refine v_ild_1 dm_canWed_14 ?_
    refine v_iadd dm_canWed_15 ?_
    obtain ⟨hi, hm⟩ := ck_s hm
    refine v_iald dm_canWed_16 sh_105 hi ?_
    refine v_if_ne dm_canWed_17 (fun hc => ?_) (fun hc => ?_)
    · replace hm := it hc hm
      refine v_ald_0 dm_canWed_20 ?_
      refine v_getR dm_canWed_21 fum_7 sh_104 rf_104_1 ?_
      refine v_bipush (x := 79) dm_canWed_24 rfl ?_
      refine v_ild_1 dm_canWed_26 ?_
      refine v_iadd dm_canWed_27 ?_
      obtain ⟨hi, hm⟩ := ck_s hm
      refine v_iald dm_canWed_28 sh_105 hi ?_
      refine v_if_le dm_canWed_29 (fun hc => ?_) (fun hc => ?_)
      · replace hm := it hc hm
        refine v_iconst (x := 0) dm_canWed_36 rfl ?_
        cases hm
        exact v_zret0 dm_canWed_37 rfl
      · replace hm := ie hc hm
        refine v_iconst (x := 1) dm_canWed_32 rfl ?_
        refine v_goto dm_canWed_33 ?_
        cases hm
        exact v_zret1 dm_canWed_37 rfl
    · replace hm := ie hc hm
      refine v_iconst (x := 0) dm_canWed_36 rfl ?_
      cases hm
      exact v_zret0 dm_canWed_37 rfl
