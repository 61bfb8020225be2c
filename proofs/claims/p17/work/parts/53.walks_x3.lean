def mD_expression (h0 : PH) : Option (Int32 × PH) :=
  bd2 (mD_unit h0) fun r1 h2 =>
  if r1 = 0 then
    some (0, h2)
  else
    mD_expression_L13 (fun (x25 : Int32) (h26 : PH) =>
      if x25 = (-1) then
        some (1, h26)
      else
        bd2 (mD_emit x25 0 h26) fun r27 h28 =>
        if r27 = 0 then
          some (0, h28)
        else
          some (1, h28)) FU (-1) 0 h2
theorem wD_expression_L13 (G : GG) (d : Nat) (k0 : Int32 → PH → Option (Int32 × PH)) (r : Int32 × PH) (kk0 : ∀ (y1 : Int32) (hy : PH), k0 y1 hy = some r → Vx G tD_expression (d + 2) 155 [some (.ref (gB G + 90)), some (.int y1), none, none] [] hy (some (.int r.1)) r.2) : ∀ (n : Nat) (v1 : Int32) (v2 : Int32) (hv : PH), mD_expression_L13 k0 n v1 v2 hv = some r → Vx G tD_expression (d + 2) 13 [some (.ref (gB G + 90)), some (.int v1), some (.int v2), none] [] hv (some (.int r.1)) r.2 := by
  intro n
  induction n with
  | zero => intro v1 v2 hv hm; cases hm
  | succ n ih =>
    intro v1 v2 hv hm
    unfold mD_expression_L13 at hm
    refine v_ild_2 dD_expression_13 ?_
    refine v_sipush (x := 400) dD_expression_14 rfl ?_
    refine v_cmp_ge dD_expression_17 (fun hc => ?_) (fun hc => ?_)
    · replace hm := it hc hm
      exact v_kw (kk0 _ _ hm) (wk_s (wk_s (wk_n (wk_n wk_e))))
    · replace hm := ie hc hm
      refine v_ald_0 dD_expression_20 ?_
      refine v_bipush (x := 43) dD_expression_21 rfl ?_
      obtain ⟨r3, he, hm⟩ := bd_s hm
      refine v_cv1i (M' := tD_isSign) dD_expression_23 mlD_119 okD_isSign sh_90 hc_5 (Nat.le_of_ble_eq_true rfl) (ctD_isSign G (d + 1) _ _ _ he) ?_
      refine v_j0 (Vx G tD_expression (d + 2) 56 [some (.ref (gB G + 90)), some (.int v1), some (.int v2), none] [] hv (some (.int r.1)) r.2) hm (fun hm => ?_) (fun j4 kj4 hm => ?_)
      · refine v_ald_0 dD_expression_56 ?_
        refine v_getI dD_expression_57 fuD_60 sh_90 rf_90_7 ?_
        refine v_top hm (fun x5 hm => ?_)
        refine v_ist_3 dD_expression_60 (by decide) rfl ?_
        refine v_ald_0 dD_expression_61 ?_
        obtain ⟨h6, he, hm⟩ := bd_s hm
        refine v_cv0v (M' := tD_advance) dD_expression_62 mlD_54 okD_advance sh_90 hc_5 (Nat.le_of_ble_eq_true rfl) (ctD_advance G (d + 1) _ _ he) ?_
        refine v_ild_3 dD_expression_65 ?_
        refine v_bipush (x := 47) dD_expression_66 rfl ?_
        refine v_cmp_ne dD_expression_68 (fun hc => ?_) (fun hc => ?_)
        · replace hm := it hc hm
          refine v_ald_0 dD_expression_71 ?_
          refine v_iconst (x := 1) dD_expression_72 rfl ?_
          refine v_sipush (x := 9999) dD_expression_73 rfl ?_
          obtain ⟨r7, h8, he, hm⟩ := bd2_s hm
          refine v_cv2i (M' := tD_takesNumber) dD_expression_76 mlD_105 okD_takesNumber sh_90 hc_5 (Nat.le_of_ble_eq_true rfl) (ctD_takesNumber G d _ _ _ _ he) ?_
          refine v_if_ne dD_expression_79 (fun hc => ?_) (fun hc => ?_)
          · replace hm := it hc hm
            refine v_iconst (x := 0) dD_expression_82 rfl ?_
            cases hm
            exact v_zret0 dD_expression_83 rfl
          · replace hm := ie hc hm
            refine v_ald_0 dD_expression_84 ?_
            refine v_iconst (x := 5) dD_expression_85 rfl ?_
            refine v_ald_0 dD_expression_86 ?_
            refine v_getI dD_expression_87 fuD_109 sh_90 rf_90_9 ?_
            obtain ⟨r9, h10, he, hm⟩ := bd2_s hm
            refine v_cv2i (M' := tD_emit) dD_expression_90 mlD_124 okD_emit sh_90 hc_5 (Nat.le_of_ble_eq_true rfl) (ctD_emit G d _ _ _ _ he) ?_
            refine v_pop dD_expression_93 rfl ?_
            refine v_goto dD_expression_94 ?_
            refine v_inc_2 1 dD_expression_149 rfl (by decide) rfl ?_
            refine v_goto dD_expression_152 ?_
            exact v_kw (ih _ _ _ hm) (wk_s (wk_s (wk_s (wk_n wk_e))))
        · replace hm := ie hc hm
          refine v_ild_3 dD_expression_97 ?_
          refine v_bipush (x := 42) dD_expression_98 rfl ?_
          refine v_j2 (fun (x12 : Int32) (h13 : PH) => Vx G tD_expression (d + 2) 127 [some (.ref (gB G + 90)), some (.int x12), some (.int v2), some (.int x5)] [] h13 (some (.int r.1)) r.2) hm (fun x12 h13 hm => ?_) (fun j11 kj11 hm => ?_)
          · refine v_ald_0 dD_expression_127 ?_
            obtain ⟨r14, h15, he, hm⟩ := bd2_s hm
            refine v_cv0i (M' := tD_unit) dD_expression_128 mlD_116 okD_unit sh_90 hc_5 (Nat.le_of_ble_eq_true rfl) (ctD_unit G d _ _ he) ?_
            refine v_if_ne dD_expression_131 (fun hc => ?_) (fun hc => ?_)
            · replace hm := it hc hm
              refine v_iconst (x := 0) dD_expression_134 rfl ?_
              cases hm
              exact v_zret0 dD_expression_135 rfl
            · replace hm := ie hc hm
              refine v_ild_3 dD_expression_136 ?_
              refine v_bipush (x := 42) dD_expression_137 rfl ?_
              refine v_cmp_ne dD_expression_139 (fun hc => ?_) (fun hc => ?_)
              · replace hm := it hc hm
                refine v_ald_0 dD_expression_142 ?_
                refine v_iconst (x := 4) dD_expression_143 rfl ?_
                refine v_iconst (x := 0) dD_expression_144 rfl ?_
                obtain ⟨r16, h17, he, hm⟩ := bd2_s hm
                refine v_cv2i (M' := tD_emit) dD_expression_145 mlD_124 okD_emit sh_90 hc_5 (Nat.le_of_ble_eq_true rfl) (ctD_emit G d _ _ _ _ he) ?_
                refine v_pop dD_expression_148 rfl ?_
                refine v_inc_2 1 dD_expression_149 rfl (by decide) rfl ?_
                refine v_goto dD_expression_152 ?_
                exact v_kw (ih _ _ _ hm) (wk_s (wk_s (wk_s (wk_n wk_e))))
              · replace hm := ie hc hm
                refine v_inc_2 1 dD_expression_149 rfl (by decide) rfl ?_
                refine v_goto dD_expression_152 ?_
                exact v_kw (ih _ _ _ hm) (wk_s (wk_s (wk_s (wk_n wk_e))))
          · refine v_cmp_eq dD_expression_100 (fun hc => ?_) (fun hc => ?_)
            · replace hm := it hc hm
              exact v_kw (kj11 _ _ hm) (wk_s (wk_s (wk_s (wk_s wk_e))))
            · replace hm := ie hc hm
              refine v_ild_1 dD_expression_103 ?_
              refine v_iconst (x := (-1)) dD_expression_104 rfl ?_
              refine v_j1 (fun (h19 : PH) => Vx G tD_expression (d + 2) 115 [some (.ref (gB G + 90)), none, some (.int v2), some (.int x5)] [] h19 (some (.int r.1)) r.2) hm (fun h19 hm => ?_) (fun j18 kj18 hm => ?_)
              · refine v_ild_3 dD_expression_115 ?_
                refine v_bipush (x := 43) dD_expression_116 rfl ?_
                refine v_cmp_ne dD_expression_118 (fun hc => ?_) (fun hc => ?_)
                · replace hm := it hc hm
                  refine v_iconst (x := 2) dD_expression_121 rfl ?_
                  refine v_goto dD_expression_122 ?_
                  refine v_ist_1 dD_expression_126 (by decide) rfl ?_
                  exact v_kw (kj11 _ _ hm) (wk_s (wk_s (wk_s (wk_s wk_e))))
                · replace hm := ie hc hm
                  refine v_iconst (x := 3) dD_expression_125 rfl ?_
                  refine v_ist_1 dD_expression_126 (by decide) rfl ?_
                  exact v_kw (kj11 _ _ hm) (wk_s (wk_s (wk_s (wk_s wk_e))))
              · refine v_cmp_eq dD_expression_105 (fun hc => ?_) (fun hc => ?_)
                · replace hm := it hc hm
                  exact v_kw (kj18 _ hm) (wk_s (wk_n (wk_s (wk_s wk_e))))
                · replace hm := ie hc hm
                  refine v_ald_0 dD_expression_108 ?_
                  refine v_ild_1 dD_expression_109 ?_
                  refine v_iconst (x := 0) dD_expression_110 rfl ?_
                  obtain ⟨r20, h21, he, hm⟩ := bd2_s hm
                  refine v_cv2i (M' := tD_emit) dD_expression_111 mlD_124 okD_emit sh_90 hc_5 (Nat.le_of_ble_eq_true rfl) (ctD_emit G d _ _ _ _ he) ?_
                  refine v_pop dD_expression_114 rfl ?_
                  exact v_kw (kj18 _ hm) (wk_s (wk_n (wk_s (wk_s wk_e))))
      · refine v_if_ne dD_expression_26 (fun hc => ?_) (fun hc => ?_)
        · replace hm := it hc hm
          refine v_ald_0 dD_expression_29 ?_
          refine v_bipush (x := 45) dD_expression_30 rfl ?_
          obtain ⟨r22, he, hm⟩ := bd_s hm
          refine v_cv1i (M' := tD_isSign) dD_expression_32 mlD_119 okD_isSign sh_90 hc_5 (Nat.le_of_ble_eq_true rfl) (ctD_isSign G (d + 1) _ _ _ he) ?_
          refine v_if_ne dD_expression_35 (fun hc => ?_) (fun hc => ?_)
          · replace hm := it hc hm
            refine v_ald_0 dD_expression_38 ?_
            refine v_bipush (x := 42) dD_expression_39 rfl ?_
            obtain ⟨r23, he, hm⟩ := bd_s hm
            refine v_cv1i (M' := tD_isSign) dD_expression_41 mlD_119 okD_isSign sh_90 hc_5 (Nat.le_of_ble_eq_true rfl) (ctD_isSign G (d + 1) _ _ _ he) ?_
            refine v_if_ne dD_expression_44 (fun hc => ?_) (fun hc => ?_)
            · replace hm := it hc hm
              refine v_ald_0 dD_expression_47 ?_
              refine v_bipush (x := 47) dD_expression_48 rfl ?_
              obtain ⟨r24, he, hm⟩ := bd_s hm
              refine v_cv1i (M' := tD_isSign) dD_expression_50 mlD_119 okD_isSign sh_90 hc_5 (Nat.le_of_ble_eq_true rfl) (ctD_isSign G (d + 1) _ _ _ he) ?_
              refine v_if_eq dD_expression_53 (fun hc => ?_) (fun hc => ?_)
              · replace hm := it hc hm
                exact v_kw (kk0 _ _ hm) (wk_s (wk_s (wk_n (wk_n wk_e))))
              · replace hm := ie hc hm
                exact v_kw (kj4 hm) (wk_s (wk_s (wk_s (wk_n wk_e))))
            · replace hm := ie hc hm
              exact v_kw (kj4 hm) (wk_s (wk_s (wk_s (wk_n wk_e))))
          · replace hm := ie hc hm
            exact v_kw (kj4 hm) (wk_s (wk_s (wk_s (wk_n wk_e))))
        · replace hm := ie hc hm
          exact v_kw (kj4 hm) (wk_s (wk_s (wk_s (wk_n wk_e))))
theorem ctD_expression (G : GG) (d : Nat) (h0 : PH) (r : Int32 × PH) (hm : mD_expression h0 = some r) : Kx G tD_expression (d + 2) [.ref (gB G + 90)] h0 (some (.int r.1)) r.2 := by
  refine K_of_V (by decide) (by simp [cat_i, cat_r, fmtV_cat]) (by simp [tD_expression]) ?_
  change Vx G tD_expression (d + 2) 0 [some (.ref (gB G + 90)), none, none, none] [] h0 (some (.int r.1)) r.2
  unfold mD_expression at hm
  refine v_iconst (x := (-1)) dD_expression_0 rfl ?_
  refine v_ist_1 dD_expression_1 (by decide) rfl ?_
  refine v_ald_0 dD_expression_2 ?_
  obtain ⟨r1, h2, he, hm⟩ := bd2_s hm
  refine v_cv0i (M' := tD_unit) dD_expression_3 mlD_116 okD_unit sh_90 hc_5 (Nat.le_of_ble_eq_true rfl) (ctD_unit G d _ _ he) ?_
  refine v_if_ne dD_expression_6 (fun hc => ?_) (fun hc => ?_)
  · replace hm := it hc hm
    refine v_iconst (x := 0) dD_expression_9 rfl ?_
    cases hm
    exact v_zret0 dD_expression_10 rfl
  · replace hm := ie hc hm
    refine v_iconst (x := 0) dD_expression_11 rfl ?_
    refine v_ist_2 dD_expression_12 (by decide) rfl ?_
    refine v_kw (wD_expression_L13 G d _ _ (fun x25 h26 hm => ?_) FU _ _ _ hm) (wk_s (wk_s (wk_s (wk_n wk_e))))
    refine v_ild_1 dD_expression_155 ?_
    refine v_iconst (x := (-1)) dD_expression_156 rfl ?_
    refine v_cmp_eq dD_expression_157 (fun hc => ?_) (fun hc => ?_)
    · replace hm := it hc hm
      refine v_iconst (x := 1) dD_expression_169 rfl ?_
      refine v_goto dD_expression_170 ?_
      cases hm
      exact v_zret1 dD_expression_174 rfl
    · replace hm := ie hc hm
      refine v_ald_0 dD_expression_160 ?_
      refine v_ild_1 dD_expression_161 ?_
      refine v_iconst (x := 0) dD_expression_162 rfl ?_
      obtain ⟨r27, h28, he, hm⟩ := bd2_s hm
      refine v_cv2i (M' := tD_emit) dD_expression_163 mlD_124 okD_emit sh_90 hc_5 (Nat.le_of_ble_eq_true rfl) (ctD_emit G d _ _ _ _ he) ?_
      refine v_if_eq dD_expression_166 (fun hc => ?_) (fun hc => ?_)
      · replace hm := it hc hm
        refine v_iconst (x := 0) dD_expression_173 rfl ?_
        cases hm
        exact v_zret0 dD_expression_174 rfl
      · replace hm := ie hc hm
        refine v_iconst (x := 1) dD_expression_169 rfl ?_
        refine v_goto dD_expression_170 ?_
        cases hm
        exact v_zret1 dD_expression_174 rfl
def mD_isWord (p1 : Int32) (h0 : PH) : Option (Int32) :=
  if (h0 90 6) = 1 then
    if (h0 90 7) = p1 then
      some 1
    else
      some 0
  else
    some 0
theorem ctD_isWord (G : GG) (d : Nat) (p1 : Int32) (h0 : PH) (r : Int32) (hm : mD_isWord p1 h0 = some r) : Kx G tD_isWord d [.ref (gB G + 90), .int p1] h0 (some (.int r)) h0 := by
  refine K_of_V (by decide) (by simp [cat_i, cat_r, fmtV_cat]) (by simp [tD_isWord]) ?_
  change Vx G tD_isWord d 0 [some (.ref (gB G + 90)), some (.int p1)] [] h0 (some (.int r)) h0
  unfold mD_isWord at hm
  refine v_ald_0 dD_isWord_0 ?_
  refine v_getI dD_isWord_1 fuD_57 sh_90 rf_90_6 ?_
  refine v_iconst (x := 1) dD_isWord_4 rfl ?_
  refine v_cmp_ne dD_isWord_5 (fun hc => ?_) (fun hc => ?_)
  · replace hm := it hc hm
    refine v_ald_0 dD_isWord_8 ?_
    refine v_getI dD_isWord_9 fuD_60 sh_90 rf_90_7 ?_
    refine v_ild_1 dD_isWord_12 ?_
    refine v_cmp_ne dD_isWord_13 (fun hc => ?_) (fun hc => ?_)
    · replace hm := it hc hm
      refine v_iconst (x := 1) dD_isWord_16 rfl ?_
      refine v_goto dD_isWord_17 ?_
      cases hm
      exact v_zret1 dD_isWord_21 rfl
    · replace hm := ie hc hm
      refine v_iconst (x := 0) dD_isWord_20 rfl ?_
      cases hm
      exact v_zret0 dD_isWord_21 rfl
  · replace hm := ie hc hm
    refine v_iconst (x := 0) dD_isWord_20 rfl ?_
    cases hm
    exact v_zret0 dD_isWord_21 rfl
def mD_takesSign (p1 : Int32) (h0 : PH) : Option (Int32 × PH) :=
  bd (mD_isSign p1 h0) fun r1 =>
  if r1 = 0 then
    bd2 (mD_refuse 1 h0) fun r2 h3 =>
    some (nb r2, h3)
  else
    bd (mD_advance h0) fun h4 =>
    some (1, h4)
theorem ctD_takesSign (G : GG) (d : Nat) (p1 : Int32) (h0 : PH) (r : Int32 × PH) (hm : mD_takesSign p1 h0 = some r) : Kx G tD_takesSign (d + 1) [.ref (gB G + 90), .int p1] h0 (some (.int r.1)) r.2 := by
  refine K_of_V (by decide) (by simp [cat_i, cat_r, fmtV_cat]) (by simp [tD_takesSign]) ?_
  change Vx G tD_takesSign (d + 1) 0 [some (.ref (gB G + 90)), some (.int p1)] [] h0 (some (.int r.1)) r.2
  unfold mD_takesSign at hm
  refine v_ald_0 dD_takesSign_0 ?_
  refine v_ild_1 dD_takesSign_1 ?_
  obtain ⟨r1, he, hm⟩ := bd_s hm
  refine v_cv1i (M' := tD_isSign) dD_takesSign_2 mlD_119 okD_isSign sh_90 hc_5 (Nat.le_of_ble_eq_true rfl) (ctD_isSign G d _ _ _ he) ?_
  refine v_if_ne dD_takesSign_5 (fun hc => ?_) (fun hc => ?_)
  · replace hm := it hc hm
    refine v_ald_0 dD_takesSign_8 ?_
    refine v_iconst (x := 1) dD_takesSign_9 rfl ?_
    obtain ⟨r2, h3, he, hm⟩ := bd2_s hm
    refine v_cv1i (M' := tD_refuse) dD_takesSign_10 mlD_63 okD_refuse sh_90 hc_5 (Nat.le_of_ble_eq_true rfl) (ctD_refuse G d _ _ _ he) ?_
    cases hm
    exact v_zret dD_takesSign_13 rfl
  · replace hm := ie hc hm
    refine v_ald_0 dD_takesSign_14 ?_
    obtain ⟨h4, he, hm⟩ := bd_s hm
    refine v_cv0v (M' := tD_advance) dD_takesSign_15 mlD_54 okD_advance sh_90 hc_5 (Nat.le_of_ble_eq_true rfl) (ctD_advance G d _ _ he) ?_
    refine v_iconst (x := 1) dD_takesSign_18 rfl ?_
    cases hm
    exact v_zret1 dD_takesSign_19 rfl
def mD_condition_L14 (p1 : Int32) (f1 : Int32 → PH → Option (Int32 × PH)) (k0 : Int32 → PH → Option (Int32 × PH)) : Nat → Int32 → Int32 → PH → Option (Int32 × PH)
  | 0, _, _, _ => none
  | n + 1, v2, v3, hv =>
    if 400 ≤ v3 then
      k0 v2 hv
    else
      bd (mD_isWord 4 hv) fun r3 =>
      jn0 (bd (mD_isWord 5 hv) fun r5 =>
        bd (mD_advance hv) fun h6 =>
        jn2 (fun (x8 : Int32) (h9 : PH) =>
          bd2 (f1 p1 h9) fun r10 h11 =>
          if r10 = 0 then
            some (0, h11)
          else
            if r5 = 0 then
              mD_condition_L14 p1 f1 k0 n x8 (v3 + 1) h11
            else
              bd2 (mD_emit 10 0 h11) fun r12 h13 =>
              mD_condition_L14 p1 f1 k0 n x8 (v3 + 1) h13) fun j7 =>
        if r5 = 0 then
          if v2 = (-1) then
            j7 11 h6
          else
            bd2 (mD_emit v2 0 h6) fun r14 h15 =>
            j7 11 h15
        else
          j7 v2 h6) fun j4 =>
      if r3 = 0 then
        bd (mD_isWord 5 hv) fun r16 =>
        if r16 = 0 then
          k0 v2 hv
        else
          j4
      else
        j4
def mD_condition_F (f1 : Int32 → PH → Option (Int32 × PH)) (p1 : Int32) (h0 : PH) : Option (Int32 × PH) :=
  bd2 (f1 p1 h0) fun r1 h2 =>
  if r1 = 0 then
    some (0, h2)
  else
    mD_condition_L14 p1 f1 (fun (x17 : Int32) (h18 : PH) =>
      if x17 = (-1) then
        some (1, h18)
      else
        bd2 (mD_emit x17 0 h18) fun r19 h20 =>
        if r19 = 0 then
          some (0, h20)
        else
          some (1, h20)) FU (-1) 0 h2
theorem wD_condition_L14 (G : GG) (d : Nat) (p1 : Int32) (f1 : Int32 → PH → Option (Int32 × PH)) (g1 : ∀ (p1 : Int32) (h0 : PH) (r : Int32 × PH), f1 p1 h0 = some r → Kx G tD_clause (d + 2) [.ref (gB G + 90), .int p1] h0 (some (.int r.1)) r.2) (k0 : Int32 → PH → Option (Int32 × PH)) (r : Int32 × PH) (kk0 : ∀ (y2 : Int32) (hy : PH), k0 y2 hy = some r → Vx G tD_condition (d + 3) 97 [some (.ref (gB G + 90)), none, some (.int y2), none, none] [] hy (some (.int r.1)) r.2) : ∀ (n : Nat) (v2 : Int32) (v3 : Int32) (hv : PH), mD_condition_L14 p1 f1 k0 n v2 v3 hv = some r → Vx G tD_condition (d + 3) 14 [some (.ref (gB G + 90)), some (.int p1), some (.int v2), some (.int v3), none] [] hv (some (.int r.1)) r.2 := by
  intro n
  induction n with
  | zero => intro v2 v3 hv hm; cases hm
  | succ n ih =>
    intro v2 v3 hv hm
    unfold mD_condition_L14 at hm
    refine v_ild_3 dD_condition_14 ?_
    refine v_sipush (x := 400) dD_condition_15 rfl ?_
    refine v_cmp_ge dD_condition_18 (fun hc => ?_) (fun hc => ?_)
    · replace hm := it hc hm
      exact v_kw (kk0 _ _ hm) (wk_s (wk_n (wk_s (wk_n (wk_n wk_e)))))
    · replace hm := ie hc hm
      refine v_ald_0 dD_condition_21 ?_
      refine v_iconst (x := 4) dD_condition_22 rfl ?_
      obtain ⟨r3, he, hm⟩ := bd_s hm
      refine v_cv1i (M' := tD_isWord) dD_condition_23 mlD_91 okD_isWord sh_90 hc_5 (Nat.le_of_ble_eq_true rfl) (ctD_isWord G (d + 2) _ _ _ he) ?_
      refine v_j0 (Vx G tD_condition (d + 3) 37 [some (.ref (gB G + 90)), some (.int p1), some (.int v2), some (.int v3), none] [] hv (some (.int r.1)) r.2) hm (fun hm => ?_) (fun j4 kj4 hm => ?_)
      · refine v_ald_0 dD_condition_37 ?_
        refine v_iconst (x := 5) dD_condition_38 rfl ?_
        obtain ⟨r5, he, hm⟩ := bd_s hm
        refine v_cv1i (M' := tD_isWord) dD_condition_39 mlD_91 okD_isWord sh_90 hc_5 (Nat.le_of_ble_eq_true rfl) (ctD_isWord G (d + 2) _ _ _ he) ?_
        refine v_ist_4 dD_condition_42 (by decide) rfl ?_
        refine v_ald_0 dD_condition_44 ?_
        obtain ⟨h6, he, hm⟩ := bd_s hm
        refine v_cv0v (M' := tD_advance) dD_condition_45 mlD_54 okD_advance sh_90 hc_5 (Nat.le_of_ble_eq_true rfl) (ctD_advance G (d + 2) _ _ he) ?_
        refine v_ild_4 dD_condition_48 ?_
        refine v_j2 (fun (x8 : Int32) (h9 : PH) => Vx G tD_condition (d + 3) 68 [some (.ref (gB G + 90)), some (.int p1), some (.int x8), some (.int v3), some (.int r5)] [] h9 (some (.int r.1)) r.2) hm (fun x8 h9 hm => ?_) (fun j7 kj7 hm => ?_)
        · refine v_ald_0 dD_condition_68 ?_
          refine v_ild_1 dD_condition_69 ?_
          obtain ⟨r10, h11, he, hm⟩ := bd2_s hm
          refine v_cv1i (M' := tD_clause) dD_condition_70 mlD_127 okD_clause sh_90 hc_5 (Nat.le_of_ble_eq_true rfl) (g1 _ _ _ he) ?_
          refine v_if_ne dD_condition_73 (fun hc => ?_) (fun hc => ?_)
          · replace hm := it hc hm
            refine v_iconst (x := 0) dD_condition_76 rfl ?_
            cases hm
            exact v_zret0 dD_condition_77 rfl
          · replace hm := ie hc hm
            refine v_ild_4 dD_condition_78 ?_
            refine v_if_eq dD_condition_80 (fun hc => ?_) (fun hc => ?_)
            · replace hm := it hc hm
              refine v_inc_3 1 dD_condition_91 rfl (by decide) rfl ?_
              refine v_goto dD_condition_94 ?_
              exact v_kw (ih _ _ _ hm) (wk_s (wk_s (wk_s (wk_s (wk_n wk_e)))))
            · replace hm := ie hc hm
              refine v_ald_0 dD_condition_83 ?_
              refine v_bipush (x := 10) dD_condition_84 rfl ?_
              refine v_iconst (x := 0) dD_condition_86 rfl ?_
              obtain ⟨r12, h13, he, hm⟩ := bd2_s hm
              refine v_cv2i (M' := tD_emit) dD_condition_87 mlD_124 okD_emit sh_90 hc_5 (Nat.le_of_ble_eq_true rfl) (ctD_emit G (d + 1) _ _ _ _ he) ?_
              refine v_pop dD_condition_90 rfl ?_
              refine v_inc_3 1 dD_condition_91 rfl (by decide) rfl ?_
              refine v_goto dD_condition_94 ?_
              exact v_kw (ih _ _ _ hm) (wk_s (wk_s (wk_s (wk_s (wk_n wk_e)))))
        · refine v_if_ne dD_condition_50 (fun hc => ?_) (fun hc => ?_)
          · replace hm := it hc hm
            refine v_ild_2 dD_condition_53 ?_
            refine v_iconst (x := (-1)) dD_condition_54 rfl ?_
            refine v_cmp_eq dD_condition_55 (fun hc => ?_) (fun hc => ?_)
            · replace hm := it hc hm
              refine v_bipush (x := 11) dD_condition_65 rfl ?_
              refine v_ist_2 dD_condition_67 (by decide) rfl ?_
              exact v_kw (kj7 _ _ hm) (wk_s (wk_s (wk_s (wk_s (wk_s wk_e)))))
            · replace hm := ie hc hm
              refine v_ald_0 dD_condition_58 ?_
              refine v_ild_2 dD_condition_59 ?_
              refine v_iconst (x := 0) dD_condition_60 rfl ?_
              obtain ⟨r14, h15, he, hm⟩ := bd2_s hm
              refine v_cv2i (M' := tD_emit) dD_condition_61 mlD_124 okD_emit sh_90 hc_5 (Nat.le_of_ble_eq_true rfl) (ctD_emit G (d + 1) _ _ _ _ he) ?_
              refine v_pop dD_condition_64 rfl ?_
              refine v_bipush (x := 11) dD_condition_65 rfl ?_
              refine v_ist_2 dD_condition_67 (by decide) rfl ?_
              exact v_kw (kj7 _ _ hm) (wk_s (wk_s (wk_s (wk_s (wk_s wk_e)))))
          · replace hm := ie hc hm
            exact v_kw (kj7 _ _ hm) (wk_s (wk_s (wk_s (wk_s (wk_s wk_e)))))
      · refine v_if_ne dD_condition_26 (fun hc => ?_) (fun hc => ?_)
        · replace hm := it hc hm
          refine v_ald_0 dD_condition_29 ?_
          refine v_iconst (x := 5) dD_condition_30 rfl ?_
          obtain ⟨r16, he, hm⟩ := bd_s hm
          refine v_cv1i (M' := tD_isWord) dD_condition_31 mlD_91 okD_isWord sh_90 hc_5 (Nat.le_of_ble_eq_true rfl) (ctD_isWord G (d + 2) _ _ _ he) ?_
          refine v_if_eq dD_condition_34 (fun hc => ?_) (fun hc => ?_)
          · replace hm := it hc hm
            exact v_kw (kk0 _ _ hm) (wk_s (wk_n (wk_s (wk_n (wk_n wk_e)))))
          · replace hm := ie hc hm
            exact v_kw (kj4 hm) (wk_s (wk_s (wk_s (wk_s (wk_n wk_e)))))
        · replace hm := ie hc hm
          exact v_kw (kj4 hm) (wk_s (wk_s (wk_s (wk_s (wk_n wk_e)))))
theorem ctD_condition_F (G : GG) (d : Nat) (f1 : Int32 → PH → Option (Int32 × PH)) (g1 : ∀ (p1 : Int32) (h0 : PH) (r : Int32 × PH), f1 p1 h0 = some r → Kx G tD_clause (d + 2) [.ref (gB G + 90), .int p1] h0 (some (.int r.1)) r.2) (p1 : Int32) (h0 : PH) (r : Int32 × PH) (hm : mD_condition_F f1 p1 h0 = some r) : Kx G tD_condition (d + 3) [.ref (gB G + 90), .int p1] h0 (some (.int r.1)) r.2 := by
  refine K_of_V (by decide) (by simp [cat_i, cat_r, fmtV_cat]) (by simp [tD_condition]) ?_
  change Vx G tD_condition (d + 3) 0 [some (.ref (gB G + 90)), some (.int p1), none, none, none] [] h0 (some (.int r.1)) r.2
  unfold mD_condition_F at hm
  refine v_iconst (x := (-1)) dD_condition_0 rfl ?_
  refine v_ist_2 dD_condition_1 (by decide) rfl ?_
  refine v_ald_0 dD_condition_2 ?_
  refine v_ild_1 dD_condition_3 ?_
  obtain ⟨r1, h2, he, hm⟩ := bd2_s hm
  refine v_cv1i (M' := tD_clause) dD_condition_4 mlD_127 okD_clause sh_90 hc_5 (Nat.le_of_ble_eq_true rfl) (g1 _ _ _ he) ?_
  refine v_if_ne dD_condition_7 (fun hc => ?_) (fun hc => ?_)
  · replace hm := it hc hm
    refine v_iconst (x := 0) dD_condition_10 rfl ?_
    cases hm
    exact v_zret0 dD_condition_11 rfl
  · replace hm := ie hc hm
    refine v_iconst (x := 0) dD_condition_12 rfl ?_
    refine v_ist_3 dD_condition_13 (by decide) rfl ?_
    refine v_kw (wD_condition_L14 G d _ _ g1 _ _ (fun x17 h18 hm => ?_) FU _ _ _ hm) (wk_s (wk_s (wk_s (wk_s (wk_n wk_e)))))
    refine v_ild_2 dD_condition_97 ?_
    refine v_iconst (x := (-1)) dD_condition_98 rfl ?_
    refine v_cmp_eq dD_condition_99 (fun hc => ?_) (fun hc => ?_)
    · replace hm := it hc hm
      refine v_iconst (x := 1) dD_condition_111 rfl ?_
      refine v_goto dD_condition_112 ?_
      cases hm
      exact v_zret1 dD_condition_116 rfl
    · replace hm := ie hc hm
      refine v_ald_0 dD_condition_102 ?_
      refine v_ild_2 dD_condition_103 ?_
      refine v_iconst (x := 0) dD_condition_104 rfl ?_
      obtain ⟨r19, h20, he, hm⟩ := bd2_s hm
      refine v_cv2i (M' := tD_emit) dD_condition_105 mlD_124 okD_emit sh_90 hc_5 (Nat.le_of_ble_eq_true rfl) (ctD_emit G (d + 1) _ _ _ _ he) ?_
      refine v_if_eq dD_condition_108 (fun hc => ?_) (fun hc => ?_)
      · replace hm := it hc hm
        refine v_iconst (x := 0) dD_condition_115 rfl ?_
        cases hm
        exact v_zret0 dD_condition_116 rfl
      · replace hm := ie hc hm
        refine v_iconst (x := 1) dD_condition_111 rfl ?_
        refine v_goto dD_condition_112 ?_
        cases hm
        exact v_zret1 dD_condition_116 rfl
def mD_clause_F (f0 : Int32 → PH → Option (Int32 × PH)) (f1 : Int32 → PH → Option (Int32 × PH)) (p1 : Int32) (h0 : PH) : Option (Int32 × PH) :=
  bd (mD_isWord 6 h0) fun r1 =>
  jn0 (if p1 < 8 then
      bd (mD_advance h0) fun h3 =>
      if r1 = 0 then
        bd2 (f0 (p1 + 1) h3) fun r4 h5 =>
        if r4 = 0 then
          some (0, h5)
        else
          bd2 (mD_takesSign 41 h5) fun r6 h7 =>
          if r6 = 0 then
            some (0, h7)
          else
            some (1, h7)
      else
        bd2 (f1 (p1 + 1) h3) fun r8 h9 =>
        if r8 = 0 then
          some (0, h9)
        else
          bd2 (mD_emit 9 0 h9) fun r10 h11 =>
          if r10 = 0 then
            some (0, h11)
          else
            some (1, h11)
    else
      bd2 (mD_refuse 3 h0) fun r12 h13 =>
      some (nb r12, h13)) fun j2 =>
  if r1 = 0 then
    bd (mD_isSign 40 h0) fun r14 =>
    if r14 = 0 then
      bd2 (mD_expression h0) fun r15 h16 =>
      if r15 = 0 then
        some (0, h16)
      else
        lt (h16 90 7) fun x17 =>
        bd (mD_isSign 60 h16) fun r18 =>
        jn0 (bd (mD_advance h16) fun h20 =>
          bd2 (mD_expression h20) fun r21 h22 =>
          if r21 = 0 then
            some (0, h22)
          else
            jn1 (fun (x24 : Int32) =>
              bd2 (mD_emit x24 0 h22) fun r25 h26 =>
              if r25 = 0 then
                some (0, h26)
              else
                some (1, h26)) fun j23 =>
            if x17 = 60 then
              j23 6
            else
              if x17 = 61 then
                j23 7
              else
                j23 8) fun j19 =>
        if r18 = 0 then
          bd (mD_isSign 61 h16) fun r27 =>
          if r27 = 0 then
            bd (mD_isSign 62 h16) fun r28 =>
            if r28 = 0 then
              bd2 (mD_refuse 1 h16) fun r29 h30 =>
              some (nb r29, h30)
            else
              j19
          else
            j19
        else
          j19
    else
      j2
  else
    j2
theorem ctD_clause_F (G : GG) (d : Nat) (f0 : Int32 → PH → Option (Int32 × PH)) (f1 : Int32 → PH → Option (Int32 × PH)) (g0 : ∀ (p1 : Int32) (h0 : PH) (r : Int32 × PH), f0 p1 h0 = some r → Kx G tD_condition (d + 2) [.ref (gB G + 90), .int p1] h0 (some (.int r.1)) r.2) (g1 : ∀ (p1 : Int32) (h0 : PH) (r : Int32 × PH), f1 p1 h0 = some r → Kx G tD_clause (d + 2) [.ref (gB G + 90), .int p1] h0 (some (.int r.1)) r.2) (p1 : Int32) (h0 : PH) (r : Int32 × PH) (hm : mD_clause_F f0 f1 p1 h0 = some r) : Kx G tD_clause (d + 3) [.ref (gB G + 90), .int p1] h0 (some (.int r.1)) r.2 := by
  refine K_of_V (by decide) (by simp [cat_i, cat_r, fmtV_cat]) (by simp [tD_clause]) ?_
  change Vx G tD_clause (d + 3) 0 [some (.ref (gB G + 90)), some (.int p1), none, none] [] h0 (some (.int r.1)) r.2
  unfold mD_clause_F at hm
  refine v_ald_0 dD_clause_0 ?_
  refine v_bipush (x := 6) dD_clause_1 rfl ?_
  obtain ⟨r1, he, hm⟩ := bd_s hm
  refine v_cv1i (M' := tD_isWord) dD_clause_3 mlD_91 okD_isWord sh_90 hc_5 (Nat.le_of_ble_eq_true rfl) (ctD_isWord G (d + 2) _ _ _ he) ?_
  refine v_ist_2 dD_clause_6 (by decide) rfl ?_
  refine v_ild_2 dD_clause_7 ?_
  refine v_j0 (Vx G tD_clause (d + 3) 20 [some (.ref (gB G + 90)), some (.int p1), some (.int r1), none] [] h0 (some (.int r.1)) r.2) hm (fun hm => ?_) (fun j2 kj2 hm => ?_)
  · refine v_ild_1 dD_clause_20 ?_
    refine v_bipush (x := 8) dD_clause_21 rfl ?_
    refine v_cmp_lt dD_clause_23 (fun hc => ?_) (fun hc => ?_)
    · replace hm := it hc hm
      refine v_ald_0 dD_clause_32 ?_
      obtain ⟨h3, he, hm⟩ := bd_s hm
      refine v_cv0v (M' := tD_advance) dD_clause_33 mlD_54 okD_advance sh_90 hc_5 (Nat.le_of_ble_eq_true rfl) (ctD_advance G (d + 2) _ _ he) ?_
      refine v_ild_2 dD_clause_36 ?_
      refine v_if_ne dD_clause_37 (fun hc => ?_) (fun hc => ?_)
      · replace hm := it hc hm
        refine v_ald_0 dD_clause_40 ?_
        refine v_ild_1 dD_clause_41 ?_
        refine v_iconst (x := 1) dD_clause_42 rfl ?_
        refine v_iadd dD_clause_43 ?_
        obtain ⟨r4, h5, he, hm⟩ := bd2_s hm
        refine v_cv1i (M' := tD_condition) dD_clause_44 mlD_94 okD_condition sh_90 hc_5 (Nat.le_of_ble_eq_true rfl) (g0 _ _ _ he) ?_
        refine v_if_eq dD_clause_47 (fun hc => ?_) (fun hc => ?_)
        · replace hm := it hc hm
          refine v_iconst (x := 0) dD_clause_63 rfl ?_
          cases hm
          exact v_zret0 dD_clause_64 rfl
        · replace hm := ie hc hm
          refine v_ald_0 dD_clause_50 ?_
          refine v_bipush (x := 41) dD_clause_51 rfl ?_
          obtain ⟨r6, h7, he, hm⟩ := bd2_s hm
          refine v_cv1i (M' := tD_takesSign) dD_clause_53 mlD_97 okD_takesSign sh_90 hc_5 (Nat.le_of_ble_eq_true rfl) (ctD_takesSign G (d + 1) _ _ _ he) ?_
          refine v_if_eq dD_clause_56 (fun hc => ?_) (fun hc => ?_)
          · replace hm := it hc hm
            refine v_iconst (x := 0) dD_clause_63 rfl ?_
            cases hm
            exact v_zret0 dD_clause_64 rfl
          · replace hm := ie hc hm
            refine v_iconst (x := 1) dD_clause_59 rfl ?_
            refine v_goto dD_clause_60 ?_
            cases hm
            exact v_zret1 dD_clause_64 rfl
      · replace hm := ie hc hm
        refine v_ald_0 dD_clause_65 ?_
        refine v_ild_1 dD_clause_66 ?_
        refine v_iconst (x := 1) dD_clause_67 rfl ?_
        refine v_iadd dD_clause_68 ?_
        obtain ⟨r8, h9, he, hm⟩ := bd2_s hm
        refine v_cv1i (M' := tD_clause) dD_clause_69 mlD_127 okD_clause sh_90 hc_5 (Nat.le_of_ble_eq_true rfl) (g1 _ _ _ he) ?_
        refine v_if_eq dD_clause_72 (fun hc => ?_) (fun hc => ?_)
        · replace hm := it hc hm
          refine v_iconst (x := 0) dD_clause_89 rfl ?_
          cases hm
          exact v_zret0 dD_clause_90 rfl
        · replace hm := ie hc hm
          refine v_ald_0 dD_clause_75 ?_
          refine v_bipush (x := 9) dD_clause_76 rfl ?_
          refine v_iconst (x := 0) dD_clause_78 rfl ?_
          obtain ⟨r10, h11, he, hm⟩ := bd2_s hm
          refine v_cv2i (M' := tD_emit) dD_clause_79 mlD_124 okD_emit sh_90 hc_5 (Nat.le_of_ble_eq_true rfl) (ctD_emit G (d + 1) _ _ _ _ he) ?_
          refine v_if_eq dD_clause_82 (fun hc => ?_) (fun hc => ?_)
          · replace hm := it hc hm
            refine v_iconst (x := 0) dD_clause_89 rfl ?_
            cases hm
            exact v_zret0 dD_clause_90 rfl
          · replace hm := ie hc hm
            refine v_iconst (x := 1) dD_clause_85 rfl ?_
            refine v_goto dD_clause_86 ?_
            cases hm
            exact v_zret1 dD_clause_90 rfl
    · replace hm := ie hc hm
      refine v_ald_0 dD_clause_26 ?_
      refine v_iconst (x := 3) dD_clause_27 rfl ?_
      obtain ⟨r12, h13, he, hm⟩ := bd2_s hm
      refine v_cv1i (M' := tD_refuse) dD_clause_28 mlD_63 okD_refuse sh_90 hc_5 (Nat.le_of_ble_eq_true rfl) (ctD_refuse G (d + 2) _ _ _ he) ?_
      cases hm
      exact v_zret dD_clause_31 rfl
  · refine v_if_ne dD_clause_8 (fun hc => ?_) (fun hc => ?_)
    · replace hm := it hc hm
      refine v_ald_0 dD_clause_11 ?_
      refine v_bipush (x := 40) dD_clause_12 rfl ?_
      obtain ⟨r14, he, hm⟩ := bd_s hm
      refine v_cv1i (M' := tD_isSign) dD_clause_14 mlD_119 okD_isSign sh_90 hc_5 (Nat.le_of_ble_eq_true rfl) (ctD_isSign G (d + 2) _ _ _ he) ?_
      refine v_if_eq dD_clause_17 (fun hc => ?_) (fun hc => ?_)
      · replace hm := it hc hm
        refine v_ald_0 dD_clause_91 ?_
        obtain ⟨r15, h16, he, hm⟩ := bd2_s hm
        refine v_cv0i (M' := tD_expression) dD_clause_92 mlD_88 okD_expression sh_90 hc_5 (Nat.le_of_ble_eq_true rfl) (ctD_expression G d _ _ he) ?_
        refine v_if_ne dD_clause_95 (fun hc => ?_) (fun hc => ?_)
        · replace hm := it hc hm
          refine v_iconst (x := 0) dD_clause_98 rfl ?_
          cases hm
          exact v_zret0 dD_clause_99 rfl
        · replace hm := ie hc hm
          refine v_ald_0 dD_clause_100 ?_
          refine v_getI dD_clause_101 fuD_60 sh_90 rf_90_7 ?_
          refine v_top hm (fun x17 hm => ?_)
          refine v_ist_3 dD_clause_104 (by decide) rfl ?_
          refine v_ald_0 dD_clause_105 ?_
          refine v_bipush (x := 60) dD_clause_106 rfl ?_
          obtain ⟨r18, he, hm⟩ := bd_s hm
          refine v_cv1i (M' := tD_isSign) dD_clause_108 mlD_119 okD_isSign sh_90 hc_5 (Nat.le_of_ble_eq_true rfl) (ctD_isSign G (d + 2) _ _ _ he) ?_
          refine v_j0 (Vx G tD_clause (d + 3) 138 [some (.ref (gB G + 90)), none, none, some (.int x17)] [] h16 (some (.int r.1)) r.2) hm (fun hm => ?_) (fun j19 kj19 hm => ?_)
          · refine v_ald_0 dD_clause_138 ?_
            obtain ⟨h20, he, hm⟩ := bd_s hm
            refine v_cv0v (M' := tD_advance) dD_clause_139 mlD_54 okD_advance sh_90 hc_5 (Nat.le_of_ble_eq_true rfl) (ctD_advance G (d + 2) _ _ he) ?_
            refine v_ald_0 dD_clause_142 ?_
            obtain ⟨r21, h22, he, hm⟩ := bd2_s hm
            refine v_cv0i (M' := tD_expression) dD_clause_143 mlD_88 okD_expression sh_90 hc_5 (Nat.le_of_ble_eq_true rfl) (ctD_expression G d _ _ he) ?_
            refine v_if_eq dD_clause_146 (fun hc => ?_) (fun hc => ?_)
            · replace hm := it hc hm
              refine v_iconst (x := 0) dD_clause_185 rfl ?_
              cases hm
              exact v_zret0 dD_clause_186 rfl
            · replace hm := ie hc hm
              refine v_ald_0 dD_clause_149 ?_
              refine v_ild_3 dD_clause_150 ?_
              refine v_bipush (x := 60) dD_clause_151 rfl ?_
              refine v_j1 (fun (x24 : Int32) => Vx G tD_clause (d + 3) 174 [none, none, none, none] [.int x24, .ref (gB G + 90)] h22 (some (.int r.1)) r.2) hm (fun x24 hm => ?_) (fun j23 kj23 hm => ?_)
              · refine v_iconst (x := 0) dD_clause_174 rfl ?_
                obtain ⟨r25, h26, he, hm⟩ := bd2_s hm
                refine v_cv2i (M' := tD_emit) dD_clause_175 mlD_124 okD_emit sh_90 hc_5 (Nat.le_of_ble_eq_true rfl) (ctD_emit G (d + 1) _ _ _ _ he) ?_
                refine v_if_eq dD_clause_178 (fun hc => ?_) (fun hc => ?_)
                · replace hm := it hc hm
                  refine v_iconst (x := 0) dD_clause_185 rfl ?_
                  cases hm
                  exact v_zret0 dD_clause_186 rfl
                · replace hm := ie hc hm
                  refine v_iconst (x := 1) dD_clause_181 rfl ?_
                  refine v_goto dD_clause_182 ?_
                  cases hm
                  exact v_zret1 dD_clause_186 rfl
              · refine v_cmp_ne dD_clause_153 (fun hc => ?_) (fun hc => ?_)
                · replace hm := it hc hm
                  refine v_bipush (x := 6) dD_clause_156 rfl ?_
                  refine v_goto dD_clause_158 ?_
                  exact v_kw (kj23 _ hm) (wk_n (wk_n (wk_n (wk_n wk_e))))
                · replace hm := ie hc hm
                  refine v_ild_3 dD_clause_161 ?_
                  refine v_bipush (x := 61) dD_clause_162 rfl ?_
                  refine v_cmp_ne dD_clause_164 (fun hc => ?_) (fun hc => ?_)
                  · replace hm := it hc hm
                    refine v_bipush (x := 7) dD_clause_167 rfl ?_
                    refine v_goto dD_clause_169 ?_
                    exact v_kw (kj23 _ hm) (wk_n (wk_n (wk_n (wk_n wk_e))))
                  · replace hm := ie hc hm
                    refine v_bipush (x := 8) dD_clause_172 rfl ?_
                    exact v_kw (kj23 _ hm) (wk_n (wk_n (wk_n (wk_n wk_e))))
          · refine v_if_ne dD_clause_111 (fun hc => ?_) (fun hc => ?_)
            · replace hm := it hc hm
              refine v_ald_0 dD_clause_114 ?_
              refine v_bipush (x := 61) dD_clause_115 rfl ?_
              obtain ⟨r27, he, hm⟩ := bd_s hm
              refine v_cv1i (M' := tD_isSign) dD_clause_117 mlD_119 okD_isSign sh_90 hc_5 (Nat.le_of_ble_eq_true rfl) (ctD_isSign G (d + 2) _ _ _ he) ?_
              refine v_if_ne dD_clause_120 (fun hc => ?_) (fun hc => ?_)
              · replace hm := it hc hm
                refine v_ald_0 dD_clause_123 ?_
                refine v_bipush (x := 62) dD_clause_124 rfl ?_
                obtain ⟨r28, he, hm⟩ := bd_s hm
                refine v_cv1i (M' := tD_isSign) dD_clause_126 mlD_119 okD_isSign sh_90 hc_5 (Nat.le_of_ble_eq_true rfl) (ctD_isSign G (d + 2) _ _ _ he) ?_
                refine v_if_ne dD_clause_129 (fun hc => ?_) (fun hc => ?_)
                · replace hm := it hc hm
                  refine v_ald_0 dD_clause_132 ?_
                  refine v_iconst (x := 1) dD_clause_133 rfl ?_
                  obtain ⟨r29, h30, he, hm⟩ := bd2_s hm
                  refine v_cv1i (M' := tD_refuse) dD_clause_134 mlD_63 okD_refuse sh_90 hc_5 (Nat.le_of_ble_eq_true rfl) (ctD_refuse G (d + 2) _ _ _ he) ?_
                  cases hm
                  exact v_zret dD_clause_137 rfl
                · replace hm := ie hc hm
                  exact v_kw (kj19 hm) (wk_s (wk_n (wk_n (wk_s wk_e))))
              · replace hm := ie hc hm
                exact v_kw (kj19 hm) (wk_s (wk_n (wk_n (wk_s wk_e))))
            · replace hm := ie hc hm
              exact v_kw (kj19 hm) (wk_s (wk_n (wk_n (wk_s wk_e))))
      · replace hm := ie hc hm
        exact v_kw (kj2 hm) (wk_s (wk_s (wk_s (wk_n wk_e))))
    · replace hm := ie hc hm
      exact v_kw (kj2 hm) (wk_s (wk_s (wk_s (wk_n wk_e))))
def mD_cc : Nat → Bool → Int32 → PH → Option (Int32 × PH)
  | 0, _, _, _ => none
  | n + 1, true, p1, h0 => mD_condition_F (mD_cc n false) p1 h0
  | n + 1, false, p1, h0 => mD_clause_F (mD_cc n true) (mD_cc n false) p1 h0
theorem ctD_cc (G : GG) : ∀ (n d : Nat), (∀ (p1 : Int32) (h0 : PH) (r : Int32 × PH), mD_cc n true p1 h0 = some r → Kx G tD_condition (d + n + 2) [.ref (gB G + 90), .int p1] h0 (some (.int r.1)) r.2) ∧ (∀ (p1 : Int32) (h0 : PH) (r : Int32 × PH), mD_cc n false p1 h0 = some r → Kx G tD_clause (d + n + 2) [.ref (gB G + 90), .int p1] h0 (some (.int r.1)) r.2) := by
  intro n
  induction n with
  | zero => intro d; exact ⟨fun p1 h0 r hm => (by cases hm), fun p1 h0 r hm => (by cases hm)⟩
  | succ n ih =>
    intro d
    exact ⟨fun p1 h0 r hm => ctD_condition_F G (d + n) (mD_cc n false) (ih d).2 p1 h0 r hm, fun p1 h0 r hm => ctD_clause_F G (d + n) (mD_cc n true) (mD_cc n false) (ih d).1 (ih d).2 p1 h0 r hm⟩
def mD_condition (n : Nat) (p1 : Int32) (h0 : PH) : Option (Int32 × PH) := mD_cc n true p1 h0
def mD_clause (n : Nat) (p1 : Int32) (h0 : PH) : Option (Int32 × PH) := mD_cc n false p1 h0
theorem ctD_condition (G : GG) (n d : Nat) (p1 : Int32) (h0 : PH) (r : Int32 × PH) (hm : mD_condition n p1 h0 = some r) : Kx G tD_condition (d + n + 2) [.ref (gB G + 90), .int p1] h0 (some (.int r.1)) r.2 := (ctD_cc G n d).1 p1 h0 r hm
theorem ctD_clause (G : GG) (n d : Nat) (p1 : Int32) (h0 : PH) (r : Int32 × PH) (hm : mD_clause n p1 h0 = some r) : Kx G tD_clause (d + n + 2) [.ref (gB G + 90), .int p1] h0 (some (.int r.1)) r.2 := (ctD_cc G n d).2 p1 h0 r hm
def mD_lawLine (h0 : PH) : Option (Int32 × PH) :=
  lt (h0 90 7) fun x1 =>
  bd (mD_advance h0) fun h2 =>
  lt (h2 93 3) fun x3 =>
  bd2 (mD_expression h2) fun r4 h5 =>
  if r4 = 0 then
    some (0, h5)
  else
    lt (h5 93 3) fun x6 =>
    bd (mD_isWord 3 h5) fun r7 =>
    jn1 (fun (h9 : PH) =>
      bd2 (mD_takesSign 59 h9) fun r10 h11 =>
      if r10 = 0 then
        some (0, h11)
      else
        bd2 (mR_add 91 x1 x3 x6 (h11 93 3) 0 h11) fun r12 h13 =>
        if r12 = 0 then
          some (0, h13)
        else
          some (1, h13)) fun j8 =>
    if r7 = 0 then
      j8 h5
    else
      bd (mD_advance h5) fun h14 =>
      bd2 (mD_condition 30 0 h14) fun r15 h16 =>
      if r15 = 0 then
        some (0, h16)
      else
        j8 h16
theorem ctD_lawLine (G : GG) (d : Nat) (h0 : PH) (r : Int32 × PH) (hm : mD_lawLine h0 = some r) : Kx G tD_lawLine (d + 33) [.ref (gB G + 90)] h0 (some (.int r.1)) r.2 := by
  refine K_of_V (by decide) (by simp [cat_i, cat_r, fmtV_cat]) (by simp [tD_lawLine]) ?_
  change Vx G tD_lawLine (d + 33) 0 [some (.ref (gB G + 90)), none, none, none] [] h0 (some (.int r.1)) r.2
  unfold mD_lawLine at hm
  refine v_ald_0 dD_lawLine_0 ?_
  refine v_getI dD_lawLine_1 fuD_60 sh_90 rf_90_7 ?_
  refine v_top hm (fun x1 hm => ?_)
  refine v_ist_1 dD_lawLine_4 (by decide) rfl ?_
  refine v_ald_0 dD_lawLine_5 ?_
  obtain ⟨h2, he, hm⟩ := bd_s hm
  refine v_cv0v (M' := tD_advance) dD_lawLine_6 mlD_54 okD_advance sh_90 hc_5 (Nat.le_of_ble_eq_true rfl) (ctD_advance G (d + 32) _ _ he) ?_
  refine v_ald_0 dD_lawLine_9 ?_
  refine v_getR dD_lawLine_10 fuD_22 sh_90 rf_90_1 ?_
  refine v_getI dD_lawLine_13 fuD_49 sh_93 rf_93_3 ?_
  refine v_top hm (fun x3 hm => ?_)
  refine v_ist_2 dD_lawLine_16 (by decide) rfl ?_
  refine v_ald_0 dD_lawLine_17 ?_
  obtain ⟨r4, h5, he, hm⟩ := bd2_s hm
  refine v_cv0i (M' := tD_expression) dD_lawLine_18 mlD_88 okD_expression sh_90 hc_5 (Nat.le_of_ble_eq_true rfl) (ctD_expression G (d + 30) _ _ he) ?_
  refine v_if_ne dD_lawLine_21 (fun hc => ?_) (fun hc => ?_)
  · replace hm := it hc hm
    refine v_iconst (x := 0) dD_lawLine_24 rfl ?_
    cases hm
    exact v_zret0 dD_lawLine_25 rfl
  · replace hm := ie hc hm
    refine v_ald_0 dD_lawLine_26 ?_
    refine v_getR dD_lawLine_27 fuD_22 sh_90 rf_90_1 ?_
    refine v_getI dD_lawLine_30 fuD_49 sh_93 rf_93_3 ?_
    refine v_top hm (fun x6 hm => ?_)
    refine v_ist_3 dD_lawLine_33 (by decide) rfl ?_
    refine v_ald_0 dD_lawLine_34 ?_
    refine v_iconst (x := 3) dD_lawLine_35 rfl ?_
    obtain ⟨r7, he, hm⟩ := bd_s hm
    refine v_cv1i (M' := tD_isWord) dD_lawLine_36 mlD_91 okD_isWord sh_90 hc_5 (Nat.le_of_ble_eq_true rfl) (ctD_isWord G (d + 32) _ _ _ he) ?_
    refine v_j1 (fun (h9 : PH) => Vx G tD_lawLine (d + 33) 56 [some (.ref (gB G + 90)), some (.int x1), some (.int x3), some (.int x6)] [] h9 (some (.int r.1)) r.2) hm (fun h9 hm => ?_) (fun j8 kj8 hm => ?_)
    · refine v_ald_0 dD_lawLine_56 ?_
      refine v_bipush (x := 59) dD_lawLine_57 rfl ?_
      obtain ⟨r10, h11, he, hm⟩ := bd2_s hm
      refine v_cv1i (M' := tD_takesSign) dD_lawLine_59 mlD_97 okD_takesSign sh_90 hc_5 (Nat.le_of_ble_eq_true rfl) (ctD_takesSign G (d + 31) _ _ _ he) ?_
      refine v_if_eq dD_lawLine_62 (fun hc => ?_) (fun hc => ?_)
      · replace hm := it hc hm
        refine v_iconst (x := 0) dD_lawLine_90 rfl ?_
        cases hm
        exact v_zret0 dD_lawLine_91 rfl
      · replace hm := ie hc hm
        refine v_ald_0 dD_lawLine_65 ?_
        refine v_getR dD_lawLine_66 fuD_14 sh_90 rf_90_0 ?_
        refine v_ild_1 dD_lawLine_69 ?_
        refine v_ild_2 dD_lawLine_70 ?_
        refine v_ild_3 dD_lawLine_71 ?_
        refine v_ald_0 dD_lawLine_72 ?_
        refine v_getR dD_lawLine_73 fuD_22 sh_90 rf_90_1 ?_
        refine v_getI dD_lawLine_76 fuD_49 sh_93 rf_93_3 ?_
        refine v_iconst (x := 0) dD_lawLine_79 rfl ?_
        obtain ⟨r12, h13, he, hm⟩ := bd2_s hm
        refine v_cv5i (M' := tR_add) dD_lawLine_80 mlD_101 okR_add sh_91 hc_6 (Nat.le_of_ble_eq_true rfl) (ctR_add G (d + 32) _ _ _ _ _ _ sh_91 _ _ he) ?_
        refine v_if_eq dD_lawLine_83 (fun hc => ?_) (fun hc => ?_)
        · replace hm := it hc hm
          refine v_iconst (x := 0) dD_lawLine_90 rfl ?_
          cases hm
          exact v_zret0 dD_lawLine_91 rfl
        · replace hm := ie hc hm
          refine v_iconst (x := 1) dD_lawLine_86 rfl ?_
          refine v_goto dD_lawLine_87 ?_
          cases hm
          exact v_zret1 dD_lawLine_91 rfl
    · refine v_if_eq dD_lawLine_39 (fun hc => ?_) (fun hc => ?_)
      · replace hm := it hc hm
        exact v_kw (kj8 _ hm) (wk_s (wk_s (wk_s (wk_s wk_e))))
      · replace hm := ie hc hm
        refine v_ald_0 dD_lawLine_42 ?_
        obtain ⟨h14, he, hm⟩ := bd_s hm
        refine v_cv0v (M' := tD_advance) dD_lawLine_43 mlD_54 okD_advance sh_90 hc_5 (Nat.le_of_ble_eq_true rfl) (ctD_advance G (d + 32) _ _ he) ?_
        refine v_ald_0 dD_lawLine_46 ?_
        refine v_iconst (x := 0) dD_lawLine_47 rfl ?_
        obtain ⟨r15, h16, he, hm⟩ := bd2_s hm
        refine v_cv1i (M' := tD_condition) dD_lawLine_48 mlD_94 okD_condition sh_90 hc_5 (Nat.le_of_ble_eq_true rfl) (ctD_condition G 30 d _ _ _ he) ?_
        refine v_if_ne dD_lawLine_51 (fun hc => ?_) (fun hc => ?_)
        · replace hm := it hc hm
          refine v_iconst (x := 0) dD_lawLine_54 rfl ?_
          cases hm
          exact v_zret0 dD_lawLine_55 rfl
        · replace hm := ie hc hm
          exact v_kw (kj8 _ hm) (wk_s (wk_s (wk_s (wk_s wk_e))))
def mD_skyLine (h0 : PH) : Option (Int32 × PH) :=
  bd (mD_advance h0) fun h1 =>
  bd2 (mD_takesNumber 0 999 h1) fun r2 h3 =>
  if r2 = 0 then
    some (0, h3)
  else
    lt (h3 90 9) fun x4 =>
    jn0 (bd2 (mD_refuse 1 h3) fun r6 h7 =>
      some (nb r6, h7)) fun j5 =>
    if (h3 90 6) = 1 then
      bd (mX_within (h3 90 7) 1 3 h3) fun r8 =>
      if r8 = 0 then
        j5
      else
        lt (h3 90 7) fun x9 =>
        bd (mD_advance h3) fun h10 =>
        jn2 (fun (x12 : Int32) (h13 : PH) =>
          bd2 (mD_takesSign 59 h13) fun r14 h15 =>
          if r14 = 0 then
            some (0, h15)
          else
            bd2 (mR_add 91 x4 x9 x12 0 0 h15) fun r16 h17 =>
            if r16 = 0 then
              some (0, h17)
            else
              some (1, h17)) fun j11 =>
        if x9 = 1 then
          bd2 (mD_takesNumber 0 9 h10) fun r18 h19 =>
          if r18 = 0 then
            some (0, h19)
          else
            lt (h19 90 9) fun x20 =>
            j11 x20 h19
        else
          j11 0 h10
    else
      j5
theorem ctD_skyLine (G : GG) (d : Nat) (h0 : PH) (r : Int32 × PH) (hm : mD_skyLine h0 = some r) : Kx G tD_skyLine (d + 2) [.ref (gB G + 90)] h0 (some (.int r.1)) r.2 := by
  refine K_of_V (by decide) (by simp [cat_i, cat_r, fmtV_cat]) (by simp [tD_skyLine]) ?_
  change Vx G tD_skyLine (d + 2) 0 [some (.ref (gB G + 90)), none, none, none] [] h0 (some (.int r.1)) r.2
  unfold mD_skyLine at hm
  refine v_ald_0 dD_skyLine_0 ?_
  obtain ⟨h1, he, hm⟩ := bd_s hm
  refine v_cv0v (M' := tD_advance) dD_skyLine_1 mlD_54 okD_advance sh_90 hc_5 (Nat.le_of_ble_eq_true rfl) (ctD_advance G (d + 1) _ _ he) ?_
  refine v_ald_0 dD_skyLine_4 ?_
  refine v_iconst (x := 0) dD_skyLine_5 rfl ?_
  refine v_sipush (x := 999) dD_skyLine_6 rfl ?_
  obtain ⟨r2, h3, he, hm⟩ := bd2_s hm
  refine v_cv2i (M' := tD_takesNumber) dD_skyLine_9 mlD_105 okD_takesNumber sh_90 hc_5 (Nat.le_of_ble_eq_true rfl) (ctD_takesNumber G d _ _ _ _ he) ?_
  refine v_if_ne dD_skyLine_12 (fun hc => ?_) (fun hc => ?_)
  · replace hm := it hc hm
    refine v_iconst (x := 0) dD_skyLine_15 rfl ?_
    cases hm
    exact v_zret0 dD_skyLine_16 rfl
  · replace hm := ie hc hm
    refine v_ald_0 dD_skyLine_17 ?_
    refine v_getI dD_skyLine_18 fuD_109 sh_90 rf_90_9 ?_
    refine v_top hm (fun x4 hm => ?_)
    refine v_ist_1 dD_skyLine_21 (by decide) rfl ?_
    refine v_ald_0 dD_skyLine_22 ?_
    refine v_getI dD_skyLine_23 fuD_57 sh_90 rf_90_6 ?_
    refine v_iconst (x := 1) dD_skyLine_26 rfl ?_
    refine v_j0 (Vx G tD_skyLine (d + 2) 42 [some (.ref (gB G + 90)), none, none, none] [] h3 (some (.int r.1)) r.2) hm (fun hm => ?_) (fun j5 kj5 hm => ?_)
    · refine v_ald_0 dD_skyLine_42 ?_
      refine v_iconst (x := 1) dD_skyLine_43 rfl ?_
      obtain ⟨r6, h7, he, hm⟩ := bd2_s hm
      refine v_cv1i (M' := tD_refuse) dD_skyLine_44 mlD_63 okD_refuse sh_90 hc_5 (Nat.le_of_ble_eq_true rfl) (ctD_refuse G (d + 1) _ _ _ he) ?_
      cases hm
      exact v_zret dD_skyLine_47 rfl
    · refine v_cmp_ne dD_skyLine_27 (fun hc => ?_) (fun hc => ?_)
      · replace hm := it hc hm
        refine v_ald_0 dD_skyLine_30 ?_
        refine v_getI dD_skyLine_31 fuD_60 sh_90 rf_90_7 ?_
        refine v_iconst (x := 1) dD_skyLine_34 rfl ?_
        refine v_iconst (x := 3) dD_skyLine_35 rfl ?_
        obtain ⟨r8, he, hm⟩ := bd_s hm
        refine v_cn3i (M' := tX_within) dD_skyLine_36 mlD_112 okX_within (Nat.le_of_ble_eq_true rfl) (ctX_within G (d + 1) _ _ _ _ _ he) ?_
        refine v_if_ne dD_skyLine_39 (fun hc => ?_) (fun hc => ?_)
        · replace hm := it hc hm
          exact v_kw (kj5 hm) (wk_s (wk_n (wk_n (wk_n wk_e))))
        · replace hm := ie hc hm
          refine v_ald_0 dD_skyLine_48 ?_
          refine v_getI dD_skyLine_49 fuD_60 sh_90 rf_90_7 ?_
          refine v_top hm (fun x9 hm => ?_)
          refine v_ist_2 dD_skyLine_52 (by decide) rfl ?_
          refine v_ald_0 dD_skyLine_53 ?_
          obtain ⟨h10, he, hm⟩ := bd_s hm
          refine v_cv0v (M' := tD_advance) dD_skyLine_54 mlD_54 okD_advance sh_90 hc_5 (Nat.le_of_ble_eq_true rfl) (ctD_advance G (d + 1) _ _ he) ?_
          refine v_iconst (x := 0) dD_skyLine_57 rfl ?_
          refine v_ist_3 dD_skyLine_58 (by decide) rfl ?_
          refine v_ild_2 dD_skyLine_59 ?_
          refine v_iconst (x := 1) dD_skyLine_60 rfl ?_
          refine v_j2 (fun (x12 : Int32) (h13 : PH) => Vx G tD_skyLine (d + 2) 81 [some (.ref (gB G + 90)), some (.int x4), some (.int x9), some (.int x12)] [] h13 (some (.int r.1)) r.2) hm (fun x12 h13 hm => ?_) (fun j11 kj11 hm => ?_)
          · refine v_ald_0 dD_skyLine_81 ?_
            refine v_bipush (x := 59) dD_skyLine_82 rfl ?_
            obtain ⟨r14, h15, he, hm⟩ := bd2_s hm
            refine v_cv1i (M' := tD_takesSign) dD_skyLine_84 mlD_97 okD_takesSign sh_90 hc_5 (Nat.le_of_ble_eq_true rfl) (ctD_takesSign G d _ _ _ he) ?_
            refine v_if_eq dD_skyLine_87 (fun hc => ?_) (fun hc => ?_)
            · replace hm := it hc hm
              refine v_iconst (x := 0) dD_skyLine_109 rfl ?_
              cases hm
              exact v_zret0 dD_skyLine_110 rfl
            · replace hm := ie hc hm
              refine v_ald_0 dD_skyLine_90 ?_
              refine v_getR dD_skyLine_91 fuD_14 sh_90 rf_90_0 ?_
              refine v_ild_1 dD_skyLine_94 ?_
              refine v_ild_2 dD_skyLine_95 ?_
              refine v_ild_3 dD_skyLine_96 ?_
              refine v_iconst (x := 0) dD_skyLine_97 rfl ?_
              refine v_iconst (x := 0) dD_skyLine_98 rfl ?_
              obtain ⟨r16, h17, he, hm⟩ := bd2_s hm
              refine v_cv5i (M' := tR_add) dD_skyLine_99 mlD_101 okR_add sh_91 hc_6 (Nat.le_of_ble_eq_true rfl) (ctR_add G (d + 1) _ _ _ _ _ _ sh_91 _ _ he) ?_
              refine v_if_eq dD_skyLine_102 (fun hc => ?_) (fun hc => ?_)
              · replace hm := it hc hm
                refine v_iconst (x := 0) dD_skyLine_109 rfl ?_
                cases hm
                exact v_zret0 dD_skyLine_110 rfl
              · replace hm := ie hc hm
                refine v_iconst (x := 1) dD_skyLine_105 rfl ?_
                refine v_goto dD_skyLine_106 ?_
                cases hm
                exact v_zret1 dD_skyLine_110 rfl
          · refine v_cmp_ne dD_skyLine_61 (fun hc => ?_) (fun hc => ?_)
            · replace hm := it hc hm
              refine v_ald_0 dD_skyLine_64 ?_
              refine v_iconst (x := 0) dD_skyLine_65 rfl ?_
              refine v_bipush (x := 9) dD_skyLine_66 rfl ?_
              obtain ⟨r18, h19, he, hm⟩ := bd2_s hm
              refine v_cv2i (M' := tD_takesNumber) dD_skyLine_68 mlD_105 okD_takesNumber sh_90 hc_5 (Nat.le_of_ble_eq_true rfl) (ctD_takesNumber G d _ _ _ _ he) ?_
              refine v_if_ne dD_skyLine_71 (fun hc => ?_) (fun hc => ?_)
              · replace hm := it hc hm
                refine v_iconst (x := 0) dD_skyLine_74 rfl ?_
                cases hm
                exact v_zret0 dD_skyLine_75 rfl
              · replace hm := ie hc hm
                refine v_ald_0 dD_skyLine_76 ?_
                refine v_getI dD_skyLine_77 fuD_109 sh_90 rf_90_9 ?_
                refine v_top hm (fun x20 hm => ?_)
                refine v_ist_3 dD_skyLine_80 (by decide) rfl ?_
                exact v_kw (kj11 _ _ hm) (wk_s (wk_s (wk_s (wk_s wk_e))))
            · replace hm := ie hc hm
              exact v_kw (kj11 _ _ hm) (wk_s (wk_s (wk_s (wk_s wk_e))))
      · replace hm := ie hc hm
        exact v_kw (kj5 hm) (wk_s (wk_n (wk_n (wk_n wk_e))))
def mD_officeLine (h0 : PH) : Option (Int32 × PH) :=
  bd (mD_advance h0) fun h1 =>
  bd2 (mD_takesNumber 0 999 h1) fun r2 h3 =>
  if r2 = 0 then
    some (0, h3)
  else
    lt (h3 90 9) fun x4 =>
    jn0 (bd2 (mD_refuse 1 h3) fun r6 h7 =>
      some (nb r6, h7)) fun j5 =>
    if (h3 90 6) = 1 then
      bd (mX_within (h3 90 7) 1 4 h3) fun r8 =>
      if r8 = 0 then
        j5
      else
        lt (h3 90 7) fun x9 =>
        bd (mD_advance h3) fun h10 =>
        bd2 (mD_takesNumber 0 ((h10 90 8) - 1) h10) fun r11 h12 =>
        if r11 = 0 then
          some (0, h12)
        else
          lt (h12 90 9) fun x13 =>
          jn2 (fun (x15 : Int32) (h16 : PH) =>
            jn2 (fun (x18 : Int32) (h19 : PH) =>
              bd2 (mD_takesSign 59 h19) fun r20 h21 =>
              if r20 = 0 then
                some (0, h21)
              else
                bd2 (mR_add 91 x4 x9 x13 x15 x18 h21) fun r22 h23 =>
                if r22 = 0 then
                  some (0, h23)
                else
                  some (1, h23)) fun j17 =>
            jn0 (bd2 (mD_takesNumber 1 99 h16) fun r25 h26 =>
              if r25 = 0 then
                some (0, h26)
              else
                lt (h26 90 9) fun x27 =>
                j17 x27 h26) fun j24 =>
            if x9 = 1 then
              j24
            else
              if x9 = 2 then
                j24
              else
                j17 0 h16) fun j14 =>
          if x9 = 2 then
            bd2 (mD_takesNumber 0 3 h12) fun r28 h29 =>
            if r28 = 0 then
              some (0, h29)
            else
              lt (h29 90 9) fun x30 =>
              j14 x30 h29
          else
            j14 0 h12
    else
      j5
theorem ctD_officeLine (G : GG) (d : Nat) (h0 : PH) (r : Int32 × PH) (hm : mD_officeLine h0 = some r) : Kx G tD_officeLine (d + 2) [.ref (gB G + 90)] h0 (some (.int r.1)) r.2 := by
  refine K_of_V (by decide) (by simp [cat_i, cat_r, fmtV_cat]) (by simp [tD_officeLine]) ?_
  change Vx G tD_officeLine (d + 2) 0 [some (.ref (gB G + 90)), none, none, none, none, none] [] h0 (some (.int r.1)) r.2
  unfold mD_officeLine at hm
  refine v_ald_0 dD_officeLine_0 ?_
  obtain ⟨h1, he, hm⟩ := bd_s hm
  refine v_cv0v (M' := tD_advance) dD_officeLine_1 mlD_54 okD_advance sh_90 hc_5 (Nat.le_of_ble_eq_true rfl) (ctD_advance G (d + 1) _ _ he) ?_
  refine v_ald_0 dD_officeLine_4 ?_
  refine v_iconst (x := 0) dD_officeLine_5 rfl ?_
  refine v_sipush (x := 999) dD_officeLine_6 rfl ?_
  obtain ⟨r2, h3, he, hm⟩ := bd2_s hm
  refine v_cv2i (M' := tD_takesNumber) dD_officeLine_9 mlD_105 okD_takesNumber sh_90 hc_5 (Nat.le_of_ble_eq_true rfl) (ctD_takesNumber G d _ _ _ _ he) ?_
  refine v_if_ne dD_officeLine_12 (fun hc => ?_) (fun hc => ?_)
  · replace hm := it hc hm
    refine v_iconst (x := 0) dD_officeLine_15 rfl ?_
    cases hm
    exact v_zret0 dD_officeLine_16 rfl
  · replace hm := ie hc hm
    refine v_ald_0 dD_officeLine_17 ?_
    refine v_getI dD_officeLine_18 fuD_109 sh_90 rf_90_9 ?_
    refine v_top hm (fun x4 hm => ?_)
    refine v_ist_1 dD_officeLine_21 (by decide) rfl ?_
    refine v_ald_0 dD_officeLine_22 ?_
    refine v_getI dD_officeLine_23 fuD_57 sh_90 rf_90_6 ?_
    refine v_iconst (x := 1) dD_officeLine_26 rfl ?_
    refine v_j0 (Vx G tD_officeLine (d + 2) 42 [some (.ref (gB G + 90)), none, none, none, none, none] [] h3 (some (.int r.1)) r.2) hm (fun hm => ?_) (fun j5 kj5 hm => ?_)
    · refine v_ald_0 dD_officeLine_42 ?_
      refine v_iconst (x := 1) dD_officeLine_43 rfl ?_
      obtain ⟨r6, h7, he, hm⟩ := bd2_s hm
      refine v_cv1i (M' := tD_refuse) dD_officeLine_44 mlD_63 okD_refuse sh_90 hc_5 (Nat.le_of_ble_eq_true rfl) (ctD_refuse G (d + 1) _ _ _ he) ?_
      cases hm
      exact v_zret dD_officeLine_47 rfl
    · refine v_cmp_ne dD_officeLine_27 (fun hc => ?_) (fun hc => ?_)
      · replace hm := it hc hm
        refine v_ald_0 dD_officeLine_30 ?_
        refine v_getI dD_officeLine_31 fuD_60 sh_90 rf_90_7 ?_
        refine v_iconst (x := 1) dD_officeLine_34 rfl ?_
        refine v_iconst (x := 4) dD_officeLine_35 rfl ?_
        obtain ⟨r8, he, hm⟩ := bd_s hm
        refine v_cn3i (M' := tX_within) dD_officeLine_36 mlD_112 okX_within (Nat.le_of_ble_eq_true rfl) (ctX_within G (d + 1) _ _ _ _ _ he) ?_
        refine v_if_ne dD_officeLine_39 (fun hc => ?_) (fun hc => ?_)
        · replace hm := it hc hm
          exact v_kw (kj5 hm) (wk_s (wk_n (wk_n (wk_n (wk_n (wk_n wk_e))))))
        · replace hm := ie hc hm
          refine v_ald_0 dD_officeLine_48 ?_
          refine v_getI dD_officeLine_49 fuD_60 sh_90 rf_90_7 ?_
          refine v_top hm (fun x9 hm => ?_)
          refine v_ist_2 dD_officeLine_52 (by decide) rfl ?_
          refine v_ald_0 dD_officeLine_53 ?_
          obtain ⟨h10, he, hm⟩ := bd_s hm
          refine v_cv0v (M' := tD_advance) dD_officeLine_54 mlD_54 okD_advance sh_90 hc_5 (Nat.le_of_ble_eq_true rfl) (ctD_advance G (d + 1) _ _ he) ?_
          refine v_ald_0 dD_officeLine_57 ?_
          refine v_iconst (x := 0) dD_officeLine_58 rfl ?_
          refine v_ald_0 dD_officeLine_59 ?_
          refine v_getI dD_officeLine_60 fuD_46 sh_90 rf_90_8 ?_
          refine v_iconst (x := 1) dD_officeLine_63 rfl ?_
          refine v_isub dD_officeLine_64 ?_
          obtain ⟨r11, h12, he, hm⟩ := bd2_s hm
          refine v_cv2i (M' := tD_takesNumber) dD_officeLine_65 mlD_105 okD_takesNumber sh_90 hc_5 (Nat.le_of_ble_eq_true rfl) (ctD_takesNumber G d _ _ _ _ he) ?_
          refine v_if_ne dD_officeLine_68 (fun hc => ?_) (fun hc => ?_)
          · replace hm := it hc hm
            refine v_iconst (x := 0) dD_officeLine_71 rfl ?_
            cases hm
            exact v_zret0 dD_officeLine_72 rfl
          · replace hm := ie hc hm
            refine v_ald_0 dD_officeLine_73 ?_
            refine v_getI dD_officeLine_74 fuD_109 sh_90 rf_90_9 ?_
            refine v_top hm (fun x13 hm => ?_)
            refine v_ist_3 dD_officeLine_77 (by decide) rfl ?_
            refine v_iconst (x := 0) dD_officeLine_78 rfl ?_
            refine v_ist_4 dD_officeLine_79 (by decide) rfl ?_
            refine v_ild_2 dD_officeLine_81 ?_
            refine v_iconst (x := 2) dD_officeLine_82 rfl ?_
            refine v_j2 (fun (x15 : Int32) (h16 : PH) => Vx G tD_officeLine (d + 2) 103 [some (.ref (gB G + 90)), some (.int x4), some (.int x9), some (.int x13), some (.int x15), none] [] h16 (some (.int r.1)) r.2) hm (fun x15 h16 hm => ?_) (fun j14 kj14 hm => ?_)
            · refine v_iconst (x := 0) dD_officeLine_103 rfl ?_
              refine v_ist_5 dD_officeLine_104 (by decide) rfl ?_
              refine v_ild_2 dD_officeLine_106 ?_
              refine v_iconst (x := 1) dD_officeLine_107 rfl ?_
              refine v_j2 (fun (x18 : Int32) (h19 : PH) => Vx G tD_officeLine (d + 2) 134 [some (.ref (gB G + 90)), some (.int x4), some (.int x9), some (.int x13), some (.int x15), some (.int x18)] [] h19 (some (.int r.1)) r.2) hm (fun x18 h19 hm => ?_) (fun j17 kj17 hm => ?_)
              · refine v_ald_0 dD_officeLine_134 ?_
                refine v_bipush (x := 59) dD_officeLine_135 rfl ?_
                obtain ⟨r20, h21, he, hm⟩ := bd2_s hm
                refine v_cv1i (M' := tD_takesSign) dD_officeLine_137 mlD_97 okD_takesSign sh_90 hc_5 (Nat.le_of_ble_eq_true rfl) (ctD_takesSign G d _ _ _ he) ?_
                refine v_if_eq dD_officeLine_140 (fun hc => ?_) (fun hc => ?_)
                · replace hm := it hc hm
                  refine v_iconst (x := 0) dD_officeLine_164 rfl ?_
                  cases hm
                  exact v_zret0 dD_officeLine_165 rfl
                · replace hm := ie hc hm
                  refine v_ald_0 dD_officeLine_143 ?_
                  refine v_getR dD_officeLine_144 fuD_14 sh_90 rf_90_0 ?_
                  refine v_ild_1 dD_officeLine_147 ?_
                  refine v_ild_2 dD_officeLine_148 ?_
                  refine v_ild_3 dD_officeLine_149 ?_
                  refine v_ild_4 dD_officeLine_150 ?_
                  refine v_ild_5 dD_officeLine_152 ?_
                  obtain ⟨r22, h23, he, hm⟩ := bd2_s hm
                  refine v_cv5i (M' := tR_add) dD_officeLine_154 mlD_101 okR_add sh_91 hc_6 (Nat.le_of_ble_eq_true rfl) (ctR_add G (d + 1) _ _ _ _ _ _ sh_91 _ _ he) ?_
                  refine v_if_eq dD_officeLine_157 (fun hc => ?_) (fun hc => ?_)
                  · replace hm := it hc hm
                    refine v_iconst (x := 0) dD_officeLine_164 rfl ?_
                    cases hm
                    exact v_zret0 dD_officeLine_165 rfl
                  · replace hm := ie hc hm
                    refine v_iconst (x := 1) dD_officeLine_160 rfl ?_
                    refine v_goto dD_officeLine_161 ?_
                    cases hm
                    exact v_zret1 dD_officeLine_165 rfl
              · refine v_j0 (Vx G tD_officeLine (d + 2) 116 [some (.ref (gB G + 90)), some (.int x4), some (.int x9), some (.int x13), some (.int x15), none] [] h16 (some (.int r.1)) r.2) hm (fun hm => ?_) (fun j24 kj24 hm => ?_)
                · refine v_ald_0 dD_officeLine_116 ?_
                  refine v_iconst (x := 1) dD_officeLine_117 rfl ?_
                  refine v_bipush (x := 99) dD_officeLine_118 rfl ?_
                  obtain ⟨r25, h26, he, hm⟩ := bd2_s hm
                  refine v_cv2i (M' := tD_takesNumber) dD_officeLine_120 mlD_105 okD_takesNumber sh_90 hc_5 (Nat.le_of_ble_eq_true rfl) (ctD_takesNumber G d _ _ _ _ he) ?_
                  refine v_if_ne dD_officeLine_123 (fun hc => ?_) (fun hc => ?_)
                  · replace hm := it hc hm
                    refine v_iconst (x := 0) dD_officeLine_126 rfl ?_
                    cases hm
                    exact v_zret0 dD_officeLine_127 rfl
                  · replace hm := ie hc hm
                    refine v_ald_0 dD_officeLine_128 ?_
                    refine v_getI dD_officeLine_129 fuD_109 sh_90 rf_90_9 ?_
                    refine v_top hm (fun x27 hm => ?_)
                    refine v_ist_5 dD_officeLine_132 (by decide) rfl ?_
                    exact v_kw (kj17 _ _ hm) (wk_s (wk_s (wk_s (wk_s (wk_s (wk_s wk_e))))))
                · refine v_cmp_eq dD_officeLine_108 (fun hc => ?_) (fun hc => ?_)
                  · replace hm := it hc hm
                    exact v_kw (kj24 hm) (wk_s (wk_s (wk_s (wk_s (wk_s (wk_n wk_e))))))
                  · replace hm := ie hc hm
                    refine v_ild_2 dD_officeLine_111 ?_
                    refine v_iconst (x := 2) dD_officeLine_112 rfl ?_
                    refine v_cmp_ne dD_officeLine_113 (fun hc => ?_) (fun hc => ?_)
                    · replace hm := it hc hm
                      exact v_kw (kj24 hm) (wk_s (wk_s (wk_s (wk_s (wk_s (wk_n wk_e))))))
                    · replace hm := ie hc hm
                      exact v_kw (kj17 _ _ hm) (wk_s (wk_s (wk_s (wk_s (wk_s (wk_s wk_e))))))
            · refine v_cmp_ne dD_officeLine_83 (fun hc => ?_) (fun hc => ?_)
              · replace hm := it hc hm
                refine v_ald_0 dD_officeLine_86 ?_
                refine v_iconst (x := 0) dD_officeLine_87 rfl ?_
                refine v_iconst (x := 3) dD_officeLine_88 rfl ?_
                obtain ⟨r28, h29, he, hm⟩ := bd2_s hm
                refine v_cv2i (M' := tD_takesNumber) dD_officeLine_89 mlD_105 okD_takesNumber sh_90 hc_5 (Nat.le_of_ble_eq_true rfl) (ctD_takesNumber G d _ _ _ _ he) ?_
                refine v_if_ne dD_officeLine_92 (fun hc => ?_) (fun hc => ?_)
                · replace hm := it hc hm
                  refine v_iconst (x := 0) dD_officeLine_95 rfl ?_
                  cases hm
                  exact v_zret0 dD_officeLine_96 rfl
                · replace hm := ie hc hm
                  refine v_ald_0 dD_officeLine_97 ?_
                  refine v_getI dD_officeLine_98 fuD_109 sh_90 rf_90_9 ?_
                  refine v_top hm (fun x30 hm => ?_)
                  refine v_ist_4 dD_officeLine_101 (by decide) rfl ?_
                  exact v_kw (kj14 _ _ hm) (wk_s (wk_s (wk_s (wk_s (wk_s (wk_n wk_e))))))
              · replace hm := ie hc hm
                exact v_kw (kj14 _ _ hm) (wk_s (wk_s (wk_s (wk_s (wk_s (wk_n wk_e))))))
      · replace hm := ie hc hm
        exact v_kw (kj5 hm) (wk_s (wk_n (wk_n (wk_n (wk_n (wk_n wk_e))))))
def mD_nextLine (h0 : PH) : Option (Int32 × PH) :=
  bd (mD_advance h0) fun h1 =>
  bd2 (mD_takesNumber 0 ((h1 90 8) - 1) h1) fun r2 h3 =>
  if r2 = 0 then
    some (0, h3)
  else
    lt (h3 90 9) fun x4 =>
    bd (mD_isWord 1 h3) fun r5 =>
    if r5 = 0 then
      bd2 (mD_refuse 1 h3) fun r6 h7 =>
      some (nb r6, h7)
    else
      bd (mD_advance h3) fun h8 =>
      jn0 (bd2 (mD_takesNumber 0 ((h8 90 8) - 1) h8) fun r10 h11 =>
        if r10 = 0 then
          some (0, h11)
        else
          bd2 (mD_takesSign 59 h11) fun r12 h13 =>
          if r12 = 0 then
            some (0, h13)
          else
            bd2 (mR_add 91 x4 (h13 90 9) 0 0 0 h13) fun r14 h15 =>
            if r14 = 0 then
              some (0, h15)
            else
              some (1, h15)) fun j9 =>
      if (h8 90 6) = 2 then
        if (h8 90 7) = x4 then
          bd2 (mD_refuse 2 h8) fun r16 h17 =>
          some (nb r16, h17)
        else
          j9
      else
        j9
theorem ctD_nextLine (G : GG) (d : Nat) (h0 : PH) (r : Int32 × PH) (hm : mD_nextLine h0 = some r) : Kx G tD_nextLine (d + 2) [.ref (gB G + 90)] h0 (some (.int r.1)) r.2 := by
  refine K_of_V (by decide) (by simp [cat_i, cat_r, fmtV_cat]) (by simp [tD_nextLine]) ?_
  change Vx G tD_nextLine (d + 2) 0 [some (.ref (gB G + 90)), none] [] h0 (some (.int r.1)) r.2
  unfold mD_nextLine at hm
  refine v_ald_0 dD_nextLine_0 ?_
  obtain ⟨h1, he, hm⟩ := bd_s hm
  refine v_cv0v (M' := tD_advance) dD_nextLine_1 mlD_54 okD_advance sh_90 hc_5 (Nat.le_of_ble_eq_true rfl) (ctD_advance G (d + 1) _ _ he) ?_
  refine v_ald_0 dD_nextLine_4 ?_
  refine v_iconst (x := 0) dD_nextLine_5 rfl ?_
  refine v_ald_0 dD_nextLine_6 ?_
  refine v_getI dD_nextLine_7 fuD_46 sh_90 rf_90_8 ?_
  refine v_iconst (x := 1) dD_nextLine_10 rfl ?_
  refine v_isub dD_nextLine_11 ?_
  obtain ⟨r2, h3, he, hm⟩ := bd2_s hm
  refine v_cv2i (M' := tD_takesNumber) dD_nextLine_12 mlD_105 okD_takesNumber sh_90 hc_5 (Nat.le_of_ble_eq_true rfl) (ctD_takesNumber G d _ _ _ _ he) ?_
  refine v_if_ne dD_nextLine_15 (fun hc => ?_) (fun hc => ?_)
  · replace hm := it hc hm
    refine v_iconst (x := 0) dD_nextLine_18 rfl ?_
    cases hm
    exact v_zret0 dD_nextLine_19 rfl
  · replace hm := ie hc hm
    refine v_ald_0 dD_nextLine_20 ?_
    refine v_getI dD_nextLine_21 fuD_109 sh_90 rf_90_9 ?_
    refine v_top hm (fun x4 hm => ?_)
    refine v_ist_1 dD_nextLine_24 (by decide) rfl ?_
    refine v_ald_0 dD_nextLine_25 ?_
    refine v_iconst (x := 1) dD_nextLine_26 rfl ?_
    obtain ⟨r5, he, hm⟩ := bd_s hm
    refine v_cv1i (M' := tD_isWord) dD_nextLine_27 mlD_91 okD_isWord sh_90 hc_5 (Nat.le_of_ble_eq_true rfl) (ctD_isWord G (d + 1) _ _ _ he) ?_
    refine v_if_ne dD_nextLine_30 (fun hc => ?_) (fun hc => ?_)
    · replace hm := it hc hm
      refine v_ald_0 dD_nextLine_33 ?_
      refine v_iconst (x := 1) dD_nextLine_34 rfl ?_
      obtain ⟨r6, h7, he, hm⟩ := bd2_s hm
      refine v_cv1i (M' := tD_refuse) dD_nextLine_35 mlD_63 okD_refuse sh_90 hc_5 (Nat.le_of_ble_eq_true rfl) (ctD_refuse G (d + 1) _ _ _ he) ?_
      cases hm
      exact v_zret dD_nextLine_38 rfl
    · replace hm := ie hc hm
      refine v_ald_0 dD_nextLine_39 ?_
      obtain ⟨h8, he, hm⟩ := bd_s hm
      refine v_cv0v (M' := tD_advance) dD_nextLine_40 mlD_54 okD_advance sh_90 hc_5 (Nat.le_of_ble_eq_true rfl) (ctD_advance G (d + 1) _ _ he) ?_
      refine v_ald_0 dD_nextLine_43 ?_
      refine v_getI dD_nextLine_44 fuD_57 sh_90 rf_90_6 ?_
      refine v_iconst (x := 2) dD_nextLine_47 rfl ?_
      refine v_j0 (Vx G tD_nextLine (d + 2) 65 [some (.ref (gB G + 90)), some (.int x4)] [] h8 (some (.int r.1)) r.2) hm (fun hm => ?_) (fun j9 kj9 hm => ?_)
      · refine v_ald_0 dD_nextLine_65 ?_
        refine v_iconst (x := 0) dD_nextLine_66 rfl ?_
        refine v_ald_0 dD_nextLine_67 ?_
        refine v_getI dD_nextLine_68 fuD_46 sh_90 rf_90_8 ?_
        refine v_iconst (x := 1) dD_nextLine_71 rfl ?_
        refine v_isub dD_nextLine_72 ?_
        obtain ⟨r10, h11, he, hm⟩ := bd2_s hm
        refine v_cv2i (M' := tD_takesNumber) dD_nextLine_73 mlD_105 okD_takesNumber sh_90 hc_5 (Nat.le_of_ble_eq_true rfl) (ctD_takesNumber G d _ _ _ _ he) ?_
        refine v_if_eq dD_nextLine_76 (fun hc => ?_) (fun hc => ?_)
        · replace hm := it hc hm
          refine v_iconst (x := 0) dD_nextLine_110 rfl ?_
          cases hm
          exact v_zret0 dD_nextLine_111 rfl
        · replace hm := ie hc hm
          refine v_ald_0 dD_nextLine_79 ?_
          refine v_bipush (x := 59) dD_nextLine_80 rfl ?_
          obtain ⟨r12, h13, he, hm⟩ := bd2_s hm
          refine v_cv1i (M' := tD_takesSign) dD_nextLine_82 mlD_97 okD_takesSign sh_90 hc_5 (Nat.le_of_ble_eq_true rfl) (ctD_takesSign G d _ _ _ he) ?_
          refine v_if_eq dD_nextLine_85 (fun hc => ?_) (fun hc => ?_)
          · replace hm := it hc hm
            refine v_iconst (x := 0) dD_nextLine_110 rfl ?_
            cases hm
            exact v_zret0 dD_nextLine_111 rfl
          · replace hm := ie hc hm
            refine v_ald_0 dD_nextLine_88 ?_
            refine v_getR dD_nextLine_89 fuD_14 sh_90 rf_90_0 ?_
            refine v_ild_1 dD_nextLine_92 ?_
            refine v_ald_0 dD_nextLine_93 ?_
            refine v_getI dD_nextLine_94 fuD_109 sh_90 rf_90_9 ?_
            refine v_iconst (x := 0) dD_nextLine_97 rfl ?_
            refine v_iconst (x := 0) dD_nextLine_98 rfl ?_
            refine v_iconst (x := 0) dD_nextLine_99 rfl ?_
            obtain ⟨r14, h15, he, hm⟩ := bd2_s hm
            refine v_cv5i (M' := tR_add) dD_nextLine_100 mlD_101 okR_add sh_91 hc_6 (Nat.le_of_ble_eq_true rfl) (ctR_add G (d + 1) _ _ _ _ _ _ sh_91 _ _ he) ?_
            refine v_if_eq dD_nextLine_103 (fun hc => ?_) (fun hc => ?_)
            · replace hm := it hc hm
              refine v_iconst (x := 0) dD_nextLine_110 rfl ?_
              cases hm
              exact v_zret0 dD_nextLine_111 rfl
            · replace hm := ie hc hm
              refine v_iconst (x := 1) dD_nextLine_106 rfl ?_
              refine v_goto dD_nextLine_107 ?_
              cases hm
              exact v_zret1 dD_nextLine_111 rfl
      · refine v_cmp_ne dD_nextLine_48 (fun hc => ?_) (fun hc => ?_)
        · replace hm := it hc hm
          refine v_ald_0 dD_nextLine_51 ?_
          refine v_getI dD_nextLine_52 fuD_60 sh_90 rf_90_7 ?_
          refine v_ild_1 dD_nextLine_55 ?_
          refine v_cmp_ne dD_nextLine_56 (fun hc => ?_) (fun hc => ?_)
          · replace hm := it hc hm
            refine v_ald_0 dD_nextLine_59 ?_
            refine v_iconst (x := 2) dD_nextLine_60 rfl ?_
            obtain ⟨r16, h17, he, hm⟩ := bd2_s hm
            refine v_cv1i (M' := tD_refuse) dD_nextLine_61 mlD_63 okD_refuse sh_90 hc_5 (Nat.le_of_ble_eq_true rfl) (ctD_refuse G (d + 1) _ _ _ he) ?_
            cases hm
            exact v_zret dD_nextLine_64 rfl
          · replace hm := ie hc hm
            exact v_kw (kj9 hm) (wk_s (wk_s wk_e))
        · replace hm := ie hc hm
          exact v_kw (kj9 hm) (wk_s (wk_s wk_e))
def mD_reads_L43 (p1 : Int32) (k0 : PH → Option (Int32 × PH)) (k1 : PH → Option (Int32 × PH)) : Nat → Int32 → PH → Option (Int32 × PH)
  | 0, _, _ => none
  | n + 1, v3, hv =>
    if 16 < v3 then
      some (0, hv)
    else
      if (hv 90 6) = 0 then
        some (1, hv)
      else
        if (hv 90 6) = 1 then
          jn1 (fun (x9 : Int32) =>
            if (hv 90 7) ≤ x9 then
              if v3 = 16 then
                k1 hv
              else
                jn2 (fun (x11 : Int32) (h12 : PH) =>
                  if x11 = 0 then
                    some (0, h12)
                  else
                    mD_reads_L43 p1 k0 k1 n (v3 + 1) h12) fun j10 =>
                if p1 = 0 then
                  bd2 (mD_lawLine hv) fun r13 h14 =>
                  j10 r13 h14
                else
                  if p1 = 1 then
                    bd2 (mD_skyLine hv) fun r15 h16 =>
                    j10 r15 h16
                  else
                    if p1 = 2 then
                      bd2 (mD_officeLine hv) fun r17 h18 =>
                      j10 r17 h18
                    else
                      bd2 (mD_nextLine hv) fun r19 h20 =>
                      j10 r19 h20
            else
              k0 hv) fun j8 =>
          if p1 = 0 then
            j8 2
          else
            j8 0
        else
          k0 hv
def mD_reads (p1 : Int32) (p2 : Int32) (h0 : PH) : Option (Int32 × PH) :=
  bd (mD_wordsOf p1 h0) fun r1 =>
  bd (mA_scan r1 h0) fun h2 =>
  lt (up h2 90 8 p2) fun h3 =>
  lt (up h3 91 3 0) fun h4 =>
  lt (up h4 93 3 0) fun h5 =>
  lt (up h5 90 5 (-1)) fun h6 =>
  bd (mD_advance h6) fun h7 =>
  mD_reads_L43 p1 (fun (h21 : PH) =>
    bd2 (mD_refuse 1 h21) fun r22 h23 =>
    some (nb r22, h23)) (fun (h24 : PH) =>
    bd2 (mD_refuse 3 h24) fun r25 h26 =>
    some (nb r25, h26)) FU 0 h7
theorem wD_reads_L43 (G : GG) (d : Nat) (p1 : Int32) (k0 : PH → Option (Int32 × PH)) (k1 : PH → Option (Int32 × PH)) (r : Int32 × PH) (kk0 : ∀ (hy : PH), k0 hy = some r → Vx G tD_reads (d + 34) 82 [some (.ref (gB G + 90)), none, none, none, none] [] hy (some (.int r.1)) r.2) (kk1 : ∀ (hy : PH), k1 hy = some r → Vx G tD_reads (d + 34) 94 [some (.ref (gB G + 90)), none, none, none, none] [] hy (some (.int r.1)) r.2) : ∀ (n : Nat) (v3 : Int32) (hv : PH), mD_reads_L43 p1 k0 k1 n v3 hv = some r → Vx G tD_reads (d + 34) 43 [some (.ref (gB G + 90)), some (.int p1), none, some (.int v3), none] [] hv (some (.int r.1)) r.2 := by
  intro n
  induction n with
  | zero => intro v3 hv hm; cases hm
  | succ n ih =>
    intro v3 hv hm
    unfold mD_reads_L43 at hm
    refine v_ild_3 dD_reads_43 ?_
    refine v_bipush (x := 16) dD_reads_44 rfl ?_
    refine v_cmp_gt dD_reads_46 (fun hc => ?_) (fun hc => ?_)
    · replace hm := it hc hm
      refine v_iconst (x := 0) dD_reads_154 rfl ?_
      cases hm
      exact v_zret0 dD_reads_155 rfl
    · replace hm := ie hc hm
      refine v_ald_0 dD_reads_49 ?_
      refine v_getI dD_reads_50 fuD_57 sh_90 rf_90_6 ?_
      refine v_if_ne dD_reads_53 (fun hc => ?_) (fun hc => ?_)
      · replace hm := it hc hm
        refine v_iconst (x := 1) dD_reads_56 rfl ?_
        cases hm
        exact v_zret1 dD_reads_57 rfl
      · replace hm := ie hc hm
        refine v_ald_0 dD_reads_58 ?_
        refine v_getI dD_reads_59 fuD_57 sh_90 rf_90_6 ?_
        refine v_iconst (x := 1) dD_reads_62 rfl ?_
        refine v_cmp_ne dD_reads_63 (fun hc => ?_) (fun hc => ?_)
        · replace hm := it hc hm
          refine v_ald_0 dD_reads_66 ?_
          refine v_getI dD_reads_67 fuD_60 sh_90 rf_90_7 ?_
          refine v_ild_1 dD_reads_70 ?_
          refine v_j1 (fun (x9 : Int32) => Vx G tD_reads (d + 34) 79 [some (.ref (gB G + 90)), some (.int p1), none, some (.int v3), none] [.int x9, .int (hv 90 7)] hv (some (.int r.1)) r.2) hm (fun x9 hm => ?_) (fun j8 kj8 hm => ?_)
          · refine v_cmp_le dD_reads_79 (fun hc => ?_) (fun hc => ?_)
            · replace hm := it hc hm
              refine v_ild_3 dD_reads_88 ?_
              refine v_bipush (x := 16) dD_reads_89 rfl ?_
              refine v_cmp_ne dD_reads_91 (fun hc => ?_) (fun hc => ?_)
              · replace hm := it hc hm
                exact v_kw (kk1 _ hm) (wk_s (wk_n (wk_n (wk_n (wk_n wk_e)))))
              · replace hm := ie hc hm
                refine v_ild_1 dD_reads_100 ?_
                refine v_j2 (fun (x11 : Int32) (h12 : PH) => Vx G tD_reads (d + 34) 139 [some (.ref (gB G + 90)), some (.int p1), none, some (.int v3), none] [.int x11] h12 (some (.int r.1)) r.2) hm (fun x11 h12 hm => ?_) (fun j10 kj10 hm => ?_)
                · refine v_ist_4 dD_reads_139 (by decide) rfl ?_
                  refine v_ild_4 dD_reads_141 ?_
                  refine v_if_ne dD_reads_143 (fun hc => ?_) (fun hc => ?_)
                  · replace hm := it hc hm
                    refine v_iconst (x := 0) dD_reads_146 rfl ?_
                    cases hm
                    exact v_zret0 dD_reads_147 rfl
                  · replace hm := ie hc hm
                    refine v_inc_3 1 dD_reads_148 rfl (by decide) rfl ?_
                    refine v_goto dD_reads_151 ?_
                    exact v_kw (ih _ _ hm) (wk_s (wk_s (wk_n (wk_s (wk_n wk_e)))))
                · refine v_if_ne dD_reads_101 (fun hc => ?_) (fun hc => ?_)
                  · replace hm := it hc hm
                    refine v_ald_0 dD_reads_104 ?_
                    obtain ⟨r13, h14, he, hm⟩ := bd2_s hm
                    refine v_cv0i (M' := tD_lawLine) dD_reads_105 mlD_67 okD_lawLine sh_90 hc_5 (Nat.le_of_ble_eq_true rfl) (ctD_lawLine G d _ _ he) ?_
                    refine v_goto dD_reads_108 ?_
                    exact v_kw (kj10 _ _ hm) (wk_s (wk_s (wk_n (wk_s (wk_n wk_e)))))
                  · replace hm := ie hc hm
                    refine v_ild_1 dD_reads_111 ?_
                    refine v_iconst (x := 1) dD_reads_112 rfl ?_
                    refine v_cmp_ne dD_reads_113 (fun hc => ?_) (fun hc => ?_)
                    · replace hm := it hc hm
                      refine v_ald_0 dD_reads_116 ?_
                      obtain ⟨r15, h16, he, hm⟩ := bd2_s hm
                      refine v_cv0i (M' := tD_skyLine) dD_reads_117 mlD_71 okD_skyLine sh_90 hc_5 (Nat.le_of_ble_eq_true rfl) (ctD_skyLine G (d + 31) _ _ he) ?_
                      refine v_goto dD_reads_120 ?_
                      exact v_kw (kj10 _ _ hm) (wk_s (wk_s (wk_n (wk_s (wk_n wk_e)))))
                    · replace hm := ie hc hm
                      refine v_ild_1 dD_reads_123 ?_
                      refine v_iconst (x := 2) dD_reads_124 rfl ?_
                      refine v_cmp_ne dD_reads_125 (fun hc => ?_) (fun hc => ?_)
                      · replace hm := it hc hm
                        refine v_ald_0 dD_reads_128 ?_
                        obtain ⟨r17, h18, he, hm⟩ := bd2_s hm
                        refine v_cv0i (M' := tD_officeLine) dD_reads_129 mlD_74 okD_officeLine sh_90 hc_5 (Nat.le_of_ble_eq_true rfl) (ctD_officeLine G (d + 31) _ _ he) ?_
                        refine v_goto dD_reads_132 ?_
                        exact v_kw (kj10 _ _ hm) (wk_s (wk_s (wk_n (wk_s (wk_n wk_e)))))
                      · replace hm := ie hc hm
                        refine v_ald_0 dD_reads_135 ?_
                        obtain ⟨r19, h20, he, hm⟩ := bd2_s hm
                        refine v_cv0i (M' := tD_nextLine) dD_reads_136 mlD_77 okD_nextLine sh_90 hc_5 (Nat.le_of_ble_eq_true rfl) (ctD_nextLine G (d + 31) _ _ he) ?_
                        exact v_kw (kj10 _ _ hm) (wk_s (wk_s (wk_n (wk_s (wk_n wk_e)))))
            · replace hm := ie hc hm
              exact v_kw (kk0 _ hm) (wk_s (wk_n (wk_n (wk_n (wk_n wk_e)))))
          · refine v_if_ne dD_reads_71 (fun hc => ?_) (fun hc => ?_)
            · replace hm := it hc hm
              refine v_iconst (x := 2) dD_reads_74 rfl ?_
              refine v_goto dD_reads_75 ?_
              exact v_kw (kj8 _ hm) (wk_s (wk_s (wk_n (wk_s (wk_n wk_e)))))
            · replace hm := ie hc hm
              refine v_iconst (x := 0) dD_reads_78 rfl ?_
              exact v_kw (kj8 _ hm) (wk_s (wk_s (wk_n (wk_s (wk_n wk_e)))))
        · replace hm := ie hc hm
          exact v_kw (kk0 _ hm) (wk_s (wk_n (wk_n (wk_n (wk_n wk_e)))))
theorem ctD_reads (G : GG) (d : Nat) (p1 : Int32) (p2 : Int32) (h0 : PH) (r : Int32 × PH) (hm : mD_reads p1 p2 h0 = some r) : Kx G tD_reads (d + 34) [.ref (gB G + 90), .int p1, .int p2] h0 (some (.int r.1)) r.2 := by
  refine K_of_V (by decide) (by simp [cat_i, cat_r, fmtV_cat]) (by simp [tD_reads]) ?_
  change Vx G tD_reads (d + 34) 0 [some (.ref (gB G + 90)), some (.int p1), some (.int p2), none, none] [] h0 (some (.int r.1)) r.2
  unfold mD_reads at hm
  refine v_ald_0 dD_reads_0 ?_
  refine v_getR dD_reads_1 fuD_32 sh_90 rf_90_4 ?_
  refine v_ild_1 dD_reads_4 ?_
  obtain ⟨r1, he, hm⟩ := bd_s hm
  have ur1 := wordsOf_lt _ () he
  refine v_cs1s (M' := tD_wordsOf) dD_reads_5 mlD_36 okD_wordsOf (Nat.le_of_ble_eq_true rfl) (ctD_wordsOf G (d + 33) _ _ _ he) ?_
  obtain ⟨h2, he, hm⟩ := bd_s hm
  refine v_cv1v (M' := tA_scan) dD_reads_8 mlD_40 okA_scan sh_85 hc_10 (Nat.le_of_ble_eq_true rfl) (ctA_scan G (d + 26) _ ur1 _ _ he) ?_
  refine v_ald_0 dD_reads_11 ?_
  refine v_ild_2 dD_reads_12 ?_
  refine v_putIl dD_reads_13 fuD_46 ft_5_8 sh_90 rf_90_8 hm (fun h3 hm => ?_)
  refine v_ald_0 dD_reads_16 ?_
  refine v_getR dD_reads_17 fuD_14 sh_90 rf_90_0 ?_
  refine v_iconst (x := 0) dD_reads_20 rfl ?_
  refine v_putIl dD_reads_21 fuD_49 ft_6_3 sh_91 rf_91_3 hm (fun h4 hm => ?_)
  refine v_ald_0 dD_reads_24 ?_
  refine v_getR dD_reads_25 fuD_22 sh_90 rf_90_1 ?_
  refine v_iconst (x := 0) dD_reads_28 rfl ?_
  refine v_putIl dD_reads_29 fuD_49 ft_6_3 sh_93 rf_93_3 hm (fun h5 hm => ?_)
  refine v_ald_0 dD_reads_32 ?_
  refine v_iconst (x := (-1)) dD_reads_33 rfl ?_
  refine v_putIl dD_reads_34 fuD_51 ft_5_5 sh_90 rf_90_5 hm (fun h6 hm => ?_)
  refine v_ald_0 dD_reads_37 ?_
  obtain ⟨h7, he, hm⟩ := bd_s hm
  refine v_cv0v (M' := tD_advance) dD_reads_38 mlD_54 okD_advance sh_90 hc_5 (Nat.le_of_ble_eq_true rfl) (ctD_advance G (d + 33) _ _ he) ?_
  refine v_iconst (x := 0) dD_reads_41 rfl ?_
  refine v_ist_3 dD_reads_42 (by decide) rfl ?_
  refine v_kw (wD_reads_L43 G d _ _ _ _ (fun h21 hm => ?_) (fun h24 hm => ?_) FU _ _ hm) (wk_s (wk_s (wk_n (wk_s (wk_n wk_e)))))
  · refine v_ald_0 dD_reads_82 ?_
    refine v_iconst (x := 1) dD_reads_83 rfl ?_
    obtain ⟨r22, h23, he, hm⟩ := bd2_s hm
    refine v_cv1i (M' := tD_refuse) dD_reads_84 mlD_63 okD_refuse sh_90 hc_5 (Nat.le_of_ble_eq_true rfl) (ctD_refuse G (d + 33) _ _ _ he) ?_
    cases hm
    exact v_zret dD_reads_87 rfl
  · refine v_ald_0 dD_reads_94 ?_
    refine v_iconst (x := 3) dD_reads_95 rfl ?_
    obtain ⟨r25, h26, he, hm⟩ := bd2_s hm
    refine v_cv1i (M' := tD_refuse) dD_reads_96 mlD_63 okD_refuse sh_90 hc_5 (Nat.le_of_ble_eq_true rfl) (ctD_refuse G (d + 33) _ _ _ he) ?_
    cases hm
    exact v_zret dD_reads_99 rfl
def mX_state (p1 : Int32) (h0 : PH) : Option (Int32 × PH) :=
  lt (h0 1 7) fun x1 =>
  lt (up h0 1 7 p1) fun h2 =>
  bd (mP_forget h2) fun h3 =>
  some (x1, h3)
theorem ctX_state (G : GG) (d : Nat) (p1 : Int32) (h0 : PH) (r : Int32 × PH) (hm : mX_state p1 h0 = some r) : Kx G tX_state (d + 1) [.ref (gB G + 0), .int p1] h0 (some (.int r.1)) r.2 := by
  refine K_of_V (by decide) (by simp [cat_i, cat_r, fmtV_cat]) (by simp [tX_state]) ?_
  change Vx G tX_state (d + 1) 0 [some (.ref (gB G + 0)), some (.int p1), none] [] h0 (some (.int r.1)) r.2
  unfold mX_state at hm
  refine v_ald_0 dX_state_0 ?_
  refine v_getR dX_state_1 fuX_25 sh_0 rf_0_0 ?_
  refine v_getI dX_state_4 fuX_104 sh_1 rf_1_7 ?_
  refine v_top hm (fun x1 hm => ?_)
  refine v_ist_2 dX_state_7 (by decide) rfl ?_
  refine v_ald_0 dX_state_8 ?_
  refine v_getR dX_state_9 fuX_25 sh_0 rf_0_0 ?_
  refine v_ild_1 dX_state_12 ?_
  refine v_putIl dX_state_13 fuX_104 ft_1_7 sh_1 rf_1_7 hm (fun h2 hm => ?_)
  refine v_ald_0 dX_state_16 ?_
  refine v_getR dX_state_17 fuX_59 sh_0 rf_0_7 ?_
  obtain ⟨h3, he, hm⟩ := bd_s hm
  refine v_cv0v (M' := tP_forget) dX_state_20 mlX_108 okP_forget sh_70 hc_4 (Nat.le_of_ble_eq_true rfl) (ctP_forget G d _ _ he) ?_
  refine v_ild_2 dX_state_23 ?_
  cases hm
  exact v_iret dX_state_24 rfl
def mX_house (p1 : Int32) (p2 : Int32) (p3 : Int32) (h0 : PH) : Option (Int32 × PH) :=
  bd (mX_within p1 0 99 h0) fun r1 =>
  jn1 (fun (x3 : Int32) =>
    if x3 = 0 then
      some ((-1), h0)
    else
      if (h0 1 1) < 12 then
        bd (mP_forget h0) fun h4 =>
        bd2 (mB_build 1 p1 p2 p3 h4) fun r5 h6 =>
        some (r5, h6)
      else
        some ((-1), h0)) fun j2 =>
  if r1 = 0 then
    j2 0
  else
    bd (mX_within p2 0 9 h0) fun r7 =>
    if r7 = 0 then
      j2 0
    else
      bd (mX_within p3 0 9 h0) fun r8 =>
      if r8 = 0 then
        j2 0
      else
        j2 1
theorem ctX_house (G : GG) (d : Nat) (p1 : Int32) (p2 : Int32) (p3 : Int32) (h0 : PH) (r : Int32 × PH) (hm : mX_house p1 p2 p3 h0 = some r) : Kx G tX_house (d + 2) [.ref (gB G + 0), .int p1, .int p2, .int p3] h0 (some (.int r.1)) r.2 := by
  refine K_of_V (by decide) (by simp [cat_i, cat_r, fmtV_cat]) (by simp [tX_house]) ?_
  change Vx G tX_house (d + 2) 0 [some (.ref (gB G + 0)), some (.int p1), some (.int p2), some (.int p3), none] [] h0 (some (.int r.1)) r.2
  unfold mX_house at hm
  refine v_ild_1 dX_house_0 ?_
  refine v_iconst (x := 0) dX_house_1 rfl ?_
  refine v_bipush (x := 99) dX_house_2 rfl ?_
  obtain ⟨r1, he, hm⟩ := bd_s hm
  refine v_cs3i (M' := tX_within) dX_house_4 mlX_111 okX_within (Nat.le_of_ble_eq_true rfl) (ctX_within G (d + 1) _ _ _ _ _ he) ?_
  refine v_j1 (fun (x3 : Int32) => Vx G tX_house (d + 2) 35 [some (.ref (gB G + 0)), some (.int p1), some (.int p2), some (.int p3), none] [.int x3] h0 (some (.int r.1)) r.2) hm (fun x3 hm => ?_) (fun j2 kj2 hm => ?_)
  · refine v_ist_4 dX_house_35 (by decide) rfl ?_
    refine v_ild_4 dX_house_37 ?_
    refine v_if_eq dX_house_39 (fun hc => ?_) (fun hc => ?_)
    · replace hm := it hc hm
      refine v_iconst (x := (-1)) dX_house_54 rfl ?_
      cases hm
      exact v_iret dX_house_55 rfl
    · replace hm := ie hc hm
      refine v_ald_0 dX_house_42 ?_
      refine v_getR dX_house_43 fuX_25 sh_0 rf_0_0 ?_
      refine v_getI dX_house_46 fuX_115 sh_1 rf_1_1 ?_
      refine v_bipush (x := 12) dX_house_49 rfl ?_
      refine v_cmp_lt dX_house_51 (fun hc => ?_) (fun hc => ?_)
      · replace hm := it hc hm
        refine v_ald_0 dX_house_56 ?_
        refine v_getR dX_house_57 fuX_59 sh_0 rf_0_7 ?_
        obtain ⟨h4, he, hm⟩ := bd_s hm
        refine v_cv0v (M' := tP_forget) dX_house_60 mlX_108 okP_forget sh_70 hc_4 (Nat.le_of_ble_eq_true rfl) (ctP_forget G (d + 1) _ _ he) ?_
        refine v_ald_0 dX_house_63 ?_
        refine v_getR dX_house_64 fuX_25 sh_0 rf_0_0 ?_
        refine v_ild_1 dX_house_67 ?_
        refine v_ild_2 dX_house_68 ?_
        refine v_ild_3 dX_house_69 ?_
        obtain ⟨r5, h6, he, hm⟩ := bd2_s hm
        refine v_cv3i (M' := tB_build) dX_house_70 mlX_118 okB_build sh_1 hc_1 (Nat.le_of_ble_eq_true rfl) (ctB_build G d _ _ _ _ sh_1 _ _ he) ?_
        cases hm
        exact v_iret dX_house_73 rfl
      · replace hm := ie hc hm
        refine v_iconst (x := (-1)) dX_house_54 rfl ?_
        cases hm
        exact v_iret dX_house_55 rfl
  · refine v_if_eq dX_house_7 (fun hc => ?_) (fun hc => ?_)
    · replace hm := it hc hm
      refine v_iconst (x := 0) dX_house_34 rfl ?_
      exact v_kw (kj2 _ hm) (wk_s (wk_s (wk_s (wk_s (wk_n wk_e)))))
    · replace hm := ie hc hm
      refine v_ild_2 dX_house_10 ?_
      refine v_iconst (x := 0) dX_house_11 rfl ?_
      refine v_bipush (x := 9) dX_house_12 rfl ?_
      obtain ⟨r7, he, hm⟩ := bd_s hm
      refine v_cs3i (M' := tX_within) dX_house_14 mlX_111 okX_within (Nat.le_of_ble_eq_true rfl) (ctX_within G (d + 1) _ _ _ _ _ he) ?_
      refine v_if_eq dX_house_17 (fun hc => ?_) (fun hc => ?_)
      · replace hm := it hc hm
        refine v_iconst (x := 0) dX_house_34 rfl ?_
        exact v_kw (kj2 _ hm) (wk_s (wk_s (wk_s (wk_s (wk_n wk_e)))))
      · replace hm := ie hc hm
        refine v_ild_3 dX_house_20 ?_
        refine v_iconst (x := 0) dX_house_21 rfl ?_
        refine v_bipush (x := 9) dX_house_22 rfl ?_
        obtain ⟨r8, he, hm⟩ := bd_s hm
        refine v_cs3i (M' := tX_within) dX_house_24 mlX_111 okX_within (Nat.le_of_ble_eq_true rfl) (ctX_within G (d + 1) _ _ _ _ _ he) ?_
        refine v_if_eq dX_house_27 (fun hc => ?_) (fun hc => ?_)
        · replace hm := it hc hm
          refine v_iconst (x := 0) dX_house_34 rfl ?_
          exact v_kw (kj2 _ hm) (wk_s (wk_s (wk_s (wk_s (wk_n wk_e)))))
        · replace hm := ie hc hm
          refine v_iconst (x := 1) dX_house_30 rfl ?_
          refine v_goto dX_house_31 ?_
          exact v_kw (kj2 _ hm) (wk_s (wk_s (wk_s (wk_s (wk_n wk_e)))))
def mX_mostToSet (p0 : Int32) (h0 : PH) : Option (Int32) :=
  if p0 < 4 then
    some 99
  else
    if p0 = 7 then
      some 99
    else
      some 9
theorem ctX_mostToSet (G : GG) (d : Nat) (p0 : Int32) (h0 : PH) (r : Int32) (hm : mX_mostToSet p0 h0 = some r) : Kx G tX_mostToSet d [.int p0] h0 (some (.int r)) h0 := by
  refine K_of_V (by decide) (by simp [cat_i, cat_r, fmtV_cat]) (by simp [tX_mostToSet]) ?_
  change Vx G tX_mostToSet d 0 [some (.int p0)] [] h0 (some (.int r)) h0
  unfold mX_mostToSet at hm
  refine v_ild_0 dX_mostToSet_0 ?_
  refine v_iconst (x := 4) dX_mostToSet_1 rfl ?_
  refine v_cmp_lt dX_mostToSet_2 (fun hc => ?_) (fun hc => ?_)
  · replace hm := it hc hm
    refine v_bipush (x := 99) dX_mostToSet_11 rfl ?_
    refine v_goto dX_mostToSet_13 ?_
    cases hm
    exact v_iret dX_mostToSet_18 rfl
  · replace hm := ie hc hm
    refine v_ild_0 dX_mostToSet_5 ?_
    refine v_bipush (x := 7) dX_mostToSet_6 rfl ?_
    refine v_cmp_ne dX_mostToSet_8 (fun hc => ?_) (fun hc => ?_)
    · replace hm := it hc hm
      refine v_bipush (x := 99) dX_mostToSet_11 rfl ?_
      refine v_goto dX_mostToSet_13 ?_
      cases hm
      exact v_iret dX_mostToSet_18 rfl
    · replace hm := ie hc hm
      refine v_bipush (x := 9) dX_mostToSet_16 rfl ?_
      cases hm
      exact v_iret dX_mostToSet_18 rfl
def mX_set (p1 : Int32) (p2 : Int32) (p3 : Int32) (h0 : PH) : Option (Int32 × PH) :=
  jn1 (fun (h2 : PH) =>
    bd (mP_forget h2) fun h3 =>
    some (1, h3)) fun j1 =>
  if p1 = 8 then
    bd (mX_within p3 0 9 h0) fun r4 =>
    if r4 = 0 then
      some (0, h0)
    else
      lt (up h0 1 2 p3) fun h5 =>
      j1 h5
  else
    bd (mX_within p1 0 7 h0) fun r6 =>
    if r6 = 0 then
      some (0, h0)
    else
      bd (mB_has 1 p2 h0) fun r7 =>
      if r7 = 0 then
        some (0, h0)
      else
        bd (mX_mostToSet p1 h0) fun r8 =>
        bd (mX_within p3 0 r8 h0) fun r9 =>
        if r9 = 0 then
          some (0, h0)
        else
          bd (mB_write 1 p2 p1 p3 h0) fun h10 =>
          j1 h10
theorem ctX_set (G : GG) (d : Nat) (p1 : Int32) (p2 : Int32) (p3 : Int32) (h0 : PH) (r : Int32 × PH) (hm : mX_set p1 p2 p3 h0 = some r) : Kx G tX_set (d + 1) [.ref (gB G + 0), .int p1, .int p2, .int p3] h0 (some (.int r.1)) r.2 := by
  refine K_of_V (by decide) (by simp [cat_i, cat_r, fmtV_cat]) (by simp [tX_set]) ?_
  change Vx G tX_set (d + 1) 0 [some (.ref (gB G + 0)), some (.int p1), some (.int p2), some (.int p3)] [] h0 (some (.int r.1)) r.2
  unfold mX_set at hm
  refine v_ild_1 dX_set_0 ?_
  refine v_bipush (x := 8) dX_set_1 rfl ?_
  refine v_j1 (fun (h2 : PH) => Vx G tX_set (d + 1) 74 [some (.ref (gB G + 0)), none, none, none] [] h2 (some (.int r.1)) r.2) hm (fun h2 hm => ?_) (fun j1 kj1 hm => ?_)
  · refine v_ald_0 dX_set_74 ?_
    refine v_getR dX_set_75 fuX_59 sh_0 rf_0_7 ?_
    obtain ⟨h3, he, hm⟩ := bd_s hm
    refine v_cv0v (M' := tP_forget) dX_set_78 mlX_108 okP_forget sh_70 hc_4 (Nat.le_of_ble_eq_true rfl) (ctP_forget G d _ _ he) ?_
    refine v_iconst (x := 1) dX_set_81 rfl ?_
    cases hm
    exact v_zret1 dX_set_82 rfl
  · refine v_cmp_ne dX_set_3 (fun hc => ?_) (fun hc => ?_)
    · replace hm := it hc hm
      refine v_ild_3 dX_set_6 ?_
      refine v_iconst (x := 0) dX_set_7 rfl ?_
      refine v_bipush (x := 9) dX_set_8 rfl ?_
      obtain ⟨r4, he, hm⟩ := bd_s hm
      refine v_cs3i (M' := tX_within) dX_set_10 mlX_111 okX_within (Nat.le_of_ble_eq_true rfl) (ctX_within G d _ _ _ _ _ he) ?_
      refine v_if_ne dX_set_13 (fun hc => ?_) (fun hc => ?_)
      · replace hm := it hc hm
        refine v_iconst (x := 0) dX_set_16 rfl ?_
        cases hm
        exact v_zret0 dX_set_17 rfl
      · replace hm := ie hc hm
        refine v_ald_0 dX_set_18 ?_
        refine v_getR dX_set_19 fuX_25 sh_0 rf_0_0 ?_
        refine v_ild_3 dX_set_22 ?_
        refine v_putIl dX_set_23 fuX_122 ft_1_2 sh_1 rf_1_2 hm (fun h5 hm => ?_)
        refine v_goto dX_set_26 ?_
        exact v_kw (kj1 _ hm) (wk_s (wk_n (wk_n (wk_n wk_e))))
    · replace hm := ie hc hm
      refine v_ild_1 dX_set_29 ?_
      refine v_iconst (x := 0) dX_set_30 rfl ?_
      refine v_bipush (x := 7) dX_set_31 rfl ?_
      obtain ⟨r6, he, hm⟩ := bd_s hm
      refine v_cs3i (M' := tX_within) dX_set_33 mlX_111 okX_within (Nat.le_of_ble_eq_true rfl) (ctX_within G d _ _ _ _ _ he) ?_
      refine v_if_eq dX_set_36 (fun hc => ?_) (fun hc => ?_)
      · replace hm := it hc hm
        refine v_iconst (x := 0) dX_set_62 rfl ?_
        cases hm
        exact v_zret0 dX_set_63 rfl
      · replace hm := ie hc hm
        refine v_ald_0 dX_set_39 ?_
        refine v_getR dX_set_40 fuX_25 sh_0 rf_0_0 ?_
        refine v_ild_2 dX_set_43 ?_
        obtain ⟨r7, he, hm⟩ := bd_s hm
        refine v_cv1i (M' := tB_has) dX_set_44 mlX_125 okB_has sh_1 hc_1 (Nat.le_of_ble_eq_true rfl) (ctB_has G d _ _ sh_1 _ _ he) ?_
        refine v_if_eq dX_set_47 (fun hc => ?_) (fun hc => ?_)
        · replace hm := it hc hm
          refine v_iconst (x := 0) dX_set_62 rfl ?_
          cases hm
          exact v_zret0 dX_set_63 rfl
        · replace hm := ie hc hm
          refine v_ild_3 dX_set_50 ?_
          refine v_iconst (x := 0) dX_set_51 rfl ?_
          refine v_ild_1 dX_set_52 ?_
          obtain ⟨r8, he, hm⟩ := bd_s hm
          refine v_cs1i (M' := tX_mostToSet) dX_set_53 mlX_129 okX_mostToSet (Nat.le_of_ble_eq_true rfl) (ctX_mostToSet G d _ _ _ he) ?_
          obtain ⟨r9, he, hm⟩ := bd_s hm
          refine v_cs3i (M' := tX_within) dX_set_56 mlX_111 okX_within (Nat.le_of_ble_eq_true rfl) (ctX_within G d _ _ _ _ _ he) ?_
          refine v_if_ne dX_set_59 (fun hc => ?_) (fun hc => ?_)
          · replace hm := it hc hm
            refine v_iconst (x := 0) dX_set_62 rfl ?_
            cases hm
            exact v_zret0 dX_set_63 rfl
          · replace hm := ie hc hm
            refine v_ald_0 dX_set_64 ?_
            refine v_getR dX_set_65 fuX_25 sh_0 rf_0_0 ?_
            refine v_ild_2 dX_set_68 ?_
            refine v_ild_1 dX_set_69 ?_
            refine v_ild_3 dX_set_70 ?_
            obtain ⟨h10, he, hm⟩ := bd_s hm
            refine v_cv3v (M' := tB_write) dX_set_71 mlX_133 okB_write sh_1 hc_1 (Nat.le_of_ble_eq_true rfl) (ctB_write G d _ _ _ _ sh_1 _ _ he) ?_
            exact v_kw (kj1 _ hm) (wk_s (wk_n (wk_n (wk_n wk_e))))
def mX_act (p1 : Int32) (p2 : Int32) (p3 : Int32) (h0 : PH) : Option (Int32 × PH) :=
  bd (mS_mayAct 68 p1 p2 p3 h0) fun r1 =>
  if r1 = 0 then
    some (0, h0)
  else
    bd (mP_keep 1 (h0 16 3) h0) fun h2 =>
    bd (mS_actByHand 68 p1 p2 p3 h2) fun h3 =>
    some (1, h3)
theorem ctX_act (G : GG) (d : Nat) (p1 : Int32) (p2 : Int32) (p3 : Int32) (h0 : PH) (r : Int32 × PH) (hm : mX_act p1 p2 p3 h0 = some r) : Kx G tX_act (d + 6) [.ref (gB G + 0), .int p1, .int p2, .int p3] h0 (some (.int r.1)) r.2 := by
  refine K_of_V (by decide) (by simp [cat_i, cat_r, fmtV_cat]) (by simp [tX_act]) ?_
  change Vx G tX_act (d + 6) 0 [some (.ref (gB G + 0)), some (.int p1), some (.int p2), some (.int p3)] [] h0 (some (.int r.1)) r.2
  unfold mX_act at hm
  refine v_ald_0 dX_act_0 ?_
  refine v_getR dX_act_1 fuX_49 sh_0 rf_0_5 ?_
  refine v_ild_1 dX_act_4 ?_
  refine v_ild_2 dX_act_5 ?_
  refine v_ild_3 dX_act_6 ?_
  obtain ⟨r1, he, hm⟩ := bd_s hm
  refine v_cv3i (M' := tS_mayAct) dX_act_7 mlX_137 okS_mayAct sh_68 hc_7 (Nat.le_of_ble_eq_true rfl) (ctS_mayAct G (d + 2) _ _ _ _ sh_68 _ _ he) ?_
  refine v_if_ne dX_act_10 (fun hc => ?_) (fun hc => ?_)
  · replace hm := it hc hm
    refine v_iconst (x := 0) dX_act_13 rfl ?_
    cases hm
    exact v_zret0 dX_act_14 rfl
  · replace hm := ie hc hm
    refine v_ald_0 dX_act_15 ?_
    refine v_getR dX_act_16 fuX_59 sh_0 rf_0_7 ?_
    refine v_ald_0 dX_act_19 ?_
    refine v_getR dX_act_20 fuX_25 sh_0 rf_0_0 ?_
    refine v_ald_0 dX_act_23 ?_
    refine v_getR dX_act_24 fuX_34 sh_0 rf_0_3 ?_
    refine v_getR dX_act_27 fuX_140 sh_5 rf_5_5 ?_
    refine v_getI dX_act_30 fuX_143 sh_16 rf_16_3 ?_
    obtain ⟨h2, he, hm⟩ := bd_s hm
    refine v_cv2v (M' := tP_keep) dX_act_33 mlX_148 okP_keep sh_70 hc_4 (Nat.le_of_ble_eq_true rfl) (ctP_keep G (d + 4) _ _ sh_1 _ _ he) ?_
    refine v_ald_0 dX_act_36 ?_
    refine v_getR dX_act_37 fuX_49 sh_0 rf_0_5 ?_
    refine v_ild_1 dX_act_40 ?_
    refine v_ild_2 dX_act_41 ?_
    refine v_ild_3 dX_act_42 ?_
    obtain ⟨h3, he, hm⟩ := bd_s hm
    refine v_cv3v (M' := tS_actByHand) dX_act_43 mlX_152 okS_actByHand sh_68 hc_7 (Nat.le_of_ble_eq_true rfl) (ctS_actByHand G d _ _ _ _ sh_68 _ _ he) ?_
    refine v_iconst (x := 1) dX_act_46 rfl ?_
    cases hm
    exact v_zret1 dX_act_47 rfl
def mX_quarters_L31 (p1 : Int32) : Nat → Int32 → Int32 → PH → Option (Int32 × PH)
  | 0, _, _, _ => none
  | n + 1, v2, v3, hv =>
    if p1 ≤ v3 then
      some (v2, hv)
    else
      bd (mP_keep 1 (hv 16 3) hv) fun h2 =>
      bd2 (mS_pass 68 h2) fun r3 h4 =>
      lt (v2 + r3) fun x5 =>
      mX_quarters_L31 p1 n x5 (v3 + 1) h4
def mX_quarters (p1 : Int32) (h0 : PH) : Option (Int32 × PH) :=
  bd (mX_within p1 1 60 h0) fun r1 =>
  if r1 = 0 then
    some ((-1), h0)
  else
    if ((h0 1 6) + p1) ≤ 9999 then
      mX_quarters_L31 p1 FU 0 0 h0
    else
      some ((-1), h0)
theorem wX_quarters_L31 (G : GG) (d : Nat) (p1 : Int32) (r : Int32 × PH) : ∀ (n : Nat) (v2 : Int32) (v3 : Int32) (hv : PH), mX_quarters_L31 p1 n v2 v3 hv = some r → Vx G tX_quarters (d + 7) 31 [some (.ref (gB G + 0)), some (.int p1), some (.int v2), some (.int v3)] [] hv (some (.int r.1)) r.2 := by
  intro n
  induction n with
  | zero => intro v2 v3 hv hm; cases hm
  | succ n ih =>
    intro v2 v3 hv hm
    unfold mX_quarters_L31 at hm
    refine v_ild_3 dX_quarters_31 ?_
    refine v_ild_1 dX_quarters_32 ?_
    refine v_cmp_ge dX_quarters_33 (fun hc => ?_) (fun hc => ?_)
    · replace hm := it hc hm
      refine v_ild_2 dX_quarters_73 ?_
      cases hm
      exact v_iret dX_quarters_74 rfl
    · replace hm := ie hc hm
      refine v_ald_0 dX_quarters_36 ?_
      refine v_getR dX_quarters_37 fuX_59 sh_0 rf_0_7 ?_
      refine v_ald_0 dX_quarters_40 ?_
      refine v_getR dX_quarters_41 fuX_25 sh_0 rf_0_0 ?_
      refine v_ald_0 dX_quarters_44 ?_
      refine v_getR dX_quarters_45 fuX_34 sh_0 rf_0_3 ?_
      refine v_getR dX_quarters_48 fuX_140 sh_5 rf_5_5 ?_
      refine v_getI dX_quarters_51 fuX_143 sh_16 rf_16_3 ?_
      obtain ⟨h2, he, hm⟩ := bd_s hm
      refine v_cv2v (M' := tP_keep) dX_quarters_54 mlX_148 okP_keep sh_70 hc_4 (Nat.le_of_ble_eq_true rfl) (ctP_keep G (d + 5) _ _ sh_1 _ _ he) ?_
      refine v_ild_2 dX_quarters_57 ?_
      refine v_ald_0 dX_quarters_58 ?_
      refine v_getR dX_quarters_59 fuX_49 sh_0 rf_0_5 ?_
      obtain ⟨r3, h4, he, hm⟩ := bd2_s hm
      refine v_cv0i (M' := tS_pass) dX_quarters_62 mlX_158 okS_pass sh_68 hc_7 (Nat.le_of_ble_eq_true rfl) (ctS_pass G d _ sh_68 _ _ he) ?_
      refine v_iadd dX_quarters_65 ?_
      refine v_top hm (fun x5 hm => ?_)
      refine v_ist_2 dX_quarters_66 (by decide) rfl ?_
      refine v_inc_3 1 dX_quarters_67 rfl (by decide) rfl ?_
      refine v_goto dX_quarters_70 ?_
      exact v_kw (ih _ _ _ hm) (wk_s (wk_s (wk_s (wk_s wk_e))))
theorem ctX_quarters (G : GG) (d : Nat) (p1 : Int32) (h0 : PH) (r : Int32 × PH) (hm : mX_quarters p1 h0 = some r) : Kx G tX_quarters (d + 7) [.ref (gB G + 0), .int p1] h0 (some (.int r.1)) r.2 := by
  refine K_of_V (by decide) (by simp [cat_i, cat_r, fmtV_cat]) (by simp [tX_quarters]) ?_
  change Vx G tX_quarters (d + 7) 0 [some (.ref (gB G + 0)), some (.int p1), none, none] [] h0 (some (.int r.1)) r.2
  unfold mX_quarters at hm
  refine v_ild_1 dX_quarters_0 ?_
  refine v_iconst (x := 1) dX_quarters_1 rfl ?_
  refine v_bipush (x := 60) dX_quarters_2 rfl ?_
  obtain ⟨r1, he, hm⟩ := bd_s hm
  refine v_cs3i (M' := tX_within) dX_quarters_4 mlX_111 okX_within (Nat.le_of_ble_eq_true rfl) (ctX_within G (d + 6) _ _ _ _ _ he) ?_
  refine v_if_eq dX_quarters_7 (fun hc => ?_) (fun hc => ?_)
  · replace hm := it hc hm
    refine v_iconst (x := (-1)) dX_quarters_25 rfl ?_
    cases hm
    exact v_iret dX_quarters_26 rfl
  · replace hm := ie hc hm
    refine v_ald_0 dX_quarters_10 ?_
    refine v_getR dX_quarters_11 fuX_25 sh_0 rf_0_0 ?_
    refine v_getI dX_quarters_14 fuX_155 sh_1 rf_1_6 ?_
    refine v_ild_1 dX_quarters_17 ?_
    refine v_iadd dX_quarters_18 ?_
    refine v_sipush (x := 9999) dX_quarters_19 rfl ?_
    refine v_cmp_le dX_quarters_22 (fun hc => ?_) (fun hc => ?_)
    · replace hm := it hc hm
      refine v_iconst (x := 0) dX_quarters_27 rfl ?_
      refine v_ist_2 dX_quarters_28 (by decide) rfl ?_
      refine v_iconst (x := 0) dX_quarters_29 rfl ?_
      refine v_ist_3 dX_quarters_30 (by decide) rfl ?_
      exact v_kw (wX_quarters_L31 G d _ _ FU _ _ _ hm) (wk_s (wk_s (wk_s (wk_s wk_e))))
    · replace hm := ie hc hm
      refine v_iconst (x := (-1)) dX_quarters_25 rfl ?_
      cases hm
      exact v_iret dX_quarters_26 rfl
def mX_feed (p1 : Int32) (p2 : Int32) (p3 : Int32) (p4 : Int32) (p5 : Int32) (h0 : PH) : Option (Int32 × PH) :=
  if ((h0 85 4) + 20) ≤ 400 then
    bd (mA_take p1 h0) fun h1 =>
    bd (mA_take p2 h1) fun h2 =>
    bd (mA_take p3 h2) fun h3 =>
    bd (mA_take p4 h3) fun h4 =>
    bd (mA_take p5 h4) fun h5 =>
    some (h5 85 4, h5)
  else
    some ((-1), h0)
theorem ctX_feed (G : GG) (d : Nat) (p1 : Int32) (p2 : Int32) (p3 : Int32) (p4 : Int32) (p5 : Int32) (h0 : PH) (r : Int32 × PH) (hm : mX_feed p1 p2 p3 p4 p5 h0 = some r) : Kx G tX_feed (d + 1) [.ref (gB G + 0), .int p1, .int p2, .int p3, .int p4, .int p5] h0 (some (.int r.1)) r.2 := by
  refine K_of_V (by decide) (by simp [cat_i, cat_r, fmtV_cat]) (by simp [tX_feed]) ?_
  change Vx G tX_feed (d + 1) 0 [some (.ref (gB G + 0)), some (.int p1), some (.int p2), some (.int p3), some (.int p4), some (.int p5)] [] h0 (some (.int r.1)) r.2
  unfold mX_feed at hm
  refine v_ald_0 dX_feed_0 ?_
  refine v_getR dX_feed_1 fuX_66 sh_0 rf_0_8 ?_
  refine v_getI dX_feed_4 fuX_162 sh_85 rf_85_4 ?_
  refine v_bipush (x := 20) dX_feed_7 rfl ?_
  refine v_iadd dX_feed_9 ?_
  refine v_sipush (x := 400) dX_feed_10 rfl ?_
  refine v_cmp_le dX_feed_13 (fun hc => ?_) (fun hc => ?_)
  · replace hm := it hc hm
    refine v_ald_0 dX_feed_18 ?_
    refine v_getR dX_feed_19 fuX_66 sh_0 rf_0_8 ?_
    refine v_ild_1 dX_feed_22 ?_
    obtain ⟨h1, he, hm⟩ := bd_s hm
    refine v_cv1v (M' := tA_take) dX_feed_23 mlX_165 okA_take sh_85 hc_10 (Nat.le_of_ble_eq_true rfl) (ctA_take G d _ _ _ he) ?_
    refine v_ald_0 dX_feed_26 ?_
    refine v_getR dX_feed_27 fuX_66 sh_0 rf_0_8 ?_
    refine v_ild_2 dX_feed_30 ?_
    obtain ⟨h2, he, hm⟩ := bd_s hm
    refine v_cv1v (M' := tA_take) dX_feed_31 mlX_165 okA_take sh_85 hc_10 (Nat.le_of_ble_eq_true rfl) (ctA_take G d _ _ _ he) ?_
    refine v_ald_0 dX_feed_34 ?_
    refine v_getR dX_feed_35 fuX_66 sh_0 rf_0_8 ?_
    refine v_ild_3 dX_feed_38 ?_
    obtain ⟨h3, he, hm⟩ := bd_s hm
    refine v_cv1v (M' := tA_take) dX_feed_39 mlX_165 okA_take sh_85 hc_10 (Nat.le_of_ble_eq_true rfl) (ctA_take G d _ _ _ he) ?_
    refine v_ald_0 dX_feed_42 ?_
    refine v_getR dX_feed_43 fuX_66 sh_0 rf_0_8 ?_
    refine v_ild_4 dX_feed_46 ?_
    obtain ⟨h4, he, hm⟩ := bd_s hm
    refine v_cv1v (M' := tA_take) dX_feed_48 mlX_165 okA_take sh_85 hc_10 (Nat.le_of_ble_eq_true rfl) (ctA_take G d _ _ _ he) ?_
    refine v_ald_0 dX_feed_51 ?_
    refine v_getR dX_feed_52 fuX_66 sh_0 rf_0_8 ?_
    refine v_ild_5 dX_feed_55 ?_
    obtain ⟨h5, he, hm⟩ := bd_s hm
    refine v_cv1v (M' := tA_take) dX_feed_57 mlX_165 okA_take sh_85 hc_10 (Nat.le_of_ble_eq_true rfl) (ctA_take G d _ _ _ he) ?_
    refine v_ald_0 dX_feed_60 ?_
    refine v_getR dX_feed_61 fuX_66 sh_0 rf_0_8 ?_
    refine v_getI dX_feed_64 fuX_162 sh_85 rf_85_4 ?_
    cases hm
    exact v_iret dX_feed_67 rfl
  · replace hm := ie hc hm
    refine v_iconst (x := (-1)) dX_feed_16 rfl ?_
    cases hm
    exact v_iret dX_feed_17 rfl
def mX_end (p1 : Int32) (h0 : PH) : Option (Int32 × PH) :=
  if p1 < 0 then
    some (0, h0)
  else
    if p1 ≤ (h0 85 4) then
      lt (up h0 85 4 p1) fun h1 =>
      some (1, h1)
    else
      some (0, h0)
theorem ctX_end (G : GG) (d : Nat) (p1 : Int32) (h0 : PH) (r : Int32 × PH) (hm : mX_end p1 h0 = some r) : Kx G tX_end d [.ref (gB G + 0), .int p1] h0 (some (.int r.1)) r.2 := by
  refine K_of_V (by decide) (by simp [cat_i, cat_r, fmtV_cat]) (by simp [tX_end]) ?_
  change Vx G tX_end d 0 [some (.ref (gB G + 0)), some (.int p1)] [] h0 (some (.int r.1)) r.2
  unfold mX_end at hm
  refine v_ild_1 dX_end_0 ?_
  refine v_if_lt dX_end_1 (fun hc => ?_) (fun hc => ?_)
  · replace hm := it hc hm
    refine v_iconst (x := 0) dX_end_15 rfl ?_
    cases hm
    exact v_zret0 dX_end_16 rfl
  · replace hm := ie hc hm
    refine v_ild_1 dX_end_4 ?_
    refine v_ald_0 dX_end_5 ?_
    refine v_getR dX_end_6 fuX_66 sh_0 rf_0_8 ?_
    refine v_getI dX_end_9 fuX_162 sh_85 rf_85_4 ?_
    refine v_cmp_le dX_end_12 (fun hc => ?_) (fun hc => ?_)
    · replace hm := it hc hm
      refine v_ald_0 dX_end_17 ?_
      refine v_getR dX_end_18 fuX_66 sh_0 rf_0_8 ?_
      refine v_ild_1 dX_end_21 ?_
      refine v_putIl dX_end_22 fuX_162 ft_10_4 sh_85 rf_85_4 hm (fun h1 hm => ?_)
      refine v_iconst (x := 1) dX_end_25 rfl ?_
      cases hm
      exact v_zret1 dX_end_26 rfl
    · replace hm := ie hc hm
      refine v_iconst (x := 0) dX_end_15 rfl ?_
      cases hm
      exact v_zret0 dX_end_16 rfl
def mX_keepText (p1 : Int32) (h0 : PH) : Option (Int32 × PH) :=
  if p1 = 0 then
    bd (mR_copyFrom 6 91 h0) fun h1 =>
    bd (mR_copyFrom 8 93 h1) fun h2 =>
    some (h2 91 3, h2)
  else
    if p1 = 1 then
      bd (mR_copyFrom 10 91 h0) fun h3 =>
      bd (mP_forget h3) fun h4 =>
      some (h4 91 3, h4)
    else
      if p1 = 2 then
        bd (mR_copyFrom 12 91 h0) fun h5 =>
        bd (mP_forget h5) fun h6 =>
        some (h6 91 3, h6)
      else
        bd (mR_copyFrom 14 91 h0) fun h7 =>
        some (h7 91 3, h7)
theorem ctX_keepText (G : GG) (d : Nat) (p1 : Int32) (h0 : PH) (r : Int32 × PH) (hm : mX_keepText p1 h0 = some r) : Kx G tX_keepText (d + 1) [.ref (gB G + 0), .int p1] h0 (some (.int r.1)) r.2 := by
  refine K_of_V (by decide) (by simp [cat_i, cat_r, fmtV_cat]) (by simp [tX_keepText]) ?_
  change Vx G tX_keepText (d + 1) 0 [some (.ref (gB G + 0)), some (.int p1), none] [] h0 (some (.int r.1)) r.2
  unfold mX_keepText at hm
  refine v_ald_0 dX_keepText_0 ?_
  refine v_getR dX_keepText_1 fuX_75 sh_0 rf_0_9 ?_
  refine v_getR dX_keepText_4 fuX_361 sh_90 rf_90_0 ?_
  refine v_ast_2 dX_keepText_7 (by decide) rfl ?_
  refine v_ild_1 dX_keepText_8 ?_
  refine v_sw dX_keepText_9 ?_
  refine v_selc (fun hc => ?_) (fun hc => ?_)
  · replace hm := it hc hm
    refine v_ald_0 dX_keepText_36 ?_
    refine v_getR dX_keepText_37 fuX_34 sh_0 rf_0_3 ?_
    refine v_getR dX_keepText_40 fuX_15 sh_5 rf_5_0 ?_
    refine v_ald_2 dX_keepText_43 ?_
    obtain ⟨h1, he, hm⟩ := bd_s hm
    refine v_cv1v (M' := tR_copyFrom) dX_keepText_44 mlX_363 okR_copyFrom sh_6 hc_6 (Nat.le_of_ble_eq_true rfl) (ctR_copyFrom G d _ _ sh_6 sh_91 _ _ he) ?_
    refine v_ald_0 dX_keepText_47 ?_
    refine v_getR dX_keepText_48 fuX_34 sh_0 rf_0_3 ?_
    refine v_getR dX_keepText_51 fuX_19 sh_5 rf_5_1 ?_
    refine v_ald_0 dX_keepText_54 ?_
    refine v_getR dX_keepText_55 fuX_75 sh_0 rf_0_9 ?_
    refine v_getR dX_keepText_58 fuX_366 sh_90 rf_90_1 ?_
    obtain ⟨h2, he, hm⟩ := bd_s hm
    refine v_cv1v (M' := tR_copyFrom) dX_keepText_61 mlX_363 okR_copyFrom sh_8 hc_6 (Nat.le_of_ble_eq_true rfl) (ctR_copyFrom G d _ _ sh_8 sh_93 _ _ he) ?_
    refine v_goto dX_keepText_64 ?_
    refine v_ald_2 dX_keepText_120 ?_
    refine v_getI dX_keepText_121 fuX_143 sh_91 rf_91_3 ?_
    cases hm
    exact v_iret dX_keepText_124 rfl
  · replace hm := ie hc hm
    refine v_selc (fun hc => ?_) (fun hc => ?_)
    · replace hm := it hc hm
      refine v_ald_0 dX_keepText_67 ?_
      refine v_getR dX_keepText_68 fuX_34 sh_0 rf_0_3 ?_
      refine v_getR dX_keepText_71 fuX_351 sh_5 rf_5_2 ?_
      refine v_ald_2 dX_keepText_74 ?_
      obtain ⟨h3, he, hm⟩ := bd_s hm
      refine v_cv1v (M' := tR_copyFrom) dX_keepText_75 mlX_363 okR_copyFrom sh_10 hc_6 (Nat.le_of_ble_eq_true rfl) (ctR_copyFrom G d _ _ sh_10 sh_91 _ _ he) ?_
      refine v_ald_0 dX_keepText_78 ?_
      refine v_getR dX_keepText_79 fuX_59 sh_0 rf_0_7 ?_
      obtain ⟨h4, he, hm⟩ := bd_s hm
      refine v_cv0v (M' := tP_forget) dX_keepText_82 mlX_108 okP_forget sh_70 hc_4 (Nat.le_of_ble_eq_true rfl) (ctP_forget G d _ _ he) ?_
      refine v_goto dX_keepText_85 ?_
      refine v_ald_2 dX_keepText_120 ?_
      refine v_getI dX_keepText_121 fuX_143 sh_91 rf_91_3 ?_
      cases hm
      exact v_iret dX_keepText_124 rfl
    · replace hm := ie hc hm
      refine v_selc (fun hc => ?_) (fun hc => ?_)
      · replace hm := it hc hm
        refine v_ald_0 dX_keepText_88 ?_
        refine v_getR dX_keepText_89 fuX_34 sh_0 rf_0_3 ?_
        refine v_getR dX_keepText_92 fuX_354 sh_5 rf_5_3 ?_
        refine v_ald_2 dX_keepText_95 ?_
        obtain ⟨h5, he, hm⟩ := bd_s hm
        refine v_cv1v (M' := tR_copyFrom) dX_keepText_96 mlX_363 okR_copyFrom sh_12 hc_6 (Nat.le_of_ble_eq_true rfl) (ctR_copyFrom G d _ _ sh_12 sh_91 _ _ he) ?_
        refine v_ald_0 dX_keepText_99 ?_
        refine v_getR dX_keepText_100 fuX_59 sh_0 rf_0_7 ?_
        obtain ⟨h6, he, hm⟩ := bd_s hm
        refine v_cv0v (M' := tP_forget) dX_keepText_103 mlX_108 okP_forget sh_70 hc_4 (Nat.le_of_ble_eq_true rfl) (ctP_forget G d _ _ he) ?_
        refine v_goto dX_keepText_106 ?_
        refine v_ald_2 dX_keepText_120 ?_
        refine v_getI dX_keepText_121 fuX_143 sh_91 rf_91_3 ?_
        cases hm
        exact v_iret dX_keepText_124 rfl
      · replace hm := ie hc hm
        refine v_seln ?_
        refine v_ald_0 dX_keepText_109 ?_
        refine v_getR dX_keepText_110 fuX_34 sh_0 rf_0_3 ?_
        refine v_getR dX_keepText_113 fuX_225 sh_5 rf_5_4 ?_
        refine v_ald_2 dX_keepText_116 ?_
        obtain ⟨h7, he, hm⟩ := bd_s hm
        refine v_cv1v (M' := tR_copyFrom) dX_keepText_117 mlX_363 okR_copyFrom sh_14 hc_6 (Nat.le_of_ble_eq_true rfl) (ctR_copyFrom G d _ _ sh_14 sh_91 _ _ he) ?_
        refine v_ald_2 dX_keepText_120 ?_
        refine v_getI dX_keepText_121 fuX_143 sh_91 rf_91_3 ?_
        cases hm
        exact v_iret dX_keepText_124 rfl
def mX_text (p1 : Int32) (h0 : PH) : Option (Int32 × PH) :=
  bd (mD_forgetFault h0) fun h1 =>
  bd (mX_within p1 0 3 h1) fun r2 =>
  jn2 (fun (x4 : Int32) (h5 : PH) =>
    lt (up h5 85 4 0) fun h6 =>
    if x4 = 0 then
      some ((-1), h6)
    else
      bd2 (mX_keepText p1 h6) fun r7 h8 =>
      some (r7, h8)) fun j3 =>
  if r2 = 0 then
    j3 0 h1
  else
    bd2 (mD_reads p1 (h1 1 1) h1) fun r9 h10 =>
    if r9 = 0 then
      j3 0 h10
    else
      j3 1 h10
theorem ctX_text (G : GG) (d : Nat) (p1 : Int32) (h0 : PH) (r : Int32 × PH) (hm : mX_text p1 h0 = some r) : Kx G tX_text (d + 35) [.ref (gB G + 0), .int p1] h0 (some (.int r.1)) r.2 := by
  refine K_of_V (by decide) (by simp [cat_i, cat_r, fmtV_cat]) (by simp [tX_text]) ?_
  change Vx G tX_text (d + 35) 0 [some (.ref (gB G + 0)), some (.int p1), none] [] h0 (some (.int r.1)) r.2
  unfold mX_text at hm
  refine v_ald_0 dX_text_0 ?_
  refine v_getR dX_text_1 fuX_75 sh_0 rf_0_9 ?_
  obtain ⟨h1, he, hm⟩ := bd_s hm
  refine v_cv0v (M' := tD_forgetFault) dX_text_4 mlX_169 okD_forgetFault sh_90 hc_5 (Nat.le_of_ble_eq_true rfl) (ctD_forgetFault G (d + 34) _ _ he) ?_
  refine v_ild_1 dX_text_7 ?_
  refine v_iconst (x := 0) dX_text_8 rfl ?_
  refine v_iconst (x := 3) dX_text_9 rfl ?_
  obtain ⟨r2, he, hm⟩ := bd_s hm
  refine v_cs3i (M' := tX_within) dX_text_10 mlX_111 okX_within (Nat.le_of_ble_eq_true rfl) (ctX_within G (d + 34) _ _ _ _ _ he) ?_
  refine v_j2 (fun (x4 : Int32) (h5 : PH) => Vx G tX_text (d + 35) 39 [some (.ref (gB G + 0)), some (.int p1), none] [.int x4] h5 (some (.int r.1)) r.2) hm (fun x4 h5 hm => ?_) (fun j3 kj3 hm => ?_)
  · refine v_ist_2 dX_text_39 (by decide) rfl ?_
    refine v_ald_0 dX_text_40 ?_
    refine v_getR dX_text_41 fuX_66 sh_0 rf_0_8 ?_
    refine v_iconst (x := 0) dX_text_44 rfl ?_
    refine v_putIl dX_text_45 fuX_162 ft_10_4 sh_85 rf_85_4 hm (fun h6 hm => ?_)
    refine v_ild_2 dX_text_48 ?_
    refine v_if_eq dX_text_49 (fun hc => ?_) (fun hc => ?_)
    · replace hm := it hc hm
      refine v_iconst (x := (-1)) dX_text_60 rfl ?_
      cases hm
      exact v_iret dX_text_61 rfl
    · replace hm := ie hc hm
      refine v_ald_0 dX_text_52 ?_
      refine v_ild_1 dX_text_53 ?_
      obtain ⟨r7, h8, he, hm⟩ := bd2_s hm
      refine v_cv1i (M' := tX_keepText) dX_text_54 mlX_176 okX_keepText sh_0 hc_0 (Nat.le_of_ble_eq_true rfl) (ctX_keepText G (d + 33) _ _ _ he) ?_
      refine v_goto dX_text_57 ?_
      cases hm
      exact v_iret dX_text_61 rfl
  · refine v_if_eq dX_text_13 (fun hc => ?_) (fun hc => ?_)
    · replace hm := it hc hm
      refine v_iconst (x := 0) dX_text_38 rfl ?_
      exact v_kw (kj3 _ _ hm) (wk_s (wk_s (wk_n wk_e)))
    · replace hm := ie hc hm
      refine v_ald_0 dX_text_16 ?_
      refine v_getR dX_text_17 fuX_75 sh_0 rf_0_9 ?_
      refine v_ild_1 dX_text_20 ?_
      refine v_ald_0 dX_text_21 ?_
      refine v_getR dX_text_22 fuX_25 sh_0 rf_0_0 ?_
      refine v_getI dX_text_25 fuX_115 sh_1 rf_1_1 ?_
      obtain ⟨r9, h10, he, hm⟩ := bd2_s hm
      refine v_cv2i (M' := tD_reads) dX_text_28 mlX_172 okD_reads sh_90 hc_5 (Nat.le_of_ble_eq_true rfl) (ctD_reads G d _ _ _ _ he) ?_
      refine v_if_eq dX_text_31 (fun hc => ?_) (fun hc => ?_)
      · replace hm := it hc hm
        refine v_iconst (x := 0) dX_text_38 rfl ?_
        exact v_kw (kj3 _ _ hm) (wk_s (wk_s (wk_n wk_e)))
      · replace hm := ie hc hm
        refine v_iconst (x := 1) dX_text_34 rfl ?_
        refine v_goto dX_text_35 ?_
        exact v_kw (kj3 _ _ hm) (wk_s (wk_s (wk_n wk_e)))
def mX_fault (p1 : Int32) (h0 : PH) : Option (Int32) :=
  if p1 = 0 then
    some (h0 90 2)
  else
    if p1 = 1 then
      some (h0 90 3)
    else
      some (-1)
theorem ctX_fault (G : GG) (d : Nat) (p1 : Int32) (h0 : PH) (r : Int32) (hm : mX_fault p1 h0 = some r) : Kx G tX_fault d [.ref (gB G + 0), .int p1] h0 (some (.int r)) h0 := by
  refine K_of_V (by decide) (by simp [cat_i, cat_r, fmtV_cat]) (by simp [tX_fault]) ?_
  change Vx G tX_fault d 0 [some (.ref (gB G + 0)), some (.int p1)] [] h0 (some (.int r)) h0
  unfold mX_fault at hm
  refine v_ild_1 dX_fault_0 ?_
  refine v_sw dX_fault_1 ?_
  refine v_selc (fun hc => ?_) (fun hc => ?_)
  · replace hm := it hc hm
    refine v_ald_0 dX_fault_28 ?_
    refine v_getR dX_fault_29 fuX_75 sh_0 rf_0_9 ?_
    refine v_getI dX_fault_32 fuX_179 sh_90 rf_90_2 ?_
    cases hm
    exact v_iret dX_fault_35 rfl
  · replace hm := ie hc hm
    refine v_selc (fun hc => ?_) (fun hc => ?_)
    · replace hm := it hc hm
      refine v_ald_0 dX_fault_36 ?_
      refine v_getR dX_fault_37 fuX_75 sh_0 rf_0_9 ?_
      refine v_getI dX_fault_40 fuX_182 sh_90 rf_90_3 ?_
      cases hm
      exact v_iret dX_fault_43 rfl
    · replace hm := ie hc hm
      refine v_seln ?_
      refine v_iconst (x := (-1)) dX_fault_44 rfl ?_
      cases hm
      exact v_iret dX_fault_45 rfl
def mX_of (p1 : Int32) (p2 : Int32) (h0 : PH) : Option (Int32 × PH) :=
  bd (mB_has 1 p1 h0) fun r1 =>
  if r1 = 0 then
    some ((-1), h0)
  else
    bd (mX_within p2 0 10 h0) fun r2 =>
    if r2 = 0 then
      if p2 = 11 then
        bd (mB_thickest 1 p1 h0) fun r3 =>
        bd2 (mW_tells 1 p1 r3 0 h0) fun r4 h5 =>
        some (r4, h5)
      else
        if p2 = 12 then
          bd (mO_nextTo 5 p1 h0) fun r6 =>
          some (r6, h0)
        else
          bd (mX_within p2 20 23 h0) fun r7 =>
          if r7 = 0 then
            bd (mX_within p2 30 33 h0) fun r8 =>
            if r8 = 0 then
              some ((-1), h0)
            else
              bd2 (mW_tells 1 p1 (p2 - 30) 2 h0) fun r9 h10 =>
              some (r9, h10)
          else
            bd2 (mW_tells 1 p1 (p2 - 20) 1 h0) fun r11 h12 =>
            some (r11, h12)
    else
      bd (mB_read 1 p1 p2 h0) fun r13 =>
      some (r13, h0)
theorem ctX_of (G : GG) (d : Nat) (p1 : Int32) (p2 : Int32) (h0 : PH) (r : Int32 × PH) (hm : mX_of p1 p2 h0 = some r) : Kx G tX_of (d + 5) [.ref (gB G + 0), .int p1, .int p2] h0 (some (.int r.1)) r.2 := by
  refine K_of_V (by decide) (by simp [cat_i, cat_r, fmtV_cat]) (by simp [tX_of]) ?_
  change Vx G tX_of (d + 5) 0 [some (.ref (gB G + 0)), some (.int p1), some (.int p2)] [] h0 (some (.int r.1)) r.2
  unfold mX_of at hm
  refine v_ald_0 dX_of_0 ?_
  refine v_getR dX_of_1 fuX_25 sh_0 rf_0_0 ?_
  refine v_ild_1 dX_of_4 ?_
  obtain ⟨r1, he, hm⟩ := bd_s hm
  refine v_cv1i (M' := tB_has) dX_of_5 mlX_125 okB_has sh_1 hc_1 (Nat.le_of_ble_eq_true rfl) (ctB_has G (d + 4) _ _ sh_1 _ _ he) ?_
  refine v_if_ne dX_of_8 (fun hc => ?_) (fun hc => ?_)
  · replace hm := it hc hm
    refine v_iconst (x := (-1)) dX_of_11 rfl ?_
    cases hm
    exact v_iret dX_of_12 rfl
  · replace hm := ie hc hm
    refine v_ild_2 dX_of_13 ?_
    refine v_iconst (x := 0) dX_of_14 rfl ?_
    refine v_bipush (x := 10) dX_of_15 rfl ?_
    obtain ⟨r2, he, hm⟩ := bd_s hm
    refine v_cs3i (M' := tX_within) dX_of_17 mlX_111 okX_within (Nat.le_of_ble_eq_true rfl) (ctX_within G (d + 4) _ _ _ _ _ he) ?_
    refine v_if_eq dX_of_20 (fun hc => ?_) (fun hc => ?_)
    · replace hm := it hc hm
      refine v_ild_2 dX_of_33 ?_
      refine v_bipush (x := 11) dX_of_34 rfl ?_
      refine v_cmp_ne dX_of_36 (fun hc => ?_) (fun hc => ?_)
      · replace hm := it hc hm
        refine v_ald_0 dX_of_39 ?_
        refine v_getR dX_of_40 fuX_49 sh_0 rf_0_5 ?_
        refine v_getR dX_of_43 fuX_189 sh_68 rf_68_2 ?_
        refine v_ald_0 dX_of_46 ?_
        refine v_getR dX_of_47 fuX_25 sh_0 rf_0_0 ?_
        refine v_ild_1 dX_of_50 ?_
        refine v_ald_0 dX_of_51 ?_
        refine v_getR dX_of_52 fuX_25 sh_0 rf_0_0 ?_
        refine v_ild_1 dX_of_55 ?_
        obtain ⟨r3, he, hm⟩ := bd_s hm
        refine v_cv1i (M' := tB_thickest) dX_of_56 mlX_192 okB_thickest sh_1 hc_1 (Nat.le_of_ble_eq_true rfl) (ctB_thickest G (d + 3) _ _ sh_1 _ _ he) ?_
        refine v_iconst (x := 0) dX_of_59 rfl ?_
        obtain ⟨r4, h5, he, hm⟩ := bd2_s hm
        refine v_cv4i (M' := tW_tells) dX_of_60 mlX_195 okW_tells sh_34 hc_3 (Nat.le_of_ble_eq_true rfl) (ctW_tells G d _ _ _ _ sh_1 _ _ he) ?_
        cases hm
        exact v_iret dX_of_63 rfl
      · replace hm := ie hc hm
        refine v_ild_2 dX_of_64 ?_
        refine v_bipush (x := 12) dX_of_65 rfl ?_
        refine v_cmp_ne dX_of_67 (fun hc => ?_) (fun hc => ?_)
        · replace hm := it hc hm
          refine v_ald_0 dX_of_70 ?_
          refine v_getR dX_of_71 fuX_34 sh_0 rf_0_3 ?_
          refine v_ild_1 dX_of_74 ?_
          obtain ⟨r6, he, hm⟩ := bd_s hm
          refine v_cv1i (M' := tO_nextTo) dX_of_75 mlX_199 okO_nextTo sh_5 hc_11 (Nat.le_of_ble_eq_true rfl) (ctO_nextTo G (d + 3) _ _ sh_5 _ _ he) ?_
          cases hm
          exact v_iret dX_of_78 rfl
        · replace hm := ie hc hm
          refine v_ild_2 dX_of_79 ?_
          refine v_bipush (x := 20) dX_of_80 rfl ?_
          refine v_bipush (x := 23) dX_of_82 rfl ?_
          obtain ⟨r7, he, hm⟩ := bd_s hm
          refine v_cs3i (M' := tX_within) dX_of_84 mlX_111 okX_within (Nat.le_of_ble_eq_true rfl) (ctX_within G (d + 4) _ _ _ _ _ he) ?_
          refine v_if_eq dX_of_87 (fun hc => ?_) (fun hc => ?_)
          · replace hm := it hc hm
            refine v_ild_2 dX_of_111 ?_
            refine v_bipush (x := 30) dX_of_112 rfl ?_
            refine v_bipush (x := 33) dX_of_114 rfl ?_
            obtain ⟨r8, he, hm⟩ := bd_s hm
            refine v_cs3i (M' := tX_within) dX_of_116 mlX_111 okX_within (Nat.le_of_ble_eq_true rfl) (ctX_within G (d + 4) _ _ _ _ _ he) ?_
            refine v_if_eq dX_of_119 (fun hc => ?_) (fun hc => ?_)
            · replace hm := it hc hm
              refine v_iconst (x := (-1)) dX_of_143 rfl ?_
              cases hm
              exact v_iret dX_of_144 rfl
            · replace hm := ie hc hm
              refine v_ald_0 dX_of_122 ?_
              refine v_getR dX_of_123 fuX_49 sh_0 rf_0_5 ?_
              refine v_getR dX_of_126 fuX_189 sh_68 rf_68_2 ?_
              refine v_ald_0 dX_of_129 ?_
              refine v_getR dX_of_130 fuX_25 sh_0 rf_0_0 ?_
              refine v_ild_1 dX_of_133 ?_
              refine v_ild_2 dX_of_134 ?_
              refine v_bipush (x := 30) dX_of_135 rfl ?_
              refine v_isub dX_of_137 ?_
              refine v_iconst (x := 2) dX_of_138 rfl ?_
              obtain ⟨r9, h10, he, hm⟩ := bd2_s hm
              refine v_cv4i (M' := tW_tells) dX_of_139 mlX_195 okW_tells sh_34 hc_3 (Nat.le_of_ble_eq_true rfl) (ctW_tells G d _ _ _ _ sh_1 _ _ he) ?_
              cases hm
              exact v_iret dX_of_142 rfl
          · replace hm := ie hc hm
            refine v_ald_0 dX_of_90 ?_
            refine v_getR dX_of_91 fuX_49 sh_0 rf_0_5 ?_
            refine v_getR dX_of_94 fuX_189 sh_68 rf_68_2 ?_
            refine v_ald_0 dX_of_97 ?_
            refine v_getR dX_of_98 fuX_25 sh_0 rf_0_0 ?_
            refine v_ild_1 dX_of_101 ?_
            refine v_ild_2 dX_of_102 ?_
            refine v_bipush (x := 20) dX_of_103 rfl ?_
            refine v_isub dX_of_105 ?_
            refine v_iconst (x := 1) dX_of_106 rfl ?_
            obtain ⟨r11, h12, he, hm⟩ := bd2_s hm
            refine v_cv4i (M' := tW_tells) dX_of_107 mlX_195 okW_tells sh_34 hc_3 (Nat.le_of_ble_eq_true rfl) (ctW_tells G d _ _ _ _ sh_1 _ _ he) ?_
            cases hm
            exact v_iret dX_of_110 rfl
    · replace hm := ie hc hm
      refine v_ald_0 dX_of_23 ?_
      refine v_getR dX_of_24 fuX_25 sh_0 rf_0_0 ?_
      refine v_ild_1 dX_of_27 ?_
      refine v_ild_2 dX_of_28 ?_
      obtain ⟨r13, he, hm⟩ := bd_s hm
      refine v_cv2i (M' := tB_read) dX_of_29 mlX_185 okB_read sh_1 hc_1 (Nat.le_of_ble_eq_true rfl) (ctB_read G (d + 4) _ _ _ sh_1 _ _ he) ?_
      cases hm
      exact v_iret dX_of_32 rfl
def mX_book (p1 : Int32) (p2 : Int32) (h0 : PH) : Option (Int32) :=
  if p1 < 0 then
    some (-2)
  else
    if (h0 16 3) ≤ p1 then
      some (-2)
    else
      bd (mX_within p2 0 3 h0) fun r1 =>
      if r1 = 0 then
        some (-2)
      else
        bd (mR_at 16 p1 p2 h0) fun r2 =>
        some r2
theorem ctX_book (G : GG) (d : Nat) (p1 : Int32) (p2 : Int32) (h0 : PH) (r : Int32) (hm : mX_book p1 p2 h0 = some r) : Kx G tX_book (d + 1) [.ref (gB G + 0), .int p1, .int p2] h0 (some (.int r)) h0 := by
  refine K_of_V (by decide) (by simp [cat_i, cat_r, fmtV_cat]) (by simp [tX_book]) ?_
  change Vx G tX_book (d + 1) 0 [some (.ref (gB G + 0)), some (.int p1), some (.int p2)] [] h0 (some (.int r)) h0
  unfold mX_book at hm
  refine v_ild_1 dX_book_0 ?_
  refine v_if_lt dX_book_1 (fun hc => ?_) (fun hc => ?_)
  · replace hm := it hc hm
    refine v_bipush (x := (-2)) dX_book_27 rfl ?_
    cases hm
    exact v_iret dX_book_29 rfl
  · replace hm := ie hc hm
    refine v_ild_1 dX_book_4 ?_
    refine v_ald_0 dX_book_5 ?_
    refine v_getR dX_book_6 fuX_34 sh_0 rf_0_3 ?_
    refine v_getR dX_book_9 fuX_140 sh_5 rf_5_5 ?_
    refine v_getI dX_book_12 fuX_143 sh_16 rf_16_3 ?_
    refine v_cmp_ge dX_book_15 (fun hc => ?_) (fun hc => ?_)
    · replace hm := it hc hm
      refine v_bipush (x := (-2)) dX_book_27 rfl ?_
      cases hm
      exact v_iret dX_book_29 rfl
    · replace hm := ie hc hm
      refine v_ild_2 dX_book_18 ?_
      refine v_iconst (x := 0) dX_book_19 rfl ?_
      refine v_iconst (x := 3) dX_book_20 rfl ?_
      obtain ⟨r1, he, hm⟩ := bd_s hm
      refine v_cs3i (M' := tX_within) dX_book_21 mlX_111 okX_within (Nat.le_of_ble_eq_true rfl) (ctX_within G d _ _ _ _ _ he) ?_
      refine v_if_ne dX_book_24 (fun hc => ?_) (fun hc => ?_)
      · replace hm := it hc hm
        refine v_bipush (x := (-2)) dX_book_27 rfl ?_
        cases hm
        exact v_iret dX_book_29 rfl
      · replace hm := ie hc hm
        refine v_ald_0 dX_book_30 ?_
        refine v_getR dX_book_31 fuX_34 sh_0 rf_0_3 ?_
        refine v_getR dX_book_34 fuX_140 sh_5 rf_5_5 ?_
        refine v_ild_1 dX_book_37 ?_
        refine v_ild_2 dX_book_38 ?_
        obtain ⟨r2, he, hm⟩ := bd_s hm
        refine v_cv2i (M' := tR_at) dX_book_39 mlX_202 okR_at sh_16 hc_6 (Nat.le_of_ble_eq_true rfl) (ctR_at G d _ _ _ sh_16 _ _ he) ?_
        cases hm
        exact v_iret dX_book_42 rfl
def mX_goes_L34 (p1 : Int32) (p2 : Int32) (k0 : PH → Option (Int32 × PH)) : Nat → Int32 → PH → Option (Int32 × PH)
  | 0, _, _ => none
  | n + 1, v3, hv =>
    if p1 ≤ v3 then
      k0 hv
    else
      bd2 (mS_pass 69 hv) fun r4 h5 =>
      mX_goes_L34 p1 p2 k0 n (v3 + 1) h5
def mX_goes (p1 : Int32) (p2 : Int32) (h0 : PH) : Option (Int32 × PH) :=
  bd (mX_within p1 1 60 h0) fun r1 =>
  if r1 = 0 then
    some ((-1), h0)
  else
    bd (mX_within p2 0 3 h0) fun r2 =>
    if r2 = 0 then
      some ((-1), h0)
    else
      bd (mB_copyFrom 3 1 h0) fun h3 =>
      mX_goes_L34 p1 p2 (fun (h6 : PH) =>
        if p2 = 0 then
          some (h6 3 4, h6)
        else
          if p2 = 1 then
            bd (mB_countUp 3 h6) fun r7 =>
            some (r7, h6)
          else
            if p2 = 2 then
              bd (mB_total 3 8 h6) fun r8 =>
              some (r8, h6)
            else
              bd (mB_total 3 7 h6) fun r9 =>
              some (r9, h6)) FU 0 h3
theorem wX_goes_L34 (G : GG) (d : Nat) (p1 : Int32) (p2 : Int32) (k0 : PH → Option (Int32 × PH)) (r : Int32 × PH) (kk0 : ∀ (hy : PH), k0 hy = some r → Vx G tX_goes (d + 7) 53 [some (.ref (gB G + 0)), none, some (.int p2), none] [] hy (some (.int r.1)) r.2) : ∀ (n : Nat) (v3 : Int32) (hv : PH), mX_goes_L34 p1 p2 k0 n v3 hv = some r → Vx G tX_goes (d + 7) 34 [some (.ref (gB G + 0)), some (.int p1), some (.int p2), some (.int v3)] [] hv (some (.int r.1)) r.2 := by
  intro n
  induction n with
  | zero => intro v3 hv hm; cases hm
  | succ n ih =>
    intro v3 hv hm
    unfold mX_goes_L34 at hm
    refine v_ild_3 dX_goes_34 ?_
    refine v_ild_1 dX_goes_35 ?_
    refine v_cmp_ge dX_goes_36 (fun hc => ?_) (fun hc => ?_)
    · replace hm := it hc hm
      exact v_kw (kk0 _ hm) (wk_s (wk_n (wk_s (wk_n wk_e))))
    · replace hm := ie hc hm
      refine v_ald_0 dX_goes_39 ?_
      refine v_getR dX_goes_40 fuX_53 sh_0 rf_0_6 ?_
      obtain ⟨r4, h5, he, hm⟩ := bd2_s hm
      refine v_cv0i (M' := tS_pass) dX_goes_43 mlX_158 okS_pass sh_69 hc_7 (Nat.le_of_ble_eq_true rfl) (ctS_pass G d _ sh_69 _ _ he) ?_
      refine v_pop dX_goes_46 rfl ?_
      refine v_inc_3 1 dX_goes_47 rfl (by decide) rfl ?_
      refine v_goto dX_goes_50 ?_
      exact v_kw (ih _ _ hm) (wk_s (wk_s (wk_s (wk_s wk_e))))
theorem ctX_goes (G : GG) (d : Nat) (p1 : Int32) (p2 : Int32) (h0 : PH) (r : Int32 × PH) (hm : mX_goes p1 p2 h0 = some r) : Kx G tX_goes (d + 7) [.ref (gB G + 0), .int p1, .int p2] h0 (some (.int r.1)) r.2 := by
  refine K_of_V (by decide) (by simp [cat_i, cat_r, fmtV_cat]) (by simp [tX_goes]) ?_
  change Vx G tX_goes (d + 7) 0 [some (.ref (gB G + 0)), some (.int p1), some (.int p2), none] [] h0 (some (.int r.1)) r.2
  unfold mX_goes at hm
  refine v_ild_1 dX_goes_0 ?_
  refine v_iconst (x := 1) dX_goes_1 rfl ?_
  refine v_bipush (x := 60) dX_goes_2 rfl ?_
  obtain ⟨r1, he, hm⟩ := bd_s hm
  refine v_cs3i (M' := tX_within) dX_goes_4 mlX_111 okX_within (Nat.le_of_ble_eq_true rfl) (ctX_within G (d + 6) _ _ _ _ _ he) ?_
  refine v_if_eq dX_goes_7 (fun hc => ?_) (fun hc => ?_)
  · replace hm := it hc hm
    refine v_iconst (x := (-1)) dX_goes_19 rfl ?_
    cases hm
    exact v_iret dX_goes_20 rfl
  · replace hm := ie hc hm
    refine v_ild_2 dX_goes_10 ?_
    refine v_iconst (x := 0) dX_goes_11 rfl ?_
    refine v_iconst (x := 3) dX_goes_12 rfl ?_
    obtain ⟨r2, he, hm⟩ := bd_s hm
    refine v_cs3i (M' := tX_within) dX_goes_13 mlX_111 okX_within (Nat.le_of_ble_eq_true rfl) (ctX_within G (d + 6) _ _ _ _ _ he) ?_
    refine v_if_ne dX_goes_16 (fun hc => ?_) (fun hc => ?_)
    · replace hm := it hc hm
      refine v_iconst (x := (-1)) dX_goes_19 rfl ?_
      cases hm
      exact v_iret dX_goes_20 rfl
    · replace hm := ie hc hm
      refine v_ald_0 dX_goes_21 ?_
      refine v_getR dX_goes_22 fuX_31 sh_0 rf_0_2 ?_
      refine v_ald_0 dX_goes_25 ?_
      refine v_getR dX_goes_26 fuX_25 sh_0 rf_0_0 ?_
      obtain ⟨h3, he, hm⟩ := bd_s hm
      refine v_cv1v (M' := tB_copyFrom) dX_goes_29 mlX_205 okB_copyFrom sh_3 hc_1 (Nat.le_of_ble_eq_true rfl) (ctB_copyFrom G (d + 6) _ _ sh_3 sh_1 _ _ he) ?_
      refine v_iconst (x := 0) dX_goes_32 rfl ?_
      refine v_ist_3 dX_goes_33 (by decide) rfl ?_
      refine v_kw (wX_goes_L34 G d _ _ _ _ (fun h6 hm => ?_) FU _ _ hm) (wk_s (wk_s (wk_s (wk_s wk_e))))
      refine v_ild_2 dX_goes_53 ?_
      refine v_sw dX_goes_54 ?_
      refine v_selc (fun hc => ?_) (fun hc => ?_)
      · replace hm := it hc hm
        refine v_ald_0 dX_goes_80 ?_
        refine v_getR dX_goes_81 fuX_31 sh_0 rf_0_2 ?_
        refine v_getI dX_goes_84 fuX_209 sh_3 rf_3_4 ?_
        cases hm
        exact v_iret dX_goes_87 rfl
      · replace hm := ie hc hm
        refine v_selc (fun hc => ?_) (fun hc => ?_)
        · replace hm := it hc hm
          refine v_ald_0 dX_goes_88 ?_
          refine v_getR dX_goes_89 fuX_31 sh_0 rf_0_2 ?_
          obtain ⟨r7, he, hm⟩ := bd_s hm
          refine v_cv0i (M' := tB_countUp) dX_goes_92 mlX_212 okB_countUp sh_3 hc_1 (Nat.le_of_ble_eq_true rfl) (ctB_countUp G (d + 3) _ sh_3 _ _ he) ?_
          cases hm
          exact v_iret dX_goes_95 rfl
        · replace hm := ie hc hm
          refine v_selc (fun hc => ?_) (fun hc => ?_)
          · replace hm := it hc hm
            refine v_ald_0 dX_goes_96 ?_
            refine v_getR dX_goes_97 fuX_31 sh_0 rf_0_2 ?_
            refine v_bipush (x := 8) dX_goes_100 rfl ?_
            obtain ⟨r8, he, hm⟩ := bd_s hm
            refine v_cv1i (M' := tB_total) dX_goes_102 mlX_215 okB_total sh_3 hc_1 (Nat.le_of_ble_eq_true rfl) (ctB_total G (d + 5) _ _ sh_3 _ _ he) ?_
            cases hm
            exact v_iret dX_goes_105 rfl
          · replace hm := ie hc hm
            refine v_seln ?_
            refine v_ald_0 dX_goes_106 ?_
            refine v_getR dX_goes_107 fuX_31 sh_0 rf_0_2 ?_
            refine v_bipush (x := 7) dX_goes_110 rfl ?_
            obtain ⟨r9, he, hm⟩ := bd_s hm
            refine v_cv1i (M' := tB_total) dX_goes_112 mlX_215 okB_total sh_3 hc_1 (Nat.le_of_ble_eq_true rfl) (ctB_total G (d + 5) _ _ sh_3 _ _ he) ?_
            cases hm
            exact v_iret dX_goes_115 rfl
def mX_stands_L40 (p1 : Int32) : Nat → Int32 → PH → Option (Int32 × PH)
  | 0, _, _ => none
  | n + 1, v2, hv =>
    if 200 < v2 then
      some ((-1), hv)
    else
      bd2 (mS_pass 69 hv) fun r4 h5 =>
      bd (mB_isUp 3 p1 h5) fun r6 =>
      if r6 = 0 then
        some (v2, h5)
      else
        mX_stands_L40 p1 n (v2 + 1) h5
def mX_stands (p1 : Int32) (h0 : PH) : Option (Int32 × PH) :=
  bd (mB_has 1 p1 h0) fun r1 =>
  if r1 = 0 then
    some ((-2), h0)
  else
    bd (mB_isUp 1 p1 h0) fun r2 =>
    if r2 = 0 then
      some (0, h0)
    else
      bd (mB_copyFrom 3 1 h0) fun h3 =>
      mX_stands_L40 p1 FU 1 h3
theorem wX_stands_L40 (G : GG) (d : Nat) (p1 : Int32) (r : Int32 × PH) : ∀ (n : Nat) (v2 : Int32) (hv : PH), mX_stands_L40 p1 n v2 hv = some r → Vx G tX_stands (d + 7) 40 [some (.ref (gB G + 0)), some (.int p1), some (.int v2)] [] hv (some (.int r.1)) r.2 := by
  intro n
  induction n with
  | zero => intro v2 hv hm; cases hm
  | succ n ih =>
    intro v2 hv hm
    unfold mX_stands_L40 at hm
    refine v_ild_2 dX_stands_40 ?_
    refine v_sipush (x := 200) dX_stands_41 rfl ?_
    refine v_cmp_gt dX_stands_44 (fun hc => ?_) (fun hc => ?_)
    · replace hm := it hc hm
      refine v_iconst (x := (-1)) dX_stands_74 rfl ?_
      cases hm
      exact v_iret dX_stands_75 rfl
    · replace hm := ie hc hm
      refine v_ald_0 dX_stands_47 ?_
      refine v_getR dX_stands_48 fuX_53 sh_0 rf_0_6 ?_
      obtain ⟨r4, h5, he, hm⟩ := bd2_s hm
      refine v_cv0i (M' := tS_pass) dX_stands_51 mlX_158 okS_pass sh_69 hc_7 (Nat.le_of_ble_eq_true rfl) (ctS_pass G d _ sh_69 _ _ he) ?_
      refine v_pop dX_stands_54 rfl ?_
      refine v_ald_0 dX_stands_55 ?_
      refine v_getR dX_stands_56 fuX_31 sh_0 rf_0_2 ?_
      refine v_ild_1 dX_stands_59 ?_
      obtain ⟨r6, he, hm⟩ := bd_s hm
      refine v_cv1i (M' := tB_isUp) dX_stands_60 mlX_218 okB_isUp sh_3 hc_1 (Nat.le_of_ble_eq_true rfl) (ctB_isUp G (d + 5) _ _ sh_3 _ _ he) ?_
      refine v_if_ne dX_stands_63 (fun hc => ?_) (fun hc => ?_)
      · replace hm := it hc hm
        refine v_ild_2 dX_stands_66 ?_
        cases hm
        exact v_iret dX_stands_67 rfl
      · replace hm := ie hc hm
        refine v_inc_2 1 dX_stands_68 rfl (by decide) rfl ?_
        refine v_goto dX_stands_71 ?_
        exact v_kw (ih _ _ hm) (wk_s (wk_s (wk_s wk_e)))
theorem ctX_stands (G : GG) (d : Nat) (p1 : Int32) (h0 : PH) (r : Int32 × PH) (hm : mX_stands p1 h0 = some r) : Kx G tX_stands (d + 7) [.ref (gB G + 0), .int p1] h0 (some (.int r.1)) r.2 := by
  refine K_of_V (by decide) (by simp [cat_i, cat_r, fmtV_cat]) (by simp [tX_stands]) ?_
  change Vx G tX_stands (d + 7) 0 [some (.ref (gB G + 0)), some (.int p1), none] [] h0 (some (.int r.1)) r.2
  unfold mX_stands at hm
  refine v_ald_0 dX_stands_0 ?_
  refine v_getR dX_stands_1 fuX_25 sh_0 rf_0_0 ?_
  refine v_ild_1 dX_stands_4 ?_
  obtain ⟨r1, he, hm⟩ := bd_s hm
  refine v_cv1i (M' := tB_has) dX_stands_5 mlX_125 okB_has sh_1 hc_1 (Nat.le_of_ble_eq_true rfl) (ctB_has G (d + 6) _ _ sh_1 _ _ he) ?_
  refine v_if_ne dX_stands_8 (fun hc => ?_) (fun hc => ?_)
  · replace hm := it hc hm
    refine v_bipush (x := (-2)) dX_stands_11 rfl ?_
    cases hm
    exact v_iret dX_stands_13 rfl
  · replace hm := ie hc hm
    refine v_ald_0 dX_stands_14 ?_
    refine v_getR dX_stands_15 fuX_25 sh_0 rf_0_0 ?_
    refine v_ild_1 dX_stands_18 ?_
    obtain ⟨r2, he, hm⟩ := bd_s hm
    refine v_cv1i (M' := tB_isUp) dX_stands_19 mlX_218 okB_isUp sh_1 hc_1 (Nat.le_of_ble_eq_true rfl) (ctB_isUp G (d + 5) _ _ sh_1 _ _ he) ?_
    refine v_if_ne dX_stands_22 (fun hc => ?_) (fun hc => ?_)
    · replace hm := it hc hm
      refine v_iconst (x := 0) dX_stands_25 rfl ?_
      cases hm
      exact v_iret dX_stands_26 rfl
    · replace hm := ie hc hm
      refine v_ald_0 dX_stands_27 ?_
      refine v_getR dX_stands_28 fuX_31 sh_0 rf_0_2 ?_
      refine v_ald_0 dX_stands_31 ?_
      refine v_getR dX_stands_32 fuX_25 sh_0 rf_0_0 ?_
      obtain ⟨h3, he, hm⟩ := bd_s hm
      refine v_cv1v (M' := tB_copyFrom) dX_stands_35 mlX_205 okB_copyFrom sh_3 hc_1 (Nat.le_of_ble_eq_true rfl) (ctB_copyFrom G (d + 6) _ _ sh_3 sh_1 _ _ he) ?_
      refine v_iconst (x := 1) dX_stands_38 rfl ?_
      refine v_ist_2 dX_stands_39 (by decide) rfl ?_
      exact v_kw (wX_stands_L40 G d _ _ FU _ _ hm) (wk_s (wk_s (wk_s wk_e)))
def mX_cheapestWay (p1 : Int32) (p2 : Int32) (p3 : Int32) (h0 : PH) : Option (Int32 × PH) :=
  bd (mB_has 1 p1 h0) fun r1 =>
  if r1 = 0 then
    some ((-1), h0)
  else
    bd (mB_has 1 p2 h0) fun r2 =>
    if r2 = 0 then
      some ((-1), h0)
    else
      bd (mT_spread 1 14 p1 p3 h0) fun h3 =>
      bd (mT_costTo p2 h3) fun r4 =>
      some (r4, h3)
theorem ctX_cheapestWay (G : GG) (d : Nat) (p1 : Int32) (p2 : Int32) (p3 : Int32) (h0 : PH) (r : Int32 × PH) (hm : mX_cheapestWay p1 p2 p3 h0 = some r) : Kx G tX_cheapestWay (d + 3) [.ref (gB G + 0), .int p1, .int p2, .int p3] h0 (some (.int r.1)) r.2 := by
  refine K_of_V (by decide) (by simp [cat_i, cat_r, fmtV_cat]) (by simp [tX_cheapestWay]) ?_
  change Vx G tX_cheapestWay (d + 3) 0 [some (.ref (gB G + 0)), some (.int p1), some (.int p2), some (.int p3)] [] h0 (some (.int r.1)) r.2
  unfold mX_cheapestWay at hm
  refine v_ald_0 dX_cheapestWay_0 ?_
  refine v_getR dX_cheapestWay_1 fuX_25 sh_0 rf_0_0 ?_
  refine v_ild_1 dX_cheapestWay_4 ?_
  obtain ⟨r1, he, hm⟩ := bd_s hm
  refine v_cv1i (M' := tB_has) dX_cheapestWay_5 mlX_125 okB_has sh_1 hc_1 (Nat.le_of_ble_eq_true rfl) (ctB_has G (d + 2) _ _ sh_1 _ _ he) ?_
  refine v_if_eq dX_cheapestWay_8 (fun hc => ?_) (fun hc => ?_)
  · replace hm := it hc hm
    refine v_iconst (x := (-1)) dX_cheapestWay_22 rfl ?_
    cases hm
    exact v_iret dX_cheapestWay_23 rfl
  · replace hm := ie hc hm
    refine v_ald_0 dX_cheapestWay_11 ?_
    refine v_getR dX_cheapestWay_12 fuX_25 sh_0 rf_0_0 ?_
    refine v_ild_2 dX_cheapestWay_15 ?_
    obtain ⟨r2, he, hm⟩ := bd_s hm
    refine v_cv1i (M' := tB_has) dX_cheapestWay_16 mlX_125 okB_has sh_1 hc_1 (Nat.le_of_ble_eq_true rfl) (ctB_has G (d + 2) _ _ sh_1 _ _ he) ?_
    refine v_if_ne dX_cheapestWay_19 (fun hc => ?_) (fun hc => ?_)
    · replace hm := it hc hm
      refine v_iconst (x := (-1)) dX_cheapestWay_22 rfl ?_
      cases hm
      exact v_iret dX_cheapestWay_23 rfl
    · replace hm := ie hc hm
      refine v_ald_0 dX_cheapestWay_24 ?_
      refine v_getR dX_cheapestWay_25 fuX_82 sh_0 rf_0_10 ?_
      refine v_ald_0 dX_cheapestWay_28 ?_
      refine v_getR dX_cheapestWay_29 fuX_25 sh_0 rf_0_0 ?_
      refine v_ald_0 dX_cheapestWay_32 ?_
      refine v_getR dX_cheapestWay_33 fuX_34 sh_0 rf_0_3 ?_
      refine v_getR dX_cheapestWay_36 fuX_225 sh_5 rf_5_4 ?_
      refine v_ild_1 dX_cheapestWay_39 ?_
      refine v_ild_3 dX_cheapestWay_40 ?_
      obtain ⟨h3, he, hm⟩ := bd_s hm
      refine v_cv4v (M' := tT_spread) dX_cheapestWay_41 mlX_228 okT_spread sh_95 hc_9 (Nat.le_of_ble_eq_true rfl) (ctT_spread G d _ _ _ _ sh_1 sh_14 _ _ he) ?_
      refine v_ald_0 dX_cheapestWay_44 ?_
      refine v_getR dX_cheapestWay_45 fuX_82 sh_0 rf_0_10 ?_
      refine v_ild_2 dX_cheapestWay_48 ?_
      obtain ⟨r4, he, hm⟩ := bd_s hm
      refine v_cv1i (M' := tT_costTo) dX_cheapestWay_49 mlX_367 okT_costTo sh_95 hc_9 (Nat.le_of_ble_eq_true rfl) (ctT_costTo G (d + 2) _ _ _ he) ?_
      cases hm
      exact v_iret dX_cheapestWay_52 rfl
def mX_hears (p1 : Int32) (p2 : Int32) (h0 : PH) : Option (Int32 × PH) :=
  bd2 (mX_cheapestWay p1 p2 1 h0) fun r1 h2 =>
  some (r1, h2)
theorem ctX_hears (G : GG) (d : Nat) (p1 : Int32) (p2 : Int32) (h0 : PH) (r : Int32 × PH) (hm : mX_hears p1 p2 h0 = some r) : Kx G tX_hears (d + 4) [.ref (gB G + 0), .int p1, .int p2] h0 (some (.int r.1)) r.2 := by
  refine K_of_V (by decide) (by simp [cat_i, cat_r, fmtV_cat]) (by simp [tX_hears]) ?_
  change Vx G tX_hears (d + 4) 0 [some (.ref (gB G + 0)), some (.int p1), some (.int p2)] [] h0 (some (.int r.1)) r.2
  unfold mX_hears at hm
  refine v_ald_0 dX_hears_0 ?_
  refine v_ild_1 dX_hears_1 ?_
  refine v_ild_2 dX_hears_2 ?_
  refine v_iconst (x := 1) dX_hears_3 rfl ?_
  obtain ⟨r1, h2, he, hm⟩ := bd2_s hm
  refine v_cv3i (M' := tX_cheapestWay) dX_hears_4 mlX_221 okX_cheapestWay sh_0 hc_0 (Nat.le_of_ble_eq_true rfl) (ctX_cheapestWay G d _ _ _ _ _ he) ?_
  cases hm
  exact v_iret dX_hears_7 rfl
def mX_heard (p1 : Int32) (p2 : Int32) (h0 : PH) : Option (Int32 × PH) :=
  bd (mB_has 1 p1 h0) fun r1 =>
  if r1 = 0 then
    some ((-1), h0)
  else
    bd (mX_within p2 0 800 h0) fun r2 =>
    if r2 = 0 then
      some ((-1), h0)
    else
      bd (mT_spread 1 14 p1 1 h0) fun h3 =>
      bd (mT_countWithin (h3 1 1) p1 p2 h3) fun r4 =>
      some (r4, h3)
theorem ctX_heard (G : GG) (d : Nat) (p1 : Int32) (p2 : Int32) (h0 : PH) (r : Int32 × PH) (hm : mX_heard p1 p2 h0 = some r) : Kx G tX_heard (d + 3) [.ref (gB G + 0), .int p1, .int p2] h0 (some (.int r.1)) r.2 := by
  refine K_of_V (by decide) (by simp [cat_i, cat_r, fmtV_cat]) (by simp [tX_heard]) ?_
  change Vx G tX_heard (d + 3) 0 [some (.ref (gB G + 0)), some (.int p1), some (.int p2)] [] h0 (some (.int r.1)) r.2
  unfold mX_heard at hm
  refine v_ald_0 dX_heard_0 ?_
  refine v_getR dX_heard_1 fuX_25 sh_0 rf_0_0 ?_
  refine v_ild_1 dX_heard_4 ?_
  obtain ⟨r1, he, hm⟩ := bd_s hm
  refine v_cv1i (M' := tB_has) dX_heard_5 mlX_125 okB_has sh_1 hc_1 (Nat.le_of_ble_eq_true rfl) (ctB_has G (d + 2) _ _ sh_1 _ _ he) ?_
  refine v_if_eq dX_heard_8 (fun hc => ?_) (fun hc => ?_)
  · replace hm := it hc hm
    refine v_iconst (x := (-1)) dX_heard_22 rfl ?_
    cases hm
    exact v_iret dX_heard_23 rfl
  · replace hm := ie hc hm
    refine v_ild_2 dX_heard_11 ?_
    refine v_iconst (x := 0) dX_heard_12 rfl ?_
    refine v_sipush (x := 800) dX_heard_13 rfl ?_
    obtain ⟨r2, he, hm⟩ := bd_s hm
    refine v_cs3i (M' := tX_within) dX_heard_16 mlX_111 okX_within (Nat.le_of_ble_eq_true rfl) (ctX_within G (d + 2) _ _ _ _ _ he) ?_
    refine v_if_ne dX_heard_19 (fun hc => ?_) (fun hc => ?_)
    · replace hm := it hc hm
      refine v_iconst (x := (-1)) dX_heard_22 rfl ?_
      cases hm
      exact v_iret dX_heard_23 rfl
    · replace hm := ie hc hm
      refine v_ald_0 dX_heard_24 ?_
      refine v_getR dX_heard_25 fuX_82 sh_0 rf_0_10 ?_
      refine v_ald_0 dX_heard_28 ?_
      refine v_getR dX_heard_29 fuX_25 sh_0 rf_0_0 ?_
      refine v_ald_0 dX_heard_32 ?_
      refine v_getR dX_heard_33 fuX_34 sh_0 rf_0_3 ?_
      refine v_getR dX_heard_36 fuX_225 sh_5 rf_5_4 ?_
      refine v_ild_1 dX_heard_39 ?_
      refine v_iconst (x := 1) dX_heard_40 rfl ?_
      obtain ⟨h3, he, hm⟩ := bd_s hm
      refine v_cv4v (M' := tT_spread) dX_heard_41 mlX_228 okT_spread sh_95 hc_9 (Nat.le_of_ble_eq_true rfl) (ctT_spread G d _ _ _ _ sh_1 sh_14 _ _ he) ?_
      refine v_ald_0 dX_heard_44 ?_
      refine v_getR dX_heard_45 fuX_82 sh_0 rf_0_10 ?_
      refine v_ald_0 dX_heard_48 ?_
      refine v_getR dX_heard_49 fuX_25 sh_0 rf_0_0 ?_
      refine v_getI dX_heard_52 fuX_115 sh_1 rf_1_1 ?_
      refine v_ild_1 dX_heard_55 ?_
      refine v_ild_2 dX_heard_56 ?_
      obtain ⟨r4, he, hm⟩ := bd_s hm
      refine v_cv3i (M' := tT_countWithin) dX_heard_57 mlX_232 okT_countWithin sh_95 hc_9 (Nat.le_of_ble_eq_true rfl) (ctT_countWithin G (d + 2) _ _ _ _ _ he) ?_
      cases hm
      exact v_iret dX_heard_60 rfl
def mX_ants (p1 : Int32) (p2 : Int32) (h0 : PH) : Option (Int32 × PH) :=
  bd2 (mX_cheapestWay p1 p2 0 h0) fun r1 h2 =>
  some (r1, h2)
theorem ctX_ants (G : GG) (d : Nat) (p1 : Int32) (p2 : Int32) (h0 : PH) (r : Int32 × PH) (hm : mX_ants p1 p2 h0 = some r) : Kx G tX_ants (d + 4) [.ref (gB G + 0), .int p1, .int p2] h0 (some (.int r.1)) r.2 := by
  refine K_of_V (by decide) (by simp [cat_i, cat_r, fmtV_cat]) (by simp [tX_ants]) ?_
  change Vx G tX_ants (d + 4) 0 [some (.ref (gB G + 0)), some (.int p1), some (.int p2)] [] h0 (some (.int r.1)) r.2
  unfold mX_ants at hm
  refine v_ald_0 dX_ants_0 ?_
  refine v_ild_1 dX_ants_1 ?_
  refine v_ild_2 dX_ants_2 ?_
  refine v_iconst (x := 0) dX_ants_3 rfl ?_
  obtain ⟨r1, h2, he, hm⟩ := bd2_s hm
  refine v_cv3i (M' := tX_cheapestWay) dX_ants_4 mlX_221 okX_cheapestWay sh_0 hc_0 (Nat.le_of_ble_eq_true rfl) (ctX_cheapestWay G d _ _ _ _ _ he) ?_
  cases hm
  exact v_iret dX_ants_7 rfl
def mX_tell (a0 : Nat) (p1 : Int32) (p2 : Int32) (p3 : Int32) (p4 : Int32) (h0 : PH) : Option (Int32 × PH) :=
  if p1 = 0 then
    if p2 = 0 then
      some ((-1), h0)
    else
      bd2 (mR_add a0 p3 p4 0 0 0 h0) fun r1 h2 =>
      if r1 = 0 then
        some ((-1), h2)
      else
        some (h2 a0 3, h2)
  else
    lt (up h0 a0 3 0) fun h3 =>
    some (0, h3)
theorem ctX_tell (G : GG) (d : Nat) (a0 : Nat) (p1 : Int32) (p2 : Int32) (p3 : Int32) (p4 : Int32) (q0 : shL[a0]? = some (6, 4)) (h0 : PH) (r : Int32 × PH) (hm : mX_tell a0 p1 p2 p3 p4 h0 = some r) : Kx G tX_tell (d + 1) [.ref (gB G + a0), .int p1, .int p2, .int p3, .int p4] h0 (some (.int r.1)) r.2 := by
  refine K_of_V (by decide) (by simp [cat_i, cat_r, fmtV_cat]) (by simp [tX_tell]) ?_
  change Vx G tX_tell (d + 1) 0 [some (.ref (gB G + a0)), some (.int p1), some (.int p2), some (.int p3), some (.int p4)] [] h0 (some (.int r.1)) r.2
  unfold mX_tell at hm
  refine v_ild_1 dX_tell_0 ?_
  refine v_if_eq dX_tell_1 (fun hc => ?_) (fun hc => ?_)
  · replace hm := it hc hm
    refine v_ild_2 dX_tell_11 ?_
    refine v_if_eq dX_tell_12 (fun hc => ?_) (fun hc => ?_)
    · replace hm := it hc hm
      refine v_iconst (x := (-1)) dX_tell_28 rfl ?_
      cases hm
      exact v_iret dX_tell_29 rfl
    · replace hm := ie hc hm
      refine v_ald_0 dX_tell_15 ?_
      refine v_ild_3 dX_tell_16 ?_
      refine v_ild_4 dX_tell_17 ?_
      refine v_iconst (x := 0) dX_tell_19 rfl ?_
      refine v_iconst (x := 0) dX_tell_20 rfl ?_
      refine v_iconst (x := 0) dX_tell_21 rfl ?_
      obtain ⟨r1, h2, he, hm⟩ := bd2_s hm
      refine v_cv5i (M' := tR_add) dX_tell_22 mlX_357 okR_add q0 hc_6 (Nat.le_of_ble_eq_true rfl) (ctR_add G d _ _ _ _ _ _ q0 _ _ he) ?_
      refine v_if_ne dX_tell_25 (fun hc => ?_) (fun hc => ?_)
      · replace hm := it hc hm
        refine v_iconst (x := (-1)) dX_tell_28 rfl ?_
        cases hm
        exact v_iret dX_tell_29 rfl
      · replace hm := ie hc hm
        refine v_ald_0 dX_tell_30 ?_
        refine v_getI dX_tell_31 fuX_143 q0 (rf_rows_3 q0) ?_
        cases hm
        exact v_iret dX_tell_34 rfl
  · replace hm := ie hc hm
    refine v_ald_0 dX_tell_4 ?_
    refine v_iconst (x := 0) dX_tell_5 rfl ?_
    refine v_putIl dX_tell_6 fuX_143 ft_6_3 q0 (rf_rows_3 q0) hm (fun h3 hm => ?_)
    refine v_iconst (x := 0) dX_tell_9 rfl ?_
    cases hm
    exact v_iret dX_tell_10 rfl
def mX_piece (p1 : Int32) (h0 : PH) : Option (Int32 × PH) :=
  jn1 (fun (x2 : Int32) =>
    bd (mX_within p1 0 99 h0) fun r3 =>
    bd2 (mX_tell 18 x2 r3 p1 0 h0) fun r4 h5 =>
    some (r4, h5)) fun j1 =>
  if p1 = (-1) then
    j1 1
  else
    j1 0
theorem ctX_piece (G : GG) (d : Nat) (p1 : Int32) (h0 : PH) (r : Int32 × PH) (hm : mX_piece p1 h0 = some r) : Kx G tX_piece (d + 2) [.ref (gB G + 0), .int p1] h0 (some (.int r.1)) r.2 := by
  refine K_of_V (by decide) (by simp [cat_i, cat_r, fmtV_cat]) (by simp [tX_piece]) ?_
  change Vx G tX_piece (d + 2) 0 [some (.ref (gB G + 0)), some (.int p1)] [] h0 (some (.int r.1)) r.2
  unfold mX_piece at hm
  refine v_ald_0 dX_piece_0 ?_
  refine v_getR dX_piece_1 fuX_34 sh_0 rf_0_3 ?_
  refine v_getR dX_piece_4 fuX_235 sh_5 rf_5_6 ?_
  refine v_ild_1 dX_piece_7 ?_
  refine v_iconst (x := (-1)) dX_piece_8 rfl ?_
  refine v_j1 (fun (x2 : Int32) => Vx G tX_piece (d + 2) 17 [none, some (.int p1)] [.int x2, .ref (gB G + 18)] h0 (some (.int r.1)) r.2) hm (fun x2 hm => ?_) (fun j1 kj1 hm => ?_)
  · refine v_ild_1 dX_piece_17 ?_
    refine v_iconst (x := 0) dX_piece_18 rfl ?_
    refine v_bipush (x := 99) dX_piece_19 rfl ?_
    obtain ⟨r3, he, hm⟩ := bd_s hm
    refine v_cs3i (M' := tX_within) dX_piece_21 mlX_111 okX_within (Nat.le_of_ble_eq_true rfl) (ctX_within G (d + 1) _ _ _ _ _ he) ?_
    refine v_ild_1 dX_piece_24 ?_
    refine v_iconst (x := 0) dX_piece_25 rfl ?_
    obtain ⟨r4, h5, he, hm⟩ := bd2_s hm
    refine v_cs5i (M' := tX_tell) dX_piece_26 mlX_238 okX_tell (Nat.le_of_ble_eq_true rfl) (ctX_tell G d _ _ _ _ _ sh_18 _ _ he) ?_
    cases hm
    exact v_iret dX_piece_29 rfl
  · refine v_cmp_ne dX_piece_9 (fun hc => ?_) (fun hc => ?_)
    · replace hm := it hc hm
      refine v_iconst (x := 1) dX_piece_12 rfl ?_
      refine v_goto dX_piece_13 ?_
      exact v_kw (kj1 _ hm) (wk_n (wk_s wk_e))
    · replace hm := ie hc hm
      refine v_iconst (x := 0) dX_piece_16 rfl ?_
      exact v_kw (kj1 _ hm) (wk_n (wk_s wk_e))
def mX_plate (p1 : Int32) (p2 : Int32) (h0 : PH) : Option (Int32) :=
  bd (mX_within p1 1 (h0 18 3) h0) fun r1 =>
  if r1 = 0 then
    some (-1)
  else
    bd (mX_within p2 0 1 h0) fun r2 =>
    if r2 = 0 then
      some (-1)
    else
      if p2 = 0 then
        bd (mK_leastShare 30 18 0 p1 h0) fun r3 =>
        some r3
      else
        bd (mK_secondShare 18 p1 h0) fun r4 =>
        some r4
theorem ctX_plate (G : GG) (d : Nat) (p1 : Int32) (p2 : Int32) (h0 : PH) (r : Int32) (hm : mX_plate p1 p2 h0 = some r) : Kx G tX_plate (d + 32) [.ref (gB G + 0), .int p1, .int p2] h0 (some (.int r)) h0 := by
  refine K_of_V (by decide) (by simp [cat_i, cat_r, fmtV_cat]) (by simp [tX_plate]) ?_
  change Vx G tX_plate (d + 32) 0 [some (.ref (gB G + 0)), some (.int p1), some (.int p2)] [] h0 (some (.int r)) h0
  unfold mX_plate at hm
  refine v_ild_1 dX_plate_0 ?_
  refine v_iconst (x := 1) dX_plate_1 rfl ?_
  refine v_ald_0 dX_plate_2 ?_
  refine v_getR dX_plate_3 fuX_34 sh_0 rf_0_3 ?_
  refine v_getR dX_plate_6 fuX_235 sh_5 rf_5_6 ?_
  refine v_getI dX_plate_9 fuX_143 sh_18 rf_18_3 ?_
  obtain ⟨r1, he, hm⟩ := bd_s hm
  refine v_cs3i (M' := tX_within) dX_plate_12 mlX_111 okX_within (Nat.le_of_ble_eq_true rfl) (ctX_within G (d + 31) _ _ _ _ _ he) ?_
  refine v_if_eq dX_plate_15 (fun hc => ?_) (fun hc => ?_)
  · replace hm := it hc hm
    refine v_iconst (x := (-1)) dX_plate_27 rfl ?_
    cases hm
    exact v_iret dX_plate_28 rfl
  · replace hm := ie hc hm
    refine v_ild_2 dX_plate_18 ?_
    refine v_iconst (x := 0) dX_plate_19 rfl ?_
    refine v_iconst (x := 1) dX_plate_20 rfl ?_
    obtain ⟨r2, he, hm⟩ := bd_s hm
    refine v_cs3i (M' := tX_within) dX_plate_21 mlX_111 okX_within (Nat.le_of_ble_eq_true rfl) (ctX_within G (d + 31) _ _ _ _ _ he) ?_
    refine v_if_ne dX_plate_24 (fun hc => ?_) (fun hc => ?_)
    · replace hm := it hc hm
      refine v_iconst (x := (-1)) dX_plate_27 rfl ?_
      cases hm
      exact v_iret dX_plate_28 rfl
    · replace hm := ie hc hm
      refine v_ild_2 dX_plate_29 ?_
      refine v_if_ne dX_plate_30 (fun hc => ?_) (fun hc => ?_)
      · replace hm := it hc hm
        refine v_ald_0 dX_plate_33 ?_
        refine v_getR dX_plate_34 fuX_34 sh_0 rf_0_3 ?_
        refine v_getR dX_plate_37 fuX_235 sh_5 rf_5_6 ?_
        refine v_iconst (x := 0) dX_plate_40 rfl ?_
        refine v_ild_1 dX_plate_41 ?_
        obtain ⟨r3, he, hm⟩ := bd_s hm
        refine v_cn3i (M' := tK_leastShare) dX_plate_42 mlX_242 okK_leastShare (Nat.le_of_ble_eq_true rfl) (ctK_leastShare G 30 (d + 1) _ _ _ sh_18 _ _ he) ?_
        refine v_goto dX_plate_45 ?_
        cases hm
        exact v_iret dX_plate_59 rfl
      · replace hm := ie hc hm
        refine v_ald_0 dX_plate_48 ?_
        refine v_getR dX_plate_49 fuX_34 sh_0 rf_0_3 ?_
        refine v_getR dX_plate_52 fuX_235 sh_5 rf_5_6 ?_
        refine v_ild_1 dX_plate_55 ?_
        obtain ⟨r4, he, hm⟩ := bd_s hm
        refine v_cs2i (M' := tK_secondShare) dX_plate_56 mlX_246 okK_secondShare (Nat.le_of_ble_eq_true rfl) (ctK_secondShare G d _ _ sh_18 _ _ he) ?_
        cases hm
        exact v_iret dX_plate_59 rfl
